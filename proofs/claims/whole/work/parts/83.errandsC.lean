/-! errands() in the class, whole -/
section ZERRD
variable {W : ZWd} {f : Nat} {fr : Nat → Nat} {C C0 : ZC} {s : ZWk} {h : Nat} {E B : Int} {A : ZA}
theorem bs_not {g : Nat → Bool} : ∀ n, bs (fun _ => 1) g n + bs (fun _ => 1) (fun i => !g i) n = n
  | 0 => rfl
  | n + 1 => by
    have ih := bs_not (g := g) n
    unfold bs
    cases g n <;> simp <;> omega
theorem bs_le' {g : Nat → Nat} {X : Nat → Bool} {i : Nat} : ∀ {n : Nat}, i ≤ n → bs g X i ≤ bs g X n
  | 0, h => by have : i = 0 := by omega
               subst this; exact Nat.le_refl _
  | n + 1, h => by
    by_cases e : i = n + 1
    · subst e; exact Nat.le_refl _
    · have := bs_le' (g := g) (X := X) (i := i) (n := n) (by omega)
      show _ ≤ bs g X n + _
      omega
theorem ones_gone (hk : kOK W s) (hW : wOK W) : ones (kG s) = bs (fun _ => 1) (zbit (kG s)) (wN W) := by
  have hW1 := hW.1
  have key : ∀ d, bs (fun _ => 1) (zbit (kG s)) (wN W + d) = bs (fun _ => 1) (zbit (kG s)) (wN W) := by
    intro d
    induction d with
    | zero => rfl
    | succ d ih =>
      show bs (fun _ => 1) (zbit (kG s)) (wN W + d) + (if zbit (kG s) (wN W + d) = true then 1 else 0) = _
      rw [ih, if_neg (fun z => by have := hk.2.2.2.2.2 _ z; omega)]
      rfl
  have := key (12 - wN W)
  rw [show wN W + (12 - wN W) = 12 by omega] at this
  exact this
theorem gone_rng (hk : kOK W s) (hW : wOK W) : 0 ≤ kG s ∧ kG s < 4096 := by
  have hW1 := hW.1
  exact rng12 hk.2.2.2.2.1 fun k _ hz => by have := hk.2.2.2.2.2 k hz; omega
theorem h_frees (hW : wOK W) (hR : RWd W C) (hk : kOK W s) (h7 : C 23 7 = kG s) (h6 : C 18 6 = 0) (hn : bs (fun _ => 1) (fun i => !zbit (kG s) i) (wN W) ≤ 6) : zH (zloop c_Round_begin_L36 0 C) (fun _ C' => (∃ fr, FR W (bs (fun _ => 1) (fun i => !zbit (kG s) i) (wN W)) fr s ∧ C' 18 6 = ((bs (fun _ => 1) (fun i => !zbit (kG s) i) (wN W) : Nat) : Int) ∧ ∀ i, i < bs (fun _ => 1) (fun i => !zbit (kG s) i) (wN W) → C' 19 i = (fr i : Int)) ∧ (∀ a, a ≠ 18 → a ≠ 19 → C' a = C a) ∧ ∀ j, j ≠ 6 → C' 18 j = C 18 j) := by
  have hW1 := hW.1
  refine zH_for (fun i x C' => x = (i : Int) ∧ (∃ fr : Nat → Nat, C' 18 6 = ((bs (fun _ => 1) (fun i => !zbit (kG s) i) i : Nat) : Int) ∧ (∀ j, j < bs (fun _ => 1) (fun i => !zbit (kG s) i) i → C' 19 j = (fr j : Int) ∧ fr j < i) ∧ (∀ j j', j < bs (fun _ => 1) (fun i => !zbit (kG s) i) i → j' < bs (fun _ => 1) (fun i => !zbit (kG s) i) i → fr j = fr j' → j = j') ∧
      ∀ w, w < i → zbit (kG s) w = false → ∃ j, j < bs (fun _ => 1) (fun i => !zbit (kG s) i) i ∧ fr j = w) ∧ (∀ a, a ≠ 18 → a ≠ 19 → C' a = C a) ∧ ∀ j, j ≠ 6 → C' 18 j = C 18 j) (wN W) 0 (Nat.zero_le _) ⟨rfl, ⟨fun _ => 0, h6, fun j hj => absurd hj (Nat.not_lt_zero _), fun j _ hj => absurd hj (Nat.not_lt_zero _), fun w hw => absurd hw (Nat.not_lt_zero _)⟩, fun _ _ _ => rfl, fun _ _ => rfl⟩ ?_ ?_
  · rintro i x C1 hi ⟨rfl, ⟨fr, i1, i2, i3, i4⟩, i5, i6⟩
    have hle := bs_le' (g := fun _ => 1) (X := fun i => !zbit (kG s) i) (i := i + 1) (n := wN W) (by omega)
    have e : bs (fun _ => 1) (fun i => !zbit (kG s) i) (i + 1) = bs (fun _ => 1) (fun i => !zbit (kG s) i) i + (if (!zbit (kG s) i) = true then 1 else 0) := rfl
    have hR1 : C1 9 3 = (wN W : Int) := by rw [i5 9 (by decide) (by decide)]; exact hR.1
    have h71 : C1 23 7 = kG s := by rw [i5 23 (by decide) (by decide)]; exact h7
    have zi : zadd (i : Int) 1 = ((i + 1 : Nat) : Int) := zinN (by omega)
    unfold c_Round_begin_L36
    rw [hR1, if_neg (by omega), h71, e_has (by omega), zbd_some]
    by_cases hg : zbit (kG s) i = true
    · rw [hg] at e
      have e' : bs (fun _ => 1) (fun i => !zbit (kG s) i) (i + 1) = bs (fun _ => 1) (fun i => !zbit (kG s) i) i := e
      rw [if_pos hg, if_pos (by decide), zi]
      refine zH_some ⟨rfl, ⟨fr, ?_, ?_, ?_, ?_⟩, i5, i6⟩
      · rw [e']; exact i1
      · rw [e']; exact fun j hj => ⟨(i2 j hj).1, by have := (i2 j hj).2; omega⟩
      · rw [e']; exact i3
      · rw [e']
        intro w hw hz
        by_cases ew : w = i
        · rw [ew, hg] at hz; cases hz
        · exact i4 w (by omega) hz
    · have hgf : zbit (kG s) i = false := Bool.eq_false_iff.mpr hg
      rw [hgf] at e
      have e' : bs (fun _ => 1) (fun i => !zbit (kG s) i) (i + 1) = bs (fun _ => 1) (fun i => !zbit (kG s) i) i + 1 := e
      rw [if_neg hg, if_neg (by decide), i1, if_neg (by omega), zg_t (by omega), Int.toNat_natCast, zu_ne (by decide), i1, zi, zinN (by omega)]
      refine zH_some ⟨rfl, ⟨zup fr (bs (fun _ => 1) (fun i => !zbit (kG s) i) i) i, ?_, ?_, ?_, ?_⟩, fun a a1 a2 => by rw [zu_nb a1, zu_nb a2]; exact i5 a a1 a2, fun j hj => by rw [zu_nj hj, zu_nb (by decide)]; exact i6 j hj⟩
      · rw [zu_eq, e']
      · rw [e']
        intro j hj
        rw [zu_ne (by decide)]
        by_cases ej : j = bs (fun _ => 1) (fun i => !zbit (kG s) i) i
        · rw [ej, zu_eq, zp_eq]; exact ⟨rfl, Nat.lt_succ_self i⟩
        · rw [zu_nj ej, zp_ne ej]
          have := i2 j (by omega)
          exact ⟨this.1, by omega⟩
      · rw [e']
        intro j j' hj hj' hjj
        by_cases ej : j = bs (fun _ => 1) (fun i => !zbit (kG s) i) i
        · by_cases ej' : j' = bs (fun _ => 1) (fun i => !zbit (kG s) i) i
          · omega
          · rw [ej, zp_eq, zp_ne ej'] at hjj
            have := (i2 j' (by omega)).2
            omega
        · by_cases ej' : j' = bs (fun _ => 1) (fun i => !zbit (kG s) i) i
          · rw [ej', zp_eq, zp_ne ej] at hjj
            have := (i2 j (by omega)).2
            omega
          · rw [zp_ne ej, zp_ne ej'] at hjj
            exact i3 j j' (by omega) (by omega) hjj
      · rw [e']
        intro w hw hz
        by_cases ew : w = i
        · exact ⟨_, Nat.lt_succ_self _, by rw [zp_eq, ew]⟩
        · obtain ⟨j, j1, j2⟩ := i4 w (by omega) hz
          exact ⟨j, by omega, by rw [zp_ne (by omega)]; exact j2⟩
  · rintro x C1 ⟨rfl, ⟨fr, i1, i2, i3, i4⟩, i5, i6⟩
    have hR1 : C1 9 3 = (wN W : Int) := by rw [i5 9 (by decide) (by decide)]; exact hR.1
    unfold c_Round_begin_L36
    rw [hR1, if_pos (by omega)]
    exact zH_some ⟨⟨fr, ⟨hn, fun j hj => (i2 j hj).2, fun j j' hj hj' => i3 j j' hj hj', i4⟩, i1, fun j hj => (i2 j hj).1⟩, i5, i6⟩
/-- what begin() leaves: the round's cells, the cost of the best row -/
theorem h_roundBegin (hW : wOK W) (hR : RWd W C) (hk : kOK W s) {c1 : Nat} (hc1 : 26 < c1) (hS : RWk W s c1 C) (hh : h < 8) (h4 : C c1 4 = (h : Int)) (hE : ∀ q, q < 32 → zbit E q = true → q < 8) (hn : bs (fun _ => 1) (fun i => !zbit (kG s) i) (wN W) ≤ 6) :
    zH (c_Round_begin c1 E C) (fun _ C' => (∃ f fr, FR W f fr s ∧ RS W f fr h E (zshl 1 (kP s : Int)) C' ∧ LQ 1048577 (CT W f fr h E s (zshl 1 (kP s : Int))) (C' 18 8)) ∧ RWk W s 23 C' ∧ ∀ a, a < 18 ∨ 25 < a → C' a = C a) := by
  have hp8 := hk.1
  unfold c_Round_begin
  have hS0 : RWk W s c1 (zup2 C 18 7 E) := RWk_fr (fun a ha => zu_nb (by omega)) hS
  obtain ⟨C2, b1, b2, b3, b4⟩ := h_become (c := 23) hW hk (c1 := c1) (by omega) hS0
  rw [b1, zbd_some, b2.1]
  have hR3 : RWd W (zup2 (zup2 C2 23 9 (zshl 1 (kP s : Int))) 18 6 0) := by
    unfold RWd
    rw [zu_nb (by decide), zu_nb (by decide), zu_nb (by decide), zu_nb (by decide), zu_nb (by decide), zu_nb (by decide), zu_nb (by decide), zu_nb (by decide), b3 9 (by decide) (by decide) (by decide), b3 10 (by decide) (by decide) (by decide), b3 11 (by decide) (by decide) (by decide), b3 12 (by decide) (by decide) (by decide), zu_nb (by decide), zu_nb (by decide), zu_nb (by decide), zu_nb (by decide)]
    exact hR
  have h73 : zup2 (zup2 C2 23 9 (zshl 1 (kP s : Int))) 18 6 0 23 7 = kG s := by rw [zu_ne (by decide), zu_nj (by decide)]; exact b2.2.2.1
  refine zH_bd2 (h_frees hW hR3 hk h73 zu_eq hn) (fun _ C3 h3 => ?_)
  obtain ⟨⟨fr, f1, f2, f3⟩, f4, f5⟩ := h3
  have hR4 : RWd W C3 := by
    unfold RWd
    rw [f4 9 (by decide) (by decide), f4 10 (by decide) (by decide), f4 11 (by decide) (by decide), f4 12 (by decide) (by decide)]
    exact hR3
  refine zH_bd2 (h_tellSets hW hR4 f1.1 f1.2.1 f2 f3) (fun _ C4 h4' => ?_)
  obtain ⟨t1, t2⟩ := h4'
  have c23 : C4 23 = zup (C2 23) 9 (zshl 1 (kP s : Int)) := by
    rw [t2 23 (by decide) (by decide) (by decide), f4 23 (by decide) (by decide), zu_nb (by decide), zu_row]
  have c24 : C4 24 = C2 24 := by rw [t2 24 (by decide) (by decide) (by decide), f4 24 (by decide) (by decide), zu_nb (by decide), zu_nb (by decide)]
  have c25 : C4 25 = C2 25 := by rw [t2 25 (by decide) (by decide) (by decide), f4 25 (by decide) (by decide), zu_nb (by decide), zu_nb (by decide)]
  have hS4 : RWk W s 23 C4 := by
    obtain ⟨q1, q2, q3, q4, q5⟩ := b2
    refine ⟨?_, ?_, ?_, ?_, ?_⟩
    · rw [c23, zp_ne (by decide)]; exact q1
    · rw [c23, zp_ne (by decide)]; exact q2
    · rw [c23, zp_ne (by decide)]; exact q3
    · rw [c24]; exact q4
    · rw [c25]; exact q5
  have hRS : RS W (bs (fun _ => 1) (fun i => !zbit (kG s) i) (wN W)) fr h E (zshl 1 (kP s : Int)) C4 := by
    refine ⟨t1, ?_, ?_, ?_, ?_⟩
    · unfold RWd
      rw [t2 9 (by decide) (by decide) (by decide), t2 10 (by decide) (by decide) (by decide), t2 11 (by decide) (by decide) (by decide), t2 12 (by decide) (by decide) (by decide)]
      exact hR4
    · rw [c23, zp_ne (by decide), b4, zu_ne (by omega)]; exact h4
    · rw [t2 18 (by decide) (by decide) (by decide), f5 7 (by decide), zu_nj (by decide), zu_ne (by decide), b3 18 (by decide) (by decide) (by decide), zu_eq]
    · rw [c23, zp_eq]
  have hl : (1048576 : Int) = ((1048576 : Nat) : Int) := rfl
  rw [hl]
  refine zH_bd2 (h_least hW hRS hh hE hk f1 hS4 (lim := 1048576) (Nat.le_refl _)) (fun v C5 h5 => ?_)
  obtain ⟨hv, rfl⟩ := h5
  refine zH_some ⟨⟨_, fr, f1, ?_, ?_⟩, ?_, fun a ha => ?_⟩
  · obtain ⟨⟨u1, u2, u3, u4, u5⟩, r2, r3, r4, r5⟩ := hRS
    refine ⟨⟨u1, u2, (zu_nj (by decide)).trans u3, ?_, fun x hx => en_fr ?_ ?_ ?_ (u5 x hx)⟩, ?_, ?_, (zu_nj (by decide)).trans r4, ?_⟩
    · rw [zu_nb (by decide)]; exact u4
    · rw [zu_nb (by decide)]
    · rw [zu_nb (by decide)]
    · rw [zu_nb (by decide)]
    · unfold RWd
      rw [zu_nb (by decide), zu_nb (by decide), zu_nb (by decide), zu_nb (by decide)]
      exact r2
    · rw [zu_nb (by decide)]; exact r3
    · rw [zu_nb (by decide)]; exact r5
  · rw [zu_eq]; exact hv
  · exact RWk_fr (fun a ha => zu_nb (by omega)) hS4
  · rw [zu_nb (by omega), t2 a (by omega) (by omega) (by omega), f4 a (by omega) (by omega), zu_nb (by omega), zu_nb (by omega), b3 a (by omega) (by omega) (by omega), zu_nb (by omega)]
theorem E_bits {p : Int} (h0 : 0 ≤ p) (h1 : p < 256) : ∀ q, q < 32 → zbit p q = true → q < 8 := by
  intro q hq hz
  obtain ⟨n, rfl⟩ : ∃ n : Nat, p = (n : Int) := ⟨p.toNat, by omega⟩
  rw [zbit_nat hq] at hz
  by_cases e : q < 8
  · exact e
  · have : n.testBit q = false := tb_hi (x := n) (f := 8) (by omega) (by omega)
    rw [this] at hz; cases hz
theorem c_errands (hA : aOK A) (h : RC A C) {k p i : Int} : zH (c_N_errands k p i C) (QC C (s_errands A k p i) A) := by
  have hW := aW_OK (A := A)
  unfold c_N_errands s_errands
  rw [e_within, zbd_some]
  by_cases h1 : 0 ≤ k ∧ k < 4
  · rw [if_pos h1, if_neg (by decide), e_within, zbd_some]
    by_cases h2 : 0 ≤ p ∧ p < 256
    · rw [if_pos h2, if_neg (by decide)]
      by_cases h3 : -1 ≤ i
      · obtain ⟨j, rfl⟩ : ∃ j : Nat, k = (j : Int) := ⟨k.toNat, by omega⟩
        have hj : j < 4 := by omega
        have hk := aK_OK hA hj
        have hRk := h.2.2 j hj
        have hgr := gone_rng hk hW
        have hol := ones_le (kG (aK A j))
        have hog := ones_gone hk hW
        have hbn := bs_not (g := zbit (kG (aK A j))) (wN (aW A))
        have hW1 := hW.1
        have e7 : C (56 + 4 * j) 7 = kG (aK A j) := hRk.1.1.1.2.2.1
        rw [if_pos h3, zg_t h1, Int.toNat_natCast, e7, e_bitCount hgr.1 hgr.2, zbd_some, h.2.1.2.1, zsub_e (by omega) (by omega), if_pos (show ((0 ≤ (j : Int) ∧ (j : Int) < 4) ∧ 0 ≤ p ∧ p < 256) ∧ -1 ≤ i from ⟨⟨h1, h2⟩, h3⟩)]
        by_cases h6 : wN (aW A) ≤ 6 + ones (kG (aK A j))
        · rw [if_pos (by omega), if_pos h6]
          have hE := E_bits h2.1 h2.2
          have hh := hA.2.1 j hj
          refine zH_bd2 (h_roundBegin hW h.2.1.2 hk (c1 := 56 + 4 * j) (by omega) hRk.1.1.1 hh hRk.2 hE (by omega)) (fun _ C1 h4 => ?_)
          obtain ⟨⟨f, fr, hF, hRS, hv⟩, hS1, hfr⟩ := h4
          have fin : ∀ C', (∀ a, a < 18 ∨ 25 < a → C' a = C a) → RC A C' ∧ Frc C C' := fun C' hf => ⟨RC_fr (fun a ha h0 h72 => hf a (by unfold scr at ha; omega)) h, fun a ha => hf a (by omega)⟩
          have hp8 := hk.1
          have hB : zbit (zshl 1 (kP (aK A j) : Int)) (kP (aK A j)) = true := by rw [zbit_sh1 _ (by omega) _ (by omega)]; exact decide_eq_true rfl
          obtain ⟨n, en, n1, n2, n3⟩ := LQ_row hW hh hE hk hF hB hv
          by_cases hex : ∃ ws, gdR (aW A) (aH A j) p ws (aK A j) (zshl 1 (kP (aK A j) : Int))
          · obtain ⟨ws, hb⟩ := best_ex hW (mu (aW A) (aK A j)) (aK A j) _ rfl hk hex
            have hmu := mu_le hk
            have hlen := gdR_len hW ws _ _ hk hb.1
            have hcl := cw_le hW ws (gdR_mem hW ws _ _ hb.1)
            have hn : n = cw (aW A) ws := by
              have h5 := n3 ws hb.1
              obtain ⟨ws', g1, g2⟩ := n2 (by omega)
              have h6 := hb.2 ws' g1
              rcases h6 with h6 | h6 <;> omega
            have h64 := cw_len (W := aW A) (ws := ws) (by omega)
            rw [errV_e hb]
            rw [hn] at en
            by_cases ei : i = -1
            · rw [if_neg (fun z => z ei)]
              unfold c_Round_minutes
              rw [en, if_pos (by omega), zbd_some, zdiv64 (by omega)]
              unfold er
              dsimp only
              rw [if_pos ei]
              exact zH_some ⟨rfl, fin C1 hfr⟩
            · rw [if_pos ei]
              unfold c_Round_wayAt er
              dsimp only
              rw [en, if_neg (by omega), zrem64 (by omega), h64.1, if_neg ei]
              by_cases hi : i < (ws.length : Int)
              · obtain ⟨i', rfl⟩ : ∃ i' : Nat, i = (i' : Int) := ⟨i.toNat, by omega⟩
                rw [if_pos hi, if_pos hi]
                obtain ⟨o, C2, e1, ⟨v, e2, e3⟩, e4⟩ := h_wayLoop hW hh hE (i := i') (by omega) (i' + 1) 0 (by omega) (aK A j) _ C1 ws (-1) hRS hk hF hS1 hB hb (by omega) (by omega)
                have e1 : zloop (c_Round_wayAt_L32 (i' : Int)) ((cw (aW A) ws : Int), -1, 0) C1 = some (o, C2) := e1
                rw [e1, e2, zbs_inl, zbd_some]
                rw [if_neg (Nat.succ_ne_zero i')] at e3
                refine zH_some ⟨?_, fin C2 (fun a ha => (e4 a (by omega) (by omega) (by omega)).trans (hfr a ha))⟩
                rw [e3, Int.toNat_natCast]
                rfl
              · rw [if_neg hi, if_neg hi, zbd_some]
                exact zH_some ⟨rfl, fin C1 hfr⟩
          · have hbn' : isB (aW A) (aH A j) p (aK A j) (zshl 1 (kP (aK A j) : Int)) none := fun ws hg => hex ⟨ws, hg⟩
            have hn : ¬ n ≤ 1048576 := fun z => by obtain ⟨ws, g1, _⟩ := n2 z; exact hex ⟨ws, g1⟩
            rw [errV_e hbn']
            by_cases ei : i = -1
            · rw [if_neg (fun z => z ei)]
              unfold c_Round_minutes
              rw [en, if_neg (by omega), zbd_some]
              exact zH_some ⟨rfl, fin C1 hfr⟩
            · rw [if_pos ei]
              unfold c_Round_wayAt
              rw [en, if_pos (by omega), zbd_some]
              exact zH_some ⟨rfl, fin C1 hfr⟩
        · rw [if_neg (by omega), if_neg h6]
          exact zH_some (QC_same h)
      · rw [if_neg h3, if_neg (fun z => h3 z.2)]
        exact zH_some (QC_same h)
    · rw [if_neg h2, if_pos rfl, if_neg (fun z => h2 z.1.2)]
      exact zH_some (QC_same h)
  · rw [if_neg h1, if_pos rfl, if_neg (fun z => h1 z.1.1)]
    exact zH_some (QC_same h)
end ZERRD

/-! errands() in the class -/
noncomputable def errV (W : ZWd) (h : Nat) (E : Int) (s : ZWk) : Option (List Nat) := by
  classical exact if q : ∃ r, isB W h E s (zshl 1 (kP s : Int)) r then Classical.choose q else none
noncomputable def s_errands (A : ZA) (k p i : Int) : Int := if ((0 ≤ k ∧ k < 4) ∧ 0 ≤ p ∧ p < 256) ∧ -1 ≤ i then (if wN (aW A) ≤ 6 + ones (kG (aK A k.toNat)) then er (aW A) (errV (aW A) (aH A k.toNat) p (aK A k.toNat)) i else -4) else -2
section ZERRC
variable {W : ZWd} {f : Nat} {fr : Nat → Nat} {C C0 : ZC} {s : ZWk} {h : Nat} {E B : Int} {A : ZA}
theorem errV_e {r : Option (List Nat)} (hr : isB W h E s (zshl 1 (kP s : Int)) r) : errV W h E s = r := by
  have q : ∃ r, isB W h E s (zshl 1 (kP s : Int)) r := ⟨r, hr⟩
  unfold errV
  rw [dif_pos q]
  exact isB_one (Classical.choose_spec q) hr
/-- what is written in a search: the walk of the round alone -/
def R23 (C C' : ZC) : Prop := ∀ a, a ≠ 23 → a ≠ 24 → a ≠ 25 → C' a = C a
theorem RS_fr {C' : ZC} {B' : Int} (h1 : R23 C C') (h4 : C' 23 4 = C 23 4) (h9 : C' 23 9 = B') (hR : RS W f fr h E B C) : RS W f fr h E B' C' := by
  obtain ⟨⟨t1, t2, t3, t4, t5⟩, r2, r3, r4, r5⟩ := hR
  refine ⟨⟨t1, t2, ?_, ?_, fun x hx => en_fr ?_ ?_ ?_ (t5 x hx)⟩, ?_, ?_, ?_, h9⟩
  · rw [h1 18 (by decide) (by decide) (by decide)]; exact t3
  · rw [h1 19 (by decide) (by decide) (by decide)]; exact t4
  · rw [h1 20 (by decide) (by decide) (by decide)]
  · rw [h1 21 (by decide) (by decide) (by decide)]
  · rw [h1 22 (by decide) (by decide) (by decide)]
  · unfold RWd
    rw [h1 9 (by decide) (by decide) (by decide), h1 10 (by decide) (by decide) (by decide), h1 11 (by decide) (by decide) (by decide), h1 12 (by decide) (by decide) (by decide)]
    exact r2
  · rw [h4]; exact r3
  · rw [h1 18 (by decide) (by decide) (by decide)]; exact r4
theorem R23_tr {C1 C2 C3 : ZC} (h1 : R23 C1 C2) (h2 : R23 C2 C3) : R23 C1 C3 := fun a x y z => (h2 a x y z).trans (h1 a x y z)
theorem R23_k {C' : ZC} (h : kfr 23 C C') : R23 C C' := fun a x y z => h.1 a x y z
/-- a cost that its parts make, within a limit: some steps that cost no more -/
theorem LQ_row (hW : wOK W) (hh : h < 8) (hE : ∀ q, q < 32 → zbit E q = true → q < 8) (hk : kOK W s) (hF : FR W f fr s) (hB : zbit B (kP s) = true) {lim : Nat} {v : Int} (hv : LQ (lim + 1) (CT W f fr h E s B) v) :
    ∃ n : Nat, v = (n : Int) ∧ n ≤ lim + 1 ∧ (n ≤ lim → ∃ ws, gdR W h E ws s B ∧ cw W ws ≤ n) ∧ ∀ ws, gdR W h E ws s B → n ≤ cw W ws := by
  obtain ⟨n, e, a1, a2, a3⟩ := hv
  refine ⟨n, e, a1, fun hn => ?_, fun ws hg => ?_⟩
  · obtain ⟨os1, os2, R, X, c1, c2⟩ := a2 (by omega)
    obtain ⟨ws, g1, g2⟩ := ct_row hW hh hE (mu W s) s rfl hk hF B hB os1 os2 R X c1
    exact ⟨ws, g1, by omega⟩
  · obtain ⟨c, c1, c2⟩ := row_ct hW hh ws s hk hF B hg
    have := a3 c c1
    omega
theorem wc_le (hW : wOK W) {w : Nat} (hw : w < wN W) : wc W w ≤ 577 := by
  have hm := hW.2 w hw
  unfold wc; omega
/-- the least letter behind which the rest costs what is left -/
theorem h_goLeast (hW : wOK W) (hRS : RS W f fr h E B C) (hh : h < 8) (hE : ∀ q, q < 32 → zbit E q = true → q < 8) (hk : kOK W s) (hF : FR W f fr s) (hS : RWk W s 23 C) (hB : zbit B (kP s) = true) {w0 : Nat} {ws0 : List Nat} (hb : isB W h E s B (some (w0 :: ws0))) (hl : cw W (w0 :: ws0) ≤ 1048576) :
    zH (c_Round_goLeastStep (cw W (w0 :: ws0) : Int) C) (fun v C' => v = (w0 : Int) ∧ RWk W (kT W s w0) 23 C' ∧ RS W f fr h E (zor B (zshl 1 (kP (kT W s w0) : Int))) C' ∧ R23 C C') := by
  have hW1 := hW.1
  have hw0 := kK_lt hb.1.1
  have hcw : cw W (w0 :: ws0) = wc W w0 + cw W ws0 := rfl
  unfold c_Round_goLeastStep
  refine zH_bs (P := fun o C' => ∃ v, o = .inr v ∧ v = (w0 : Int) ∧ RWk W (kT W s w0) 23 C' ∧ RS W f fr h E (zor B (zshl 1 (kP (kT W s w0) : Int))) C' ∧ R23 C C') ?_ (fun a C' hx => ?_) (fun b C' hx => ?_)
  · refine zH_for (fun i x C' => x = (i : Int) ∧ RWk W s 23 C' ∧ RS W f fr h E B C' ∧ R23 C C') w0 0 (Nat.zero_le _) ⟨rfl, hS, hRS, fun _ _ _ _ => rfl⟩ ?_ ?_
    · rintro i x C1 hi ⟨rfl, i1, i2, i3⟩
      have hin : i < wN W := by omega
      have zi : zadd (i : Int) 1 = ((i + 1 : Nat) : Int) := zinN (by omega)
      have e0 : kKi W s (i : Int) = kK W s i := by unfold kKi; rw [if_pos (by omega), Int.toNat_natCast]
      have hm := hW.2 i hin
      have hwc := wc_le hW hin
      unfold c_Round_goLeastStep_L2
      rw [i2.2.1.1, if_neg (by omega), e_kindOf hW i2.2.1 hk i1, zbd_some, e_costOf hW i2.2.1 hin, zbd_some, e0]
      by_cases hkk : kK W s i = 0
      · rw [if_pos (by omega), zi]
        exact zH_some ⟨rfl, i1, i2, i3⟩
      · rw [if_neg (by omega), zsub_e (by omega) (by omega)]
        by_cases hr : (cw W (w0 :: ws0) : Int) - (wc W i : Int) < 0
        · rw [if_pos hr, zi]
          exact zH_some ⟨rfl, i1, i2, i3⟩
        · have er : (cw W (w0 :: ws0) : Int) - (wc W i : Int) = ((cw W (w0 :: ws0) - wc W i : Nat) : Int) := by omega
          obtain ⟨C2, s1, s2, s3, s4, _, _, s7, s8⟩ := h_stepZ hW i2.2.1 (by decide) hk i1 (w := i) (k := kK W s i) rfl hkk
          rw [if_neg hr, s1, zbd_some, er]
          have hkT := kOK_T hW hk hkk
          have hR2 : R23 C1 C2 := fun a x y z => s3 a x y z
          have hs8 : C2 23 9 = zor B (zshl 1 (kP (kT W s i) : Int)) := by rw [s8, i2.2.2.2.2]; rfl
          have hRS2 := RS_fr hR2 s4 hs8 i2
          have hs2 : RWk W (kT W s i) 23 C2 := s2
          refine zH_bd2 (h_least hW hRS2 hh hE hkT (FR_T hW hk hF hkk) hs2 (lim := cw W (w0 :: ws0) - wc W i) (by omega)) (fun v C3 h3 => ?_)
          obtain ⟨hv, rfl⟩ := h3
          obtain ⟨n, rfl, n1, n2, n3⟩ := LQ_row hW hh hE hkT (FR_T hW hk hF hkk) (by have := hkT.1; rw [zbit_or, zbit_sh1 _ (by omega) _ (by omega), decide_eq_true rfl, Bool.or_true]) hv
          have hno : ¬ n ≤ cw W (w0 :: ws0) - wc W i := by
            intro z
            obtain ⟨ws, g1, g2⟩ := n2 z
            have h1 := isB_no hb hi ⟨hkk, g1⟩
            have h2 : cw W (i :: ws) = wc W i + cw W ws := rfl
            omega
          rw [if_pos (by omega), i2.2.2.2.2]
          have hz : ∀ t, RWk W t 23 C3 → RWk W t 23 (zup2 C3 23 9 B) := fun t ht => by
            obtain ⟨t1, t2, t3, t4, t5⟩ := ht
            exact ⟨(zu_nj (by decide)).trans t1, (zu_nj (by decide)).trans t2, (zu_nj (by decide)).trans t3, by rw [zu_nb (by decide)]; exact t4, by rw [zu_nb (by decide)]; exact t5⟩
          have hz23 : R23 C3 (zup2 C3 23 9 B) := fun a x y z => zu_nb x
          have fin : ∀ C4, RWk W s 23 C4 → kfr 23 (zup2 C3 23 9 B) C4 → ((i + 1 : Nat) : Int) = ((i + 1 : Nat) : Int) ∧ RWk W s 23 C4 ∧ RS W f fr h E B C4 ∧ R23 C C4 := by
            intro C4 d1 d2
            have r4 : R23 C1 C4 := R23_tr (R23_tr hR2 hz23) (R23_k d2)
            have e4 : C4 23 4 = C1 23 4 := by rw [d2.2 4 (by decide) (by decide) (by decide), zu_nj (by decide)]; exact s4
            have e9 : C4 23 9 = B := by rw [d2.2 9 (by decide) (by decide) (by decide), zu_eq]
            exact ⟨rfl, d1, RS_fr r4 e4 e9 i2, R23_tr i3 r4⟩
          rcases kK_or hk hkk with ⟨k1, t1, w1, z1⟩ | ⟨k2, t2, w2, os, ho⟩
          · rw [if_neg (fun z => z (by omega))]
            rw [t1] at hs2
            obtain ⟨C4, u1, u2, u3⟩ := h_undoNew hW hk w1 z1 (hz _ hs2)
            rw [u1, zbd_some, zi]
            exact zH_some (fin C4 u2 u3)
          · rw [if_pos (by omega)]
            rw [t2] at hs2
            have hRd : RWd W (zup2 C3 23 9 B) := by
              unfold RWd
              rw [zu_nb (by decide), zu_nb (by decide), zu_nb (by decide), zu_nb (by decide)]
              exact hRS2.2.1
            obtain ⟨C4, u1, u2, u3⟩ := h_undoBack hW hRd hk ho (hz _ hs2)
            rw [u1, zbd_some, zi]
            exact zH_some (fin C4 u2 u3)
    · rintro x C1 ⟨rfl, i1, i2, i3⟩
      have e0 : kKi W s (w0 : Int) = kK W s w0 := by unfold kKi; rw [if_pos (by omega), Int.toNat_natCast]
      have hkk := hb.1.1
      have hm := hW.2 w0 hw0
      have hwc := wc_le hW hw0
      unfold c_Round_goLeastStep_L2
      rw [i2.2.1.1, if_neg (by omega), e_kindOf hW i2.2.1 hk i1, zbd_some, e_costOf hW i2.2.1 hw0, zbd_some, e0, if_neg (by omega), zsub_e (by omega) (by omega), if_neg (by omega)]
      have er : (cw W (w0 :: ws0) : Int) - (wc W w0 : Int) = ((cw W ws0 : Nat) : Int) := by omega
      obtain ⟨C2, s1, s2, s3, s4, _, _, s7, s8⟩ := h_stepZ hW i2.2.1 (by decide) hk i1 (w := w0) (k := kK W s w0) rfl hkk
      rw [s1, zbd_some, er]
      have hkT := kOK_T hW hk hkk
      have hR2 : R23 C1 C2 := fun a x y z => s3 a x y z
      have hs8 : C2 23 9 = zor B (zshl 1 (kP (kT W s w0) : Int)) := by rw [s8, i2.2.2.2.2]; rfl
      have hRS2 := RS_fr hR2 s4 hs8 i2
      have hs2 : RWk W (kT W s w0) 23 C2 := s2
      refine zH_bd2 (h_least hW hRS2 hh hE hkT (FR_T hW hk hF hkk) hs2 (lim := cw W ws0) (by omega)) (fun v C3 h3 => ?_)
      obtain ⟨hv, rfl⟩ := h3
      obtain ⟨n, rfl, n1, n2, n3⟩ := LQ_row hW hh hE hkT (FR_T hW hk hF hkk) (by have := hkT.1; rw [zbit_or, zbit_sh1 _ (by omega) _ (by omega), decide_eq_true rfl, Bool.or_true]) hv
      have hyes := n3 ws0 hb.1.2
      rw [if_neg (by omega)]
      exact zH_some ⟨(w0 : Int), rfl, rfl, hs2, hRS2, R23_tr i3 hR2⟩
  · obtain ⟨v, e, _⟩ := hx
    cases e
  · obtain ⟨v, e, e2⟩ := hx
    cases e
    exact e2
/-- the i-th step of the best row -/
theorem h_wayLoop (hW : wOK W) (hh : h < 8) (hE : ∀ q, q < 32 → zbit E q = true → q < 8) {i : Nat} (hi : i < 64) : ∀ (e j : Nat), j + e = i + 1 → ∀ (s : ZWk) (B : Int) (C : ZC) (ws : List Nat) (last : Int), RS W f fr h E B C → kOK W s → FR W f fr s → RWk W s 23 C → zbit B (kP s) = true → isB W h E s B (some ws) → cw W ws ≤ 1048576 → e ≤ ws.length →
    zH (zloop (c_Round_wayAt_L32 (i : Int)) ((cw W ws : Int), last, (j : Int)) C) (fun o C' => (∃ v, o = .inl v ∧ v = (if e = 0 then last else ((ws.getD (e - 1) 0 : Nat) : Int))) ∧ R23 C C')
  | 0, j, hj, s, B, C, ws, last, hRS, hk, hF, hS, hB, hb, hl, hlen => by
    rw [zloop_eq]
    have e : c_Round_wayAt_L32 (i : Int) ((cw W ws : Int), last, (j : Int)) C = some (.inr (.inl last), C) := by
      unfold c_Round_wayAt_L32
      exact if_pos (show (i : Int) < (j : Int) by omega)
    rw [e]
    exact zH_some ⟨⟨last, rfl, by rw [if_pos rfl]⟩, fun _ _ _ _ => rfl⟩
  | e + 1, j, hj, s, B, C, ws, last, hRS, hk, hF, hS, hB, hb, hl, hlen => by
    cases ws with
    | nil => simp only [List.length_nil] at hlen; omega
    | cons w ws =>
      have hw := kK_lt hb.1.1
      have hW1 := hW.1
      have hwc := wc_le hW hw
      have hcw : cw W (w :: ws) = wc W w + cw W ws := rfl
      simp only [List.length_cons] at hlen
      obtain ⟨v, C1, e1, rfl, g1, g2, g3⟩ := h_goLeast hW hRS hh hE hk hF hS hB hb hl
      have hkT := kOK_T hW hk hb.1.1
      have hbody : c_Round_wayAt_L32 (i : Int) ((cw W (w :: ws) : Int), last, (j : Int)) C = some (.inl ((cw W ws : Int), (w : Int), ((j + 1 : Nat) : Int)), C1) := by
        unfold c_Round_wayAt_L32
        dsimp only
        rw [if_neg (by omega), e1, zbd_some, if_pos (by omega), e_costOf hW g2.2.1 hw, zbd_some, zsub_e (by omega) (by omega), zinN (by omega)]
        have : (cw W (w :: ws) : Int) - (wc W w : Int) = (cw W ws : Int) := by omega
        rw [this]
      rw [zloop_eq, hbody]
      dsimp only
      refine zH_mono (h_wayLoop hW hh hE hi e (j + 1) (by omega) (kT W s w) _ C1 ws (w : Int) g2 hkT (FR_T hW hk hF hb.1.1) g1 (by have := hkT.1; rw [zbit_or, zbit_sh1 _ (by omega) _ (by omega), decide_eq_true rfl, Bool.or_true]) (isB_tl hb) (by omega) (by omega)) (fun o C' hx => ?_)
      obtain ⟨⟨v, e2, e3⟩, hx2⟩ := hx
      refine ⟨⟨v, e2, ?_⟩, R23_tr g3 hx2⟩
      rw [e3, if_neg (Nat.succ_ne_zero e)]
      by_cases e0 : e = 0
      · subst e0; rfl
      · rw [if_neg e0]
        obtain ⟨e', rfl⟩ : ∃ e', e = e' + 1 := ⟨e - 1, by omega⟩
        rfl
end ZERRC

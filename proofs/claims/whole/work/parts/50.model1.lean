/-! THE MODEL: how its cells hold the state; the wood's text, steps -/
def RM (A : ZA) (C : ZC) : Prop := (∀ t, t < 5 → C 73 t = (aL A t : Int) ∧ ∀ i, i < aL A t → C 74 (60 * t + i) = aT A t i) ∧ (∀ k, k < 4 → C 78 k = (aH A k : Int)) ∧ (C 72 23 = (aN A : Int) ∧ ∀ i, i < aN A → C 87 i = aV A i ∧ C 88 i = aP A i) ∧
  (∀ s, s < 4 → C 91 s = (if aF A s = -1 then 0 else 1) ∧ (aF A s ≠ -1 → C 92 s = aF A s) ∧ C 93 s = (aZ A s : Int) ∧ ∀ i, i < 48 → C 94 (48 * s + i) = aI A s i) ∧ C 72 33 = aX A
def Frm (C C' : ZC) : Prop := ∀ a, a < 72 → C' a = C a
/-- what the model's scratch is: all but the rows that hold the state -/
def Msc (C C' : ZC) : Prop := (∀ a, a < 72 ∨ a = 73 ∨ a = 74 ∨ a = 78 ∨ a = 87 ∨ a = 88 ∨ (91 ≤ a ∧ a ≤ 94) → C' a = C a) ∧ C' 72 23 = C 72 23 ∧ C' 72 33 = C 72 33
def MWd (W : ZWd) (C : ZC) : Prop := C 72 2 = (wN W : Int) ∧ ∀ w, w < wN W → C 75 w = (wA W w : Int) ∧ C 76 w = (wB W w : Int) ∧ C 77 w = (wM W w : Int)
def MWk (s : ZWk) (C : ZC) : Prop := C 72 7 = (kP s : Int) ∧ C 72 8 = kG s ∧ C 72 9 = ((kO s).length : Int) ∧ RL (C 79) (kO s)
def MTr (r : ZTr) (C : ZC) : Prop := MWk r.1 C ∧ C 72 11 = r.2.1 ∧ C 72 12 = r.2.2.1 ∧ C 72 13 = r.2.2.2
def QM (C : ZC) (v : Int) (A' : ZA) : Int → ZC → Prop := fun v' C' => v' = v ∧ RM A' C' ∧ Frm C C'
theorem Msc_refl {C : ZC} : Msc C C := ⟨fun _ _ => rfl, rfl, rfl⟩
theorem Msc_tr {C1 C2 C3 : ZC} (h1 : Msc C1 C2) (h2 : Msc C2 C3) : Msc C1 C3 := ⟨fun a ha => (h2.1 a ha).trans (h1.1 a ha), h2.2.1.trans h1.2.1, h2.2.2.trans h1.2.2⟩
theorem Frm_tr {C1 C2 C3 : ZC} (h1 : Frm C1 C2) (h2 : Frm C2 C3) : Frm C1 C3 := fun a ha => (h2 a ha).trans (h1 a ha)
/-- a scratch cell written -/
theorem Msc_u {C : ZC} {a j : Nat} {v : Int} (h : (a = 72 ∧ j ≠ 23 ∧ j ≠ 33) ∨ (75 ≤ a ∧ a ≤ 77) ∨ (79 ≤ a ∧ a ≤ 86) ∨ a = 89 ∨ a = 90 ∨ a = 95) : Msc C (zup2 C a j v) := by
  refine ⟨fun b hb => zu_nb (by omega), ?_, ?_⟩
  · by_cases e : a = 72
    · subst e; exact zu_nj (by omega)
    · exact zu_ne (by omega)
  · by_cases e : a = 72
    · subst e; exact zu_nj (by omega)
    · exact zu_ne (by omega)
section ZMODEL1
variable {A : ZA} {C C' : ZC} {W : ZWd} {s : ZWk}
theorem RM_sc (h : Msc C C') (hR : RM A C) : RM A C' ∧ Frm C C' := by
  obtain ⟨h1, h2, h3, h4, h5⟩ := hR
  refine ⟨⟨fun t ht => ?_, fun k hk => ?_, ?_, fun s hs => ?_, ?_⟩, fun a ha => h.1 a (by omega)⟩
  · rw [h.1 73 (by omega), h.1 74 (by omega)]; exact h1 t ht
  · rw [h.1 78 (by omega)]; exact h2 k hk
  · rw [h.2.1, h.1 87 (by omega), h.1 88 (by omega)]; exact h3
  · rw [h.1 91 (by omega), h.1 92 (by omega), h.1 93 (by omega), h.1 94 (by omega)]; exact h4 s hs
  · rw [h.2.2]; exact h5
theorem QM_sc {v : Int} (h : Msc C C') (hR : RM A C) : QM C v A v C' := ⟨rfl, RM_sc h hR⟩
theorem m_in {x a b : Int} : d_in x a b C = some ((if a ≤ x ∧ x ≤ b then 1 else 0), C) := by
  unfold d_in
  by_cases h : x < a
  · rw [if_pos h, if_neg (by omega)]
  · rw [if_neg h]
    by_cases h2 : b < x
    · rw [if_pos h2, if_neg (by omega)]
    · rw [if_neg h2, if_pos (by omega)]
theorem m_isWalker {x : Int} : d_isWalker x C = some ((if 0 ≤ x ∧ x < 4 then 1 else 0), C) := by
  unfold d_isWalker
  rw [m_in, zbd_some, zg_t (by split <;> omega)]
  by_cases h : 0 ≤ x ∧ x < 4
  · rw [if_pos h, if_pos (by omega)]
  · rw [if_neg h, if_neg (by omega)]
theorem m_isSheet {x : Int} : d_isSheet x C = some ((if 0 ≤ x ∧ x < 4 then 1 else 0), C) := by
  unfold d_isSheet
  rw [m_in, zbd_some, zg_t (by split <;> omega)]
  by_cases h : 0 ≤ x ∧ x < 4
  · rw [if_pos h, if_pos (by omega)]
  · rw [if_neg h, if_neg (by omega)]
theorem m_isPlace {x : Int} : d_isPlace x C = some ((if 0 ≤ x ∧ x < 8 then 1 else 0), C) := by
  unfold d_isPlace
  rw [m_in, zbd_some, zg_t (by split <;> omega)]
  by_cases h : 0 ≤ x ∧ x < 8
  · rw [if_pos h, if_pos (by omega)]
  · rw [if_neg h, if_neg (by omega)]
theorem m_fig {n k : Nat} {t : Nat → Int} (hL : C 73 0 = (n : Int)) (hT : ∀ i, i < n → C 74 i = t i ∧ 0 ≤ t i ∧ t i ≤ 255) (hn : n ≤ 60) {lo hi : Int} : d_figureAt (k : Int) lo hi C = some ((if k < n ∧ lo ≤ t k - 48 ∧ t k - 48 ≤ hi then t k - 48 else -1), C) := by
  unfold d_figureAt
  rw [hL]
  by_cases h : k < n
  · have hk := hT k h
    rw [if_neg (by omega), zg_t (by omega), Int.toNat_natCast, hk.1, zsub_e (by omega) (by omega), zbd_some, m_in, zbd_some]
    by_cases h2 : lo ≤ t k - 48 ∧ t k - 48 ≤ hi
    · rw [if_pos h2, if_neg (by decide), if_pos ⟨h, h2⟩]
    · rw [if_neg h2, if_pos rfl, if_neg (fun q => h2 q.2)]
  · rw [if_pos (by omega), zbd_some, m_in, zbd_some, if_neg (show ¬ (k < n ∧ lo ≤ t k - 48 ∧ t k - 48 ≤ hi) from fun q => h q.1)]
    split <;> rfl
/-- the model's reading of the wood -/
theorem m_fault {n : Nat} {t : Nat → Int} (hL : C 73 0 = (n : Int)) (hT : ∀ i, i < n → C 74 i = t i ∧ 0 ≤ t i ∧ t i ≤ 255) (hn : n ≤ 60) :
    zH (d_faultNow C) (fun v C' => v = pF t n ∧ MWd (pW t n) C' ∧ (∀ a, a ≠ 72 → a ≠ 75 → a ≠ 76 → a ≠ 77 → C' a = C a) ∧ ∀ j, j ≠ 2 → C' 72 j = C 72 j) := by
  unfold d_faultNow
  refine zH_bs (P := fun o C' => (match o with | .inl _ => (-1 : Int) | .inr v => v) = pF t n ∧ MWd (pW t n) C' ∧ (∀ a, a ≠ 72 → a ≠ 75 → a ≠ 76 → a ≠ 77 → C' a = C a) ∧ ∀ j, j ≠ 2 → C' 72 j = C 72 j) ?_ (fun a C' h => zH_some h) (fun b C' h => h)
  refine zH_loop (fun x C' => ∃ k : Nat, x = ((k : Int), ((4 * k : Nat) : Int)) ∧ 4 * k ≤ n ∧ k ≤ 12 ∧ (∀ i, i < 4 * k → pOk t i = true) ∧ C' 72 2 = 0 ∧ (∀ w, w < k → C' 75 w = ((t (4 * w) - 48).toNat : Int) ∧ C' 76 w = ((t (4 * w + 1) - 48).toNat : Int) ∧ C' 77 w = ((t (4 * w + 2) - 48).toNat : Int)) ∧ (∀ a, a ≠ 72 → a ≠ 75 → a ≠ 76 → a ≠ 77 → C' a = C a) ∧ ∀ j, j ≠ 2 → C' 72 j = C 72 j)
    (fun x _ => (100 - x.1).toNat) ⟨0, rfl, Nat.zero_le _, by decide, fun i hi => absurd hi (by omega), zu_eq, fun w hw => absurd hw (Nat.not_lt_zero _), fun a h1 h2 h3 h4 => zu_nb h1, fun j hj => zu_nj hj⟩ ?_
  rintro x C1 ⟨k, rfl, hk, hk12, hok, h2, hw, hf, hj⟩
  have hL1 : C1 73 0 = (n : Int) := by rw [hf 73 (by decide) (by decide) (by decide) (by decide)]; exact hL
  have hT1 : ∀ i, i < n → C1 74 i = t i ∧ 0 ≤ t i ∧ t i ≤ 255 := by rw [hf 74 (by decide) (by decide) (by decide) (by decide)]; exact hT
  -- with a fault: no ways
  have bad : ∀ i : Nat, pF t n = (i : Int) → MWd (pW t n) C1 := by
    intro i hi
    have e : wN (pW t n) = 0 := by rw [wN_W, hi, if_neg (by omega)]
    refine ⟨by rw [e]; exact h2, fun w hw => ?_⟩
    rw [e] at hw
    exact absurd hw (Nat.not_lt_zero _)
  have atend : ∀ i : Nat, (∀ q, q < i → pOk t q = true) → i = n → 0 < n → ¬ n % 4 = 3 → pF t n = (i : Int) := by
    intro i h e h0 h3
    rw [pF_ok (by rw [← e]; exact h), if_pos ⟨h0, h3⟩, e]
  unfold d_faultNow_L9
  dsimp only
  rw [hL1]
  by_cases h00 : k = 0 ∧ n = 0
  · obtain ⟨rfl, rfl⟩ := h00
    rw [if_neg (by omega), if_pos (by omega)]
    refine zH_some ⟨?_, ?_, hf, hj⟩
    · rw [pF_ok (fun q hq => absurd hq (Nat.not_lt_zero _)), if_neg (by omega)]
    · have e : wN (pW t 0) = 0 := by rw [wN_W]; split <;> rfl
      refine ⟨by rw [e]; exact h2, fun w hw => ?_⟩
      rw [e] at hw
      exact absurd hw (Nat.not_lt_zero _)
  · have e0 : (if ((4 * k : Nat) : Int) < (n : Int) then some ((Sum.inl () : Unit ⊕ ((Int × Int) ⊕ (Unit ⊕ Int))), C1) else if ((4 * k : Nat) : Int) ≤ 0 then some (Sum.inr (Sum.inr (Sum.inl ())), C1) else some (Sum.inl (), C1)) = some (Sum.inl (), C1) := by
      by_cases q : ((4 * k : Nat) : Int) < (n : Int)
      · rw [if_pos q]
      · rw [if_neg q, if_neg (by omega)]
    rw [e0]
    show zH (zbd (d_figureAt ((4 * k : Nat) : Int) 0 7 C1) _) _
    rw [m_fig hL1 hT1 hn, zbd_some]
    by_cases ha : k < 12 ∧ (4 * k < n ∧ 0 ≤ t (4 * k) - 48 ∧ t (4 * k) - 48 ≤ 7)
    · obtain ⟨hk1, hl0, hd0⟩ := ha
      have ok0 : pOk t (4 * k) = true := by
        unfold pOk
        rw [if_neg (by omega), if_neg (by omega)]
        exact decide_eq_true ⟨by omega, by omega, fun _ => by omega, fun q => by omega⟩
      rw [if_neg (show ¬ (k : Int) = 12 by omega), if_pos (show 4 * k < n ∧ 0 ≤ t (4 * k) - 48 ∧ t (4 * k) - 48 ≤ 7 from ⟨hl0, hd0⟩), if_pos (show ¬ t (4 * k) - 48 = -1 by omega)]
      have z1 : zadd ((4 * k : Nat) : Int) 1 = ((4 * k + 1 : Nat) : Int) := zinN (by omega)
      have z2 : zadd ((4 * k : Nat) : Int) 2 = ((4 * k + 2 : Nat) : Int) := by rw [zadd_e (by omega) (by omega)]; omega
      have z3 : zadd ((4 * k : Nat) : Int) 3 = ((4 * k + 3 : Nat) : Int) := by rw [zadd_e (by omega) (by omega)]; omega
      rw [z1, m_fig hL1 hT1 hn, zbd_some]
      by_cases hb : 4 * k + 1 < n ∧ 0 ≤ t (4 * k + 1) - 48 ∧ t (4 * k + 1) - 48 ≤ 7
      · rw [if_pos hb, if_neg (show ¬ t (4 * k + 1) - 48 = -1 by omega)]
        by_cases hne : t (4 * k + 1) = t (4 * k)
        · rw [if_neg (show ¬ ¬ t (4 * k + 1) - 48 = t (4 * k) - 48 from fun q => q (by omega))]
          have hp : pF t n = ((4 * k + 1 : Nat) : Int) := pF_bad (fun j hj => by
            by_cases e : j = 4 * k
            · rw [e]; exact ok0
            · exact hok j (by omega)) (fun q => (pOk_1 q (by omega) (by omega)).2.2.2 (by omega) (by rw [Nat.add_sub_cancel]; exact hne)) hb.1
          exact zH_some ⟨hp.symm, bad _ hp, hf, hj⟩
        · have ok1 : pOk t (4 * k + 1) = true := by
            unfold pOk
            rw [if_neg (by omega), if_neg (by omega)]
            exact decide_eq_true ⟨by omega, by omega, fun q => by omega, fun _ => by rw [Nat.add_sub_cancel]; exact hne⟩
          rw [if_pos (show ¬ t (4 * k + 1) - 48 = t (4 * k) - 48 by omega), z2, m_fig hL1 hT1 hn, zbd_some]
          have okb : ∀ j, j < 4 * k + 2 → pOk t j = true := by
            intro j hj
            by_cases e1 : j = 4 * k + 1
            · rw [e1]; exact ok1
            · by_cases e : j = 4 * k
              · rw [e]; exact ok0
              · exact hok j (by omega)
          by_cases hm : 4 * k + 2 < n ∧ 1 ≤ t (4 * k + 2) - 48 ∧ t (4 * k + 2) - 48 ≤ 9
          · have ok2 : pOk t (4 * k + 2) = true := by
              unfold pOk
              rw [if_neg (by omega), if_pos (by omega)]
              exact decide_eq_true (by omega)
            have okm : ∀ j, j < 4 * k + 3 → pOk t j = true := by
              intro j hj
              by_cases e1 : j = 4 * k + 2
              · rw [e1]; exact ok2
              · exact okb j (by omega)
            rw [if_pos hm, if_pos (show ¬ t (4 * k + 2) - 48 = -1 by omega), zg_t (by omega), zg_t (by omega), zg_t (by omega), z3]
            simp only [zu_ne (show (73 : Nat) ≠ 77 by decide), zu_ne (show (73 : Nat) ≠ 76 by decide), zu_ne (show (73 : Nat) ≠ 75 by decide), zu_ne (show (74 : Nat) ≠ 77 by decide), zu_ne (show (74 : Nat) ≠ 76 by decide), zu_ne (show (74 : Nat) ≠ 75 by decide), hL1, Int.toNat_natCast]
            have hrow : ∀ w, w < k + 1 → zup2 (zup2 (zup2 C1 75 k (t (4 * k) - 48)) 76 k (t (4 * k + 1) - 48)) 77 k (t (4 * k + 2) - 48) 75 w = ((t (4 * w) - 48).toNat : Int) ∧ zup2 (zup2 (zup2 C1 75 k (t (4 * k) - 48)) 76 k (t (4 * k + 1) - 48)) 77 k (t (4 * k + 2) - 48) 76 w = ((t (4 * w + 1) - 48).toNat : Int) ∧ zup2 (zup2 (zup2 C1 75 k (t (4 * k) - 48)) 76 k (t (4 * k + 1) - 48)) 77 k (t (4 * k + 2) - 48) 77 w = ((t (4 * w + 2) - 48).toNat : Int) := by
              intro w hwk
              rw [zu_ne (show (75 : Nat) ≠ 77 by decide), zu_ne (show (75 : Nat) ≠ 76 by decide), zu_ne (show (76 : Nat) ≠ 77 by decide)]
              by_cases e : w = k
              · subst e
                rw [zu_eq, zu_eq, zu_eq]
                omega
              · rw [zu_nj e, zu_nj e, zu_nj e, zu_ne (show (76 : Nat) ≠ 75 by decide), zu_ne (show (77 : Nat) ≠ 76 by decide), zu_ne (show (77 : Nat) ≠ 75 by decide)]
                exact hw w (by omega)
            have hfr : ∀ (u v z : Int) a, a ≠ 72 → a ≠ 75 → a ≠ 76 → a ≠ 77 → zup2 (zup2 (zup2 C1 75 k u) 76 k v) 77 k z a = C a := fun u v z a h1 h2 h3 h4 => by
              rw [zu_nb h4, zu_nb h3, zu_nb h2]; exact hf a h1 h2 h3 h4
            have hfj : ∀ (u v z : Int), zup2 (zup2 (zup2 C1 75 k u) 76 k v) 77 k z 72 = C1 72 := fun u v z => by rw [zu_nb (by decide), zu_nb (by decide), zu_nb (by decide)]
            by_cases he : 4 * k + 3 = n
            · rw [if_neg (show ¬ ¬ ((4 * k + 3 : Nat) : Int) = (n : Int) from fun q => q (by omega))]
              have hp : pF t n = -1 := by rw [pF_ok (by rw [← he]; exact okm), if_neg (by omega)]
              have hcn : wN (pW t n) = k + 1 := by rw [wN_W, if_pos hp]; omega
              refine zH_some ⟨hp.symm, ⟨by rw [zu_eq, zinN (by omega), hcn], fun w hwk => ?_⟩, fun a h1 h2 h3 h4 => (zu_nb h1).trans (hfr _ _ _ a h1 h2 h3 h4), fun j hj2 => ?_⟩
              · rw [hcn] at hwk
                rw [zu_ne (by decide), zu_ne (by decide), zu_ne (by decide)]
                exact hrow w hwk
              · rw [zu_nj hj2, hfj]; exact hj j hj2
            · rw [if_pos (show ¬ ((4 * k + 3 : Nat) : Int) = (n : Int) by omega), zg_t (by omega)]
              have hl3 : 4 * k + 3 < n := by omega
              have hT3 := hT1 (4 * k + 3) hl3
              rw [hT3.1]
              by_cases hs : t (4 * k + 3) = 59
              · have ok3 : pOk t (4 * k + 3) = true := by
                  unfold pOk
                  rw [if_pos (by omega)]
                  exact decide_eq_true hs
                rw [if_pos hs, zinN (show k < 1000000 by omega), zinN (show 4 * k + 3 < 1000000 by omega)]
                refine zH_some ⟨⟨k + 1, rfl, by omega, by omega, fun i hi => ?_, ?_, hrow, hfr _ _ _, fun j hj2 => ?_⟩, ?_⟩
                · by_cases e : i = 4 * k + 3
                  · rw [e]; exact ok3
                  · exact okm i (by omega)
                · rw [hfj]; exact h2
                · rw [hfj]; exact hj j hj2
                · show (100 - ((k + 1 : Nat) : Int)).toNat < (100 - (k : Int)).toNat
                  omega
              · rw [if_neg hs]
                have hp : pF t n = ((4 * k + 3 : Nat) : Int) := pF_bad okm (fun q => hs (pOk_3 q (by omega))) hl3
                have hb3 := bad _ hp
                have e0 : wN (pW t n) = 0 := by rw [wN_W, hp, if_neg (by omega)]
                refine zH_some ⟨hp.symm, ⟨by rw [e0, hfj]; exact h2, fun w hwk => ?_⟩, hfr _ _ _, fun j hj2 => ?_⟩
                · rw [e0] at hwk; exact absurd hwk (Nat.not_lt_zero _)
                · rw [hfj]; exact hj j hj2
          · rw [if_neg hm, if_neg (by decide)]
            have hp : pF t n = ((4 * k + 2 : Nat) : Int) := by
              by_cases hl : 4 * k + 2 < n
              · exact pF_bad okb (fun q => hm ⟨hl, by have := pOk_2 q (by omega); omega⟩) hl
              · exact atend _ okb (by omega) (by omega) (by omega)
            exact zH_some ⟨hp.symm, bad _ hp, hf, hj⟩
      · rw [if_neg hb, if_pos rfl]
        have oka : ∀ j, j < 4 * k + 1 → pOk t j = true := by
          intro j hj
          by_cases e : j = 4 * k
          · rw [e]; exact ok0
          · exact hok j (by omega)
        have hp : pF t n = ((4 * k + 1 : Nat) : Int) := by
          by_cases hl : 4 * k + 1 < n
          · exact pF_bad oka (fun q => hb ⟨hl, by have := pOk_1 q (by omega) (by omega); omega⟩) hl
          · exact atend _ oka (by omega) (by omega) (by omega)
        exact zH_some ⟨hp.symm, bad _ hp, hf, hj⟩
    · have hp : pF t n = ((4 * k : Nat) : Int) := by
        by_cases hl : 4 * k < n
        · exact pF_bad hok (fun q => ha (by have := pOk_1 q (by omega) (by omega); exact ⟨by have := this.2.2.1 (by omega); omega, hl, by omega⟩)) hl
        · exact atend _ hok (by omega) (by omega) (by omega)
      by_cases h12 : (k : Int) = 12
      · rw [if_pos h12]
        exact zH_some ⟨hp.symm, bad _ hp, hf, hj⟩
      · rw [if_neg h12, if_neg (fun q => ha ⟨by omega, q⟩), if_neg (by decide)]
        exact zH_some ⟨hp.symm, bad _ hp, hf, hj⟩
end ZMODEL1

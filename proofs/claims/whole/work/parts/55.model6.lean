/-! What the model's calls answer: copy, write, read, counts -/
section ZMODEL6
variable {A : ZA} {C C' : ZC}
theorem zladd_e {a b : Int} (h1 : -9223372036854775808 ≤ a + b) (h2 : a + b < 9223372036854775808) : zladd a b = a + b := by
  unfold zladd zlb
  rw [Int64.toInt_add, Int64.toInt_ofInt, Int64.toInt_ofInt]
  rw [show (Int64.size : Nat) = 2 ^ 64 from rfl, Int.bmod_add_bmod, Int.add_bmod_bmod]
  exact Int.bmod_eq_of_le (by show -(((2:Nat) ^ 64 : Nat) : Int) / 2 ≤ a + b; omega) (by show a + b < ((((2:Nat) ^ 64 : Nat) : Int) + 1) / 2; omega)
def r32 (x : Int) : Prop := -2147483648 ≤ x ∧ x < 2147483648
theorem m_copy (hA : aOK A) (h : RM A C) {s i t j n : Int} (ri : r32 i) (rj : r32 j) (rn : r32 n) : zH (d_copy s i t j n C) (QM C (s_copy A s i t j n).1 (s_copy A s i t j n).2) := by
  unfold r32 at ri rj rn
  unfold d_copy
  rw [m_isSheet, zbd_some]
  by_cases h1 : 0 ≤ s ∧ s < 4
  · rw [if_pos h1, if_neg (by decide), m_isSheet, zbd_some]
    by_cases h2 : 0 ≤ t ∧ t < 4
    · obtain ⟨u, rfl⟩ : ∃ u : Nat, s = (u : Int) := ⟨s.toNat, by omega⟩
      obtain ⟨v, rfl⟩ : ∃ v : Nat, t = (v : Int) := ⟨t.toNat, by omega⟩
      have hu : u < 4 := by omega
      have hv : v < 4 := by omega
      have xu := h.2.2.2.1 u hu
      have xv := h.2.2.2.1 v hv
      have z1 := (hA.2.2.2.1 u hu).2.2
      have z2 := (hA.2.2.2.1 v hv).2.2
      have hs : s_copy A (u : Int) i (v : Int) j n = (if aF A u = -1 ∨ aF A v = -1 then s_find A 1 else if ¬ aF A u = aF A v then s_find A 4 else
          if hd A u i n = true ∧ hd A v j n = true then (1, aSetI A v (zcpy (aI A u) (aI A v) i.toNat j.toNat n.toNat)) else s_find A 2) := if_pos ⟨h1, h2⟩
      rw [if_pos h2, if_pos (by decide), hs, zg_t h1, Int.toNat_natCast, xu.1]
      by_cases e1 : aF A u = -1
      · rw [if_pos e1, if_pos rfl, if_pos (Or.inl e1)]
        exact m_meets h (by decide)
      · rw [if_neg e1, if_neg (by decide), zg_t h2, Int.toNat_natCast, xv.1]
        by_cases e2 : aF A v = -1
        · rw [if_pos e2, if_neg (by decide), if_pos (Or.inr e2)]
          exact m_meets h (by decide)
        · rw [if_neg e2, if_pos (by decide), zg_t h1, zg_t h2, xu.2.1 e1, xv.2.1 e2, if_neg (show ¬ (aF A u = -1 ∨ aF A v = -1) from fun q => q.elim e1 e2)]
          by_cases e3 : aF A u = aF A v
          · rw [if_pos e3, if_neg (show ¬ ¬ aF A u = aF A v from fun q => q e3)]
            have bad : ¬ (hd A u i n = true ∧ hd A v j n = true) → zH (zbd (d_meets 2 C) fun v C => some (v, C)) (QM C (if hd A u i n = true ∧ hd A v j n = true then (1, aSetI A v (zcpy (aI A u) (aI A v) i.toNat j.toNat n.toNat)) else s_find A 2).1 (if hd A u i n = true ∧ hd A v j n = true then (1, aSetI A v (zcpy (aI A u) (aI A v) i.toNat j.toNat n.toNat)) else s_find A 2).2) := fun q => by
              rw [if_neg q]
              exact m_meets h (by decide)
            by_cases q1 : i < 0
            · rw [if_pos q1]
              exact bad fun z => by have := of_decide_eq_true z.1; omega
            · rw [if_neg q1]
              by_cases q2 : j < 0
              · rw [if_pos q2]
                exact bad fun z => by have := of_decide_eq_true z.2; omega
              · rw [if_neg q2]
                by_cases q3 : n < 0
                · rw [if_pos q3]
                  exact bad fun z => by have := of_decide_eq_true z.1; omega
                · rw [if_neg q3, zg_t h1, xu.2.2.1, zladd_e (by omega) (by omega)]
                  by_cases q4 : (aZ A u : Int) < i + n
                  · rw [if_pos q4, if_pos (by decide)]
                    exact bad fun z => by have := of_decide_eq_true z.1; omega
                  · rw [if_neg q4, if_neg (by split <;> decide), zg_t h2, xv.2.2.1, zladd_e (by omega) (by omega)]
                    by_cases q5 : (aZ A v : Int) < j + n
                    · rw [if_pos q5, if_neg (by decide)]
                      exact bad fun z => by have := of_decide_eq_true z.2; omega
                    · rw [if_neg q5, if_pos (by split <;> decide), if_pos (show hd A u i n = true ∧ hd A v j n = true from ⟨decide_eq_true (by omega), decide_eq_true (by omega)⟩)]
                      obtain ⟨i', rfl⟩ : ∃ i' : Nat, i = (i' : Int) := ⟨i.toNat, by omega⟩
                      obtain ⟨j', rfl⟩ : ∃ j' : Nat, j = (j' : Int) := ⟨j.toNat, by omega⟩
                      obtain ⟨n', rfl⟩ : ∃ n' : Nat, n = (n' : Int) := ⟨n.toNat, by omega⟩
                      have zz : ∀ a b q : Nat, a < 4 → b ≤ 48 → q < 48 → zadd (zadd (zmul 48 (a : Int)) (b : Int)) (q : Int) = ((48 * a + b + q : Nat) : Int) := fun a b q ha hb hq => by
                        have e : zmul 48 (a : Int) = ((48 * a : Nat) : Int) := by rw [zmul_e (by omega) (by omega)]; omega
                        have e2 : zadd ((48 * a : Nat) : Int) (b : Int) = ((48 * a + b : Nat) : Int) := by rw [zadd_e (by omega) (by omega)]; omega
                        rw [e, e2, zadd_e (by omega) (by omega)]; omega
                      refine zH_bd2 (P := fun _ C' => (∀ q, q < n' → C' 95 q = C 94 (48 * u + i' + q)) ∧ ∀ a, a ≠ 95 → C' a = C a) ?_ (fun _ C1 h5 => ?_)
                      · refine zH_for (fun k x C' => x = (k : Int) ∧ (∀ q, q < k → C' 95 q = C 94 (48 * u + i' + q)) ∧ ∀ a, a ≠ 95 → C' a = C a) n' 0 (Nat.zero_le _) ⟨rfl, fun q hq => absurd hq (Nat.not_lt_zero _), fun _ _ => rfl⟩ ?_ ?_
                        · rintro k x C1 hk ⟨rfl, g1, g2⟩
                          unfold d_copy_L120
                          rw [if_neg (by omega), zz u i' k hu (by omega) (by omega), zg_t (by omega), zg_t (by omega), Int.toNat_natCast, Int.toNat_natCast, g2 94 (by decide)]
                          refine zH_some ⟨zinN (by omega), fun q hq => ?_, fun a ha => (zu_nb ha).trans (g2 a ha)⟩
                          by_cases e : q = k
                          · subst e; exact zu_eq
                          · rw [zu_nj e]; exact g1 q (by omega)
                        · rintro x C1 ⟨rfl, g1, g2⟩
                          unfold d_copy_L120
                          rw [if_pos (by omega)]
                          exact zH_some ⟨g1, g2⟩
                      · obtain ⟨g1, g2⟩ := h5
                        refine zH_bd2 (P := fun _ C' => (∀ q, C' 94 q = if 48 * v + j' ≤ q ∧ q < 48 * v + j' + n' then C 94 (48 * u + i' + (q - (48 * v + j'))) else C 94 q) ∧ ∀ a, a ≠ 94 → a ≠ 95 → C' a = C a) ?_ (fun _ C2 h6 => ?_)
                        · refine zH_for (fun k x C' => x = (k : Int) ∧ (∀ q, C' 94 q = if 48 * v + j' ≤ q ∧ q < 48 * v + j' + k then C 94 (48 * u + i' + (q - (48 * v + j'))) else C 94 q) ∧ C' 95 = C1 95 ∧ ∀ a, a ≠ 94 → a ≠ 95 → C' a = C a) n' 0 (Nat.zero_le _) ⟨rfl, fun q => by rw [if_neg (by omega), g2 94 (by decide)], rfl, fun a a1 a2 => g2 a a2⟩ ?_ ?_
                          · rintro k x C2 hk ⟨rfl, m1, m2, m3⟩
                            unfold d_copy_L157
                            rw [if_neg (by omega), zz v j' k hv (by omega) (by omega), zg_t (by omega), zg_t (by omega), Int.toNat_natCast, Int.toNat_natCast, m2, g1 k hk]
                            refine zH_some ⟨zinN (by omega), fun q => ?_, (zu_nb (by decide)).trans m2, fun a a1 a2 => (zu_nb a1).trans (m3 a a1 a2)⟩
                            by_cases e : q = 48 * v + j' + k
                            · subst e
                              rw [zu_eq, if_pos (by omega)]
                              congr 1
                              omega
                            · rw [zu_nj e, m1 q]
                              by_cases e2 : 48 * v + j' ≤ q ∧ q < 48 * v + j' + k
                              · rw [if_pos e2, if_pos (by omega)]
                              · rw [if_neg e2, if_neg (by omega)]
                          · rintro x C2 ⟨rfl, m1, m2, m3⟩
                            unfold d_copy_L157
                            rw [if_pos (by omega)]
                            exact zH_some ⟨m1, m3⟩
                        · obtain ⟨m1, m3⟩ := h6
                          refine zH_some ⟨rfl, RM_I h hv (fun q hq => ?_) (fun q hq => ?_) m3⟩
                          · rw [m1, Int.toNat_natCast, Int.toNat_natCast, Int.toNat_natCast]
                            unfold zcpy
                            by_cases e : j' ≤ q ∧ q < j' + n'
                            · rw [if_pos (by omega), if_pos e, ← xu.2.2.2 _ (by omega)]
                              congr 1
                              omega
                            · rw [if_neg (by omega), if_neg e]
                              exact xv.2.2.2 q hq
                          · rw [m1, if_neg (by omega)]
          · rw [if_neg e3, if_pos e3]
            exact m_meets h (by decide)
    · rw [if_neg h2, if_neg (by decide), show s_copy A s i t j n = (-2, A) from if_neg fun q => h2 q.2]
      exact zH_some (QM_same h)
  · rw [if_neg h1, if_pos rfl, show s_copy A s i t j n = (-2, A) from if_neg fun q => h1 q.1]
    exact zH_some (QM_same h)
theorem aOK_I (hA : aOK A) {u : Nat} {g : Nat → Int} : aOK (aSetI A u g) := by
  refine ⟨hA.1, hA.2.1, hA.2.2.1, fun t ht => ?_, hA.2.2.2.2⟩
  show -1 ≤ zup (aF A) u (aF A u) t ∧ zup (aF A) u (aF A u) t ≤ 2 ∧ zup (aZ A) u (aZ A u) t ≤ 48
  have := hA.2.2.2.1 t ht
  unfold zup
  split
  · next e => rw [← e]; exact this
  · exact this
theorem m_write (hA : aOK A) (h : RM A C) {k s : Int} : zH (d_write k s C) (QM C (s_write A k s).1 (s_write A k s).2) := by
  unfold d_write
  rw [m_isWalker, zbd_some]
  by_cases h1 : 0 ≤ k ∧ k < 4
  · rw [if_pos h1, if_neg (by decide), m_isSheet, zbd_some]
    by_cases h2 : 0 ≤ s ∧ s < 4
    · obtain ⟨u, rfl⟩ : ∃ u : Nat, s = (u : Int) := ⟨s.toNat, by omega⟩
      obtain ⟨j, rfl⟩ : ∃ j : Nat, k = (j : Int) := ⟨k.toNat, by omega⟩
      have hu : u < 4 := by omega
      have hj : j < 4 := by omega
      have xu := h.2.2.2.1 u hu
      have hz := (hA.2.2.2.1 u hu).2.2
      have hs : s_write A (j : Int) (u : Int) = (if aF A u = -1 then s_find A 1 else (((min (aZ A u) 8 : Nat) : Int), aSetI A u (fun q => if q < min (aZ A u) 8 then cv (aF A u) (snT (aSn A j) q) else aI A u q))) := if_pos ⟨h1, h2⟩
      rw [if_pos h2, if_pos (by decide), zg_t h2, Int.toNat_natCast, xu.1, hs]
      by_cases e1 : aF A u = -1
      · rw [if_pos e1, if_neg (by decide), if_pos e1]
        exact m_meets h (by decide)
      · rw [if_neg e1, if_pos (by decide), if_neg e1]
        refine zH_bd2 (P := fun y C' => y = ((min (aZ A u) 8 : Nat) : Int) ∧ RM (aSetI A u (fun q => if q < min (aZ A u) 8 then cv (aF A u) (snT (aSn A j) q) else aI A u q)) C' ∧ Frm C C') ?_ (fun y C1 h3 => zH_some h3)
        refine zH_for (fun i x C' => x = (i : Int) ∧ RM (aSetI A u (fun q => if q < i then cv (aF A u) (snT (aSn A j) q) else aI A u q)) C' ∧ Frm C C') (min (aZ A u) 8) 0 (Nat.zero_le _) ⟨rfl, ?_, fun _ _ => rfl⟩ ?_ ?_
        · exact (RM_I (C' := C) h hu (fun q hq => by rw [if_neg (Nat.not_lt_zero _)]; exact xu.2.2.2 q hq) (fun _ _ => rfl) (fun _ _ _ => rfl)).1
        · rintro i x C1 hi ⟨rfl, g1, g2⟩
          have hi8 : i < 8 := by omega
          have hA' : aOK (aSetI A u fun q => if q < i then cv (aF A u) (snT (aSn A j) q) else aI A u q) := aOK_I hA
          have ef : aF (aSetI A u fun q => if q < i then cv (aF A u) (snT (aSn A j) q) else aI A u q) u = aF A u := zp_eq
          have ez : C1 93 u = (aZ A u : Int) := by
            have := (g1.2.2.2.1 u hu).2.2.1
            rw [this]
            show ((zup (aZ A) u (aZ A u) u : Nat) : Int) = _
            rw [zp_eq]
          unfold d_write_L34
          rw [zg_t h2, Int.toNat_natCast, ez, if_neg (by omega), if_neg (by omega)]
          refine zH_bd2 (m_soonOf hA' hj hi8 g1) (fun v C2 h3 => ?_)
          obtain ⟨rfl, k1, k2⟩ := h3
          have hF : aF (aSetI A u fun q => if q < i then cv (aF A u) (snT (aSn A j) q) else aI A u q) u ≠ -1 := by rw [ef]; exact e1
          rw [m_keep k2 hu (show i < 48 by omega) hF, zbd_some, ef]
          have es : aSn (aSetI A u fun q => if q < i then cv (aF A u) (snT (aSn A j) q) else aI A u q) j = aSn A j := rfl
          rw [es]
          have k3 := k2.2.2.2.1 u hu
          have fin := RM_I (C' := zup2 C2 94 (48 * u + i) (cv (aF A u) (snT (aSn A j) i))) (g := fun q => if q < i + 1 then cv (aF A u) (snT (aSn A j) q) else aI A u q) k2 hu (fun q hq => ?_) (fun q hq => zu_nj (by omega)) (fun a ha _ => zu_nb ha)
          · refine zH_some ⟨zinN (by omega), ?_, Frm_tr g2 (Frm_tr (fun a ha => k1.1 a (by omega)) fin.2)⟩
            have e2 : aSetI (aSetI A u fun q => if q < i then cv (aF A u) (snT (aSn A j) q) else aI A u q) u (fun q => if q < i + 1 then cv (aF A u) (snT (aSn A j) q) else aI A u q) = aSetI A u (fun q => if q < i + 1 then cv (aF A u) (snT (aSn A j) q) else aI A u q) := by
              have z1 : ∀ {α : Type} (f : Nat → α) (a b : α), zup (zup f u a) u b = zup f u b := fun f a b => by
                funext p; unfold zup; split <;> rfl
              have z2 : ∀ (f : Nat → Nat → Int) (a b : Nat → Int), zrow (zrow f u a) u b = zrow f u b := fun f a b => by
                funext p q; unfold zrow; split <;> rfl
              have y1 : zup (aF A) u (aF A u) u = aF A u := zp_eq
              have y2 : zup (aZ A) u (aZ A u) u = aZ A u := zp_eq
              show (A.1, A.2.1, (zup (zup (aF A) u (aF A u)) u (zup (aF A) u (aF A u) u), zup (zup (aZ A) u (aZ A u)) u (zup (aZ A) u (aZ A u) u), zrow (zrow (aI A) u _) u _), A.2.2.2) = (A.1, A.2.1, (zup (aF A) u (aF A u), zup (aZ A) u (aZ A u), zrow (aI A) u _), A.2.2.2)
              rw [y1, y2, z1, z1, z2]
            rw [e2] at fin
            exact fin.1
          · by_cases e : q = i
            · subst e; rw [zu_eq, if_pos (by omega)]
            · rw [zu_nj (by omega), k3.2.2.2 q hq]
              show zrow (aI A) u (fun q => if q < i then cv (aF A u) (snT (aSn A j) q) else aI A u q) u q = _
              rw [zr_eq]
              by_cases e3 : q < i
              · rw [if_pos e3, if_pos (by omega)]
              · rw [if_neg e3, if_neg (by omega)]
        · rintro x C1 ⟨rfl, g1, g2⟩
          have ez : C1 93 u = (aZ A u : Int) := by
            have := (g1.2.2.2.1 u hu).2.2.1
            rw [this]
            show ((zup (aZ A) u (aZ A u) u : Nat) : Int) = _
            rw [zp_eq]
          unfold d_write_L34
          rw [zg_t h2, Int.toNat_natCast, ez]
          by_cases q : (aZ A u : Int) ≤ ((min (aZ A u) 8 : Nat) : Int)
          · rw [if_pos q]
            exact zH_some ⟨rfl, g1, g2⟩
          · rw [if_neg q, if_pos (by omega)]
            exact zH_some ⟨rfl, g1, g2⟩
    · rw [if_neg h2, if_neg (by decide), show s_write A k s = (-2, A) from if_neg fun q => h2 q.2]
      exact zH_some (QM_same h)
  · rw [if_neg h1, if_pos rfl, show s_write A k s = (-2, A) from if_neg fun q => h1 q.1]
    exact zH_some (QM_same h)
theorem m_read (hA : aOK A) (h : RM A C) {s k : Int} : zH (d_read s k C) (QM C (s_read A s k).1 (s_read A s k).2) := by
  unfold d_read
  rw [m_isSheet, zbd_some]
  by_cases h1 : 0 ≤ s ∧ s < 4
  · rw [if_pos h1, if_neg (by decide), m_isWalker, zbd_some]
    by_cases h2 : 0 ≤ k ∧ k < 4
    · obtain ⟨u, rfl⟩ : ∃ u : Nat, s = (u : Int) := ⟨s.toNat, by omega⟩
      obtain ⟨j, rfl⟩ : ∃ j : Nat, k = (j : Int) := ⟨k.toNat, by omega⟩
      have hu : u < 4 := by omega
      have hj : j < 4 := by omega
      have xu := h.2.2.2.1 u hu
      have hz := (hA.2.2.2.1 u hu).2.2
      rw [if_pos h2, if_pos (by decide), zg_t h1, Int.toNat_natCast, xu.1]
      by_cases e1 : aF A u = -1
      · have hs : s_read A (u : Int) (j : Int) = s_find A 1 := by
          unfold s_read
          rw [if_pos ⟨h1, h2⟩]
          exact if_pos e1
        rw [if_pos e1, if_neg (by decide), hs]
        exact m_meets h (by decide)
      · have hs : s_read A (u : Int) (j : Int) = ((rd (aI A u) (min 24 (aZ A u)) : Int), ((fun t i => if t = j + 1 ∧ i < rd (aI A u) (min 24 (aZ A u)) then 97 + aI A u i else aT A t i, zup (aL A) (j + 1) (rd (aI A u) (min 24 (aZ A u))), aH A), A.2)) := by
          unfold s_read
          rw [if_pos ⟨h1, h2⟩]
          exact if_neg e1
        have z60 : ∀ i : Nat, i < 48 → zadd (zmul 60 ((j + 1 : Nat) : Int)) (i : Int) = ((60 * (j + 1) + i : Nat) : Int) := fun i hi => by
          have e : zmul 60 ((j + 1 : Nat) : Int) = ((60 * (j + 1) : Nat) : Int) := by rw [zmul_e (by omega) (by omega)]; omega
          rw [e, zadd_e (by omega) (by omega)]; omega
        rw [if_neg e1, if_pos (by decide), hs]
        have hrl := rd_le (g := aI A u) (min 24 (aZ A u))
        refine zH_bd2 (P := fun y C' => y = (rd (aI A u) (min 24 (aZ A u)) : Int) ∧ (∀ q, C' 74 q = if 60 * (j + 1) ≤ q ∧ q < 60 * (j + 1) + rd (aI A u) (min 24 (aZ A u)) then 97 + aI A u (q - 60 * (j + 1)) else C 74 q) ∧ ∀ a, a ≠ 74 → C' a = C a) ?_ (fun y C1 h3 => ?_)
        · refine zH_for (fun i x C' => x = (i : Int) ∧ rd (aI A u) i = i ∧ (∀ q, C' 74 q = if 60 * (j + 1) ≤ q ∧ q < 60 * (j + 1) + i then 97 + aI A u (q - 60 * (j + 1)) else C 74 q) ∧ ∀ a, a ≠ 74 → C' a = C a) (min 24 (aZ A u)) 0 (Nat.zero_le _) ⟨rfl, rfl, fun q => by rw [if_neg (by omega)], fun _ _ => rfl⟩ ?_ ?_
          · rintro i x C1 hi ⟨rfl, g1, g2, g3⟩
            have y1 : C1 93 u = (aZ A u : Int) := by rw [g3 93 (by decide)]; exact xu.2.2.1
            have y3 : C1 94 (48 * u + i) = aI A u i := by rw [g3 94 (by decide)]; exact xu.2.2.2 i (by omega)
            unfold d_read_L34
            rw [zg_t h1, Int.toNat_natCast, y1, if_neg (by omega), if_neg (by omega), z48 hu (by omega), zg_t (by omega), Int.toNat_natCast, y3, m_in, zbd_some]
            by_cases hw : 0 ≤ aI A u i ∧ aI A u i < 12
            · have z97 : zadd 97 (aI A u i) = 97 + aI A u i := zadd_e (by omega) (by omega)
              rw [if_pos (show 0 ≤ aI A u i ∧ aI A u i ≤ 11 by omega), if_neg (by decide), zg_t (by omega), zinN (show j < 1000000 by omega), z60 i (by omega), zg_t (by omega), y3, z97, Int.toNat_natCast]
              refine zH_some ⟨zinN (by omega), ?_, fun q => ?_, fun a ha => (zu_nb ha).trans (g3 a ha)⟩
              · unfold rd
                rw [if_pos ⟨g1, hw⟩]
              · by_cases e : q = 60 * (j + 1) + i
                · subst e
                  rw [zu_eq, if_pos (by omega), Nat.add_sub_cancel_left]
                · rw [zu_nj e, g2 q]
                  by_cases e2 : 60 * (j + 1) ≤ q ∧ q < 60 * (j + 1) + i
                  · rw [if_pos e2, if_pos (by omega)]
                  · rw [if_neg e2, if_neg (by omega)]
            · rw [if_neg (show ¬ (0 ≤ aI A u i ∧ aI A u i ≤ 11) by omega), if_pos rfl]
              have e := rd_stop g1 hw (min 24 (aZ A u) - i)
              have e2 : i + (min 24 (aZ A u) - i) = min 24 (aZ A u) := by omega
              rw [e2] at e
              rw [e]
              exact zH_some ⟨rfl, g2, g3⟩
          · rintro x C1 ⟨rfl, g1, g2, g3⟩
            have y1 : C1 93 u = (aZ A u : Int) := by rw [g3 93 (by decide)]; exact xu.2.2.1
            rw [g1]
            unfold d_read_L34
            rw [zg_t h1, Int.toNat_natCast, y1]
            by_cases h24 : (aZ A u : Int) ≤ ((min 24 (aZ A u) : Nat) : Int)
            · rw [if_pos h24]
              exact zH_some ⟨rfl, g2, g3⟩
            · rw [if_neg h24, if_pos (by omega)]
              exact zH_some ⟨rfl, g2, g3⟩
        · obtain ⟨rfl, g2, g3⟩ := h3
          generalize hm : rd (aI A u) (min 24 (aZ A u)) = m at *
          rw [zinN (show j < 1000000 by omega), zg_t (by omega), Int.toNat_natCast]
          refine zH_some ⟨rfl, ⟨fun t ht => ?_, fun q hq => ?_, ?_, fun q hq => ?_, ?_⟩, fun a ha => ?_⟩
          · show _ = ((zup (aL A) (j + 1) m t : Nat) : Int) ∧ ∀ i, i < zup (aL A) (j + 1) m t → _ = (if t = j + 1 ∧ i < m then 97 + aI A u i else aT A t i)
            have ht1 := h.1 t ht
            have hlt := aOK_len hA ht
            rw [zu_nb (show (74 : Nat) ≠ 73 by decide)]
            by_cases e : t = j + 1
            · subst e
              rw [zu_eq, zp_eq]
              refine ⟨rfl, fun i hi => ?_⟩
              rw [g2, if_pos (by omega), if_pos ⟨rfl, hi⟩, Nat.add_sub_cancel_left]
            · rw [zu_nj e, zp_ne e, g3 73 (by decide)]
              refine ⟨ht1.1, fun i hi => ?_⟩
              rw [if_neg (fun q => e q.1), g2, if_neg (by omega)]
              exact ht1.2 i hi
          · rw [zu_nb (by omega), g3 78 (by decide)]; exact h.2.1 q hq
          · rw [zu_nb (by omega), zu_nb (by omega), zu_nb (by omega), g3 72 (by decide), g3 87 (by decide), g3 88 (by decide)]; exact h.2.2.1
          · rw [zu_nb (by omega), zu_nb (by omega), zu_nb (by omega), zu_nb (by omega), g3 91 (by decide), g3 92 (by decide), g3 93 (by decide), g3 94 (by decide)]; exact h.2.2.2.1 q hq
          · rw [zu_nb (by omega), g3 72 (by decide)]; exact h.2.2.2.2
          · rw [zu_nb (by omega), g3 a (by omega)]
    · rw [if_neg h2, if_neg (by decide), show s_read A s k = (-2, A) from if_neg fun q => h2 q.2]
      exact zH_some (QM_same h)
  · rw [if_neg h1, if_pos rfl, show s_read A s k = (-2, A) from if_neg fun q => h1 q.1]
    exact zH_some (QM_same h)
theorem m_sumOf (hA : aOK A) (h : RM A C) {x : Int} : zH (d_sumOf x C) (fun v C' => v = (if x = 0 then (wN (aW A) : Int) else ((mS (aW A) (wN (aW A)) : Nat) : Int)) ∧ Msc C C') := by
  have hW := aW_OK (A := A)
  have hW1 := hW.1
  unfold d_sumOf
  refine zH_bd2 (m_wood hA h) (fun _ C1 h1 => ?_)
  obtain ⟨-, g1, g2, g3⟩ := h1
  refine zH_bd2 (P := fun y C' => y = ((mS (aW A) (wN (aW A)) : Nat) : Int) ∧ C' = C1) ?_ (fun y C2 h2 => ?_)
  · refine zH_for (fun i x C' => x = (((mS (aW A) i : Nat) : Int), (i : Int)) ∧ C' = C1) (wN (aW A)) 0 (Nat.zero_le _) ⟨rfl, rfl⟩ ?_ ?_
    · rintro i x C' hi ⟨rfl, rfl⟩
      have hm := mS_le hW i (by omega)
      have hw := hW.2 i hi
      unfold d_sumOf_L10
      dsimp only
      have e1 : zadd ((mS (aW A) i : Nat) : Int) (wM (aW A) i : Int) = ((mS (aW A) i + wM (aW A) i : Nat) : Int) := by rw [zadd_e (by omega) (by omega)]; omega
      rw [g1.1, if_neg (by omega), zg_t (by omega), Int.toNat_natCast, (g1.2 i hi).2.2, e1, zinN (by omega)]
      exact zH_some ⟨rfl, rfl⟩
    · rintro x C' ⟨rfl, rfl⟩
      unfold d_sumOf_L10
      dsimp only
      rw [g1.1, if_pos (by omega)]
      exact zH_some ⟨rfl, rfl⟩
  · obtain ⟨rfl, rfl⟩ := h2
    by_cases e : x = 0
    · rw [if_neg (fun q => q e), if_pos e, g1.1]
      exact zH_some ⟨rfl, g2⟩
    · rw [if_pos e, if_neg e]
      exact zH_some ⟨rfl, g2⟩
end ZMODEL6

/-! safe() in the model -/
def HM (W : ZWd) (C : ZC) : Prop := ∀ b, b < 8 → ∃ r, isH W b 1000000 r ∧ ∀ p, p < 8 → C 89 (8 * p + b) = (r p : Int)
def hC (C : ZC) (b : Nat) (r : Nat → Nat) : Prop := ∀ p, p < 8 → C 89 (8 * p + b) = (r p : Int)
section ZSAFEM
variable {W : ZWd} {s : ZWk} {C : ZC} {A : ZA}
theorem hops_upM (hW : wOK W) {r : Nat → Nat} {i u v : Nat} (hi : i < wN W) (hu : u = if r (wB W i) + 1 < r (wA W i) then r (wB W i) + 1 else r (wA W i)) (hv : v = if r (wA W i) + 1 < r (wB W i) then r (wA W i) + 1 else r (wB W i)) : hStep W i r (zup (zup r (wA W i) u) (wB W i) v) := by
  have hne : wA W i ≠ wB W i := (hW.2 i hi).2.2.1
  have u1 : u ≤ r (wA W i) ∧ u ≤ r (wB W i) + 1 ∧ (u = r (wA W i) ∨ u = r (wB W i) + 1) := by
    rw [hu]; split <;> omega
  have v1 : v ≤ r (wB W i) ∧ v ≤ r (wA W i) + 1 ∧ (v = r (wB W i) ∨ v = r (wA W i) + 1) := by
    rw [hv]; split <;> omega
  refine ⟨fun p => ?_, ?_, ?_, fun p => ?_⟩
  · by_cases eb : p = wB W i
    · subst eb; rw [zp_eq]; exact v1.1
    · rw [zp_ne eb]
      by_cases ea : p = wA W i
      · subst ea; rw [zp_eq]; exact u1.1
      · rw [zp_ne ea]; exact Nat.le_refl _
  · rw [zp_ne hne, zp_eq]; exact u1.2.1
  · rw [zp_eq]; exact v1.2.1
  · by_cases eb : p = wB W i
    · subst eb; rw [zp_eq]
      exact v1.2.2.imp id fun z => Or.inr ⟨rfl, z⟩
    · rw [zp_ne eb]
      by_cases ea : p = wA W i
      · subst ea; rw [zp_eq]
        exact u1.2.2.imp id fun z => Or.inl ⟨rfl, z⟩
      · rw [zp_ne ea]; exact Or.inl rfl
theorem zinM {i : Nat} (h : i < 2000000) : zadd (i : Int) 1 = ((i + 1 : Nat) : Int) := by rw [zadd_e (by omega) (by omega)]; omega
theorem m_ix {x b : Nat} (hx : x < 8) (hb : b < 8) : zadd (zmul 8 (x : Int)) (b : Int) = ((8 * x + b : Nat) : Int) := by
  rw [zmul_e (by omega) (by omega), zadd_e (by omega) (by omega)]
  omega
theorem m_laysHops (hW : wOK W) (hR : MWd W C) (h6 : wN W ≤ 6) : zH (d_laysHops C) (fun _ C' => HM W C' ∧ ∀ a, a ≠ 89 → C' a = C a) := by
  unfold d_laysHops
  refine zH_bd2 (P := fun _ C' => (∀ a b, a < 8 → b < 8 → C' 89 (8 * a + b) = if a = b then 0 else 1000000) ∧ ∀ a, a ≠ 89 → C' a = C a) ?_ (fun _ C1 h1 => ?_)
  · refine zH_for (fun i x C' => x = (i : Int) ∧ (∀ a b, a < i → b < 8 → C' 89 (8 * a + b) = if a = b then 0 else 1000000) ∧ ∀ a, a ≠ 89 → C' a = C a) 8 0 (by decide) ⟨rfl, fun a b ha => absurd ha (Nat.not_lt_zero _), fun _ _ => rfl⟩ ?_ ?_
    · rintro i x C1 hi ⟨rfl, i1, i2⟩
      unfold d_laysHops_L2
      rw [if_neg (by omega)]
      refine zH_bd2 (P := fun _ C' => (∀ a b, a < i + 1 → b < 8 → C' 89 (8 * a + b) = if a = b then 0 else 1000000) ∧ ∀ a, a ≠ 89 → C' a = C a) ?_ (fun _ C2 h2 => zH_some ⟨zinN (by omega), h2⟩)
      refine zH_for (fun j x C' => x = (j : Int) ∧ (∀ a b, (a < i ∨ (a = i ∧ b < j)) → b < 8 → C' 89 (8 * a + b) = if a = b then 0 else 1000000) ∧ ∀ a, a ≠ 89 → C' a = C a) 8 0 (by decide) ⟨rfl, fun a b ha hb => i1 a b (by omega) hb, i2⟩ ?_ ?_
      · rintro j x C2 hj ⟨rfl, j1, j2⟩
        have put : ∀ v : Int, v = (if i = j then 0 else 1000000) → ∀ a b, (a < i ∨ (a = i ∧ b < j + 1)) → b < 8 → zup2 C2 89 (8 * i + j) v 89 (8 * a + b) = if a = b then 0 else 1000000 := by
          intro v hv a b hab hb
          by_cases e : a = i ∧ b = j
          · rw [e.1, e.2, zu_eq, hv]
          · rw [zu_nj (by omega)]; exact j1 a b (by omega) hb
        unfold d_laysHops_L10
        rw [if_neg (by omega), m_ix (by omega) hj]
        by_cases e : i = j
        · rw [if_neg (fun z => z (by omega)), zg_t (by omega), zinN (by omega), Int.toNat_natCast]
          exact zH_some ⟨rfl, put 0 (by rw [if_pos e]), fun a ha => (zu_nb ha).trans (j2 a ha)⟩
        · rw [if_pos (by omega), zg_t (by omega), zinN (by omega), Int.toNat_natCast]
          exact zH_some ⟨rfl, put 1000000 (by rw [if_neg e]), fun a ha => (zu_nb ha).trans (j2 a ha)⟩
      · rintro x C2 ⟨rfl, j1, j2⟩
        unfold d_laysHops_L10
        rw [if_pos (by omega)]
        exact zH_some ⟨fun a b ha hb => j1 a b (by omega) hb, j2⟩
    · rintro x C1 ⟨rfl, i1, i2⟩
      unfold d_laysHops_L2
      rw [if_pos (by omega)]
      exact zH_some ⟨i1, i2⟩
  · obtain ⟨z1, z2⟩ := h1
    have base : ∀ C2 : ZC, (∀ a, a ≠ 89 → C2 a = C a) → C2 72 2 = (wN W : Int) ∧ ∀ w, w < wN W → C2 75 w = (wA W w : Int) ∧ C2 76 w = (wB W w : Int) := fun C2 h => by
      rw [h 72 (by omega), h 75 (by omega), h 76 (by omega)]
      exact ⟨hR.1, fun w hw => ⟨(hR.2 w hw).1, (hR.2 w hw).2.1⟩⟩
    refine zH_bd2 (P := fun _ C' => (∀ b, b < 8 → ∃ r, hInv W b 1000000 8 0 r ∧ hC C' b r) ∧ ∀ a, a ≠ 89 → C' a = C a) ?_ (fun _ C2 h2 => ?_)
    · refine zH_for (fun k x C' => x = (k : Int) ∧ (∀ b, b < 8 → ∃ r, hInv W b 1000000 k 0 r ∧ hC C' b r) ∧ ∀ a, a ≠ 89 → C' a = C a) 8 0 (by decide) ⟨rfl, fun b hb => ⟨_, hInv_0 (by decide), fun p hp => ?_⟩, z2⟩ ?_ ?_
      · rw [z1 p b hp hb]
        by_cases e : p = b
        · subst e; rw [if_pos rfl, zp_eq]; rfl
        · rw [if_neg e, zp_ne e]; rfl
      · rintro k x C2 hk ⟨rfl, k1, k2⟩
        unfold d_laysHops_L52
        rw [if_neg (by omega)]
        refine zH_bd2 (P := fun _ C' => (∀ b, b < 8 → ∃ r, hInv W b 1000000 k (wN W) r ∧ hC C' b r) ∧ ∀ a, a ≠ 89 → C' a = C a) ?_ (fun _ C3 h3 => zH_some ⟨zinN (by omega), fun b hb => ?_, h3.2⟩)
        · refine zH_for (fun i x C' => x = (i : Int) ∧ (∀ b, b < 8 → ∃ r, hInv W b 1000000 k i r ∧ hC C' b r) ∧ ∀ a, a ≠ 89 → C' a = C a) (wN W) 0 (Nat.zero_le _) ⟨rfl, k1, k2⟩ ?_ ?_
          · rintro i x C3 hi ⟨rfl, i1, i2⟩
            obtain ⟨b0, bw⟩ := base C3 i2
            unfold d_laysHops_L60
            rw [b0, if_neg (by omega)]
            refine zH_bd2 (P := fun _ C' => (∀ b, b < 8 → ∃ r, hInv W b 1000000 k (i + 1) r ∧ hC C' b r) ∧ ∀ a, a ≠ 89 → C' a = C a) ?_ (fun _ C4 h4 => zH_some ⟨zinN (by omega), h4⟩)
            refine zH_for (fun b x C' => x = (b : Int) ∧ (∀ b', b' < 8 → ∃ r, hInv W b' 1000000 k (if b' < b then i + 1 else i) r ∧ hC C' b' r) ∧ ∀ a, a ≠ 89 → C' a = C a) 8 0 (by decide) ⟨rfl, fun b hb => ?_, i2⟩ ?_ ?_
            · rw [if_neg (Nat.not_lt_zero _)]; exact i1 b hb
            · rintro b x C4 hb ⟨rfl, j1, j2⟩
              obtain ⟨b0, bw⟩ := base C4 j2
              obtain ⟨w1, w2⟩ := bw i hi
              have hm := hW.2 i hi
              obtain ⟨r, hr, hc⟩ := j1 b hb
              rw [if_neg (Nat.lt_irrefl _)] at hr
              have ca := hc (wA W i) hm.1
              have cb := hc (wB W i) hm.2.1
              have la := hr.2.2.2 (wA W i)
              have lb := hr.2.2.2 (wB W i)
              have g13 : 0 ≤ (i : Int) ∧ (i : Int) < 13 := by omega
              have xa := m_ix hm.1 hb
              have xb := m_ix hm.2.1 hb
              have ga : 0 ≤ ((8 * wA W i + b : Nat) : Int) ∧ ((8 * wA W i + b : Nat) : Int) < 64 := by omega
              have gb : 0 ≤ ((8 * wB W i + b : Nat) : Int) ∧ ((8 * wB W i + b : Nat) : Int) < 64 := by omega
              unfold d_laysHops_L70
              rw [if_neg (by omega)]
              simp only [Int.toNat_natCast, w1, w2, xa, xb, ca, cb, zg_t g13, zg_t ga, zg_t gb]
              have fin : ∀ u v : Nat, u = (if r (wB W i) + 1 < r (wA W i) then r (wB W i) + 1 else r (wA W i)) → v = (if r (wA W i) + 1 < r (wB W i) then r (wA W i) + 1 else r (wB W i)) → (∀ b', b' < 8 → ∃ r, hInv W b' 1000000 k (if b' < b + 1 then i + 1 else i) r ∧ hC (zup2 (zup2 C4 89 (8 * wA W i + b) (u : Int)) 89 (8 * wB W i + b) (v : Int)) b' r) ∧ ∀ a, a ≠ 89 → zup2 (zup2 C4 89 (8 * wA W i + b) (u : Int)) 89 (8 * wB W i + b) (v : Int) a = C a := by
                intro u v hu hv
                refine ⟨fun b' hb' => ?_, fun a ha => by rw [zu_nb ha, zu_nb ha]; exact j2 a ha⟩
                by_cases e : b' = b
                · subst e
                  rw [if_pos (Nat.lt_succ_self _)]
                  refine ⟨_, hInv_W hi hr (hops_upM hW hi hu hv), fun p hp => ?_⟩
                  by_cases eb : p = wB W i
                  · subst eb; rw [zu_eq, zp_eq]
                  · rw [zu_nj (by omega), zp_ne eb]
                    by_cases ea : p = wA W i
                    · subst ea; rw [zu_eq, zp_eq]
                    · rw [zu_nj (by omega), zp_ne ea]; exact hc p hp
                · obtain ⟨r', h1, h2⟩ := j1 b' hb'
                  have e2 : (if b' < b + 1 then i + 1 else i) = (if b' < b then i + 1 else i) := by
                    by_cases q : b' < b
                    · rw [if_pos q, if_pos (by omega)]
                    · rw [if_neg q, if_neg (by omega)]
                  rw [e2]
                  exact ⟨r', h1, fun p hp => by rw [zu_nj (by omega), zu_nj (by omega)]; exact h2 p hp⟩
              have e1 : (if (r (wA W i) : Int) ≤ zadd (r (wB W i) : Int) 1 then some (((r (wA W i) : Int), (r (wB W i) : Int), (r (wA W i) : Int), ((8 * wA W i + b : Nat) : Int)), C4) else some (((r (wA W i) : Int), (r (wB W i) : Int), zadd (r (wB W i) : Int) 1, ((8 * wA W i + b : Nat) : Int)), C4)) = some (((r (wA W i) : Int), (r (wB W i) : Int), ((if r (wB W i) + 1 < r (wA W i) then r (wB W i) + 1 else r (wA W i) : Nat) : Int), ((8 * wA W i + b : Nat) : Int)), C4) := by
                rw [zinM (by omega)]
                by_cases q : r (wB W i) + 1 < r (wA W i)
                · rw [if_neg (by omega), if_pos q]
                · rw [if_pos (by omega), if_neg q]
              rw [e1, zbd_some]
              dsimp only
              simp only [Int.toNat_natCast, zg_t ga, zu_ne (show (76 : Nat) ≠ 89 by decide), w2, xb, zg_t gb]
              have ez : zadd (r (wA W i) : Int) 1 = ((r (wA W i) + 1 : Nat) : Int) := by rw [zadd_e (by omega) (by omega)]; omega
              rw [ez]
              by_cases q : r (wA W i) + 1 < r (wB W i)
              · rw [if_neg (by omega), zinN (by omega)]
                exact zH_some ⟨rfl, fin _ _ rfl (by rw [if_pos q])⟩
              · rw [if_pos (by omega), zinN (by omega)]
                exact zH_some ⟨rfl, fin _ _ rfl (by rw [if_neg q])⟩
            · rintro x C4 ⟨rfl, j1, j2⟩
              unfold d_laysHops_L70
              rw [if_pos (by omega)]
              exact zH_some ⟨fun b hb => by have := j1 b hb; rw [if_pos hb] at this; exact this, j2⟩
          · rintro x C3 ⟨rfl, i1, i2⟩
            obtain ⟨b0, bw⟩ := base C3 i2
            unfold d_laysHops_L60
            rw [b0, if_pos (by omega)]
            exact zH_some ⟨i1, i2⟩
        · obtain ⟨r, r1, r2⟩ := h3.1 b hb
          exact ⟨r, hInv_P r1, r2⟩
      · rintro x C2 ⟨rfl, k1, k2⟩
        unfold d_laysHops_L52
        rw [if_pos (by omega)]
        exact zH_some ⟨k1, k2⟩
    · refine zH_some ⟨fun b hb => ?_, h2.2⟩
      obtain ⟨r, r1, r2⟩ := h2.1 b hb
      exact ⟨r, hInv_H (by omega) (by decide) r1, r2⟩
end ZSAFEM

/-! What the class's calls answer: copy, write, read, counts -/
section ZCLASS4
variable {A : ZA} {C : ZC}
def hd (A : ZA) (s : Nat) (i n : Int) : Bool := decide (0 ≤ i ∧ 0 ≤ n ∧ i + n ≤ (aZ A s : Int))
theorem e_holds (hA : aOK A) (h : RC A C) {s : Nat} (hs : s < 4) {i n : Int} : c_Sheets_holds (s : Int) i n C = some ((if hd A s i n = true then 1 else 0), C) := by
  have hz := (hA.2.2.2.1 s hs).2.2
  unfold c_Sheets_holds hd
  by_cases h1 : i < 0
  · rw [if_pos h1, decide_eq_false (by omega)]; rfl
  · rw [if_neg h1]
    by_cases h2 : n < 0
    · rw [if_pos h2, decide_eq_false (by omega)]; rfl
    · rw [if_neg h2, zg_t (by omega), Int.toNat_natCast, (h.1.2.2.1 s hs).2.1]
      by_cases h3 : (aZ A s : Int) < i
      · rw [if_pos h3, decide_eq_false (by omega)]; rfl
      · rw [if_neg h3, zg_t (by omega), zsub_e (by omega) (by omega)]
        by_cases h4 : (aZ A s : Int) - i < n
        · rw [if_pos h4, decide_eq_false (by omega)]; rfl
        · rw [if_neg h4, decide_eq_true (by omega)]; rfl
def s_copy (A : ZA) (s i t j n : Int) : Int × ZA := if (0 ≤ s ∧ s < 4) ∧ 0 ≤ t ∧ t < 4 then (if aF A s.toNat = -1 ∨ aF A t.toNat = -1 then s_find A 1 else if ¬ aF A s.toNat = aF A t.toNat then s_find A 4 else
  if hd A s.toNat i n = true ∧ hd A t.toNat j n = true then (1, aSetI A t.toNat (zcpy (aI A s.toNat) (aI A t.toNat) i.toNat j.toNat n.toNat)) else s_find A 2) else (-2, A)
theorem c_copy (hA : aOK A) (h : RC A C) {s i t j n : Int} : zH (c_N_copy s i t j n C) (QC C (s_copy A s i t j n).1 (s_copy A s i t j n).2) := by
  unfold c_N_copy
  rw [e_shas, zbd_some]
  by_cases h1 : 0 ≤ s ∧ s < 4
  · rw [if_pos h1, if_neg (by decide), e_shas, zbd_some]
    by_cases h2 : 0 ≤ t ∧ t < 4
    · obtain ⟨u, rfl⟩ : ∃ u : Nat, s = (u : Int) := ⟨s.toNat, by omega⟩
      obtain ⟨v, rfl⟩ : ∃ v : Nat, t = (v : Int) := ⟨t.toNat, by omega⟩
      have hu : u < 4 := by omega
      have hv : v < 4 := by omega
      have hs : s_copy A (u : Int) i (v : Int) j n = (if aF A u = -1 ∨ aF A v = -1 then s_find A 1 else if ¬ aF A u = aF A v then s_find A 4 else
          if hd A u i n = true ∧ hd A v j n = true then (1, aSetI A v (zcpy (aI A u) (aI A v) i.toNat j.toNat n.toNat)) else s_find A 2) := if_pos ⟨h1, h2⟩
      rw [if_pos h2, if_pos (by decide), e_isLost h hu, zbd_some, hs]
      by_cases e1 : aF A u = -1
      · rw [if_pos e1, if_pos (by decide), if_pos (Or.inl e1)]
        exact h_find h (by decide)
      · rw [if_neg e1, if_neg (by decide), e_isLost h hv, zbd_some]
        by_cases e2 : aF A v = -1
        · rw [if_pos e2, if_neg (by decide), if_pos (Or.inr e2)]
          exact h_find h (by decide)
        · rw [if_neg e2, if_pos rfl, zg_t h1, zg_t h2, Int.toNat_natCast, Int.toNat_natCast, (h.1.2.2.1 u hu).1, (h.1.2.2.1 v hv).1, if_neg (show ¬ (aF A u = -1 ∨ aF A v = -1) from fun q => q.elim e1 e2)]
          by_cases e3 : aF A u = aF A v
          · rw [if_pos e3, if_neg (fun q => q e3), e_holds hA h hu, zbd_some]
            by_cases e4 : hd A u i n = true
            · rw [if_pos e4, if_neg (by decide), e_holds hA h hv, zbd_some]
              by_cases e5 : hd A v j n = true
              · have d1 := of_decide_eq_true e4
                have d2 := of_decide_eq_true e5
                have z1 := (hA.2.2.2.1 u hu).2.2
                have z2 := (hA.2.2.2.1 v hv).2.2
                rw [if_pos e5, if_pos (by decide), zg_t h1, zg_t h2, zg_t (by omega), if_pos ⟨e4, e5⟩]
                refine zH_some ⟨rfl, RC_I h hv (fun q hq => ?_) (fun a ha => zr_ne ha)⟩
                rw [zr_eq]
                unfold zcpy
                by_cases e6 : j.toNat ≤ q ∧ q < j.toNat + n.toNat
                · rw [if_pos e6, if_pos e6]; exact (h.1.2.2.1 u hu).2.2 _ (by omega)
                · rw [if_neg e6, if_neg e6]; exact (h.1.2.2.1 v hv).2.2 q hq
              · rw [if_neg e5, if_neg (by decide), if_neg (fun q => e5 q.2)]
                exact h_find h (by decide)
            · rw [if_neg e4, if_pos rfl, if_neg (fun q => e4 q.1)]
              exact h_find h (by decide)
          · rw [if_neg e3, if_pos e3]
            exact h_find h (by decide)
    · rw [if_neg h2, if_neg (by decide), show s_copy A s i t j n = (-2, A) from if_neg fun q => h2 q.2]
      exact zH_some (QC_same h)
  · rw [if_neg h1, if_pos rfl, show s_copy A s i t j n = (-2, A) from if_neg fun q => h1 q.1]
    exact zH_some (QC_same h)
def s_write (A : ZA) (k s : Int) : Int × ZA := if (0 ≤ k ∧ k < 4) ∧ 0 ≤ s ∧ s < 4 then (if aF A s.toNat = -1 then s_find A 1 else (((min (aZ A s.toNat) 8 : Nat) : Int), aSetI A s.toNat (fun q => if q < min (aZ A s.toNat) 8 then cv (aF A s.toNat) (snT (aSn A k.toNat) q) else aI A s.toNat q))) else (-2, A)
theorem c_write (hA : aOK A) (h : RC A C) {k s : Int} : zH (c_N_write k s C) (QC C (s_write A k s).1 (s_write A k s).2) := by
  unfold c_N_write
  rw [e_within, zbd_some]
  by_cases h1 : 0 ≤ k ∧ k < 4
  · rw [if_pos h1, if_neg (by decide), e_shas, zbd_some]
    by_cases h2 : 0 ≤ s ∧ s < 4
    · obtain ⟨u, rfl⟩ : ∃ u : Nat, s = (u : Int) := ⟨s.toNat, by omega⟩
      obtain ⟨j, rfl⟩ : ∃ j : Nat, k = (j : Int) := ⟨k.toNat, by omega⟩
      have hu : u < 4 := by omega
      have hj : j < 4 := by omega
      have hs : s_write A (j : Int) (u : Int) = (if aF A u = -1 then s_find A 1 else (((min (aZ A u) 8 : Nat) : Int), aSetI A u (fun q => if q < min (aZ A u) 8 then cv (aF A u) (snT (aSn A j) q) else aI A u q))) := if_pos ⟨h1, h2⟩
      rw [if_pos h2, if_pos (by decide), e_isLost h hu, zbd_some, hs]
      by_cases e1 : aF A u = -1
      · rw [if_pos e1, if_neg (by decide), if_pos e1]
        exact h_find h (by decide)
      · have em : (if (8 : Int) < (aZ A u : Int) then 8 else (aZ A u : Int)) = ((min (aZ A u) 8 : Nat) : Int) := by split <;> omega
        rw [if_neg e1, if_pos rfl, if_neg e1, zg_t h2, Int.toNat_natCast, (h.1.2.2.1 u hu).2.1, em]
        refine zH_bd2 (P := fun _ C' => RC (aSetI A u (fun q => if q < min (aZ A u) 8 then cv (aF A u) (snT (aSn A j) q) else aI A u q)) C' ∧ Frc C C') ?_ (fun _ C1 h3 => zH_some ⟨rfl, h3⟩)
        refine zH_for (fun i x C' => x = (i : Int) ∧ (∀ q, q < 48 → C' (50 + u) q = if q < i then cv (aF A u) (snT (aSn A j) q) else aI A u q) ∧ ∀ a, a ≠ 50 + u → C' a = C a) (min (aZ A u) 8) 0 (Nat.zero_le _) ⟨rfl, fun q hq => by rw [if_neg (Nat.not_lt_zero _)]; exact (h.1.2.2.1 u hu).2.2 q hq, fun _ _ => rfl⟩ ?_ ?_
        · rintro i x C1 hi ⟨rfl, g1, g2⟩
          have hi8 : i < 8 := by omega
          have hRC := RC_I (A := A) (C' := C1) (g := fun q => if q < i then cv (aF A u) (snT (aSn A j) q) else aI A u q) h hu g1 g2
          unfold c_N_write_L60
          rw [if_neg (by omega), zg_t h1, Int.toNat_natCast]
          have hA' : aOK (aSetI A u fun q => if q < i then cv (aF A u) (snT (aSn A j) q) else aI A u q) := by
            refine ⟨hA.1, hA.2.1, hA.2.2.1, fun t ht => ?_, hA.2.2.2.2⟩
            show -1 ≤ zup (aF A) u (aF A u) t ∧ zup (aF A) u (aF A u) t ≤ 2 ∧ zup (aZ A) u (aZ A u) t ≤ 48
            have := hA.2.2.2.1 t ht
            unfold zup
            split
            · next e => rw [← e]; exact this
            · exact this
          have es := e_soonA hA' hRC.1 hj hi8
          have es2 : c_Walk_soonTo (56 + 4 * j) (i : Int) C1 = some (snT (aSn A j) i, C1) := es
          have ef : aF (aSetI A u fun q => if q < i then cv (aF A u) (snT (aSn A j) q) else aI A u q) u = aF A u := zp_eq
          rw [es2, zbd_some, e_set hRC.1 hu (show i < 48 by omega), zbd_some, ef]
          refine zH_some ⟨zinN (by omega), fun q hq => ?_, fun a ha => (zu_nb ha).trans (g2 a ha)⟩
          by_cases e : q = i
          · subst e; rw [zu_eq, if_pos (by omega)]
          · rw [zu_nj e, g1 q hq]
            by_cases e2 : q < i
            · rw [if_pos e2, if_pos (by omega)]
            · rw [if_neg e2, if_neg (by omega)]
        · rintro x C1 ⟨rfl, g1, g2⟩
          unfold c_N_write_L60
          rw [if_pos (by omega)]
          exact zH_some (RC_I h hu g1 g2)
    · rw [if_neg h2, if_neg (by decide), show s_write A k s = (-2, A) from if_neg fun q => h2 q.2]
      exact zH_some (QC_same h)
  · rw [if_neg h1, if_pos rfl, show s_write A k s = (-2, A) from if_neg fun q => h1 q.1]
    exact zH_some (QC_same h)
/-- how many of the first items are ways, up to a number -/
def rd (g : Nat → Int) : Nat → Nat
  | 0 => 0
  | l + 1 => if rd g l = l ∧ 0 ≤ g l ∧ g l < 12 then l + 1 else rd g l
theorem rd_le {g : Nat → Int} : ∀ l, rd g l ≤ l
  | 0 => Nat.le_refl _
  | l + 1 => by
    unfold rd
    have := rd_le (g := g) l
    split <;> omega
theorem rd_stop {g : Nat → Int} {l : Nat} (h1 : rd g l = l) (h2 : ¬ (0 ≤ g l ∧ g l < 12)) : ∀ k, rd g (l + k) = l
  | 0 => h1
  | k + 1 => by
    show (if rd g (l + k) = l + k ∧ 0 ≤ g (l + k) ∧ g (l + k) < 12 then l + k + 1 else rd g (l + k)) = l
    rw [rd_stop h1 h2 k]
    refine if_neg fun q => ?_
    have e : k = 0 := by omega
    subst e
    exact h2 q.2
theorem rd_way {g : Nat → Int} : ∀ l i, i < rd g l → 0 ≤ g i ∧ g i < 12
  | 0, i, h => absurd h (Nat.not_lt_zero _)
  | l + 1, i, h => by
    unfold rd at h
    split at h
    · next q =>
      by_cases e : i = l
      · rw [e]; exact q.2
      · exact rd_way l i (by omega)
    · exact rd_way l i h
def s_read (A : ZA) (s k : Int) : Int × ZA := if (0 ≤ s ∧ s < 4) ∧ 0 ≤ k ∧ k < 4 then (if aF A s.toNat = -1 then s_find A 1 else
  ((rd (aI A s.toNat) (min 24 (aZ A s.toNat)) : Int), ((fun t i => if t = k.toNat + 1 ∧ i < rd (aI A s.toNat) (min 24 (aZ A s.toNat)) then 97 + aI A s.toNat i else aT A t i, zup (aL A) (k.toNat + 1) (rd (aI A s.toNat) (min 24 (aZ A s.toNat))), aH A), A.2))) else (-2, A)
theorem aOK_read (hA : aOK A) {s k : Nat} (hs : s < 4) (hk : k < 4) : aOK ((fun t i => if t = k + 1 ∧ i < rd (aI A s) (min 24 (aZ A s)) then 97 + aI A s i else aT A t i, zup (aL A) (k + 1) (rd (aI A s) (min 24 (aZ A s))), aH A), A.2) := by
  refine ⟨fun t ht => ?_, hA.2⟩
  have hr := rd_le (g := aI A s) (min 24 (aZ A s))
  show zup (aL A) (k + 1) (rd (aI A s) (min 24 (aZ A s))) t ≤ rm t ∧ ∀ i, i < zup (aL A) (k + 1) (rd (aI A s) (min 24 (aZ A s))) t → 0 ≤ (if t = k + 1 ∧ i < rd (aI A s) (min 24 (aZ A s)) then 97 + aI A s i else aT A t i) ∧ (if t = k + 1 ∧ i < rd (aI A s) (min 24 (aZ A s)) then 97 + aI A s i else aT A t i) ≤ 255
  by_cases e : t = k + 1
  · subst e
    rw [zp_eq]
    refine ⟨?_, fun i hi => ?_⟩
    · unfold rm
      rw [if_neg (by omega)]
      omega
    · have := rd_way _ i hi
      rw [if_pos ⟨rfl, hi⟩]
      omega
  · rw [zp_ne e]
    have := hA.1 t ht
    refine ⟨this.1, fun i hi => ?_⟩
    rw [if_neg (fun q => e q.1)]
    exact this.2 i hi
theorem c_read (hA : aOK A) (h : RC A C) {s k : Int} : zH (c_N_read s k C) (QC C (s_read A s k).1 (s_read A s k).2) := by
  unfold c_N_read
  rw [e_shas, zbd_some]
  by_cases h1 : 0 ≤ s ∧ s < 4
  · rw [if_pos h1, if_neg (by decide), e_within, zbd_some]
    by_cases h2 : 0 ≤ k ∧ k < 4
    · obtain ⟨u, rfl⟩ : ∃ u : Nat, s = (u : Int) := ⟨s.toNat, by omega⟩
      obtain ⟨j, rfl⟩ : ∃ j : Nat, k = (j : Int) := ⟨k.toNat, by omega⟩
      have hu : u < 4 := by omega
      have hj : j < 4 := by omega
      have hz := (hA.2.2.2.1 u hu).2.2
      rw [if_pos h2, if_pos (by decide), e_isLost h hu, zbd_some]
      by_cases e1 : aF A u = -1
      · have hs : s_read A (u : Int) (j : Int) = s_find A 1 := by
          unfold s_read
          rw [if_pos ⟨h1, h2⟩]
          exact if_pos e1
        rw [if_pos e1, if_neg (by decide), hs]
        exact h_find h (by decide)
      · have hs : s_read A (u : Int) (j : Int) = ((rd (aI A u) (min 24 (aZ A u)) : Int), ((fun t i => if t = j + 1 ∧ i < rd (aI A u) (min 24 (aZ A u)) then 97 + aI A u i else aT A t i, zup (aL A) (j + 1) (rd (aI A u) (min 24 (aZ A u))), aH A), A.2)) := by
          unfold s_read
          rw [if_pos ⟨h1, h2⟩]
          exact if_neg e1
        rw [if_neg e1, if_pos rfl, hs, zinN (by omega)]
        have ey : ∀ C' : ZC, (∀ a, a ≠ 3 + (j + 1) → C' a = C a) → C' 54 u = (aZ A u : Int) ∧ ∀ i, i < 48 → C' (50 + u) i = aI A u i := fun C' hf => by
          rw [hf 54 (by omega), hf (50 + u) (by omega)]
          exact (h.1.2.2.1 u hu).2
        refine zH_bd2 (P := fun y C' => y = (rd (aI A u) (min 24 (aZ A u)) : Int) ∧ (∀ i, C' (3 + (j + 1)) i = if i < rd (aI A u) (min 24 (aZ A u)) then 97 + aI A u i else C (3 + (j + 1)) i) ∧ ∀ a, a ≠ 3 + (j + 1) → C' a = C a) ?_ (fun y C1 h3 => ?_)
        · refine zH_for (fun i x C' => x = (i : Int) ∧ rd (aI A u) i = i ∧ (∀ q, C' (3 + (j + 1)) q = if q < i then 97 + aI A u q else C (3 + (j + 1)) q) ∧ ∀ a, a ≠ 3 + (j + 1) → C' a = C a) (min 24 (aZ A u)) 0 (Nat.zero_le _) ⟨rfl, rfl, fun q => (if_neg (Nat.not_lt_zero _)).symm, fun _ _ => rfl⟩ ?_ ?_
          · rintro i x C1 hi ⟨rfl, g1, g2, g3⟩
            obtain ⟨y1, y2⟩ := ey C1 g3
            have y3 := y2 i (by omega)
            unfold c_N_read_L49
            rw [if_neg (by omega), zg_t h1, Int.toNat_natCast, y1, if_neg (by omega), zg_t h1, zg_t (by omega), Int.toNat_natCast, y3, e_within, zbd_some]
            by_cases hw : 0 ≤ aI A u i ∧ aI A u i < 12
            · have z97 : zadd 97 (aI A u i) = 97 + aI A u i := zadd_e (by omega) (by omega)
              rw [if_pos hw, if_neg (by decide), zg_t (by omega), zg_t h1, zg_t (by omega), zg_t (by omega), y3, z97, Int.toNat_natCast]
              refine zH_some ⟨zinN (by omega), ?_, fun q => ?_, fun a ha => (zu_nb ha).trans (g3 a ha)⟩
              · unfold rd
                rw [if_pos ⟨g1, hw⟩]
              · by_cases e : q = i
                · subst e; rw [zu_eq, if_pos (by omega)]
                · rw [zu_nj e, g2 q]
                  by_cases e2 : q < i
                  · rw [if_pos e2, if_pos (by omega)]
                  · rw [if_neg e2, if_neg (by omega)]
            · rw [if_neg hw, if_pos rfl]
              have e := rd_stop g1 hw (min 24 (aZ A u) - i)
              have e2 : i + (min 24 (aZ A u) - i) = min 24 (aZ A u) := by omega
              rw [e2] at e
              rw [e]
              exact zH_some ⟨rfl, g2, g3⟩
          · rintro x C1 ⟨rfl, g1, g2, g3⟩
            obtain ⟨y1, y2⟩ := ey C1 g3
            rw [g1]
            unfold c_N_read_L49
            by_cases h24 : (24 : Int) ≤ ((min 24 (aZ A u) : Nat) : Int)
            · rw [if_pos h24]
              exact zH_some ⟨rfl, g2, g3⟩
            · rw [if_neg h24, zg_t h1, Int.toNat_natCast, y1, if_pos (by omega)]
              exact zH_some ⟨rfl, g2, g3⟩
        · obtain ⟨rfl, g2, g3⟩ := h3
          have hok := aOK_read hA hu hj
          generalize hm : rd (aI A u) (min 24 (aZ A u)) = m at *
          rw [zg_t (by omega), Int.toNat_natCast]
          refine zH_bd2 (h_settle hok (show j + 1 < 5 by omega) ?_ ?_ ?_) (fun _ C2 h3 => zH_some ⟨rfl, h3.1, ?_⟩)
          · refine ⟨fun t ht => ?_, ?_, fun q hq => ?_, ?_⟩
            · show _ = ((zup (aL A) (j + 1) m t : Nat) : Int) ∧ ∀ i, i < zup (aL A) (j + 1) m t → _ = (if t = j + 1 ∧ i < m then 97 + aI A u i else aT A t i)
              have ht1 := h.1.1 t ht
              by_cases e : t = j + 1
              · subst e
                rw [zu_eq, zp_eq]
                refine ⟨rfl, fun i hi => ?_⟩
                rw [zu_ne (by omega), g2 i, if_pos hi, if_pos ⟨rfl, hi⟩]
              · rw [zu_nj e, zp_ne e, zu_nb (show 3 + t ≠ 8 by omega), g3 8 (by omega), g3 (3 + t) (by omega)]
                refine ⟨ht1.1, fun i hi => ?_⟩
                rw [if_neg (fun q => e q.1)]
                exact ht1.2 i hi
            · rw [zu_nb (by omega), zu_nb (by omega), zu_nb (by omega), g3 27 (by omega), g3 28 (by omega), g3 29 (by omega)]; exact h.1.2.1
            · rw [zu_nb (by omega), zu_nb (by omega), zu_nb (by omega), g3 55 (by omega), g3 54 (by omega), g3 (50 + q) (by omega)]; exact h.1.2.2.1 q hq
            · rw [zu_nb (by omega), g3 48 (by omega)]; exact h.1.2.2.2
          · intro q hq
            rw [zu_nb (by omega), g3 _ (by omega)]; exact (h.2.2 q hq).2
          · intro hx
            have e0 : aW ((fun t i => if t = j + 1 ∧ i < m then 97 + aI A u i else aT A t i, zup (aL A) (j + 1) m, aH A), A.2) = aW A := by
              show pW (fun i => if 0 = j + 1 ∧ i < m then 97 + aI A u i else aT A 0 i) (zup (aL A) (j + 1) m 0) = _
              rw [zp_ne (by omega)]
              have : (fun i => if 0 = j + 1 ∧ i < m then 97 + aI A u i else aT A 0 i) = aT A 0 := funext fun i => if_neg fun q => by omega
              rw [this]; rfl
            refine ⟨?_, fun q hq hqx => ?_⟩
            · have : Rw A (zup2 C1 8 (j + 1) (m : Int)) := Rw_fr (fun a ha => by rw [zu_nb (by omega), g3 a (by omega)]) h.2.1
              unfold Rw at this ⊢
              rw [e0]
              refine ⟨?_, this.2⟩
              show _ = pF (fun i => if 0 = j + 1 ∧ i < m then 97 + aI A u i else aT A 0 i) (zup (aL A) (j + 1) m 0)
              have e5 : (fun i => if 0 = j + 1 ∧ i < m then 97 + aI A u i else aT A 0 i) = aT A 0 := funext fun i => if_neg fun q => by omega
              rw [e5, zp_ne (by omega)]
              exact this.1
            · have : Rk A q (zup2 C1 8 (j + 1) (m : Int)) := Rk_fr (fun a ha => by rw [zu_nb (by omega), g3 a (by omega)]) (h.2.2 q hq)
              have e1 : aR ((fun t i => if t = j + 1 ∧ i < m then 97 + aI A u i else aT A t i, zup (aL A) (j + 1) m, aH A), A.2) q = aR A q := by
                show tR (aW ((fun t i => if t = j + 1 ∧ i < m then 97 + aI A u i else aT A t i, zup (aL A) (j + 1) m, aH A), A.2)) (fun i => if q + 1 = j + 1 ∧ i < m then 97 + aI A u i else aT A (q + 1) i) (aH A q) (zup (aL A) (j + 1) m (q + 1)) = _
                have e5 : (fun i => if q + 1 = j + 1 ∧ i < m then 97 + aI A u i else aT A (q + 1) i) = aT A (q + 1) := funext fun i => if_neg fun q => by omega
                rw [e0, e5, zp_ne (by omega)]; rfl
              unfold Rk at this ⊢
              rw [e0, e1]
              exact this
          · refine Frc_tr (fun a ha => ?_) h3.2
            rw [zu_nb (by omega), g3 a (by omega)]
    · rw [if_neg h2, if_neg (by decide), show s_read A s k = (-2, A) from if_neg fun q => h2 q.2]
      exact zH_some (QC_same h)
  · rw [if_neg h1, if_pos rfl, show s_read A s k = (-2, A) from if_neg fun q => h1 q.1]
    exact zH_some (QC_same h)
def mS (W : ZWd) : Nat → Nat
  | 0 => 0
  | k + 1 => mS W k + wM W k
theorem mS_le {W : ZWd} (hW : wOK W) : ∀ k, k ≤ wN W → mS W k ≤ 9 * k
  | 0, _ => Nat.le_refl _
  | k + 1, hk => by
    have := hW.2 k (by omega)
    have := mS_le hW k (by omega)
    show mS W k + wM W k ≤ _
    omega
theorem e_allMin (h : RC A C) : c_Wood_allMinutes C = some (((mS (aW A) (wN (aW A)) : Nat) : Int), C) := by
  have hW := aW_OK (A := A)
  have hW1 := hW.1
  unfold c_Wood_allMinutes
  have key : zH (zloop c_Wood_allMinutes_L4 (0, 0) C) (fun y C' => y = ((mS (aW A) (wN (aW A)) : Nat) : Int) ∧ C' = C) := by
    refine zH_for (fun i x C' => x = (((mS (aW A) i : Nat) : Int), (i : Int)) ∧ C' = C) (wN (aW A)) 0 (Nat.zero_le _) ⟨rfl, rfl⟩ ?_ ?_
    · rintro i x C' hi ⟨rfl, rfl⟩
      have hm := mS_le hW i (by omega)
      have hw := hW.2 i hi
      unfold c_Wood_allMinutes_L4
      dsimp only
      have e1 : zadd ((mS (aW A) i : Nat) : Int) (wM (aW A) i : Int) = ((mS (aW A) i + wM (aW A) i : Nat) : Int) := by rw [zadd_e (by omega) (by omega)]; omega
      rw [h.2.1.2.1, if_neg (by omega), zg_t (by omega), Int.toNat_natCast, (h.2.1.2.2 i hi).2.2, e1, zinN (by omega)]
      exact zH_some ⟨rfl, rfl⟩
    · rintro x C' ⟨rfl, rfl⟩
      unfold c_Wood_allMinutes_L4
      dsimp only
      rw [h.2.1.2.1, if_pos (by omega)]
      exact zH_some ⟨rfl, rfl⟩
  obtain ⟨y, C', e, rfl, rfl⟩ := key
  rw [e, zbd_some]
def s_count (A : ZA) (x : Int) : Int := if x = 0 then (wN (aW A) : Int) else if 1 ≤ x ∧ x ≤ 5 then (aL A (x - 1).toNat : Int) else if x = 6 then (aN A : Int) else if x = 7 then ((mS (aW A) (wN (aW A)) : Nat) : Int) else if x = 8 then aX A else -2
theorem c_count (h : RC A C) {x : Int} : zH (c_N_count x C) (QC C (s_count A x) A) := by
  unfold c_N_count s_count
  by_cases h0 : x = 0
  · rw [if_neg (fun q => q h0), if_pos h0, h.2.1.2.1]
    exact zH_some (QC_same h)
  · rw [if_pos h0, if_neg h0]
    by_cases h1 : 1 ≤ x ∧ x ≤ 5
    · rw [if_neg (by omega), if_neg (by omega), zsub_e (by omega) (by omega), zg_t (by omega), if_pos h1, (h.1.1 (x - 1).toNat (by omega)).1]
      exact zH_some (QC_same h)
    · have e : (if x < 1 then some ((Sum.inl () : Unit ⊕ Int), C) else if 5 < x then some (Sum.inl (), C) else zg (0 ≤ zsub x 1 ∧ zsub x 1 < 5) (some (Sum.inr (C 8 (zsub x 1).toNat), C))) = some (Sum.inl (), C) := by
        by_cases q : x < 1
        · rw [if_pos q]
        · rw [if_neg q, if_pos (by omega)]
      rw [e, if_neg h1]
      show zH (if ¬ x = 6 then _ else _) _
      by_cases h6 : x = 6
      · rw [if_neg (fun q => q h6), if_pos h6, h.1.2.1.1]
        exact zH_some (QC_same h)
      · rw [if_pos h6, if_neg h6]
        by_cases h7 : x = 7
        · rw [if_neg (fun q => q h7), if_pos h7, e_allMin h, zbd_some]
          exact zH_some (QC_same h)
        · rw [if_pos h7, if_neg h7]
          by_cases h8 : x = 8
          · rw [if_neg (fun q => q h8), if_pos h8, h.1.2.2.2]
            exact zH_some (QC_same h)
          · rw [if_pos h8, if_neg h8]
            exact zH_some (QC_same h)
end ZCLASS4

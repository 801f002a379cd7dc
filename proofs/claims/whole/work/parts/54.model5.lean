/-! What the model's calls answer: sights, sheets, counts -/
section ZMODEL5
variable {A : ZA} {C C' : ZC}
/-- the state's rows but the sheets' and the finding, or the sights' -/
theorem m_seen (hA : aOK A) (h : RM A C) {w p : Int} : zH (d_seen w p C) (QM C (s_seen A w p).1 (s_seen A w p).2) := by
  unfold d_seen
  rw [m_in, zbd_some]
  by_cases h1 : 0 ≤ w ∧ w < 12
  · rw [if_pos (show 0 ≤ w ∧ w ≤ 11 by omega), if_neg (by decide), m_isPlace, zbd_some]
    by_cases h2 : 0 ≤ p ∧ p < 8
    · have hs : s_seen A w p = (if aN A < 4 then ((aN A : Int) + 1, (A.1, (aN A + 1, zup (aV A) (aN A) w, zup (aP A) (aN A) p), A.2.2)) else (-4, A)) := if_pos ⟨h1, h2⟩
      have e4 := h.2.2.1.1
      rw [if_pos h2, if_pos (by decide), e4, hs]
      by_cases h3 : aN A = 4
      · rw [if_neg (by omega), if_neg (by omega)]
        exact zH_some (QM_same h)
      · by_cases h4 : aN A < 4
        · rw [if_pos (by omega), if_pos h4, zg_t (by omega)]
          simp only [zu_ne (show (72 : Nat) ≠ 87 by decide), zu_ne (show (72 : Nat) ≠ 88 by decide), e4, Int.toNat_natCast]
          rw [zg_t (by omega), zadd2 (by omega), zu_eq]
          refine zH_some ⟨rfl, ⟨fun u hu => ?_, fun j hj => ?_, ⟨zu_eq, fun i hi => ?_⟩, fun s hs => ?_, ?_⟩, fun a ha => ?_⟩
          · rw [zu_nb (by omega), zu_nb (by omega), zu_nb (by omega), zu_nb (by omega), zu_nb (by omega), zu_nb (by omega)]; exact h.1 u hu
          · rw [zu_nb (by omega), zu_nb (by omega), zu_nb (by omega)]; exact h.2.1 j hj
          · show _ = zup (aV A) (aN A) w i ∧ _ = zup (aP A) (aN A) p i
            have r28 : zup2 (zup2 (zup2 C 87 (aN A) w) 88 (aN A) p) 72 23 ((aN A : Int) + 1) 87 = zup (C 87) (aN A) w := by rw [zu_nb (by decide), zu_nb (by decide), zu_row]
            have r29 : zup2 (zup2 (zup2 C 87 (aN A) w) 88 (aN A) p) 72 23 ((aN A : Int) + 1) 88 = zup (C 88) (aN A) p := by rw [zu_nb (by decide), zu_row, zu_nb (by decide)]
            rw [r28, r29]
            by_cases e : i = aN A
            · rw [e, zp_eq, zp_eq, zp_eq, zp_eq]; exact ⟨rfl, rfl⟩
            · have hi2 : i < aN A + 1 := hi
              rw [zp_ne e, zp_ne e, zp_ne e, zp_ne e]; exact h.2.2.1.2 i (by omega)
          · rw [zu_nb (by omega), zu_nb (by omega), zu_nb (by omega), zu_nb (by omega), zu_nb (by omega), zu_nb (by omega), zu_nb (by omega), zu_nb (by omega), zu_nb (by omega), zu_nb (by omega), zu_nb (by omega), zu_nb (by omega)]; exact h.2.2.2.1 s hs
          · rw [zu_nj (by decide), zu_nb (by decide), zu_nb (by decide)]; exact h.2.2.2.2
          · rw [zu_nb (by omega), zu_nb (by omega), zu_nb (by omega)]
        · exact absurd hA.2.2.1.1 (by omega)
    · rw [if_neg h2, if_neg (by decide), show s_seen A w p = (-2, A) from if_neg fun q => h2 q.2]
      exact zH_some (QM_same h)
  · rw [if_neg (show ¬ (0 ≤ w ∧ w ≤ 11) by omega), if_pos rfl, show s_seen A w p = (-2, A) from if_neg fun q => h1 q.1]
    exact zH_some (QM_same h)
theorem m_forget (h : RM A C) : zH (d_forget C) (QM C (s_forget A).1 (s_forget A).2) := by
  unfold d_forget
  refine zH_some ⟨h.2.2.1.1, ⟨fun u hu => ?_, fun j hj => ?_, ⟨zu_eq, fun i hi => absurd hi (Nat.not_lt_zero _)⟩, fun s hs => ?_, ?_⟩, fun a ha => zu_nb (by omega)⟩
  · rw [zu_nb (by omega), zu_nb (by omega)]; exact h.1 u hu
  · rw [zu_nb (by omega)]; exact h.2.1 j hj
  · rw [zu_nb (by omega), zu_nb (by omega), zu_nb (by omega), zu_nb (by omega)]; exact h.2.2.2.1 s hs
  · rw [zu_nj (by decide)]; exact h.2.2.2.2
theorem RM_X (h : RM A C) {x : Int} : RM (aSetX A x) (zup2 C 72 33 x) ∧ Frm C (zup2 C 72 33 x) := by
  refine ⟨⟨fun u hu => ?_, fun j hj => ?_, ?_, fun s hs => ?_, zu_eq⟩, fun a ha => zu_nb (by omega)⟩
  · rw [zu_nb (by omega), zu_nb (by omega)]; exact h.1 u hu
  · rw [zu_nb (by omega)]; exact h.2.1 j hj
  · rw [zu_nj (by decide), zu_nb (by decide), zu_nb (by decide)]; exact h.2.2.1
  · rw [zu_nb (by omega), zu_nb (by omega), zu_nb (by omega), zu_nb (by omega)]; exact h.2.2.2.1 s hs
theorem m_meets (h : RM A C) {x : Int} (hx : 0 ≤ x ∧ x ≤ 5) : zH (zbd (d_meets x C) fun v C => some (v, C)) (QM C (s_find A x).1 (s_find A x).2) := by
  unfold d_meets
  rw [zsub_e (by omega) (by omega), zbd_some]
  exact zH_some ⟨rfl, RM_X h⟩
/-- a sheet changed -/
theorem RM_S (h : RM A C) {s : Nat} (hs : s < 4) {f : Int} {n : Nat} {g : Nat → Int} (h91 : C' 91 = zup (C 91) s (if f = -1 then 0 else 1)) (h92 : f ≠ -1 → C' 92 s = f) (h92' : ∀ u, u ≠ s → C' 92 u = C 92 u) (h93 : C' 93 = zup (C 93) s (n : Int))
    (hg : ∀ i, i < 48 → C' 94 (48 * s + i) = g i) (hg2 : ∀ i, (i < 48 * s ∨ 48 * s + 48 ≤ i) → C' 94 i = C 94 i) (hf : ∀ a, a < 91 → C' a = C a) : RM (aSetS A s f n g) C' ∧ Frm C C' := by
  refine ⟨⟨fun u hu => ?_, fun j hj => ?_, ?_, fun u hu => ?_, ?_⟩, fun a ha => hf a (by omega)⟩
  · rw [hf 73 (by omega), hf 74 (by omega)]; exact h.1 u hu
  · rw [hf 78 (by omega)]; exact h.2.1 j hj
  · rw [hf 72 (by omega), hf 87 (by omega), hf 88 (by omega)]; exact h.2.2.1
  · have hu1 := h.2.2.2.1 u hu
    show _ = (if zup (aF A) s f u = -1 then (0 : Int) else 1) ∧ (zup (aF A) s f u ≠ -1 → _ = zup (aF A) s f u) ∧ _ = ((zup (aZ A) s n u : Nat) : Int) ∧ ∀ i, i < 48 → _ = zrow (aI A) s g u i
    rw [h91, h93]
    by_cases e : u = s
    · subst e
      rw [zp_eq, zp_eq, zp_eq, zp_eq, zr_eq]
      exact ⟨rfl, h92, rfl, hg⟩
    · rw [zp_ne e, zp_ne e, zp_ne e, zp_ne e, zr_ne e, h92' u e]
      refine ⟨hu1.1, hu1.2.1, hu1.2.2.1, fun i hi => ?_⟩
      rw [hg2 _ (by omega)]
      exact hu1.2.2.2 i hi
  · rw [hf 72 (by omega)]; exact h.2.2.2.2
theorem z48 {s i : Nat} (hs : s < 4) (hi : i < 48) : zadd (zmul 48 (s : Int)) (i : Int) = ((48 * s + i : Nat) : Int) := by
  have e : zmul 48 (s : Int) = ((48 * s : Nat) : Int) := by rw [zmul_e (by omega) (by omega)]; omega
  rw [e, zadd_e (by omega) (by omega)]; omega
theorem m_sheet (h : RM A C) {s f n : Int} : zH (d_sheet s f n C) (QM C (s_sheet A s f n).1 (s_sheet A s f n).2) := by
  unfold d_sheet
  rw [m_isSheet, zbd_some]
  by_cases h1 : 0 ≤ s ∧ s < 4
  · rw [if_pos h1, if_neg (by decide), m_in, zbd_some]
    by_cases h2 : 0 ≤ f ∧ f < 3
    · rw [if_pos (show 0 ≤ f ∧ f ≤ 2 by omega), if_neg (by decide)]
      by_cases h3 : n ≤ 48
      · have hs : s_sheet A s f n = (if n < 0 then s_find A 5 else (n, aSetS A s.toNat f n.toNat fun _ => 0)) := if_pos ⟨h1, h2, h3⟩
        rw [if_pos h3, hs]
        by_cases h4 : n < 0
        · rw [if_neg (by omega), if_pos h4]
          exact m_meets h (by decide)
        · obtain ⟨u, rfl⟩ : ∃ u : Nat, s = (u : Int) := ⟨s.toNat, by omega⟩
          have hu : u < 4 := by omega
          rw [if_pos (by omega), if_neg h4, zg_t h1, zg_t h1, zg_t h1, Int.toNat_natCast]
          refine zH_bd2 (P := fun _ C' => (∀ i, C' 94 i = if 48 * u ≤ i ∧ i < 48 * u + 48 then 0 else C 94 i) ∧ ∀ a, a ≠ 94 → C' a = (zup2 (zup2 (zup2 C 91 u 1) 92 u f) 93 u n) a) ?_ (fun _ C1 h5 => ?_)
          · refine zH_for (fun i x C' => x = (i : Int) ∧ (∀ q, C' 94 q = if 48 * u ≤ q ∧ q < 48 * u + i then 0 else C 94 q) ∧ ∀ a, a ≠ 94 → C' a = (zup2 (zup2 (zup2 C 91 u 1) 92 u f) 93 u n) a) 48 0 (Nat.zero_le _) ⟨rfl, fun q => ?_, fun _ _ => rfl⟩ ?_ ?_
            · rw [if_neg (by omega), zu_ne (by decide), zu_ne (by decide), zu_ne (by decide)]
            · rintro i x C1 hi ⟨rfl, k1, k2⟩
              unfold d_sheet_L59
              rw [if_neg (by omega), z48 hu hi, zg_t (by omega), Int.toNat_natCast]
              refine zH_some ⟨zinN (by omega), fun q => ?_, fun a ha => (zu_nb ha).trans (k2 a ha)⟩
              by_cases e : q = 48 * u + i
              · subst e; rw [zu_eq, if_pos (by omega)]
              · rw [zu_nj e, k1 q]
                by_cases e2 : 48 * u ≤ q ∧ q < 48 * u + i
                · rw [if_pos e2, if_pos (by omega)]
                · rw [if_neg e2, if_neg (by omega)]
            · rintro x C1 ⟨rfl, k1, k2⟩
              unfold d_sheet_L59
              rw [if_pos (by omega)]
              exact zH_some ⟨k1, k2⟩
          · obtain ⟨k1, k2⟩ := h5
            refine zH_some ⟨rfl, RM_S h hu ?_ (fun _ => ?_) (fun q hq => ?_) ?_ (fun i hi => ?_) (fun i hi => ?_) (fun a ha => ?_)⟩
            · rw [k2 91 (by decide), zu_nb (by decide), zu_nb (by decide), zu_row, if_neg (by omega)]
            · rw [k2 92 (by decide), zu_ne (by decide), zu_eq]
            · rw [k2 92 (by decide), zu_ne (by decide), zu_nj hq, zu_ne (by decide)]
            · rw [k2 93 (by decide), zu_row, zu_nb (by decide), zu_nb (by decide), Int.toNat_of_nonneg (by omega)]
            · rw [k1, if_pos (by omega)]
            · rw [k1, if_neg (by omega)]
            · rw [k2 a (by omega), zu_nb (by omega), zu_nb (by omega), zu_nb (by omega)]
      · rw [if_neg h3, show s_sheet A s f n = (-2, A) from if_neg fun q => h3 q.2.2]
        exact zH_some (QM_same h)
    · rw [if_neg (show ¬ (0 ≤ f ∧ f ≤ 2) by omega), if_pos rfl, show s_sheet A s f n = (-2, A) from if_neg fun q => h2 q.2.1]
      exact zH_some (QM_same h)
  · rw [if_neg h1, if_pos rfl, show s_sheet A s f n = (-2, A) from if_neg fun q => h1 q.1]
    exact zH_some (QM_same h)
theorem m_there (h : RM A C) {s : Nat} (hs : s < 4) : C 91 s = if aF A s = -1 then 0 else 1 := (h.2.2.2.1 s hs).1
theorem m_lose (h : RM A C) {s : Int} : zH (d_lose s C) (QM C (s_lose A s).1 (s_lose A s).2) := by
  unfold d_lose
  rw [m_isSheet, zbd_some]
  by_cases h1 : 0 ≤ s ∧ s < 4
  · obtain ⟨u, rfl⟩ : ∃ u : Nat, s = (u : Int) := ⟨s.toNat, by omega⟩
    have hu : u < 4 := by omega
    have hs : s_lose A (u : Int) = (if aF A u = -1 then s_find A 1 else ((aZ A u : Int), aSetS A u (-1) (aZ A u) (aI A u))) := if_pos h1
    have hx := h.2.2.2.1 u hu
    rw [if_pos h1, if_pos (by decide), zg_t h1, Int.toNat_natCast, hx.1, hs]
    by_cases e : aF A u = -1
    · rw [if_pos e, if_neg (by decide), if_pos e]
      exact m_meets h (by decide)
    · rw [if_neg e, if_pos (by decide), if_neg e, zg_t h1, zg_t h1, zu_ne (by decide), hx.2.2.1]
      refine zH_some ⟨rfl, RM_S h hu zu_row (fun q => absurd rfl q) (fun q hq => zu_ne (by decide)) ?_ (fun i hi => ?_) (fun i hi => zu_ne (by decide)) (fun a ha => zu_nb (by omega))⟩
      · rw [zu_nb (by decide)]
        funext j
        unfold zup
        by_cases ej : j = u
        · rw [if_pos ej, ej]; exact hx.2.2.1
        · rw [if_neg ej]
      · rw [zu_ne (by decide)]; exact hx.2.2.2 i hi
  · rw [if_neg h1, if_neg (by decide), show s_lose A s = (-2, A) from if_neg h1]
    exact zH_some (QM_same h)
theorem m_lacks (hA : aOK A) (h : RM A C) {s : Nat} (hs : s < 4) {f i : Int} : d_lacks (s : Int) f i C = some (fo A s f i, C) := by
  have hx := h.2.2.2.1 s hs
  have hz := (hA.2.2.2.1 s hs).2.2
  unfold d_lacks fo
  rw [zg_t (by omega), Int.toNat_natCast, hx.1]
  by_cases e : aF A s = -1
  · rw [if_pos e, if_neg (by decide), if_pos e]
  · rw [if_neg e, if_pos (by decide), if_neg e, zg_t (by omega), hx.2.1 e]
    by_cases e2 : aF A s = f
    · rw [if_pos e2, if_pos e2, zg_t (by omega), hx.2.2.1, zsub_e (by omega) (by omega), m_in, zbd_some]
      by_cases e3 : 0 ≤ i ∧ i < (aZ A s : Int)
      · rw [if_pos (show 0 ≤ i ∧ i ≤ (aZ A s : Int) - 1 by omega), if_pos e3, if_neg (by decide)]
      · rw [if_neg (show ¬ (0 ≤ i ∧ i ≤ (aZ A s : Int) - 1) by omega), if_neg e3, if_pos rfl]
    · rw [if_neg e2, if_neg e2]
theorem m_keep (h : RM A C) {s i : Nat} (hs : s < 4) (hi : i < 48) (hF : aF A s ≠ -1) {v : Int} : d_keep (s : Int) (i : Int) v C = some (0, zup2 C 94 (48 * s + i) (cv (aF A s) v)) := by
  have hx := h.2.2.2.1 s hs
  unfold d_keep cv
  rw [zg_t (by omega), Int.toNat_natCast, hx.2.1 hF, z48 hs hi]
  by_cases e0 : aF A s = 0
  · rw [if_neg (fun q => q e0), if_pos e0, zg_t (by omega)]; rfl
  · rw [if_pos e0, if_neg e0, zg_t (by omega)]
    by_cases e1 : aF A s = 1
    · rw [if_neg (fun q => q e1), if_pos e1, zg_t (by omega)]; rfl
    · rw [if_pos e1, if_neg e1, zg_t (by omega)]; rfl
/-- items of a sheet that is there changed -/
theorem RM_I (h : RM A C) {s : Nat} (hs : s < 4) {g : Nat → Int} (hg : ∀ i, i < 48 → C' 94 (48 * s + i) = g i) (hg2 : ∀ i, (i < 48 * s ∨ 48 * s + 48 ≤ i) → C' 94 i = C 94 i) (hf : ∀ a, a ≠ 94 → a ≠ 95 → C' a = C a) : RM (aSetI A s g) C' ∧ Frm C C' := by
  have hx := h.2.2.2.1 s hs
  refine RM_S h hs ?_ (fun q => ?_) (fun q hq => ?_) ?_ hg hg2 (fun a ha => hf a (by omega) (by omega))
  · rw [hf 91 (by decide) (by decide)]
    funext j
    unfold zup
    split
    · next e => rw [e]; exact hx.1
    · rfl
  · rw [hf 92 (by decide) (by decide)]; exact hx.2.1 q
  · rw [hf 92 (by decide) (by decide)]
  · rw [hf 93 (by decide) (by decide)]
    funext j
    unfold zup
    split
    · next e => rw [e]; exact hx.2.2.1
    · rfl
theorem m_put (hA : aOK A) (h : RM A C) {s f i v : Int} : zH (d_put s f i v C) (QM C (s_put A s f i v).1 (s_put A s f i v).2) := by
  unfold d_put
  rw [m_isSheet, zbd_some]
  by_cases h1 : 0 ≤ s ∧ s < 4
  · rw [if_pos h1, if_neg (by decide), m_in, zbd_some]
    by_cases h2 : 0 ≤ f ∧ f < 3
    · obtain ⟨u, rfl⟩ : ∃ u : Nat, s = (u : Int) := ⟨s.toNat, by omega⟩
      have hu : u < 4 := by omega
      have hs : s_put A (u : Int) f i v = (if fo A u f i = 0 then (1, aSetI A u (zup (aI A u) i.toNat (cv (aF A u) v))) else s_find A (fo A u f i)) := if_pos ⟨h1, h2⟩
      have hx := h.2.2.2.1 u hu
      have hfr := fo_r (A := A) u f i
      rw [if_pos (show 0 ≤ f ∧ f ≤ 2 by omega), if_pos (by decide), m_lacks hA h hu, zbd_some, hs]
      by_cases h3 : fo A u f i = 0
      · obtain ⟨k1, k2, k3, k4⟩ := fo_0 hA hu h3
        obtain ⟨j, rfl⟩ : ∃ j : Nat, i = (j : Int) := ⟨i.toNat, by omega⟩
        rw [if_pos (by omega), if_pos h3, m_keep h hu (by omega) (by omega), zbd_some]
        refine zH_some ⟨rfl, RM_I h hu (fun q hq => ?_) (fun q hq => zu_nj (by omega)) (fun a ha _ => zu_nb ha)⟩
        rw [Int.toNat_natCast]
        by_cases e : q = j
        · subst e; rw [zu_eq, zp_eq]
        · rw [zu_nj (by omega), zp_ne e]; exact hx.2.2.2 q hq
      · rw [if_neg (by omega), if_neg h3]
        exact m_meets h hfr
    · rw [if_neg (show ¬ (0 ≤ f ∧ f ≤ 2) by omega), if_neg (by decide), show s_put A s f i v = (-2, A) from if_neg fun q => h2 q.2]
      exact zH_some (QM_same h)
  · rw [if_neg h1, if_pos rfl, show s_put A s f i v = (-2, A) from if_neg fun q => h1 q.1]
    exact zH_some (QM_same h)
theorem m_get (hA : aOK A) (h : RM A C) {s f i : Int} : zH (d_get s f i C) (QM C (s_get A s f i).1 (s_get A s f i).2) := by
  unfold d_get
  rw [m_isSheet, zbd_some]
  by_cases h1 : 0 ≤ s ∧ s < 4
  · rw [if_pos h1, if_neg (by decide), m_in, zbd_some]
    by_cases h2 : 0 ≤ f ∧ f < 3
    · obtain ⟨u, rfl⟩ : ∃ u : Nat, s = (u : Int) := ⟨s.toNat, by omega⟩
      have hu : u < 4 := by omega
      have hs : s_get A (u : Int) f i = (if fo A u f i = 0 then (aI A u i.toNat, A) else (-2147483648, aSetX A (fo A u f i))) := if_pos ⟨h1, h2⟩
      have hx := h.2.2.2.1 u hu
      have hfr := fo_r (A := A) u f i
      rw [if_pos (show 0 ≤ f ∧ f ≤ 2 by omega), if_pos (by decide), m_lacks hA h hu, zbd_some, hs]
      by_cases h3 : fo A u f i = 0
      · obtain ⟨k1, k2, k3, k4⟩ := fo_0 hA hu h3
        obtain ⟨j, rfl⟩ : ∃ j : Nat, i = (j : Int) := ⟨i.toNat, by omega⟩
        rw [if_pos (by omega), if_pos h3, z48 hu (by omega), zg_t (by omega), Int.toNat_natCast, Int.toNat_natCast, hx.2.2.2 j (by omega)]
        exact zH_some (QM_same h)
      · rw [if_neg (by omega), if_neg h3]
        exact zH_some ⟨rfl, RM_X h⟩
    · rw [if_neg (show ¬ (0 ≤ f ∧ f ≤ 2) by omega), if_neg (by decide), show s_get A s f i = (-2147483648, A) from if_neg fun q => h2 q.2]
      exact zH_some (QM_same h)
  · rw [if_neg h1, if_pos rfl, show s_get A s f i = (-2147483648, A) from if_neg fun q => h1 q.1]
    exact zH_some (QM_same h)
end ZMODEL5

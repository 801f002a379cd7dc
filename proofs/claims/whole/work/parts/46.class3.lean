/-! What the class's calls answer: sights, sheets, counts -/
section ZCLASS3
variable {A : ZA} {C : ZC}
def s_seen (A : ZA) (w p : Int) : Int × ZA := if (0 ≤ w ∧ w < 12) ∧ 0 ≤ p ∧ p < 8 then (if aN A < 4 then ((aN A : Int) + 1, (A.1, (aN A + 1, zup (aV A) (aN A) w, zup (aP A) (aN A) p), A.2.2)) else (-4, A)) else (-2, A)
theorem RC_of {A A' : ZA} {C' : ZC} (h : RC A C) (e1 : A'.1 = A.1) (h0 : R0 A' C') (hf : ∀ a, 9 ≤ a → a < 72 → ¬ (27 ≤ a ∧ a ≤ 29) → ¬ (48 ≤ a ∧ a ≤ 55) → C' a = C a) : RC A' C' := by
  have eT : aT A' = aT A := by unfold aT; rw [e1]
  have eL : aL A' = aL A := by unfold aL; rw [e1]
  have eH : aH A' = aH A := by unfold aH; rw [e1]
  have eW : aW A' = aW A := by unfold aW; rw [eT, eL]
  have eR : aR A' = aR A := by funext k; unfold aR; rw [eW, eT, eL, eH]
  refine ⟨h0, ?_, fun k hk => ?_⟩
  · have := Rw_fr (C' := C') (fun a ha => hf a (by omega) (by omega) (by omega) (by omega)) h.2.1
    unfold Rw at *
    rw [eT, eL, eW]
    exact this
  · have := Rk_fr (C' := C') (fun a ha => hf a (by omega) (by omega) (by omega) (by omega)) (h.2.2 k hk)
    unfold Rk at *
    rw [eW, eR, eH]
    exact this
theorem c_seen (h : RC A C) {w p : Int} : zH (c_N_seen w p C) (QC C (s_seen A w p).1 (s_seen A w p).2) := by
  unfold c_N_seen
  rw [e_within, zbd_some]
  by_cases h1 : 0 ≤ w ∧ w < 12
  · rw [if_pos h1, if_neg (by decide), e_within, zbd_some]
    by_cases h2 : 0 ≤ p ∧ p < 8
    · have hs : s_seen A w p = (if aN A < 4 then ((aN A : Int) + 1, (A.1, (aN A + 1, zup (aV A) (aN A) w, zup (aP A) (aN A) p), A.2.2)) else (-4, A)) := if_pos ⟨h1, h2⟩
      rw [if_pos h2, if_pos (by decide), hs]
      have e4 := h.1.2.1.1
      unfold c_Sights_add
      rw [e4]
      by_cases h3 : aN A < 4
      · rw [if_pos (by omega), if_pos h3, zg_t (by omega)]
        simp only [zu_ne (show (27 : Nat) ≠ 28 by decide), zu_ne (show (27 : Nat) ≠ 29 by decide), e4, Int.toNat_natCast]
        rw [zg_t (by omega), zadd2 (by omega), zbd_some, if_neg (by decide), zu_eq]
        refine zH_some ⟨rfl, RC_of h rfl ⟨fun t ht => ?_, ⟨?_, fun i hi => ?_⟩, fun s hs => ?_, ?_⟩ (fun a a1 a2 a3 a4 => ?_), fun a ha => ?_⟩
        · rw [zu_nb (by omega), zu_nb (by omega), zu_nb (by omega), zu_nb (by omega), zu_nb (by omega), zu_nb (by omega)]
          exact h.1.1 t ht
        · rw [zu_eq]; rfl
        · show _ = zup (aV A) (aN A) w i ∧ _ = zup (aP A) (aN A) p i
          have r28 : zup2 (zup2 (zup2 C 28 (aN A) w) 29 (aN A) p) 27 4 ((aN A : Int) + 1) 28 = zup (C 28) (aN A) w := by rw [zu_nb (by decide), zu_nb (by decide), zu_row]
          have r29 : zup2 (zup2 (zup2 C 28 (aN A) w) 29 (aN A) p) 27 4 ((aN A : Int) + 1) 29 = zup (C 29) (aN A) p := by rw [zu_nb (by decide), zu_row, zu_nb (by decide)]
          rw [r28, r29]
          by_cases e : i = aN A
          · rw [e, zp_eq, zp_eq, zp_eq, zp_eq]; exact ⟨rfl, rfl⟩
          · have hi2 : i < aN A + 1 := hi
            rw [zp_ne e, zp_ne e, zp_ne e, zp_ne e]; exact h.1.2.1.2 i (by omega)
        · rw [zu_nb (by omega), zu_nb (by omega), zu_nb (by omega), zu_nb (by omega), zu_nb (by omega), zu_nb (by omega), zu_nb (by omega), zu_nb (by omega), zu_nb (by omega)]
          exact h.1.2.2.1 s hs
        · rw [zu_nb (by omega), zu_nb (by omega), zu_nb (by omega)]; exact h.1.2.2.2
        · rw [zu_nb (by omega), zu_nb (by omega), zu_nb (by omega)]
        · rw [zu_nb (by omega), zu_nb (by omega), zu_nb (by omega)]
      · rw [if_neg (by omega), if_neg h3, zbd_some, if_pos rfl]
        exact zH_some (QC_same h)
    · rw [if_neg h2, if_neg (by decide), show s_seen A w p = (-2, A) from if_neg fun q => h2 q.2]
      exact zH_some (QC_same h)
  · rw [if_neg h1, if_pos rfl, show s_seen A w p = (-2, A) from if_neg fun q => h1 q.1]
    exact zH_some (QC_same h)
def s_forget (A : ZA) : Int × ZA := ((aN A : Int), (A.1, (0, aV A, aP A), A.2.2))
theorem c_forget (h : RC A C) : zH (c_N_forget C) (QC C (s_forget A).1 (s_forget A).2) := by
  unfold c_N_forget
  refine zH_some ⟨h.1.2.1.1, RC_of h rfl ⟨fun t ht => ?_, ⟨zu_eq, fun i hi => absurd hi (Nat.not_lt_zero _)⟩, fun s hs => ?_, ?_⟩ (fun a a1 a2 a3 a4 => zu_nb (by omega)), fun a ha => zu_nb (by omega)⟩
  · rw [zu_nb (by omega), zu_nb (by omega)]; exact h.1.1 t ht
  · rw [zu_nb (by omega), zu_nb (by omega), zu_nb (by omega)]; exact h.1.2.2.1 s hs
  · rw [zu_nb (by omega)]; exact h.1.2.2.2
theorem e_shas {s : Int} : c_Sheets_has s C = some ((if 0 ≤ s ∧ s < 4 then 1 else 0), C) := by
  unfold c_Sheets_has
  rw [e_within, zbd_some]
  exact zg_t (by split <;> omega)
theorem e_isForm {f : Int} : c_Sheets_isForm f C = some ((if 0 ≤ f ∧ f < 3 then 1 else 0), C) := by
  unfold c_Sheets_isForm
  rw [e_within, zbd_some]
  exact zg_t (by split <;> omega)
theorem e_isLost (h : RC A C) {s : Nat} (hs : s < 4) : c_Sheets_isLost (s : Int) C = some ((if aF A s = -1 then 1 else 0), C) := by
  unfold c_Sheets_isLost
  rw [zg_t (by omega), Int.toNat_natCast, (h.1.2.2.1 s hs).1]
  by_cases e : aF A s = -1
  · rw [if_neg (fun q => q e), if_pos e]
  · rw [if_pos e, if_neg e]
/-- a finding -/
def s_find (A : ZA) (x : Int) : Int × ZA := (-10 - x, aSetX A x)
theorem RC_X (h : RC A C) {x : Int} : RC (aSetX A x) (zup2 C 48 3 x) ∧ Frc C (zup2 C 48 3 x) := by
  refine ⟨RC_of h rfl ⟨fun t ht => ?_, ⟨?_, fun i hi => ?_⟩, fun s hs => ?_, zu_eq⟩ (fun a a1 a2 a3 a4 => zu_nb (by omega)), fun a ha => zu_nb (by omega)⟩
  · rw [zu_nb (by omega), zu_nb (by omega)]; exact h.1.1 t ht
  · rw [zu_nb (by omega)]; exact h.1.2.1.1
  · rw [zu_nb (by omega), zu_nb (by omega)]; exact h.1.2.1.2 i hi
  · rw [zu_nb (by omega), zu_nb (by omega), zu_nb (by omega)]; exact h.1.2.2.1 s hs
theorem c_find (h : RC A C) {x : Int} (hx : 0 ≤ x ∧ x ≤ 5) : c_Sheets_find x C = some (-10 - x, zup2 C 48 3 x) := by
  unfold c_Sheets_find
  rw [zsub_e (by omega) (by omega)]
theorem h_find (h : RC A C) {x : Int} (hx : 0 ≤ x ∧ x ≤ 5) : zH (zbd (c_Sheets_find x C) fun v C => some (v, C)) (QC C (s_find A x).1 (s_find A x).2) := by
  rw [c_find h hx, zbd_some]
  exact zH_some ⟨rfl, RC_X h⟩
/-- a sheet changed: form, size, items -/
def aSetS (A : ZA) (s : Nat) (f : Int) (n : Nat) (g : Nat → Int) : ZA := (A.1, A.2.1, (zup (aF A) s f, zup (aZ A) s n, zrow (aI A) s g), A.2.2.2)
theorem RC_S {C' : ZC} (h : RC A C) {s : Nat} (hs : s < 4) {f : Int} {n : Nat} {g : Nat → Int} (h55 : C' 55 = zup (C 55) s f) (h54 : C' 54 = zup (C 54) s (n : Int)) (hg : ∀ i, i < 48 → C' (50 + s) i = g i)
    (hf : ∀ a, a ≠ 50 + s → a ≠ 54 → a ≠ 55 → C' a = C a) : RC (aSetS A s f n g) C' ∧ Frc C C' := by
  refine ⟨RC_of h rfl ⟨fun t ht => ?_, ⟨?_, fun i hi => ?_⟩, fun u hu => ?_, ?_⟩ (fun a a1 a2 a3 a4 => hf a (by omega) (by omega) (by omega)), fun a ha => hf a (by omega) (by omega) (by omega)⟩
  · rw [hf 8 (by omega) (by omega) (by omega), hf (3 + t) (by omega) (by omega) (by omega)]; exact h.1.1 t ht
  · rw [hf 27 (by omega) (by omega) (by omega)]; exact h.1.2.1.1
  · rw [hf 28 (by omega) (by omega) (by omega), hf 29 (by omega) (by omega) (by omega)]; exact h.1.2.1.2 i hi
  · have hu1 := h.1.2.2.1 u hu
    show _ = zup (aF A) s f u ∧ _ = ((zup (aZ A) s n u : Nat) : Int) ∧ ∀ i, i < 48 → _ = zrow (aI A) s g u i
    rw [h55, h54]
    by_cases e : u = s
    · subst e
      rw [zp_eq, zp_eq, zp_eq, zp_eq, zr_eq]
      exact ⟨rfl, rfl, hg⟩
    · rw [zp_ne e, zp_ne e, zp_ne e, zp_ne e, zr_ne e, hf (50 + u) (by omega) (by omega) (by omega)]
      exact hu1
  · rw [hf 48 (by omega) (by omega) (by omega)]; exact h.1.2.2.2
def s_sheet (A : ZA) (s f n : Int) : Int × ZA := if (0 ≤ s ∧ s < 4) ∧ (0 ≤ f ∧ f < 3) ∧ n ≤ 48 then (if n < 0 then s_find A 5 else (n, aSetS A s.toNat f n.toNat fun _ => 0)) else (-2, A)
theorem c_sheet (h : RC A C) {s f n : Int} : zH (c_N_sheet s f n C) (QC C (s_sheet A s f n).1 (s_sheet A s f n).2) := by
  unfold c_N_sheet
  rw [e_shas, zbd_some]
  by_cases h1 : 0 ≤ s ∧ s < 4
  · rw [if_pos h1, if_neg (by decide), e_isForm, zbd_some]
    by_cases h2 : 0 ≤ f ∧ f < 3
    · rw [if_pos h2, if_neg (by decide)]
      by_cases h3 : n ≤ 48
      · have hs : s_sheet A s f n = (if n < 0 then s_find A 5 else (n, aSetS A s.toNat f n.toNat fun _ => 0)) := if_pos ⟨h1, h2, h3⟩
        rw [if_pos h3, hs]
        by_cases h4 : n < 0
        · rw [if_neg (by omega), if_pos h4]
          exact h_find h (by decide)
        · obtain ⟨u, rfl⟩ : ∃ u : Nat, s = (u : Int) := ⟨s.toNat, by omega⟩
          rw [if_pos (by omega), if_neg h4]
          unfold c_Sheets_renew
          rw [zg_t h1, Int.toNat_natCast]
          refine zH_bd2 (P := fun _ C' => C' 55 = zup (C 55) u f ∧ C' 54 = zup (C 54) u n ∧ (∀ i, i < 48 → C' (50 + u) i = 0) ∧ ∀ a, a ≠ 50 + u → a ≠ 54 → a ≠ 55 → C' a = C a) (zH_bd2 (h_fill (n := 48) (by decide)) (fun _ C1 h5 => ?_)) (fun _ C1 h5 => ?_)
          · obtain ⟨f1, f2⟩ := h5
            rw [zg_t h1, zg_t h1]
            refine zH_some ⟨?_, ?_, fun i hi => ?_, fun a a1 a2 a3 => ?_⟩
            · rw [zu_row, zu_nb (by omega), f1 55 (by omega)]
            · rw [zu_nb (by omega), zu_row, f1 54 (by omega)]
            · rw [zu_nb (by omega), zu_nb (by omega), f2 i, if_pos hi]
            · rw [zu_nb (by omega), zu_nb (by omega), f1 a (by omega)]
          · obtain ⟨g1, g2, g3, g4⟩ := h5
            have g2' : C1 54 = zup (C 54) u ((n.toNat : Nat) : Int) := by rw [g2, Int.toNat_of_nonneg (by omega)]
            exact zH_some ⟨rfl, RC_S h (show u < 4 by omega) g1 g2' g3 g4⟩
      · rw [if_neg h3, show s_sheet A s f n = (-2, A) from if_neg fun q => h3 q.2.2]
        exact zH_some (QC_same h)
    · rw [if_neg h2, if_pos rfl, show s_sheet A s f n = (-2, A) from if_neg fun q => h2 q.2.1]
      exact zH_some (QC_same h)
  · rw [if_neg h1, if_pos rfl, show s_sheet A s f n = (-2, A) from if_neg fun q => h1 q.1]
    exact zH_some (QC_same h)
def s_lose (A : ZA) (s : Int) : Int × ZA := if 0 ≤ s ∧ s < 4 then (if aF A s.toNat = -1 then s_find A 1 else ((aZ A s.toNat : Int), aSetS A s.toNat (-1) (aZ A s.toNat) (aI A s.toNat))) else (-2, A)
theorem c_lose (h : RC A C) {s : Int} : zH (c_N_lose s C) (QC C (s_lose A s).1 (s_lose A s).2) := by
  unfold c_N_lose
  rw [e_shas, zbd_some]
  by_cases h1 : 0 ≤ s ∧ s < 4
  · obtain ⟨u, rfl⟩ : ∃ u : Nat, s = (u : Int) := ⟨s.toNat, by omega⟩
    have hu : u < 4 := by omega
    have hs : s_lose A (u : Int) = (if aF A u = -1 then s_find A 1 else ((aZ A u : Int), aSetS A u (-1) (aZ A u) (aI A u))) := if_pos h1
    rw [if_pos h1, if_pos (by decide), e_isLost h hu, zbd_some, hs]
    by_cases e : aF A u = -1
    · rw [if_pos e, if_pos e, if_neg (by decide)]
      exact h_find h (by decide)
    · rw [if_neg e, if_neg e, if_pos rfl, zg_t h1, zg_t h1, Int.toNat_natCast, zu_ne (by omega), (h.1.2.2.1 u hu).2.1]
      refine zH_some ⟨rfl, RC_S h hu zu_row ?_ (fun i hi => ?_) (fun a a1 a2 a3 => zu_nb a3)⟩
      · rw [zu_nb (by omega)]
        funext j
        unfold zup
        by_cases ej : j = u
        · rw [if_pos ej, ej]; exact (h.1.2.2.1 u hu).2.1
        · rw [if_neg ej]
      · rw [zu_nb (by omega)]; exact (h.1.2.2.1 u hu).2.2 i hi
  · rw [if_neg h1, if_neg (by decide), show s_lose A s = (-2, A) from if_neg h1]
    exact zH_some (QC_same h)
/-- what stands against item i of a sheet, treated as of a form -/
def fo (A : ZA) (s : Nat) (f i : Int) : Int := if aF A s = -1 then 1 else if aF A s = f then (if 0 ≤ i ∧ i < (aZ A s : Int) then 0 else 2) else 3
theorem fo_r (s : Nat) (f i : Int) : 0 ≤ fo A s f i ∧ fo A s f i ≤ 5 := by
  unfold fo
  repeat' split
  all_goals omega
theorem e_findingOf (h : RC A C) {s : Nat} (hs : s < 4) {f i : Int} : c_Sheets_findingOf (s : Int) f i C = some (fo A s f i, C) := by
  unfold c_Sheets_findingOf fo
  rw [e_isLost h hs, zbd_some]
  by_cases e : aF A s = -1
  · rw [if_pos e, if_pos e, if_neg (by decide)]
  · rw [if_neg e, if_neg e, if_pos rfl, zg_t (by omega), Int.toNat_natCast, (h.1.2.2.1 s hs).1]
    by_cases e2 : aF A s = f
    · rw [if_pos e2, if_pos e2, zg_t (by omega), (h.1.2.2.1 s hs).2.1, e_within, zbd_some]
      by_cases e3 : 0 ≤ i ∧ i < (aZ A s : Int)
      · rw [if_pos e3, if_pos e3, if_neg (by decide)]
      · rw [if_neg e3, if_neg e3, if_pos rfl]
    · rw [if_neg e2, if_neg e2]
def cv (f v : Int) : Int := if f = 0 then zi2b v else if f = 1 then zi2s v else v
theorem e_set (h : RC A C) {s i : Nat} (hs : s < 4) (hi : i < 48) {v : Int} : c_Sheets_set (s : Int) (i : Int) v C = some (0, zup2 C (50 + s) i (cv (aF A s) v)) := by
  unfold c_Sheets_set cv
  rw [zg_t (by omega), zg_t (by omega), Int.toNat_natCast, (h.1.2.2.1 s hs).1]
  by_cases e0 : aF A s = 0
  · rw [if_neg (fun q => q e0), if_pos e0, zg_t (by omega)]; rfl
  · rw [if_pos e0, if_neg e0]
    by_cases e1 : aF A s = 1
    · rw [if_neg (fun q => q e1), if_pos e1, zg_t (by omega)]; rfl
    · rw [if_pos e1, if_neg e1, zg_t (by omega)]; rfl
/-- an item changed -/
def aSetI (A : ZA) (s : Nat) (g : Nat → Int) : ZA := aSetS A s (aF A s) (aZ A s) g
theorem RC_I {C' : ZC} (h : RC A C) {s : Nat} (hs : s < 4) {g : Nat → Int} (hg : ∀ i, i < 48 → C' (50 + s) i = g i) (hf : ∀ a, a ≠ 50 + s → C' a = C a) : RC (aSetI A s g) C' ∧ Frc C C' := by
  have hs1 := h.1.2.2.1 s hs
  refine RC_S h hs ?_ ?_ hg (fun a a1 _ _ => hf a a1)
  · rw [hf 55 (by omega)]
    funext j
    unfold zup
    split
    · next e => rw [e]; exact hs1.1
    · rfl
  · rw [hf 54 (by omega)]
    funext j
    unfold zup
    split
    · next e => rw [e]; exact hs1.2.1
    · rfl
def s_put (A : ZA) (s f i v : Int) : Int × ZA := if (0 ≤ s ∧ s < 4) ∧ 0 ≤ f ∧ f < 3 then (if fo A s.toNat f i = 0 then (1, aSetI A s.toNat (zup (aI A s.toNat) i.toNat (cv (aF A s.toNat) v))) else s_find A (fo A s.toNat f i)) else (-2, A)
theorem fo_0 (hA : aOK A) {s : Nat} (hs : s < 4) {f i : Int} (h : fo A s f i = 0) : aF A s = f ∧ 0 ≤ i ∧ i < (aZ A s : Int) ∧ i < 48 := by
  have := (hA.2.2.2.1 s hs).2.2
  unfold fo at h
  split at h
  · omega
  · split at h
    · split at h
      · refine ⟨by assumption, by omega, by omega, by omega⟩
      · omega
    · omega
theorem c_put (hA : aOK A) (h : RC A C) {s f i v : Int} : zH (c_N_put s f i v C) (QC C (s_put A s f i v).1 (s_put A s f i v).2) := by
  unfold c_N_put
  rw [e_shas, zbd_some]
  by_cases h1 : 0 ≤ s ∧ s < 4
  · rw [if_pos h1, if_neg (by decide), e_isForm, zbd_some]
    by_cases h2 : 0 ≤ f ∧ f < 3
    · obtain ⟨u, rfl⟩ : ∃ u : Nat, s = (u : Int) := ⟨s.toNat, by omega⟩
      have hu : u < 4 := by omega
      have hs : s_put A (u : Int) f i v = (if fo A u f i = 0 then (1, aSetI A u (zup (aI A u) i.toNat (cv (aF A u) v))) else s_find A (fo A u f i)) := if_pos ⟨h1, h2⟩
      rw [if_pos h2, if_pos (by decide), e_findingOf h hu, zbd_some, hs]
      by_cases h3 : fo A u f i = 0
      · obtain ⟨k1, k2, k3, k4⟩ := fo_0 hA hu h3
        obtain ⟨j, rfl⟩ : ∃ j : Nat, i = (j : Int) := ⟨i.toNat, by omega⟩
        rw [if_pos h3, if_pos h3, e_set h hu (by omega), zbd_some]
        refine zH_some ⟨rfl, RC_I h hu (fun q hq => ?_) (fun a ha => zu_nb ha)⟩
        rw [Int.toNat_natCast]
        by_cases e : q = j
        · subst e; rw [zu_eq, zp_eq]
        · rw [zu_nj e, zp_ne e]; exact (h.1.2.2.1 u hu).2.2 q hq
      · rw [if_neg h3, if_neg h3]
        exact h_find h (fo_r u f i)
    · rw [if_neg h2, if_neg (by decide), show s_put A s f i v = (-2, A) from if_neg fun q => h2 q.2]
      exact zH_some (QC_same h)
  · rw [if_neg h1, if_pos rfl, show s_put A s f i v = (-2, A) from if_neg fun q => h1 q.1]
    exact zH_some (QC_same h)
def s_get (A : ZA) (s f i : Int) : Int × ZA := if (0 ≤ s ∧ s < 4) ∧ 0 ≤ f ∧ f < 3 then (if fo A s.toNat f i = 0 then (aI A s.toNat i.toNat, A) else (-2147483648, aSetX A (fo A s.toNat f i))) else (-2147483648, A)
theorem c_get (hA : aOK A) (h : RC A C) {s f i : Int} : zH (c_N_get s f i C) (QC C (s_get A s f i).1 (s_get A s f i).2) := by
  unfold c_N_get
  rw [e_shas, zbd_some]
  by_cases h1 : 0 ≤ s ∧ s < 4
  · rw [if_pos h1, if_neg (by decide), e_isForm, zbd_some]
    by_cases h2 : 0 ≤ f ∧ f < 3
    · obtain ⟨u, rfl⟩ : ∃ u : Nat, s = (u : Int) := ⟨s.toNat, by omega⟩
      have hu : u < 4 := by omega
      have hs : s_get A (u : Int) f i = (if fo A u f i = 0 then (aI A u i.toNat, A) else (-2147483648, aSetX A (fo A u f i))) := if_pos ⟨h1, h2⟩
      rw [if_pos h2, if_pos (by decide), e_findingOf h hu, zbd_some, hs]
      by_cases h3 : fo A u f i = 0
      · obtain ⟨k1, k2, k3, k4⟩ := fo_0 hA hu h3
        rw [if_pos h3, if_pos h3, zg_t h1, zg_t ⟨k2, k4⟩, Int.toNat_natCast, (h.1.2.2.1 u hu).2.2 i.toNat (by omega)]
        exact zH_some (QC_same h)
      · rw [if_neg h3, if_neg h3, c_find h (fo_r u f i), zbd_some]
        exact zH_some ⟨rfl, RC_X h⟩
    · rw [if_neg h2, if_neg (by decide), show s_get A s f i = (-2147483648, A) from if_neg fun q => h2 q.2]
      exact zH_some (QC_same h)
  · rw [if_neg h1, if_pos rfl, show s_get A s f i = (-2147483648, A) from if_neg fun q => h1 q.1]
    exact zH_some (QC_same h)
end ZCLASS3

/-! What the class's calls answer: the wood, walks, sheets, sights (s_..: the answer and the state behind it) -/
def QC (C : ZC) (v : Int) (A' : ZA) : Int → ZC → Prop := fun v' C' => v' = v ∧ RC A' C' ∧ Frc C C'
def inr (x : Int) (n : Nat) : Prop := 0 ≤ x ∧ x < (n : Int)
/-- the state with a text, its length; a home; sights; a sheet; a finding changed -/
def aSetT (A : ZA) (t i : Nat) (b : Int) : ZA := ((zup2 (aT A) t i b, zup (aL A) t (i + 1), aH A), A.2)
def aSetL (A : ZA) (t n : Nat) : ZA := ((aT A, zup (aL A) t n, aH A), A.2)
def aSetH (A : ZA) (k h : Nat) : ZA := ((aT A, aL A, zup (aH A) k h), A.2)
def aSetX (A : ZA) (x : Int) : ZA := (A.1, A.2.1, A.2.2.1, x)
theorem Frc_refl {C : ZC} : Frc C C := fun _ _ => rfl
theorem Frc_tr {C1 C2 C3 : ZC} (h1 : Frc C1 C2) (h2 : Frc C2 C3) : Frc C1 C3 := fun a ha => (h2 a ha).trans (h1 a ha)
theorem QC_same {C : ZC} {v : Int} {A : ZA} (h : RC A C) : QC C v A v C := ⟨rfl, h, Frc_refl⟩
/-- a call that takes a walker, and does nothing but answer of him -/
def s_of (A : ZA) (k : Int) (f : Nat → Int) : Int := if 0 ≤ k ∧ k < 4 then f k.toNat else -2
section ZCLASS1
variable {A : ZA} {C : ZC}
def s_type (A : ZA) (t b : Int) : Int × ZA := if (0 ≤ t ∧ t < 5) ∧ 0 ≤ b ∧ b ≤ 255 then (if aL A t.toNat < rm t.toNat then ((aL A t.toNat : Int) + 1, aSetT A t.toNat (aL A t.toNat) b) else (-4, A)) else (-2, A)
theorem aOK_T (hA : aOK A) {t : Nat} {b : Int} (ht : t < 5) (hb : 0 ≤ b ∧ b ≤ 255) (hl : aL A t < rm t) : aOK (aSetT A t (aL A t) b) := by
  refine ⟨fun u hu => ?_, hA.2⟩
  have h1 := hA.1 u hu
  show zup (aL A) t (aL A t + 1) u ≤ rm u ∧ ∀ i, i < zup (aL A) t (aL A t + 1) u → 0 ≤ zup2 (aT A) t (aL A t) b u i ∧ zup2 (aT A) t (aL A t) b u i ≤ 255
  by_cases e : u = t
  · subst e
    rw [zp_eq]
    refine ⟨hl, fun i hi => ?_⟩
    by_cases e2 : i = aL A u
    · subst e2; rw [zu_eq]; exact hb
    · rw [zu_nj e2]; exact h1.2 i (by omega)
  · rw [zp_ne e, zu_nb e]
    exact h1
theorem zadd2 {a : Nat} (h : a < 1000000) : zadd (a : Int) 1 = (a : Int) + 1 := zadd_e (by omega) (by omega)
theorem c_type (hA : aOK A) (h : RC A C) {t b : Int} : zH (c_N_type t b C) (QC C (s_type A t b).1 (s_type A t b).2) := by
  unfold c_N_type s_type
  rw [e_within, zbd_some]
  by_cases h1 : 0 ≤ t ∧ t < 5
  · rw [if_pos h1, if_neg (by decide)]
    by_cases h2 : 0 ≤ b ∧ b ≤ 255
    · rw [if_neg (by omega), if_pos h2.2, if_pos ⟨h1, h2⟩, zg_t h1]
      obtain ⟨k, rfl⟩ : ∃ k : Nat, t = (k : Int) := ⟨t.toNat, by omega⟩
      have hk : k < 5 := by omega
      have e8 := (h.1.1 k hk).1
      have hl60 := aOK_len hA hk
      have er : c_N_roomOf (k : Int) C = some ((rm k : Int), C) := by
        unfold c_N_roomOf rm
        by_cases e : k = 0
        · rw [if_neg (by omega), if_pos e]; rfl
        · rw [if_pos (by omega), if_neg e]; rfl
      rw [er, zbd_some, Int.toNat_natCast, e8]
      by_cases hl : aL A k < rm k
      · have hr60 : rm k ≤ 60 := by unfold rm; split <;> omega
        rw [if_pos (by omega), if_pos hl, zg_t h1, zg_t (by omega), zg_t h1, zadd2 (by omega), Int.toNat_natCast]
        refine zH_bd2 (h_settle (aOK_T hA hk h2 hl) hk ?_ ?_ ?_) (fun _ C2 h3 => zH_some ⟨rfl, h3.1, ?_⟩)
        · refine ⟨fun u hu => ?_, ?_, fun s hs => ?_, ?_⟩
          · show _ = ((zup (aL A) k (aL A k + 1) u : Nat) : Int) ∧ ∀ i, i < zup (aL A) k (aL A k + 1) u → _ = zup2 (aT A) k (aL A k) b u i
            have hu1 := h.1.1 u hu
            by_cases e : u = k
            · subst e
              rw [zu_eq, zp_eq]
              refine ⟨by omega, fun i hi => ?_⟩
              rw [zu_ne (by omega)]
              by_cases e2 : i = aL A u
              · subst e2; rw [zu_eq, zu_eq]
              · rw [zu_nj e2, zu_nj e2]; exact hu1.2 i (by omega)
            · rw [zu_nj e, zu_ne (by omega), zp_ne e, zu_nb (show 3 + u ≠ 8 by omega), zu_nb (by omega), zu_nb e]
              exact hu1
          · rw [zu_nb (by omega), zu_nb (by omega), zu_nb (by omega), zu_nb (by omega), zu_nb (by omega), zu_nb (by omega)]; exact h.1.2.1
          · rw [zu_nb (by omega), zu_nb (by omega), zu_nb (by omega), zu_nb (by omega), zu_nb (by omega), zu_nb (by omega)]; exact h.1.2.2.1 s hs
          · rw [zu_nb (by omega), zu_nb (by omega)]; exact h.1.2.2.2
        · intro j hj
          rw [zu_nb (by omega), zu_nb (by omega)]; exact (h.2.2 j hj).2
        · intro hx
          have e0 : aW (aSetT A k (aL A k) b) = aW A := by
            show pW (zup2 (aT A) k (aL A k) b 0) (zup (aL A) k (aL A k + 1) 0) = _
            rw [zu_nb (by omega), zp_ne (by omega)]; rfl
          refine ⟨?_, fun j hj hjx => ?_⟩
          · have : Rw A (zup2 (zup2 C (3 + k) (aL A k) b) 8 k ((aL A k : Int) + 1)) := Rw_fr (fun a ha => by rw [zu_nb (by omega), zu_nb (by omega)]) h.2.1
            unfold Rw at this ⊢
            rw [e0]
            refine ⟨?_, this.2⟩
            have e5 : zup2 (aT A) k (aL A k) b 0 = aT A 0 := zu_nb (by omega)
            show _ = pF (zup2 (aT A) k (aL A k) b 0) (zup (aL A) k (aL A k + 1) 0)
            rw [e5, zp_ne (by omega)]
            exact this.1
          · have : Rk A j (zup2 (zup2 C (3 + k) (aL A k) b) 8 k ((aL A k : Int) + 1)) := Rk_fr (fun a ha => by rw [zu_nb (by omega), zu_nb (by omega)]) (h.2.2 j hj)
            have e1 : aR (aSetT A k (aL A k) b) j = aR A j := by
              show tR (aW (aSetT A k (aL A k) b)) (zup2 (aT A) k (aL A k) b (j + 1)) (aH A j) (zup (aL A) k (aL A k + 1) (j + 1)) = _
              rw [e0, zu_nb (by omega), zp_ne (by omega)]; rfl
            unfold Rk at this ⊢
            rw [e0, e1]
            exact this
        · refine Frc_tr (fun a ha => ?_) h3.2
          rw [zu_nb (by omega), zu_nb (by omega)]
      · rw [if_neg (by omega), if_neg hl]
        exact zH_some (QC_same h)
    · rw [if_neg (show ¬ ((0 ≤ t ∧ t < 5) ∧ 0 ≤ b ∧ b ≤ 255) from fun q => h2 q.2)]
      by_cases h3 : b < 0
      · rw [if_pos h3]; exact zH_some (QC_same h)
      · rw [if_neg h3, if_neg (by omega)]; exact zH_some (QC_same h)
  · rw [if_neg h1, if_pos rfl, if_neg (fun q => h1 q.1)]
    exact zH_some (QC_same h)
def s_wipe (A : ZA) (t : Int) : Int × ZA := if 0 ≤ t ∧ t < 5 then ((aL A t.toNat : Int), aSetL A t.toNat 0) else (-2, A)
theorem aOK_L (hA : aOK A) {t n : Nat} (hn : ∀ i, i < n → i < aL A t) : aOK (aSetL A t n) := by
  refine ⟨fun u hu => ?_, hA.2⟩
  have h1 := hA.1 u hu
  show zup (aL A) t n u ≤ rm u ∧ ∀ i, i < zup (aL A) t n u → 0 ≤ aT A u i ∧ aT A u i ≤ 255
  by_cases e : u = t
  · subst e
    rw [zp_eq]
    refine ⟨?_, fun i hi => h1.2 i (hn i hi)⟩
    by_cases e0 : n = 0
    · omega
    · have := hn (n - 1) (by omega); omega
  · rw [zp_ne e]
    exact h1
theorem c_wipe (hA : aOK A) (h : RC A C) {t : Int} : zH (c_N_wipe t C) (QC C (s_wipe A t).1 (s_wipe A t).2) := by
  unfold c_N_wipe s_wipe
  rw [e_within, zbd_some]
  by_cases h1 : 0 ≤ t ∧ t < 5
  · obtain ⟨k, rfl⟩ : ∃ k : Nat, t = (k : Int) := ⟨t.toNat, by omega⟩
    have hk : k < 5 := by omega
    rw [if_pos h1, if_pos (by decide), if_pos h1, zg_t h1, zg_t h1, Int.toNat_natCast, (h.1.1 k hk).1]
    refine zH_bd2 (h_settle (aOK_L hA (n := 0) (t := k) (fun i hi => absurd hi (Nat.not_lt_zero _))) hk ?_ ?_ ?_) (fun _ C2 h3 => zH_some ⟨rfl, h3.1, ?_⟩)
    · refine ⟨fun u hu => ?_, ?_, fun s hs => ?_, ?_⟩
      · show _ = ((zup (aL A) k 0 u : Nat) : Int) ∧ ∀ i, i < zup (aL A) k 0 u → _ = aT A u i
        have hu1 := h.1.1 u hu
        by_cases e : u = k
        · subst e
          rw [zu_eq, zp_eq]
          exact ⟨rfl, fun i hi => absurd hi (Nat.not_lt_zero _)⟩
        · rw [zu_nj e, zp_ne e, zu_nb (show 3 + u ≠ 8 by omega)]
          exact hu1
      · rw [zu_nb (by omega), zu_nb (by omega), zu_nb (by omega)]; exact h.1.2.1
      · rw [zu_nb (by omega), zu_nb (by omega), zu_nb (by omega)]; exact h.1.2.2.1 s hs
      · rw [zu_nb (by omega)]; exact h.1.2.2.2
    · intro j hj
      rw [zu_nb (by omega)]; exact (h.2.2 j hj).2
    · intro hx
      have e0 : aW (aSetL A k 0) = aW A := by
        show pW (aT A 0) (zup (aL A) k 0 0) = _
        rw [zp_ne (by omega)]; rfl
      refine ⟨?_, fun j hj hjx => ?_⟩
      · have : Rw A (zup2 C 8 k 0) := Rw_fr (fun a ha => by rw [zu_nb (by omega)]) h.2.1
        unfold Rw at this ⊢
        rw [e0]
        refine ⟨?_, this.2⟩
        show _ = pF (aT A 0) (zup (aL A) k 0 0)
        rw [zp_ne (by omega)]
        exact this.1
      · have : Rk A j (zup2 C 8 k 0) := Rk_fr (fun a ha => by rw [zu_nb (by omega)]) (h.2.2 j hj)
        have e1 : aR (aSetL A k 0) j = aR A j := by
          show tR (aW (aSetL A k 0)) (aT A (j + 1)) (aH A j) (zup (aL A) k 0 (j + 1)) = _
          rw [e0, zp_ne (by omega)]; rfl
        unfold Rk at this ⊢
        rw [e0, e1]
        exact this
    · refine Frc_tr (fun a ha => ?_) h3.2
      rw [zu_nb (by omega)]
  · rw [if_neg h1, if_neg (by decide), if_neg h1]
    exact zH_some (QC_same h)
def s_home (A : ZA) (k p : Int) : Int × ZA := if (0 ≤ k ∧ k < 4) ∧ 0 ≤ p ∧ p < 8 then ((aH A k.toNat : Int), aSetH A k.toNat p.toNat) else (-2, A)
theorem aOK_H (hA : aOK A) {k p : Nat} (hp : p < 8) : aOK (aSetH A k p) := by
  refine ⟨hA.1, fun j hj => ?_, hA.2.2⟩
  show zup (aH A) k p j < 8
  unfold zup
  split
  · exact hp
  · exact hA.2.1 j hj
theorem c_home (hA : aOK A) (h : RC A C) {k p : Int} : zH (c_N_home k p C) (QC C (s_home A k p).1 (s_home A k p).2) := by
  unfold c_N_home s_home
  rw [e_within, zbd_some]
  by_cases h1 : 0 ≤ k ∧ k < 4
  · rw [if_pos h1, if_neg (by decide), e_within, zbd_some]
    by_cases h2 : 0 ≤ p ∧ p < 8
    · obtain ⟨j, rfl⟩ : ∃ j : Nat, k = (j : Int) := ⟨k.toNat, by omega⟩
      obtain ⟨q, rfl⟩ : ∃ q : Nat, p = (q : Int) := ⟨p.toNat, by omega⟩
      rw [if_pos h2, if_pos (by decide), if_pos ⟨h1, h2⟩, zg_t h1, zg_t h1, zinN (by omega), Int.toNat_natCast, Int.toNat_natCast]
      have hh := (h.2.2 j (by omega)).2
      refine zH_bd2 (h_settle (aOK_H hA (k := j) (p := q) (by omega)) (show j + 1 < 5 by omega) ?_ ?_ ?_) (fun _ C2 h3 => zH_some ⟨hh, h3.1, ?_⟩)
      · exact R0_fr (fun a ha => zu_nb (by omega)) h.1
      · intro i hi
        show _ = ((zup (aH A) j q i : Nat) : Int)
        by_cases e : i = j
        · subst e; rw [zu_eq, zp_eq]
        · rw [zu_ne (by omega), zp_ne e]; exact (h.2.2 i hi).2
      · intro hx
        refine ⟨Rw_fr (fun a ha => zu_nb (by omega)) h.2.1, fun i hi hix => ?_⟩
        have : Rk A i (zup2 C (56 + 4 * j) 4 (q : Int)) := Rk_fr (fun a ha => zu_nb (by omega)) (h.2.2 i hi)
        have e2 : aH (aSetH A j q) i = aH A i := zp_ne (by omega)
        have e1 : aR (aSetH A j q) i = aR A i := by
          show tR (aW A) (aT A (i + 1)) (aH (aSetH A j q) i) (aL A (i + 1)) = _
          rw [e2]; rfl
        unfold Rk at this ⊢
        rw [e1, e2]
        exact this
      · exact Frc_tr (fun a ha => zu_nb (by omega)) h3.2
    · rw [if_neg h2, if_neg (by decide), if_neg (fun q => h2 q.2)]
      exact zH_some (QC_same h)
  · rw [if_neg h1, if_pos rfl, if_neg (fun q => h1 q.1)]
    exact zH_some (QC_same h)
theorem c_fault (h : RC A C) : zH (c_N_fault C) (QC C (pF (aT A 0) (aL A 0)) A) := zH_some ⟨h.2.1.1, h, Frc_refl⟩
def s_way (A : ZA) (w x : Int) : Int := if (0 ≤ w ∧ w < (wN (aW A) : Int)) ∧ 0 ≤ x ∧ x < 3 then (if x = 0 then (wA (aW A) w.toNat : Int) else if x = 1 then (wB (aW A) w.toNat : Int) else (wM (aW A) w.toNat : Int)) else -2
theorem c_way (h : RC A C) {w x : Int} : zH (c_N_way w x C) (QC C (s_way A w x) A) := by
  have hW := (aW_OK (A := A)).1
  have hr := h.2.1.2
  unfold c_N_way s_way
  rw [e_within, zbd_some, hr.1]
  by_cases h1 : 0 ≤ w ∧ w < (wN (aW A) : Int)
  · obtain ⟨r1, r2, r3⟩ := hr.2 w.toNat (by omega)
    have g : 0 ≤ w ∧ w < 12 := by omega
    rw [if_pos h1, if_neg (by decide), e_within, zbd_some]
    by_cases h2 : 0 ≤ x ∧ x < 3
    · rw [if_pos h2, if_pos (by decide), if_pos (show (0 ≤ w ∧ w < (wN (aW A) : Int)) ∧ 0 ≤ x ∧ x < 3 from ⟨h1, h2⟩), zg_t g, zg_t g, zg_t g, r1, r2, r3]
      by_cases e2 : x = 2
      · rw [if_neg (fun q => q e2), if_neg (by omega), if_neg (by omega)]
        exact zH_some (QC_same h)
      · rw [if_pos e2]
        by_cases e0 : x = 0
        · rw [if_neg (fun q => q e0), if_pos e0]
          exact zH_some (QC_same h)
        · rw [if_pos e0, if_neg e0, if_pos (by omega)]
          exact zH_some (QC_same h)
    · rw [if_neg h2, if_neg (by decide), if_neg (fun q => h2 q.2)]
      exact zH_some (QC_same h)
  · rw [if_neg h1, if_pos rfl, if_neg (fun q => h1 q.1)]
    exact zH_some (QC_same h)
end ZCLASS1

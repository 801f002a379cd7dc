/-! THE STATE: what both the class and the model hold, and how the class's cells hold it -/
abbrev ZA : Type := ((Nat → Nat → Int) × (Nat → Nat) × (Nat → Nat)) × (Nat × (Nat → Int) × (Nat → Int)) × ((Nat → Int) × (Nat → Nat) × (Nat → Nat → Int)) × Int
/-- texts, how many bytes, homes -/
def aT (A : ZA) : Nat → Nat → Int := A.1.1
def aL (A : ZA) : Nat → Nat := A.1.2.1
def aH (A : ZA) : Nat → Nat := A.1.2.2
/-- sights -/
def aN (A : ZA) : Nat := A.2.1.1
def aV (A : ZA) : Nat → Int := A.2.1.2.1
def aP (A : ZA) : Nat → Int := A.2.1.2.2
/-- sheets: forms, sizes, items; the latest finding -/
def aF (A : ZA) : Nat → Int := A.2.2.1.1
def aZ (A : ZA) : Nat → Nat := A.2.2.1.2.1
def aI (A : ZA) : Nat → Nat → Int := A.2.2.1.2.2
def aX (A : ZA) : Int := A.2.2.2
def rm (t : Nat) : Nat := if t = 0 then 60 else 24
def aOK (A : ZA) : Prop := (∀ t, t < 5 → aL A t ≤ rm t ∧ ∀ i, i < aL A t → 0 ≤ aT A t i ∧ aT A t i ≤ 255) ∧ (∀ k, k < 4 → aH A k < 8) ∧ (aN A ≤ 4 ∧ ∀ i, i < aN A → 0 ≤ aV A i ∧ aV A i < 12 ∧ 0 ≤ aP A i ∧ aP A i < 8) ∧
  (∀ s, s < 4 → -1 ≤ aF A s ∧ aF A s ≤ 2 ∧ aZ A s ≤ 48) ∧ 0 ≤ aX A ∧ aX A ≤ 5
def aW (A : ZA) : ZWd := pW (aT A 0) (aL A 0)
def aR (A : ZA) (k : Nat) : ZTr := tR (aW A) (aT A (k + 1)) (aH A k) (aL A (k + 1))
def aK (A : ZA) (k : Nat) : ZWk := (aR A k).1
def R0 (A : ZA) (C : ZC) : Prop := (∀ t, t < 5 → C 8 t = (aL A t : Int) ∧ ∀ i, i < aL A t → C (3 + t) i = aT A t i) ∧ (C 27 4 = (aN A : Int) ∧ ∀ i, i < aN A → C 28 i = aV A i ∧ C 29 i = aP A i) ∧
  (∀ s, s < 4 → C 55 s = aF A s ∧ C 54 s = (aZ A s : Int) ∧ ∀ i, i < 48 → C (50 + s) i = aI A s i) ∧ C 48 3 = aX A
def Rw (A : ZA) (C : ZC) : Prop := C 9 4 = pF (aT A 0) (aL A 0) ∧ RWd (aW A) C
def Rk (A : ZA) (k : Nat) (C : ZC) : Prop := RFl (aW A) (aR A k) (56 + 4 * k) C ∧ C (56 + 4 * k) 4 = (aH A k : Int)
def RC (A : ZA) (C : ZC) : Prop := R0 A C ∧ Rw A C ∧ ∀ k, k < 4 → Rk A k C
/-- the class writes nothing of the model's, and not the script -/
def Frc (C C' : ZC) : Prop := ∀ a, a = 0 ∨ 72 ≤ a → C' a = C a
/-- the scratch cells -/
def scr (a : Nat) : Prop := (14 ≤ a ∧ a ≤ 26) ∨ (30 ≤ a ∧ a ≤ 47)
section ZSTATE
variable {A : ZA} {C C' : ZC}
theorem aOK_len (hA : aOK A) {t : Nat} (ht : t < 5) : aL A t ≤ 60 := by
  have := (hA.1 t ht).1
  unfold rm at this
  split at this <;> omega
theorem aW_OK : wOK (aW A) := pW_OK _ _
theorem aK_OK (hA : aOK A) {k : Nat} (hk : k < 4) : kOK (aW A) (aK A k) := (tR_OK aW_OK (hA.2.1 k hk) _).1
theorem R0_fr (h : ∀ a, (3 ≤ a ∧ a ≤ 8) ∨ (27 ≤ a ∧ a ≤ 29) ∨ (48 ≤ a ∧ a ≤ 55) → C' a = C a) (hR : R0 A C) : R0 A C' := by
  obtain ⟨h1, h2, h3, h4⟩ := hR
  refine ⟨fun t ht => ?_, ?_, fun s hs => ?_, ?_⟩
  · rw [h 8 (by omega), h (3 + t) (by omega)]; exact h1 t ht
  · rw [h 27 (by omega), h 28 (by omega), h 29 (by omega)]; exact h2
  · rw [h 55 (by omega), h 54 (by omega), h (50 + s) (by omega)]; exact h3 s hs
  · rw [h 48 (by omega)]; exact h4
theorem Rw_fr (h : ∀ a, 9 ≤ a ∧ a ≤ 12 → C' a = C a) (hR : Rw A C) : Rw A C' := by
  unfold Rw RWd
  rw [h 9 (by omega), h 10 (by omega), h 11 (by omega), h 12 (by omega)]
  exact hR
theorem RWk_fr {W : ZWd} {s : ZWk} {c : Nat} (h : ∀ a, c ≤ a ∧ a ≤ c + 2 → C' a = C a) (hR : RWk W s c C) : RWk W s c C' := by
  unfold RWk
  rw [h c (by omega), h (c + 1) (by omega), h (c + 2) (by omega)]
  exact hR
theorem Rk_fr {k : Nat} (h : ∀ a, 56 + 4 * k ≤ a ∧ a ≤ 56 + 4 * k + 3 → C' a = C a) (hR : Rk A k C) : Rk A k C' := by
  obtain ⟨⟨⟨r1, r2, r3, r4⟩, r5, r6⟩, r7⟩ := hR
  refine ⟨⟨⟨RWk_fr (fun a ha => h a (by omega)) r1, ?_, ?_, ?_⟩, fun p hp => ?_, ?_⟩, ?_⟩
  · rw [h _ (by omega)]; exact r2
  · rw [h _ (by omega)]; exact r3
  · rw [h _ (by omega)]; exact r4
  · rw [h _ (by omega)]; exact r5 p hp
  · rw [h _ (by omega)]; exact r6
  · rw [h _ (by omega)]; exact r7
theorem RC_fr (h : ∀ a, ¬ scr a → a ≠ 0 → a < 72 → C' a = C a) (hR : RC A C) : RC A C' := by
  obtain ⟨h1, h2, h3⟩ := hR
  unfold scr at h
  exact ⟨R0_fr (fun a ha => h a (by omega) (by omega) (by omega)) h1, Rw_fr (fun a ha => h a (by omega) (by omega) (by omega)) h2, fun k hk => Rk_fr (fun a ha => h a (by omega) (by omega) (by omega)) (h3 k hk)⟩
theorem pOk_cg {t t' : Nat → Int} {n i : Nat} (h : ∀ j, j < n → t j = t' j) (hi : i < n) : pOk t i = pOk t' i := by
  unfold pOk
  rw [h i hi]
  rw [h (i - 1) (by omega)]
theorem pB_cg {t t' : Nat → Int} {n : Nat} (h : ∀ j, j < n → t j = t' j) : ∀ k, k ≤ n → pB t k = pB t' k
  | 0, _ => rfl
  | k + 1, hk => by
    unfold pB
    rw [pB_cg h k (by omega), pOk_cg h (show k < n by omega)]
theorem pF_cg {t t' : Nat → Int} {n : Nat} (h : ∀ j, j < n → t j = t' j) : pF t n = pF t' n := by
  unfold pF
  rw [pB_cg h n (Nat.le_refl _)]
theorem RWd_cg {t t' : Nat → Int} {n : Nat} (h : ∀ j, j < n → t j = t' j) (hR : RWd (pW t n) C) : RWd (pW t' n) C := by
  have e : wN (pW t n) = wN (pW t' n) := by rw [wN_W, wN_W, pF_cg h]
  refine ⟨by rw [← e]; exact hR.1, fun w hw => ?_⟩
  rw [← e] at hw
  have h1 := hR.2 w hw
  have hw2 := hw
  rw [wN_W] at hw2
  have h2 : 4 * w + 2 < n := by
    split at hw2
    · next q =>
      have := (pF_well q).2
      omega
    · omega
  have e0 : wA (pW t' n) w = wA (pW t n) w := by show (t' (4 * w) - 48).toNat = (t (4 * w) - 48).toNat; rw [h _ (by omega)]
  have e1 : wB (pW t' n) w = wB (pW t n) w := by show (t' (4 * w + 1) - 48).toNat = (t (4 * w + 1) - 48).toNat; rw [h _ (by omega)]
  have e2 : wM (pW t' n) w = wM (pW t n) w := by show (t' (4 * w + 2) - 48).toNat = (t (4 * w + 2) - 48).toNat; rw [h _ (by omega)]
  rw [e0, e1, e2]
  exact h1
theorem tR_cg {W : ZWd} {t t' : Nat → Int} {h n : Nat} (hh : ∀ j, j < n → t j = t' j) : ∀ k, k ≤ n → tR W t h k = tR W t' h k
  | 0, _ => rfl
  | k + 1, hk => by
    show tS W t k (tR W t h k) = tS W t' k (tR W t' h k)
    rw [tR_cg hh k (by omega)]
    unfold tS
    rw [hh k (by omega)]
/-- the settling of a text changed: 0 the wood's, k + 1 a walker's -/
theorem h_settle (hA : aOK A) {x : Nat} (hx : x < 5) (h0 : R0 A C) (hh : ∀ k, k < 4 → C (56 + 4 * k) 4 = (aH A k : Int)) (hw : x ≠ 0 → Rw A C ∧ ∀ k, k < 4 → k + 1 ≠ x → Rk A k C) :
    zH (c_N_settle (x : Int) C) (fun _ C' => RC A C' ∧ Frc C C') := by
  unfold c_N_settle
  refine zH_bd2 (P := fun _ C' => Rw A C' ∧ ∀ a, a ≠ 9 → a ≠ 10 → a ≠ 11 → a ≠ 12 → C' a = C a) ?_ (fun _ C1 h1 => ?_)
  · by_cases e : x = 0
    · rw [if_neg (by omega), (h0.1 0 (by decide)).1]
      refine zH_bd2 (h_take (r := 3) (by decide) (aOK_len hA (by decide))) (fun _ C1 h1 => zH_some ?_)
      obtain ⟨g1, g2, g3⟩ := h1
      have hc : ∀ j, j < aL A 0 → C 3 j = aT A 0 j := (h0.1 0 (by decide)).2
      exact ⟨⟨by rw [g1, pF_cg hc], RWd_cg hc g2⟩, g3⟩
    · rw [if_pos (by omega)]
      exact zH_some ⟨(hw e).1, fun _ _ _ _ _ => rfl⟩
  · obtain ⟨g1, g2⟩ := h1
    refine zH_bd2 (P := fun _ C' => RC A C' ∧ Frc C C') ?_ (fun _ C2 h2 => zH_some h2)
    refine zH_for (fun i y C' => y = (i : Int) ∧ R0 A C' ∧ Rw A C' ∧ (∀ k, k < 4 → C' (56 + 4 * k) 4 = (aH A k : Int)) ∧ (∀ k, k < 4 → (k < i ∨ (x ≠ 0 ∧ k + 1 ≠ x)) → Rk A k C') ∧ Frc C C') 4 0 (by decide) ⟨rfl, R0_fr (fun a ha => g2 a (by omega) (by omega) (by omega) (by omega)) h0, g1, fun k hk => by rw [g2 _ (by omega) (by omega) (by omega) (by omega)]; exact hh k hk, fun k hk hd => ?_, fun a ha => g2 a (by omega) (by omega) (by omega) (by omega)⟩ ?_ ?_
    · have hd : x ≠ 0 ∧ k + 1 ≠ x := hd.resolve_left (by omega)
      exact Rk_fr (fun a ha => g2 a (by omega) (by omega) (by omega) (by omega)) ((hw hd.1).2 k hk hd.2)
    · rintro i y C2 hi ⟨rfl, k1, k2, k3, k4, k5⟩
      have hgo : ∀ P : Unit ⊕ Unit → Prop, zH (c_Walk_follow (56 + 4 * i) (3 + (i + 1)) ((aL A (i + 1) : Nat) : Int) C2) (fun _ C' => R0 A C' ∧ Rw A C' ∧ (∀ k, k < 4 → C' (56 + 4 * k) 4 = (aH A k : Int)) ∧ (∀ k, k < 4 → (k < i + 1 ∨ (x ≠ 0 ∧ k + 1 ≠ x)) → Rk A k C') ∧ Frc C C') := by
        intro _
        have ht := k1.1 (i + 1) (by omega)
        have hc : ∀ j, j < aL A (i + 1) → C2 (3 + (i + 1)) j = aT A (i + 1) j := ht.2
        refine zH_mono (h_follow aW_OK k2.2 (by omega) (aOK_len hA (by omega)) (hA.2.1 i hi) (k3 i hi) (by omega) (fun j hj => by rw [hc j hj]; exact (hA.1 (i + 1) (by omega)).2 j hj)) (fun _ C3 h3 => ?_)
        obtain ⟨m1, m2, m3⟩ := h3
        rw [tR_cg hc _ (Nat.le_refl _)] at m1
        have m4 : ∀ a, a < 56 + 4 * i ∨ 56 + 4 * i + 3 < a → C3 a = C2 a := fun a ha => m3 a (by omega) (by omega) (by omega) (by omega)
        refine ⟨R0_fr (fun a ha => m4 a (by omega)) k1, Rw_fr (fun a ha => m4 a (by omega)) k2, fun k hk => ?_, fun k hk hd => ?_, fun a ha => (m4 a (by omega)).trans (k5 a ha)⟩
        · by_cases e : k = i
          · subst e; exact m2
          · rw [m4 _ (by omega)]; exact k3 k hk
        · by_cases e : k = i
          · subst e; exact ⟨m1, m2⟩
          · exact Rk_fr (fun a ha => m4 a (by omega)) (k4 k hk (by omega))
      unfold c_N_settle_L25
      have e1 : zadd (i : Int) 1 = ((i + 1 : Nat) : Int) := zinN (by omega)
      have e8 : C2 8 (i + 1) = ((aL A (i + 1) : Nat) : Int) := (k1.1 (i + 1) (by omega)).1
      simp only [e1, Int.toNat_natCast, e8]
      rw [if_neg (by omega)]
      by_cases ex : x = 0
      · rw [if_pos (by omega), zg_t (by omega), zg_t (by omega), zg_t (by omega)]
        exact zH_bd2 (hgo fun _ => True) (fun _ C3 h3 => zH_some ⟨rfl, h3⟩)
      · rw [if_neg (by omega)]
        by_cases e2 : x = i + 1
        · rw [if_neg (by omega), zg_t (by omega), zg_t (by omega), zg_t (by omega)]
          exact zH_bd2 (hgo fun _ => True) (fun _ C3 h3 => zH_some ⟨rfl, h3⟩)
        · rw [if_pos (by omega)]
          refine zH_some ⟨rfl, k1, k2, k3, fun k hk hd => k4 k hk ?_, k5⟩
          by_cases e3 : k = i
          · exact Or.inr ⟨ex, by omega⟩
          · omega
    · rintro y C2 ⟨rfl, k1, k2, k3, k4, k5⟩
      unfold c_N_settle_L25
      rw [if_pos (by omega)]
      exact zH_some ⟨⟨k1, k2, fun k hk => k4 k hk (Or.inl hk)⟩, k5⟩
end ZSTATE

/-! The model's steps, walks, how soon -/
section ZMODEL2
variable {A : ZA} {C C' : ZC} {W : ZWd} {s : ZWk}
theorem m_isIn {x : Int} {k : Nat} (hk : k < 32) : d_isIn x (k : Int) C = some ((if zbit x k = true then 1 else 0), C) := by
  unfold d_isIn
  rw [zhas_e hk]
  cases zbit x k <;> rfl
theorem m_beyond (hW : wOK W) (hR : MWd W C) {w p : Nat} (hw : w < wN W) : d_beyond (w : Int) (p : Int) C = some (((wO W w p : Nat) : Int), C) := by
  have hW1 := hW.1
  obtain ⟨h1, h2, h3⟩ := hR.2 w hw
  unfold d_beyond wO
  rw [zg_t (by omega), Int.toNat_natCast, zg_t (by omega), zg_t (by omega), h1, h2]
  by_cases e : wA W w = p
  · rw [if_neg (by omega), if_pos e]
  · rw [if_pos (by omega), if_neg e]
theorem m_mayBe (hW : wOK W) (hR : MWd W C) (hk : kOK W s) (hS : MWk s C) {w : Nat} (hw : w < wN W) : d_mayBe (w : Int) C = some (((kK W s w : Nat) : Int), C) := by
  obtain ⟨s1, s2, s3, s4⟩ := hS
  have hW1 := hW.1
  have hl := kOK_len hk
  obtain ⟨h1, h2, h3⟩ := hR.2 w hw
  unfold d_mayBe
  rw [zg_t (by omega), Int.toNat_natCast, zg_t (by omega), h1, h2, s1]
  have e : (if (wA W w : Int) = (kP s : Int) then some ((Sum.inl () : Unit ⊕ Int), C) else if (wB W w : Int) = (kP s : Int) then some (Sum.inl (), C) else some (Sum.inr 0, C)) = if wI W w (kP s) = true then some (Sum.inl (), C) else some (Sum.inr 0, C) := by
    by_cases q : wA W w = kP s
    · rw [if_pos (by omega), if_pos (wI_iff.mpr ⟨hw, Or.inl q⟩)]
    · rw [if_neg (by omega)]
      by_cases q2 : wB W w = kP s
      · rw [if_pos (by omega), if_pos (wI_iff.mpr ⟨hw, Or.inr q2⟩)]
      · rw [if_neg (by omega), if_neg (fun z => (wI_iff.mp z).2.elim q q2)]
  rw [e]
  by_cases hi : wI W w (kP s) = true
  · rw [if_pos hi, zbs_inl, s2, m_isIn (show w < 32 by omega), zbd_some]
    cases hg : zbit (kG s) w
    · rw [kK_1.mpr ⟨hi, hg⟩]; rfl
    · rw [if_pos rfl, if_pos (by decide), s3]
      cases ho : kO s with
      | nil =>
        have e0 : kK W s w = 0 := by unfold kK; rw [if_pos hi, if_pos hg, ho]; rfl
        rw [e0]; rfl
      | cons v os =>
        rw [ho] at s4 hl
        simp only [List.length_cons] at hl ⊢
        have e1 : zsub ((os.length + 1 : Nat) : Int) 1 = (os.length : Int) := by rw [zsub_e (by omega) (by omega)]; omega
        rw [if_neg (show ¬ ((os.length + 1 : Nat) : Int) ≤ 0 by omega), zg_t (by rw [e1]; omega)]
        simp only [e1, Int.toNat_natCast, s4.1]
        by_cases hv : v = w
        · subst hv
          rw [kK_2.mpr ⟨hi, hg, by rw [ho]; rfl⟩, if_neg (fun q => q rfl)]; rfl
        · have e0 : kK W s w = 0 := by
            unfold kK
            rw [if_pos hi, if_pos hg, ho]
            exact if_neg (fun q => hv (Option.some.inj q))
          rw [e0, if_pos (show ¬ (v : Int) = (w : Int) by omega)]; rfl
  · rw [if_neg hi, zbs_inr, kK_0 hi]; rfl
/-- only now, goneBits, opens and the row of open ways are changed -/
def Mfr (C C' : ZC) : Prop := (∀ a, a ≠ 72 → a ≠ 79 → C' a = C a) ∧ ∀ j, j ≠ 7 → j ≠ 8 → j ≠ 9 → C' 72 j = C 72 j
theorem Mfr_tr {C1 C2 C3 : ZC} (h1 : Mfr C1 C2) (h2 : Mfr C2 C3) : Mfr C1 C3 := ⟨fun a x y => (h2.1 a x y).trans (h1.1 a x y), fun j x y z => (h2.2 j x y z).trans (h1.2 j x y z)⟩
theorem Mfr_sc (h : Mfr C C') : Msc C C' := ⟨fun a ha => h.1 a (by omega) (by omega), h.2 23 (by decide) (by decide) (by decide), h.2 33 (by decide) (by decide) (by decide)⟩
theorem Mfr_wd (h : Mfr C C') (hR : MWd W C) : MWd W C' := by
  unfold MWd
  rw [h.1 75 (by decide) (by decide), h.1 76 (by decide) (by decide), h.1 77 (by decide) (by decide), h.2 2 (by decide) (by decide) (by decide)]
  exact hR
theorem m_stepN (hW : wOK W) (hR : MWd W C) (hS : MWk s C) {w : Nat} (hw : w < wN W) (hl : (kO s).length < 64) : ∃ C', d_steps (w : Int) 1 C = some (0, C') ∧ MWk (kN W s w) C' ∧ Mfr C C' := by
  obtain ⟨s1, s2, s3, s4⟩ := hS
  unfold d_steps
  rw [s1, m_beyond hW hR hw, zbd_some, if_neg (by decide)]
  have x8 : zup2 C 72 7 ((wO W w (kP s) : Nat) : Int) 72 8 = kG s := (zu_nj (by decide)).trans s2
  have x9 : ∀ v, zup2 (zup2 C 72 7 ((wO W w (kP s) : Nat) : Int)) 72 8 v 72 9 = ((kO s).length : Int) := fun v => (zu_nj (by decide)).trans ((zu_nj (by decide)).trans s3)
  have x99 : ∀ v k u, zup2 (zup2 (zup2 C 72 7 ((wO W w (kP s) : Nat) : Int)) 72 8 v) 79 k u 72 9 = ((kO s).length : Int) := fun v k u => (zu_ne (by decide)).trans (x9 v)
  simp only [x8, x9, x99, Int.toNat_natCast]
  rw [zg_t (by omega), zinN (by omega)]
  refine ⟨_, rfl, ⟨?_, ?_, ?_, ?_⟩, ?_, ?_⟩
  · rw [zu_nj (by decide), zu_ne (by decide), zu_nj (by decide), zu_eq]; rfl
  · rw [zu_nj (by decide), zu_ne (by decide), zu_eq]; rfl
  · rw [zu_eq]; rfl
  · rw [zu_nb (by decide), zu_row, zu_nb (by decide), zu_nb (by decide)]
    exact RL_push s4
  · intro a h1 h2
    rw [zu_nb h1, zu_nb h2, zu_nb h1, zu_nb h1]
  · intro j h1 h2 h3
    rw [zu_nj h3, zu_ne (by decide), zu_nj h2, zu_nj h1]
theorem m_stepB (hW : wOK W) (hR : MWd W C) (hS : MWk s C) {w : Nat} {os : List Nat} (hw : w < wN W) (ho : kO s = w :: os) (hl : (kO s).length < 64) {k : Int} (hk : ¬ k = 1) : ∃ C', d_steps (w : Int) k C = some (0, C') ∧ MWk (kB W s) C' ∧ Mfr C C' := by
  obtain ⟨s1, s2, s3, s4⟩ := hS
  rw [ho] at s3 s4 hl
  simp only [List.length_cons] at s3 hl
  have hb : kB W s = (wO W w (kP s), os, kG s) := by unfold kB; rw [ho]
  unfold d_steps
  rw [s1, m_beyond hW hR hw, zbd_some, if_pos hk, zu_nj (show (9 : Nat) ≠ 7 by decide), s3, hb]
  have e1 : zsub ((os.length + 1 : Nat) : Int) 1 = (os.length : Int) := by rw [zsub_e (by omega) (by omega)]; omega
  rw [e1]
  refine ⟨_, rfl, ⟨?_, ?_, ?_, ?_⟩, ?_, ?_⟩
  · rw [zu_nj (by decide), zu_eq]; rfl
  · rw [zu_nj (by decide), zu_nj (by decide)]; exact s2
  · rw [zu_eq]; rfl
  · rw [zu_nb (by decide), zu_nb (by decide)]; exact s4.2
  · intro a h1 h2
    rw [zu_nb h1, zu_nb h1]
  · intro j h1 h2 h3
    rw [zu_nj h3, zu_nj h1]
theorem m_steps (hW : wOK W) (hR : MWd W C) (hk : kOK W s) (hS : MWk s C) {w k : Nat} (hkk : kK W s w = k) (h0 : k ≠ 0) : ∃ C', d_steps (w : Int) (k : Int) C = some (0, C') ∧ MWk (kS W s w k) C' ∧ Mfr C C' := by
  have hl := kOK_len hk
  have hW1 := hW.1
  have hi : wI W w (kP s) = true := kK_in (by rw [hkk]; exact h0)
  have hw := (wI_iff.mp hi).1
  have hle := kK_le (W := W) (s := s) (w := w)
  unfold kS
  by_cases h1 : k = 1
  · subst h1
    rw [if_pos rfl]
    exact m_stepN hW hR hS hw (by omega)
  · rw [if_neg h1]
    have h2 : k = 2 := by omega
    subst h2
    have hh := (kK_2.mp hkk).2.2
    cases ho : kO s with
    | nil => rw [ho] at hh; cases hh
    | cons v os =>
      rw [ho] at hh
      have hv : v = w := Option.some.inj hh
      subst hv
      exact m_stepB hW hR hS hw ho (by omega) (by decide)
/-- a new step taken back; a step back taken back -/
theorem m_unstepN (hW : wOK W) (hR : MWd W C) (hk : kOK W s) {w : Nat} (hi : wI W w (kP s) = true) (hg : zbit (kG s) w = false) (hS : MWk (kN W s w) C) : ∃ C', d_unsteps (w : Int) 1 C = some (0, C') ∧ MWk s C' ∧ Mfr C C' := by
  obtain ⟨s1, s2, s3, s4⟩ := hS
  have hl := kOK_len hk
  have hW1 := hW.1
  have hw := (wI_iff.mp hi).1
  have s1 : C 72 7 = ((wO W w (kP s) : Nat) : Int) := s1
  have s2 : C 72 8 = zor (kG s) (zshl 1 (w : Int)) := s2
  have s3 : C 72 9 = (((kO s).length + 1 : Nat) : Int) := s3
  unfold d_unsteps
  rw [s1, m_beyond hW hR hw, zbd_some, if_neg (by decide), wO_O hW hi]
  have x8 : zup2 C 72 7 ((kP s : Nat) : Int) 72 8 = zor (kG s) (zshl 1 (w : Int)) := (zu_nj (by decide)).trans s2
  have x9 : ∀ v, zup2 (zup2 C 72 7 ((kP s : Nat) : Int)) 72 8 v 72 9 = (((kO s).length + 1 : Nat) : Int) := fun v => (zu_nj (by decide)).trans ((zu_nj (by decide)).trans s3)
  have e1 : zsub (((kO s).length + 1 : Nat) : Int) 1 = ((kO s).length : Int) := by rw [zsub_e (by omega) (by omega)]; omega
  simp only [x8, x9, e1, zbit_clear (show w < 32 by omega) hk.2.2.2.2.1 hg]
  refine ⟨_, rfl, ⟨?_, ?_, ?_, ?_⟩, ?_, ?_⟩
  · rw [zu_nj (by decide), zu_nj (by decide), zu_eq]
  · rw [zu_nj (by decide), zu_eq]
  · rw [zu_eq]
  · rw [zu_nb (by decide), zu_nb (by decide), zu_nb (by decide)]; exact s4.2
  · intro a h1 h2
    rw [zu_nb h1, zu_nb h1, zu_nb h1]
  · intro j h1 h2 h3
    rw [zu_nj h3, zu_nj h2, zu_nj h1]
theorem m_unstepB (hW : wOK W) (hR : MWd W C) (hk : kOK W s) {w : Nat} {os : List Nat} (ho : kO s = w :: os) (hS : MWk (kB W s) C) {k : Int} (hk1 : ¬ k = 1) : ∃ C', d_unsteps (w : Int) k C = some (0, C') ∧ MWk s C' ∧ Mfr C C' := by
  have hb : kB W s = (wO W w (kP s), os, kG s) := by unfold kB; rw [ho]
  rw [hb] at hS
  obtain ⟨s1, s2, s3, s4⟩ := hS
  have hl := kOK_len hk
  have hW1 := hW.1
  have hc := hk.2.1
  rw [ho] at hc hl
  simp only [List.length_cons] at hl
  have hi := hc.1
  have hw := (wI_iff.mp hi).1
  have s1 : C 72 7 = ((wO W w (kP s) : Nat) : Int) := s1
  have s2 : C 72 8 = kG s := s2
  have s3 : C 72 9 = (os.length : Int) := s3
  unfold d_unsteps
  rw [s1, m_beyond hW hR hw, zbd_some, if_pos hk1, wO_O hW hi]
  have x9 : zup2 C 72 7 ((kP s : Nat) : Int) 72 9 = (os.length : Int) := (zu_nj (by decide)).trans s3
  have x99 : ∀ k u, zup2 (zup2 C 72 7 ((kP s : Nat) : Int)) 79 k u 72 9 = (os.length : Int) := fun k u => (zu_ne (by decide)).trans x9
  simp only [x9, x99, Int.toNat_natCast]
  rw [zg_t (by omega), zinN (by omega)]
  refine ⟨_, rfl, ⟨?_, ?_, ?_, ?_⟩, ?_, ?_⟩
  · rw [zu_nj (by decide), zu_ne (by decide), zu_eq]
  · rw [zu_nj (by decide), zu_ne (by decide), zu_nj (by decide)]; exact s2
  · rw [zu_eq, ho]; rfl
  · rw [zu_nb (by decide), zu_row, zu_nb (by decide), ho]
    exact RL_push s4
  · intro a h1 h2
    rw [zu_nb h1, zu_nb h2, zu_nb h1]
  · intro j h1 h2 h3
    rw [zu_nj h3, zu_ne (by decide), zu_nj h1]
theorem m_unsteps (hW : wOK W) (hR : MWd W C) (hk : kOK W s) {w k : Nat} (hkk : kK W s w = k) (h0 : k ≠ 0) (hS : MWk (kS W s w k) C) : ∃ C', d_unsteps (w : Int) (k : Int) C = some (0, C') ∧ MWk s C' ∧ Mfr C C' := by
  have hle := kK_le (W := W) (s := s) (w := w)
  unfold kS at hS
  by_cases h1 : k = 1
  · subst h1
    rw [if_pos rfl] at hS
    have := kK_1.mp hkk
    exact m_unstepN hW hR hk this.1 this.2 hS
  · rw [if_neg h1] at hS
    have h2 : k = 2 := by omega
    subst h2
    have hh := (kK_2.mp hkk).2.2
    cases ho : kO s with
    | nil => rw [ho] at hh; cases hh
    | cons v os =>
      rw [ho] at hh
      have hv : v = w := Option.some.inj hh
      subst hv
      exact m_unstepB hW hR hk ho hS (by decide)
/-- the wood's ways, and a walk, alone are written -/
def Mw (C C' : ZC) : Prop := ∀ a, a ≠ 72 → a ≠ 75 → a ≠ 76 → a ≠ 77 → a ≠ 79 → C' a = C a
/-- the wood read: its ways, and the scratch else as before -/
theorem m_wood2 (hA : aOK A) (hR : RM A C) : zH (d_faultNow C) (fun v C' => (v = pF (aT A 0) (aL A 0) ∧ MWd (aW A) C' ∧ Msc C C' ∧ RM A C') ∧ Mw C C') := by
  have h0 := hR.1 0 (by decide)
  have hz := hA.1 0 (by decide)
  refine zH_mono (m_fault h0.1 (t := aT A 0) (fun i hi => ⟨by have := h0.2 i hi; rw [Nat.mul_zero, Nat.zero_add] at this; exact this, hz.2 i hi⟩) (aOK_len hA (by decide))) (fun v C' h => ?_)
  obtain ⟨h1, h2, h3, h4⟩ := h
  have hs : Msc C C' := ⟨fun a ha => h3 a (by omega) (by omega) (by omega) (by omega), h4 23 (by decide), h4 33 (by decide)⟩
  exact ⟨⟨h1, h2, hs, (RM_sc hs hR).1⟩, fun a h1 h2 h4 h5 _ => h3 a h1 h2 h4 h5⟩
theorem m_wood (hA : aOK A) (hR : RM A C) : zH (d_faultNow C) (fun v C' => v = pF (aT A 0) (aL A 0) ∧ MWd (aW A) C' ∧ Msc C C' ∧ RM A C') := zH_mono (m_wood2 hA hR) fun _ _ h => h.1
theorem m_walks2 (hA : aOK A) (hR : RM A C) {k : Nat} (hk : k < 4) : zH (d_walks (k : Int) C) (fun _ C' => (MWd (aW A) C' ∧ MTr (aR A k) C' ∧ Msc C C' ∧ RM A C') ∧ Mw C C') := by
  have hW := aW_OK (A := A)
  have hW1 := hW.1
  unfold d_walks
  refine zH_bd2 (m_wood2 hA hR) (fun v C1 h1 => ?_)
  obtain ⟨⟨-, g1, g2, g3⟩, g4⟩ := h1
  have hh := hA.2.1 k hk
  have ht := g3.1 (k + 1) (by omega)
  have hz := hA.1 (k + 1) (by omega)
  have hl60 := aOK_len hA (t := k + 1) (by omega)
  rw [zg_t (by omega), Int.toNat_natCast, g3.2.1 k hk]
  unfold d_begins
  rw [zbd_some]
  refine zH_bd2 (P := fun _ C' => MTr (aR A k) C' ∧ (∀ a, a ≠ 72 → a ≠ 79 → C' a = C1 a) ∧ ∀ j, j = 2 ∨ j = 23 ∨ j = 33 → C' 72 j = C1 72 j) ?_ (fun _ C2 h2 => ?_)
  · refine zH_for (fun i x C' => x = (i : Int) ∧ MTr (tR (aW A) (aT A (k + 1)) (aH A k) i) C' ∧ (∀ a, a ≠ 72 → a ≠ 79 → C' a = C1 a) ∧ ∀ j, j = 2 ∨ j = 23 ∨ j = 33 → C' 72 j = C1 72 j) (aL A (k + 1)) 0 (Nat.zero_le _) ⟨rfl, ⟨⟨?_, ?_, ?_, trivial⟩, ?_, ?_, ?_⟩, ?_, ?_⟩ ?_ ?_
    · rw [zu_nj (by decide), zu_nj (by decide), zu_nj (by decide), zu_nj (by decide), zu_nj (by decide), zu_eq]; rfl
    · rw [zu_nj (by decide), zu_nj (by decide), zu_nj (by decide), zu_nj (by decide), zu_eq]; rfl
    · rw [zu_nj (by decide), zu_nj (by decide), zu_nj (by decide), zu_eq]; rfl
    · rw [zu_nj (by decide), zu_nj (by decide), zu_eq]; rfl
    · rw [zu_nj (by decide), zu_eq]; rfl
    · rw [zu_eq]; rfl
    · intro a h1 h2
      rw [zu_nb h1, zu_nb h1, zu_nb h1, zu_nb h1, zu_nb h1, zu_nb h1]
    · intro j hj
      rw [zu_nj (by omega), zu_nj (by omega), zu_nj (by omega), zu_nj (by omega), zu_nj (by omega), zu_nj (by omega)]
    · rintro i x C2 hi ⟨rfl, ⟨r1, r2, r3, r4⟩, f1, f2⟩
      obtain ⟨k1, k2, k3, k4, k5⟩ := tR_OK (t := aT A (k + 1)) hW hh i
      have c73 : C2 73 (k + 1) = (aL A (k + 1) : Int) := by rw [f1 73 (by decide) (by decide)]; exact ht.1
      have c74 : C2 74 (60 * (k + 1) + i) = aT A (k + 1) i := by rw [f1 74 (by decide) (by decide)]; exact ht.2 i hi
      have hv := hz.2 i hi
      have hR2 : MWd (aW A) C2 := by
        unfold MWd
        rw [f1 75 (by decide) (by decide), f1 76 (by decide) (by decide), f1 77 (by decide) (by decide), f2 2 (Or.inl rfl)]
        exact g1
      have z1 : zadd (k : Int) 1 = ((k + 1 : Nat) : Int) := zinN (by omega)
      have z2 : zmul 60 ((k + 1 : Nat) : Int) = ((60 * (k + 1) : Nat) : Int) := by rw [zmul_e (by omega) (by omega)]; omega
      have z3 : zadd ((60 * (k + 1) : Nat) : Int) (i : Int) = ((60 * (k + 1) + i : Nat) : Int) := by rw [zadd_e (by omega) (by omega)]; omega
      unfold d_walks_L17
      simp only [z1, z2, z3, Int.toNat_natCast, c73, c74, r4]
      rw [zg_t (by omega), if_neg (by omega)]
      by_cases hd : (tR (aW A) (aT A (k + 1)) (aH A k) i).2.2.2 = -1
      · have zw : zsub (aT A (k + 1) i) 97 = aT A (k + 1) i - 97 := zsub_e (by omega) (by omega)
        have zn : zsub (C2 72 2) 1 = (wN (aW A) : Int) - 1 := by rw [hR2.1, zsub_e (by omega) (by omega)]
        rw [if_neg (fun q => q hd), zg_t (by omega), zw, zn, m_in, zbd_some]
        have ek : zbd (α := Int) (if (if 0 ≤ aT A (k + 1) i - 97 ∧ aT A (k + 1) i - 97 ≤ (wN (aW A) : Int) - 1 then (1 : Int) else 0) = 0 then some (0, C2) else zbd (d_mayBe (aT A (k + 1) i - 97) C2) fun v23 C24 => some (v23, C24)) = zbd (some (((kKi (aW A) (tR (aW A) (aT A (k + 1)) (aH A k) i).1 (aT A (k + 1) i - 97) : Nat) : Int), C2)) (β := (Int ⊕ Unit)) := by
          congr 1
          by_cases q : 0 ≤ aT A (k + 1) i - 97 ∧ aT A (k + 1) i - 97 ≤ (wN (aW A) : Int) - 1
          · obtain ⟨w, hw⟩ : ∃ w : Nat, aT A (k + 1) i - 97 = (w : Int) := ⟨(aT A (k + 1) i - 97).toNat, by omega⟩
            rw [if_pos q, if_neg (by decide), hw, m_mayBe hW hR2 k1 r1 (by omega), zbd_some]
            unfold kKi
            rw [if_pos (by omega), Int.toNat_natCast]
          · rw [if_neg q, if_pos rfl]
            have : kKi (aW A) (tR (aW A) (aT A (k + 1)) (aH A k) i).1 (aT A (k + 1) i - 97) = 0 := by
              unfold kKi
              by_cases q0 : 0 ≤ aT A (k + 1) i - 97
              · rw [if_pos q0]
                exact kK_0 fun z => by have := (wI_iff.mp z).1; omega
              · rw [if_neg q0]
            rw [this]; rfl
        rw [ek, zbd_some]
        by_cases hk0 : kKi (aW A) (tR (aW A) (aT A (k + 1)) (aH A k) i).1 (aT A (k + 1) i - 97) = 0
        · rw [hk0, if_neg (by decide)]
          have e : tR (aW A) (aT A (k + 1)) (aH A k) (i + 1) = ((tR (aW A) (aT A (k + 1)) (aH A k) i).1, (tR (aW A) (aT A (k + 1)) (aH A k) i).2.1, (tR (aW A) (aT A (k + 1)) (aH A k) i).2.2.1, (i : Int)) := by
            show tS (aW A) (aT A (k + 1)) i _ = _
            unfold tS
            rw [if_pos hd, if_pos hk0]
          obtain ⟨b1, b2, b3, b4⟩ := r1
          refine zH_some ⟨zinN (by omega), ?_, fun a q1 q2 => (zu_nb q1).trans (f1 a q1 q2), fun j hj => (zu_nj (by omega)).trans (f2 j hj)⟩
          rw [e]
          exact ⟨⟨(zu_nj (by decide)).trans b1, (zu_nj (by decide)).trans b2, (zu_nj (by decide)).trans b3, by rw [zu_nb (by decide)]; exact b4⟩, (zu_nj (by decide)).trans r2, (zu_nj (by decide)).trans r3, zu_eq⟩
        · obtain ⟨q0, qq⟩ := kKi_nat hk0
          obtain ⟨w, hw⟩ : ∃ w : Nat, aT A (k + 1) i - 97 = (w : Int) := ⟨(aT A (k + 1) i - 97).toNat, by omega⟩
          rw [if_pos (by omega)]
          rw [hw, Int.toNat_natCast] at qq
          rw [hw, qq] at hk0
          rw [hw, qq]
          have hwN : w < wN (aW A) := (wI_iff.mp (kK_in hk0)).1
          have hm := hW.2 w hwN
          obtain ⟨C3, e3, s1, s2⟩ := m_steps hW hR2 k1 r1 (w := w) rfl hk0
          have hR3 := Mfr_wd s2 hR2
          have zsp : zadd (tR (aW A) (aT A (k + 1)) (aH A k) i).2.1 (wM (aW A) w : Int) = (tR (aW A) (aT A (k + 1)) (aH A k) i).2.1 + (wM (aW A) w : Int) := zadd_e (by omega) (by omega)
          rw [e3, zbd_some, zg_t (by omega), Int.toNat_natCast, (hR3.2 w hwN).2.2, zu_nj (show (12 : Nat) ≠ 11 by decide), zu_nj (show (7 : Nat) ≠ 11 by decide), s1.1, s2.2 11 (by decide) (by decide) (by decide), s2.2 12 (by decide) (by decide) (by decide), r2, r3, zsp]
          have e : tR (aW A) (aT A (k + 1)) (aH A k) (i + 1) = (kS (aW A) (tR (aW A) (aT A (k + 1)) (aH A k) i).1 w (kK (aW A) (tR (aW A) (aT A (k + 1)) (aH A k) i).1 w), (tR (aW A) (aT A (k + 1)) (aH A k) i).2.1 + (wM (aW A) w : Int), zor (tR (aW A) (aT A (k + 1)) (aH A k) i).2.2.1 (zshl 1 (kP (kS (aW A) (tR (aW A) (aT A (k + 1)) (aH A k) i).1 w (kK (aW A) (tR (aW A) (aT A (k + 1)) (aH A k) i).1 w)) : Int)), -1) := by
            show tS (aW A) (aT A (k + 1)) i _ = _
            unfold tS
            rw [if_pos hd, hw, qq, if_neg hk0, Int.toNat_natCast]
          obtain ⟨b1, b2, b3, b4⟩ := s1
          refine zH_some ⟨zinN (by omega), ?_, fun a q1 q2 => ?_, fun j hj => ?_⟩
          · rw [e]
            exact ⟨⟨(zu_nj (by decide)).trans ((zu_nj (by decide)).trans b1), (zu_nj (by decide)).trans ((zu_nj (by decide)).trans b2), (zu_nj (by decide)).trans ((zu_nj (by decide)).trans b3), by rw [zu_nb (by decide), zu_nb (by decide)]; exact b4⟩, (zu_nj (by decide)).trans zu_eq, zu_eq, (zu_nj (by decide)).trans ((zu_nj (by decide)).trans ((s2.2 13 (by decide) (by decide) (by decide)).trans (r4.trans hd)))⟩
          · rw [zu_nb q1, zu_nb q1, s2.1 a q1 q2]; exact f1 a q1 q2
          · rw [zu_nj (by omega), zu_nj (by omega), s2.2 j (by omega) (by omega) (by omega)]; exact f2 j hj
      · rw [if_pos hd]
        have e := tR_done hd (aL A (k + 1) - i)
        have en : i + (aL A (k + 1) - i) = aL A (k + 1) := by omega
        rw [en] at e
        refine zH_some ⟨?_, f1, f2⟩
        unfold aR
        rw [e]
        exact ⟨r1, r2, r3, r4⟩
    · rintro x C2 ⟨rfl, r1, f1, f2⟩
      have c73 : C2 73 (k + 1) = (aL A (k + 1) : Int) := by rw [f1 73 (by decide) (by decide)]; exact ht.1
      have z1 : zadd (k : Int) 1 = ((k + 1 : Nat) : Int) := zinN (by omega)
      unfold d_walks_L17
      simp only [z1, Int.toNat_natCast, c73]
      rw [zg_t (by omega), if_pos (by omega)]
      exact zH_some ⟨r1, f1, f2⟩
  · obtain ⟨m1, m2, m3⟩ := h2
    have hs : Msc C1 C2 := ⟨fun a ha => m2 a (by omega) (by omega), m3 23 (by decide), m3 33 (by decide)⟩
    refine zH_some ⟨⟨?_, m1, Msc_tr g2 hs, (RM_sc hs g3).1⟩, fun a a1 a2 a3 a4 a5 => (m2 a a1 a5).trans (g4 a a1 a2 a3 a4 a5)⟩
    unfold MWd
    rw [m2 75 (by decide) (by decide), m2 76 (by decide) (by decide), m2 77 (by decide) (by decide), m3 2 (by decide)]
    exact g1
theorem m_walks (hA : aOK A) (hR : RM A C) {k : Nat} (hk : k < 4) : zH (d_walks (k : Int) C) (fun _ C' => MWd (aW A) C' ∧ MTr (aR A k) C' ∧ Msc C C' ∧ RM A C') := zH_mono (m_walks2 hA hR hk) fun _ _ h => h.1
end ZMODEL2

/-! cameIn() in the class, whole; in the model -/
noncomputable def cmN (W : ZWd) (N : Nat) (v p : Nat → Nat) : Nat → Int
  | 0 => 0
  | i + 1 => @ite _ (SH W N v p (i, [], 0) 0) (Classical.propDecidable _) (zor (cmN W N v p i) (zshl 1 (i : Int))) (cmN W N v p i)
def sv (A : ZA) (i : Nat) : Nat := (aV A i).toNat
def sp (A : ZA) (i : Nat) : Nat := (aP A i).toNat
def sOK (A : ZA) : Prop := ∀ i, i < aN A → wI (aW A) (sv A i) (sp A i) = true
noncomputable def s_cameIn (A : ZA) : Int := if wN (aW A) ≤ 6 then @ite _ (sOK A) (Classical.propDecidable _) (cmN (aW A) (aN A) (sv A) (sp A) 8) 0 else -4
/-- a way from i on by which the sights can be shown -/
def fs (W : ZWd) (N : Nat) (v p : Nat → Nat) (s : ZWk) (k i : Nat) : Prop := ∃ w, i ≤ w ∧ kK W s w ≠ 0 ∧ SH W N v p (kT W s w) (nk v p k w (kP (kT W s w)))
section ZCAMEM
variable {W : ZWd} {N : Nat} {v p : Nat → Nat} {s : ZWk} {C C0 : ZC} {A : ZA}
theorem cm_e {i : Nat} (h : SH W N v p (i, [], 0) 0) : cmN W N v p (i + 1) = zor (cmN W N v p i) (zshl 1 (i : Int)) := by
  conv => lhs; unfold cmN
  rw [if_pos h]
theorem cm_n {i : Nat} (h : ¬ SH W N v p (i, [], 0) 0) : cmN W N v p (i + 1) = cmN W N v p i := by
  conv => lhs; unfold cmN
  rw [if_neg h]
theorem cm_32 : ∀ i, z32 (cmN W N v p i) = cmN W N v p i
  | 0 => (z32_e (by decide) (by decide) : z32 0 = 0)
  | i + 1 => by
    by_cases h : SH W N v p (i, [], 0) 0
    · rw [cm_e h]; exact z32_zb _ _ _
    · rw [cm_n h]; exact cm_32 i
theorem zor_0 {x : Int} (h : z32 x = x) : zor x 0 = x := zbit_ext (z32_zb _ _ _) h fun k _ => by rw [zbit_or, zbit_0, Bool.or_false]
theorem sv_ok (hA : aOK A) : ∀ i, i < aN A → sv A i < 12 ∧ sp A i < 8 ∧ aV A i = (sv A i : Int) ∧ aP A i = (sp A i : Int) := fun i hi => by
  have := hA.2.2.1.2 i hi
  unfold sv sp
  omega
theorem c_cameIn (hA : aOK A) (h : RC A C) : zH (c_N_cameIn C) (QC C (s_cameIn A) A) := by
  have hW := aW_OK (A := A)
  have hW1 := hW.1
  have hN := hA.2.2.1.1
  have hsv := sv_ok hA
  unfold c_N_cameIn s_cameIn
  rw [h.2.1.2.1]
  by_cases h6 : wN (aW A) ≤ 6
  · rw [if_pos (by omega), if_pos h6]
    have hS : SG (aW A) (aN A) (sv A) (sp A) C := ⟨h.2.1.2, h.1.2.1.1, fun i hi => by
      have := h.1.2.1.2 i hi
      rw [this.1, this.2]
      exact ⟨(hsv i hi).2.2.1, (hsv i hi).2.2.2⟩⟩
    have fin : ∀ C' : ZC, (∀ a, a < 30 ∨ 32 < a → C' a = C a) → RC A C' ∧ Frc C C' := fun C' hf => ⟨RC_fr (fun a ha h0 h72 => hf a (by unfold scr at ha; omega)) h, fun a ha => hf a (by omega)⟩
    refine zH_bd2 (P := fun b C' => b = (@ite _ (sOK A) (Classical.propDecidable _) (cmN (aW A) (aN A) (sv A) (sp A) 8) 0) ∧ ∀ a, a < 30 ∨ 32 < a → C' a = C a) ?_ (fun b C1 h1 => zH_some ⟨h1.1, fin C1 h1.2⟩)
    unfold c_Sights_beginnings
    refine zH_bs (P := fun o C' => (match o with | .inl _ => sOK A | .inr b => b = 0 ∧ ¬ sOK A) ∧ C' = C) ?_ (fun a C1 h1 => ?_) (fun b C1 h1 => ?_)
    · refine zH_for (fun i x C' => x = (i : Int) ∧ (∀ j, j < i → wI (aW A) (sv A j) (sp A j) = true) ∧ C' = C) (aN A) 0 (Nat.zero_le _) ⟨rfl, fun j hj => absurd hj (Nat.not_lt_zero _), rfl⟩ ?_ ?_
      · rintro i x C' hi ⟨rfl, i1, rfl⟩
        obtain ⟨q1, q2⟩ := hS.2.2 i hi
        unfold c_Sights_beginnings_L2
        rw [hS.2.1, if_neg (by omega), zg_t (by omega), zg_t (by omega), Int.toNat_natCast, q1, q2]
        by_cases e : wI (aW A) (sv A i) (sp A i) = true
        · rw [e_otherN hW hS.1 e, zbd_some, if_pos (by omega), zinN (by omega)]
          refine zH_some ⟨rfl, fun j hj => ?_, rfl⟩
          by_cases ej : j = i
          · rw [ej]; exact e
          · exact i1 j (by omega)
        · rw [e_other0 hW hS.1 (fun z => e (by have := z.2; rwa [Int.toNat_natCast] at this)), zbd_some, if_neg (by decide)]
          exact zH_some ⟨⟨rfl, fun z => e (z i hi)⟩, rfl⟩
      · rintro x C' ⟨rfl, i1, rfl⟩
        unfold c_Sights_beginnings_L2
        rw [hS.2.1, if_pos (by omega)]
        exact zH_some ⟨i1, rfl⟩
    · obtain ⟨h1, rfl⟩ := h1
      rw [if_pos h1]
      refine zH_bd2 (P := fun b C' => b = cmN (aW A) (aN A) (sv A) (sp A) 8 ∧ ∀ a, a < 30 ∨ 32 < a → C' a = C1 a) ?_ (fun b C2 h2 => zH_some h2)
      refine zH_for (fun i x C' => x = (cmN (aW A) (aN A) (sv A) (sp A) i, (i : Int)) ∧ ∀ a, a < 30 ∨ 32 < a → C' a = C1 a) 8 0 (by decide) ⟨rfl, fun _ _ => rfl⟩ ?_ ?_
      · rintro i x C' hi ⟨rfl, i1⟩
        unfold c_Sights_beginnings_L45
        dsimp only
        rw [if_neg (by omega)]
        obtain ⟨C2, b1, b2, b3, _⟩ := h_begin (W := aW A) (C := C') (c := 30) (by decide) (p := i)
        rw [b1, zbd_some]
        have hS2 : SG (aW A) (aN A) (sv A) (sp A) C2 := SG_fr (fun a ha => (b3 a (by omega)).trans (i1 a (by omega))) hS
        have hk := kOK_begin (W := aW A) i hi
        have hmu := mu_le hk
        refine zH_bd2 (h_goesOn hW hN (fun j hj => ⟨(hsv j hj).1, (hsv j hj).2.1⟩) 12 13 (i, [], 0) C2 0 (zshl 1 (i : Int)) (by decide) (by decide) hk hS2 b2 (Nat.zero_le _)) (fun b C3 h3 => ?_)
        obtain ⟨hv, d1, d2⟩ := h3
        have hf : ∀ a, a < 30 ∨ 32 < a → C3 a = C1 a := fun a ha => (d2.1 a (by omega) (by omega) (by omega)).trans ((b3 a (by omega)).trans (i1 a ha))
        rcases hv with ⟨rfl, hv⟩ | ⟨rfl, hv⟩
        · rw [if_neg (by decide), zinN (by omega)]
          exact zH_some ⟨by rw [cm_e ⟨12, cl_sh 12 _ _ _ hv⟩], hf⟩
        · rw [if_pos rfl, zinN (by omega)]
          exact zH_some ⟨by rw [cm_n (fun z => hv (SH_cl hW (aN A) 0 (by omega) _ 12 hk z (by omega)))], hf⟩
      · rintro x C' ⟨rfl, i1⟩
        unfold c_Sights_beginnings_L45
        dsimp only
        rw [if_pos (by omega)]
        exact zH_some ⟨rfl, i1⟩
    · obtain ⟨⟨rfl, h1⟩, rfl⟩ := h1
      rw [if_neg h1]
      exact ⟨rfl, fun _ _ => rfl⟩
  · rw [if_neg (by omega), if_neg h6]
    exact zH_some (QC_same h)
theorem fs_SH {k : Nat} (hk : k < N) : SH W N v p s k ↔ fs W N v p s k 0 := by
  constructor
  · rintro ⟨n, hn⟩
    cases n with
    | zero => exact absurd hk (Nat.not_lt.mpr hn)
    | succ n =>
      rcases hn with hn | ⟨w, h1, h2⟩
      · exact absurd hk (Nat.not_lt.mpr hn)
      · exact ⟨w, Nat.zero_le _, h1, n, h2⟩
  · rintro ⟨w, -, h1, h2⟩
    exact SH_step h1 h2
theorem m_seekB {d i κ : Nat} {C6 : ZC} (hd : d < 60) (hW1 : wN W ≤ 12) (hR : C 72 2 = (wN W : Int)) (h81 : C 81 (d + 1) = (wN W : Int) - 1) (h81d : C 81 d = (i : Int)) (h82d : C 82 d = (κ : Int)) (hu : d_unsteps (i : Int) (κ : Int) (zup2 C 81 (d + 1) (wN W : Int)) = some (0, C6)) :
    d_couldBegin_L34 (((d + 1 : Nat) : Int), 0) C = some (.inl ((d : Int), 0), C6) := by
  have gd : 0 ≤ (d : Int) ∧ (d : Int) < 64 := by omega
  have gd1 : 0 ≤ ((d + 1 : Nat) : Int) ∧ ((d + 1 : Nat) : Int) < 64 := by omega
  have n0 : ¬ ((d + 1 : Nat) : Int) < 0 := by omega
  have n1 : ¬ (d : Int) < 0 := by omega
  have n2 : ¬ (wN W : Int) < (wN W : Int) := by omega
  have e1 : zadd (C 81 (d + 1)) 1 = (wN W : Int) := by rw [h81, zadd_e (by omega) (by omega)]; omega
  have e5 : zadd ((d + 1 : Nat) : Int) (-1) = (d : Int) := by rw [zadd_e (by omega) (by omega)]; omega
  have nd : d ≠ d + 1 := by omega
  unfold d_couldBegin_L34
  dsimp only
  rw [if_neg n0, if_neg (show ¬ ¬ (0 : Int) = 0 from fun z => z rfl), zg_t gd1, zg_t gd1, zg_t gd1]
  simp only [Int.toNat_natCast, e1, zu_eq, e5]
  rw [zu_ne (show (72 : Nat) ≠ 81 by decide), hR, if_neg n2, if_neg n1, zg_t gd, zg_t gd, zu_nj nd, h81d, zu_ne (show (82 : Nat) ≠ 81 by decide), h82d, hu, zbd_some]
noncomputable def hB3 (d i : Nat) (C : ZC) : Option (((Int × Int) ⊕ Int) × ZC) := zbd (d_mayBe (i : Int) C) fun v21 C22 => if v21 ≤ 0 then (some (.inl ((d : Int), 0), C22)) else (zbd (d_steps (i : Int) v21 C22) fun v25 C26 => zbd (α := (Int × Int × Int)) (zg (0 ≤ (d : Int) ∧ (d : Int) < 64) (zg (0 ≤ (d : Int) ∧ (d : Int) < 64) (zg (0 ≤ ((zup2 C26 82 d v21) 83 d) ∧ ((zup2 C26 82 d v21) 83 d) < 4) (if ¬ (((zup2 C26 82 d v21) 87 ((zup2 C26 82 d v21) 83 d).toNat)) = (i : Int) then (some ((((d + 1 : Nat) : Int), ((zup2 C26 82 d v21) 83 d), ((d + 1 : Nat) : Int)), zup2 C26 82 d v21)) else (zg (0 ≤ ((zup2 C26 82 d v21) 83 d) ∧ ((zup2 C26 82 d v21) 83 d) < 4) (if ¬ (((zup2 C26 82 d v21) 88 ((zup2 C26 82 d v21) 83 d).toNat)) = (((zup2 C26 82 d v21) 72 7)) then (some ((((d + 1 : Nat) : Int), ((zup2 C26 82 d v21) 83 d), ((d + 1 : Nat) : Int)), zup2 C26 82 d v21)) else (some ((((d + 1 : Nat) : Int), (zadd ((zup2 C26 82 d v21) 83 d) 1), ((d + 1 : Nat) : Int)), zup2 C26 82 d v21)))))))) fun y27 C29 => zg (0 ≤ (y27.2.2) ∧ (y27.2.2) < 64) (zg (0 ≤ (y27.1) ∧ (y27.1) < 64) (zg (0 ≤ (y27.1) ∧ (y27.1) < 64) (if ¬ (((zup2 (zup2 C29 83 (y27.2.2).toNat (y27.2.1)) 81 (y27.1).toNat (-1)) 83 (y27.1).toNat)) = (((zup2 (zup2 C29 83 (y27.2.2).toNat (y27.2.1)) 81 (y27.1).toNat (-1)) 72 23)) then (some (.inl ((y27.1), 0), zup2 (zup2 C29 83 (y27.2.2).toNat (y27.2.1)) 81 (y27.1).toNat (-1))) else (some (.inl ((y27.1), 1), zup2 (zup2 C29 83 (y27.2.2).toNat (y27.2.1)) 81 (y27.1).toNat (-1)))))))
/-- the model's sights -/
def MG (N : Nat) (v p : Nat → Nat) (C : ZC) : Prop := C 72 23 = (N : Int) ∧ ∀ i, i < N → C 87 i = (v i : Int) ∧ C 88 i = (p i : Int)
theorem MG_fo (h : Fo C0 C) (hG : MG N v p C0) : MG N v p C := by
  unfold MG
  rw [h.1 87 (by decide) (by decide) (by decide) (by decide) (by decide) (by decide) (by decide) (by decide), h.1 88 (by decide) (by decide) (by decide) (by decide) (by decide) (by decide) (by decide) (by decide), h.2 23 (by decide) (by decide) (by decide) (by decide) (by decide)]
  exact hG
theorem m_seekT (hW : wOK W) (hN : N ≤ 4) {d i k : Nat} (hd : d < 60) (hi : i < wN W) (hkN : k < N) (hk : kOK W s) (hR : MWd W C) (hS : MWk s C) (hG : MG N v p C) (h83 : C 83 d = (k : Int)) (h81 : C 81 d = (i : Int) - 1) :
    (kK W s i = 0 ∧ d_couldBegin_L34 ((d : Int), 0) C = some (.inl ((d : Int), 0), zup2 C 81 d (i : Int))) ∨
    (kK W s i ≠ 0 ∧ ∃ C3, d_couldBegin_L34 ((d : Int), 0) C = some (.inl (((d + 1 : Nat) : Int), (if nk v p k i (kP (kT W s i)) = N then 1 else 0)), C3) ∧ Fo C C3 ∧ MWk (kT W s i) C3 ∧
      (∀ j, j < d → C3 81 j = C 81 j) ∧ C3 81 d = (i : Int) ∧ C3 81 (d + 1) = -1 ∧ (∀ j, j < d → C3 82 j = C 82 j) ∧ C3 82 d = (kK W s i : Int) ∧ (∀ j, j ≤ d → C3 83 j = C 83 j) ∧ C3 83 (d + 1) = ((nk v p k i (kP (kT W s i)) : Nat) : Int)) := by
  have hW1 := hW.1
  have gd : 0 ≤ (d : Int) ∧ (d : Int) < 64 := by omega
  have gd1 : 0 ≤ ((d + 1 : Nat) : Int) ∧ ((d + 1 : Nat) : Int) < 64 := by omega
  have gk : 0 ≤ (k : Int) ∧ (k : Int) < 4 := by omega
  have n0 : ¬ (d : Int) < 0 := by omega
  have ni : (i : Int) < (wN W : Int) := by omega
  have e81 : zadd (C 81 d) 1 = (i : Int) := by rw [h81, zadd_e (by omega) (by omega)]; omega
  have ed : zadd (d : Int) 1 = ((d + 1 : Nat) : Int) := zinN (by omega)
  have ed2 : zsub ((d + 1 : Nat) : Int) 1 = (d : Int) := by rw [zsub_e (by omega) (by omega)]; omega
  have hR1 : MWd W (zup2 C 81 d (i : Int)) := Fo_wd (Fo_u (by omega)) hR
  have hS1 : MWk s (zup2 C 81 d (i : Int)) := MWk_u (by decide) (by decide) hS
  have hG1 : MG N v p (zup2 C 81 d (i : Int)) := MG_fo (Fo_u (by omega)) hG
  have cF : Fo C (zup2 C 81 d (i : Int)) := Fo_u (by omega)
  have a1 : ∀ j, j < d → zup2 C 81 d (i : Int) 81 j = C 81 j := fun j hj => zu_nj (by omega)
  have a2 : zup2 C 81 d (i : Int) 81 d = (i : Int) := zu_eq
  have a3 : zup2 C 81 d (i : Int) 82 = C 82 := zu_nb (by decide)
  have a4 : zup2 C 81 d (i : Int) 83 = C 83 := zu_nb (by decide)
  have hb : d_couldBegin_L34 ((d : Int), 0) C = hB3 d i (zup2 C 81 d (i : Int)) := by
    unfold d_couldBegin_L34 hB3
    dsimp only
    rw [if_neg n0, if_neg (show ¬ ¬ (0 : Int) = 0 from fun z => z rfl), zg_t gd, zg_t gd, zg_t gd]
    simp only [Int.toNat_natCast, e81, zu_eq, ed, ed2]
    rw [zu_ne (show (72 : Nat) ≠ 81 by decide), hR.1, if_pos ni]
  generalize zup2 C 81 d (i : Int) = C1 at *
  unfold hB3 at hb
  rw [m_mayBe hW hR1 hk hS1 hi, zbd_some] at hb
  by_cases hkk : kK W s i = 0
  · refine Or.inl ⟨hkk, ?_⟩
    rw [hb, if_pos (by omega)]
  · refine Or.inr ⟨hkk, ?_⟩
    have hto := kT_P hk hkk
    obtain ⟨C2, s1, s2, s3⟩ := m_steps hW hR1 hk hS1 (w := i) rfl hkk
    have hs2 : MWk (kT W s i) C2 := s2
    have b83 : C2 83 d = (k : Int) := by rw [s3.1 83 (by decide) (by decide), a4]; exact h83
    have b87 : C2 87 k = (v k : Int) := by rw [s3.1 87 (by decide) (by decide)]; exact (hG1.2 k hkN).1
    have b88 : C2 88 k = (p k : Int) := by rw [s3.1 88 (by decide) (by decide)]; exact (hG1.2 k hkN).2
    have b7 : C2 72 7 = (kP (kT W s i) : Int) := hs2.1
    have bN : C2 72 23 = (N : Int) := by rw [s3.2 23 (by decide) (by decide) (by decide)]; exact hG1.1
    rw [if_neg (by omega), s1, zbd_some, zg_t gd, zg_t gd] at hb
    simp only [zu_ne (show (83 : Nat) ≠ 82 by decide), zu_ne (show (87 : Nat) ≠ 82 by decide), zu_ne (show (88 : Nat) ≠ 82 by decide), zu_ne (show (72 : Nat) ≠ 82 by decide), b83, Int.toNat_natCast, b87, b88, b7, zg_t gk] at hb
    have zk : zadd (k : Int) 1 = ((k + 1 : Nat) : Int) := zinN (by omega)
    have eif : (if ¬ (v k : Int) = (i : Int) then some ((((d + 1 : Nat) : Int), (k : Int), ((d + 1 : Nat) : Int)), zup2 C2 82 d (kK W s i : Int)) else if ¬ (p k : Int) = (kP (kT W s i) : Int) then some ((((d + 1 : Nat) : Int), (k : Int), ((d + 1 : Nat) : Int)), zup2 C2 82 d (kK W s i : Int)) else some ((((d + 1 : Nat) : Int), zadd (k : Int) 1, ((d + 1 : Nat) : Int)), zup2 C2 82 d (kK W s i : Int))) = some ((((d + 1 : Nat) : Int), ((nk v p k i (kP (kT W s i)) : Nat) : Int), ((d + 1 : Nat) : Int)), zup2 C2 82 d (kK W s i : Int)) := by
      unfold nk
      by_cases q1 : v k = i
      · rw [if_neg (show ¬ ¬ (v k : Int) = (i : Int) by omega)]
        by_cases q2 : p k = kP (kT W s i)
        · rw [if_neg (show ¬ ¬ (p k : Int) = (kP (kT W s i) : Int) by omega), if_pos ⟨q1, q2⟩, zk]
        · rw [if_pos (by omega), if_neg (fun z => q2 z.2)]
      · rw [if_pos (by omega), if_neg (fun z => q1 z.1)]
    rw [eif, zbd_some] at hb
    dsimp only at hb
    rw [zg_t gd1, zg_t gd1, zg_t gd1, Int.toNat_natCast, zu_ne (show (83 : Nat) ≠ 81 by decide), zu_eq, zu_ne (show (72 : Nat) ≠ 81 by decide), zu_ne (show (72 : Nat) ≠ 83 by decide), zu_ne (show (72 : Nat) ≠ 82 by decide), bN] at hb
    refine ⟨zup2 (zup2 (zup2 C2 82 d (kK W s i : Int)) 83 (d + 1) ((nk v p k i (kP (kT W s i)) : Nat) : Int)) 81 (d + 1) (-1), ?_, ?_, ?_, fun j hj => ?_, ?_, ?_, fun j hj => ?_, ?_, fun j hj => ?_, ?_⟩
    · rw [hb]
      by_cases q : nk v p k i (kP (kT W s i)) = N
      · rw [if_neg (fun z => z (by omega)), if_pos q]
      · rw [if_pos (by omega), if_neg q]
    · exact Fo_tr cF (Fo_tr (Fo_M s3) (Fo_tr (Fo_tr (Fo_u (by decide)) (Fo_u (by decide))) (Fo_u (by decide))))
    · exact MWk_u (by decide) (by decide) (MWk_u (by decide) (by decide) (MWk_u (by decide) (by decide) hs2))
    · rw [zu_nj (by omega), zu_ne (by decide), zu_ne (by decide), s3.1 81 (by decide) (by decide)]; exact a1 j hj
    · rw [zu_nj (by omega), zu_ne (by decide), zu_ne (by decide), s3.1 81 (by decide) (by decide)]; exact a2
    · exact zu_eq
    · rw [zu_ne (by decide), zu_ne (by decide), zu_nj (by omega), s3.1 82 (by decide) (by decide), a3]
    · rw [zu_ne (by decide), zu_ne (by decide), zu_eq]
    · rw [zu_ne (by decide), zu_nj (by omega), zu_ne (by decide), s3.1 83 (by decide) (by decide), a4]
    · rw [zu_ne (by decide), zu_eq]
theorem m_seek (hW : wOK W) (hN : N ≤ 4) (hC0 : MWd W C0) (hG0 : MG N v p C0) {Q : Int → ZC → Prop} :
    ∀ (m : Nat) (s : ZWk), mu W s = m → kOK W s → ∀ (d k : Nat), d + m ≤ 50 → k < N → ∀ (e i : Nat), i + e = wN W → ∀ C, Fo C0 C → Nd s d i C → C 83 d = (k : Int) →
      (fs W N v p s k i → ∀ C', Fo C0 C' → Q 1 C') →
      (∀ C', Fo C0 C' → Nd s d (wN W) C' → Pd d C C' → (∀ j, j ≤ d → C' 83 j = C 83 j) → ¬ fs W N v p s k i → zH (zloop d_couldBegin_L34 ((d : Int), 0) C') Q) →
      zH (zloop d_couldBegin_L34 ((d : Int), 0) C) Q := by
  have hW1 := hW.1
  intro m
  induction m using Nat.strongRecOn with
  | _ m ihm =>
  intro s hm hk d k hd hkN e
  induction e with
  | zero =>
    intro i hi C hF hN2 h83 hQ hK
    have e : i = wN W := by omega
    subst e
    exact hK C hF hN2 (fun _ _ => ⟨rfl, rfl⟩) (fun _ _ => rfl) (fun ⟨w, h1, h2, _⟩ => by have := kK_lt h2; omega)
  | succ e ihe =>
    intro i hi C hF hN2 h83 hQ hK
    have hi0 : i < wN W := by omega
    have hi1 : (i + 1) + e = wN W := by omega
    have hd60 : d < 60 := by omega
    have hdm : ∀ t, mu W t + 1 = mu W s → mu W t < m ∧ d + 1 + mu W t ≤ 50 := fun t ht => by omega
    have nlt : ∀ j, j < d → j ≠ d := fun j hj => by omega
    have lt1 : ∀ j, j ≤ d → j < d + 1 := fun j hj => by omega
    have le1 : ∀ j, j < d → j ≤ d := fun j hj => by omega
    have ei : (i : Int) = ((i + 1 : Nat) : Int) - 1 := by omega
    have hiff : fs W N v p s k (i + 1) → fs W N v p s k i := fun ⟨w, b1, b2⟩ => ⟨w, by omega, b2⟩
    have hiff2 : ¬ (kK W s i ≠ 0 ∧ SH W N v p (kT W s i) (nk v p k i (kP (kT W s i)))) → fs W N v p s k i → fs W N v p s k (i + 1) := by
      rintro hn ⟨w, b1, b2⟩
      by_cases ew : w = i
      · rw [ew] at b2; exact absurd b2 hn
      · exact ⟨w, by omega, b2⟩
    have next : ¬ (kK W s i ≠ 0 ∧ SH W N v p (kT W s i) (nk v p k i (kP (kT W s i)))) → ∀ C2, Fo C0 C2 → MWk s C2 → C2 81 d = (i : Int) → Pd d C C2 → (∀ j, j ≤ d → C2 83 j = C 83 j) → zH (zloop d_couldBegin_L34 ((d : Int), 0) C2) Q := by
      intro hn C2 f1 f2 f2b f3 f4
      refine ihe (i + 1) hi1 C2 f1 ⟨f2, f2b.trans ei⟩ ((f4 d (Nat.le_refl _)).trans h83) (fun z => hQ (hiff z)) (fun C' b1 b2 b3 b4 b5 => hK C' b1 b2 (fun j hj => ⟨((b3 j hj).1).trans (f3 j hj).1, ((b3 j hj).2).trans (f3 j hj).2⟩) (fun j hj => (b4 j hj).trans (f4 j hj)) (fun z => b5 (hiff2 hn z)))
    have hR := Fo_wd hF hC0
    have hG := MG_fo hF hG0
    rcases m_seekT hW hN hd60 hi0 hkN hk hR hN2.1 hG h83 hN2.2 with ⟨hn, hb⟩ | ⟨hkk, C3, hb, c1, c2, c3, c4, c5, c6, c7, c8, c9⟩
    · rw [zloop_eq, hb]
      exact next (fun z => z.1 hn) _ (Fo_tr hF (Fo_u (by decide))) (MWk_u (by decide) (by decide) hN2.1) zu_eq (fun j hj => ⟨zu_nj (nlt j hj), by rw [zu_nb (by decide)]⟩) (fun j hj => by rw [zu_nb (by decide)])
    · have hmu := hdm _ (mu_T hW hk hkk)
      have hF3 : Fo C0 C3 := Fo_tr hF c1
      rw [zloop_eq, hb]
      have hnk := nk_le (v := v) (p := p) (k := k) (N := N) (w := i) (q := kP (kT W s i)) hkN
      by_cases hfull : nk v p k i (kP (kT W s i)) = N
      · rw [if_pos hfull]
        dsimp only
        rw [zloop_eq]
        have hb2 : d_couldBegin_L34 (((d + 1 : Nat) : Int), 1) C3 = some (.inr 1, C3) := by
          unfold d_couldBegin_L34
          dsimp only
          rw [if_neg (by omega), if_pos (by decide)]
        rw [hb2]
        exact zH_some (hQ ⟨i, Nat.le_refl _, hkk, 0, Nat.le_of_eq hfull.symm⟩ C3 hF3)
      · rw [if_neg hfull]
        have hlt : nk v p k i (kP (kT W s i)) < N := by omega
        have hgood : fs W N v p (kT W s i) (nk v p k i (kP (kT W s i))) 0 → fs W N v p s k i := fun z => ⟨i, Nat.le_refl _, hkk, (fs_SH hlt).mpr z⟩
        refine ihm (mu W (kT W s i)) hmu.1 (kT W s i) rfl (kOK_T hW hk hkk) (d + 1) (nk v p k i (kP (kT W s i))) hmu.2 hlt (wN W) 0 (Nat.zero_add _) C3 hF3 ⟨c2, c5⟩ c9 (fun z => hQ (hgood z)) ?_
        intro C4 f1 f2 f3 f4 f5
        have p1 := f3 d (Nat.lt_succ_self d)
        have hR4 := Fo_wd f1 hC0
        have hR5 : MWd W (zup2 C4 81 (d + 1) (wN W : Int)) := Fo_wd (Fo_tr f1 (Fo_u (by decide))) hC0
        obtain ⟨C6, u1, u2, u3⟩ := m_unsteps hW hR5 hk (w := i) (k := kK W s i) rfl hkk (MWk_u (by decide) (by decide) f2.1)
        have hb4 := m_seekB hd60 hW1 hR4.1 f2.2 (p1.1.trans c4) (p1.2.trans c7) u1
        rw [zloop_eq, hb4]
        have k81 : ∀ j, j ≤ d → C6 81 j = C3 81 j := fun j hj => by
          rw [u3.1 81 (by decide) (by decide), zu_nj (Nat.ne_of_lt (lt1 j hj)), (f3 j (lt1 j hj)).1]
        refine next (fun z => f5 ((fs_SH hlt).mp z.2)) C6 (Fo_tr (Fo_tr f1 (Fo_u (by decide))) (Fo_M u3)) u2 ((k81 d (Nat.le_refl _)).trans c4) (fun j hj => ⟨(k81 j (le1 j hj)).trans (c3 j hj), ?_⟩) (fun j hj => ?_)
        · rw [u3.1 82 (by decide) (by decide), zu_ne (by decide), (f3 j (lt1 j (le1 j hj))).2, c6 j hj]
        · rw [u3.1 83 (by decide) (by decide), zu_ne (by decide), f4 j (Nat.le_succ_of_le hj), c8 j hj]
theorem m_begins {q : Nat} : ∃ C', d_begins (q : Int) C = some (0, C') ∧ MWk (q, [], 0) C' ∧ (∀ a, a ≠ 72 → C' a = C a) ∧ ∀ j, j ≠ 7 → j ≠ 8 → j ≠ 9 → j ≠ 11 → j ≠ 12 → j ≠ 13 → C' 72 j = C 72 j := by
  unfold d_begins
  refine ⟨_, rfl, ⟨?_, ?_, ?_, trivial⟩, fun a ha => ?_, fun j h1 h2 h3 h4 h5 h6 => ?_⟩
  · rw [zu_nj (by decide), zu_nj (by decide), zu_nj (by decide), zu_nj (by decide), zu_nj (by decide), zu_eq]; rfl
  · rw [zu_nj (by decide), zu_nj (by decide), zu_nj (by decide), zu_nj (by decide), zu_eq]; rfl
  · rw [zu_nj (by decide), zu_nj (by decide), zu_nj (by decide), zu_eq]; rfl
  · rw [zu_nb ha, zu_nb ha, zu_nb ha, zu_nb ha, zu_nb ha, zu_nb ha]
  · rw [zu_nj h6, zu_nj h5, zu_nj h4, zu_nj h3, zu_nj h2, zu_nj h1]
theorem m_couldBegin (hW : wOK W) (hN : N ≤ 4) (hR : MWd W C) (hG : MG N v p C) {q : Nat} (hq : q < 8) : zH (d_couldBegin (q : Int) C) (fun b C' => yn (SH W N v p (q, [], 0) 0) b ∧ Msc C C' ∧ MWd W C' ∧ MG N v p C') := by
  have hW1 := hW.1
  obtain ⟨C1, b1, b2, b3, b4⟩ := m_begins (C := C) (q := q)
  have hM1 : Msc C C1 := ⟨fun a ha => b3 a (by omega), b4 23 (by decide) (by decide) (by decide) (by decide) (by decide) (by decide), b4 33 (by decide) (by decide) (by decide) (by decide) (by decide) (by decide)⟩
  have hR1 : MWd W C1 := by
    unfold MWd
    rw [b3 75 (by decide), b3 76 (by decide), b3 77 (by decide), b4 2 (by decide) (by decide) (by decide) (by decide) (by decide) (by decide)]
    exact hR
  have hG1 : MG N v p C1 := by
    unfold MG
    rw [b3 87 (by decide), b3 88 (by decide), b4 23 (by decide) (by decide) (by decide) (by decide) (by decide) (by decide)]
    exact hG
  have hF : Fo C1 (zup2 (zup2 C1 81 0 (-1)) 83 0 0) := Fo_tr (Fo_u (by decide)) (Fo_u (by decide))
  have fin : ∀ C', Fo C1 C' → Msc C C' ∧ MWd W C' ∧ MG N v p C' := fun C' h => ⟨Msc_tr hM1 (Fo_sc h), Fo_wd h hR1, MG_fo h hG1⟩
  have hk := kOK_begin (W := W) q hq
  have hmu := mu_le hk
  have e23 : zup2 (zup2 C1 81 0 (-1)) 83 0 0 72 23 = (N : Int) := by rw [zu_ne (by decide), zu_ne (by decide)]; exact hG1.1
  unfold d_couldBegin
  rw [b1, zbd_some, e23]
  by_cases e0 : N = 0
  · rw [if_neg (fun z => z (by omega)), zbd_some]
    dsimp only
    rw [zloop_eq]
    have hb : d_couldBegin_L34 (0, 1) (zup2 (zup2 C1 81 0 (-1)) 83 0 0) = some (.inr 1, zup2 (zup2 C1 81 0 (-1)) 83 0 0) := by
      unfold d_couldBegin_L34
      dsimp only
      rw [if_neg (by decide), if_pos (by decide)]
    rw [hb]
    dsimp only
    rw [zbd_some, zg_t (Or.inr rfl)]
    exact zH_some ⟨Or.inl ⟨rfl, 0, Nat.le_of_eq e0⟩, fin _ hF⟩
  · rw [if_pos (by omega), zbd_some]
    dsimp only
    have hlt : 0 < N := by omega
    refine zH_bd2 (P := fun b C' => yn (SH W N v p (q, [], 0) 0) b ∧ Fo C1 C') ?_ (fun b C2 h2 => ?_)
    · refine m_seek hW hN hR1 hG1 (mu W (q, [], 0)) (q, [], 0) rfl hk 0 0 (by omega) hlt (wN W) 0 (Nat.zero_add _) _ hF ⟨MWk_u (by decide) (by decide) (MWk_u (by decide) (by decide) b2), ?_⟩ zu_eq (fun z C' hf => ⟨Or.inl ⟨rfl, (fs_SH hlt).mpr z⟩, hf⟩) (fun C' a1 a2 a3 a4 a5 => ?_)
      · rw [zu_ne (by decide), zu_eq]; rfl
      · have hR4 := Fo_wd a1 hR1
        have e81 : zadd (C' 81 0) 1 = (wN W : Int) := by rw [a2.2, zadd_e (by omega) (by omega)]; omega
        have e72 : zup2 C' 81 0 (wN W : Int) 72 2 = (wN W : Int) := by rw [zu_ne (by decide)]; exact hR4.1
        have hb : d_couldBegin_L34 (((0 : Nat) : Int), 0) C' = some (.inl (-1, 0), zup2 C' 81 0 (wN W : Int)) := by
          have g0 : 0 ≤ ((0 : Nat) : Int) ∧ ((0 : Nat) : Int) < 64 := by omega
          have em : zadd ((0 : Nat) : Int) (-1) = -1 := by rw [zadd_e (by omega) (by omega)]; rfl
          unfold d_couldBegin_L34
          dsimp only
          rw [if_neg (by omega), if_neg (show ¬ ¬ (0 : Int) = 0 from fun z => z rfl), zg_t g0, zg_t g0, zg_t g0]
          simp only [Int.toNat_natCast, e81, zu_eq, em]
          rw [e72, if_neg (by omega), if_pos (by omega)]
        rw [zloop_eq, hb]
        dsimp only
        rw [zloop_eq]
        have hb2 : d_couldBegin_L34 (-1, 0) (zup2 C' 81 0 (wN W : Int)) = some (.inr 0, zup2 C' 81 0 (wN W : Int)) := by
          unfold d_couldBegin_L34
          dsimp only
          rw [if_pos (by decide)]
        rw [hb2]
        exact zH_some ⟨Or.inr ⟨rfl, fun z => a5 ((fs_SH hlt).mp z)⟩, Fo_tr a1 (Fo_u (by decide))⟩
    · rw [zg_t (h2.1.elim (fun z => Or.inr z.1) (fun z => Or.inl z.1))]
      exact zH_some ⟨h2.1, fin _ h2.2⟩
theorem m_cameInNow (hA : aOK A) (hC : RM A C) : zH (d_cameInNow C) (fun b C' => b = s_cameIn A ∧ Msc C C') := by
  have hW := aW_OK (A := A)
  have hW1 := hW.1
  have hN := hA.2.2.1.1
  have hsv := sv_ok hA
  unfold d_cameInNow s_cameIn
  refine zH_bd2 (m_wood hA hC) (fun _ C1 h1 => ?_)
  obtain ⟨-, g1, g2, g3⟩ := h1
  have hG : MG (aN A) (sv A) (sp A) C1 := ⟨g3.2.2.1.1, fun i hi => by
    have := g3.2.2.1.2 i hi
    rw [this.1, this.2]
    exact ⟨(hsv i hi).2.2.1, (hsv i hi).2.2.2⟩⟩
  rw [g1.1]
  by_cases h6 : wN (aW A) ≤ 6
  · rw [if_pos (by omega), if_pos h6]
    refine zH_bs (P := fun o C' => (match o with | .inl _ => sOK A | .inr b => b = 0 ∧ ¬ sOK A) ∧ C' = C1) ?_ (fun a C2 h2 => ?_) (fun b C2 h2 => ?_)
    · refine zH_for (fun i x C' => x = (i : Int) ∧ (∀ j, j < i → wI (aW A) (sv A j) (sp A j) = true) ∧ C' = C1) (aN A) 0 (Nat.zero_le _) ⟨rfl, fun j hj => absurd hj (Nat.not_lt_zero _), rfl⟩ ?_ ?_
      · rintro i x C' hi ⟨rfl, i1, rfl⟩
        obtain ⟨q1, q2⟩ := hG.2 i hi
        have g4 : 0 ≤ (i : Int) ∧ (i : Int) < 4 := by omega
        have hb := hsv i hi
        have g13 : 0 ≤ (sv A i : Int) ∧ (sv A i : Int) < 13 := by omega
        unfold d_cameInNow_L19
        rw [hG.1, if_neg (by omega)]
        simp only [Int.toNat_natCast, zg_t g4, q1, q2, zg_t g13, g1.1]
        have eif : (if (wN (aW A) : Int) ≤ (sv A i : Int) then some ((0 : Int), C') else if C' 75 (sv A i) = (sp A i : Int) then some (1, C') else if ¬ C' 76 (sv A i) = (sp A i : Int) then some (0, C') else some (1, C')) = some ((if wI (aW A) (sv A i) (sp A i) = true then 1 else 0 : Int), C') := by
          by_cases e1 : sv A i < wN (aW A)
          · obtain ⟨w1, w2, w3⟩ := g1.2 _ e1
            rw [if_neg (by omega), w1, w2]
            by_cases e2 : wA (aW A) (sv A i) = sp A i
            · rw [if_pos (by omega), if_pos (wI_iff.mpr ⟨e1, Or.inl e2⟩)]
            · rw [if_neg (by omega)]
              by_cases e3 : wB (aW A) (sv A i) = sp A i
              · rw [if_neg (show ¬ ¬ (wB (aW A) (sv A i) : Int) = (sp A i : Int) by omega), if_pos (wI_iff.mpr ⟨e1, Or.inr e3⟩)]
              · rw [if_pos (by omega), if_neg (fun z => (wI_iff.mp z).2.elim e2 e3)]
          · rw [if_pos (by omega), if_neg (fun z => e1 (wI_iff.mp z).1)]
        rw [eif, zbd_some]
        by_cases e : wI (aW A) (sv A i) (sp A i) = true
        · rw [if_pos e, if_pos (by decide), zinN (by omega)]
          refine zH_some ⟨rfl, fun j hj => ?_, rfl⟩
          by_cases ej : j = i
          · rw [ej]; exact e
          · exact i1 j (by omega)
        · rw [if_neg e, if_neg (by decide)]
          exact zH_some ⟨⟨rfl, fun z => e (z i hi)⟩, rfl⟩
      · rintro x C' ⟨rfl, i1, rfl⟩
        unfold d_cameInNow_L19
        rw [hG.1, if_pos (by omega)]
        exact zH_some ⟨i1, rfl⟩
    · obtain ⟨h2, rfl⟩ := h2
      rw [if_pos h2]
      refine zH_bd2 (P := fun b C' => b = cmN (aW A) (aN A) (sv A) (sp A) 8 ∧ Msc C2 C') ?_ (fun b C3 h3 => zH_some ⟨h3.1, Msc_tr g2 h3.2⟩)
      refine zH_for (fun i x C' => x = (cmN (aW A) (aN A) (sv A) (sp A) i, (i : Int)) ∧ Msc C2 C' ∧ MWd (aW A) C' ∧ MG (aN A) (sv A) (sp A) C') 8 0 (by decide) ⟨rfl, Msc_refl, g1, hG⟩ ?_ ?_
      · rintro i x C' hi ⟨rfl, i1, i2, i3⟩
        unfold d_cameInNow_L102
        dsimp only
        rw [if_neg (by omega)]
        refine zH_bd2 (m_couldBegin hW hN i2 i3 hi) (fun b C3 h3 => ?_)
        obtain ⟨hv, d1, d2, d3⟩ := h3
        rcases hv with ⟨rfl, hv⟩ | ⟨rfl, hv⟩
        · rw [if_neg (by decide), zinN (by omega)]
          exact zH_some ⟨by rw [cm_e hv], Msc_tr i1 d1, d2, d3⟩
        · rw [if_pos rfl, zinN (by omega), zor_0 (cm_32 i)]
          exact zH_some ⟨by rw [cm_n hv], Msc_tr i1 d1, d2, d3⟩
      · rintro x C' ⟨rfl, i1, i2, i3⟩
        unfold d_cameInNow_L102
        dsimp only
        rw [if_pos (by omega)]
        exact zH_some ⟨rfl, i1⟩
    · obtain ⟨⟨rfl, h2⟩, rfl⟩ := h2
      rw [if_neg h2]
      exact ⟨rfl, g2⟩
  · rw [if_neg (by omega), if_neg h6]
    exact zH_some ⟨rfl, g2⟩
theorem m_cameIn (hA : aOK A) (h : RM A C) : zH (d_cameIn C) (QM C (s_cameIn A) A) := by
  unfold d_cameIn
  refine zH_bd2 (m_cameInNow hA h) (fun b C1 h1 => ?_)
  obtain ⟨rfl, h2⟩ := h1
  exact zH_some (QM_sc h2 h)
end ZCAMEM

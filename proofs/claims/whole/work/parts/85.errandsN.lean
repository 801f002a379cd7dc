/-! errands() in the model: the search -/
section ZERRN
variable {W : ZWd} {C C0 : ZC} {s : ZWk} {h : Nat} {E B : Int} {A : ZA}
theorem gdR_end {t : ZWk} {B' : Int} : gdR W h E [] t B' ↔ (kP t = h ∧ zand E (zxor B' (-1)) = 0) := Iff.rfl
theorem m_err (hW : wOK W) {k : Nat} (hk4 : k < 4) (hC0 : MWd W C0) (hH : C0 78 k = (h : Int)) {s0 : ZWk} {B0 : Int} {Q : Unit → ZC → Prop} :
    ∀ (m : Nat) (s : ZWk), mu W s = m → kOK W s → ∀ (d : Nat) (pre : List Nat) (B : Int), pre.length = d → d + m ≤ 50 → mnW W pre ≤ 9 * d → (∀ T, gdR W h E T s B → gdR W h E (pre ++ T) s0 B0) → ∀ (e i : Nat), i + e = wN W → ∀ (C : ZC) (bo : Option (List Nat)), Fo C0 C → Nd s d i C → (∀ j, j < d → C 81 j = ((pre.getD j 0 : Nat) : Int)) → C 83 d = B → C 84 d = (mnW W pre : Int) → bE W bo C →
      (∀ b, bo = some b → b.length ≤ 50 ∧ ∀ w ws, i ≤ w → lx b (pre ++ w :: ws)) →
      (∀ C' bo', Fo C0 C' → Nd s d (wN W) C' → Pd d C C' → (∀ j, j ≤ d → C' 83 j = C 83 j ∧ C' 84 j = C 84 j) → bE W bo' C' → (bo' = bo ∨ ∃ T, bo' = some (pre ++ T) ∧ gdR W h E (pre ++ T) s0 B0 ∧ (pre ++ T).length ≤ 50) → (∀ b, bo = some b → ∃ b', bo' = some b' ∧ ble W b' b) →
        (∀ w ws, i ≤ w → gdR W h E (w :: ws) s B → ∃ b', bo' = some b' ∧ ble W b' (pre ++ w :: ws)) → zH (zloop (d_runsErrands_L76 (k : Int) E) (d : Int) C') Q) →
      zH (zloop (d_runsErrands_L76 (k : Int) E) (d : Int) C) Q := by
  have hW1 := hW.1
  intro m
  induction m using Nat.strongRecOn with
  | _ m ihm =>
  intro s hm hk d pre B hpd hd hmn hroot e
  induction e with
  | zero =>
    intro i hi C bo hF hN h81 h83 h84 hbE hbo hK
    have e : i = wN W := by omega
    subst e
    refine hK C bo hF hN (fun _ _ => ⟨rfl, rfl⟩) (fun _ _ => ⟨rfl, rfl⟩) hbE (Or.inl rfl) (fun b hb => ⟨b, hb, Or.inr ⟨rfl, lx_rf b⟩⟩) (fun w ws hw hg => ?_)
    have := kK_lt hg.1
    omega
  | succ e ihe =>
    intro i hi C bo hF hN h81 h83 h84 hbE hbo hK
    have hi0 : i < wN W := by omega
    have hi1 : (i + 1) + e = wN W := by omega
    have hd60 : d < 60 := by omega
    have hm9 := hW.2 i hi0
    have hdm : ∀ t, mu W t + 1 = mu W s → mu W t < m ∧ d + 1 + mu W t ≤ 50 := fun t ht => by omega
    have nlt : ∀ j, j < d → j ≠ d := fun j hj => by omega
    have lt1 : ∀ j, j ≤ d → j < d + 1 := fun j hj => by omega
    have le1 : ∀ j, j < d → j ≤ d := fun j hj => by omega
    have ei : (i : Int) = ((i + 1 : Nat) : Int) - 1 := by omega
    have hR := Fo_wd hF hC0
    have h78 : C 78 k = (h : Int) := by rw [hF.1 78 (by decide) (by decide) (by decide) (by decide) (by decide) (by decide) (by decide) (by decide)]; exact hH
    -- what is left behind this way
    have next : ∀ C2 bo2, Fo C0 C2 → MWk s C2 → C2 81 d = (i : Int) → Pd d C C2 → (∀ j, j ≤ d → C2 83 j = C 83 j ∧ C2 84 j = C 84 j) → bE W bo2 C2 → (bo2 = bo ∨ ∃ T, bo2 = some (pre ++ (i :: T)) ∧ gdR W h E (pre ++ (i :: T)) s0 B0 ∧ (pre ++ (i :: T)).length ≤ 50) → (∀ b, bo = some b → ∃ b', bo2 = some b' ∧ ble W b' b) →
        (∀ ws, gdR W h E (i :: ws) s B → ∃ b', bo2 = some b' ∧ ble W b' (pre ++ i :: ws)) → zH (zloop (d_runsErrands_L76 (k : Int) E) (d : Int) C2) Q := by
      intro C2 bo2 f1 f2 f2b f3 f4 f5 f6 f7 f8
      refine ihe (i + 1) hi1 C2 bo2 f1 ⟨f2, f2b.trans ei⟩ (fun j hj => (f3 j hj).1.trans (h81 j hj)) ((f4 d (Nat.le_refl _)).1.trans h83) ((f4 d (Nat.le_refl _)).2.trans h84) f5 (fun b hb => ?_) (fun C' bo' b1 b2 b3 b4 b5 b6 b7 b8 => ?_)
      · rcases f6 with f6 | ⟨T, f6, _, f6l⟩
        · rw [f6] at hb
          exact ⟨(hbo b hb).1, fun w ws hw => (hbo b hb).2 w ws (by omega)⟩
        · rw [f6] at hb
          have e : pre ++ (i :: T) = b := Option.some.inj hb
          rw [← e]
          exact ⟨f6l, fun w ws hw => lx_app pre (Or.inl (by omega))⟩
      · refine hK C' bo' b1 b2 (fun j hj => ⟨((b3 j hj).1).trans (f3 j hj).1, ((b3 j hj).2).trans (f3 j hj).2⟩) (fun j hj => ⟨((b4 j hj).1).trans (f4 j hj).1, ((b4 j hj).2).trans (f4 j hj).2⟩) b5 ?_ (fun b hb => ?_) (fun w ws hw hg => ?_)
        · rcases b6 with b6 | b6
          · rcases f6 with f6 | ⟨T, f6, f6g, f6l⟩
            · exact Or.inl (b6.trans f6)
            · exact Or.inr ⟨i :: T, b6.trans f6, f6g, f6l⟩
          · exact Or.inr b6
        · obtain ⟨b', q1, q2⟩ := f7 b hb
          obtain ⟨b'', q3, q4⟩ := b7 b' q1
          exact ⟨b'', q3, ble_tr q4 q2⟩
        · by_cases ew : w = i
          · subst ew
            obtain ⟨b', q1, q2⟩ := f8 ws hg
            obtain ⟨b'', q3, q4⟩ := b7 b' q1
            exact ⟨b'', q3, ble_tr q4 q2⟩
          · exact b8 w ws (by omega) hg
    rcases m_errT (E := E) hW hk4 hd60 hi0 hk hR hN.1 h78 h83 h84 (by omega) hN.2 with ⟨hn, hb⟩ | ⟨hkk, hcd, C3, hb, ⟨c1, c2, c3, c4, c5, c6, c7, c8, c9, c10⟩, hbest⟩
    · rw [zloop_eq, hb]
      refine next _ bo (Fo_tr hF (Fo_u (by decide))) (MWk_u (by decide) (by decide) hN.1) zu_eq (fun j hj => ⟨zu_nj (nlt j hj), by rw [zu_nb (by decide)]⟩) (fun j _ => by rw [zu_nb (by decide), zu_nb (by decide)]; exact ⟨rfl, rfl⟩) ?_ (Or.inl rfl) (fun b hb => ⟨b, hb, Or.inr ⟨rfl, lx_rf b⟩⟩) (fun ws hg => ?_)
      · cases bo with
        | none => show zup2 C 81 d (i : Int) 72 21 = -1; rw [zu_ne (by decide)]; exact hbE
        | some b =>
          obtain ⟨q1, q2, q3⟩ := hbE
          refine ⟨?_, ?_, fun j hj => ?_⟩
          · rw [zu_ne (by decide)]; exact q1
          · rw [zu_ne (by decide)]; exact q2
          · rw [zu_ne (by decide)]; exact q3 j hj
      · rcases hn with hn | hn
        · exact absurd hn hg.1
        · cases hbo2 : bo with
          | none =>
            rw [hbo2] at hbE
            exact absurd (Or.inl hbE) hn
          | some b =>
            rw [hbo2] at hbE
            obtain ⟨q1, q2, q3⟩ := hbE
            obtain ⟨l1, l2⟩ := hbo b hbo2
            refine ⟨b, rfl, ?_⟩
            unfold cd at hn
            rw [q1, q2] at hn
            have hx1 := cw_mn (W := W) b
            have hx2 := cw_mn (W := W) (pre ++ i :: ws)
            have hx3 := mnW_app (W := W) pre (i :: ws)
            have hx4 : mnW W (i :: ws) = wM W i + mnW W ws := rfl
            have hx5 : (pre ++ i :: ws).length = d + (ws.length + 1) := by rw [List.length_append, List.length_cons, hpd]
            have hl := l2 i ws (Nat.le_refl _)
            by_cases e1 : cw W b < cw W (pre ++ i :: ws)
            · exact Or.inl e1
            · refine Or.inr ⟨?_, hl⟩
              have hn1 : ¬ (mnW W pre + wM W i < mnW W b) := fun z => hn (Or.inr (Or.inl (by omega)))
              have hn2 : ¬ (mnW W pre + wM W i = mnW W b ∧ d + 1 < b.length) := fun z => hn (Or.inr (Or.inr ⟨by omega, by omega⟩))
              omega
    · have hmu := hdm _ (mu_T hW hk hkk)
      have hF3 : Fo C0 C3 := Fo_tr hF c1
      have hpl : (pre ++ [i]).length = d + 1 := by rw [List.length_append, hpd]; rfl
      have happ : ∀ T, (pre ++ [i]) ++ T = pre ++ (i :: T) := fun T => by rw [List.append_assoc]; rfl
      have hmn1 : mnW W (pre ++ [i]) = mnW W pre + wM W i := by rw [mnW_app]; rfl
      have hrow : ∀ j, j < d + 1 → C3 81 j = (((pre ++ [i]).getD j 0 : Nat) : Int) := fun j hj => by
        by_cases ej : j = d
        · rw [ej, c4]
          have := gd_app2 (i := i) pre
          rw [hpd] at this
          rw [this]
        · rw [c3 j (by omega), h81 j (by omega), gd_app1 pre [i] j (by omega)]
      have hrootT : ∀ T, gdR W h E T (kT W s i) (zor B (zshl 1 (kP (kT W s i) : Int))) → gdR W h E ((pre ++ [i]) ++ T) s0 B0 := fun T hT => by
        rw [happ]; exact hroot (i :: T) ⟨hkk, hT⟩
      -- the best, this place told
      have hbo1 : ∃ bo1, bE W bo1 C3 ∧ (bo1 = bo ∨ (bo1 = some (pre ++ [i]) ∧ gdR W h E (pre ++ [i]) s0 B0)) ∧ (∀ b, bo = some b → ∃ b', bo1 = some b' ∧ ble W b' b) ∧ (gdR W h E [] (kT W s i) (zor B (zshl 1 (kP (kT W s i) : Int))) → bo1 = some (pre ++ [i])) := by
        rcases hbest with ⟨hc, q1, q2, q3⟩ | ⟨hc, q1, q2, q3⟩
        · refine ⟨some (pre ++ [i]), ⟨?_, ?_, fun j hj => ?_⟩, Or.inr ⟨rfl, ?_⟩, fun b hb => ⟨_, rfl, ?_⟩, fun _ => rfl⟩
          · rw [q1, hmn1]
          · rw [q2, hpl]
          · rw [hpl] at hj
            rw [q3 j hj, hrow j hj]
          · have := hrootT [] (gdR_end.mpr hc)
            rw [List.append_nil] at this
            exact this
          · rw [hb] at hbE
            obtain ⟨p1, p2, p3⟩ := hbE
            unfold cd at hcd
            rw [p1, p2] at hcd
            have hx1 := cw_mn (W := W) b
            have hx2 := cw_mn (W := W) (pre ++ [i])
            refine Or.inl ?_
            rcases hcd with z | z | ⟨z1, z2⟩ <;> omega
        · refine ⟨bo, ?_, Or.inl rfl, fun b hb => ⟨b, hb, Or.inr ⟨rfl, lx_rf b⟩⟩, fun z => absurd (gdR_end.mp z) hc⟩
          cases bo with
          | none => show C3 72 21 = -1; rw [q1]; exact hbE
          | some b =>
            obtain ⟨p1, p2, p3⟩ := hbE
            exact ⟨q1.trans p1, q2.trans p2, fun j hj => by rw [q3]; exact p3 j hj⟩
      obtain ⟨bo1, g1, g2, g3, g4⟩ := hbo1
      rw [zloop_eq, hb]
      refine ihm (mu W (kT W s i)) hmu.1 (kT W s i) rfl (kOK_T hW hk hkk) (d + 1) (pre ++ [i]) (zor B (zshl 1 (kP (kT W s i) : Int))) hpl hmu.2 (by omega) hrootT (wN W) 0 (Nat.zero_add _) C3 bo1 hF3 ⟨c2, c5⟩ hrow c9 (by rw [c10, hmn1]) g1 (fun b hb => ?_) ?_
      · rcases g2 with g2 | ⟨g2, _⟩
        · rw [g2] at hb
          refine ⟨(hbo b hb).1, fun w ws _ => ?_⟩
          rw [happ]
          exact (hbo b hb).2 i (w :: ws) (Nat.le_refl _)
        · rw [g2] at hb
          have e : pre ++ [i] = b := Option.some.inj hb
          rw [← e]
          refine ⟨by omega, fun w ws _ => ?_⟩
          have := lx_app (a := []) (b := w :: ws) (pre ++ [i]) trivial
          rw [List.append_nil] at this
          exact this
      · intro C4 bo' f1 f2 f3 f4 f5 f6 f7 f8
        have p1 := f3 d (Nat.lt_succ_self d)
        have hR4 := Fo_wd f1 hC0
        have hR5 : MWd W (zup2 C4 81 (d + 1) (wN W : Int)) := Fo_wd (Fo_tr f1 (Fo_u (by decide))) hC0
        obtain ⟨C6, u1, u2, u3⟩ := m_unsteps hW hR5 hk (w := i) (k := kK W s i) rfl hkk (MWk_u (by decide) (by decide) f2.1)
        have hb4 := m_errB (k := k) (E := E) hd60 hW1 hR4.1 f2.2 (p1.1.trans c4) (p1.2.trans c7) u1
        rw [zloop_eq, hb4]
        have k81 : ∀ j, j ≤ d → C6 81 j = C3 81 j := fun j hj => by
          rw [u3.1 81 (by decide) (by decide), zu_nj (Nat.ne_of_lt (lt1 j hj)), (f3 j (lt1 j hj)).1]
        have k72 : ∀ j, j ≠ 7 → j ≠ 8 → j ≠ 9 → C6 72 j = C4 72 j := fun j j1 j2 j3 => by rw [u3.2 j j1 j2 j3, zu_ne (by decide)]
        have k85 : C6 85 = C4 85 := by rw [u3.1 85 (by decide) (by decide), zu_nb (by decide)]
        refine next C6 bo' (Fo_tr (Fo_tr f1 (Fo_u (by decide))) (Fo_M u3)) u2 ((k81 d (Nat.le_refl _)).trans c4) (fun j hj => ⟨(k81 j (le1 j hj)).trans (c3 j hj), ?_⟩) (fun j hj => ⟨?_, ?_⟩) ?_ ?_ (fun b hb => ?_) (fun ws hg => ?_)
        · rw [u3.1 82 (by decide) (by decide), zu_ne (by decide), (f3 j (lt1 j (le1 j hj))).2, c6 j hj]
        · rw [u3.1 83 (by decide) (by decide), zu_ne (by decide), (f4 j (Nat.le_succ_of_le hj)).1, (c8 j hj).1]
        · rw [u3.1 84 (by decide) (by decide), zu_ne (by decide), (f4 j (Nat.le_succ_of_le hj)).2, (c8 j hj).2]
        · cases bo' with
          | none => show C6 72 21 = -1; rw [k72 21 (by decide) (by decide) (by decide)]; exact f5
          | some b =>
            obtain ⟨q1, q2, q3⟩ := f5
            exact ⟨(k72 21 (by decide) (by decide) (by decide)).trans q1, (k72 20 (by decide) (by decide) (by decide)).trans q2, fun j hj => by rw [k85]; exact q3 j hj⟩
        · rcases f6 with f6 | ⟨T, f6, f6g, f6l⟩
          · rcases g2 with g2 | ⟨g2, g2g⟩
            · exact Or.inl (f6.trans g2)
            · exact Or.inr ⟨[], f6.trans g2, g2g, by rw [show pre ++ i :: [] = pre ++ [i] from rfl, hpl]; omega⟩
          · rw [happ] at f6 f6g f6l
            exact Or.inr ⟨T, f6, f6g, f6l⟩
        · obtain ⟨b', q1, q2⟩ := g3 b hb
          obtain ⟨b'', q3, q4⟩ := f7 b' q1
          exact ⟨b'', q3, ble_tr q4 q2⟩
        · cases ws with
          | nil => exact f7 _ (g4 hg.2)
          | cons w ws =>
            obtain ⟨b', q1, q2⟩ := f8 w ws (Nat.zero_le _) hg.2
            rw [happ] at q2
            exact ⟨b', q1, q2⟩
theorem m_runs (hA : aOK A) (hC : RM A C) {k : Nat} (hk : k < 4) : zH (d_runsErrands (k : Int) E C) (fun v C' => (∃ bo, isB (aW A) (aH A k) E (aK A k) (zshl 1 (kP (aK A k) : Int)) bo ∧ bE (aW A) bo C' ∧ v = C' 72 21) ∧ Msc C C') := by
  have hW := aW_OK (A := A)
  have hW1 := hW.1
  have hK := aK_OK hA hk
  have hmu := mu_le hK
  have gk : 0 ≤ (k : Int) ∧ (k : Int) < 4 := by omega
  unfold d_runsErrands
  refine zH_bd2 (m_walks hA hC hk) (fun _ C1 h1 => ?_)
  obtain ⟨g1, g2, g3, g5⟩ := h1
  have hS : MWk (aK A k) C1 := g2.1
  simp only [zu_ne (show (72 : Nat) ≠ 81 by decide), zu_ne (show (72 : Nat) ≠ 83 by decide), zu_ne (show (72 : Nat) ≠ 84 by decide), zu_ne (show (83 : Nat) ≠ 84 by decide), zu_ne (show (78 : Nat) ≠ 84 by decide), zu_ne (show (78 : Nat) ≠ 83 by decide), zu_ne (show (78 : Nat) ≠ 81 by decide), zu_ne (show (78 : Nat) ≠ 72 by decide), zu_nj (show (7 : Nat) ≠ 20 by decide), zu_nj (show (7 : Nat) ≠ 21 by decide), zu_eq, hS.1, Int.toNat_natCast, g5.2.1 k hk]
  have hFx : Fo C1 (zup2 (zup2 (zup2 (zup2 (zup2 C1 72 21 (-1)) 72 20 0) 81 0 (-1)) 83 0 (zshl 1 (kP (aK A k) : Int))) 84 0 0) := Fo_tr (Fo_tr (Fo_tr (Fo_tr (Fo_72 (Or.inr rfl)) (Fo_72 (Or.inl rfl))) (Fo_u (by decide))) (Fo_u (by decide))) (Fo_u (by decide))
  have hSx : MWk (aK A k) (zup2 (zup2 (zup2 (zup2 (zup2 C1 72 21 (-1)) 72 20 0) 81 0 (-1)) 83 0 (zshl 1 (kP (aK A k) : Int))) 84 0 0) := MWk_u (by decide) (by decide) (MWk_u (by decide) (by decide) (MWk_u (by decide) (by decide) (MWk_72 (by decide) (MWk_72 (by decide) hS))))
  have x81 : zup2 (zup2 (zup2 (zup2 (zup2 C1 72 21 (-1)) 72 20 0) 81 0 (-1)) 83 0 (zshl 1 (kP (aK A k) : Int))) 84 0 0 81 0 = -1 := by rw [zu_ne (by decide), zu_ne (by decide), zu_eq]
  have x83 : zup2 (zup2 (zup2 (zup2 (zup2 C1 72 21 (-1)) 72 20 0) 81 0 (-1)) 83 0 (zshl 1 (kP (aK A k) : Int))) 84 0 0 83 0 = zshl 1 (kP (aK A k) : Int) := by rw [zu_ne (by decide), zu_eq]
  have x84 : zup2 (zup2 (zup2 (zup2 (zup2 C1 72 21 (-1)) 72 20 0) 81 0 (-1)) 83 0 (zshl 1 (kP (aK A k) : Int))) 84 0 0 84 0 = 0 := zu_eq
  have x21 : zup2 (zup2 (zup2 (zup2 (zup2 C1 72 21 (-1)) 72 20 0) 81 0 (-1)) 83 0 (zshl 1 (kP (aK A k) : Int))) 84 0 0 72 21 = -1 := by rw [zu_ne (by decide), zu_ne (by decide), zu_ne (by decide), zu_nj (by decide), zu_eq]
  have x20 : zup2 (zup2 (zup2 (zup2 (zup2 C1 72 21 (-1)) 72 20 0) 81 0 (-1)) 83 0 (zshl 1 (kP (aK A k) : Int))) 84 0 0 72 20 = 0 := by rw [zu_ne (by decide), zu_ne (by decide), zu_ne (by decide), zu_eq]
  generalize zup2 (zup2 (zup2 (zup2 (zup2 C1 72 21 (-1)) 72 20 0) 81 0 (-1)) 83 0 (zshl 1 (kP (aK A k) : Int))) 84 0 0 = Cx at *
  have main : ¬ (kP (aK A k) = aH A k ∧ zand E (zxor (zshl 1 (kP (aK A k) : Int)) (-1)) = 0) → zH (zbd (zloop (d_runsErrands_L76 (k : Int) E) 0 Cx) fun y14 C71 => some ((C71 72 21), C71)) (fun v C' => (∃ bo, isB (aW A) (aH A k) E (aK A k) (zshl 1 (kP (aK A k) : Int)) bo ∧ bE (aW A) bo C' ∧ v = C' 72 21) ∧ Msc C C') := by
    intro hnot
    refine zH_bd2 (P := fun _ C' => (∃ bo, isB (aW A) (aH A k) E (aK A k) (zshl 1 (kP (aK A k) : Int)) bo ∧ bE (aW A) bo C') ∧ Fo C1 C') ?_ (fun _ C2 h2 => ?_)
    · refine m_err hW hk g1 (g5.2.1 k hk) (s0 := aK A k) (B0 := zshl 1 (kP (aK A k) : Int)) (mu (aW A) (aK A k)) (aK A k) rfl hK 0 [] (zshl 1 (kP (aK A k) : Int)) rfl (by omega) (Nat.zero_le _) (fun T hT => hT) (wN (aW A)) 0 (Nat.zero_add _) Cx none hFx ⟨hSx, x81⟩ (fun j hj => absurd hj (Nat.not_lt_zero _)) x83 x84 x21 (fun b hb => by cases hb) ?_
      intro C' bo' b1 b2 b3 b4 b5 b6 b7 b8
      have hR4 := Fo_wd b1 g1
      have e81 : zadd (C' 81 0) 1 = (wN (aW A) : Int) := by rw [b2.2, zadd_e (by omega) (by omega)]; omega
      have e72 : zup2 C' 81 0 (wN (aW A) : Int) 72 2 = (wN (aW A) : Int) := by rw [zu_ne (by decide)]; exact hR4.1
      have hb : d_runsErrands_L76 (k : Int) E ((0 : Nat) : Int) C' = some (.inl (-1), zup2 C' 81 0 (wN (aW A) : Int)) := by
        have g0 : 0 ≤ ((0 : Nat) : Int) ∧ ((0 : Nat) : Int) < 64 := by omega
        have em : zadd ((0 : Nat) : Int) (-1) = -1 := by rw [zadd_e (by omega) (by omega)]; rfl
        unfold d_runsErrands_L76
        rw [if_neg (by omega), zg_t g0, zg_t g0, zg_t g0]
        simp only [Int.toNat_natCast, e81, zu_eq, em]
        rw [e72, if_neg (by omega), if_pos (by omega)]
      rw [zloop_eq, hb]
      dsimp only
      rw [zloop_eq]
      have hb2 : d_runsErrands_L76 (k : Int) E (-1) (zup2 C' 81 0 (wN (aW A) : Int)) = some (.inr (), zup2 C' 81 0 (wN (aW A) : Int)) := by
        unfold d_runsErrands_L76
        rw [if_pos (by decide)]
      rw [hb2]
      refine zH_some ⟨⟨bo', ?_, ?_⟩, Fo_tr b1 (Fo_u (by decide))⟩
      · cases bo' with
        | none =>
          intro ws hg
          cases ws with
          | nil => exact hnot hg
          | cons w ws =>
            obtain ⟨b', q, _⟩ := b8 w ws (Nat.zero_le _) hg
            cases q
        | some b =>
          refine ⟨?_, fun ws hg => ?_⟩
          · rcases b6 with b6 | ⟨T, b6, b6g, _⟩
            · cases b6
            · have e : [] ++ T = b := (Option.some.inj b6).symm
              rw [← e]; exact b6g
          · cases ws with
            | nil => exact absurd hg hnot
            | cons w ws =>
              obtain ⟨b', q1, q2⟩ := b8 w ws (Nat.zero_le _) hg
              have e : b = b' := Option.some.inj q1
              rw [e]; exact q2
      · cases bo' with
        | none => show zup2 C' 81 0 (wN (aW A) : Int) 72 21 = -1; rw [zu_ne (by decide)]; exact b5
        | some b =>
          obtain ⟨q1, q2, q3⟩ := b5
          exact ⟨by rw [zu_ne (by decide)]; exact q1, by rw [zu_ne (by decide)]; exact q2, fun j hj => by rw [zu_ne (by decide)]; exact q3 j hj⟩
    · obtain ⟨⟨bo, q1, q2⟩, q3⟩ := h2
      exact zH_some ⟨⟨bo, q1, q2, rfl⟩, Msc_tr g3 (Fo_sc q3)⟩
  by_cases e1 : zand E (zxor (zshl 1 (kP (aK A k) : Int)) (-1)) = 0
  · rw [if_neg (fun z => z e1), zg_t gk]
    by_cases e2 : kP (aK A k) = aH A k
    · rw [if_neg (fun z => z (by omega)), zbs_inr]
      refine zH_some ⟨⟨some [], ⟨⟨e2, e1⟩, fun ws' hg => ?_⟩, ⟨zu_eq, by rw [zu_nj (by decide)]; exact x20, fun j hj => absurd hj (Nat.not_lt_zero _)⟩, by rw [zu_eq]⟩, Msc_tr g3 (Fo_sc (Fo_tr hFx (Fo_72 (Or.inr rfl))))⟩
      by_cases q : cw (aW A) ws' = 0
      · exact Or.inr ⟨q.symm, trivial⟩
      · exact Or.inl (by show 0 < _; omega)
    · rw [if_pos (by omega), zbs_inl]
      exact main (fun z => e2 z.1)
  · rw [if_pos e1, zbs_inl]
    exact main (fun z => e1 z.2)
theorem m_errandsOf (hA : aOK A) (hC : RM A C) {k : Nat} (hk : k < 4) {p i : Int} (hp : 0 ≤ p ∧ p < 256) (hi : -1 ≤ i) : zH (d_errandsOf (k : Int) p i C) (fun v C' => v = s_errands A (k : Int) p i ∧ Msc C C') := by
  have hW := aW_OK (A := A)
  have hW1 := hW.1
  have hK := aK_OK hA hk
  have hmu := mu_le hK
  have hol := ones_le (kG (aK A k))
  have hs : s_errands A (k : Int) p i = (if wN (aW A) ≤ 6 + ones (kG (aK A k)) then er (aW A) (errV (aW A) (aH A k) p (aK A k)) i else -4) := by
    unfold s_errands
    rw [if_pos (show ((0 ≤ (k : Int) ∧ (k : Int) < 4) ∧ 0 ≤ p ∧ p < 256) ∧ -1 ≤ i from ⟨⟨by omega, hp⟩, hi⟩), Int.toNat_natCast]
  unfold d_errandsOf
  refine zH_bd2 (m_walks hA hC hk) (fun _ C1 h1 => ?_)
  obtain ⟨g1, g2, g3, g5⟩ := h1
  have hS : MWk (aK A k) C1 := g2.1
  rw [hS.2.1, m_ones, zbd_some, g1.1, hs, zsub_e (by omega) (by omega)]
  by_cases h6 : wN (aW A) ≤ 6 + ones (kG (aK A k))
  · rw [if_pos (by omega), if_pos h6]
    refine zH_bd2 (m_runs (E := p) hA g5 hk) (fun v C2 h2 => ?_)
    obtain ⟨⟨bo, q1, q2, rfl⟩, q3⟩ := h2
    have hfin := Msc_tr g3 q3
    rw [errV_e q1]
    cases bo with
    | none =>
      have e21 : C2 72 21 = -1 := q2
      rw [e21]
      unfold er
      dsimp only
      by_cases ei : i = -1
      · rw [if_pos ei]
        exact zH_some ⟨rfl, hfin⟩
      · rw [if_neg ei, if_neg (fun z => z rfl)]
        exact zH_some ⟨rfl, hfin⟩
    | some b =>
      obtain ⟨r1, r2, r3⟩ := q2
      have hlen := gdR_len hW b _ _ hK q1.1
      have h64 := cw_len (W := aW A) (ws := b) (by omega)
      unfold er
      dsimp only
      rw [r1, h64.2]
      by_cases ei : i = -1
      · rw [if_pos ei, if_pos ei]
        exact zH_some ⟨rfl, hfin⟩
      · rw [if_neg ei, if_pos (by omega), r2, if_neg ei]
        by_cases hl : i < (b.length : Int)
        · rw [if_neg (by omega), zg_t (by omega), if_pos hl, r3 i.toNat (by omega)]
          exact zH_some ⟨rfl, hfin⟩
        · rw [if_pos (by omega), if_neg hl]
          exact zH_some ⟨rfl, hfin⟩
  · rw [if_neg (by omega), if_neg h6]
    exact zH_some ⟨rfl, g3⟩
theorem m_errands (hA : aOK A) (h : RM A C) {k p i : Int} : zH (d_errands k p i C) (QM C (s_errands A k p i) A) := by
  unfold d_errands
  rw [m_isWalker, zbd_some]
  by_cases h1 : 0 ≤ k ∧ k < 4
  · rw [if_pos h1, if_neg (by decide), m_in, zbd_some]
    by_cases h2 : 0 ≤ p ∧ p < 256
    · rw [if_pos (show 0 ≤ p ∧ p ≤ 255 by omega), if_neg (by decide)]
      by_cases h3 : -1 ≤ i
      · rw [if_neg (by omega)]
        obtain ⟨j, rfl⟩ : ∃ j : Nat, k = (j : Int) := ⟨k.toNat, by omega⟩
        refine zH_bd2 (m_errandsOf hA h (by omega) h2 h3) (fun v C1 h4 => ?_)
        obtain ⟨rfl, h5⟩ := h4
        exact zH_some (QM_sc h5 h)
      · rw [if_pos (by omega), show s_errands A k p i = -2 from if_neg fun z => h3 z.2]
        exact zH_some (QM_same h)
    · rw [if_neg (show ¬ (0 ≤ p ∧ p ≤ 255) by omega), if_pos rfl, show s_errands A k p i = -2 from if_neg fun z => h2 z.1.2]
      exact zH_some (QM_same h)
  · rw [if_neg h1, if_pos rfl, show s_errands A k p i = -2 from if_neg fun z => h1 z.1.1]
    exact zH_some (QM_same h)
end ZERRN

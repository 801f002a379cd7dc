/-! safe() in the model: all rows of steps, one by one -/
/-- a way from i on by which one comes home -/
def fnd (W : ZWd) (h : Nat) (s : ZWk) (wolf i : Nat) : Prop := ∃ w, i ≤ w ∧ kK W s w ≠ 0 ∧ kP (kT W s w) ≠ wolf ∧ (kP (kT W s w) = h ∨ (wSt W wolf (kP (kT W s w)) ≠ kP (kT W s w) ∧ ∃ n, esc W h n (kT W s w) (wSt W wolf (kP (kT W s w)))))
/-- outside the search nothing is changed -/
def Fo (C0 C : ZC) : Prop := (∀ a, a ≠ 72 → a ≠ 79 → a ≠ 81 → a ≠ 82 → a ≠ 83 → a ≠ 84 → a ≠ 85 → a ≠ 90 → C a = C0 a) ∧ ∀ j, j ≠ 7 → j ≠ 8 → j ≠ 9 → j ≠ 20 → j ≠ 21 → C 72 j = C0 72 j
/-- the search's rows below a depth are kept -/
def Pd (d : Nat) (C C' : ZC) : Prop := ∀ j, j < d → C' 81 j = C 81 j ∧ C' 82 j = C 82 j
/-- the search stands at a depth, ways below i tried -/
def Nd (s : ZWk) (d i : Nat) (C : ZC) : Prop := MWk s C ∧ C 81 d = (i : Int) - 1
section ZHUNTM
variable {W : ZWd} {s : ZWk} {C C0 : ZC} {A : ZA}
theorem Fo_rf : Fo C C := ⟨fun _ _ _ _ _ _ _ _ _ => rfl, fun _ _ _ _ _ _ => rfl⟩
theorem Fo_tr {C1 C2 : ZC} (h1 : Fo C C1) (h2 : Fo C1 C2) : Fo C C2 := ⟨fun a b1 b2 b3 b4 b5 b6 b7 b8 => (h2.1 a b1 b2 b3 b4 b5 b6 b7 b8).trans (h1.1 a b1 b2 b3 b4 b5 b6 b7 b8), fun j b1 b2 b3 b4 b5 => (h2.2 j b1 b2 b3 b4 b5).trans (h1.2 j b1 b2 b3 b4 b5)⟩
theorem Fo_M (h : Mfr C0 C) : Fo C0 C := ⟨fun a b1 b2 _ _ _ _ _ _ => h.1 a b1 b2, fun j b1 b2 b3 _ _ => h.2 j b1 b2 b3⟩
theorem Fo_u {C : ZC} {a j : Nat} {v : Int} (h : a = 81 ∨ a = 82 ∨ a = 83 ∨ a = 84 ∨ a = 85 ∨ a = 90) : Fo C (zup2 C a j v) := ⟨fun b _ _ _ _ _ _ _ _ => zu_nb (by omega), fun j _ _ _ _ _ => zu_ne (by omega)⟩
theorem Fo_wd (h : Fo C0 C) (hR : MWd W C0) : MWd W C := by
  unfold MWd
  rw [h.1 75 (by decide) (by decide) (by decide) (by decide) (by decide) (by decide) (by decide) (by decide), h.1 76 (by decide) (by decide) (by decide) (by decide) (by decide) (by decide) (by decide) (by decide), h.1 77 (by decide) (by decide) (by decide) (by decide) (by decide) (by decide) (by decide) (by decide), h.2 2 (by decide) (by decide) (by decide) (by decide) (by decide)]
  exact hR
theorem Fo_sc (h : Fo C0 C) : Msc C0 C := ⟨fun a ha => h.1 a (by omega) (by omega) (by omega) (by omega) (by omega) (by omega) (by omega) (by omega), h.2 23 (by decide) (by decide) (by decide) (by decide) (by decide), h.2 33 (by decide) (by decide) (by decide) (by decide) (by decide)⟩
theorem MWk_u {C : ZC} {a j : Nat} {v : Int} (h : a ≠ 72) (h2 : a ≠ 79) (hS : MWk s C) : MWk s (zup2 C a j v) := by
  unfold MWk
  rw [zu_nb (Ne.symm h), zu_nb (Ne.symm h2)]
  exact hS
theorem HM_fo (h : C 89 = C0 89) (hM : HM W C0) : HM W C := by
  unfold HM
  rw [h]; exact hM
theorem fnd_esc {h wolf : Nat} : (∃ n, esc W h n s wolf) ↔ fnd W h s wolf 0 := by
  constructor
  · rintro ⟨n, hn⟩
    cases n with
    | zero => exact hn.elim
    | succ n =>
      obtain ⟨w, h1, h2, h3⟩ := hn
      exact ⟨w, Nat.zero_le _, h1, h2, h3.imp id fun q => ⟨q.1, n, q.2⟩⟩
  · rintro ⟨w, -, h1, h2, h3⟩
    rcases h3 with h3 | ⟨h3, n, h4⟩
    · exact ⟨1, w, h1, h2, Or.inl h3⟩
    · exact ⟨n + 1, w, h1, h2, Or.inr ⟨h3, h4⟩⟩
theorem m_wolfGoes (hW : wOK W) (hR : MWd W C) (hM : HM W C) {wolf p : Nat} (hw : wolf < 8) (hp : p < 8) : d_wolfGoes (wolf : Int) (p : Int) C = some (((wSt W wolf p : Nat) : Int), C) := by
  have hW1 := hW.1
  obtain ⟨r, hr, hc⟩ := hM p hp
  have key : ∀ k i, i + k = wN W → ∃ o, zloop (d_wolfGoes_L2 (wolf : Int) (p : Int)) (i : Int) C = some (o, C) ∧ (match o with | .inl _ => wG W p wolf k i = wolf | .inr v => v = ((wG W p wolf k i : Nat) : Int)) := by
    intro k
    induction k with
    | zero =>
      intro i hi
      refine ⟨.inl (), ?_, rfl⟩
      rw [zloop_eq]
      have e : d_wolfGoes_L2 (wolf : Int) (p : Int) (i : Int) C = some (.inr (.inl ()), C) := by
        unfold d_wolfGoes_L2
        rw [hR.1, if_pos (by omega)]
      rw [e]
    | succ k ih =>
      intro i hi
      have next : ¬ (wI W i wolf = true ∧ hLt W p (wO W i wolf) wolf) → d_wolfGoes_L2 (wolf : Int) (p : Int) (i : Int) C = some (.inl (zadd (i : Int) 1), C) → ∃ o, zloop (d_wolfGoes_L2 (wolf : Int) (p : Int)) (i : Int) C = some (o, C) ∧ (match o with | .inl _ => wG W p wolf (k + 1) i = wolf | .inr v => v = ((wG W p wolf (k + 1) i : Nat) : Int)) := by
        intro hn e
        rw [zloop_eq, e]
        dsimp only
        rw [zinN (by omega)]
        have e2 : wG W p wolf (k + 1) i = wG W p wolf k (i + 1) := by
          conv => lhs; unfold wG
          rw [if_neg hn]
        rw [e2]
        exact ih (i + 1) (by omega)
      have hi0 : i < wN W := by omega
      obtain ⟨w1, w2, w3⟩ := hR.2 i hi0
      have g13 : 0 ≤ (i : Int) ∧ (i : Int) < 13 := by omega
      by_cases hi2 : wI W i wolf = true
      · have hto := wO_lt hW (p := wolf) hi0
        have eb : d_wolfGoes_L2 (wolf : Int) (p : Int) (i : Int) C = if (r wolf : Int) ≤ (r (wO W i wolf) : Int) then some (.inl (zadd (i : Int) 1), C) else some (.inr (.inr ((wO W i wolf : Nat) : Int)), C) := by
          unfold d_wolfGoes_L2
          rw [hR.1, if_neg (by omega), zg_t g13, zg_t g13, Int.toNat_natCast, w1, w2]
          have e0 : (if (wA W i : Int) = (wolf : Int) then some ((Sum.inl () : Unit ⊕ (Int ⊕ (Unit ⊕ Int))), C) else if ¬ (wB W i : Int) = (wolf : Int) then some (Sum.inr (Sum.inl (zadd (i : Int) 1)), C) else some (Sum.inl (), C)) = some (Sum.inl (), C) := by
            rcases (wI_iff.mp hi2).2 with q | q
            · rw [if_pos (by omega)]
            · rw [if_neg (show ¬ ¬ (wB W i : Int) = (wolf : Int) by omega), ite_self]
          rw [e0, zbs_inl, m_beyond hW hR hi0, zbd_some, m_ix hto hp, m_ix hw hp, zg_t (by omega), zg_t (by omega), Int.toNat_natCast, Int.toNat_natCast, hc _ hw, hc _ hto]
        by_cases hl : r (wO W i wolf) < r wolf
        · refine ⟨.inr ((wO W i wolf : Nat) : Int), ?_, ?_⟩
          · rw [zloop_eq, eb, if_neg (by omega)]
          · dsimp only
            unfold wG
            rw [if_pos ⟨hi2, (isH_lt hr).mp hl⟩]
        · refine next (fun z => hl ((isH_lt hr).mpr z.2)) ?_
          rw [eb, if_pos (by omega)]
      · refine next (fun z => hi2 z.1) ?_
        unfold d_wolfGoes_L2
        rw [hR.1, if_neg (by omega), zg_t g13, zg_t g13, Int.toNat_natCast, w1, w2, if_neg (fun z => hi2 (wI_iff.mpr ⟨hi0, Or.inl (by omega)⟩)), if_pos (fun z => hi2 (wI_iff.mpr ⟨hi0, Or.inr (by omega)⟩)), zbs_inr]
  obtain ⟨o, e, ho⟩ := key (wN W) 0 (by omega)
  have e : zloop (d_wolfGoes_L2 (wolf : Int) (p : Int)) 0 C = some (o, C) := e
  unfold d_wolfGoes
  rw [e]
  unfold wSt
  cases o with
  | inl u => rw [zbs_inl]; dsimp only at ho; rw [ho]
  | inr v => rw [zbs_inr]; dsimp only at ho; rw [ho]
/-- a step by which the search goes on or ends well -/
def gs (W : ZWd) (h : Nat) (s : ZWk) (g i : Nat) : Prop := kK W s i ≠ 0 ∧ kP (kT W s i) ≠ g ∧ (kP (kT W s i) = h ∨ (wSt W g (kP (kT W s i)) ≠ kP (kT W s i) ∧ ∃ n, esc W h n (kT W s i) (wSt W g (kP (kT W s i)))))
theorem m_huntB {k d i κ : Nat} {C6 : ZC} (hd : d < 60) (hW1 : wN W ≤ 12) (hR : C 72 2 = (wN W : Int)) (h81 : C 81 (d + 1) = (wN W : Int) - 1) (h81d : C 81 d = (i : Int)) (h82d : C 82 d = (κ : Int)) (hu : d_unsteps (i : Int) (κ : Int) (zup2 C 81 (d + 1) (wN W : Int)) = some (0, C6)) :
    d_safeOf_L72 (k : Int) ((d + 1 : Nat) : Int) C = some (.inl (d : Int), C6) := by
  have gd : 0 ≤ (d : Int) ∧ (d : Int) < 64 := by omega
  have gd1 : 0 ≤ ((d + 1 : Nat) : Int) ∧ ((d + 1 : Nat) : Int) < 64 := by omega
  have n0 : ¬ ((d + 1 : Nat) : Int) < 0 := by omega
  have n1 : ¬ (d : Int) < 0 := by omega
  have n2 : ¬ (wN W : Int) < (wN W : Int) := by omega
  have e1 : zadd (C 81 (d + 1)) 1 = (wN W : Int) := by rw [h81, zadd_e (by omega) (by omega)]; omega
  have e5 : zadd ((d + 1 : Nat) : Int) (-1) = (d : Int) := by rw [zadd_e (by omega) (by omega)]; omega
  have nd : d ≠ d + 1 := by omega
  unfold d_safeOf_L72
  rw [if_neg n0, zg_t gd1, zg_t gd1, zg_t gd1]
  simp only [Int.toNat_natCast, e1, zu_eq, e5]
  rw [zu_ne (show (72 : Nat) ≠ 81 by decide), hR, if_neg n2, if_neg n1, zg_t gd, zg_t gd, zu_nj nd, h81d, zu_ne (show (82 : Nat) ≠ 81 by decide), h82d, hu, zbd_some]
noncomputable def hB2 (k d i : Nat) (C : ZC) : Option ((Int ⊕ (Unit ⊕ (Unit ⊕ Int))) × ZC) := zbd (d_mayBe (i : Int) C) fun v26 C27 => if v26 ≤ 0 then (some (.inl (d : Int), C27)) else (zbd (d_beyond (i : Int) (C27 72 7) C27) fun v30 C31 => zg (0 ≤ (d : Int) ∧ (d : Int) < 64) (if v30 = ((C31 90 d)) then (some (.inl (d : Int), C31)) else (zbd (d_beyond (i : Int) (C31 72 7) C31) fun v35 C36 => zg (0 ≤ (k : Int) ∧ (k : Int) < 4) (if ¬ v35 = ((C36 78 k)) then (zg (0 ≤ (d : Int) ∧ (d : Int) < 64) (zbd (d_wolfGoes (C36 90 d) v35 C36) fun v41 C42 => if v41 = v35 then (some (.inl (d : Int), C42)) else (zbd (d_steps (i : Int) v26 C42) fun v45 C46 => zg (0 ≤ (d : Int) ∧ (d : Int) < 64) (zg (0 ≤ ((d + 1 : Nat) : Int) ∧ ((d + 1 : Nat) : Int) < 64) (zg (0 ≤ ((d + 1 : Nat) : Int) ∧ ((d + 1 : Nat) : Int) < 64) (some (.inl ((d + 1 : Nat) : Int), zup2 (zup2 (zup2 C46 82 d v26) 90 (d + 1) v41) 81 (d + 1) (-1)))))))) else (some (.inr (.inr (.inr 1)), C36))))))
theorem m_huntT (hW : wOK W) {k h d i g : Nat} (hk4 : k < 4) (hd : d < 60) (hi : i < wN W) (hk : kOK W s) (hg : g < 8) (hR : MWd W C) (hS : MWk s C) (hM : HM W C) (h78 : C 78 k = (h : Int)) (h90 : C 90 d = (g : Int)) (h81 : C 81 d = (i : Int) - 1) :
    (¬ gs W h s g i ∧ d_safeOf_L72 (k : Int) (d : Int) C = some (.inl (d : Int), zup2 C 81 d (i : Int))) ∨
    (gs W h s g i ∧ d_safeOf_L72 (k : Int) (d : Int) C = some (.inr (.inr (.inr 1)), zup2 C 81 d (i : Int))) ∨
    (kK W s i ≠ 0 ∧ kP (kT W s i) ≠ g ∧ kP (kT W s i) ≠ h ∧ wSt W g (kP (kT W s i)) ≠ kP (kT W s i) ∧ ∃ C3, d_safeOf_L72 (k : Int) (d : Int) C = some (.inl ((d + 1 : Nat) : Int), C3) ∧ Fo C C3 ∧ MWk (kT W s i) C3 ∧
      (∀ j, j < d → C3 81 j = C 81 j) ∧ C3 81 d = (i : Int) ∧ C3 81 (d + 1) = -1 ∧ (∀ j, j < d → C3 82 j = C 82 j) ∧ C3 82 d = (kK W s i : Int) ∧ (∀ j, j ≤ d → C3 90 j = C 90 j) ∧ C3 90 (d + 1) = ((wSt W g (kP (kT W s i)) : Nat) : Int)) := by
  have hW1 := hW.1
  have gd : 0 ≤ (d : Int) ∧ (d : Int) < 64 := by omega
  have gd1 : 0 ≤ ((d + 1 : Nat) : Int) ∧ ((d + 1 : Nat) : Int) < 64 := by omega
  have gk : 0 ≤ (k : Int) ∧ (k : Int) < 4 := by omega
  have n0 : ¬ (d : Int) < 0 := by omega
  have ni : (i : Int) < (wN W : Int) := by omega
  have e81 : zadd (C 81 d) 1 = (i : Int) := by rw [h81, zadd_e (by omega) (by omega)]; omega
  have ed : zadd (d : Int) 1 = ((d + 1 : Nat) : Int) := zinN (by omega)
  have hR1 : MWd W (zup2 C 81 d (i : Int)) := Fo_wd (Fo_u (by omega)) hR
  have hS1 : MWk s (zup2 C 81 d (i : Int)) := MWk_u (by decide) (by decide) hS
  have hM1 : HM W (zup2 C 81 d (i : Int)) := HM_fo (zu_nb (by decide)) hM
  have c78 : zup2 C 81 d (i : Int) 78 k = (h : Int) := by rw [zu_ne (by decide)]; exact h78
  have c90 : zup2 C 81 d (i : Int) 90 d = (g : Int) := by rw [zu_ne (by decide)]; exact h90
  have cF : Fo C (zup2 C 81 d (i : Int)) := Fo_u (by omega)
  have a1 : ∀ j, j < d → zup2 C 81 d (i : Int) 81 j = C 81 j := fun j hj => zu_nj (by omega)
  have a2 : zup2 C 81 d (i : Int) 81 d = (i : Int) := zu_eq
  have a3 : zup2 C 81 d (i : Int) 82 = C 82 := zu_nb (by decide)
  have a4 : zup2 C 81 d (i : Int) 90 = C 90 := zu_nb (by decide)
  have hb : d_safeOf_L72 (k : Int) (d : Int) C = hB2 k d i (zup2 C 81 d (i : Int)) := by
    unfold d_safeOf_L72 hB2
    rw [if_neg n0, zg_t gd, zg_t gd, zg_t gd]
    simp only [Int.toNat_natCast, e81, zu_eq, ed]
    rw [zu_ne (show (72 : Nat) ≠ 81 by decide), hR.1, if_pos ni]
  generalize zup2 C 81 d (i : Int) = C1 at *
  unfold hB2 at hb
  rw [m_mayBe hW hR1 hk hS1 hi, zbd_some] at hb
  unfold gs
  by_cases hkk : kK W s i = 0
  · refine Or.inl ⟨fun z => z.1 hkk, ?_⟩
    rw [hb, if_pos (by omega)]
  · have hto := kT_P hk hkk
    have ht8 := wO_lt hW (p := kP s) hi
    rw [if_neg (by omega), hS1.1, m_beyond hW hR1 hi, zbd_some, zg_t gd, c90] at hb
    rw [hto]
    by_cases h1 : wO W i (kP s) = g
    · refine Or.inl ⟨fun z => z.2.1 h1, ?_⟩
      rw [hb, if_pos (by omega)]
    · rw [if_neg (by omega), hS1.1, m_beyond hW hR1 hi, zbd_some, zg_t gk, c78] at hb
      by_cases h2 : wO W i (kP s) = h
      · refine Or.inr (Or.inl ⟨⟨hkk, h1, Or.inl h2⟩, ?_⟩)
        rw [hb, if_neg (fun z => z (by omega))]
      · rw [if_pos (by omega), zg_t gd, c90, m_wolfGoes hW hR1 hM1 hg ht8, zbd_some] at hb
        by_cases h3 : wSt W g (wO W i (kP s)) = wO W i (kP s)
        · refine Or.inl ⟨fun z => z.2.2.elim h2 (fun y => y.1 h3), ?_⟩
          rw [hb, if_pos (by omega)]
        · obtain ⟨C2, s1, s2, s3⟩ := m_steps hW hR1 hk hS1 (w := i) rfl hkk
          rw [if_neg (by omega), s1, zbd_some, zg_t gd, zg_t gd1, zg_t gd1] at hb
          refine Or.inr (Or.inr ⟨hkk, h1, h2, h3, _, hb, ?_, ?_, fun j hj => ?_, ?_, ?_, fun j hj => ?_, ?_, fun j hj => ?_, ?_⟩)
          · exact Fo_tr cF (Fo_tr (Fo_M s3) (Fo_tr (Fo_tr (Fo_u (by decide)) (Fo_u (by decide))) (Fo_u (by decide))))
          · exact MWk_u (by decide) (by decide) (MWk_u (by decide) (by decide) (MWk_u (by decide) (by decide) s2))
          · rw [zu_nj (by omega), zu_ne (by decide), zu_ne (by decide), s3.1 81 (by decide) (by decide)]; exact a1 j hj
          · rw [zu_nj (by omega), zu_ne (by decide), zu_ne (by decide), s3.1 81 (by decide) (by decide)]; exact a2
          · exact zu_eq
          · rw [zu_ne (by decide), zu_ne (by decide), zu_nj (by omega), s3.1 82 (by decide) (by decide), a3]
          · rw [zu_ne (by decide), zu_ne (by decide), zu_eq]
          · rw [zu_ne (by decide), zu_nj (by omega), zu_ne (by decide), s3.1 90 (by decide) (by decide), a4]
          · rw [zu_ne (by decide), zu_eq]
/-- the search from a place of it on -/
theorem m_hunt (hW : wOK W) {k h : Nat} (hk4 : k < 4) (hC0 : MWd W C0) (hM0 : HM W C0) (hH : C0 78 k = (h : Int)) {Q : Unit ⊕ (Unit ⊕ Int) → ZC → Prop} :
    ∀ (m : Nat) (s : ZWk), mu W s = m → kOK W s → ∀ (d g : Nat), d + m ≤ 50 → g < 8 → ∀ (e i : Nat), i + e = wN W → ∀ C, Fo C0 C → Nd s d i C → C 90 d = (g : Int) →
      (fnd W h s g i → ∀ C', Fo C0 C' → Q (.inr (.inr 1)) C') →
      (∀ C', Fo C0 C' → Nd s d (wN W) C' → Pd d C C' → (∀ j, j ≤ d → C' 90 j = C 90 j) → ¬ fnd W h s g i → zH (zloop (d_safeOf_L72 (k : Int)) (d : Int) C') Q) →
      zH (zloop (d_safeOf_L72 (k : Int)) (d : Int) C) Q := by
  have hW1 := hW.1
  intro m
  induction m using Nat.strongRecOn with
  | _ m ihm =>
  intro s hm hk d g hd hg e
  induction e with
  | zero =>
    intro i hi C hF hN h90 hQ hK
    have e : i = wN W := by omega
    subst e
    exact hK C hF hN (fun _ _ => ⟨rfl, rfl⟩) (fun _ _ => rfl) (fun ⟨w, h1, h2, _⟩ => by have := kK_lt h2; omega)
  | succ e ihe =>
    intro i hi C hF hN h90 hQ hK
    have hi0 : i < wN W := by omega
    have hi1 : (i + 1) + e = wN W := by omega
    have hd60 : d < 60 := by omega
    have hdm : ∀ t, mu W t + 1 = mu W s → mu W t < m ∧ d + 1 + mu W t ≤ 50 := fun t ht => by omega
    have nlt : ∀ j, j < d → j ≠ d := fun j hj => by omega
    have lt1 : ∀ j, j ≤ d → j < d + 1 := fun j hj => by omega
    have le1 : ∀ j, j < d → j ≤ d := fun j hj => by omega
    have ei : (i : Int) = ((i + 1 : Nat) : Int) - 1 := by omega
    have hiff : fnd W h s g (i + 1) → fnd W h s g i := fun ⟨w, b1, b2⟩ => ⟨w, by omega, b2⟩
    have hiff2 : ¬ gs W h s g i → fnd W h s g i → fnd W h s g (i + 1) := by
      rintro hn ⟨w, b1, b2⟩
      by_cases ew : w = i
      · rw [ew] at b2; exact absurd b2 hn
      · exact ⟨w, by omega, b2⟩
    have next : ¬ gs W h s g i → ∀ C2, Fo C0 C2 → MWk s C2 → C2 81 d = (i : Int) → Pd d C C2 → (∀ j, j ≤ d → C2 90 j = C 90 j) → zH (zloop (d_safeOf_L72 (k : Int)) (d : Int) C2) Q := by
      intro hn C2 f1 f2 f2b f3 f4
      refine ihe (i + 1) hi1 C2 f1 ⟨f2, f2b.trans ei⟩ ((f4 d (Nat.le_refl _)).trans h90) (fun z => hQ (hiff z)) (fun C' b1 b2 b3 b4 b5 => hK C' b1 b2 (fun j hj => ⟨((b3 j hj).1).trans (f3 j hj).1, ((b3 j hj).2).trans (f3 j hj).2⟩) (fun j hj => (b4 j hj).trans (f4 j hj)) (fun z => b5 (hiff2 hn z)))
    have hR := Fo_wd hF hC0
    have h78 : C 78 k = (h : Int) := by rw [hF.1 78 (by decide) (by decide) (by decide) (by decide) (by decide) (by decide) (by decide) (by decide)]; exact hH
    have hM := HM_fo (hF.1 89 (by decide) (by decide) (by decide) (by decide) (by decide) (by decide) (by decide) (by decide)) hM0
    rcases m_huntT hW hk4 hd60 hi0 hk hg hR hN.1 hM h78 h90 hN.2 with ⟨hn, hb⟩ | ⟨hy, hb⟩ | ⟨hkk, h1, h2, h3, C3, hb, c1, c2, c3, c4, c5, c6, c7, c8, c9⟩
    · rw [zloop_eq, hb]
      exact next hn _ (Fo_tr hF (Fo_u (by decide))) (MWk_u (by decide) (by decide) hN.1) zu_eq (fun j hj => ⟨zu_nj (nlt j hj), by rw [zu_nb (by decide)]⟩) (fun j hj => by rw [zu_nb (by decide)])
    · rw [zloop_eq, hb]
      exact zH_some (hQ ⟨i, Nat.le_refl _, hy⟩ _ (Fo_tr hF (Fo_u (by decide))))
    · have hmu := hdm _ (mu_T hW hk hkk)
      have hgood : fnd W h (kT W s i) (wSt W g (kP (kT W s i))) 0 → gs W h s g i := fun z => ⟨hkk, h1, Or.inr ⟨h3, fnd_esc.mpr z⟩⟩
      have hF3 : Fo C0 C3 := Fo_tr hF c1
      rw [zloop_eq, hb]
      refine ihm (mu W (kT W s i)) hmu.1 (kT W s i) rfl (kOK_T hW hk hkk) (d + 1) (wSt W g (kP (kT W s i))) hmu.2 (wG_lt hW hg _ _) (wN W) 0 (Nat.zero_add _) C3 hF3 ⟨c2, c5⟩ c9 (fun z => hQ ⟨i, Nat.le_refl _, hgood z⟩) ?_
      intro C4 f1 f2 f3 f4 f5
      have p1 := f3 d (Nat.lt_succ_self d)
      have hR4 := Fo_wd f1 hC0
      have hR5 : MWd W (zup2 C4 81 (d + 1) (wN W : Int)) := Fo_wd (Fo_tr f1 (Fo_u (by decide))) hC0
      obtain ⟨C6, u1, u2, u3⟩ := m_unsteps hW hR5 hk (w := i) (k := kK W s i) rfl hkk (MWk_u (by decide) (by decide) f2.1)
      have hb4 := m_huntB (k := k) hd60 hW1 hR4.1 f2.2 (p1.1.trans c4) (p1.2.trans c7) u1
      rw [zloop_eq, hb4]
      have k81 : ∀ j, j ≤ d → C6 81 j = C3 81 j := fun j hj => by
        rw [u3.1 81 (by decide) (by decide), zu_nj (Nat.ne_of_lt (lt1 j hj)), (f3 j (lt1 j hj)).1]
      refine next (fun z => f5 ?_) C6 (Fo_tr (Fo_tr f1 (Fo_u (by decide))) (Fo_M u3)) u2 ((k81 d (Nat.le_refl _)).trans c4) (fun j hj => ⟨(k81 j (le1 j hj)).trans (c3 j hj), ?_⟩) (fun j hj => ?_)
      · exact fnd_esc.mp (z.2.2.elim (fun y => absurd y h2) (fun y => y.2))
      · rw [u3.1 82 (by decide) (by decide), zu_ne (by decide), (f3 j (lt1 j (le1 j hj))).2, c6 j hj]
      · rw [u3.1 90 (by decide) (by decide), zu_ne (by decide), f4 j (Nat.le_succ_of_le hj), c8 j hj]
theorem m_safeOf (hA : aOK A) (hC : RM A C) {k wolf : Nat} (hk : k < 4) (hw : wolf < 8) : zH (d_safeOf (k : Int) (wolf : Int) C) (fun v C' => v = s_safe A (k : Int) (wolf : Int) ∧ Msc C C') := by
  have hW := aW_OK (A := A)
  have hK := aK_OK hA hk
  have hmu := mu_le hK
  have hs : s_safe A (k : Int) (wolf : Int) = (if wN (aW A) ≤ 6 then safeV (aW A) (aH A k) (aK A k) wolf else -4) := by
    unfold s_safe
    rw [if_pos (by omega), Int.toNat_natCast, Int.toNat_natCast]
  unfold d_safeOf
  refine zH_bd2 (m_walks hA hC hk) (fun _ C1 h1 => ?_)
  obtain ⟨g1, g2, g3, g5⟩ := h1
  rw [hs, g1.1]
  by_cases h6 : wN (aW A) ≤ 6
  · rw [if_pos (by omega), if_pos h6]
    refine zH_bd2 (m_laysHops hW g1 h6) (fun _ C2 h2 => ?_)
    obtain ⟨q1, q2⟩ := h2
    have hS2 : MWk (aK A k) C2 := by
      unfold MWk
      rw [q2 72 (by decide), q2 79 (by decide)]
      exact g2.1
    have hR2 : MWd (aW A) C2 := by
      unfold MWd
      rw [q2 72 (by decide), q2 75 (by decide), q2 76 (by decide), q2 77 (by decide)]
      exact g1
    have hm2 : Msc C1 C2 := ⟨fun a ha => q2 a (by omega), by rw [q2 72 (by decide)], by rw [q2 72 (by decide)]⟩
    have h78 : C2 78 k = (aH A k : Int) := by rw [q2 78 (by decide)]; exact g5.2.1 k hk
    have gk : 0 ≤ (k : Int) ∧ (k : Int) < 4 := by omega
    unfold safeV
    rw [hS2.1]
    by_cases e1 : kP (aK A k) = wolf
    · rw [if_pos (by omega), zbs_inl, hS2.1, if_neg (fun z => z (by omega)), if_pos e1]
      exact zH_some ⟨rfl, Msc_tr g3 hm2⟩
    · rw [if_neg (by omega), zg_t gk, Int.toNat_natCast, h78, if_neg e1]
      by_cases e2 : kP (aK A k) = aH A k
      · rw [if_neg (fun z => z (by omega)), zbs_inl, hS2.1, if_pos (by omega), if_pos e2]
        exact zH_some ⟨rfl, Msc_tr g3 hm2⟩
      · rw [if_pos (by omega), if_neg e2]
        have hF0 : Fo C2 (zup2 (zup2 C2 81 0 (-1)) 90 0 (wolf : Int)) := Fo_tr (Fo_u (by omega)) (Fo_u (by omega))
        refine zH_bs (P := fun o C' => (∃ v, o = .inr v ∧ v = (@ite Int (∃ n, esc (aW A) (aH A k) n (aK A k) wolf) (Classical.propDecidable _) 1 0)) ∧ Msc C C') ?_ (fun a C' h => ?_) (fun b C' h => ?_)
        · refine zH_bs (P := fun o C' => (match o with | .inl _ => ¬ fnd (aW A) (aH A k) (aK A k) wolf 0 | .inr (.inl _) => False | .inr (.inr v) => v = 1 ∧ fnd (aW A) (aH A k) (aK A k) wolf 0) ∧ Fo C2 C') ?_ (fun a C' h => ?_) (fun b C' h => ?_)
          · refine m_hunt hW hk hR2 q1 h78 (mu (aW A) (aK A k)) (aK A k) rfl hK 0 wolf (by omega) hw (wN (aW A)) 0 (by omega) _ hF0 ⟨MWk_u (by decide) (by decide) (MWk_u (by decide) (by decide) hS2), ?_⟩ zu_eq (fun z C' hf => ⟨⟨rfl, z⟩, hf⟩) (fun C' a1 a2 a3 a4 a5 => ?_)
            · rw [zu_ne (by decide), zu_eq]; rfl
            · have hW1 := hW.1
              have hR4 := Fo_wd a1 hR2
              have e81 : zadd (C' 81 0) 1 = (wN (aW A) : Int) := by rw [a2.2, zadd_e (by omega) (by omega)]; omega
              have e72 : zup2 C' 81 0 (wN (aW A) : Int) 72 2 = (wN (aW A) : Int) := by rw [zu_ne (by decide)]; exact hR4.1
              have hb : d_safeOf_L72 (k : Int) ((0 : Nat) : Int) C' = some (.inl (-1), zup2 C' 81 0 (wN (aW A) : Int)) := by
                unfold d_safeOf_L72
                have g0 : 0 ≤ ((0 : Nat) : Int) ∧ ((0 : Nat) : Int) < 64 := by omega
                have em : zadd ((0 : Nat) : Int) (-1) = -1 := by rw [zadd_e (by omega) (by omega)]; rfl
                rw [if_neg (by omega), zg_t g0, zg_t g0, zg_t g0]
                simp only [Int.toNat_natCast, e81, zu_eq, em]
                rw [e72, if_neg (by omega), if_pos (by omega)]
              rw [zloop_eq, hb]
              dsimp only
              rw [zloop_eq]
              have hb2 : d_safeOf_L72 (k : Int) (-1) (zup2 C' 81 0 (wN (aW A) : Int)) = some (.inr (.inl ()), zup2 C' 81 0 (wN (aW A) : Int)) := by
                unfold d_safeOf_L72
                rw [if_pos (by decide)]
              rw [hb2]
              exact zH_some ⟨a5, Fo_tr a1 (Fo_u (by omega))⟩
          · refine zH_some ⟨⟨0, rfl, ?_⟩, Msc_tr g3 (Msc_tr hm2 (Fo_sc h.2))⟩
            rw [if_neg (fun z => h.1 (fnd_esc.mp z))]
          · cases b with
            | inl u => exact h.1.elim
            | inr v =>
              refine ⟨⟨v, rfl, ?_⟩, Msc_tr g3 (Msc_tr hm2 (Fo_sc h.2))⟩
              rw [if_pos (fnd_esc.mpr h.1.2)]
              exact h.1.1
        · obtain ⟨⟨v, h1, _⟩, _⟩ := h
          cases h1
        · obtain ⟨⟨v, h1, h2⟩, h3⟩ := h
          cases h1
          exact ⟨h2, h3⟩
  · rw [if_neg (by omega), if_neg h6]
    exact zH_some ⟨rfl, g3⟩
theorem m_safe (hA : aOK A) (h : RM A C) {k w : Int} : zH (d_safe k w C) (QM C (s_safe A k w) A) := by
  unfold d_safe
  rw [m_isWalker, zbd_some]
  by_cases h1 : 0 ≤ k ∧ k < 4
  · rw [if_pos h1, if_neg (by decide), m_isPlace, zbd_some]
    by_cases h2 : 0 ≤ w ∧ w < 8
    · rw [if_pos h2, if_neg (by decide)]
      obtain ⟨j, rfl⟩ : ∃ j : Nat, k = (j : Int) := ⟨k.toNat, by omega⟩
      obtain ⟨p, rfl⟩ : ∃ j : Nat, w = (j : Int) := ⟨w.toNat, by omega⟩
      refine zH_bd2 (m_safeOf hA h (by omega) (by omega)) (fun v C1 h3 => ?_)
      obtain ⟨rfl, h4⟩ := h3
      exact zH_some (QM_sc h4 h)
    · rw [if_neg h2, if_pos rfl, show s_safe A k w = -2 from if_neg fun q => h2 q.2]
      exact zH_some (QM_same h)
  · rw [if_neg h1, if_pos rfl, show s_safe A k w = -2 from if_neg fun q => h1 q.1]
    exact zH_some (QM_same h)
end ZHUNTM

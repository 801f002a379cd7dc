/-! THE LAW: its loop answers 1, if class and model answer alike of thread, errands, cameIn and safe -/
def zHd (A : ZA) (ft : Int → Int → Int) (fe : Int → Int → Int → Int) (fc : Int) (fs : Int → Int → Int) : Prop :=
  (∀ C, RC A C → (∀ k x, zH (c_N_thread k x C) (QC C (ft k x) A)) ∧ (∀ k p i, r32 i → zH (c_N_errands k p i C) (QC C (fe k p i) A)) ∧ zH (c_N_cameIn C) (QC C fc A) ∧ ∀ k w, zH (c_N_safe k w C) (QC C (fs k w) A)) ∧
  (∀ C, RM A C → (∀ k x, zH (d_thread k x C) (QM C (ft k x) A)) ∧ (∀ k p i, r32 i → zH (d_errands k p i C) (QM C (fe k p i) A)) ∧ zH (d_cameIn C) (QM C fc A) ∧ (∀ k w, zH (d_safe k w C) (QM C (fs k w) A)) ∧
    zH (d_digest C) (QM C (dg A (fun k x => ft (k : Int) x) (fun k => fe (k : Int) 21 (-1)) fc) A))
/-- what the four hard calls owe -/
def zHard : Prop := ∀ A, aOK A → ∃ ft fe fc fs, zHd A ft fe fc fs
section ZLAW
variable {A : ZA} {C : ZC}
theorem ok_X (hA : aOK A) {x : Int} (hx : 0 ≤ x ∧ x ≤ 5) : aOK (aSetX A x) := ⟨hA.1, hA.2.1, hA.2.2.1, hA.2.2.2.1, hx⟩
theorem ok_S (hA : aOK A) {s : Nat} {f : Int} {n : Nat} {g : Nat → Int} (hf : -1 ≤ f ∧ f ≤ 2) (hn : n ≤ 48) : aOK (aSetS A s f n g) := by
  refine ⟨hA.1, hA.2.1, hA.2.2.1, fun t ht => ?_, hA.2.2.2.2⟩
  show -1 ≤ zup (aF A) s f t ∧ zup (aF A) s f t ≤ 2 ∧ zup (aZ A) s n t ≤ 48
  have := hA.2.2.2.1 t ht
  unfold zup
  split
  · exact ⟨hf.1, hf.2, hn⟩
  · exact this
theorem ok_type (hA : aOK A) {t b : Int} : aOK (s_type A t b).2 := by
  unfold s_type
  split
  · next q =>
    split
    · next q2 => exact aOK_T hA (by omega) q.2 q2
    · exact hA
  · exact hA
theorem ok_wipe (hA : aOK A) {t : Int} : aOK (s_wipe A t).2 := by
  unfold s_wipe
  split
  · exact aOK_L hA fun i hi => absurd hi (Nat.not_lt_zero _)
  · exact hA
theorem ok_home (hA : aOK A) {k p : Int} : aOK (s_home A k p).2 := by
  unfold s_home
  split
  · next q => exact aOK_H hA (by omega)
  · exact hA
theorem ok_read (hA : aOK A) {s k : Int} : aOK (s_read A s k).2 := by
  unfold s_read
  split
  · next q =>
    split
    · exact ok_X hA (by decide)
    · exact aOK_read hA (by omega) (by omega)
  · exact hA
theorem ok_seen (hA : aOK A) {w p : Int} : aOK (s_seen A w p).2 := by
  unfold s_seen
  split
  · next q =>
    split
    · next q2 =>
      refine ⟨hA.1, hA.2.1, ⟨q2, fun i hi => ?_⟩, hA.2.2.2⟩
      show 0 ≤ zup (aV A) (aN A) w i ∧ zup (aV A) (aN A) w i < 12 ∧ 0 ≤ zup (aP A) (aN A) p i ∧ zup (aP A) (aN A) p i < 8
      have hi : i < aN A + 1 := hi
      by_cases e : i = aN A
      · rw [e, zp_eq, zp_eq]; omega
      · rw [zp_ne e, zp_ne e]; exact hA.2.2.1.2 i (by omega)
    · exact hA
  · exact hA
theorem ok_forget (hA : aOK A) : aOK (s_forget A).2 := ⟨hA.1, hA.2.1, ⟨Nat.zero_le _, fun i hi => absurd hi (Nat.not_lt_zero _)⟩, hA.2.2.2⟩
theorem ok_sheet (hA : aOK A) {s f n : Int} : aOK (s_sheet A s f n).2 := by
  unfold s_sheet
  split
  · next q =>
    split
    · exact ok_X hA (by decide)
    · exact ok_S hA (by omega) (by omega)
  · exact hA
theorem ok_lose (hA : aOK A) {s : Int} : aOK (s_lose A s).2 := by
  unfold s_lose
  split
  · next q =>
    split
    · exact ok_X hA (by decide)
    · exact ok_S hA (by decide) (hA.2.2.2.1 s.toNat (by omega)).2.2
  · exact hA
theorem ok_put (hA : aOK A) {s f i v : Int} : aOK (s_put A s f i v).2 := by
  unfold s_put
  split
  · split
    · exact aOK_I hA
    · exact ok_X hA (fo_r _ _ _)
  · exact hA
theorem ok_get (hA : aOK A) {s f i : Int} : aOK (s_get A s f i).2 := by
  unfold s_get
  split
  · split
    · exact hA
    · exact ok_X hA (fo_r _ _ _)
  · exact hA
theorem ok_copy (hA : aOK A) {s i t j n : Int} : aOK (s_copy A s i t j n).2 := by
  unfold s_copy
  split
  · split
    · exact ok_X hA (by decide)
    · split
      · exact ok_X hA (by decide)
      · split
        · exact aOK_I hA
        · exact ok_X hA (by decide)
  · exact hA
theorem ok_write (hA : aOK A) {k s : Int} : aOK (s_write A k s).2 := by
  unfold s_write
  split
  · split
    · exact ok_X hA (by decide)
    · exact aOK_I hA
  · exact hA
/-- what holds between the law's calls -/
def LI (xs : Nat → Int) (C : ZC) : Prop := ∃ A, aOK A ∧ RC A C ∧ RM A C ∧ C 0 = xs
theorem RM_fr {C' : ZC} (hM : RM A C) (f : Frc C C') : RM A C' := by
  obtain ⟨h1, h2, h3, h4, h5⟩ := hM
  refine ⟨fun t ht => ?_, fun k hk => ?_, ?_, fun s hs => ?_, ?_⟩
  · rw [f 73 (by omega), f 74 (by omega)]; exact h1 t ht
  · rw [f 78 (by omega)]; exact h2 k hk
  · rw [f 72 (by omega), f 87 (by omega), f 88 (by omega)]; exact h3
  · rw [f 91 (by omega), f 92 (by omega), f 93 (by omega), f 94 (by omega)]; exact h4 s hs
  · rw [f 72 (by omega)]; exact h5
theorem LI_fin {xs : Nat → Int} {A' : ZA} {C1 C2 : ZC} (h0 : C 0 = xs) (hA' : aOK A') (c1 : RC A' C1) (f1 : Frc C C1) (m2 : RM A' C2) (f2 : Frm C1 C2) : LI xs C2 :=
  ⟨A', hA', RC_fr (fun a _ _ h => f2 a h) c1, m2, ((f2 0 (by decide)).trans (f1 0 (Or.inl rfl))).trans h0⟩
theorem h_law (hard : zHard) {L : Nat} (hL : L ≤ 3072) {xs : Nat → Int} (hz : ∀ j, r32 (xs j)) (h : LI xs C) : zH (c_Law_law L C) (fun v _ => v = 1) := by
  unfold c_Law_law
  refine zH_bs (P := fun o _ => ∃ u, o = .inl u) ?_ (fun a C' _ => zH_some rfl) (fun b C' hb => by obtain ⟨u, hu⟩ := hb; cases hu)
  refine zH_loop (fun x C' => ∃ i : Nat, x = (i : Int) ∧ i ≤ L ∧ LI xs C') (fun x _ => (L - x).toNat) ⟨0, rfl, Nat.zero_le _, h⟩ ?_
  rintro x C ⟨i, rfl, hi, A, hA, hC, hM, h0⟩
  obtain ⟨ft, fe, fc, fs, hc, hm⟩ := hard A hA
  unfold c_Law_law_L18
  rw [zsub_e (by omega) (by omega)]
  by_cases hend : (L : Int) - 6 < (i : Int)
  · rw [if_pos hend]
    exact zH_some ⟨(), rfl⟩
  rw [if_neg hend]
  have z1 : zadd (i : Int) 1 = ((i + 1 : Nat) : Int) := zinN (by omega)
  have z2 : zadd (i : Int) 2 = ((i + 2 : Nat) : Int) := by rw [zadd_e (by omega) (by omega)]; omega
  have z3 : zadd (i : Int) 3 = ((i + 3 : Nat) : Int) := by rw [zadd_e (by omega) (by omega)]; omega
  have z4 : zadd (i : Int) 4 = ((i + 4 : Nat) : Int) := by rw [zadd_e (by omega) (by omega)]; omega
  have z5 : zadd (i : Int) 5 = ((i + 5 : Nat) : Int) := by rw [zadd_e (by omega) (by omega)]; omega
  have z6 : zadd (i : Int) 6 = ((i + 6 : Nat) : Int) := by rw [zadd_e (by omega) (by omega)]; omega
  have g0 : 0 ≤ (i : Int) ∧ (i : Int) < (L : Int) := by omega
  have g1 : 0 ≤ ((i + 1 : Nat) : Int) ∧ ((i + 1 : Nat) : Int) < (L : Int) := by omega
  have g2 : 0 ≤ ((i + 2 : Nat) : Int) ∧ ((i + 2 : Nat) : Int) < (L : Int) := by omega
  have g3 : 0 ≤ ((i + 3 : Nat) : Int) ∧ ((i + 3 : Nat) : Int) < (L : Int) := by omega
  have g4 : 0 ≤ ((i + 4 : Nat) : Int) ∧ ((i + 4 : Nat) : Int) < (L : Int) := by omega
  have g5 : 0 ≤ ((i + 5 : Nat) : Int) ∧ ((i + 5 : Nat) : Int) < (L : Int) := by omega
  have fin : ∀ {C2 : ZC}, LI xs C2 → (∃ i' : Nat, ((i + 6 : Nat) : Int) = (i' : Int) ∧ i' ≤ L ∧ LI xs C2) ∧ ((L : Int) - ((i + 6 : Nat) : Int)).toNat < ((L : Int) - (i : Int)).toNat := fun h => ⟨⟨i + 6, rfl, by omega, h⟩, by omega⟩
  rw [zg_t g0, z1, z2, z3, z4, z5, z6, h0]
  generalize zand (xs (i : Int).toNat) 63 = op
  refine zH_if (fun _ => ?_) (fun _ => ?_)
  · rw [zg_t g1, zg_t g2]
    refine zH_bd2 (c_type hA hC) (fun v1 C1 e1 => ?_)
    obtain ⟨rfl, c1, f1⟩ := e1
    have hM1 := RM_fr hM f1
    rw [(f1 0 (Or.inl rfl)).trans h0, zg_t g1, zg_t g2]
    refine zH_bd2 (m_type hA hM1) (fun v2 C2 e2 => ?_)
    obtain ⟨rfl, m2, f2⟩ := e2
    rw [if_pos rfl]
    exact zH_some (fin (LI_fin h0 (ok_type hA) c1 f1 m2 f2))
  refine zH_if (fun _ => ?_) (fun _ => ?_)
  · rw [zg_t g1]
    refine zH_bd2 (c_wipe hA hC) (fun v1 C1 e1 => ?_)
    obtain ⟨rfl, c1, f1⟩ := e1
    have hM1 := RM_fr hM f1
    rw [(f1 0 (Or.inl rfl)).trans h0, zg_t g1]
    refine zH_bd2 (m_wipe hM1) (fun v2 C2 e2 => ?_)
    obtain ⟨rfl, m2, f2⟩ := e2
    rw [if_pos rfl]
    exact zH_some (fin (LI_fin h0 (ok_wipe hA) c1 f1 m2 f2))
  refine zH_if (fun _ => ?_) (fun _ => ?_)
  · refine zH_bd2 (c_fault hC) (fun v1 C1 e1 => ?_)
    obtain ⟨rfl, c1, f1⟩ := e1
    have hM1 := RM_fr hM f1
    refine zH_bd2 (m_faultC hA hM1) (fun v2 C2 e2 => ?_)
    obtain ⟨rfl, m2, f2⟩ := e2
    rw [if_pos rfl]
    exact zH_some (fin (LI_fin h0 (hA) c1 f1 m2 f2))
  refine zH_if (fun _ => ?_) (fun _ => ?_)
  · rw [zg_t g1, zg_t g2]
    refine zH_bd2 (c_way hC) (fun v1 C1 e1 => ?_)
    obtain ⟨rfl, c1, f1⟩ := e1
    have hM1 := RM_fr hM f1
    rw [(f1 0 (Or.inl rfl)).trans h0, zg_t g1, zg_t g2]
    refine zH_bd2 (m_way hA hM1) (fun v2 C2 e2 => ?_)
    obtain ⟨rfl, m2, f2⟩ := e2
    rw [if_pos rfl]
    exact zH_some (fin (LI_fin h0 (hA) c1 f1 m2 f2))
  refine zH_if (fun _ => ?_) (fun _ => ?_)
  · rw [zg_t g1, zg_t g2]
    refine zH_bd2 (c_home hA hC) (fun v1 C1 e1 => ?_)
    obtain ⟨rfl, c1, f1⟩ := e1
    have hM1 := RM_fr hM f1
    rw [(f1 0 (Or.inl rfl)).trans h0, zg_t g1, zg_t g2]
    refine zH_bd2 (m_home hM1) (fun v2 C2 e2 => ?_)
    obtain ⟨rfl, m2, f2⟩ := e2
    rw [if_pos rfl]
    exact zH_some (fin (LI_fin h0 (ok_home hA) c1 f1 m2 f2))
  refine zH_if (fun _ => ?_) (fun _ => ?_)
  · rw [zg_t g1, zg_t g2]
    refine zH_bd2 (c_read hA hC) (fun v1 C1 e1 => ?_)
    obtain ⟨rfl, c1, f1⟩ := e1
    have hM1 := RM_fr hM f1
    rw [(f1 0 (Or.inl rfl)).trans h0, zg_t g1, zg_t g2]
    refine zH_bd2 (m_read hA hM1) (fun v2 C2 e2 => ?_)
    obtain ⟨rfl, m2, f2⟩ := e2
    rw [if_pos rfl]
    exact zH_some (fin (LI_fin h0 (ok_read hA) c1 f1 m2 f2))
  refine zH_if (fun _ => ?_) (fun _ => ?_)
  · rw [zg_t g1]
    refine zH_bd2 (c_judged hC) (fun v1 C1 e1 => ?_)
    obtain ⟨rfl, c1, f1⟩ := e1
    have hM1 := RM_fr hM f1
    rw [(f1 0 (Or.inl rfl)).trans h0, zg_t g1]
    refine zH_bd2 (m_judged hA hM1) (fun v2 C2 e2 => ?_)
    obtain ⟨rfl, m2, f2⟩ := e2
    rw [if_pos rfl]
    exact zH_some (fin (LI_fin h0 (hA) c1 f1 m2 f2))
  refine zH_if (fun _ => ?_) (fun _ => ?_)
  · rw [zg_t g1]
    refine zH_bd2 (c_place hC) (fun v1 C1 e1 => ?_)
    obtain ⟨rfl, c1, f1⟩ := e1
    have hM1 := RM_fr hM f1
    rw [(f1 0 (Or.inl rfl)).trans h0, zg_t g1]
    refine zH_bd2 (m_place hA hM1) (fun v2 C2 e2 => ?_)
    obtain ⟨rfl, m2, f2⟩ := e2
    rw [if_pos rfl]
    exact zH_some (fin (LI_fin h0 (hA) c1 f1 m2 f2))
  refine zH_if (fun _ => ?_) (fun _ => ?_)
  · rw [zg_t g1, zg_t g2]
    refine zH_bd2 (c_open hA hC) (fun v1 C1 e1 => ?_)
    obtain ⟨rfl, c1, f1⟩ := e1
    have hM1 := RM_fr hM f1
    rw [(f1 0 (Or.inl rfl)).trans h0, zg_t g1, zg_t g2]
    refine zH_bd2 (m_open hA hM1) (fun v2 C2 e2 => ?_)
    obtain ⟨rfl, m2, f2⟩ := e2
    rw [if_pos rfl]
    exact zH_some (fin (LI_fin h0 (hA) c1 f1 m2 f2))
  refine zH_if (fun _ => ?_) (fun _ => ?_)
  · rw [zg_t g1]
    refine zH_bd2 (c_gone hC) (fun v1 C1 e1 => ?_)
    obtain ⟨rfl, c1, f1⟩ := e1
    have hM1 := RM_fr hM f1
    rw [(f1 0 (Or.inl rfl)).trans h0, zg_t g1]
    refine zH_bd2 (m_gone hA hM1) (fun v2 C2 e2 => ?_)
    obtain ⟨rfl, m2, f2⟩ := e2
    rw [if_pos rfl]
    exact zH_some (fin (LI_fin h0 (hA) c1 f1 m2 f2))
  refine zH_if (fun _ => ?_) (fun _ => ?_)
  · rw [zg_t g1]
    refine zH_bd2 (c_spent hC) (fun v1 C1 e1 => ?_)
    obtain ⟨rfl, c1, f1⟩ := e1
    have hM1 := RM_fr hM f1
    rw [(f1 0 (Or.inl rfl)).trans h0, zg_t g1]
    refine zH_bd2 (m_spent hA hM1) (fun v2 C2 e2 => ?_)
    obtain ⟨rfl, m2, f2⟩ := e2
    rw [if_pos rfl]
    exact zH_some (fin (LI_fin h0 (hA) c1 f1 m2 f2))
  refine zH_if (fun _ => ?_) (fun _ => ?_)
  · rw [zg_t g1, zg_t g2]
    refine zH_bd2 (c_may hA hC) (fun v1 C1 e1 => ?_)
    obtain ⟨rfl, c1, f1⟩ := e1
    have hM1 := RM_fr hM f1
    rw [(f1 0 (Or.inl rfl)).trans h0, zg_t g1, zg_t g2]
    refine zH_bd2 (m_may hA hM1) (fun v2 C2 e2 => ?_)
    obtain ⟨rfl, m2, f2⟩ := e2
    rw [if_pos rfl]
    exact zH_some (fin (LI_fin h0 (hA) c1 f1 m2 f2))
  refine zH_if (fun _ => ?_) (fun _ => ?_)
  · rw [zg_t g1, zg_t g2]
    refine zH_bd2 (c_soon hA hC) (fun v1 C1 e1 => ?_)
    obtain ⟨rfl, c1, f1⟩ := e1
    have hM1 := RM_fr hM f1
    rw [(f1 0 (Or.inl rfl)).trans h0, zg_t g1, zg_t g2]
    refine zH_bd2 (m_soon hA hM1) (fun v2 C2 e2 => ?_)
    obtain ⟨rfl, m2, f2⟩ := e2
    rw [if_pos rfl]
    exact zH_some (fin (LI_fin h0 (hA) c1 f1 m2 f2))
  refine zH_if (fun _ => ?_) (fun _ => ?_)
  · rw [zg_t g1]
    refine zH_bd2 (c_still hC) (fun v1 C1 e1 => ?_)
    obtain ⟨rfl, c1, f1⟩ := e1
    have hM1 := RM_fr hM f1
    rw [(f1 0 (Or.inl rfl)).trans h0, zg_t g1]
    refine zH_bd2 (m_still hA hM1) (fun v2 C2 e2 => ?_)
    obtain ⟨rfl, m2, f2⟩ := e2
    rw [if_pos rfl]
    exact zH_some (fin (LI_fin h0 (hA) c1 f1 m2 f2))
  refine zH_if (fun _ => ?_) (fun _ => ?_)
  · rw [zg_t g1]
    refine zH_bd2 (c_never hC) (fun v1 C1 e1 => ?_)
    obtain ⟨rfl, c1, f1⟩ := e1
    have hM1 := RM_fr hM f1
    rw [(f1 0 (Or.inl rfl)).trans h0, zg_t g1]
    refine zH_bd2 (m_never hA hM1) (fun v2 C2 e2 => ?_)
    obtain ⟨rfl, m2, f2⟩ := e2
    rw [if_pos rfl]
    exact zH_some (fin (LI_fin h0 (hA) c1 f1 m2 f2))
  refine zH_if (fun _ => ?_) (fun _ => ?_)
  · rw [zg_t g1, zg_t g2, zg_t g3]
    refine zH_bd2 (c_keeps hA hC) (fun v1 C1 e1 => ?_)
    obtain ⟨rfl, c1, f1⟩ := e1
    have hM1 := RM_fr hM f1
    rw [(f1 0 (Or.inl rfl)).trans h0, zg_t g1, zg_t g2, zg_t g3]
    refine zH_bd2 (m_keeps hA hM1) (fun v2 C2 e2 => ?_)
    obtain ⟨rfl, m2, f2⟩ := e2
    rw [if_pos rfl]
    exact zH_some (fin (LI_fin h0 (hA) c1 f1 m2 f2))
  refine zH_if (fun _ => ?_) (fun _ => ?_)
  · rw [zg_t g1, zg_t g2, zg_t g3]
    refine zH_bd2 ((hc _ hC).2.1 _ _ _ (hz _)) (fun v1 C1 e1 => ?_)
    obtain ⟨rfl, c1, f1⟩ := e1
    have hM1 := RM_fr hM f1
    rw [(f1 0 (Or.inl rfl)).trans h0, zg_t g1, zg_t g2, zg_t g3]
    refine zH_bd2 ((hm _ hM1).2.1 _ _ _ (hz _)) (fun v2 C2 e2 => ?_)
    obtain ⟨rfl, m2, f2⟩ := e2
    rw [if_pos rfl]
    exact zH_some (fin (LI_fin h0 (hA) c1 f1 m2 f2))
  refine zH_if (fun _ => ?_) (fun _ => ?_)
  · rw [zg_t g1, zg_t g2, zg_t g3]
    refine zH_bd2 (c_meeting hA hC) (fun v1 C1 e1 => ?_)
    obtain ⟨rfl, c1, f1⟩ := e1
    have hM1 := RM_fr hM f1
    rw [(f1 0 (Or.inl rfl)).trans h0, zg_t g1, zg_t g2, zg_t g3]
    refine zH_bd2 (m_meeting hA hM1) (fun v2 C2 e2 => ?_)
    obtain ⟨rfl, m2, f2⟩ := e2
    rw [if_pos rfl]
    exact zH_some (fin (LI_fin h0 (hA) c1 f1 m2 f2))
  refine zH_if (fun _ => ?_) (fun _ => ?_)
  · rw [zg_t g1, zg_t g2]
    refine zH_bd2 (c_lent hA hC) (fun v1 C1 e1 => ?_)
    obtain ⟨rfl, c1, f1⟩ := e1
    have hM1 := RM_fr hM f1
    rw [(f1 0 (Or.inl rfl)).trans h0, zg_t g1, zg_t g2]
    refine zH_bd2 (m_lent hA hM1) (fun v2 C2 e2 => ?_)
    obtain ⟨rfl, m2, f2⟩ := e2
    rw [if_pos rfl]
    exact zH_some (fin (LI_fin h0 (hA) c1 f1 m2 f2))
  refine zH_if (fun _ => ?_) (fun _ => ?_)
  · rw [zg_t g1, zg_t g2]
    refine zH_bd2 (c_lost hA hC) (fun v1 C1 e1 => ?_)
    obtain ⟨rfl, c1, f1⟩ := e1
    have hM1 := RM_fr hM f1
    rw [(f1 0 (Or.inl rfl)).trans h0, zg_t g1, zg_t g2]
    refine zH_bd2 (m_lost hA hM1) (fun v2 C2 e2 => ?_)
    obtain ⟨rfl, m2, f2⟩ := e2
    rw [if_pos rfl]
    exact zH_some (fin (LI_fin h0 (hA) c1 f1 m2 f2))
  refine zH_if (fun _ => ?_) (fun _ => ?_)
  · rw [zg_t g1, zg_t g2]
    refine zH_bd2 ((hc _ hC).1 _ _) (fun v1 C1 e1 => ?_)
    obtain ⟨rfl, c1, f1⟩ := e1
    have hM1 := RM_fr hM f1
    rw [(f1 0 (Or.inl rfl)).trans h0, zg_t g1, zg_t g2]
    refine zH_bd2 ((hm _ hM1).1 _ _) (fun v2 C2 e2 => ?_)
    obtain ⟨rfl, m2, f2⟩ := e2
    rw [if_pos rfl]
    exact zH_some (fin (LI_fin h0 (hA) c1 f1 m2 f2))
  refine zH_if (fun _ => ?_) (fun _ => ?_)
  · rw [zg_t g1, zg_t g2]
    refine zH_bd2 (c_seen hC) (fun v1 C1 e1 => ?_)
    obtain ⟨rfl, c1, f1⟩ := e1
    have hM1 := RM_fr hM f1
    rw [(f1 0 (Or.inl rfl)).trans h0, zg_t g1, zg_t g2]
    refine zH_bd2 (m_seen hA hM1) (fun v2 C2 e2 => ?_)
    obtain ⟨rfl, m2, f2⟩ := e2
    rw [if_pos rfl]
    exact zH_some (fin (LI_fin h0 (ok_seen hA) c1 f1 m2 f2))
  refine zH_if (fun _ => ?_) (fun _ => ?_)
  · refine zH_bd2 (c_forget hC) (fun v1 C1 e1 => ?_)
    obtain ⟨rfl, c1, f1⟩ := e1
    have hM1 := RM_fr hM f1
    refine zH_bd2 (m_forget hM1) (fun v2 C2 e2 => ?_)
    obtain ⟨rfl, m2, f2⟩ := e2
    rw [if_pos rfl]
    exact zH_some (fin (LI_fin h0 (ok_forget hA) c1 f1 m2 f2))
  refine zH_if (fun _ => ?_) (fun _ => ?_)
  · refine zH_bd2 ((hc _ hC).2.2.1) (fun v1 C1 e1 => ?_)
    obtain ⟨rfl, c1, f1⟩ := e1
    have hM1 := RM_fr hM f1
    refine zH_bd2 ((hm _ hM1).2.2.1) (fun v2 C2 e2 => ?_)
    obtain ⟨rfl, m2, f2⟩ := e2
    rw [if_pos rfl]
    exact zH_some (fin (LI_fin h0 (hA) c1 f1 m2 f2))
  refine zH_if (fun _ => ?_) (fun _ => ?_)
  · rw [zg_t g1, zg_t g2]
    refine zH_bd2 ((hc _ hC).2.2.2 _ _) (fun v1 C1 e1 => ?_)
    obtain ⟨rfl, c1, f1⟩ := e1
    have hM1 := RM_fr hM f1
    rw [(f1 0 (Or.inl rfl)).trans h0, zg_t g1, zg_t g2]
    refine zH_bd2 ((hm _ hM1).2.2.2.1 _ _) (fun v2 C2 e2 => ?_)
    obtain ⟨rfl, m2, f2⟩ := e2
    rw [if_pos rfl]
    exact zH_some (fin (LI_fin h0 (hA) c1 f1 m2 f2))
  refine zH_if (fun _ => ?_) (fun _ => ?_)
  · rw [zg_t g1, zg_t g2, zg_t g3]
    refine zH_bd2 (c_sheet hC) (fun v1 C1 e1 => ?_)
    obtain ⟨rfl, c1, f1⟩ := e1
    have hM1 := RM_fr hM f1
    rw [(f1 0 (Or.inl rfl)).trans h0, zg_t g1, zg_t g2, zg_t g3]
    refine zH_bd2 (m_sheet hM1) (fun v2 C2 e2 => ?_)
    obtain ⟨rfl, m2, f2⟩ := e2
    rw [if_pos rfl]
    exact zH_some (fin (LI_fin h0 (ok_sheet hA) c1 f1 m2 f2))
  refine zH_if (fun _ => ?_) (fun _ => ?_)
  · rw [zg_t g1]
    refine zH_bd2 (c_lose hC) (fun v1 C1 e1 => ?_)
    obtain ⟨rfl, c1, f1⟩ := e1
    have hM1 := RM_fr hM f1
    rw [(f1 0 (Or.inl rfl)).trans h0, zg_t g1]
    refine zH_bd2 (m_lose hM1) (fun v2 C2 e2 => ?_)
    obtain ⟨rfl, m2, f2⟩ := e2
    rw [if_pos rfl]
    exact zH_some (fin (LI_fin h0 (ok_lose hA) c1 f1 m2 f2))
  refine zH_if (fun _ => ?_) (fun _ => ?_)
  · rw [zg_t g1, zg_t g2, zg_t g3, zg_t g4]
    refine zH_bd2 (c_put hA hC) (fun v1 C1 e1 => ?_)
    obtain ⟨rfl, c1, f1⟩ := e1
    have hM1 := RM_fr hM f1
    rw [(f1 0 (Or.inl rfl)).trans h0, zg_t g1, zg_t g2, zg_t g3, zg_t g4]
    refine zH_bd2 (m_put hA hM1) (fun v2 C2 e2 => ?_)
    obtain ⟨rfl, m2, f2⟩ := e2
    rw [if_pos rfl]
    exact zH_some (fin (LI_fin h0 (ok_put hA) c1 f1 m2 f2))
  refine zH_if (fun _ => ?_) (fun _ => ?_)
  · rw [zg_t g1, zg_t g2, zg_t g3]
    refine zH_bd2 (c_get hA hC) (fun v1 C1 e1 => ?_)
    obtain ⟨rfl, c1, f1⟩ := e1
    have hM1 := RM_fr hM f1
    rw [(f1 0 (Or.inl rfl)).trans h0, zg_t g1, zg_t g2, zg_t g3]
    refine zH_bd2 (m_get hA hM1) (fun v2 C2 e2 => ?_)
    obtain ⟨rfl, m2, f2⟩ := e2
    rw [if_pos rfl]
    exact zH_some (fin (LI_fin h0 (ok_get hA) c1 f1 m2 f2))
  refine zH_if (fun _ => ?_) (fun _ => ?_)
  · rw [zg_t g1, zg_t g2, zg_t g3, zg_t g4, zg_t g5]
    refine zH_bd2 (c_copy hA hC) (fun v1 C1 e1 => ?_)
    obtain ⟨rfl, c1, f1⟩ := e1
    have hM1 := RM_fr hM f1
    rw [(f1 0 (Or.inl rfl)).trans h0, zg_t g1, zg_t g2, zg_t g3, zg_t g4, zg_t g5]
    refine zH_bd2 (m_copy hA hM1 (hz _) (hz _) (hz _)) (fun v2 C2 e2 => ?_)
    obtain ⟨rfl, m2, f2⟩ := e2
    rw [if_pos rfl]
    exact zH_some (fin (LI_fin h0 (ok_copy hA) c1 f1 m2 f2))
  refine zH_if (fun _ => ?_) (fun _ => ?_)
  · rw [zg_t g1, zg_t g2]
    refine zH_bd2 (c_write hA hC) (fun v1 C1 e1 => ?_)
    obtain ⟨rfl, c1, f1⟩ := e1
    have hM1 := RM_fr hM f1
    rw [(f1 0 (Or.inl rfl)).trans h0, zg_t g1, zg_t g2]
    refine zH_bd2 (m_write hA hM1) (fun v2 C2 e2 => ?_)
    obtain ⟨rfl, m2, f2⟩ := e2
    rw [if_pos rfl]
    exact zH_some (fin (LI_fin h0 (ok_write hA) c1 f1 m2 f2))
  refine zH_if (fun _ => ?_) (fun _ => ?_)
  · rw [zg_t g1]
    refine zH_bd2 (c_count hC) (fun v1 C1 e1 => ?_)
    obtain ⟨rfl, c1, f1⟩ := e1
    have hM1 := RM_fr hM f1
    rw [(f1 0 (Or.inl rfl)).trans h0, zg_t g1]
    refine zH_bd2 (m_count hA hM1) (fun v2 C2 e2 => ?_)
    obtain ⟨rfl, m2, f2⟩ := e2
    rw [if_pos rfl]
    exact zH_some (fin (LI_fin h0 (hA) c1 f1 m2 f2))
  refine zH_if (fun _ => ?_) (fun _ => ?_)
  · refine zH_bd2 (c_digest hA hC (ft := fun k x => ft k x) (fe := fun k => fe k 21 (-1)) (fc := fc) (fun k x C _ _ h => (hc C h).1 k x) (fun k C _ h => (hc C h).2.1 k 21 (-1) ⟨by decide, by decide⟩) (fun C h => (hc C h).2.2.1)) (fun v1 C1 e1 => ?_)
    obtain ⟨rfl, c1, f1⟩ := e1
    have hM1 := RM_fr hM f1
    refine zH_bd2 ((hm _ hM1).2.2.2.2) (fun v2 C2 e2 => ?_)
    obtain ⟨rfl, m2, f2⟩ := e2
    rw [if_neg (Int.lt_irrefl _), if_pos rfl, if_pos rfl]
    exact zH_some (fin (LI_fin h0 (hA) c1 f1 m2 f2))
  exact zH_some (fin ⟨A, hA, hC, hM, h0⟩)
end ZLAW

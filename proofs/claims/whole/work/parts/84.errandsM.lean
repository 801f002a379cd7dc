/-! errands() in the model: all rows of steps, the best kept -/
def bE (W : ZWd) (bo : Option (List Nat)) (C : ZC) : Prop := match bo with
  | none => C 72 21 = -1
  | some b => C 72 21 = (mnW W b : Int) ∧ C 72 20 = (b.length : Int) ∧ ∀ j, j < b.length → C 85 j = ((b.getD j 0 : Nat) : Int)
def ble (W : ZWd) (b r : List Nat) : Prop := cw W b < cw W r ∨ (cw W b = cw W r ∧ lx b r)
noncomputable def hB4 (k d i : Nat) (E : Int) (C : ZC) : Option ((Int ⊕ Unit) × ZC) := zbd (d_mayBe (i : Int) C) fun v22 C23 => zbd (α := (Int × Int × Int)) (zg (0 ≤ (d : Int) ∧ (d : Int) < 64) (zg (0 ≤ (i : Int) ∧ (i : Int) < 13) (if ((C23 72 21)) = ((-1)) then (some ((v22, (zadd (C23 84 d) (C23 77 i)), 1), C23)) else (if ((zadd (C23 84 d) (C23 77 i))) < ((C23 72 21)) then (some ((v22, (zadd (C23 84 d) (C23 77 i)), 1), C23)) else (if ¬ ((zadd (C23 84 d) (C23 77 i))) = ((C23 72 21)) then (some ((v22, (zadd (C23 84 d) (C23 77 i)), 0), C23)) else (if ((C23 72 20)) ≤ (((d + 1 : Nat) : Int)) then (some ((v22, (zadd (C23 84 d) (C23 77 i)), 0), C23)) else (some ((v22, (zadd (C23 84 d) (C23 77 i)), 1), C23)))))))) fun y24 C26 => if ((y24.1)) ≤ 0 then (some (.inl (d : Int), C26)) else (if ((y24.2.2)) = 0 then (some (.inl (d : Int), C26)) else (zbd (d_steps (i : Int) (y24.1) C26) fun v41 C42 => zg (0 ≤ (d : Int) ∧ (d : Int) < 64) (zg (0 ≤ (d : Int) ∧ (d : Int) < 64) (zg (0 ≤ ((d + 1 : Nat) : Int) ∧ ((d + 1 : Nat) : Int) < 64) (zg (0 ≤ ((d + 1 : Nat) : Int) ∧ ((d + 1 : Nat) : Int) < 64) (zg (0 ≤ ((d + 1 : Nat) : Int) ∧ ((d + 1 : Nat) : Int) < 64) (zg (0 ≤ ((d + 1 : Nat) : Int) ∧ ((d + 1 : Nat) : Int) < 64) (if ¬ ((zand E (zxor ((zup2 (zup2 (zup2 (zup2 C42 82 d (y24.1)) 83 (d + 1) (zor ((zup2 C42 82 d (y24.1)) 83 d) (zshl 1 ((zup2 C42 82 d (y24.1)) 72 7)))) 84 (d + 1) (y24.2.1)) 81 (d + 1) (-1)) 83 (d + 1)) (-1)))) = 0 then (some (.inl ((d + 1 : Nat) : Int), zup2 (zup2 (zup2 (zup2 C42 82 d (y24.1)) 83 (d + 1) (zor ((zup2 C42 82 d (y24.1)) 83 d) (zshl 1 ((zup2 C42 82 d (y24.1)) 72 7)))) 84 (d + 1) (y24.2.1)) 81 (d + 1) (-1))) else (zg (0 ≤ (k : Int) ∧ (k : Int) < 4) (if ¬ (((zup2 (zup2 (zup2 (zup2 C42 82 d (y24.1)) 83 (d + 1) (zor ((zup2 C42 82 d (y24.1)) 83 d) (zshl 1 ((zup2 C42 82 d (y24.1)) 72 7)))) 84 (d + 1) (y24.2.1)) 81 (d + 1) (-1)) 72 7)) = (((zup2 (zup2 (zup2 (zup2 C42 82 d (y24.1)) 83 (d + 1) (zor ((zup2 C42 82 d (y24.1)) 83 d) (zshl 1 ((zup2 C42 82 d (y24.1)) 72 7)))) 84 (d + 1) (y24.2.1)) 81 (d + 1) (-1)) 78 k)) then (some (.inl ((d + 1 : Nat) : Int), zup2 (zup2 (zup2 (zup2 C42 82 d (y24.1)) 83 (d + 1) (zor ((zup2 C42 82 d (y24.1)) 83 d) (zshl 1 ((zup2 C42 82 d (y24.1)) 72 7)))) 84 (d + 1) (y24.2.1)) 81 (d + 1) (-1))) else (zbd (zloop (d_runsErrands_L305 (k : Int) E ((d + 1 : Nat) : Int)) 0 (zup2 (zup2 (zup2 (zup2 (zup2 (zup2 C42 82 d (y24.1)) 83 (d + 1) (zor ((zup2 C42 82 d (y24.1)) 83 d) (zshl 1 ((zup2 C42 82 d (y24.1)) 72 7)))) 84 (d + 1) (y24.2.1)) 81 (d + 1) (-1)) 72 21 (y24.2.1)) 72 20 ((d + 1 : Nat) : Int))) fun y57 C63 => some (.inl ((d + 1 : Nat) : Int), C63))))))))))))
section ZERRM
variable {W : ZWd} {C C0 : ZC} {s : ZWk} {h : Nat} {E B : Int} {A : ZA}
theorem lx_rf : ∀ a : List Nat, lx a a
  | [] => trivial
  | _ :: as => Or.inr ⟨rfl, lx_rf as⟩
theorem lx_tr : ∀ {a b c : List Nat}, lx a b → lx b c → lx a c
  | [], _, _, _, _ => trivial
  | _ :: _, [], _, h, _ => h.elim
  | _ :: _, _ :: _, [], _, h => h.elim
  | x :: as, y :: bs, z :: cs, h1, h2 => by
    rcases h1 with h1 | ⟨e1, h1⟩
    · rcases h2 with h2 | ⟨e2, _⟩
      · exact Or.inl (by omega)
      · exact Or.inl (by omega)
    · rcases h2 with h2 | ⟨e2, h2⟩
      · exact Or.inl (by omega)
      · exact Or.inr ⟨by omega, lx_tr h1 h2⟩
theorem lx_app {a b : List Nat} : ∀ p : List Nat, lx a b → lx (p ++ a) (p ++ b)
  | [], h => h
  | _ :: p, h => Or.inr ⟨rfl, lx_app p h⟩
theorem ble_tr {a b c : List Nat} (h1 : ble W a b) (h2 : ble W b c) : ble W a c := by
  rcases h1 with h1 | ⟨e1, h1⟩
  · rcases h2 with h2 | ⟨e2, h2⟩
    · exact Or.inl (by omega)
    · exact Or.inl (by omega)
  · rcases h2 with h2 | ⟨e2, h2⟩
    · exact Or.inl (by omega)
    · exact Or.inr ⟨by omega, lx_tr h1 h2⟩
theorem mnW_app : ∀ (p q : List Nat), mnW W (p ++ q) = mnW W p + mnW W q
  | [], q => (Nat.zero_add _).symm
  | w :: p, q => by
    show wM W w + mnW W (p ++ q) = wM W w + mnW W p + mnW W q
    rw [mnW_app p q]; omega
theorem gd_app1 : ∀ (p q : List Nat) (j : Nat), j < p.length → (p ++ q).getD j 0 = p.getD j 0
  | [], _, _, h => absurd h (Nat.not_lt_zero _)
  | _ :: p, q, 0, _ => rfl
  | _ :: p, q, j + 1, h => gd_app1 p q j (Nat.lt_of_succ_lt_succ h)
theorem gd_app2 {i : Nat} : ∀ (p : List Nat), (p ++ [i]).getD p.length 0 = i
  | [] => rfl
  | _ :: p => gd_app2 p
theorem MWk_72 {C : ZC} {j : Nat} {v : Int} (h : j ≠ 7 ∧ j ≠ 8 ∧ j ≠ 9) (hS : MWk s C) : MWk s (zup2 C 72 j v) := by
  obtain ⟨s1, s2, s3, s4⟩ := hS
  exact ⟨(zu_nj (Ne.symm h.1)).trans s1, (zu_nj (Ne.symm h.2.1)).trans s2, (zu_nj (Ne.symm h.2.2)).trans s3, by rw [zu_nb (by decide)]; exact s4⟩
theorem Fo_72 {C : ZC} {j : Nat} {v : Int} (h : j = 20 ∨ j = 21) : Fo C (zup2 C 72 j v) := ⟨fun b h1 _ _ _ _ _ _ _ => zu_nb h1, fun i _ _ _ h4 h5 => zu_nj (by omega)⟩
theorem m_errB {k d i κ : Nat} {C6 : ZC} (hd : d < 60) (hW1 : wN W ≤ 12) (hR : C 72 2 = (wN W : Int)) (h81 : C 81 (d + 1) = (wN W : Int) - 1) (h81d : C 81 d = (i : Int)) (h82d : C 82 d = (κ : Int)) (hu : d_unsteps (i : Int) (κ : Int) (zup2 C 81 (d + 1) (wN W : Int)) = some (0, C6)) :
    d_runsErrands_L76 (k : Int) E ((d + 1 : Nat) : Int) C = some (.inl (d : Int), C6) := by
  have gd : 0 ≤ (d : Int) ∧ (d : Int) < 64 := by omega
  have gd1 : 0 ≤ ((d + 1 : Nat) : Int) ∧ ((d + 1 : Nat) : Int) < 64 := by omega
  have n0 : ¬ ((d + 1 : Nat) : Int) < 0 := by omega
  have n1 : ¬ (d : Int) < 0 := by omega
  have n2 : ¬ (wN W : Int) < (wN W : Int) := by omega
  have e1 : zadd (C 81 (d + 1)) 1 = (wN W : Int) := by rw [h81, zadd_e (by omega) (by omega)]; omega
  have e5 : zadd ((d + 1 : Nat) : Int) (-1) = (d : Int) := by rw [zadd_e (by omega) (by omega)]; omega
  have nd : d ≠ d + 1 := by omega
  unfold d_runsErrands_L76
  rw [if_neg n0, zg_t gd1, zg_t gd1, zg_t gd1]
  simp only [Int.toNat_natCast, e1, zu_eq, e5]
  rw [zu_ne (show (72 : Nat) ≠ 81 by decide), hR, if_neg n2, if_neg n1, zg_t gd, zg_t gd, zu_nj nd, h81d, zu_ne (show (82 : Nat) ≠ 81 by decide), h82d, hu, zbd_some]
/-- the best row written -/
theorem m_copyRow {k n : Nat} {l2 : Int} (hn : n ≤ 60) : zH (zloop (d_runsErrands_L305 (k : Int) l2 (n : Int)) 0 C) (fun _ C' => (∀ a, a ≠ 85 → C' a = C a) ∧ ∀ j, j < n → C' 85 j = C 81 j) := by
  refine zH_for (fun i x C' => x = (i : Int) ∧ (∀ a, a ≠ 85 → C' a = C a) ∧ ∀ j, j < i → C' 85 j = C 81 j) n 0 (Nat.zero_le _) ⟨rfl, fun _ _ => rfl, fun j hj => absurd hj (Nat.not_lt_zero _)⟩ ?_ ?_
  · rintro i x C1 hi ⟨rfl, i1, i2⟩
    unfold d_runsErrands_L305
    rw [if_neg (by omega), zg_t (by omega), zg_t (by omega), Int.toNat_natCast, zinN (by omega)]
    refine zH_some ⟨rfl, fun a ha => (zu_nb ha).trans (i1 a ha), fun j hj => ?_⟩
    by_cases e : j = i
    · subst e; rw [zu_eq, i1 81 (by decide)]
    · rw [zu_nj e]; exact i2 j (by omega)
  · rintro x C1 ⟨rfl, i1, i2⟩
    unfold d_runsErrands_L305
    rw [if_pos (by omega)]
    exact zH_some ⟨i1, i2⟩
def ER (C C3 : ZC) (d i : Nat) (t : ZWk) (B' c1 : Int) (κ : Nat) : Prop := Fo C C3 ∧ MWk t C3 ∧ (∀ j, j < d → C3 81 j = C 81 j) ∧ C3 81 d = (i : Int) ∧ C3 81 (d + 1) = -1 ∧ (∀ j, j < d → C3 82 j = C 82 j) ∧ C3 82 d = (κ : Int) ∧
  (∀ j, j ≤ d → C3 83 j = C 83 j ∧ C3 84 j = C 84 j) ∧ C3 83 (d + 1) = B' ∧ C3 84 (d + 1) = c1
def cd (C : ZC) (d : Nat) (c1 : Int) : Prop := C 72 21 = -1 ∨ c1 < C 72 21 ∨ (c1 = C 72 21 ∧ ((d + 1 : Nat) : Int) < C 72 20)
theorem m_errT (hW : wOK W) {k d i c0 : Nat} (hk4 : k < 4) (hd : d < 60) (hi : i < wN W) (hk : kOK W s) (hR : MWd W C) (hS : MWk s C) (h78 : C 78 k = (h : Int)) (h83 : C 83 d = B) (h84 : C 84 d = (c0 : Int)) (hc0 : c0 ≤ 10000) (h81 : C 81 d = (i : Int) - 1) :
    ((kK W s i = 0 ∨ ¬ cd C d ((c0 + wM W i : Nat) : Int)) ∧ d_runsErrands_L76 (k : Int) E (d : Int) C = some (.inl (d : Int), zup2 C 81 d (i : Int))) ∨
    (kK W s i ≠ 0 ∧ cd C d ((c0 + wM W i : Nat) : Int) ∧ ∃ C3, d_runsErrands_L76 (k : Int) E (d : Int) C = some (.inl ((d + 1 : Nat) : Int), C3) ∧ ER C C3 d i (kT W s i) (zor B (zshl 1 (kP (kT W s i) : Int))) ((c0 + wM W i : Nat) : Int) (kK W s i) ∧
      (((kP (kT W s i) = h ∧ zand E (zxor (zor B (zshl 1 (kP (kT W s i) : Int))) (-1)) = 0) ∧ C3 72 21 = ((c0 + wM W i : Nat) : Int) ∧ C3 72 20 = ((d + 1 : Nat) : Int) ∧ ∀ j, j < d + 1 → C3 85 j = C3 81 j) ∨
        (¬ (kP (kT W s i) = h ∧ zand E (zxor (zor B (zshl 1 (kP (kT W s i) : Int))) (-1)) = 0) ∧ C3 72 21 = C 72 21 ∧ C3 72 20 = C 72 20 ∧ C3 85 = C 85))) := by
  have hW1 := hW.1
  have hm := hW.2 i hi
  have gd : 0 ≤ (d : Int) ∧ (d : Int) < 64 := by omega
  have gd1 : 0 ≤ ((d + 1 : Nat) : Int) ∧ ((d + 1 : Nat) : Int) < 64 := by omega
  have gk : 0 ≤ (k : Int) ∧ (k : Int) < 4 := by omega
  have g13 : 0 ≤ (i : Int) ∧ (i : Int) < 13 := by omega
  have n0 : ¬ (d : Int) < 0 := by omega
  have ni : (i : Int) < (wN W : Int) := by omega
  have e81 : zadd (C 81 d) 1 = (i : Int) := by rw [h81, zadd_e (by omega) (by omega)]; omega
  have ed : zadd (d : Int) 1 = ((d + 1 : Nat) : Int) := zinN (by omega)
  have ed2 : zsub ((d + 1 : Nat) : Int) 1 = (d : Int) := by rw [zsub_e (by omega) (by omega)]; omega
  have hR1 : MWd W (zup2 C 81 d (i : Int)) := Fo_wd (Fo_u (by omega)) hR
  have hS1 : MWk s (zup2 C 81 d (i : Int)) := MWk_u (by decide) (by decide) hS
  have cF : Fo C (zup2 C 81 d (i : Int)) := Fo_u (by omega)
  have a1 : ∀ j, j < d → zup2 C 81 d (i : Int) 81 j = C 81 j := fun j hj => zu_nj (by omega)
  have a2 : zup2 C 81 d (i : Int) 81 d = (i : Int) := zu_eq
  have a3 : ∀ a, a ≠ 81 → zup2 C 81 d (i : Int) a = C a := fun a ha => zu_nb ha
  have hb : d_runsErrands_L76 (k : Int) E (d : Int) C = hB4 k d i E (zup2 C 81 d (i : Int)) := by
    unfold d_runsErrands_L76 hB4
    rw [if_neg n0, zg_t gd, zg_t gd, zg_t gd]
    simp only [Int.toNat_natCast, e81, zu_eq, ed, ed2]
    rw [zu_ne (show (72 : Nat) ≠ 81 by decide), hR.1, if_pos ni]
  generalize zup2 C 81 d (i : Int) = C1 at *
  have b84 : C1 84 d = (c0 : Int) := by rw [a3 84 (by decide)]; exact h84
  have b77 : C1 77 i = (wM W i : Int) := (hR1.2 i hi).2.2
  have b21 : C1 72 21 = C 72 21 := by rw [a3 72 (by decide)]
  have b20 : C1 72 20 = C 72 20 := by rw [a3 72 (by decide)]
  have zc : zadd (c0 : Int) (wM W i : Int) = ((c0 + wM W i : Nat) : Int) := by rw [zadd_e (by omega) (by omega)]; omega
  unfold hB4 at hb
  rw [m_mayBe hW hR1 hk hS1 hi, zbd_some, zg_t gd, zg_t g13, b84, b77, zc, b21, b20] at hb
  have eif : (if C 72 21 = -1 then some ((((kK W s i : Nat) : Int), ((c0 + wM W i : Nat) : Int), (1 : Int)), C1) else if ((c0 + wM W i : Nat) : Int) < C 72 21 then some ((((kK W s i : Nat) : Int), ((c0 + wM W i : Nat) : Int), 1), C1) else if ¬ ((c0 + wM W i : Nat) : Int) = C 72 21 then some ((((kK W s i : Nat) : Int), ((c0 + wM W i : Nat) : Int), 0), C1) else if C 72 20 ≤ ((d + 1 : Nat) : Int) then some ((((kK W s i : Nat) : Int), ((c0 + wM W i : Nat) : Int), 0), C1) else some ((((kK W s i : Nat) : Int), ((c0 + wM W i : Nat) : Int), 1), C1)) = some ((((kK W s i : Nat) : Int), ((c0 + wM W i : Nat) : Int), (@ite Int (cd C d ((c0 + wM W i : Nat) : Int)) (Classical.propDecidable _) 1 0)), C1) := by
    unfold cd
    by_cases q1 : C 72 21 = -1
    · rw [if_pos q1, if_pos (Or.inl q1)]
    · rw [if_neg q1]
      by_cases q2 : ((c0 + wM W i : Nat) : Int) < C 72 21
      · rw [if_pos q2, if_pos (Or.inr (Or.inl q2))]
      · rw [if_neg q2]
        by_cases q3 : ((c0 + wM W i : Nat) : Int) = C 72 21
        · rw [if_neg (fun z => z q3)]
          by_cases q4 : C 72 20 ≤ ((d + 1 : Nat) : Int)
          · rw [if_pos q4, if_neg (fun z => z.elim q1 (fun y => y.elim q2 (fun x => by omega)))]
          · rw [if_neg q4, if_pos (Or.inr (Or.inr ⟨q3, by omega⟩))]
        · rw [if_pos q3, if_neg (fun z => z.elim q1 (fun y => y.elim q2 (fun x => q3 x.1)))]
  rw [eif, zbd_some] at hb
  dsimp only at hb
  by_cases hkk : kK W s i = 0
  · refine Or.inl ⟨Or.inl hkk, ?_⟩
    rw [hb, if_pos (by omega)]
  · rw [if_neg (show ¬ ((kK W s i : Nat) : Int) ≤ 0 by omega)] at hb
    by_cases hcd : cd C d ((c0 + wM W i : Nat) : Int)
    · refine Or.inr ⟨hkk, hcd, ?_⟩
      have hto := kT_P hk hkk
      obtain ⟨C2, s1, s2, s3⟩ := m_steps hW hR1 hk hS1 (w := i) rfl hkk
      have hs2 : MWk (kT W s i) C2 := s2
      have c83 : C2 83 d = B := by rw [s3.1 83 (by decide) (by decide), a3 83 (by decide)]; exact h83
      have c78 : C2 78 k = (h : Int) := by rw [s3.1 78 (by decide) (by decide), a3 78 (by decide)]; exact h78
      rw [if_pos hcd, if_neg (show ¬ (1 : Int) = 0 by decide), s1, zbd_some, zg_t gd, zg_t gd, zg_t gd1, zg_t gd1, zg_t gd1, zg_t gd1] at hb
      simp only [zu_ne (show (83 : Nat) ≠ 82 by decide), zu_ne (show (72 : Nat) ≠ 82 by decide), zu_ne (show (72 : Nat) ≠ 81 by decide), zu_ne (show (72 : Nat) ≠ 83 by decide), zu_ne (show (72 : Nat) ≠ 84 by decide), zu_ne (show (83 : Nat) ≠ 81 by decide), zu_ne (show (83 : Nat) ≠ 84 by decide), zu_ne (show (78 : Nat) ≠ 81 by decide), zu_ne (show (78 : Nat) ≠ 84 by decide), zu_ne (show (78 : Nat) ≠ 83 by decide), zu_ne (show (78 : Nat) ≠ 82 by decide), zu_eq, c83, hs2.1, c78] at hb
      have hER : ER C (zup2 (zup2 (zup2 (zup2 C2 82 d ((kK W s i : Nat) : Int)) 83 (d + 1) (zor B (zshl 1 (kP (kT W s i) : Int)))) 84 (d + 1) ((c0 + wM W i : Nat) : Int)) 81 (d + 1) (-1)) d i (kT W s i) (zor B (zshl 1 (kP (kT W s i) : Int))) ((c0 + wM W i : Nat) : Int) (kK W s i) := by
        refine ⟨?_, ?_, fun j hj => ?_, ?_, ?_, fun j hj => ?_, ?_, fun j hj => ⟨?_, ?_⟩, ?_, ?_⟩
        · exact Fo_tr cF (Fo_tr (Fo_M s3) (Fo_tr (Fo_tr (Fo_tr (Fo_u (by decide)) (Fo_u (by decide))) (Fo_u (by decide))) (Fo_u (by decide))))
        · exact MWk_u (by decide) (by decide) (MWk_u (by decide) (by decide) (MWk_u (by decide) (by decide) (MWk_u (by decide) (by decide) hs2)))
        · rw [zu_nj (by omega), zu_ne (by decide), zu_ne (by decide), zu_ne (by decide), s3.1 81 (by decide) (by decide)]; exact a1 j hj
        · rw [zu_nj (by omega), zu_ne (by decide), zu_ne (by decide), zu_ne (by decide), s3.1 81 (by decide) (by decide)]; exact a2
        · exact zu_eq
        · rw [zu_ne (by decide), zu_ne (by decide), zu_ne (by decide), zu_nj (by omega), s3.1 82 (by decide) (by decide), a3 82 (by decide)]
        · rw [zu_ne (by decide), zu_ne (by decide), zu_ne (by decide), zu_eq]
        · rw [zu_ne (by decide), zu_ne (by decide), zu_nj (by omega), zu_ne (by decide), s3.1 83 (by decide) (by decide), a3 83 (by decide)]
        · rw [zu_ne (by decide), zu_nj (by omega), zu_ne (by decide), zu_ne (by decide), s3.1 84 (by decide) (by decide), a3 84 (by decide)]
        · rw [zu_ne (by decide), zu_ne (by decide), zu_eq]
        · rw [zu_ne (by decide), zu_eq]
      have hold : ∀ j, j ≠ 7 → j ≠ 8 → j ≠ 9 → zup2 (zup2 (zup2 (zup2 C2 82 d ((kK W s i : Nat) : Int)) 83 (d + 1) (zor B (zshl 1 (kP (kT W s i) : Int)))) 84 (d + 1) ((c0 + wM W i : Nat) : Int)) 81 (d + 1) (-1) 72 j = C 72 j := fun j j1 j2 j3 => by
        rw [zu_ne (by decide), zu_ne (by decide), zu_ne (by decide), zu_ne (by decide), s3.2 j j1 j2 j3, a3 72 (by decide)]
      have h85 : zup2 (zup2 (zup2 (zup2 C2 82 d ((kK W s i : Nat) : Int)) 83 (d + 1) (zor B (zshl 1 (kP (kT W s i) : Int)))) 84 (d + 1) ((c0 + wM W i : Nat) : Int)) 81 (d + 1) (-1) 85 = C 85 := by
        rw [zu_nb (by decide), zu_nb (by decide), zu_nb (by decide), zu_nb (by decide), s3.1 85 (by decide) (by decide), a3 85 (by decide)]
      generalize zup2 (zup2 (zup2 (zup2 C2 82 d ((kK W s i : Nat) : Int)) 83 (d + 1) (zor B (zshl 1 (kP (kT W s i) : Int)))) 84 (d + 1) ((c0 + wM W i : Nat) : Int)) 81 (d + 1) (-1) = C3 at *
      by_cases q1 : zand E (zxor (zor B (zshl 1 (kP (kT W s i) : Int))) (-1)) = 0
      · rw [if_neg (fun z => z q1), zg_t gk] at hb
        by_cases q2 : kP (kT W s i) = h
        · rw [if_neg (show ¬ ¬ (kP (kT W s i) : Int) = (h : Int) from fun z => z (by omega))] at hb
          obtain ⟨u, C4, r1, r2, r3⟩ := m_copyRow (C := zup2 (zup2 C3 72 21 ((c0 + wM W i : Nat) : Int)) 72 20 ((d + 1 : Nat) : Int)) (k := k) (n := d + 1) (l2 := E) (by omega)
          rw [r1, zbd_some] at hb
          obtain ⟨x1, x2, x3, x4, x5, x6, x7, x8, x9, x10⟩ := hER
          have f4 : ∀ a, a ≠ 85 → a ≠ 72 → C4 a = C3 a := fun a q1 q2 => by rw [r2 a q1, zu_nb q2, zu_nb q2]
          refine ⟨C4, hb, ⟨?_, ?_, ?_, ?_, ?_, ?_, ?_, ?_, ?_, ?_⟩, Or.inl ⟨⟨q2, q1⟩, ?_, ?_, fun j hj => ?_⟩⟩
          · refine Fo_tr x1 (Fo_tr (Fo_tr (Fo_72 (Or.inr rfl)) (Fo_72 (Or.inl rfl))) ⟨fun a _ _ _ _ _ _ z _ => r2 a z, fun j _ _ _ _ _ => by rw [r2 72 (by decide)]⟩)
          · have : MWk (kT W s i) (zup2 (zup2 C3 72 21 ((c0 + wM W i : Nat) : Int)) 72 20 ((d + 1 : Nat) : Int)) := MWk_72 (by decide) (MWk_72 (by decide) x2)
            unfold MWk at this ⊢
            rw [r2 72 (by decide), r2 79 (by decide)]
            exact this
          · rw [f4 81 (by decide) (by decide)]; exact x3
          · rw [f4 81 (by decide) (by decide)]; exact x4
          · rw [f4 81 (by decide) (by decide)]; exact x5
          · rw [f4 82 (by decide) (by decide)]; exact x6
          · rw [f4 82 (by decide) (by decide)]; exact x7
          · rw [f4 83 (by decide) (by decide), f4 84 (by decide) (by decide)]; exact x8
          · rw [f4 83 (by decide) (by decide)]; exact x9
          · rw [f4 84 (by decide) (by decide)]; exact x10
          · rw [r2 72 (by decide), zu_nj (by decide), zu_eq]
          · rw [r2 72 (by decide), zu_eq]
          · rw [r3 j hj, zu_nb (by decide), zu_nb (by decide), f4 81 (by decide) (by decide)]
        · rw [if_pos (show ¬ (kP (kT W s i) : Int) = (h : Int) by omega)] at hb
          exact ⟨C3, hb, hER, Or.inr ⟨fun z => q2 z.1, hold 21 (by decide) (by decide) (by decide), hold 20 (by decide) (by decide) (by decide), h85⟩⟩
      · rw [if_pos q1] at hb
        exact ⟨C3, hb, hER, Or.inr ⟨fun z => q1 z.2, hold 21 (by decide) (by decide) (by decide), hold 20 (by decide) (by decide) (by decide), h85⟩⟩
    · refine Or.inl ⟨Or.inr hcd, ?_⟩
      rw [hb, if_neg hcd, if_pos rfl]
end ZERRM

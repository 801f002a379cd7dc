/-! The digest: of class and model alike, where they answer alike of thread, errands and cameIn -/
def hs (h v : Int) : Int := zladd (zlmul 31 h) v
def nx (k : Nat) : Nat := if k + 1 < 4 then k + 1 else 0
def dg1 (A : ZA) : Nat → Int
  | 0 => 17
  | x + 1 => hs (dg1 A x) (s_count A (x : Int))
def dg2 (A : ZA) (h : Int) : Nat → Int
  | 0 => h
  | w + 1 => hs (hs (hs (dg2 A h w) (wA (aW A) w : Int)) (wB (aW A) w : Int)) (wM (aW A) w : Int)
def dg3 (A : ZA) (k : Nat) (h : Int) : Nat → Int
  | 0 => h
  | p + 1 => hs (dg3 A k h p) (snT (aSn A k) p)
def dg4 (A : ZA) (ft : Nat → Int → Int) (fe : Nat → Int) (k : Nat) (h : Int) : Int :=
  hs (hs (hs (hs (hs (hs (dg3 A k (hs (hs (hs (hs (hs (hs (hs h (aR A k).2.2.2) (kP (aK A k) : Int)) ((kO (aK A k)).length : Int)) (kG (aK A k))) (aR A k).2.1) (rc (aSn A k))) (zand (aR A k).2.2.1 (zxor (rc (aSn A k)) (-1)))) 8)
    (ft k 0)) (ft k 1)) (fe k)) (mtN (aSn A k) (aSn A (nx k)) 8).1) (mtN (aSn A k) (aSn A (nx k)) 8).2) (rc (sn (aW A) (kA (aK A (nx k)) (kG (aK A k))) 0))
def dg5 (A : ZA) (ft : Nat → Int → Int) (fe : Nat → Int) (h : Int) : Nat → Int
  | 0 => h
  | k + 1 => dg4 A ft fe k (dg5 A ft fe h k)
def dg (A : ZA) (ft : Nat → Int → Int) (fe : Nat → Int) (fc : Int) : Int := hs (dg5 A ft fe (dg2 A (hs (dg1 A 8) (pF (aT A 0) (aL A 0))) (wN (aW A))) 4) fc
theorem s_of_n {A : ZA} {k : Nat} {f : Nat → Int} (hk : k < 4) : s_of A (k : Int) f = f k := if_pos ⟨by omega, by omega⟩
theorem nx_lt (k : Nat) : nx k < 4 := by unfold nx; split <;> omega
theorem nx_ne {k : Nat} (hk : k < 4) : k ≠ nx k := by unfold nx; split <;> omega
section ZDIGESTC
variable {A : ZA} {C : ZC} {ft : Nat → Int → Int} {fe : Nat → Int} {fc : Int}
theorem c_digest (hA : aOK A) (h : RC A C) (hft : ∀ (k : Nat) (x : Int) (C : ZC), k < 4 → (x = 0 ∨ x = 1) → RC A C → zH (c_N_thread (k : Int) x C) (QC C (ft k x) A)) (hfe : ∀ (k : Nat) (C : ZC), k < 4 → RC A C → zH (c_N_errands (k : Int) 21 (-1) C) (QC C (fe k) A)) (hfc : ∀ C : ZC, RC A C → zH (c_N_cameIn C) (QC C fc A)) :
    zH (c_N_digest C) (QC C (dg A ft fe fc) A) := by
  have hW := (aW_OK (A := A)).1
  unfold c_N_digest
  refine zH_bd2 (P := fun y C' => y = dg1 A 8 ∧ RC A C' ∧ Frc C C') ?_ (fun y C1 h1 => ?_)
  · refine zH_for (fun i x C' => x = (dg1 A i, (i : Int)) ∧ RC A C' ∧ Frc C C') 8 0 (by decide) ⟨rfl, h, Frc_refl⟩ ?_ ?_
    · rintro i x C1 hi ⟨rfl, r1, f1⟩
      unfold c_N_digest_L6
      dsimp only
      rw [if_neg (by omega)]
      refine zH_bd2 (c_count r1) (fun v C2 h2 => ?_)
      obtain ⟨rfl, r2, f2⟩ := h2
      refine zH_some ⟨?_, r2, Frc_tr f1 f2⟩
      rw [zinN (by omega)]; rfl
    · rintro x C1 ⟨rfl, r1, f1⟩
      unfold c_N_digest_L6
      dsimp only
      rw [if_pos (by omega)]
      exact zH_some ⟨rfl, r1, f1⟩
  obtain ⟨rfl, r1, f1⟩ := h1
  refine zH_bd2 (c_fault r1) (fun v C2 h2 => ?_)
  obtain ⟨rfl, r2, f2⟩ := h2
  refine zH_bd2 (P := fun y C' => y = dg2 A (hs (dg1 A 8) (pF (aT A 0) (aL A 0))) (wN (aW A)) ∧ RC A C' ∧ Frc C C') ?_ (fun y C3 h3 => ?_)
  · refine zH_for (fun i x C' => x = (dg2 A (hs (dg1 A 8) (pF (aT A 0) (aL A 0))) i, (i : Int)) ∧ RC A C' ∧ Frc C C') (wN (aW A)) 0 (Nat.zero_le _) ⟨rfl, r2, Frc_tr f1 f2⟩ ?_ ?_
    · rintro i x C3 hi ⟨rfl, r3, f3⟩
      unfold c_N_digest_L45
      dsimp only
      rw [r3.2.1.2.1, if_neg (by omega)]
      refine zH_bd2 (P := fun y C' => y = dg2 A (hs (dg1 A 8) (pF (aT A 0) (aL A 0))) (i + 1) ∧ RC A C' ∧ Frc C C') ?_ (fun y C4 h4 => ?_)
      · have step : ∀ (x : Int) (h : Int) (C4 : ZC), 0 ≤ x → x < 3 → RC A C4 → Frc C C4 → zH (c_N_digest_L59 (i : Int) (h, x) C4) (fun o C' => o = .inl (hs h (s_way A (i : Int) x), zadd x 1) ∧ RC A C' ∧ Frc C C') := by
          intro x h C4 h0 h3 r4 f4
          unfold c_N_digest_L59
          dsimp only
          rw [if_neg (by omega)]
          refine zH_bd2 (c_way r4) (fun v C5 h5 => ?_)
          obtain ⟨rfl, r5, f5⟩ := h5
          exact zH_some ⟨rfl, r5, Frc_tr f4 f5⟩
        have w0 : s_way A (i : Int) 0 = (wA (aW A) i : Int) := by unfold s_way; rw [if_pos ⟨⟨by omega, by omega⟩, by omega, by omega⟩, if_pos rfl, Int.toNat_natCast]
        have w1 : s_way A (i : Int) 1 = (wB (aW A) i : Int) := by unfold s_way; rw [if_pos ⟨⟨by omega, by omega⟩, by omega, by omega⟩, if_neg (by decide), if_pos rfl, Int.toNat_natCast]
        have w2 : s_way A (i : Int) 2 = (wM (aW A) i : Int) := by unfold s_way; rw [if_pos ⟨⟨by omega, by omega⟩, by omega, by omega⟩, if_neg (by decide), if_neg (by decide), Int.toNat_natCast]
        have z1 : zadd 0 1 = 1 := by decide
        have z2 : zadd 1 1 = 2 := by decide
        have z3 : zadd 2 1 = 3 := by decide
        obtain ⟨o, C4, e4, rfl, r4, f4⟩ := step 0 _ C3 (by decide) (by decide) r3 f3
        obtain ⟨o, C5, e5, rfl, r5, f5⟩ := step 1 _ C4 (by decide) (by decide) r4 f4
        obtain ⟨o, C6, e6, rfl, r6, f6⟩ := step 2 _ C5 (by decide) (by decide) r5 f5
        rw [zloop_eq, e4]
        dsimp only
        rw [z1, zloop_eq, e5]
        dsimp only
        rw [z2, zloop_eq, e6]
        dsimp only
        rw [z3, zloop_eq]
        unfold c_N_digest_L59
        dsimp only
        rw [if_pos (by omega)]
        rw [w0, w1, w2]
        exact zH_some ⟨rfl, r6, f6⟩
      · obtain ⟨rfl, r4, f4⟩ := h4
        exact zH_some ⟨by rw [zinN (by omega)], r4, f4⟩
    · rintro x C3 ⟨rfl, r3, f3⟩
      unfold c_N_digest_L45
      dsimp only
      rw [r3.2.1.2.1, if_pos (by omega)]
      exact zH_some ⟨rfl, r3, f3⟩
  obtain ⟨rfl, r3, f3⟩ := h3
  generalize hh : dg2 A (hs (dg1 A 8) (pF (aT A 0) (aL A 0))) (wN (aW A)) = h0 at *
  refine zH_bd2 (P := fun y C' => y = dg5 A ft fe h0 4 ∧ RC A C' ∧ Frc C C') ?_ (fun y C4 h4 => ?_)
  · refine zH_for (fun i x C' => x = (dg5 A ft fe h0 i, (i : Int)) ∧ RC A C' ∧ Frc C C') 4 0 (Nat.zero_le _) ⟨rfl, r3, f3⟩ ?_ ?_
    · rintro i x C4 hi ⟨rfl, r4, f4⟩
      unfold c_N_digest_L94
      dsimp only
      rw [if_neg (by omega)]
      refine zH_bd2 (P := fun y C' => y = (nx i : Int) ∧ C' = C4) ?_ (fun y C5 h5 => ?_)
      · rw [zinN (by omega)]
        unfold nx
        by_cases q : i + 1 < 4
        · rw [if_neg (by omega), if_pos q]; exact zH_some ⟨rfl, rfl⟩
        · rw [if_pos (by omega), if_neg q]; exact zH_some ⟨rfl, rfl⟩
      obtain ⟨rfl, rfl⟩ := h5
      refine zH_bd2 (c_judged r4) (fun v C5 h5 => ?_)
      obtain ⟨rfl, r5, f5⟩ := h5
      refine zH_bd2 (c_place r5) (fun v C6 h6 => ?_)
      obtain ⟨rfl, r6, f6⟩ := h6
      refine zH_bd2 (c_open hA r6) (fun v C7 h7 => ?_)
      obtain ⟨rfl, r7, f7⟩ := h7
      refine zH_bd2 (c_gone r7) (fun v C8 h8 => ?_)
      obtain ⟨rfl, r8, f8⟩ := h8
      refine zH_bd2 (c_spent r8) (fun v C9 h9 => ?_)
      obtain ⟨rfl, r9, f9⟩ := h9
      refine zH_bd2 (c_still r9) (fun v C10 h10 => ?_)
      obtain ⟨rfl, r10, f10⟩ := h10
      refine zH_bd2 (c_never r10) (fun v C11 h11 => ?_)
      obtain ⟨rfl, r11, f11⟩ := h11
      have eo : s_open A (i : Int) (-1) = ((kO (aK A i)).length : Int) := by
        unfold s_open
        rw [if_pos ⟨⟨by omega, by omega⟩, by omega⟩, if_pos rfl, Int.toNat_natCast]
      rw [s_of_n hi, s_of_n hi, eo, s_of_n hi, s_of_n hi, s_of_n hi, s_of_n hi]
      generalize hg : zladd (zlmul 31 (zladd (zlmul 31 (zladd (zlmul 31 (zladd (zlmul 31 (zladd (zlmul 31 (zladd (zlmul 31 (zladd (zlmul 31 (dg5 A ft fe h0 i)) (aR A i).2.2.2)) (kP (aK A i) : Int))) ((kO (aK A i)).length : Int))) (kG (aK A i)))) (aR A i).2.1)) (rc (aSn A i)))) (zand (aR A i).2.2.1 (zxor (rc (aSn A i)) (-1))) = g0
      have F := Frc_tr f4 (Frc_tr f5 (Frc_tr f6 (Frc_tr f7 (Frc_tr f8 (Frc_tr f9 (Frc_tr f10 f11))))))
      refine zH_bd2 (P := fun y C' => y = dg3 A i g0 8 ∧ RC A C' ∧ Frc C C') ?_ (fun y C12 h12 => ?_)
      · refine zH_for (fun p x C' => x = (dg3 A i g0 p, (p : Int)) ∧ RC A C' ∧ Frc C C') 8 0 (by decide) ⟨rfl, r11, F⟩ ?_ ?_
        · rintro p x C12 hp ⟨rfl, r12, f12⟩
          unfold c_N_digest_L210
          dsimp only
          rw [if_neg (by omega)]
          refine zH_bd2 (c_soon hA r12) (fun v C13 h13 => ?_)
          obtain ⟨rfl, r13, f13⟩ := h13
          have es : s_soon A (i : Int) (p : Int) = snT (aSn A i) p := by
            unfold s_soon
            rw [if_pos ⟨⟨by omega, by omega⟩, by omega, by omega⟩, Int.toNat_natCast, Int.toNat_natCast]
          refine zH_some ⟨?_, r13, Frc_tr f12 f13⟩
          rw [zinN (by omega), es]; rfl
        · rintro x C12 ⟨rfl, r12, f12⟩
          unfold c_N_digest_L210
          dsimp only
          rw [if_pos (by omega)]
          exact zH_some ⟨rfl, r12, f12⟩
      obtain ⟨rfl, r12, f12⟩ := h12
      have hn := nx_lt i
      have hne := nx_ne hi
      refine zH_bd2 (hft i 0 C12 hi (Or.inl rfl) r12) (fun v C13 h13 => ?_)
      obtain ⟨rfl, r13, f13⟩ := h13
      refine zH_bd2 (hft i 1 C13 hi (Or.inr rfl) r13) (fun v C14 h14 => ?_)
      obtain ⟨rfl, r14, f14⟩ := h14
      refine zH_bd2 (hfe i C14 hi r14) (fun v C15 h15 => ?_)
      obtain ⟨rfl, r15, f15⟩ := h15
      refine zH_bd2 (c_meeting hA r15) (fun v C16 h16 => ?_)
      obtain ⟨rfl, r16, f16⟩ := h16
      refine zH_bd2 (c_meeting hA r16) (fun v C17 h17 => ?_)
      obtain ⟨rfl, r17, f17⟩ := h17
      refine zH_bd2 (c_lent hA r17) (fun v C18 h18 => ?_)
      obtain ⟨rfl, r18, f18⟩ := h18
      have m0 : s_meeting A (i : Int) (nx i : Int) 0 = (mtN (aSn A i) (aSn A (nx i)) 8).1 := by
        unfold s_meeting
        rw [if_pos ⟨⟨⟨by omega, by omega⟩, ⟨by omega, by omega⟩, by omega⟩, by omega, by omega⟩, if_pos rfl, Int.toNat_natCast, Int.toNat_natCast]
      have m1 : s_meeting A (i : Int) (nx i : Int) 1 = (mtN (aSn A i) (aSn A (nx i)) 8).2 := by
        unfold s_meeting
        rw [if_pos ⟨⟨⟨by omega, by omega⟩, ⟨by omega, by omega⟩, by omega⟩, by omega, by omega⟩, if_neg (by decide), Int.toNat_natCast, Int.toNat_natCast]
      have ml : s_lent A (i : Int) (nx i : Int) = rc (sn (aW A) (kA (aK A (nx i)) (kG (aK A i))) 0) := by
        unfold s_lent
        rw [if_pos ⟨⟨by omega, by omega⟩, ⟨by omega, by omega⟩, by omega⟩, Int.toNat_natCast, Int.toNat_natCast]
      refine zH_some ⟨?_, r18, Frc_tr f12 (Frc_tr f13 (Frc_tr f14 (Frc_tr f15 (Frc_tr f16 (Frc_tr f17 f18)))))⟩
      rw [m0, m1, ml, zinN (by omega), ← hg]
      rfl
    · rintro x C4 ⟨rfl, r4, f4⟩
      unfold c_N_digest_L94
      dsimp only
      rw [if_pos (by omega)]
      exact zH_some ⟨rfl, r4, f4⟩
  obtain ⟨rfl, r4, f4⟩ := h4
  refine zH_bd2 (hfc C4 r4) (fun v C5 h5 => ?_)
  obtain ⟨rfl, r5, f5⟩ := h5
  refine zH_some ⟨?_, r5, Frc_tr f4 f5⟩
  unfold dg
  rw [hh]
  rfl
end ZDIGESTC

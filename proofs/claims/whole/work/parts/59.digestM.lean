/-! The model's count and digest -/
section ZDIGESTM
variable {A : ZA} {C : ZC} {ft : Nat → Int → Int} {fe : Nat → Int} {fc : Int}
theorem m_count (hA : aOK A) (h : RM A C) {x : Int} : zH (d_count x C) (QM C (s_count A x) A) := by
  have typed : ∀ k : Nat, k < 5 → x = ((k + 1 : Nat) : Int) → zH (zg (0 ≤ zsub x 1 ∧ zsub x 1 < 5) (some (C 73 (zsub x 1).toNat, C))) (QM C (s_count A x) A) := by
    intro k hk e
    have e1 : zsub x 1 = (k : Int) := by rw [zsub_e (by omega) (by omega)]; omega
    rw [zg_t (by rw [e1]; omega), e1, Int.toNat_natCast, (h.1 k hk).1]
    have e2 : s_count A x = (aL A k : Int) := by
      unfold s_count
      rw [if_neg (by omega), if_pos (by omega)]
      congr 2
      omega
    rw [e2]
    exact zH_some (QM_same h)
  unfold d_count
  by_cases h0 : x = 0
  · rw [if_pos h0]
    refine zH_bd2 (m_sumOf hA h) (fun v C1 h1 => zH_some ?_)
    obtain ⟨rfl, h2⟩ := h1
    unfold s_count
    rw [if_pos h0, if_pos h0]
    exact QM_sc h2 h
  · rw [if_neg h0]
    by_cases h1 : x = 1
    · rw [if_pos h1]; exact typed 0 (by decide) h1
    · rw [if_neg h1]
      by_cases h2 : x = 2
      · rw [if_pos h2]; exact typed 1 (by decide) h2
      · rw [if_neg h2]
        by_cases h3 : x = 3
        · rw [if_pos h3]; exact typed 2 (by decide) h3
        · rw [if_neg h3]
          by_cases h4 : x = 4
          · rw [if_pos h4]; exact typed 3 (by decide) h4
          · rw [if_neg h4]
            by_cases h5 : x = 5
            · rw [if_pos h5]; exact typed 4 (by decide) h5
            · rw [if_neg h5]
              have hn : ¬ (1 ≤ x ∧ x ≤ 5) := by omega
              by_cases h6 : x = 6
              · rw [if_pos h6, h.2.2.1.1]
                unfold s_count
                rw [if_neg h0, if_neg hn, if_pos h6]
                exact zH_some (QM_same h)
              · rw [if_neg h6]
                by_cases h7 : x = 7
                · rw [if_pos h7]
                  refine zH_bd2 (m_sumOf hA h) (fun v C1 h8 => zH_some ?_)
                  obtain ⟨rfl, h9⟩ := h8
                  unfold s_count
                  rw [if_neg h0, if_neg h0, if_neg hn, if_neg h6, if_pos h7]
                  exact QM_sc h9 h
                · rw [if_neg h7]
                  by_cases h8 : x = 8
                  · rw [if_pos h8, h.2.2.2.2]
                    unfold s_count
                    rw [if_neg h0, if_neg hn, if_neg h6, if_neg h7, if_pos h8]
                    exact zH_some (QM_same h)
                  · rw [if_neg h8]
                    unfold s_count
                    rw [if_neg h0, if_neg hn, if_neg h6, if_neg h7, if_neg h8]
                    exact zH_some (QM_same h)
theorem m_lentOf (hA : aOK A) (h : RM A C) {i j : Nat} (hi : i < 4) (hj : j < 4) : zH (d_lentOf (i : Int) (j : Int) C) (fun v C' => v = rc (sn (aW A) (kA (aK A j) (kG (aK A i))) 0) ∧ Msc C C') := by
  unfold d_lentOf
  refine zH_bd2 (m_goneOf hA hi h) (fun v C1 h4 => ?_)
  obtain ⟨rfl, g1⟩ := h4
  refine zH_bd2 (m_walks hA (RM_sc g1 h).1 hj) (fun _ C2 h5 => ?_)
  obtain ⟨k1, k2, k3, k4⟩ := h5
  have e8 : C2 72 8 = kG (aK A j) := k2.1.2.1
  rw [e8]
  have hu : Msc C2 (zup2 C2 72 8 (zor (kG (aK A j)) (kG (aK A i)))) := Msc_u (Or.inl ⟨rfl, by decide, by decide⟩)
  refine zH_bd2 (m_reaches (s := kA (aK A j) (kG (aK A i))) (cut := 0) aW_OK ?_ (kOK_A (aK_OK hA hj) (aK_OK hA hi)) ⟨(zu_nj (by decide)).trans k2.1.1, zu_eq, (zu_nj (by decide)).trans k2.1.2.2.1, by rw [zu_nb (by decide)]; exact k2.1.2.2.2⟩) (fun _ C3 h6 => ?_)
  · unfold MWd
    rw [zu_nb (show (75 : Nat) ≠ 72 by decide), zu_nb (show (76 : Nat) ≠ 72 by decide), zu_nb (show (77 : Nat) ≠ 72 by decide), zu_nj (show (2 : Nat) ≠ 8 by decide)]
    exact k1
  · rw [m_reached h6.1, zbd_some]
    exact zH_some ⟨rfl, Msc_tr (Msc_tr g1 k3) (Msc_tr hu (M80_sc h6.2))⟩
theorem m_digest (hA : aOK A) (h : RM A C) (hft : ∀ (k : Nat) (x : Int) (C : ZC), k < 4 → (x = 0 ∨ x = 1) → RM A C → zH (d_threadOf (k : Int) x C) (fun v C' => v = ft k x ∧ Msc C C')) (hfe : ∀ (k : Nat) (C : ZC), k < 4 → RM A C → zH (d_errandsOf (k : Int) 21 (-1) C) (fun v C' => v = fe k ∧ Msc C C')) (hfc : ∀ C : ZC, RM A C → zH (d_cameInNow C) (fun v C' => v = fc ∧ Msc C C')) :
    zH (d_digest C) (QM C (dg A ft fe fc) A) := by
  have hW := (aW_OK (A := A)).1
  unfold d_digest
  have tr : ∀ {C1 C2 : ZC}, Msc C C1 ∧ RM A C1 → Msc C1 C2 → Msc C C2 ∧ RM A C2 := fun h1 h2 => ⟨Msc_tr h1.1 h2, (RM_sc h2 h1.2).1⟩
  refine zH_bd2 (P := fun y C' => y = dg1 A 8 ∧ RM A C' ∧ Frm C C') ?_ (fun y C1 h1 => ?_)
  · refine zH_for (fun i x C' => x = (dg1 A i, (i : Int)) ∧ RM A C' ∧ Frm C C') 8 0 (by decide) ⟨rfl, h, fun _ _ => rfl⟩ ?_ ?_
    · rintro i x C1 hi ⟨rfl, r1, f1⟩
      unfold d_digest_L6
      dsimp only
      rw [if_neg (by omega)]
      refine zH_bd2 (m_count hA r1) (fun v C2 h2 => ?_)
      obtain ⟨rfl, r2, f2⟩ := h2
      refine zH_some ⟨?_, r2, Frm_tr f1 f2⟩
      rw [zinN (by omega)]; rfl
    · rintro x C1 ⟨rfl, r1, f1⟩
      unfold d_digest_L6
      dsimp only
      rw [if_pos (by omega)]
      exact zH_some ⟨rfl, r1, f1⟩
  obtain ⟨rfl, r1, f1⟩ := h1
  refine zH_bd2 (m_wood hA r1) (fun v C2 h2 => ?_)
  obtain ⟨rfl, g2, s2, r2⟩ := h2
  have f2 : Frm C C2 := Frm_tr f1 (fun a ha => s2.1 a (by omega))
  refine zH_bd2 (P := fun y C' => y = dg2 A (hs (dg1 A 8) (pF (aT A 0) (aL A 0))) (wN (aW A)) ∧ C' = C2) ?_ (fun y C3 h3 => ?_)
  · refine zH_for (fun i x C' => x = (dg2 A (hs (dg1 A 8) (pF (aT A 0) (aL A 0))) i, (i : Int)) ∧ C' = C2) (wN (aW A)) 0 (Nat.zero_le _) ⟨rfl, rfl⟩ ?_ ?_
    · rintro i x C3 hi ⟨rfl, rfl⟩
      obtain ⟨w1, w2, w3⟩ := g2.2 i hi
      unfold d_digest_L45
      dsimp only
      rw [g2.1, if_neg (by omega), zg_t (by omega), zg_t (by omega), zg_t (by omega), Int.toNat_natCast, w1, w2, w3, zinN (by omega)]
      exact zH_some ⟨rfl, rfl⟩
    · rintro x C3 ⟨rfl, rfl⟩
      unfold d_digest_L45
      dsimp only
      rw [g2.1, if_pos (by omega)]
      exact zH_some ⟨rfl, rfl⟩
  obtain ⟨rfl, rfl⟩ := h3
  generalize hh : dg2 A (hs (dg1 A 8) (pF (aT A 0) (aL A 0))) (wN (aW A)) = h0 at *
  refine zH_bd2 (P := fun y C' => y = dg5 A ft fe h0 4 ∧ RM A C' ∧ Frm C C') ?_ (fun y C4 h4 => ?_)
  · refine zH_for (fun i x C' => x = (dg5 A ft fe h0 i, (i : Int)) ∧ RM A C' ∧ Frm C C') 4 0 (Nat.zero_le _) ⟨rfl, r2, f2⟩ ?_ ?_
    · rintro i x C4 hi ⟨rfl, r4, f4⟩
      have hn := nx_lt i
      have hne := nx_ne hi
      have en : zrem (zadd (i : Int) 1) 4 = (nx i : Int) := by
        rw [zinN (by omega), zrem4 (by omega)]
        unfold nx
        split <;> omega
      unfold d_digest_L103
      dsimp only
      rw [if_neg (by omega)]
      refine zH_bd2 (P := fun v C' => v = (aR A i).2.2.2 ∧ Msc C4 C') (zH_bd2 (m_walks hA r4 hi) fun _ C1 h1 => zH_some ⟨h1.2.1.2.2.2, h1.2.2.1⟩) (fun v C5 h5 => ?_)
      obtain ⟨rfl, s5⟩ := h5
      have t5 := And.intro s5 (RM_sc s5 r4).1
      refine zH_bd2 (P := fun v C' => v = (kP (aK A i) : Int) ∧ Msc C5 C') (zH_bd2 (m_walks hA t5.2 hi) fun _ C1 h1 => zH_some ⟨h1.2.1.1.1, h1.2.2.1⟩) (fun v C6 h6 => ?_)
      obtain ⟨rfl, s6⟩ := h6
      have t6 := And.intro (Msc_tr t5.1 s6) (RM_sc s6 t5.2).1
      refine zH_bd2 (m_openOf hA hi t6.2 (by decide)) (fun v C7 h7 => ?_)
      obtain ⟨rfl, s7⟩ := h7
      have t7 := And.intro (Msc_tr t6.1 s7) (RM_sc s7 t6.2).1
      refine zH_bd2 (m_goneOf hA hi t7.2) (fun v C8 h8 => ?_)
      obtain ⟨rfl, s8⟩ := h8
      have t8 := And.intro (Msc_tr t7.1 s8) (RM_sc s8 t7.2).1
      refine zH_bd2 (P := fun v C' => v = (aR A i).2.1 ∧ Msc C8 C') (zH_bd2 (m_walks hA t8.2 hi) fun _ C1 h1 => zH_some ⟨h1.2.1.2.1, h1.2.2.1⟩) (fun v C9 h9 => ?_)
      obtain ⟨rfl, s9⟩ := h9
      have t9 := And.intro (Msc_tr t8.1 s9) (RM_sc s9 t8.2).1
      refine zH_bd2 (m_stillOf hA hi t9.2) (fun v C10 h10 => ?_)
      obtain ⟨rfl, s10, -⟩ := h10
      have t10 := And.intro (Msc_tr t9.1 s10) (RM_sc s10 t9.2).1
      refine zH_bd2 (P := fun v C' => v = zand (aR A i).2.2.1 (zxor (rc (aSn A i)) (-1)) ∧ Msc C10 C') (zH_bd2 (m_stillOf hA hi t10.2) fun v C1 h1 => zH_some ⟨by rw [h1.1, h1.2.2.2.2.1], h1.2.1⟩) (fun v C11 h11 => ?_)
      obtain ⟨rfl, s11⟩ := h11
      have t11 := And.intro (Msc_tr t10.1 s11) (RM_sc s11 t10.2).1
      have eo : s_open A (i : Int) (-1) = ((kO (aK A i)).length : Int) := by
        unfold s_open
        rw [if_pos ⟨⟨by omega, by omega⟩, by omega⟩, if_pos rfl, Int.toNat_natCast]
      rw [eo]
      generalize hg : zladd (zlmul 31 (zladd (zlmul 31 (zladd (zlmul 31 (zladd (zlmul 31 (zladd (zlmul 31 (zladd (zlmul 31 (zladd (zlmul 31 (dg5 A ft fe h0 i)) (aR A i).2.2.2)) (kP (aK A i) : Int))) ((kO (aK A i)).length : Int))) (kG (aK A i)))) (aR A i).2.1)) (rc (aSn A i)))) (zand (aR A i).2.2.1 (zxor (rc (aSn A i)) (-1))) = g0
      refine zH_bd2 (P := fun y C' => y = dg3 A i g0 8 ∧ Msc C4 C' ∧ RM A C') ?_ (fun y C12 h12 => ?_)
      · refine zH_for (fun p x C' => x = (dg3 A i g0 p, (p : Int)) ∧ Msc C4 C' ∧ RM A C') 8 0 (by decide) ⟨rfl, t11⟩ ?_ ?_
        · rintro p x C12 hp ⟨rfl, t12⟩
          unfold d_digest_L203
          dsimp only
          rw [if_neg (by omega)]
          refine zH_bd2 (m_soonOf hA hi hp t12.2) (fun v C13 h13 => ?_)
          obtain ⟨rfl, s13, r13⟩ := h13
          refine zH_some ⟨?_, Msc_tr t12.1 s13, r13⟩
          rw [zinN (by omega)]; rfl
        · rintro x C12 ⟨rfl, t12⟩
          unfold d_digest_L203
          dsimp only
          rw [if_pos (by omega)]
          exact zH_some ⟨rfl, t12⟩
      obtain ⟨rfl, t12⟩ := h12
      refine zH_bd2 (hft i 0 C12 hi (Or.inl rfl) t12.2) (fun v C13 h13 => ?_)
      obtain ⟨rfl, s13⟩ := h13
      have t13 := And.intro (Msc_tr t12.1 s13) (RM_sc s13 t12.2).1
      refine zH_bd2 (hft i 1 C13 hi (Or.inr rfl) t13.2) (fun v C14 h14 => ?_)
      obtain ⟨rfl, s14⟩ := h14
      have t14 := And.intro (Msc_tr t13.1 s14) (RM_sc s14 t13.2).1
      refine zH_bd2 (hfe i C14 hi t14.2) (fun v C15 h15 => ?_)
      obtain ⟨rfl, s15⟩ := h15
      have t15 := And.intro (Msc_tr t14.1 s15) (RM_sc s15 t14.2).1
      rw [en]
      refine zH_bd2 (m_meetingOf hA hi hn t15.2) (fun v C16 h16 => ?_)
      obtain ⟨rfl, s16⟩ := h16
      have t16 := And.intro (Msc_tr t15.1 s16) (RM_sc s16 t15.2).1
      refine zH_bd2 (m_meetingOf hA hi hn t16.2) (fun v C17 h17 => ?_)
      obtain ⟨rfl, s17⟩ := h17
      have t17 := And.intro (Msc_tr t16.1 s17) (RM_sc s17 t16.2).1
      refine zH_bd2 (m_lentOf hA t17.2 hi hn) (fun v C18 h18 => ?_)
      obtain ⟨rfl, s18⟩ := h18
      have t18 := And.intro (Msc_tr t17.1 s18) (RM_sc s18 t17.2).1
      refine zH_some ⟨?_, t18.2, Frm_tr f4 (fun a ha => t18.1.1 a (by omega))⟩
      rw [zinN (by omega), ← hg, if_pos rfl, if_neg (show ¬ (1 : Int) = 0 by decide)]
      rfl
    · rintro x C4 ⟨rfl, r4, f4⟩
      unfold d_digest_L103
      dsimp only
      rw [if_pos (by omega)]
      exact zH_some ⟨rfl, r4, f4⟩
  obtain ⟨rfl, r4, f4⟩ := h4
  refine zH_bd2 (hfc C4 r4) (fun v C5 h5 => ?_)
  obtain ⟨rfl, s5⟩ := h5
  refine zH_some ⟨?_, (RM_sc s5 r4).1, Frm_tr f4 (fun a ha => s5.1 a (by omega))⟩
  unfold dg
  rw [hh]
  rfl
end ZDIGESTM

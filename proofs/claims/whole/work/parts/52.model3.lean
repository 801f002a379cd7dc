/-! The model: how soon (reaches), what it answers of walks -/
def MSn (r : ZRw) (C : ZC) : Prop := ∀ p, p < 8 → C 80 p = (r p : Int)
section ZMODEL3
variable {A : ZA} {C C' : ZC} {W : ZWd} {s : ZWk} {cut : Int}
/-- only the row of minutes is changed -/
def M80 (C C' : ZC) : Prop := ∀ a, a ≠ 80 → C' a = C a
theorem M80_sc (h : M80 C C') : Msc C C' := ⟨fun a ha => h a (by omega), by rw [h 72 (by decide)], by rw [h 72 (by decide)]⟩
theorem M80_wd (h : M80 C C') (hR : MWd W C) : MWd W C' := by
  unfold MWd
  rw [h 72 (by decide), h 75 (by decide), h 76 (by decide), h 77 (by decide)]
  exact hR
theorem M80_wk (h : M80 C C') (hR : MWk s C) : MWk s C' := by
  unfold MWk
  rw [h 72 (by decide), h 79 (by decide)]
  exact hR
theorem m_chain (hW : wOK W) : ∀ (os : List Nat) (p t : Nat) (r : ZRw) (C : ZC), MWd W C → RL (C 79) os → kC W p os → t + 9 * os.length ≤ 108 → bnd r 108 → MSn r C →
    zH (zloop (d_reaches_L44 cut) ((p : Int), (t : Int), (os.length : Int) - 1) C) (fun _ C' => MSn (snC W cut p t os r) C' ∧ M80 C C')
  | [], p, t, r, C, hR, h1, hk, ht, hb, hr => by
    rw [zloop_eq]
    have e : d_reaches_L44 cut ((p : Int), (t : Int), (([] : List Nat).length : Int) - 1) C = some (.inr (), C) := by
      unfold d_reaches_L44
      exact if_pos (show ((0 : Nat) : Int) - 1 < 0 by omega)
    rw [e]
    exact zH_some ⟨hr, fun _ _ => rfl⟩
  | w :: os, p, t, r, C, hR, h1, hk, ht, hb, hr => by
    have hW1 := hW.1
    have hi := hk.1
    have hw := (wI_iff.mp hi).1
    have hm := hW.2 w hw
    have hq := wO_lt hW (p := p) hw
    simp only [List.length_cons] at ht
    have e1 : (((w :: os).length : Nat) : Int) - 1 = (os.length : Int) := by simp only [List.length_cons]; omega
    have h1a : C 79 os.length = (w : Int) := h1.1
    have e12 : C 77 w = (wM W w : Int) := (hR.2 w hw).2.2
    have hbq := hb (wO W w p)
    have hnq := hr (wO W w p) hq
    have g1 : 0 ≤ (os.length : Int) ∧ (os.length : Int) < 64 := by omega
    have g2 : 0 ≤ (w : Int) ∧ (w : Int) < 13 := by omega
    have g3 : 0 ≤ ((wO W w p : Nat) : Int) ∧ ((wO W w p : Nat) : Int) < 8 := by omega
    rw [e1]
    by_cases hcu : zbit cut w = true
    · have e : d_reaches_L44 cut ((p : Int), (t : Int), (os.length : Int)) C = some (.inr (), C) := by
        unfold d_reaches_L44
        dsimp only
        rw [if_neg (by omega), zg_t g1, Int.toNat_natCast, h1a, m_isIn (by omega), zbd_some, if_pos hcu, if_pos (by decide)]
      rw [zloop_eq, e]
      have e2 : snC W cut p t (w :: os) r = r := by unfold snC; rw [if_pos hcu]
      rw [e2]
      exact zH_some ⟨hr, fun _ _ => rfl⟩
    · have e2 : snC W cut p t (w :: os) r = snC W cut (wO W w p) (t + wM W w) os (zup r (wO W w p) (if t + wM W w < r (wO W w p) then t + wM W w else r (wO W w p))) := by
        conv => lhs; unfold snC
        rw [if_neg hcu]
      have ht2 : zadd (t : Int) (wM W w : Int) = ((t + wM W w : Nat) : Int) := by rw [zadd_e (by omega) (by omega)]; omega
      have e : d_reaches_L44 cut ((p : Int), (t : Int), (os.length : Int)) C = some (.inl (((wO W w p : Nat) : Int), ((t + wM W w : Nat) : Int), (os.length : Int) - 1), zup2 C 80 (wO W w p) ((if t + wM W w < r (wO W w p) then t + wM W w else r (wO W w p) : Nat) : Int)) := by
        unfold d_reaches_L44
        dsimp only
        rw [if_neg (by omega), zg_t g1, Int.toNat_natCast, h1a, m_isIn (by omega), zbd_some, if_neg hcu, if_neg (by decide), zg_t g1, h1a, m_beyond hW hR hw, zbd_some]
        simp only [h1a, Int.toNat_natCast, e12, hnq, ht2, zg_t g1, zg_t g2, zg_t g3]
        rw [zdec1 (by omega) (by omega)]
        by_cases q : t + wM W w < r (wO W w p)
        · rw [if_neg (by omega), if_pos q]
        · rw [if_pos (by omega), if_neg q]
      rw [zloop_eq, e]
      dsimp only
      rw [e2]
      refine zH_mono (m_chain hW os (wO W w p) (t + wM W w) _ (zup2 C 80 (wO W w p) _) ?_ ?_ hk.2 (by omega) ?_ ?_) (fun _ C' h => ⟨h.1, fun a ha => (h.2 a ha).trans (zu_nb ha)⟩)
      · exact M80_wd (fun a ha => zu_nb ha) hR
      · rw [zu_nb (by omega)]; exact h1.2
      · refine bnd_up hb ?_
        split <;> omega
      · intro q hq
        by_cases e3 : q = wO W w p
        · subst e3
          rw [zu_eq, zp_eq]
        · rw [zu_nj e3, zp_ne e3]
          exact hr q hq
theorem m_pass (hW : wOK W) (hR : MWd W C) {g : Int} (hg : C 72 8 = g) {r : ZRw} {B : Nat} (hB : B < 100000) (hb : bnd r B) (hr : MSn r C) {j : Int} :
    zH (zloop (d_reaches_L136 cut j) 0 C) (fun _ C' => MSn (snP W g cut (wN W) r) C' ∧ M80 C C') := by
  have hW1 := hW.1
  refine zH_for (fun i x C' => x = (i : Int) ∧ MSn (snP W g cut i r) C' ∧ M80 C C') (wN W) 0 (Nat.zero_le _) ⟨rfl, hr, fun _ _ => rfl⟩ ?_ ?_
  · rintro i x C1 hi ⟨rfl, h1, h2⟩
    obtain ⟨w0, wr⟩ := M80_wd h2 hR
    obtain ⟨w1, w2, w3⟩ := wr i hi
    have hm := hW.2 i hi
    have e8 : C1 72 8 = g := by rw [h2 72 (by decide)]; exact hg
    unfold d_reaches_L136
    rw [w0, if_neg (by omega), e8, m_isIn (by omega), zbd_some]
    have done : snW W g cut (snP W g cut i r) i = snP W g cut i r → zadd (i : Int) 1 = ((i + 1 : Nat) : Int) ∧ MSn (snP W g cut (i + 1) r) C1 ∧ M80 C C1 := by
      intro e
      refine ⟨zinN (by omega), ?_, h2⟩
      show MSn (snW W g cut (snP W g cut i r) i) C1
      rw [e]; exact h1
    by_cases hgb : zbit g i = true
    · rw [if_pos hgb, if_pos (by decide)]
      exact zH_some (done (by unfold snW; rw [if_pos (Or.inl hgb)]))
    · rw [if_neg hgb, if_neg (by decide), m_isIn (by omega), zbd_some]
      by_cases hcb : zbit cut i = true
      · rw [if_pos hcb, if_pos (by decide)]
        exact zH_some (done (by unfold snW; rw [if_pos (Or.inr hcb)]))
      · rw [if_neg hcb, if_neg (by decide)]
        have hbi := bnd_P (g := g) (cut := cut) hW hB hb i (by omega)
        have ha := hbi (wA W i)
        have hbb := hbi (wB W i)
        have na := h1 (wA W i) (by omega)
        have nb := h1 (wB W i) (by omega)
        have hne : ¬ wB W i = wA W i := fun q => hm.2.2.1 q.symm
        have g13 : 0 ≤ (i : Int) ∧ (i : Int) < 13 := by omega
        have ga : 0 ≤ (wA W i : Int) ∧ (wA W i : Int) < 8 := by omega
        have gb : 0 ≤ (wB W i : Int) ∧ (wB W i : Int) < 8 := by omega
        have za : zadd (snP W g cut i r (wA W i) : Int) (wM W i : Int) = ((snP W g cut i r (wA W i) + wM W i : Nat) : Int) := by rw [zadd_e (by omega) (by omega)]; omega
        have zb : zadd (snP W g cut i r (wB W i) : Int) (wM W i : Int) = ((snP W g cut i r (wB W i) + wM W i : Nat) : Int) := by rw [zadd_e (by omega) (by omega)]; omega
        simp only [Int.toNat_natCast, w1, w2, w3, na, nb, za, zb, zg_t g13, zg_t ga, zg_t gb]
        have e1 : (if (snP W g cut i r (wB W i) : Int) ≤ ((snP W g cut i r (wA W i) + wM W i : Nat) : Int) then some ((((snP W g cut i r (wB W i) + wM W i : Nat) : Int), (snP W g cut i r (wB W i) : Int), (wB W i : Int)), C1) else some ((((snP W g cut i r (wB W i) + wM W i : Nat) : Int), ((snP W g cut i r (wA W i) + wM W i : Nat) : Int), (wB W i : Int)), C1)) = some ((((snP W g cut i r (wB W i) + wM W i : Nat) : Int), ((if snP W g cut i r (wA W i) + wM W i < snP W g cut i r (wB W i) then snP W g cut i r (wA W i) + wM W i else snP W g cut i r (wB W i) : Nat) : Int), (wB W i : Int)), C1) := by
          by_cases q : snP W g cut i r (wA W i) + wM W i < snP W g cut i r (wB W i)
          · rw [if_neg (by omega), if_pos q]
          · rw [if_pos (by omega), if_neg q]
        rw [e1, zbd_some]
        dsimp only
        simp only [zg_t g13, zg_t gb, Int.toNat_natCast, zu_ne (show (75 : Nat) ≠ 80 by decide), w1, zg_t ga, zu_nj (fun q => hne q.symm), na]
        have hP : snP W g cut (i + 1) r = zup (zup (snP W g cut i r) (wB W i) (if snP W g cut i r (wA W i) + wM W i < snP W g cut i r (wB W i) then snP W g cut i r (wA W i) + wM W i else snP W g cut i r (wB W i))) (wA W i) (if snP W g cut i r (wB W i) + wM W i < snP W g cut i r (wA W i) then snP W g cut i r (wB W i) + wM W i else snP W g cut i r (wA W i)) := snW_e (Bool.eq_false_iff.mpr hgb) (Bool.eq_false_iff.mpr hcb)
        have fin : ∀ u : Nat, u = (if snP W g cut i r (wB W i) + wM W i < snP W g cut i r (wA W i) then snP W g cut i r (wB W i) + wM W i else snP W g cut i r (wA W i)) → MSn (snP W g cut (i + 1) r) (zup2 (zup2 C1 80 (wB W i) ((if snP W g cut i r (wA W i) + wM W i < snP W g cut i r (wB W i) then snP W g cut i r (wA W i) + wM W i else snP W g cut i r (wB W i) : Nat) : Int)) 80 (wA W i) (u : Int)) := by
          intro u hu p hp
          rw [hP, ← hu]
          by_cases ea : p = wA W i
          · subst ea; rw [zu_eq, zp_eq]
          · rw [zu_nj ea, zp_ne ea]
            by_cases eb : p = wB W i
            · subst eb; rw [zu_eq, zp_eq]
            · rw [zu_nj eb, zp_ne eb]; exact h1 p hp
        have hfr : ∀ u v : Int, M80 C (zup2 (zup2 C1 80 (wB W i) u) 80 (wA W i) v) := fun u v a h => by rw [zu_nb h, zu_nb h]; exact h2 a h
        by_cases q : snP W g cut i r (wB W i) + wM W i < snP W g cut i r (wA W i)
        · rw [if_neg (by omega)]
          exact zH_some ⟨zinN (by omega), fin _ (by rw [if_pos q]), hfr _ _⟩
        · rw [if_pos (by omega)]
          exact zH_some ⟨zinN (by omega), fin _ (by rw [if_neg q]), hfr _ _⟩
  · rintro x C1 ⟨rfl, h1, h2⟩
    have w0 := (M80_wd h2 hR).1
    unfold d_reaches_L136
    rw [w0, if_pos (by omega)]
    exact zH_some ⟨h1, h2⟩
theorem m_reaches (hW : wOK W) (hR : MWd W C) (hk : kOK W s) (hS : MWk s C) : zH (d_reaches cut C) (fun _ C' => MSn (sn W s cut) C' ∧ M80 C C') := by
  obtain ⟨s1, s2, s3, s4⟩ := hS
  have hW1 := hW.1
  have hl := kOK_len hk
  have hp := hk.1
  have hsum := kOK_sum hW hk
  unfold d_reaches
  refine zH_bd2 (P := fun _ C' => (∀ p, p < 8 → C' 80 p = 1000000) ∧ M80 C C') ?_ (fun _ C1 h1 => ?_)
  · refine zH_for (fun i x C' => x = (i : Int) ∧ (∀ p, p < i → C' 80 p = 1000000) ∧ M80 C C') 8 0 (Nat.zero_le _) ⟨rfl, fun p hp => absurd hp (Nat.not_lt_zero _), fun _ _ => rfl⟩ ?_ ?_
    · rintro i x C1 hi ⟨rfl, h1, h2⟩
      unfold d_reaches_L2
      rw [if_neg (by omega), zg_t (by omega), Int.toNat_natCast]
      refine zH_some ⟨zinN (by omega), fun p hp => ?_, fun a ha => (zu_nb ha).trans (h2 a ha)⟩
      by_cases e : p = i
      · subst e; exact zu_eq
      · rw [zu_nj e]; exact h1 p (by omega)
    · rintro x C1 ⟨rfl, h1, h2⟩
      unfold d_reaches_L2
      rw [if_pos (by omega)]
      exact zH_some ⟨h1, h2⟩
  · obtain ⟨f1, f2⟩ := h1
    have a7 : C1 72 7 = (kP s : Int) := by rw [f2 72 (by decide)]; exact s1
    have a9 : zup2 C1 80 (kP s) 0 72 9 = ((kO s).length : Int) := by rw [zu_ne (by decide), f2 72 (by decide)]; exact s3
    rw [a7, zg_t (by omega), Int.toNat_natCast, a9, zsub_e (by omega) (by omega)]
    have hb0 := bnd_C (cut := cut) hW (kO s) (kP s) 0 (sn0 (kP s)) hk.2.1 hsum (bnd_0 _)
    have k0 : M80 C (zup2 C1 80 (kP s) 0) := fun a ha => (zu_nb ha).trans (f2 a ha)
    refine zH_bd2 (m_chain hW (kO s) (kP s) 0 (sn0 (kP s)) (zup2 C1 80 (kP s) 0) (M80_wd k0 hR) ?_ hk.2.1 hsum (bnd_0 _) ?_) (fun _ C2 h2 => ?_)
    · rw [k0 79 (by decide)]; exact s4
    · intro q hq
      by_cases e : q = kP s
      · subst e
        rw [zu_eq]
        unfold sn0
        rw [zp_eq]; rfl
      · rw [zu_nj e, f1 q hq]
        unfold sn0
        rw [zp_ne e]; rfl
    · obtain ⟨g1, g2⟩ := h2
      have g3 : M80 C C2 := fun a ha => (g2 a ha).trans (k0 a ha)
      refine zH_bd2 (P := fun _ C' => MSn (sn W s cut) C' ∧ M80 C C') ?_ (fun _ C3 h3 => zH_some h3)
      refine zH_for (fun i x C' => x = (i : Int) ∧ MSn (snI W (kG s) cut i (snC W cut (kP s) 0 (kO s) (sn0 (kP s)))) C' ∧ M80 C C') 8 0 (Nat.zero_le _) ⟨rfl, g1, g3⟩ ?_ ?_
      · rintro i x C3 hi ⟨rfl, h1, h2⟩
        unfold d_reaches_L126
        rw [if_neg (by omega)]
        refine zH_bd2 (m_pass hW (M80_wd h2 hR) (g := kG s) (by rw [h2 72 (by decide)]; exact s2) (by omega) (bnd_I hW (by omega) hb0 i (by omega)) h1) (fun _ C4 h4 => ?_)
        exact zH_some ⟨zinN (by omega), h4.1, fun a ha => (h4.2 a ha).trans (h2 a ha)⟩
      · rintro x C3 ⟨rfl, h1, h2⟩
        unfold d_reaches_L126
        rw [if_pos (by omega)]
        exact zH_some ⟨h1, h2⟩
theorem m_reached {r : ZRw} (hr : MSn r C) : d_reached C = some (rc r, C) := by
  have key : zH (zloop d_reached_L4 (0, 0) C) (fun y C' => y = rc r ∧ C' = C) := by
    refine zH_for (fun i x C' => x = (rcN r i, (i : Int)) ∧ C' = C) 8 0 (Nat.zero_le _) ⟨rfl, rfl⟩ ?_ ?_
    · rintro i x C' hi ⟨rfl, rfl⟩
      unfold d_reached_L4
      dsimp only
      rw [if_neg (by omega), zg_t (by omega), Int.toNat_natCast, hr i hi]
      have e : rcN r (i + 1) = zor (rcN r i) (if r i < 1000000 then zshl 1 (i : Int) else 0) := rfl
      by_cases q : r i < 1000000
      · rw [if_neg (by omega), zinN (by omega)]
        rw [if_pos q] at e
        rw [e]
        exact zH_some ⟨rfl, rfl⟩
      · rw [if_pos (by omega), zinN (by omega)]
        rw [if_neg q] at e
        rw [e]
        exact zH_some ⟨rfl, rfl⟩
    · rintro x C' ⟨rfl, rfl⟩
      unfold d_reached_L4
      dsimp only
      rw [if_pos (by omega)]
      exact zH_some ⟨rfl, rfl⟩
  obtain ⟨y, C', e, rfl, rfl⟩ := key
  unfold d_reached
  rw [e, zbd_some]
end ZMODEL3

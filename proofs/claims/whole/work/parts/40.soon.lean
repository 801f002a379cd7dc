/-! How soon: the class's look() is the picture's sn -/
theorem zinN {i : Nat} (h : i < 1000000) : zadd (i : Int) 1 = ((i + 1 : Nat) : Int) := by rw [zadd_e (by omega) (by omega)]; omega
theorem h_fill {C : ZC} {r n : Nat} {v : Int} (hn : n < 1000000) : zH (c_Arrays_fill r (n : Int) v C) (fun _ C' => (∀ a, a ≠ r → C' a = C a) ∧ ∀ j, C' r j = if j < n then v else C r j) := by
  unfold c_Arrays_fill
  refine zH_bd2 (P := fun _ C' => (∀ a, a ≠ r → C' a = C a) ∧ ∀ j, C' r j = if j < n then v else C r j) ?_ (fun a C' h => zH_some h)
  refine zH_for (fun i x C' => x = (i : Int) ∧ (∀ a, a ≠ r → C' a = C a) ∧ ∀ j, C' r j = if j < i then v else C r j) n 0 (Nat.zero_le _) ⟨rfl, fun _ _ => rfl, fun j => (if_neg (Nat.not_lt_zero _)).symm⟩ ?_ ?_
  · rintro i x C1 hi ⟨rfl, h1, h2⟩
    unfold c_Arrays_fill_L5
    rw [if_neg (by omega), zg_t (by omega)]
    refine zH_some ⟨zinN (by omega), fun a ha => (zu_nb ha).trans (h1 a ha), fun j => ?_⟩
    rw [Int.toNat_natCast]
    by_cases e : j = i
    · subst e; rw [zu_eq, if_pos (by omega)]
    · rw [zu_nj e, h2 j]
      by_cases e2 : j < i
      · rw [if_pos e2, if_pos (by omega)]
      · rw [if_neg e2, if_neg (by omega)]
  · rintro x C1 ⟨rfl, h1, h2⟩
    unfold c_Arrays_fill_L5
    rw [if_pos (by omega)]
    exact zH_some ⟨h1, h2⟩
/-- the class's number for one of the picture -/
def nr (v : Nat) : Int := if v < 1000000 then (v : Int) else 1048576
def bnd (r : ZRw) (B : Nat) : Prop := ∀ p, r p = 1000000 ∨ r p ≤ B
def RSn (r : ZRw) (c : Nat) (C : ZC) : Prop := ∀ p, p < 8 → C (c + 3) p = nr (r p)
theorem nr_min {a v : Nat} (ha : a < 1000000) (hv : v ≤ 1000000) : (if (a : Int) < nr v then (a : Int) else nr v) = nr (if a < v then a else v) := by
  unfold nr
  by_cases h : v < 1000000
  · rw [if_pos h]
    by_cases h2 : a < v
    · rw [if_pos (by omega), if_pos h2, if_pos ha]
    · rw [if_neg (by omega), if_neg h2, if_pos h]
  · have h2 : a < v := by omega
    rw [if_neg h, if_pos (by omega), if_pos h2, if_pos ha]
section ZSOON
variable {W : ZWd} {s : ZWk} {C : ZC} {c : Nat} {g cut : Int}
theorem bnd_up {r : ZRw} {B q v : Nat} (h : bnd r B) (hv : v = 1000000 ∨ v ≤ B) : bnd (zup r q v) B := by
  intro p
  unfold zup
  split
  · exact hv
  · exact h p
theorem bnd_le {r : ZRw} {B B' : Nat} (h : bnd r B) (hl : B ≤ B') : bnd r B' := fun p => (h p).imp id fun q => Nat.le_trans q hl
theorem bnd_W (hW : wOK W) {r : ZRw} {B w : Nat} (hw : w < wN W) (hB : B < 900000) (h : bnd r B) : bnd (snW W g cut r w) (B + 9) := by
  have hm := hW.2 w hw
  have h' := bnd_le h (Nat.le_add_right B 9)
  unfold snW
  split
  · exact h'
  · refine bnd_up (bnd_up h' ?_) ?_
    · have h1 := h (wA W w)
      have h2 := h (wB W w)
      split <;> omega
    · have h1 := h (wA W w)
      have h2 := h (wB W w)
      split <;> omega
theorem bnd_P (hW : wOK W) {r : ZRw} {B : Nat} (hB : B < 100000) (h : bnd r B) : ∀ k, k ≤ wN W → bnd (snP W g cut k r) (B + 9 * k)
  | 0, _ => h
  | k + 1, hk => by
    have hb := hW.1
    exact bnd_W hW (by omega) (show B + 9 * k < 900000 by omega) (bnd_P hW hB h k (by omega))
theorem bnd_I (hW : wOK W) {r : ZRw} {B : Nat} (hB : B < 10000) (h : bnd r B) : ∀ k, k ≤ 8 → bnd (snI W g cut k r) (B + 108 * k)
  | 0, _ => h
  | k + 1, hk => by
    have hb := hW.1
    have h1 := bnd_P (g := g) (cut := cut) hW (by omega) (bnd_I hW hB h k (by omega)) (wN W) (Nat.le_refl _)
    exact bnd_le h1 (by omega)
theorem snI_stop {r : ZRw} {k : Nat} (h : snP W g cut (wN W) (snI W g cut k r) = snI W g cut k r) : ∀ j, snI W g cut (k + j) r = snI W g cut k r
  | 0 => rfl
  | j + 1 => by
    show snP W g cut (wN W) (snI W g cut (k + j) r) = _
    rw [snI_stop h j, h]
/-- one way of a pass, in the class's form -/
theorem snW_e {r : ZRw} {w : Nat} (hg : zbit g w = false) (hc : zbit cut w = false) : snW W g cut r w = zup (zup r (wB W w) (if r (wA W w) + wM W w < r (wB W w) then r (wA W w) + wM W w else r (wB W w))) (wA W w) (if r (wB W w) + wM W w < r (wA W w) then r (wB W w) + wM W w else r (wA W w)) := by
  unfold snW
  rw [hg, hc, if_neg (by simp)]
theorem nr_least {a b m : Nat} (ha : a = 1000000 ∨ a ≤ 900000) (hb : b = 1000000 ∨ b ≤ 900000) (hm : m ≤ 9) (h1 : 1 ≤ m) :
    (if (if nr b < nr a then nr b else nr a) + (m : Int) < nr a then (if nr b < nr a then nr b else nr a) + (m : Int) else nr a) = nr (if b + m < a then b + m else a) := by
  unfold nr
  repeat' split
  all_goals omega
theorem zup_same {r : ZRw} {q v : Nat} (h : v = r q) : zup r q v = r := by
  funext p
  unfold zup
  split
  · next e => rw [e, h]
  · rfl
theorem h_goOn (hW : wOK W) (hR : RWd W C) (hc : 13 ≤ c) {r : ZRw} {B : Nat} (hB : B < 100000) (hb : bnd r B) (hr : RSn r c C) :
    zH (c_Walk_goOn c (zor g cut) C) (fun v C' => RSn (snP W g cut (wN W) r) c C' ∧ (∀ a, a ≠ c + 3 → C' a = C a) ∧ (v = 0 ∨ v = 1) ∧ (v = 0 → snP W g cut (wN W) r = r)) := by
  have hW1 := hW.1
  unfold c_Walk_goOn
  refine zH_bd2 (P := fun v C' => RSn (snP W g cut (wN W) r) c C' ∧ (∀ a, a ≠ c + 3 → C' a = C a) ∧ (v = 0 ∨ v = 1) ∧ (v = 0 → snP W g cut (wN W) r = r)) ?_ (fun v C' h => zH_g h.2.2.1 (zH_some h))
  refine zH_for (fun i x C' => x.2 = (i : Int) ∧ RSn (snP W g cut i r) c C' ∧ (∀ a, a ≠ c + 3 → C' a = C a) ∧ (x.1 = 0 ∨ x.1 = 1) ∧ (x.1 = 0 → snP W g cut i r = r)) (wN W) 0 (Nat.zero_le _) ⟨rfl, hr, fun _ _ => rfl, Or.inl rfl, fun _ => rfl⟩ ?_ ?_
  · rintro i ⟨x1, x2⟩ C1 hi ⟨rfl, h1, h2, h3, h4⟩
    dsimp only at h1 h2 h3 h4
    have e9 : C1 9 3 = (wN W : Int) := by rw [h2 9 (by omega)]; exact hR.1
    have hm := hW.2 i hi
    obtain ⟨w1, w2, w3⟩ := hR.2 i hi
    have e10 : C1 10 i = (wA W i : Int) := by rw [h2 10 (by omega)]; exact w1
    have e11 : C1 11 i = (wB W i : Int) := by rw [h2 11 (by omega)]; exact w2
    have e12 : C1 12 i = (wM W i : Int) := by rw [h2 12 (by omega)]; exact w3
    unfold c_Walk_goOn_L4
    dsimp only
    rw [e9, if_neg (by omega), e_has (by omega), zbd_some, zbit_or]
    show zH (if ¬ (if (zbit g i || zbit cut i) = true then (1 : Int) else 0) = 0 then _ else _) _
    by_cases hs : (zbit g i || zbit cut i) = true
    · rw [if_pos hs, if_pos (by decide)]
      have e : snP W g cut (i + 1) r = snP W g cut i r := by
        show snW W g cut _ i = _
        unfold snW
        rw [if_pos (by rcases Bool.or_eq_true_iff.mp hs with q | q <;> simp [q])]
      exact zH_some ⟨zinN (by omega), by rw [e]; exact h1, h2, h3, by rw [e]; exact h4⟩
    · have hs2 : (zbit g i || zbit cut i) = false := Bool.eq_false_iff.mpr hs
      have hg := (Bool.or_eq_false_iff.mp hs2).1
      have hcu := (Bool.or_eq_false_iff.mp hs2).2
      rw [if_neg hs, if_neg (by decide)]
      simp only [Int.toNat_natCast, e10, e11, e12]
      have hbi := bnd_P (g := g) (cut := cut) hW hB hb i (by omega)
      have ha := hbi (wA W i)
      have hbb := hbi (wB W i)
      have na := h1 (wA W i) (by omega)
      have nb := h1 (wB W i) (by omega)
      have g12 : 0 ≤ (i : Int) ∧ (i : Int) < 12 := by omega
      have ga : 0 ≤ (wA W i : Int) ∧ (wA W i : Int) < 8 := by omega
      have gb : 0 ≤ (wB W i : Int) ∧ (wB W i : Int) < 8 := by omega
      have hne : ¬ wB W i = wA W i := fun q => hm.2.2.1 q.symm
      have rb : nr (snP W g cut i r (wA W i)) ≤ 1048576 ∧ 0 ≤ nr (snP W g cut i r (wA W i)) := by unfold nr; split <;> omega
      have rb2 : nr (snP W g cut i r (wB W i)) ≤ 1048576 ∧ 0 ≤ nr (snP W g cut i r (wB W i)) := by unfold nr; split <;> omega
      have hadd : zadd (if nr (snP W g cut i r (wB W i)) < nr (snP W g cut i r (wA W i)) then nr (snP W g cut i r (wB W i)) else nr (snP W g cut i r (wA W i))) (wM W i : Int) = (if nr (snP W g cut i r (wB W i)) < nr (snP W g cut i r (wA W i)) then nr (snP W g cut i r (wB W i)) else nr (snP W g cut i r (wA W i))) + (wM W i : Int) := zadd_e (by split <;> omega) (by split <;> omega)
      simp only [zg_t g12, zg_t ga, zg_t gb, na, nb, hadd, zu_nj hne, zu_nj (fun q => hne q.symm)]
      have hA := nr_least (a := snP W g cut i r (wA W i)) (b := snP W g cut i r (wB W i)) (m := wM W i) (by omega) (by omega) (by omega) (by omega)
      have hB2 := nr_least (a := snP W g cut i r (wB W i)) (b := snP W g cut i r (wA W i)) (m := wM W i) (by omega) (by omega) (by omega) (by omega)
      have hsw : (if nr (snP W g cut i r (wA W i)) < nr (snP W g cut i r (wB W i)) then nr (snP W g cut i r (wA W i)) else nr (snP W g cut i r (wB W i))) = (if nr (snP W g cut i r (wB W i)) < nr (snP W g cut i r (wA W i)) then nr (snP W g cut i r (wB W i)) else nr (snP W g cut i r (wA W i))) := by
        split <;> split <;> omega
      rw [hsw] at hB2
      have hP : snP W g cut (i + 1) r = zup (zup (snP W g cut i r) (wB W i) (if snP W g cut i r (wA W i) + wM W i < snP W g cut i r (wB W i) then snP W g cut i r (wA W i) + wM W i else snP W g cut i r (wB W i))) (wA W i) (if snP W g cut i r (wB W i) + wM W i < snP W g cut i r (wA W i) then snP W g cut i r (wB W i) + wM W i else snP W g cut i r (wA W i)) := snW_e hg hcu
      have hrow : RSn (snP W g cut (i + 1) r) c (zup2 (zup2 C1 (c + 3) (wA W i) (if (if nr (snP W g cut i r (wB W i)) < nr (snP W g cut i r (wA W i)) then nr (snP W g cut i r (wB W i)) else nr (snP W g cut i r (wA W i))) + (wM W i : Int) < nr (snP W g cut i r (wA W i)) then (if nr (snP W g cut i r (wB W i)) < nr (snP W g cut i r (wA W i)) then nr (snP W g cut i r (wB W i)) else nr (snP W g cut i r (wA W i))) + (wM W i : Int) else nr (snP W g cut i r (wA W i)))) (c + 3) (wB W i) (if (if nr (snP W g cut i r (wB W i)) < nr (snP W g cut i r (wA W i)) then nr (snP W g cut i r (wB W i)) else nr (snP W g cut i r (wA W i))) + (wM W i : Int) < nr (snP W g cut i r (wB W i)) then (if nr (snP W g cut i r (wB W i)) < nr (snP W g cut i r (wA W i)) then nr (snP W g cut i r (wB W i)) else nr (snP W g cut i r (wA W i))) + (wM W i : Int) else nr (snP W g cut i r (wB W i)))) := by
        intro p hp
        rw [hA, hB2, hP]
        by_cases eb : p = wB W i
        · subst eb
          rw [zu_eq, zp_ne hne, zp_eq]
        · rw [zu_nj eb]
          by_cases ea : p = wA W i
          · subst ea
            rw [zu_eq, zp_eq]
          · rw [zu_nj ea, zp_ne ea, zp_ne eb]
            exact h1 p hp
      have hfr : ∀ (u v : Int) a, a ≠ c + 3 → zup2 (zup2 C1 (c + 3) (wA W i) u) (c + 3) (wB W i) v a = C a := fun u v a h => by rw [zu_nb h, zu_nb h]; exact h2 a h
      refine zH_if (fun _ => zH_some ⟨zinN (by omega), hrow, hfr _ _, Or.inr rfl, fun q => absurd (show (1 : Int) = 0 from q) (by decide)⟩) (fun q1 => zH_if (fun q2 => ?_) (fun _ => zH_some ⟨zinN (by omega), hrow, hfr _ _, Or.inr rfl, fun q => absurd (show (1 : Int) = 0 from q) (by decide)⟩))
      have e : snP W g cut (i + 1) r = snP W g cut i r := by
        rw [if_neg q1] at hA
        rw [if_neg (by omega)] at hB2
        have inj : ∀ u v : Nat, (u = 1000000 ∨ u ≤ 900000) → (v = 1000000 ∨ v ≤ 900000) → nr u = nr v → u = v := by
          intro u v hu hv h
          unfold nr at h
          split at h <;> split at h <;> omega
        have i1 := inj _ _ (by omega) (by split <;> omega) hA
        have i2 := inj _ _ (by omega) (by split <;> omega) hB2
        rw [hP, ← i1, ← i2, zup_same rfl, zup_same rfl]
      exact zH_some ⟨zinN (by omega), by rw [e]; exact h1, h2, h3, by rw [e]; exact h4⟩
  · rintro ⟨x1, x2⟩ C1 ⟨rfl, h1, h2, h3, h4⟩
    dsimp only at h1 h2 h3 h4
    have e9 : C1 9 3 = (wN W : Int) := by rw [h2 9 (by omega)]; exact hR.1
    unfold c_Walk_goOn_L4
    dsimp only
    rw [e9, if_pos (by omega)]
    exact zH_some ⟨h1, h2, h3, h4⟩
theorem nr_lt {v : Nat} (hv : v ≤ 1000000) : (1048576 ≤ nr v ↔ ¬ v < 1000000) ∧ 0 ≤ nr v ∧ nr v ≤ 1048576 ∧ (v < 1000000 → nr v = (v : Int)) := by
  unfold nr
  split <;> refine ⟨⟨fun _ => by omega, fun _ => by omega⟩, by omega, by omega, fun _ => by omega⟩
theorem bnd_C (hW : wOK W) : ∀ (os : List Nat) (p t : Nat) (r : ZRw), kC W p os → t + 9 * os.length ≤ 108 → bnd r 108 → bnd (snC W cut p t os r) 108
  | [], _, _, r, _, _, h => h
  | w :: os, p, t, r, hk, ht, h => by
    have hm := hW.2 w (wI_iff.mp hk.1).1
    simp only [List.length_cons] at ht
    unfold snC
    split
    · exact h
    · refine bnd_C hW os _ _ _ hk.2 (by omega) (bnd_up h ?_)
      have := h (wO W w p)
      split <;> omega
theorem bnd_0 (p : Nat) : bnd (sn0 p) 108 := by
  intro q
  unfold sn0 zup
  split
  · exact Or.inr (Nat.zero_le _)
  · exact Or.inl rfl
theorem kOK_sum (hW : wOK W) (hk : kOK W s) : 0 + 9 * (kO s).length ≤ 108 := by
  have := kOK_len hk
  have := hW.1
  omega
theorem bnd_sn (hW : wOK W) (hk : kOK W s) : bnd (sn W s cut) 972 := by
  have h1 := bnd_C (cut := cut) hW (kO s) (kP s) 0 (sn0 (kP s)) hk.2.1 (kOK_sum hW hk) (bnd_0 _)
  exact bnd_I (g := kG s) (cut := cut) hW (by omega) h1 8 (Nat.le_refl _)
theorem h_chain (hW : wOK W) (hc : 13 ≤ c) : ∀ (os : List Nat) (p t : Nat) (r : ZRw) (C : ZC), RWd W C → RL (C (c + 1)) os → RL (C (c + 2)) (bk W p os) → kC W p os → t + 9 * os.length ≤ 108 → bnd r 108 → RSn r c C →
    zH (zloop (c_Walk_look_L28 c cut) ((t : Int), (os.length : Int) - 1) C) (fun _ C' => RSn (snC W cut p t os r) c C' ∧ ∀ a, a ≠ c + 3 → C' a = C a)
  | [], p, t, r, C, hR, h1, h2, hk, ht, hb, hr => by
    rw [zloop_eq]
    have e : c_Walk_look_L28 c cut ((t : Int), (([] : List Nat).length : Int) - 1) C = some (.inr (), C) := by
      unfold c_Walk_look_L28
      exact if_pos (show ((0 : Nat) : Int) - 1 < 0 by omega)
    rw [e]
    exact zH_some ⟨hr, fun _ _ => rfl⟩
  | w :: os, p, t, r, C, hR, h1, h2, hk, ht, hb, hr => by
    have hW1 := hW.1
    have hi := hk.1
    have hw := (wI_iff.mp hi).1
    have hm := hW.2 w hw
    have hq := wO_lt hW (p := p) hw
    simp only [List.length_cons] at ht
    have e1 : (((w :: os).length : Nat) : Int) - 1 = (os.length : Int) := by simp only [List.length_cons]; omega
    have h1a : C (c + 1) os.length = (w : Int) := h1.1
    have h2a := h2.1
    rw [bk_len] at h2a
    have e12 : C 12 w = (wM W w : Int) := (hR.2 w hw).2.2
    have hbq := hb (wO W w p)
    have hnq := hr (wO W w p) hq
    have g1 : 0 ≤ (os.length : Int) ∧ (os.length : Int) < 12 := by omega
    have g2 : 0 ≤ (w : Int) ∧ (w : Int) < 12 := by omega
    have g3 : 0 ≤ ((wO W w p : Nat) : Int) ∧ ((wO W w p : Nat) : Int) < 8 := by omega
    rw [e1]
    by_cases hcu : zbit cut w = true
    · have e : c_Walk_look_L28 c cut ((t : Int), (os.length : Int)) C = some (.inr (), C) := by
        unfold c_Walk_look_L28
        dsimp only
        rw [if_neg (by omega), zg_t g1, Int.toNat_natCast, h1.1, e_has (by omega), zbd_some, if_pos hcu, if_pos (by decide)]
      rw [zloop_eq, e]
      have e2 : snC W cut p t (w :: os) r = r := by unfold snC; rw [if_pos hcu]
      rw [e2]
      exact zH_some ⟨hr, fun _ _ => rfl⟩
    · have hcf : zbit cut w = false := Bool.eq_false_iff.mpr hcu
      have e2 : snC W cut p t (w :: os) r = snC W cut (wO W w p) (t + wM W w) os (zup r (wO W w p) (if t + wM W w < r (wO W w p) then t + wM W w else r (wO W w p))) := by
        conv => lhs; unfold snC
        rw [if_neg hcu]
      have ht2 : zadd (t : Int) (wM W w : Int) = ((t + wM W w : Nat) : Int) := by rw [zadd_e (by omega) (by omega)]; omega
      have hmn := nr_min (a := t + wM W w) (v := r (wO W w p)) (by omega) (by omega)
      have e : c_Walk_look_L28 c cut ((t : Int), (os.length : Int)) C = some (.inl (((t + wM W w : Nat) : Int), (os.length : Int) - 1), zup2 C (c + 3) (wO W w p) (nr (if t + wM W w < r (wO W w p) then t + wM W w else r (wO W w p)))) := by
        unfold c_Walk_look_L28
        dsimp only
        rw [if_neg (by omega), zg_t g1, Int.toNat_natCast, h1.1, e_has (by omega), zbd_some, if_neg hcu, if_neg (by decide)]
        simp only [h1a, h2a, Int.toNat_natCast, e12, hnq, ht2, zg_t g1, zg_t g2, zg_t g3, hmn]
        rw [zdec1 (by omega) (by omega)]
      rw [zloop_eq, e]
      dsimp only
      rw [e2]
      refine zH_mono (h_chain hW hc os (wO W w p) (t + wM W w) _ (zup2 C (c + 3) (wO W w p) _) ?_ ?_ ?_ hk.2 (by omega) ?_ ?_) (fun _ C' h => ⟨h.1, fun a ha => (h.2 a ha).trans (zu_nb ha)⟩)
      · unfold RWd
        rw [zu_nb (by omega), zu_nb (by omega), zu_nb (by omega), zu_nb (by omega)]
        exact hR
      · rw [zu_nb (by omega)]; exact h1.2
      · rw [zu_nb (by omega)]; exact h2.2
      · refine bnd_up hb ?_
        split <;> omega
      · intro q hq
        by_cases e3 : q = wO W w p
        · subst e3
          rw [zu_eq, zp_eq]
        · rw [zu_nj e3, zp_ne e3]
          exact hr q hq
/-- how soon, and whither, from where a walk stands, some ways cut -/
theorem h_look (hW : wOK W) (hR : RWd W C) (hc : 13 ≤ c) (hk : kOK W s) (hS : RWk W s c C) :
    zH (c_Walk_look c cut C) (fun _ C' => RSn (sn W s cut) c C' ∧ C' c 11 = rc (sn W s cut) ∧ (∀ a, a ≠ c → a ≠ c + 3 → C' a = C a) ∧ ∀ j, j ≠ 11 → C' c j = C c j) := by
  obtain ⟨s1, s2, s3, s4, s5⟩ := hS
  have hW1 := hW.1
  have hl := kOK_len hk
  have hp := hk.1
  have hsum := kOK_sum hW hk
  unfold c_Walk_look
  refine zH_bd2 (h_fill (n := 8) (by decide)) (fun _ C1 hf => ?_)
  obtain ⟨f1, f2⟩ := hf
  have a1 : C1 c = C c := f1 c (by omega)
  rw [a1, s1, zg_t (by omega)]
  simp only [Int.toNat_natCast, zu_ne (show c ≠ c + 3 by omega), a1, s2]
  rw [zsub_e (by omega) (by omega)]
  refine zH_bd2 (h_chain hW hc (kO s) (kP s) 0 (sn0 (kP s)) (zup2 C1 (c + 3) (kP s) 0) ?_ ?_ ?_ hk.2.1 hsum (bnd_0 _) ?_) (fun _ C2 h2 => ?_)
  · unfold RWd
    rw [zu_nb (by omega), zu_nb (by omega), zu_nb (by omega), zu_nb (by omega), f1 _ (by omega), f1 _ (by omega), f1 _ (by omega), f1 _ (by omega)]
    exact hR
  · rw [zu_nb (by omega), f1 _ (by omega)]; exact s4
  · rw [zu_nb (by omega), f1 _ (by omega)]; exact s5
  · intro q hq
    by_cases e : q = kP s
    · subst e
      rw [zu_eq]
      unfold sn0
      rw [zp_eq]; rfl
    · rw [zu_nj e, f2, if_pos hq]
      unfold sn0
      rw [zp_ne e]; rfl
  obtain ⟨g1, g2⟩ := h2
  have g3 : ∀ a, a ≠ c + 3 → C2 a = C a := fun a ha => (g2 a ha).trans ((zu_nb ha).trans (f1 a ha))
  have hb0 := bnd_C (cut := cut) hW (kO s) (kP s) 0 (sn0 (kP s)) hk.2.1 hsum (bnd_0 _)
  have hRx : ∀ C', (∀ a, a ≠ c + 3 → C' a = C a) → RWd W C' := fun C' h => by
    unfold RWd
    rw [h _ (by omega), h _ (by omega), h _ (by omega), h _ (by omega)]
    exact hR
  refine zH_bd2 (P := fun _ C' => RSn (sn W s cut) c C' ∧ ∀ a, a ≠ c + 3 → C' a = C a) ?_ (fun _ C3 h3 => ?_)
  · refine zH_for (fun i x C' => x.2 = (i : Int) ∧ RSn (snI W (kG s) cut i (snC W cut (kP s) 0 (kO s) (sn0 (kP s)))) c C' ∧ (∀ a, a ≠ c + 3 → C' a = C a) ∧ (x.1 = 0 → snP W (kG s) cut (wN W) (snI W (kG s) cut i (snC W cut (kP s) 0 (kO s) (sn0 (kP s)))) = snI W (kG s) cut i (snC W cut (kP s) 0 (kO s) (sn0 (kP s))))) 8 0 (Nat.zero_le _) ⟨rfl, g1, g3, fun q => absurd (show (1 : Int) = 0 from q) (by decide)⟩ ?_ ?_
    · rintro i ⟨x1, x2⟩ C3 hi ⟨rfl, h1, h2, h3⟩
      dsimp only at h1 h2 h3
      unfold c_Walk_look_L99
      dsimp only
      rw [if_neg (by omega)]
      refine zH_if (fun q => ?_) (fun q => ?_)
      · have e := snI_stop (h3 q) (8 - i)
        have e8 : i + (8 - i) = 8 := by omega
        rw [e8] at e
        refine zH_some ⟨?_, h2⟩
        unfold sn
        rw [e]
        exact h1
      · have e7 : C3 c 7 = kG s := by rw [h2 c (by omega)]; exact s3
        rw [e7]
        refine zH_bd2 (h_goOn hW (hRx C3 h2) hc (by omega) (bnd_I hW (by omega) hb0 i (by omega)) h1) (fun v C4 h4 => ?_)
        obtain ⟨k1, k2, k3, k4⟩ := h4
        refine zH_some ⟨zinN (by omega), k1, fun a ha => (k2 a ha).trans (h2 a ha), fun q => ?_⟩
        have e := k4 q
        show snP W (kG s) cut (wN W) (snP W (kG s) cut (wN W) _) = snP W (kG s) cut (wN W) _
        rw [e, e]
    · rintro ⟨x1, x2⟩ C3 ⟨rfl, h1, h2, h3⟩
      dsimp only at h1 h2 h3
      unfold c_Walk_look_L99
      dsimp only
      rw [if_pos (by omega)]
      exact zH_some ⟨h1, h2⟩
  obtain ⟨k1, k2⟩ := h3
  have hbs := bnd_sn (cut := cut) hW hk
  refine zH_bd2 (P := fun _ C' => C' (c + 3) = C3 (c + 3) ∧ C' c 11 = rc (sn W s cut) ∧ (∀ a, a ≠ c → C' a = C3 a) ∧ ∀ j, j ≠ 11 → C' c j = C3 c j) ?_ (fun _ C5 h5 => ?_)
  · refine zH_for (fun i x C' => x = (i : Int) ∧ C' c 11 = rcN (sn W s cut) i ∧ (∀ a, a ≠ c → C' a = C3 a) ∧ ∀ j, j ≠ 11 → C' c j = C3 c j) 8 0 (Nat.zero_le _) ⟨rfl, zu_eq, fun a ha => zu_nb ha, fun j hj => zu_nj hj⟩ ?_ ?_
    · rintro i x C4 hi ⟨rfl, h1, h2, h3⟩
      unfold c_Walk_look_L135
      rw [if_neg (by omega), zg_t (by omega), Int.toNat_natCast, h2 (c + 3) (by omega), k1 i hi, h1]
      have hv := hbs i
      have hn := nr_lt (v := sn W s cut i) (by omega)
      refine zH_if (fun q => ?_) (fun q => ?_)
      · refine zH_some ⟨zinN (by omega), ?_, fun a ha => (zu_nb ha).trans (h2 a ha), fun j hj => (zu_nj hj).trans (h3 j hj)⟩
        rw [zu_eq]
        show _ = zor _ _
        rw [if_neg (hn.1.mp q)]
      · refine zH_some ⟨zinN (by omega), ?_, fun a ha => (zu_nb ha).trans (h2 a ha), fun j hj => (zu_nj hj).trans (h3 j hj)⟩
        rw [zu_eq]
        show _ = zor _ _
        rw [if_pos (Decidable.byContradiction fun q2 => q (hn.1.mpr q2))]
    · rintro x C4 ⟨rfl, h1, h2, h3⟩
      unfold c_Walk_look_L135
      rw [if_pos (by omega)]
      exact zH_some ⟨h2 _ (by omega), h1, h2, h3⟩
  obtain ⟨m1, m2, m3, m4⟩ := h5
  refine zH_some ⟨fun p hp => by rw [m1]; exact k1 p hp, m2, fun a h1 h2 => (m3 a h1).trans (k2 a h2), fun j hj => (m4 j hj).trans (congrFun (k2 c (by omega)) j)⟩
theorem e_soonTo (hW : wOK W) (hk : kOK W s) (h : RSn (sn W s cut) c C) {p : Nat} (hp : p < 8) : c_Walk_soonTo c (p : Int) C = some (snT (sn W s cut) p, C) := by
  have hv := bnd_sn (cut := cut) hW hk p
  have hn := nr_lt (v := sn W s cut p) (by omega)
  unfold c_Walk_soonTo snT
  rw [zg_t (by omega), Int.toNat_natCast, h p hp, zg_t (by omega)]
  by_cases q : sn W s cut p < 1000000
  · rw [if_neg (fun q2 => hn.1.mp q2 q), if_pos q, hn.2.2.2 q]
  · rw [if_pos (hn.1.mpr q), if_neg q]
end ZSOON

/-! thread() in the class -/
def bc1 (x : Int) : Int := zsub x (zand (zushr x 1) 1431655765)
def bc2 (x : Int) : Int := zadd (zand x 858993459) (zand (zushr x 2) 858993459)
def bc3 (x : Int) : Int := zand (zadd x (zushr x 4)) 252645135
def bc4 (x : Int) : Int := zadd x (zushr x 8)
def bc5 (x : Int) : Int := zand (zadd x (zushr x 16)) 63
theorem bc_all : ∀ i j : Fin 64, bc5 (bc4 (bc3 (bc2 (bc1 ((64 * i.val + j.val : Nat) : Int))))) = ((ones ((64 * i.val + j.val : Nat) : Int) : Nat) : Int) := by decide +kernel
theorem e_bitCount {x : Int} {C : ZC} (h0 : 0 ≤ x) (h1 : x < 4096) : c_Integer_bitCount x C = some (((ones x : Nat) : Int), C) := by
  obtain ⟨n, rfl⟩ : ∃ n : Nat, x = (n : Int) := ⟨x.toNat, by omega⟩
  have h := bc_all ⟨n / 64, by omega⟩ ⟨n % 64, Nat.mod_lt _ (by decide)⟩
  have e : 64 * (n / 64) + n % 64 = n := Nat.div_add_mod n 64
  dsimp only at h
  rw [e] at h
  rw [show c_Integer_bitCount (n : Int) C = some (bc5 (bc4 (bc3 (bc2 (bc1 (n : Int))))), C) from rfl, h]
theorem ones_le (x : Int) : ones x ≤ 12 := by
  have h : ∀ k, bs (fun _ => 1) (zbit x) k ≤ k := by
    intro k
    induction k with
    | zero => exact Nat.le_refl _
    | succ k ih => unfold bs; split <;> omega
  exact h 12
/-- the thread, if there is one that is as it must be -/
noncomputable def thv (W : ZWd) (s : ZWk) (h : Nat) : Int := by
  classical exact if q : ∃ v, isT W s h v then Classical.choose q else 0
theorem thv_e {W : ZWd} {s : ZWk} {h : Nat} {v : Int} (hv : isT W s h v) : thv W s h = v := by
  have q : ∃ v, isT W s h v := ⟨v, hv⟩
  unfold thv
  rw [dif_pos q]
  exact isT_one (Classical.choose_spec q) hv
noncomputable def s_thread (A : ZA) (k x : Int) : Int := if (0 ≤ k ∧ k < 4) ∧ 0 ≤ x ∧ x < 2 then (if thv (aW A) (aK A k.toNat) (aH A k.toNat) = -1 ∨ x = 1 then thv (aW A) (aK A k.toNat) (aH A k.toNat) else ((ones (thv (aW A) (aK A k.toNat) (aH A k.toNat)) : Nat) : Int)) else -2
section ZTHREADC
variable {W : ZWd} {s : ZWk} {C : ZC} {c : Nat} {A : ZA}
theorem e_ldOut (hW : wOK W) (hR : RWd W C) {side : Int} : c_Wood_leadingOut side C = some (ldN W side (wN W), C) := by
  have hW1 := hW.1
  have key : zH (zloop (c_Wood_leadingOut_L4 side) (0, 0) C) (fun y C' => y = ldN W side (wN W) ∧ C' = C) := by
    refine zH_for (fun i x C' => x = (ldN W side i, (i : Int)) ∧ C' = C) (wN W) 0 (Nat.zero_le _) ⟨rfl, rfl⟩ ?_ ?_
    · rintro i x C' hi ⟨rfl, rfl⟩
      obtain ⟨h1, h2, h3⟩ := hR.2 i hi
      have hm := hW.2 i hi
      unfold c_Wood_leadingOut_L4
      dsimp only
      have e : ldN W side (i + 1) = if zbit side (wA W i) = zbit side (wB W i) then ldN W side i else zor (ldN W side i) (zshl 1 (i : Int)) := rfl
      rw [hR.1, if_neg (by omega), zg_t (by omega), Int.toNat_natCast, h1, e_has (by omega), zbd_some, zg_t (by omega), h2, e_has (by omega), zbd_some]
      by_cases q : zbit side (wA W i) = zbit side (wB W i)
      · rw [if_pos (by rw [q]), zinN (by omega)]
        exact zH_some ⟨by rw [e, if_pos q], rfl⟩
      · rw [if_neg (by intro z; apply q; revert z; cases zbit side (wA W i) <;> cases zbit side (wB W i) <;> simp), zinN (by omega)]
        exact zH_some ⟨by rw [e, if_neg q], rfl⟩
    · rintro x C' ⟨rfl, rfl⟩
      unfold c_Wood_leadingOut_L4
      dsimp only
      rw [hR.1, if_pos (by omega)]
      exact zH_some ⟨rfl, rfl⟩
  obtain ⟨y, C', e, rfl, rfl⟩ := key
  unfold c_Wood_leadingOut
  rw [e, zbd_some]
theorem e_lfo (hW : wOK W) {side : Int} : ∀ (os : List Nat) (p m : Nat), RL (C (c + 1)) os → RL (C (c + 2)) (bk W p os) → kC W p os → os.length ≤ 12 → p < 8 →
    zloop (c_Walk_leastOpenFrom_L16 c side) ((m : Int), (p : Int), (os.length : Int) - 1) C = some (((lfo W side p os m : Nat) : Int), C)
  | [], p, m, _, _, _, _, _ => by
    rw [zloop_eq]
    have e : c_Walk_leastOpenFrom_L16 c side ((m : Int), (p : Int), (([] : List Nat).length : Int) - 1) C = some (.inr (m : Int), C) := by
      unfold c_Walk_leastOpenFrom_L16
      exact if_pos (show ((0 : Nat) : Int) - 1 < 0 by omega)
    rw [e]
    rfl
  | w :: os, p, m, h1, h2, hk, hl, hp => by
    simp only [List.length_cons] at hl
    have e1 : (((w :: os).length : Nat) : Int) - 1 = (os.length : Int) := by simp only [List.length_cons]; omega
    have h1a : C (c + 1) os.length = (w : Int) := h1.1
    have h2a : C (c + 2) os.length = ((wO W w p : Nat) : Int) := by have := h2.1; rw [bk_len] at this; exact this
    have g1 : 0 ≤ (os.length : Int) ∧ (os.length : Int) < 12 := by omega
    rw [e1, zloop_eq]
    by_cases hs : zbit side p = true
    · have e : c_Walk_leastOpenFrom_L16 c side ((m : Int), (p : Int), (os.length : Int)) C = some (.inl (((if w < m then w else m : Nat) : Int), ((wO W w p : Nat) : Int), (os.length : Int) - 1), C) := by
        unfold c_Walk_leastOpenFrom_L16
        dsimp only
        rw [if_neg (by omega), e_has (by omega), zbd_some, if_pos hs, if_neg (by decide), zg_t g1, zg_t g1, Int.toNat_natCast, h1a, h2a, zdec1 (by omega) (by omega)]
        by_cases q : w < m
        · rw [if_pos (show (w : Int) < (m : Int) by omega), if_pos q]
        · rw [if_neg (show ¬ (w : Int) < (m : Int) by omega), if_neg q]
      rw [e]
      dsimp only
      rw [e_lfo hW os (wO W w p) (if w < m then w else m) h1.2 h2.2 hk.2 (by omega) (wO_lt hW (wI_iff.mp hk.1).1)]
      have e3 : lfo W side p (w :: os) m = lfo W side (wO W w p) os (if w < m then w else m) := by
        conv => lhs; unfold lfo
        rw [if_pos hs]
      rw [e3]
    · have e : c_Walk_leastOpenFrom_L16 c side ((m : Int), (p : Int), (os.length : Int)) C = some (.inr (m : Int), C) := by
        unfold c_Walk_leastOpenFrom_L16
        dsimp only
        rw [if_neg (by omega), e_has (by omega), zbd_some, if_neg hs, if_pos rfl]
      rw [e]
      have e3 : lfo W side p (w :: os) m = m := by unfold lfo; rw [if_neg hs]
      rw [e3]
theorem e_leastOpen (hW : wOK W) (hk : kOK W s) (hS : RWk W s c C) {side : Int} : c_Walk_leastOpenFrom c side C = some (((lfo W side (kP s) (kO s) 12 : Nat) : Int), C) := by
  obtain ⟨s1, s2, s3, s4, s5⟩ := hS
  have hl := kOK_len hk
  have hb := hW.1
  unfold c_Walk_leastOpenFrom
  have h12 : (12 : Int) = ((12 : Nat) : Int) := rfl
  rw [s1, s2, zsub_e (by omega) (by omega), h12, e_lfo hW (kO s) (kP s) 12 s4 s5 hk.2.1 (by omega) hk.1, zbd_some]
theorem e_isFewer {a b : Int} (ha : 0 ≤ a ∧ a < 4096) (hb : 0 ≤ b ∧ b < 4096) : (lek b a ∧ c_N_isFewer a b C = some (0, C)) ∨ (¬ lek b a ∧ c_N_isFewer a b C = some (1, C)) := by
  have la := ones_le a
  have lb := ones_le b
  unfold c_N_isFewer lek
  rw [e_bitCount ha.1 ha.2, zbd_some, e_bitCount hb.1 hb.2, zbd_some, zsub_e (by omega) (by omega)]
  by_cases h1 : ones a < ones b
  · rw [if_pos (by omega)]
    exact Or.inr ⟨by omega, rfl⟩
  · rw [if_neg (by omega)]
    by_cases h2 : ones a = ones b
    · rw [if_neg (by omega)]
      by_cases h3 : b ≤ a
      · rw [if_pos h3]; exact Or.inl ⟨by omega, rfl⟩
      · rw [if_neg h3]; exact Or.inr ⟨by omega, rfl⟩
    · rw [if_pos (by omega)]; exact Or.inl ⟨by omega, rfl⟩
/-- a side that fewestCut tries -/
def cand (s : ZWk) (h : Nat) (i : Nat) : Prop := zbit (i : Int) (kP s) = true ∧ ¬ zbit (i : Int) h = true
theorem h_fewest (hW : wOK W) (hR : RWd W C) (hk : kOK W s) (hS : RWk W s c C) {h : Nat} (hh : h < 8) (h4 : C c 4 = (h : Int)) (hE : kE W (kP s) (kO s) = h) : zH (c_N_fewestCut c C) (fun v C' => isT W s h v ∧ C' = C) := by
  have hW1 := hW.1
  have hp8 := hk.1
  have hr : ∀ i : Nat, cand s h i → 0 ≤ cutS W s (i : Int) ∧ cutS W s (i : Int) < 4096 := by
    intro i hi
    have h1 := (cut_lo hW hk hi.1 (by rw [hE]; exact hi.2)).2
    have : 2 ^ wN W ≤ 2 ^ 12 := Nat.pow_le_pow_right (by decide) hW1
    omega
  unfold c_N_fewestCut
  refine zH_bd2 (P := fun v C' => ((v = -1 ∧ ∀ j, j < 256 → ¬ cand s h j) ∨ ((∃ j, j < 256 ∧ cand s h j ∧ v = cutS W s (j : Int)) ∧ ∀ j, j < 256 → cand s h j → lek v (cutS W s (j : Int)))) ∧ C' = C) ?_ (fun v C' h2 => zH_some ⟨?_, h2.2⟩)
  · refine zH_for (fun i x C' => (∃ v, x = (v, (i : Int)) ∧ ((v = -1 ∧ ∀ j, j < i → ¬ cand s h j) ∨ ((∃ j, j < i ∧ cand s h j ∧ v = cutS W s (j : Int)) ∧ ∀ j, j < i → cand s h j → lek v (cutS W s (j : Int))))) ∧ C' = C) 256 0 (by decide) ⟨⟨-1, rfl, Or.inl ⟨rfl, fun j hj => absurd hj (Nat.not_lt_zero _)⟩⟩, rfl⟩ ?_ ?_
    · rintro i x C' hi ⟨⟨v, rfl, hv⟩, rfl⟩
      have keep : ¬ cand s h i → (∃ v', (v, ((i + 1 : Nat) : Int)) = (v', ((i + 1 : Nat) : Int)) ∧ ((v' = -1 ∧ ∀ j, j < i + 1 → ¬ cand s h j) ∨ ((∃ j, j < i + 1 ∧ cand s h j ∧ v' = cutS W s (j : Int)) ∧ ∀ j, j < i + 1 → cand s h j → lek v' (cutS W s (j : Int))))) := by
        intro hc
        refine ⟨v, rfl, ?_⟩
        rcases hv with ⟨e, q⟩ | ⟨⟨j, j1, j2, j3⟩, q⟩
        · refine Or.inl ⟨e, fun j hj => ?_⟩
          by_cases e2 : j = i
          · rw [e2]; exact hc
          · exact q j (by omega)
        · refine Or.inr ⟨⟨j, by omega, j2, j3⟩, fun j hj hcj => ?_⟩
          by_cases e2 : j = i
          · rw [e2] at hcj; exact absurd hcj hc
          · exact q j (by omega) hcj
      unfold c_N_fewestCut_L4
      dsimp only
      rw [if_neg (by omega), hS.1, e_has (by omega), zbd_some]
      by_cases c1 : zbit (i : Int) (kP s) = true
      · rw [if_pos c1, if_neg (by decide), h4, e_has (by omega), zbd_some]
        by_cases c2 : zbit (i : Int) h = true
        · rw [if_pos c2, if_pos (by decide), zinN (by omega)]
          exact zH_some ⟨keep (fun z => z.2 c2), rfl⟩
        · have hc : cand s h i := ⟨c1, c2⟩
          have hri := hr i hc
          rw [if_neg c2, if_neg (by decide), e_ldOut hW hR, zbd_some, e_leastOpen hW hk hS, zbd_some, hS.2.2.1]
          have ec : zor (zand (ldN W (i : Int) (wN W)) (zxor (kG s) (-1))) (zshl 1 ((lfo W (i : Int) (kP s) (kO s) 12 : Nat) : Int)) = cutS W s (i : Int) := rfl
          rw [ec, zinN (by omega)]
          have new : (∀ j, j < i → cand s h j → lek (cutS W s (i : Int)) (cutS W s (j : Int))) → (∃ v', (cutS W s (i : Int), ((i + 1 : Nat) : Int)) = (v', ((i + 1 : Nat) : Int)) ∧ ((v' = -1 ∧ ∀ j, j < i + 1 → ¬ cand s h j) ∨ ((∃ j, j < i + 1 ∧ cand s h j ∧ v' = cutS W s (j : Int)) ∧ ∀ j, j < i + 1 → cand s h j → lek v' (cutS W s (j : Int))))) := by
            intro q
            refine ⟨_, rfl, Or.inr ⟨⟨i, by omega, hc, rfl⟩, fun j hj hcj => ?_⟩⟩
            by_cases e2 : j = i
            · rw [e2]; exact Or.inr ⟨rfl, Int.le_refl _⟩
            · exact q j (by omega) hcj
          rcases hv with ⟨e, q⟩ | ⟨⟨j, j1, j2, j3⟩, q⟩
          · rw [if_pos e]
            exact zH_some ⟨new (fun j hj hcj => absurd hcj (q j hj)), rfl⟩
          · have hrv : 0 ≤ v ∧ v < 4096 := by rw [j3]; exact hr j j2
            rw [if_neg (by omega)]
            rcases e_isFewer (C := C') hri hrv with ⟨le, ee⟩ | ⟨le, ee⟩
            · rw [ee, zbd_some, if_pos rfl]
              refine zH_some ⟨⟨v, rfl, Or.inr ⟨⟨j, by omega, j2, j3⟩, fun j' hj' hcj => ?_⟩⟩, rfl⟩
              by_cases e2 : j' = i
              · rw [e2]; exact le
              · exact q j' (by omega) hcj
            · rw [ee, zbd_some, if_neg (by decide)]
              have le2 : lek (cutS W s (i : Int)) v := by unfold lek at *; omega
              exact zH_some ⟨new (fun j' hj' hcj => lek_tr le2 (q j' hj' hcj)), rfl⟩
      · rw [if_neg c1, if_pos rfl, zinN (by omega)]
        exact zH_some ⟨keep (fun z => c1 z.1), rfl⟩
    · rintro x C' ⟨⟨v, rfl, hv⟩, rfl⟩
      unfold c_N_fewestCut_L4
      dsimp only
      rw [if_pos (by omega)]
      exact zH_some ⟨hv, rfl⟩
  · obtain ⟨h2, -⟩ := h2
    have hz : ∀ p q : Fin 8, zbit ((2 ^ p.val : Nat) : Int) q.val = decide (q.val = p.val) := by decide +kernel
    by_cases e : kP s = h
    · rcases h2 with ⟨e1, -⟩ | ⟨⟨j, j1, j2, j3⟩, -⟩
      · exact Or.inl ⟨e1, e⟩
      · exact absurd j2.1 (by rw [e]; exact j2.2)
    · have hc : cand s h (2 ^ kP s) := by
        refine ⟨?_, ?_⟩
        · rw [hz ⟨kP s, hp8⟩ ⟨kP s, hp8⟩]; exact decide_eq_true rfl
        · rw [hz ⟨kP s, hp8⟩ ⟨h, hh⟩]
          rw [decide_eq_false (fun q => e q.symm)]; decide
      have h256 : 2 ^ kP s < 256 := by
        have : 2 ^ kP s ≤ 2 ^ 7 := Nat.pow_le_pow_right (by decide) (by omega)
        omega
      rcases h2 with ⟨e1, q⟩ | ⟨⟨j, j1, j2, j3⟩, q⟩
      · exact absurd hc (q _ h256)
      · have hl := cut_lo hW hk j2.1 (by rw [hE]; exact j2.2)
        rw [hE] at hl
        refine Or.inr ⟨e, by rw [j3]; exact hl.2, by rw [j3]; exact hl.1, fun cu c0 c1 hlo => ?_⟩
        have : 2 ^ wN W ≤ 2 ^ 12 := Nat.pow_le_pow_right (by decide) hW1
        obtain ⟨g1, g2, g3⟩ := cut_le hW hk c0 (by omega) (by rw [hE]; exact hlo) (by rw [hE]; exact hh)
        rw [hE] at g2
        have hrc : z32 (rc (sn W s cu)) = rc (sn W s cu) := z32_zb _ _ _
        have hlt : ∀ i, i < 32 → zbit (rc (sn W s cu)) i = true → i < 8 := by
          intro i hi hb
          have := zbit_rcN (r := sn W s cu) (p := i) 8 (Nat.le_refl _)
          have hb2 : zbit (rcN (sn W s cu) 8) i = true := hb
          rw [this] at hb2
          exact of_decide_eq_true (Bool.and_eq_true_iff.mp hb2).1
        obtain ⟨r1, r2⟩ := rng12 hrc (fun i hi hb => by have := hlt i hi hb; omega)
        obtain ⟨n, hn2⟩ : ∃ n : Nat, rc (sn W s cu) = (n : Int) := ⟨(rc (sn W s cu)).toNat, by omega⟩
        rw [hn2] at hlt g1 g2 g3 r2
        have hn : n < 2 ^ 8 := Nat.lt_pow_two_of_testBit n (fun i hi => by
          by_cases h32 : i < 32
          · rw [← zbit_nat h32]
            cases hb : zbit (n : Int) i with
            | false => rfl
            | true => have := hlt i h32 hb; omega
          · refine Nat.testBit_lt_two_pow ?_
            have : 2 ^ 12 ≤ 2 ^ i := Nat.pow_le_pow_right (by decide) (by omega)
            omega)
        exact lek_tr (q n (by omega) ⟨g1, g2⟩) g3
theorem c_thread (hA : aOK A) (h : RC A C) {k x : Int} : zH (c_N_thread k x C) (QC C (s_thread A k x) A) := by
  have hW := (aW_OK (A := A))
  unfold c_N_thread
  rw [e_within, zbd_some]
  by_cases h1 : 0 ≤ k ∧ k < 4
  · rw [if_pos h1, if_neg (by decide), e_within, zbd_some]
    by_cases h2 : 0 ≤ x ∧ x < 2
    · have hs : s_thread A k x = (if thv (aW A) (aK A k.toNat) (aH A k.toNat) = -1 ∨ x = 1 then thv (aW A) (aK A k.toNat) (aH A k.toNat) else ((ones (thv (aW A) (aK A k.toNat) (aH A k.toNat)) : Nat) : Int)) := if_pos ⟨h1, h2⟩
      have hk : k.toNat < 4 := by omega
      rw [if_pos h2, if_pos (by decide), zg_t h1, hs]
      have hK := (h.2.2 k.toNat hk)
      refine zH_bd2 (h_fewest hW h.2.1.2 (aK_OK hA hk) hK.1.1.1 (hA.2.1 _ hk) hK.2 (kE_R hW _)) (fun v C' h3 => ?_)
      obtain ⟨hv, rfl⟩ := h3
      rw [thv_e hv]
      by_cases e : v = -1
      · rw [if_pos e, if_pos (Or.inl e)]
        exact zH_some (QC_same h)
      · rw [if_neg e]
        by_cases e1 : x = 1
        · rw [if_neg (fun z => z e1), if_pos (Or.inr e1)]
          exact zH_some (QC_same h)
        · rw [if_pos e1, if_neg (fun z => z.elim e e1)]
          have hr : 0 ≤ v ∧ v < 4096 := by
            rcases hv with ⟨q, _⟩ | ⟨_, q, _⟩
            · exact absurd q e
            · have : 2 ^ wN (aW A) ≤ 2 ^ 12 := Nat.pow_le_pow_right (by decide) hW.1
              omega
          rw [e_bitCount hr.1 hr.2, zbd_some]
          exact zH_some (QC_same h)
    · rw [if_neg h2, if_neg (by decide), show s_thread A k x = -2 from if_neg fun q => h2 q.2]
      exact zH_some (QC_same h)
  · rw [if_neg h1, if_pos rfl, show s_thread A k x = -2 from if_neg fun q => h1 q.1]
    exact zH_some (QC_same h)
end ZTHREADC

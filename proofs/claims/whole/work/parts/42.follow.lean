/-! Told walks in the class: follow() -/
section ZFOLLOW
variable {W : ZWd} {C : ZC} {c : Nat}
theorem kKi_nat {s : ZWk} {x : Int} (h : kKi W s x ≠ 0) : 0 ≤ x ∧ kKi W s x = kK W s x.toNat := by
  unfold kKi at *
  by_cases h0 : 0 ≤ x
  · rw [if_pos h0]; exact ⟨h0, rfl⟩
  · rw [if_neg h0] at h; exact absurd rfl h
theorem kK_in {s : ZWk} {w : Nat} (h : kK W s w ≠ 0) : wI W w (kP s) = true := by
  by_cases hi : wI W w (kP s) = true
  · exact hi
  · exact absurd (kK_0 hi) h
theorem tR_OK (hW : wOK W) {t : Nat → Int} {h : Nat} (hh : h < 8) : ∀ i, kOK W (tR W t h i).1 ∧ 0 ≤ (tR W t h i).2.1 ∧ (tR W t h i).2.1 ≤ 9 * i ∧ -1 ≤ (tR W t h i).2.2.2 ∧ (tR W t h i).2.2.2 < i
  | 0 => ⟨kOK_begin h hh, Int.le_refl _, by show (0 : Int) ≤ 9 * (0 : Nat); omega, Int.le_refl _, by show (-1 : Int) < (0 : Nat); omega⟩
  | i + 1 => by
    obtain ⟨h1, h2, h3, h4, h5⟩ := tR_OK hW hh i
    show kOK W (tS W t i (tR W t h i)).1 ∧ 0 ≤ (tS W t i (tR W t h i)).2.1 ∧ (tS W t i (tR W t h i)).2.1 ≤ 9 * ((i + 1 : Nat) : Int) ∧ -1 ≤ (tS W t i (tR W t h i)).2.2.2 ∧ (tS W t i (tR W t h i)).2.2.2 < ((i + 1 : Nat) : Int)
    unfold tS
    split
    · split
      · exact ⟨h1, h2, by show (tR W t h i).2.1 ≤ _; omega, by show (-1 : Int) ≤ (i : Int); omega, by show (i : Int) < _; omega⟩
      · next hk =>
        obtain ⟨k1, k2⟩ := kKi_nat hk
        rw [k2] at hk ⊢
        have hm := hW.2 _ (wI_iff.mp (kK_in hk)).1
        exact ⟨kOK_S hW h1 hk, by show (0 : Int) ≤ (tR W t h i).2.1 + _; omega, by show (tR W t h i).2.1 + _ ≤ _; omega, Int.le_refl _, by show (-1 : Int) < _; omega⟩
    · exact ⟨h1, h2, by omega, h4, by omega⟩
/-- a walk's cells hold a told walk and how soon one comes on from it -/
def RTr (W : ZWd) (r : ZTr) (c : Nat) (C : ZC) : Prop := RWk W r.1 c C ∧ C c 8 = r.2.1 ∧ C c 9 = r.2.2.1 ∧ C c 10 = r.2.2.2
def RFl (W : ZWd) (r : ZTr) (c : Nat) (C : ZC) : Prop := RTr W r c C ∧ RSn (sn W r.1 0) c C ∧ C c 11 = rc (sn W r.1 0)
theorem tS_done {t : Nat → Int} {i : Nat} {r : ZTr} (h : ¬ r.2.2.2 = -1) : tS W t i r = r := if_neg h
theorem tR_done {t : Nat → Int} {h i : Nat} (hd : ¬ (tR W t h i).2.2.2 = -1) : ∀ k, tR W t h (i + k) = tR W t h i
  | 0 => rfl
  | k + 1 => by
    show tS W t (i + k) (tR W t h (i + k)) = _
    rw [tR_done hd k, tS_done hd]
theorem h_follow (hW : wOK W) (hR : RWd W C) (hc : 13 ≤ c) {l n h : Nat} (hn : n ≤ 60) (hh : h < 8) (h4 : C c 4 = (h : Int)) (hl : l < 9) (hv : ∀ i, i < n → 0 ≤ C l i ∧ C l i ≤ 255) :
    zH (c_Walk_follow c l (n : Int) C) (fun _ C' => RFl W (tR W (C l) h n) c C' ∧ C' c 4 = (h : Int) ∧ ∀ a, a ≠ c → a ≠ c + 1 → a ≠ c + 2 → a ≠ c + 3 → C' a = C a) := by
  unfold c_Walk_follow
  rw [h4]
  obtain ⟨C1, e1, t1, f1, g4, g10, g11, g8, g9⟩ := h_begin (C := C) (W := W) hc (p := h)
  rw [e1, zbd_some]
  refine zH_bd2 (P := fun _ C' => RTr W (tR W (C l) h n) c C' ∧ C' c 4 = (h : Int) ∧ ∀ a, a ≠ c → a ≠ c + 1 → a ≠ c + 2 → C' a = C a) ?_ (fun _ C2 h2 => ?_)
  · refine zH_for (fun i x C' => x = (i : Int) ∧ RTr W (tR W (C l) h i) c C' ∧ C' c 4 = (h : Int) ∧ ∀ a, a ≠ c → a ≠ c + 1 → a ≠ c + 2 → C' a = C a) n 0 (Nat.zero_le _) ⟨rfl, ⟨t1, g8, g9, g10⟩, g4.trans h4, fun a ha _ _ => f1 a ha⟩ ?_ ?_
    · rintro i x C3 hi ⟨rfl, ⟨r1, r2, r3, r4⟩, r5, r6⟩
      obtain ⟨k1, k2, k3, k4, k5⟩ := tR_OK (t := C l) hW hh i
      have hR3 : RWd W C3 := by
        unfold RWd
        rw [r6 9 (by omega) (by omega) (by omega), r6 10 (by omega) (by omega) (by omega), r6 11 (by omega) (by omega) (by omega), r6 12 (by omega) (by omega) (by omega)]
        exact hR
      have hl3 : C3 l = C l := r6 l (by omega) (by omega) (by omega)
      have hvi := hv i hi
      unfold c_Walk_follow_L10
      rw [if_neg (by omega), r4]
      by_cases hd : (tR W (C l) h i).2.2.2 = -1
      · rw [if_neg (fun z => z hd), zg_t (by omega), Int.toNat_natCast, hl3, zsub_e (by omega) (by omega), e_kindOf hW hR3 k1 r1, zbd_some]
        by_cases hk : kKi W (tR W (C l) h i).1 (C l i - 97) = 0
        · rw [hk, if_neg (by decide)]
          have e : tR W (C l) h (i + 1) = ((tR W (C l) h i).1, (tR W (C l) h i).2.1, (tR W (C l) h i).2.2.1, (i : Int)) := by
            show tS W (C l) i _ = _
            unfold tS
            rw [if_pos hd, if_pos hk]
          refine zH_some ⟨zinN (by omega), ?_, ?_, fun a q1 q2 q3 => (zu_nb q1).trans (r6 a q1 q2 q3)⟩
          · rw [e]
            obtain ⟨b1, b2, b3, b4, b5⟩ := r1
            exact ⟨⟨(zu_nj (by decide)).trans b1, (zu_nj (by decide)).trans b2, (zu_nj (by decide)).trans b3, by rw [zu_nb (by omega)]; exact b4, by rw [zu_nb (by omega)]; exact b5⟩, (zu_nj (by decide)).trans r2, (zu_nj (by decide)).trans r3, zu_eq⟩
          · exact (zu_nj (by decide)).trans r5
        · obtain ⟨k0, kk⟩ := kKi_nat hk
          have hk2 : kK W (tR W (C l) h i).1 (C l i - 97).toNat ≠ 0 := by rw [← kk]; exact hk
          obtain ⟨w, hw⟩ : ∃ w : Nat, C l i - 97 = (w : Int) := ⟨(C l i - 97).toNat, by omega⟩
          rw [if_pos (by omega)]
          rw [hw, Int.toNat_natCast] at kk
          rw [hw, Int.toNat_natCast] at hk2
          rw [hw, kk]
          obtain ⟨C4, e4, s1, s2, s3, s4, s5, s6, s7⟩ := h_step hW hR3 hc k1 r1 (w := w) rfl hk2 (by rw [r2]; omega)
          rw [e4, zbd_some]
          have e : tR W (C l) h (i + 1) = (kS W (tR W (C l) h i).1 w (kK W (tR W (C l) h i).1 w), (tR W (C l) h i).2.1 + (wM W w : Int), zor (tR W (C l) h i).2.2.1 (zshl 1 (kP (kS W (tR W (C l) h i).1 w (kK W (tR W (C l) h i).1 w)) : Int)), -1) := by
            show tS W (C l) i _ = _
            unfold tS
            rw [if_pos hd, hw, kk, if_neg hk2, Int.toNat_natCast]
          refine zH_some ⟨zinN (by omega), ?_, s3.trans r5, fun a q1 q2 q3 => (s2 a q1 q2 q3).trans (r6 a q1 q2 q3)⟩
          rw [e]
          exact ⟨s1, by rw [s6, r2], by rw [s7, r3], s4.trans (r4.trans hd)⟩
      · rw [if_pos hd]
        have e := tR_done hd (n - i)
        have en : i + (n - i) = n := by omega
        rw [en] at e
        rw [e]
        exact zH_some ⟨⟨r1, r2, r3, r4⟩, r5, r6⟩
    · rintro x C3 ⟨rfl, r1, r5, r6⟩
      unfold c_Walk_follow_L10
      rw [if_pos (by omega)]
      exact zH_some ⟨r1, r5, r6⟩
  · obtain ⟨⟨r1, r2, r3, r4⟩, r5, r6⟩ := h2
    obtain ⟨k1, k2, k3, k4, k5⟩ := tR_OK (t := C l) hW hh n
    have hR2 : RWd W C2 := by
      unfold RWd
      rw [r6 9 (by omega) (by omega) (by omega), r6 10 (by omega) (by omega) (by omega), r6 11 (by omega) (by omega) (by omega), r6 12 (by omega) (by omega) (by omega)]
      exact hR
    refine zH_bd2 (h_look (cut := 0) hW hR2 hc k1 r1) (fun _ C3 h3 => zH_some ?_)
    obtain ⟨s1, s2, s3, s4⟩ := h3
    obtain ⟨b1, b2, b3, b4, b5⟩ := r1
    refine ⟨⟨⟨⟨(s4 5 (by decide)).trans b1, (s4 6 (by decide)).trans b2, (s4 7 (by decide)).trans b3, ?_, ?_⟩, (s4 8 (by decide)).trans r2, (s4 9 (by decide)).trans r3, (s4 10 (by decide)).trans r4⟩, s1, s2⟩, (s4 4 (by decide)).trans r5, fun a q1 q2 q3 q4 => (s3 a q1 q4).trans (r6 a q1 q2 q3)⟩
    · rw [s3 _ (by omega) (by omega)]; exact b4
    · rw [s3 _ (by omega) (by omega)]; exact b5
end ZFOLLOW

/-! The class's wood and walks: what their small methods answer -/
section ZCELLS
variable {C : ZC} {a b j k : Nat} {v : Int}
theorem zu_eq : zup2 C a j v a j = v := if_pos ⟨rfl, rfl⟩
theorem zu_ne (h : b ≠ a) : zup2 C a j v b k = C b k := if_neg fun q => h q.1
theorem zu_nj (h : k ≠ j) : zup2 C a j v a k = C a k := if_neg fun q => h q.2
theorem zu_nb (h : b ≠ a) : zup2 C a j v b = C b := funext fun _ => zu_ne h
theorem zu_row : zup2 C a j v a = zup (C a) j v := funext fun k => by
  unfold zup2 zup
  by_cases h : k = j
  · rw [if_pos ⟨rfl, h⟩, if_pos h]
  · rw [if_neg (fun q => h q.2), if_neg h]
theorem zr_eq {g : Nat → Int} : zrow C a g a = g := funext fun _ => if_pos rfl
theorem zr_ne {g : Nat → Int} (h : b ≠ a) : zrow C a g b = C b := funext fun _ => if_neg h
theorem zp_eq {α : Type} {f : Nat → α} {v : α} : zup f k v k = v := if_pos rfl
theorem zp_ne {α : Type} {f : Nat → α} {v : α} (h : j ≠ k) : zup f k v j = f j := if_neg h
end ZCELLS
theorem e_within {a b : Int} {C : ZC} : c_N_within a b C = some ((if 0 ≤ a ∧ a < b then 1 else 0), C) := by
  unfold c_N_within
  by_cases h : a < 0
  · rw [if_pos h, if_neg (by omega)]
  · rw [if_neg h]
    by_cases h2 : b ≤ a
    · rw [if_pos h2, if_neg (by omega)]
    · rw [if_neg h2, if_pos (by omega)]
theorem zshr_0 {x : Int} {k : Nat} (hk : k < 32) : zbit (zshr x (k : Int)) 0 = zbit x k := by
  have e : ∀ k : Fin 32, ((Int32.ofInt ((k.val : Nat) : Int) &&& 31).toBitVec.smod 32#32).toNat = k.val := by decide +kernel
  have e1 := e ⟨k, hk⟩
  unfold zbit zshr zb
  rw [zof, Int32.toBitVec_shiftRight]
  show (BitVec.sshiftRight _ _).getLsbD 0 = _
  rw [BitVec.getLsbD_sshiftRight]
  have e2 : ((Int32.ofInt ((k : Nat) : Int) &&& 31).toBitVec.smod 32).toNat = k := e1
  rw [e2]
  simp [hk]
theorem zand_1 (x : Int) : zand x 1 = if zbit x 0 = true then 1 else 0 := by
  refine zbit_ext (z32_zb _ _ _) (by split <;> exact z32_e (by decide) (by decide)) fun k hk => ?_
  rw [zbit_and]
  have h1 : ∀ k : Fin 32, zbit 1 k.val = decide (k.val = 0) := by decide
  rw [h1 ⟨k, hk⟩]
  by_cases e : k = 0
  · subst e
    cases hx : zbit x 0
    · rw [if_neg (by decide), zbit_0]; rfl
    · rw [if_pos rfl, h1 ⟨0, hk⟩]; rfl
  · have e2 : decide (k = 0) = false := decide_eq_false e
    rw [e2, Bool.and_false]
    split
    · exact (h1 ⟨k, hk⟩).symm ▸ e2.symm
    · exact (zbit_0 k).symm
theorem zhas_e {x : Int} {k : Nat} (hk : k < 32) : zand (zshr x (k : Int)) 1 = if zbit x k = true then 1 else 0 := by rw [zand_1, zshr_0 hk]
theorem e_has {x : Int} {k : Nat} {C : ZC} (hk : k < 32) : c_N_has x (k : Int) C = some ((if zbit x k = true then 1 else 0), C) := by
  unfold c_N_has
  rw [zhas_e hk]
  cases zbit x k <;> rfl
section ZWALKS
variable {W : ZWd} {s : ZWk} {C : ZC} {c : Nat}
theorem e_other (hW : wOK W) (hR : RWd W C) {x : Int} {p : Nat} : c_Wood_other x (p : Int) C = some ((if 0 ≤ x ∧ wI W x.toNat p = true then ((wO W x.toNat p : Nat) : Int) else -1), C) := by
  unfold c_Wood_other
  rw [hR.1]
  by_cases h : 0 ≤ x ∧ x < (wN W : Int)
  · have hw : x.toNat < wN W := by omega
    obtain ⟨h1, h2, h3⟩ := hR.2 _ hw
    have hb := hW.1
    have hr : 0 ≤ x ∧ x < 12 := by omega
    rw [if_neg (show ¬ x < 0 by omega), if_pos h.2]
    simp only [zg_t hr, h1, h2]
    by_cases ha : wA W x.toNat = p
    · rw [if_neg (by omega), if_pos ⟨h.1, wI_iff.mpr ⟨hw, Or.inl ha⟩⟩]
      unfold wO
      rw [if_pos ha]
    · rw [if_pos (by omega)]
      by_cases hb : wB W x.toNat = p
      · rw [if_neg (by omega), if_pos ⟨h.1, wI_iff.mpr ⟨hw, Or.inr hb⟩⟩]
        unfold wO
        rw [if_neg ha]
      · rw [if_pos (by omega), if_neg (fun q => by have := (wI_iff.mp q.2).2; omega)]
  · by_cases h0 : x < 0
    · rw [if_pos h0, if_neg (fun q => h ⟨q.1, by have := (wI_iff.mp q.2).1; omega⟩)]
    · rw [if_neg h0, if_neg (show ¬ x < (wN W : Int) from fun q => h ⟨by omega, q⟩), if_neg (fun q => h ⟨q.1, by have := (wI_iff.mp q.2).1; omega⟩)]
theorem e_otherN (hW : wOK W) (hR : RWd W C) {w p : Nat} (h : wI W w p = true) : c_Wood_other (w : Int) (p : Int) C = some (((wO W w p : Nat) : Int), C) := by
  rw [e_other hW hR, if_pos ⟨by omega, by rw [Int.toNat_natCast]; exact h⟩, Int.toNat_natCast]
theorem e_other0 (hW : wOK W) (hR : RWd W C) {x : Int} {p : Nat} (h : ¬ (0 ≤ x ∧ wI W x.toNat p = true)) : c_Wood_other x (p : Int) C = some (-1, C) := by
  rw [e_other hW hR, if_neg h]
theorem kK_0 {w : Nat} (h : ¬ wI W w (kP s) = true) : kK W s w = 0 := if_neg h
theorem e_kindOf (hW : wOK W) (hR : RWd W C) (hk : kOK W s) (hS : RWk W s c C) {x : Int} : c_Walk_kindOf c x C = some (((kKi W s x : Nat) : Int), C) := by
  obtain ⟨s1, s2, s3, s4, s5⟩ := hS
  have hl := kOK_len hk
  have hb := hW.1
  unfold c_Walk_kindOf
  rw [s1]
  by_cases h : 0 ≤ x ∧ wI W x.toNat (kP s) = true
  · obtain ⟨h0, hi⟩ := h
    obtain ⟨w, rfl⟩ : ∃ w : Nat, x = (w : Int) := ⟨x.toNat, by omega⟩
    rw [Int.toNat_natCast] at hi
    have hw := (wI_iff.mp hi).1
    have hkk : kKi W s (w : Int) = kK W s w := by unfold kKi; rw [if_pos h0, Int.toNat_natCast]
    rw [hkk, e_otherN hW hR hi, zbd_some, if_pos (show ¬ ((wO W w (kP s) : Nat) : Int) = -1 by omega), e_has (show w < 32 by omega), zbd_some, s3]
    cases hg : zbit (kG s) w
    · rw [kK_1.mpr ⟨hi, hg⟩]; rfl
    · rw [if_pos rfl, if_pos (by decide), s2]
      cases ho : kO s with
      | nil =>
        have e0 : kK W s w = 0 := by unfold kK; rw [if_pos hi, if_pos hg, ho]; rfl
        rw [e0]; rfl
      | cons v os =>
        rw [ho] at s4 hl
        simp only [List.length_cons] at hl ⊢
        have e1 : zsub ((os.length + 1 : Nat) : Int) 1 = (os.length : Int) := by rw [zsub_e (by omega) (by omega)]; omega
        rw [if_neg (show ¬ ((os.length + 1 : Nat) : Int) ≤ 0 by omega), zg_t (by rw [e1]; omega)]
        simp only [e1, Int.toNat_natCast, s4.1]
        by_cases hv : v = w
        · subst hv
          rw [kK_2.mpr ⟨hi, hg, by rw [ho]; rfl⟩, if_neg (fun q => q rfl)]; rfl
        · have e0 : kK W s w = 0 := by
            unfold kK
            rw [if_pos hi, if_pos hg, ho]
            exact if_neg (fun q => hv (Option.some.inj q))
          rw [e0, if_pos (show ¬ (v : Int) = (w : Int) by omega)]; rfl
  · have e0 : kKi W s x = 0 := by
      unfold kKi
      by_cases h0 : 0 ≤ x
      · rw [if_pos h0]
        exact kK_0 fun q => h ⟨h0, q⟩
      · rw [if_neg h0]
    rw [e_other0 hW hR h, zbd_some, if_neg (by decide), e0]; rfl
/-- only a walk's place, size, gone, and its rows are changed -/
def kfr (c : Nat) (C C' : ZC) : Prop := (∀ a, a ≠ c → a ≠ c + 1 → a ≠ c + 2 → C' a = C a) ∧ ∀ j, j ≠ 5 → j ≠ 6 → j ≠ 7 → C' c j = C c j
theorem kfr_tr {C1 C2 C3 : ZC} (h1 : kfr c C1 C2) (h2 : kfr c C2 C3) : kfr c C1 C3 := ⟨fun a x y z => (h2.1 a x y z).trans (h1.1 a x y z), fun j x y z => (h2.2 j x y z).trans (h1.2 j x y z)⟩
theorem kfr_wd {C' : ZC} (hc : 13 ≤ c) (h : kfr c C C') (hR : RWd W C) : RWd W C' := by
  unfold RWd
  rw [h.1 9 (by omega) (by omega) (by omega), h.1 10 (by omega) (by omega) (by omega), h.1 11 (by omega) (by omega) (by omega), h.1 12 (by omega) (by omega) (by omega)]
  exact hR
theorem h_goNew (hW : wOK W) (hR : RWd W C) (hS : RWk W s c C) {w : Nat} (hi : wI W w (kP s) = true) (hl : (kO s).length < 12) : ∃ C', c_Walk_goNew c (w : Int) C = some (0, C') ∧ RWk W (kN W s w) c C' ∧ kfr c C C' := by
  obtain ⟨s1, s2, s3, s4, s5⟩ := hS
  unfold c_Walk_goNew
  rw [s1, e_otherN hW hR hi, zbd_some, if_neg (by omega), s2, if_neg (by omega), zg_t (by omega)]
  rw [zg_t (by rw [zu_ne (by omega), s2]; omega)]
  simp only [zu_ne (show c ≠ c + 1 by omega), zu_ne (show c ≠ c + 2 by omega), s1, s2, Int.toNat_natCast, zu_nj (show (7 : Nat) ≠ 6 by decide), s3]
  rw [zadd_e (by omega) (by omega)]
  refine ⟨_, rfl, ⟨?_, ?_, ?_, ?_, ?_⟩, ?_, ?_⟩
  · rw [zu_eq]; rfl
  · rw [zu_nj (by decide), zu_nj (by decide), zu_eq]; simp [kN, kO]
  · rw [zu_nj (by decide), zu_eq]; rfl
  · rw [zu_nb (by omega), zu_nb (by omega), zu_nb (by omega), zu_nb (by omega), zu_row]
    exact RL_push s4
  · rw [zu_nb (by omega), zu_nb (by omega), zu_nb (by omega), zu_row, zu_nb (by omega)]
    show RL _ (wO W w (wO W w (kP s)) :: bk W (wO W w (wO W w (kP s))) (kO s))
    rw [wO_O hW hi]
    have h5 := RL_push (w := kP s) s5
    rw [bk_len] at h5
    exact h5
  · intro a h1 h2 h3
    rw [zu_nb (by omega), zu_nb (by omega), zu_nb (by omega), zu_nb (by omega), zu_nb (by omega)]
  · intro j h1 h2 h3
    rw [zu_nj (by omega), zu_nj (by omega), zu_nj (by omega), zu_ne (by omega), zu_ne (by omega)]
theorem h_goBack (hS : RWk W s c C) {w : Nat} {os : List Nat} (ho : kO s = w :: os) (hl : (kO s).length ≤ 12) : ∃ C', c_Walk_goBack c C = some (0, C') ∧ RWk W (kB W s) c C' ∧ kfr c C C' ∧ C' (c + 1) = C (c + 1) := by
  obtain ⟨s1, s2, s3, s4, s5⟩ := hS
  rw [ho] at s2 s4 s5 hl
  simp only [List.length_cons] at s2 hl
  have e1 : zsub (((os.length + 1 : Nat)) : Int) 1 = (os.length : Int) := by rw [zsub_e (by omega) (by omega)]; omega
  unfold c_Walk_goBack
  rw [s2, if_neg (by omega)]
  simp only [e1, zu_eq, Int.toNat_natCast]
  rw [zg_t (by omega), zu_ne (by omega)]
  have hb : kB W s = (wO W w (kP s), os, kG s) := by unfold kB; rw [ho]
  rw [hb]
  have h5 := s5.1
  rw [bk_len] at h5
  refine ⟨_, rfl, ⟨?_, ?_, ?_, ?_, ?_⟩, ⟨?_, ?_⟩, ?_⟩
  · rw [zu_eq]; exact h5
  · rw [zu_nj (by decide), zu_eq]; rfl
  · rw [zu_nj (by decide), zu_nj (by decide)]; exact s3
  · rw [zu_nb (by omega), zu_nb (by omega)]; exact s4.2
  · rw [zu_nb (by omega), zu_nb (by omega)]; exact s5.2
  · intro a h1 h2 h3
    rw [zu_nb (by omega), zu_nb (by omega)]
  · intro j h1 h2 h3
    rw [zu_nj (by omega), zu_nj (by omega)]
  · rw [zu_nb (by omega), zu_nb (by omega)]
end ZWALKS

/-! The class's walks, further: steps, taking back, becoming, how soon -/
section ZWALK2
variable {W : ZWd} {s : ZWk} {C : ZC} {c : Nat}
theorem zbit_clear {g : Int} {w : Nat} (hw : w < 32) (hg : z32 g = g) (h : zbit g w = false) : zand (zor g (zshl 1 (w : Int))) (zxor (zshl 1 (w : Int)) (-1)) = g := by
  refine zbit_ext (z32_zb _ _ _) hg fun k hk => ?_
  rw [zbit_and, zbit_or, zbit_not _ _ hk, zbit_sh1 w hw k hk]
  by_cases e : k = w
  · subst e
    rw [h]; simp
  · simp [e]
theorem zbit_set {g : Int} {w : Nat} (hw : w < 32) (hg : z32 g = g) (h : zbit g w = true) : zor g (zshl 1 (w : Int)) = g := by
  refine zbit_ext (z32_zb _ _ _) hg fun k hk => ?_
  rw [zbit_or, zbit_sh1 w hw k hk]
  by_cases e : k = w
  · subst e
    rw [h]; rfl
  · simp [e]
/-- a new step taken back -/
theorem h_undoNew (hW : wOK W) (hk : kOK W s) {w : Nat} (hi : wI W w (kP s) = true) (hg : zbit (kG s) w = false) (hS : RWk W (kN W s w) c C) : ∃ C', c_Walk_undoNew c C = some (0, C') ∧ RWk W s c C' ∧ kfr c C C' := by
  have hl := kOK_room hk (wI_iff.mp hi).1 hg
  have hb := hW.1
  have hw := (wI_iff.mp hi).1
  obtain ⟨C1, e1, ⟨t1, t2, t3, t4, t5⟩, f1, f2⟩ := h_goBack hS (w := w) (os := kO s) rfl (by show (kO s).length + 1 ≤ 12; omega)
  have hb2 : kB W (kN W s w) = (kP s, kO s, zor (kG s) (zshl 1 (w : Int))) := by
    show (wO W w (wO W w (kP s)), kO s, _) = _
    rw [wO_O hW hi]; rfl
  rw [hb2] at t1 t2 t3 t4 t5
  have t2 : C1 c 6 = ((kO s).length : Int) := t2
  have t3 : C1 c 7 = zor (kG s) (zshl 1 (w : Int)) := t3
  have hr : C (c + 1) (kO s).length = (w : Int) := hS.2.2.2.1.1
  unfold c_Walk_undoNew
  rw [e1, zbd_some, zg_t (by rw [t2]; omega)]
  refine ⟨_, rfl, ⟨?_, ?_, ?_, ?_, ?_⟩, ?_⟩
  · rw [zu_nj (by decide)]; exact t1
  · rw [zu_nj (by decide)]; exact t2
  · rw [zu_eq, t3, t2, Int.toNat_natCast, f2, hr]
    exact zbit_clear (by omega) hk.2.2.2.2.1 hg
  · rw [zu_nb (by omega)]; exact t4
  · rw [zu_nb (by omega)]; exact t5
  · refine kfr_tr f1 ⟨fun a h1 h2 h3 => zu_nb h1, fun j h1 h2 h3 => zu_nj h3⟩
/-- a step back taken back -/
theorem h_undoBack (hW : wOK W) (hR : RWd W C) (hk : kOK W s) {w : Nat} {os : List Nat} (ho : kO s = w :: os) (hS : RWk W (kB W s) c C) : ∃ C', c_Walk_undoBack c (w : Int) C = some (0, C') ∧ RWk W s c C' ∧ kfr c C C' := by
  have hl := kOK_len hk
  have hb := hW.1
  have hc := hk.2.1
  rw [ho] at hc hl
  have hw := (wI_iff.mp hc.1).1
  simp only [List.length_cons] at hl
  have hb2 : kB W s = (wO W w (kP s), os, kG s) := by unfold kB; rw [ho]
  obtain ⟨C1, e1, h1, f1⟩ := h_goNew hW hR hS (w := w) (by rw [hb2]; exact wI_O hW hc.1) (by rw [hb2]; show os.length < 12; omega)
  have e2 : kN W (kB W s) w = s := by
    rw [hb2]
    show (wO W w (wO W w (kP s)), w :: os, zor (kG s) (zshl 1 (w : Int))) = s
    rw [wO_O hW hc.1, zbit_set (by omega) hk.2.2.2.2.1 (hk.2.2.2.1 w (by rw [ho]; exact List.mem_cons_self)), ← ho]
    rfl
  rw [e2] at h1
  unfold c_Walk_undoBack
  rw [e1, zbd_some]
  exact ⟨_, rfl, h1, f1⟩
/-- a step: the walk's minutes and places told too -/
theorem h_stepZ (hW : wOK W) (hR : RWd W C) (hc : 13 ≤ c) (hk : kOK W s) (hS : RWk W s c C) {w k : Nat} (hkk : kK W s w = k) (h0 : k ≠ 0) :
    ∃ C', c_Walk_step c (w : Int) (k : Int) C = some (0, C') ∧ RWk W (kS W s w k) c C' ∧ (∀ a, a ≠ c → a ≠ c + 1 → a ≠ c + 2 → C' a = C a) ∧ C' c 4 = C c 4 ∧ C' c 10 = C c 10 ∧ C' c 11 = C c 11 ∧
      C' c 8 = zadd (C c 8) (wM W w : Int) ∧ C' c 9 = zor (C c 9) (zshl 1 (kP (kS W s w k) : Int)) := by
  have hle := kK_le (W := W) (s := s) (w := w)
  have hb := hW.1
  have hi : wI W w (kP s) = true := by
    by_cases h : wI W w (kP s) = true
    · exact h
    · exact absurd ((kK_0 h).symm.trans hkk).symm h0
  have hw := (wI_iff.mp hi).1
  have key : ∀ C1 : ZC, RWk W (kS W s w k) c C1 → kfr c C C1 → ∃ C', zg (0 ≤ (w : Int) ∧ (w : Int) < 12) (some ((0 : Int), zup2 (zup2 C1 c 8 (zadd (C1 c 8) (C1 12 (w : Int).toNat))) c 9 (zor ((zup2 C1 c 8 (zadd (C1 c 8) (C1 12 (w : Int).toNat))) c 9) (zshl 1 ((zup2 C1 c 8 (zadd (C1 c 8) (C1 12 (w : Int).toNat))) c 5))))) = some (0, C') ∧ RWk W (kS W s w k) c C' ∧ (∀ a, a ≠ c → a ≠ c + 1 → a ≠ c + 2 → C' a = C a) ∧ C' c 4 = C c 4 ∧ C' c 10 = C c 10 ∧ C' c 11 = C c 11 ∧ C' c 8 = zadd (C c 8) (wM W w : Int) ∧ C' c 9 = zor (C c 9) (zshl 1 (kP (kS W s w k) : Int)) := by
    intro C1 ⟨t1, t2, t3, t4, t5⟩ ⟨f1, f2⟩
    have hR1 : RWd W C1 := kfr_wd hc ⟨f1, f2⟩ hR
    have e12 := (hR1.2 w hw).2.2
    rw [zg_t (by omega), Int.toNat_natCast, e12, zu_nj (show (9 : Nat) ≠ 8 by decide), zu_nj (show (5 : Nat) ≠ 8 by decide), t1, f2 8 (by decide) (by decide) (by decide), f2 9 (by decide) (by decide) (by decide)]
    refine ⟨_, rfl, ⟨?_, ?_, ?_, ?_, ?_⟩, ?_, ?_, ?_, ?_, ?_, ?_⟩
    · rw [zu_nj (by decide), zu_nj (by decide)]; exact t1
    · rw [zu_nj (by decide), zu_nj (by decide)]; exact t2
    · rw [zu_nj (by decide), zu_nj (by decide)]; exact t3
    · rw [zu_nb (by omega), zu_nb (by omega)]; exact t4
    · rw [zu_nb (by omega), zu_nb (by omega)]; exact t5
    · intro a h1 h2 h3
      rw [zu_nb h1, zu_nb h1]; exact f1 a h1 h2 h3
    · rw [zu_nj (by decide), zu_nj (by decide)]; exact f2 4 (by decide) (by decide) (by decide)
    · rw [zu_nj (by decide), zu_nj (by decide)]; exact f2 10 (by decide) (by decide) (by decide)
    · rw [zu_nj (by decide), zu_nj (by decide)]; exact f2 11 (by decide) (by decide) (by decide)
    · rw [zu_nj (by decide), zu_eq]
    · rw [zu_eq]
  unfold c_Walk_step
  by_cases h1 : k = 1
  · subst h1
    have hg := (kK_1.mp hkk).2
    obtain ⟨C1, e1, t1, f1⟩ := h_goNew hW hR hS hi (by have := kOK_room hk hw hg; omega)
    rw [if_neg (by decide), e1, zbd_some]
    exact key C1 t1 f1
  · have h2 : k = 2 := by omega
    subst h2
    have hh := (kK_2.mp hkk).2.2
    cases ho : kO s with
    | nil => rw [ho] at hh; cases hh
    | cons v os =>
      rw [ho] at hh
      have hv : v = w := Option.some.inj hh
      subst hv
      have hl := kOK_len hk
      obtain ⟨C1, e1, t1, f1, -⟩ := h_goBack hS ho (by omega)
      rw [if_pos (by decide), e1, zbd_some]
      exact key C1 t1 f1
/-- a step of a walk whose minutes are told -/
theorem h_step (hW : wOK W) (hR : RWd W C) (hc : 13 ≤ c) (hk : kOK W s) (hS : RWk W s c C) {w k : Nat} (hkk : kK W s w = k) (h0 : k ≠ 0) (hsp : 0 ≤ C c 8 ∧ C c 8 < 1000000) :
    ∃ C', c_Walk_step c (w : Int) (k : Int) C = some (0, C') ∧ RWk W (kS W s w k) c C' ∧ (∀ a, a ≠ c → a ≠ c + 1 → a ≠ c + 2 → C' a = C a) ∧ C' c 4 = C c 4 ∧ C' c 10 = C c 10 ∧ C' c 11 = C c 11 ∧
      C' c 8 = C c 8 + (wM W w : Int) ∧ C' c 9 = zor (C c 9) (zshl 1 (kP (kS W s w k) : Int)) := by
  obtain ⟨C', e, u1, u2, u3, u4, u5, u6, u7⟩ := h_stepZ hW hR hc hk hS hkk h0
  have hi : wI W w (kP s) = true := by
    by_cases h : wI W w (kP s) = true
    · exact h
    · exact absurd ((kK_0 h).symm.trans hkk).symm h0
  have hm := hW.2 w (wI_iff.mp hi).1
  exact ⟨C', e, u1, u2, u3, u4, u5, u6.trans (zadd_e (by omega) (by omega)), u7⟩
theorem h_begin (hc : 13 ≤ c) {p : Nat} : ∃ C', c_Walk_begin c (p : Int) C = some (0, C') ∧ RWk W (p, [], 0) c C' ∧ (∀ a, a ≠ c → C' a = C a) ∧ C' c 4 = C c 4 ∧ C' c 10 = -1 ∧ C' c 11 = C c 11 ∧ C' c 8 = 0 ∧ C' c 9 = zshl 1 (p : Int) := by
  unfold c_Walk_begin
  refine ⟨_, rfl, ⟨?_, ?_, ?_, trivial, trivial⟩, ?_, ?_, ?_, ?_, ?_, ?_⟩
  · rw [zu_nj (by decide), zu_nj (by decide), zu_nj (by decide), zu_nj (by decide), zu_nj (by decide), zu_eq]; rfl
  · rw [zu_nj (by decide), zu_nj (by decide), zu_nj (by decide), zu_nj (by decide), zu_eq]; rfl
  · rw [zu_nj (by decide), zu_nj (by decide), zu_nj (by decide), zu_eq]; rfl
  · intro a h
    rw [zu_nb h, zu_nb h, zu_nb h, zu_nb h, zu_nb h, zu_nb h]
  · rw [zu_nj (by decide), zu_nj (by decide), zu_nj (by decide), zu_nj (by decide), zu_nj (by decide), zu_nj (by decide)]
  · rw [zu_eq]
  · rw [zu_nj (by decide), zu_nj (by decide), zu_nj (by decide), zu_nj (by decide), zu_nj (by decide), zu_nj (by decide)]
  · rw [zu_nj (by decide), zu_nj (by decide), zu_eq]
  · rw [zu_nj (by decide), zu_eq]
theorem RL_cpy {f g : Nat → Int} : ∀ {os : List Nat}, os.length ≤ 12 → RL f os → RL (zcpy f g 0 0 12) os
  | [], _, _ => trivial
  | w :: os, hl, h => by
    have hl2 : os.length + 1 ≤ 12 := hl
    refine ⟨?_, RL_cpy (by omega) h.2⟩
    unfold zcpy
    rw [if_pos (by omega)]
    have e : 0 + (os.length - 0) = os.length := by omega
    rw [e]
    exact h.1
/-- one walk becomes like another -/
theorem h_become (hW : wOK W) (hk : kOK W s) {c1 : Nat} (hd : c1 + 2 < c ∨ c + 2 < c1) (hS : RWk W s c1 C) : ∃ C', c_Walk_become c c1 C = some (0, C') ∧ RWk W s c C' ∧ (∀ a, a ≠ c → a ≠ c + 1 → a ≠ c + 2 → C' a = C a) ∧ C' c 4 = C c1 4 := by
  obtain ⟨t1, t2, t3, t4, t5⟩ := hS
  have hl := kOK_len hk
  have hb := hW.1
  unfold c_Walk_become
  rw [zg_t (by omega), zg_t (by omega)]
  have g2 : ∀ (g g' : Nat → Int) b, b ≠ c + 1 → b ≠ c + 2 → zrow (zrow C (c + 1) g) (c + 2) g' b = C b := fun g g' b h1 h2 => (zr_ne h2).trans (zr_ne h1)
  have r1 : zrow C (c + 1) (zcpy (C (c1 + 1)) (C (c + 1)) 0 0 12) (c1 + 2) = C (c1 + 2) := zr_ne (by omega)
  have r2 : zrow C (c + 1) (zcpy (C (c1 + 1)) (C (c + 1)) 0 0 12) (c + 2) = C (c + 2) := zr_ne (by omega)
  rw [r1, r2]
  simp only [zu_ne (show c1 ≠ c by omega), g2 _ _ c1 (by omega) (by omega), t1, t2, t3]
  refine ⟨_, rfl, ⟨?_, ?_, ?_, ?_, ?_⟩, ?_, ?_⟩
  · rw [zu_nj (by decide), zu_nj (by decide), zu_eq]
  · rw [zu_nj (by decide), zu_eq]
  · rw [zu_eq]
  · rw [zu_nb (by omega), zu_nb (by omega), zu_nb (by omega), zu_nb (by omega), zr_ne (by omega), zr_eq]
    exact RL_cpy (by omega) t4
  · rw [zu_nb (by omega), zu_nb (by omega), zu_nb (by omega), zu_nb (by omega), zr_eq]
    exact RL_cpy (by rw [bk_len]; omega) t5
  · intro a h1 h2 h3
    rw [zu_nb h1, zu_nb h1, zu_nb h1, zu_nb h1]
    exact g2 _ _ a h2 h3
  · rw [zu_nj (by decide), zu_nj (by decide), zu_nj (by decide), zu_eq]
end ZWALK2

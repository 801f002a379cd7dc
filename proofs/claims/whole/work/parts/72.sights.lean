/-! SIGHTS: from where somebody can have come: all rows of steps, and those that the class tries -/
/-- the sight next after a step -/
def nk (v p : Nat → Nat) (k w q : Nat) : Nat := if v k = w ∧ p k = q then k + 1 else k
/-- some n steps show the sights from k on -/
def sh (W : ZWd) (N : Nat) (v p : Nat → Nat) : Nat → ZWk → Nat → Prop
  | 0, _, k => N ≤ k
  | n + 1, s, k => N ≤ k ∨ ∃ w, kK W s w ≠ 0 ∧ sh W N v p n (kT W s w) (nk v p k w (kP (kT W s w)))
def SH (W : ZWd) (N : Nat) (v p : Nat → Nat) (s : ZWk) (k : Nat) : Prop := ∃ n, sh W N v p n s k
/-- the ways of the sights from k on can still be gone by -/
def lf (N : Nat) (v : Nat → Nat) (s : ZWk) (k : Nat) : Prop := ∀ i, k ≤ i → i < N → zbit (kG s) (v i) = false ∨ v i ∈ kO s
/-- what the class tries -/
def cl (W : ZWd) (N : Nat) (v p : Nat → Nat) : Nat → ZWk → Nat → Int → Prop
  | 0, _, k, _ => N ≤ k
  | n + 1, s, k, tr => N ≤ k ∨ (lf N v s k ∧ ∃ w, kK W s w ≠ 0 ∧ ((v k = w ∧ p k = kP (kT W s w)) ∨ (kK W s w = 2 ∧ tr = zshl 1 (kP s : Int)) ∨ (kK W s w = 1 ∧ zbit tr (kP (kT W s w)) = false)) ∧
      cl W N v p n (kT W s w) (nk v p k w (kP (kT W s w))) (if (v k = w ∧ p k = kP (kT W s w)) ∨ kK W s w = 2 then zshl 1 (kP (kT W s w) : Int) else zor tr (zshl 1 (kP (kT W s w) : Int))))
/-- one may stand as u as well as one stands as v: over X the same, below it u has R2 open, v has Z, both leading to one place -/
def Rd (W : ZWd) (u v : ZWk) : Prop := ∃ X R Z Y : List Nat, kO u = X ++ R ++ Y ∧ kO v = X ++ Z ++ Y ∧ kP u = kP v ∧ (∀ i, zbit (kG v) i = true → zbit (kG u) i = true) ∧ (∀ i, i ∈ R → zbit (kG v) i = false) ∧ kE W (kE W (kP u) X) R = kE W (kE W (kP u) X) Z ∧ (R = [] → Z = [])
section ZSIGHTS
variable {W : ZWd} {N : Nat} {v p : Nat → Nat} {s : ZWk}
theorem nk_ge {k w q : Nat} : k ≤ nk v p k w q := by unfold nk; split <;> omega
theorem sh_drop : ∀ n (s : ZWk) k, sh W N v p n s k → sh W N v p n s (k + 1)
  | 0, _, k, h => Nat.le_succ_of_le h
  | n + 1, s, k, h => by
    rcases h with h | ⟨w, h1, h2⟩
    · exact Or.inl (Nat.le_succ_of_le h)
    · have key : sh W N v p n (kT W s w) (k + 1) := by
        unfold nk at h2
        split at h2
        · exact h2
        · exact sh_drop n _ _ h2
      refine Or.inr ⟨w, h1, ?_⟩
      unfold nk
      split
      · exact sh_drop n _ _ key
      · exact key
theorem SH_drop {k : Nat} (h : SH W N v p s k) (w q : Nat) : SH W N v p s (nk v p k w q) := by
  unfold nk
  split
  · obtain ⟨n, hn⟩ := h
    exact ⟨n, sh_drop n _ _ hn⟩
  · exact h
theorem SH_step {k w : Nat} (h : kK W s w ≠ 0) (h2 : SH W N v p (kT W s w) (nk v p k w (kP (kT W s w)))) : SH W N v p s k := by
  obtain ⟨n, hn⟩ := h2
  exact ⟨n + 1, Or.inr ⟨w, h, hn⟩⟩
theorem kT_N {w : Nat} (h : kK W s w = 1) : kT W s w = kN W s w := by unfold kT kS; rw [if_pos h]
theorem kT_B {w : Nat} (h : kK W s w = 2) : kT W s w = kB W s := by unfold kT kS; rw [h, if_neg (by decide)]
/-- going back shows no less -/
theorem SH_back (hW : wOK W) : ∀ (Z : List Nat) (s : ZWk) (Y : List Nat) (k : Nat), kOK W s → kO s = Z ++ Y → SH W N v p (kE W (kP s) Z, Y, kG s) k → SH W N v p s k
  | [], s, Y, k, _, ho, h => by
    have e : s = (kP s, Y, kG s) := by
      have : kO s = Y := ho
      rw [← this]; rfl
    rw [e]; exact h
  | c :: Z, s, Y, k, hk, ho, h => by
    have hkk := kK_B hk (show kO s = c :: (Z ++ Y) from ho)
    have hb : kB W s = (wO W c (kP s), Z ++ Y, kG s) := by unfold kB; rw [ho]; rfl
    have h1 : SH W N v p (kB W s) k := by
      refine SH_back hW Z (kB W s) Y k (kOK_B hW hk) (by rw [hb]; rfl) ?_
      rw [hb]; exact h
    refine SH_step (w := c) (by rw [hkk]; decide) ?_
    rw [kT_B hkk]
    exact SH_drop h1 _ _
theorem kK_1' {w : Nat} (h1 : wI W w (kP s) = true) (h2 : zbit (kG s) w = false) : kK W s w = 1 := kK_1.mpr ⟨h1, h2⟩
theorem zbit_N {w i : Nat} (hw : w < 12) : zbit (kG (kN W s w)) i = (zbit (kG s) i || decide (i = w)) := by
  show zbit (zor (kG s) (zshl 1 (w : Int))) i = _
  rw [zbit_or]
  by_cases hi : i < 32
  · rw [zbit_sh1 w (by omega) i hi]
  · rw [zbit_hi _ i (by omega), zbit_hi _ i (by omega), decide_eq_false (by omega)]
/-- one step under the relation -/
theorem Rd_step (hW : wOK W) {n : Nat} (ih : ∀ (u v' : ZWk) (k : Nat), kOK W u → kOK W v' → Rd W u v' → sh W N v p n u k → SH W N v p v' k)
    {u v' : ZWk} (hu : kOK W u) (hv : kOK W v') (hr : Rd W u v') {w k : Nat} (hw : kK W u w ≠ 0) (h : sh W N v p n (kT W u w) k) : kK W v' w ≠ 0 ∧ SH W N v p (kT W v' w) k := by
  have hW1 := hW.1
  obtain ⟨X, R, Z, Y, o1, o2, e1, g1, g2, e2, e3⟩ := hr
  have hwn := kK_lt hw
  rcases kK_or hu hw with ⟨k1, t1, i1, z1⟩ | ⟨k2, t2, i2, os, ho⟩
  · -- a new way
    have zv : zbit (kG v') w = false := by
      cases hb : zbit (kG v') w with
      | false => rfl
      | true => rw [g1 w hb] at z1; cases z1
    have kv : kK W v' w = 1 := kK_1' (by rw [← e1]; exact i1) zv
    refine ⟨by rw [kv]; decide, ih _ _ _ (kOK_T hW hu hw) (kOK_T hW hv (by rw [kv]; decide)) ?_ h⟩
    rw [t1, kT_N kv]
    refine ⟨w :: X, R, Z, Y, ?_, ?_, ?_, fun i hi => ?_, fun i hi => ?_, ?_, e3⟩
    · show w :: kO u = _; rw [o1]; rfl
    · show w :: kO v' = _; rw [o2]; rfl
    · show wO W w (kP u) = wO W w (kP v'); rw [e1]
    · rw [zbit_N (by omega)] at hi ⊢
      rcases Bool.or_eq_true_iff.mp hi with q | q
      · rw [g1 i q]; rfl
      · rw [q, Bool.or_true]
    · rw [zbit_N (by omega), g2 i hi]
      have hiu := hu.2.2.2.1 i (by rw [o1]; exact List.mem_append_left _ (List.mem_append_right _ hi))
      have : i ≠ w := fun q => by rw [q, z1] at hiu; cases hiu
      rw [decide_eq_false this]; rfl
    · show kE W (kE W (wO W w (wO W w (kP u))) X) R = kE W (kE W (wO W w (wO W w (kP u))) X) Z
      rw [wO_O hW i1]; exact e2
  · -- back
    have hbu : kB W u = (wO W w (kP u), os, kG u) := by unfold kB; rw [ho]
    have hkB := kOK_B hW hu
    cases X with
    | cons x X =>
      have o1' : x :: (X ++ R ++ Y) = w :: os := by rw [← ho, o1]; rfl
      have ex : x = w := (List.cons.inj o1').1
      have eo : X ++ R ++ Y = os := (List.cons.inj o1').2
      subst ex
      have o2' : kO v' = x :: (X ++ Z ++ Y) := o2
      have kv := kK_B hv o2'
      have hbv : kB W v' = (wO W x (kP v'), X ++ Z ++ Y, kG v') := by unfold kB; rw [o2']
      refine ⟨by rw [kv]; decide, ih _ _ _ (kOK_T hW hu hw) (kOK_T hW hv (by rw [kv]; decide)) ?_ h⟩
      rw [t2, kT_B kv, hbu, hbv]
      refine ⟨X, R, Z, Y, eo.symm, rfl, ?_, g1, g2, ?_, e3⟩
      · show wO W x (kP u) = wO W x (kP v'); rw [e1]
      · exact e2
    | nil =>
      cases R with
      | cons c R =>
        have o1' : c :: (R ++ Y) = w :: os := by rw [← ho, o1]; rfl
        have ex : c = w := (List.cons.inj o1').1
        have eo : R ++ Y = os := (List.cons.inj o1').2
        subst ex
        have zv := g2 c List.mem_cons_self
        have kv : kK W v' c = 1 := kK_1' (by rw [← e1]; exact i2) zv
        have hkv := kOK_T hW hv (w := c) (by rw [kv]; decide)
        have gN : ∀ i, zbit (kG (kN W v' c)) i = true → zbit (kG u) i = true := by
          intro i hi
          rw [zbit_N (by omega)] at hi
          rcases Bool.or_eq_true_iff.mp hi with q | q
          · exact g1 i q
          · rw [of_decide_eq_true q]; exact hu.2.2.2.1 c (by rw [ho]; exact List.mem_cons_self)
        have hnd := hu.2.2.1
        rw [ho, ← eo] at hnd
        have hnd2 := List.nodup_cons.mp hnd
        refine ⟨by rw [kv]; decide, ?_⟩
        have o2' : kO (kN W v' c) = (c :: Z) ++ Y := by show c :: kO v' = _; rw [o2]; rfl
        have eE : kE W (kP (kN W v' c)) (c :: Z) = kE W (wO W c (kP u)) R := by
          show kE W (wO W c (wO W c (kP v'))) Z = _
          rw [← e1, wO_O hW i2]
          exact e2.symm
        cases R with
        | cons c2 R =>
          have eE2 : kE W (wO W c (kP u)) (c :: Z) = kE W (wO W c (kP u)) (c2 :: R) := by
            have ee : kP (kN W v' c) = wO W c (kP u) := by show wO W c (kP v') = _; rw [e1]
            rw [ee] at eE
            exact eE
          refine ih _ _ _ (kOK_T hW hu hw) hkv ?_ h
          rw [t2, kT_N kv, hbu]
          refine ⟨[], c2 :: R, c :: Z, Y, eo.symm, o2', ?_, gN, fun i hi => ?_, eE2.symm, fun q => by cases q⟩
          · show wO W c (kP u) = wO W c (kP v'); rw [e1]
          · rw [zbit_N (by omega), g2 i (List.mem_cons_of_mem _ hi)]
            have : i ≠ c := fun q => hnd2.1 (by rw [← q]; exact List.mem_append_left _ hi)
            rw [decide_eq_false this]; rfl
        | nil =>
          rw [kT_N kv]
          rw [kT_N kv] at hkv
          refine SH_back hW (c :: Z) _ Y k hkv o2' ?_
          rw [eE]
          have hY : Y = os := eo
          refine ih _ _ _ (kOK_T hW hu hw) ?_ ?_ h
          · -- the walk gone all back is in order
            have hall : ∀ (Z' : List Nat) (t : ZWk), kOK W t → ∀ Y', kO t = Z' ++ Y' → kOK W (kE W (kP t) Z', Y', kG t) := by
              intro Z'
              induction Z' with
              | nil =>
                intro t ht Y' hy
                have hy : kO t = Y' := hy
                rw [← hy]; exact ht
              | cons d Z' ihz =>
                intro t ht Y' hy
                have hb : kB W t = (wO W d (kP t), Z' ++ Y', kG t) := by unfold kB; rw [hy]; rfl
                have := ihz (kB W t) (kOK_B hW ht) Y' (by rw [hb]; rfl)
                rw [hb] at this
                exact this
            have := hall (c :: Z) _ hkv Y o2'
            rw [eE] at this
            exact this
          · rw [t2, hbu]
            exact ⟨[], [], [], Y, hY.symm, rfl, rfl, gN, fun i hi => (by cases hi), rfl, fun _ => rfl⟩
      | nil =>
        have hz := e3 rfl
        subst hz
        have o1' : Y = w :: os := by rw [← ho, o1]; rfl
        have o2' : kO v' = w :: os := by rw [o2, o1']; rfl
        have kv := kK_B hv o2'
        have hbv : kB W v' = (wO W w (kP v'), os, kG v') := by unfold kB; rw [o2']
        refine ⟨by rw [kv]; decide, ih _ _ _ (kOK_T hW hu hw) (kOK_T hW hv (by rw [kv]; decide)) ?_ h⟩
        rw [t2, kT_B kv, hbu, hbv]
        refine ⟨[], [], [], os, rfl, rfl, ?_, g1, fun i hi => (by cases hi), rfl, fun _ => rfl⟩
        show wO W w (kP u) = wO W w (kP v'); rw [e1]
theorem Rd_sim (hW : wOK W) : ∀ (n : Nat) (u v' : ZWk) (k : Nat), kOK W u → kOK W v' → Rd W u v' → sh W N v p n u k → SH W N v p v' k
  | 0, _, _, _, _, _, _, h => ⟨0, h⟩
  | n + 1, u, v', k, hu, hv, hr, h => by
    rcases h with h | ⟨w, h1, h2⟩
    · exact ⟨0, h⟩
    · obtain ⟨k1, k2⟩ := Rd_step hW (Rd_sim hW n) hu hv hr h1 h2
      refine SH_step k1 ?_
      have e : kP (kT W v' w) = kP (kT W u w) := by
        obtain ⟨X, R, Z, Y, _, _, e1, _⟩ := hr
        rw [kT_P hv k1, kT_P hu h1, e1]
      rw [e]; exact k2
theorem sh_lf (hW : wOK W) : ∀ (n : Nat) (s : ZWk) (k : Nat), kOK W s → sh W N v p n s k → lf N v s k
  | 0, _, k, _, h => fun i h1 h2 => absurd (Nat.le_trans h h1) (by omega)
  | n + 1, s, k, hk, h => by
    have hW1 := hW.1
    rcases h with h | ⟨w, h1, h2⟩
    · exact fun i h1 h2 => absurd (Nat.le_trans h h1) (by omega)
    · have ih := sh_lf hW n _ _ (kOK_T hW hk h1) h2
      have hwn := kK_lt h1
      -- a way that can be gone by then can be gone by now
      have back : ∀ x, zbit (kG (kT W s w)) x = false ∨ x ∈ kO (kT W s w) → zbit (kG s) x = false ∨ x ∈ kO s := by
        intro x hx
        rcases kK_or hk h1 with ⟨k1, t1, i1, z1⟩ | ⟨k2, t2, i2, os, ho⟩
        · rw [t1, zbit_N (by omega)] at hx
          rcases hx with hx | hx
          · exact Or.inl (by cases hz : zbit (kG s) x with | false => rfl | true => rw [hz] at hx; cases hx)
          · rcases List.mem_cons.mp (show x ∈ w :: kO s from hx) with q | q
            · rw [q]; exact Or.inl z1
            · exact Or.inr q
        · have hb : kB W s = (wO W w (kP s), os, kG s) := by unfold kB; rw [ho]
          rw [t2, hb] at hx
          exact hx.imp id fun q => by rw [ho]; exact List.mem_cons_of_mem _ q
      intro i hi1 hi2
      by_cases e : i < nk v p k w (kP (kT W s w))
      · have e2 : v k = w ∧ i = k := by
          unfold nk at e
          split at e
          · next q => exact ⟨q.1, by omega⟩
          · omega
        rw [e2.2, e2.1]
        rcases kK_or hk h1 with ⟨k1, t1, i1, z1⟩ | ⟨k2, t2, i2, os, ho⟩
        · exact Or.inl z1
        · exact Or.inr (by rw [ho]; exact List.mem_cons_self)
      · exact back _ (ih i (by omega) hi2)
/-- what the class finds can be -/
theorem cl_sh : ∀ (n : Nat) (s : ZWk) (k : Nat) (tr : Int), cl W N v p n s k tr → sh W N v p n s k
  | 0, _, _, _, h => h
  | n + 1, s, k, tr, h => by
    rcases h with h | ⟨_, w, h1, _, h3⟩
    · exact Or.inl h
    · exact Or.inr ⟨w, h1, cl_sh n _ _ _ h3⟩
end ZSIGHTS

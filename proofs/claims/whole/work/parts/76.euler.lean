/-! ROADS: sets of free ways; a set that hangs together, odd at its two ends alone, can be gone through -/
/-- free ways: i < f stands for the way fr i -/
def fa (W : ZWd) (fr : Nat → Nat) (i : Nat) : Nat := wA W (fr i)
def fb (W : ZWd) (fr : Nat → Nat) (i : Nat) : Nat := wB W (fr i)
def fc (W : ZWd) (fr : Nat → Nat) (i : Nat) : Nat := wM W (fr i) * 64 + 1
/-- what hangs together with S by ways of X -/
def cn (W : ZWd) (f : Nat) (fr : Nat → Nat) (X : Nat → Bool) (S : Nat → Prop) (q : Nat) : Prop := ∃ k, ly f (fa W fr) (fb W fr) (fun i => X i = true) S k q
/-- whether oddly many ways of X end at q -/
def px (W : ZWd) (fr : Nat → Nat) (X : Nat → Bool) (q : Nat) : Nat → Bool
  | 0 => false
  | k + 1 => px W fr X q k ^^ (X k && (decide (fa W fr k = q) ^^ decide (fb W fr k = q)))
def del (X : Nat → Bool) (i : Nat) : Nat → Bool := fun j => X j && !decide (j = i)
def xs (g : Nat → Bool) : Nat → Bool
  | 0 => false
  | k + 1 => xs g k ^^ g k
section ZEULER
variable {W : ZWd} {f : Nat} {fr : Nat → Nat} {X : Nat → Bool} {S : Nat → Prop}
theorem cn_0 {q : Nat} (h : S q) : cn W f fr X S q := ⟨0, h⟩
theorem cn_in {C : Nat → Prop} (h0 : ∀ q, S q → C q) (h1 : ∀ i, i < f → X i = true → (C (fa W fr i) ↔ C (fb W fr i))) {q : Nat} (h : cn W f fr X S q) : C q := by
  obtain ⟨k, hk⟩ := h
  exact ly_in h0 h1 k q hk
theorem cn_st {i : Nat} (hi : i < f) (hx : X i = true) : cn W f fr X S (fa W fr i) ↔ cn W f fr X S (fb W fr i) :=
  ⟨fun ⟨k, h⟩ => ⟨k + 1, Or.inr ⟨i, hi, hx, Or.inr ⟨rfl, h⟩⟩⟩, fun ⟨k, h⟩ => ⟨k + 1, Or.inr ⟨i, hi, hx, Or.inl ⟨rfl, h⟩⟩⟩⟩
theorem cn_mono {X' : Nat → Bool} {S' : Nat → Prop} (hS : ∀ q, S q → cn W f fr X' S' q) (hX : ∀ i, i < f → X i = true → X' i = true) {q : Nat} (h : cn W f fr X S q) : cn W f fr X' S' q :=
  cn_in hS (fun i hi hx => cn_st hi (hX i hi hx)) h
theorem xs_cg {g g' : Nat → Bool} : ∀ {k : Nat}, (∀ q, q < k → g q = g' q) → xs g k = xs g' k
  | 0, _ => rfl
  | k + 1, h => by
    unfold xs
    rw [xs_cg (fun q hq => h q (by omega)), h k (Nat.lt_succ_self k)]
theorem xs_add {g g' : Nat → Bool} : ∀ k, xs (fun q => g q ^^ g' q) k = (xs g k ^^ xs g' k)
  | 0 => rfl
  | k + 1 => by
    unfold xs
    rw [xs_add k]
    cases xs g k <;> cases xs g' k <;> cases g k <;> cases g' k <;> rfl
theorem xs_pt {K : Nat → Bool} {a : Nat} : ∀ k, xs (fun q => K q && decide (a = q)) k = (decide (a < k) && K a)
  | 0 => by rw [decide_eq_false (Nat.not_lt_zero a)]; rfl
  | k + 1 => by
    unfold xs
    rw [xs_pt k]
    by_cases e : a = k
    · subst e
      rw [decide_eq_false (Nat.lt_irrefl a), decide_eq_true (Nat.lt_succ_self a), decide_eq_true rfl]
      cases K a <;> rfl
    · have e1 : decide (a < k + 1) = decide (a < k) := by
        by_cases q : a < k
        · rw [decide_eq_true q, decide_eq_true (by omega)]
        · rw [decide_eq_false q, decide_eq_false (by omega)]
      rw [e1, decide_eq_false e]
      cases decide (a < k) <;> cases K a <;> cases K k <;> rfl
/-- a set of places that no way of X leads out of holds evenly many odd ones -/
theorem px_even (hab : ∀ i, i < f → fa W fr i < 8 ∧ fb W fr i < 8) {K : Nat → Bool} : ∀ k, k ≤ f → (∀ i, i < k → X i = true → K (fa W fr i) = K (fb W fr i)) → xs (fun q => K q && px W fr X q k) 8 = false
  | 0, _, _ => by
    have e : xs (fun q => K q && px W fr X q 0) 8 = xs (fun _ => false) 8 := xs_cg (fun q _ => Bool.and_false (K q))
    rw [e]
    rfl
  | k + 1, hk, h => by
    have ih := px_even hab k (by omega) (fun i hi => h i (by omega))
    obtain ⟨h1, h2⟩ := hab k (by omega)
    cases hx : X k with
    | false =>
      rw [xs_cg (g' := fun q => K q && px W fr X q k) (fun q _ => ?_)]
      · exact ih
      · show (K q && (px W fr X q k ^^ (X k && _))) = _
        rw [hx, Bool.false_and, Bool.xor_false]
    | true =>
      rw [xs_cg (g' := fun q => (K q && px W fr X q k) ^^ ((K q && decide (fa W fr k = q)) ^^ (K q && decide (fb W fr k = q)))) (fun q _ => ?_)]
      · rw [xs_add, xs_add, ih, xs_pt, xs_pt, decide_eq_true h1, decide_eq_true h2, h k (Nat.lt_succ_self k) hx]
        cases K (fb W fr k) <;> rfl
      · show (K q && (px W fr X q k ^^ (X k && _))) = _
        rw [hx]
        cases K q <;> cases px W fr X q k <;> cases decide (fa W fr k = q) <;> cases decide (fb W fr k = q) <;> rfl
theorem del_1 {i j : Nat} : del X i j = true ↔ X j = true ∧ j ≠ i := by
  unfold del
  rw [Bool.and_eq_true, Bool.not_eq_true', decide_eq_false_iff_not]
theorem px_cg {X' : Nat → Bool} {q : Nat} : ∀ {k : Nat}, (∀ i, i < k → X i = X' i) → px W fr X q k = px W fr X' q k
  | 0, _ => rfl
  | k + 1, h => by
    unfold px
    rw [px_cg (fun i hi => h i (by omega)), h k (Nat.lt_succ_self k)]
theorem px_del {i q : Nat} (hx : X i = true) : ∀ k, i < k → px W fr X q k = (px W fr (del X i) q k ^^ (decide (fa W fr i = q) ^^ decide (fb W fr i = q)))
  | 0, h => absurd h (Nat.not_lt_zero _)
  | k + 1, h => by
    unfold px
    by_cases e : i = k
    · subst e
      have e1 : px W fr (del X i) q i = px W fr X q i := px_cg (fun j hj => by unfold del; rw [decide_eq_false (by omega)]; simp)
      have e2 : del X i i = false := by unfold del; rw [decide_eq_true rfl]; simp
      rw [e1, e2, hx]
      cases px W fr X q i <;> simp
    · have e2 : del X i k = X k := by unfold del; rw [decide_eq_false (by omega)]; simp
      rw [px_del hx k (by omega), e2]
      cases px W fr (del X i) q k <;> cases X k <;> cases decide (fa W fr i = q) <;> cases decide (fb W fr i = q) <;> cases decide (fa W fr k = q) <;> cases decide (fb W fr k = q) <;> rfl
theorem wI_ends (hW : wOK W) {w p : Nat} (h : wI W w p = true) : (wA W w = p ∧ wB W w = wO W w p) ∨ (wB W w = p ∧ wA W w = wO W w p) := by
  have h1 := wI_iff.mp h
  have h2 := hW.2 w h1.1
  unfold wO
  by_cases e : wA W w = p
  · rw [if_pos e]; exact Or.inl ⟨e, rfl⟩
  · rw [if_neg e]; exact Or.inr ⟨h1.2.resolve_left e, rfl⟩
/-- the first way of a road, behind which the rest is a road too -/
theorem fleury (hW : wOK W) (hfr : ∀ i, i < f → fr i < wN W) {R : Nat → Bool} {p h : Nat} (hp : p < 8) (hh : h < 8) (hR : ∀ i, R i = true → i < f) (odd : ∀ q, q < 8 → px W fr R q f = (decide (q = p) ^^ decide (q = h)))
    (conn : ∀ i, R i = true → cn W f fr R (fun q => q = p) (fa W fr i)) (hne : ∃ i, R i = true) :
    ∃ i, R i = true ∧ wI W (fr i) p = true ∧ (∀ q, q < 8 → px W fr (del R i) q f = (decide (q = wO W (fr i) p) ^^ decide (q = h))) ∧ ∀ j, del R i j = true → cn W f fr (del R i) (fun q => q = wO W (fr i) p) (fa W fr j) := by
  have hab : ∀ i, i < f → fa W fr i < 8 ∧ fb W fr i < 8 := fun i hi => ⟨(hW.2 _ (hfr i hi)).1, (hW.2 _ (hfr i hi)).2.1⟩
  have hends : ∀ i, R i = true → wI W (fr i) p = true → ∀ q : Nat, (decide (fa W fr i = q) ^^ decide (fb W fr i = q)) = (decide (q = p) ^^ decide (q = wO W (fr i) p)) := by
    intro i _ hi q
    have c1 : ∀ a : Nat, decide (a = q) = decide (q = a) := fun a => by
      by_cases e : a = q
      · rw [decide_eq_true e, decide_eq_true e.symm]
      · rw [decide_eq_false e, decide_eq_false (fun z => e z.symm)]
    rcases wI_ends hW hi with ⟨e1, e2⟩ | ⟨e1, e2⟩
    · unfold fa fb; rw [e1, e2, c1, c1]
    · unfold fa fb; rw [e1, e2, c1, c1, Bool.xor_comm]
  have hodd : ∀ i, R i = true → wI W (fr i) p = true → ∀ q, q < 8 → px W fr (del R i) q f = (decide (q = wO W (fr i) p) ^^ decide (q = h)) := by
    intro i hi hw q hq
    have h1 := px_del (W := W) (fr := fr) (q := q) hi f (hR i hi)
    rw [odd q hq, hends i hi hw q] at h1
    revert h1
    cases px W fr (del R i) q f <;> cases decide (q = p) <;> cases decide (q = h) <;> cases decide (q = wO W (fr i) p) <;> simp
  -- a way at p
  have hat : ∃ i, R i = true ∧ wI W (fr i) p = true := by
    obtain ⟨i0, hi0⟩ := hne
    have key : fa W fr i0 = p ∨ ∃ i, R i = true ∧ wI W (fr i) p = true := by
      refine cn_in (C := fun q => q = p ∨ ∃ i, R i = true ∧ wI W (fr i) p = true) (fun q hq => Or.inl hq) (fun i hi hx => ?_) (conn i0 hi0)
      constructor
      · rintro (e | e)
        · exact Or.inr ⟨i, hx, wI_iff.mpr ⟨hfr i hi, Or.inl e⟩⟩
        · exact Or.inr e
      · rintro (e | e)
        · exact Or.inr ⟨i, hx, wI_iff.mpr ⟨hfr i hi, Or.inr e⟩⟩
        · exact Or.inr e
    rcases key with e | e
    · exact ⟨i0, hi0, wI_iff.mpr ⟨hfr i0 (hR i0 hi0), Or.inl e⟩⟩
    · exact e
  -- good, if one can come back to p without it
  have good : ∀ i, R i = true → wI W (fr i) p = true → cn W f fr (del R i) (fun q => q = wO W (fr i) p) p → ∀ j, del R i j = true → cn W f fr (del R i) (fun q => q = wO W (fr i) p) (fa W fr j) := by
    intro i hi hw hb j hj
    refine cn_in (fun q hq => by rw [hq]; exact hb) (fun k hk hx => ?_) (conn j (del_1.mp hj).1)
    by_cases e : k = i
    · subst e
      have hp' : cn W f fr (del R k) (fun q => q = wO W (fr k) p) (wO W (fr k) p) := cn_0 rfl
      rcases wI_ends hW hw with ⟨e1, e2⟩ | ⟨e1, e2⟩
      · unfold fa fb; rw [e1, e2]; exact ⟨fun _ => hp', fun _ => hb⟩
      · unfold fa fb; rw [e1, e2]; exact ⟨fun _ => hb, fun _ => hp'⟩
    · exact cn_st hk (del_1.mpr ⟨hx, e⟩)
  -- else home lies beyond it
  have bad : ∀ i, R i = true → wI W (fr i) p = true → cn W f fr (del R i) (fun q => q = wO W (fr i) p) h := by
    intro i hi hw
    apply Classical.byContradiction
    intro hn
    have hto := wO_lt hW (p := p) (hfr i (hR i hi))
    let K : Nat → Bool := fun q => @decide (cn W f fr (del R i) (fun q => q = wO W (fr i) p) q) (Classical.propDecidable _)
    have hK : ∀ q, K q = true ↔ cn W f fr (del R i) (fun q => q = wO W (fr i) p) q := fun q => @decide_eq_true_iff _ (Classical.propDecidable _)
    have h1 := px_even (W := W) (fr := fr) (X := del R i) hab (K := K) f (Nat.le_refl _) (fun k hk hx => Bool.eq_iff_iff.mpr (by rw [hK, hK]; exact cn_st hk hx))
    have kp : K (wO W (fr i) p) = true := (hK _).mpr (cn_0 rfl)
    have kh : K h = false := by
      cases hz : K h with
      | false => rfl
      | true => exact absurd ((hK h).mp hz) hn
    have c1 : ∀ a q : Nat, decide (a = q) = decide (q = a) := fun a q => by
      by_cases e : a = q
      · rw [decide_eq_true e, decide_eq_true e.symm]
      · rw [decide_eq_false e, decide_eq_false (fun z => e z.symm)]
    rw [xs_cg (g' := fun q => (K q && decide (wO W (fr i) p = q)) ^^ (K q && decide (h = q))) (fun q hq => ?_)] at h1
    · rw [xs_add, xs_pt, xs_pt, decide_eq_true hto, decide_eq_true hh, kp, kh] at h1
      cases h1
    · show (K q && px W fr (del R i) q f) = _
      rw [hodd i hi hw q hq, c1 q _, c1 q h]
      cases K q <;> cases decide (wO W (fr i) p = q) <;> cases decide (h = q) <;> rfl
  obtain ⟨i, hi, hw⟩ := hat
  by_cases g1 : cn W f fr (del R i) (fun q => q = wO W (fr i) p) p
  · exact ⟨i, hi, hw, hodd i hi hw, good i hi hw g1⟩
  by_cases h2 : ∃ i2, R i2 = true ∧ i2 ≠ i ∧ wI W (fr i2) p = true
  · obtain ⟨i2, r2, n2, w2⟩ := h2
    by_cases g2 : cn W f fr (del R i2) (fun q => q = wO W (fr i2) p) p
    · exact ⟨i2, r2, w2, hodd i2 r2 w2, good i2 r2 w2 g2⟩
    · exfalso
      have b1 := bad i hi hw
      have b2 := bad i2 r2 w2
      -- what lies beyond i2 doesn't lie beyond i
      have hout : ¬ cn W f fr (del R i) (fun q => q = wO W (fr i) p) (wO W (fr i2) p) := by
        intro z
        have hst := cn_st (W := W) (fr := fr) (S := fun q => q = wO W (fr i) p) (hR i2 r2) (del_1.mpr ⟨r2, n2⟩)
        rcases wI_ends hW w2 with ⟨e1, e2⟩ | ⟨e1, e2⟩
        · unfold fa fb at hst; rw [e1, e2] at hst; exact g1 (hst.mpr z)
        · unfold fa fb at hst; rw [e1, e2] at hst; exact g1 (hst.mp z)
      have key : ∀ k q, ly f (fa W fr) (fb W fr) (fun j => del R i2 j = true) (fun q => q = wO W (fr i2) p) k q → ¬ cn W f fr (del R i) (fun q => q = wO W (fr i) p) q := by
        intro k
        induction k with
        | zero => intro q hq; rw [show q = wO W (fr i2) p from hq]; exact hout
        | succ k ih =>
          intro q hq
          rcases hq with hq | ⟨j, hj, hx, hq⟩
          · exact ih q hq
          · have hji : j ≠ i := by
              intro e
              subst e
              -- then p lies beyond i2
              have hx2 := hx
              rcases hq with ⟨e, hq⟩ | ⟨e, hq⟩
              · rcases wI_ends hW hw with ⟨e1, e2⟩ | ⟨e1, e2⟩
                · exact g2 ((cn_st hj hx2).mpr ⟨k, hq⟩ |> fun z => by rw [show fa W fr j = p from e1] at z; exact z)
                · exact g2 (by rw [show fb W fr j = p from e1] at hq; exact ⟨k, hq⟩)
              · rcases wI_ends hW hw with ⟨e1, e2⟩ | ⟨e1, e2⟩
                · exact g2 (by rw [show fa W fr j = p from e1] at hq; exact ⟨k, hq⟩)
                · exact g2 ((cn_st hj hx2).mp ⟨k, hq⟩ |> fun z => by rw [show fb W fr j = p from e1] at z; exact z)
            have hst := cn_st (W := W) (fr := fr) (S := fun q => q = wO W (fr i) p) hj (del_1.mpr ⟨(del_1.mp hx).1, hji⟩)
            rcases hq with ⟨e, hq⟩ | ⟨e, hq⟩
            · rw [← e]; exact fun z => ih _ hq (hst.mp z)
            · rw [← e]; exact fun z => ih _ hq (hst.mpr z)
      obtain ⟨k, hk⟩ := b2
      exact key k h hk b1
  · refine ⟨i, hi, hw, hodd i hi hw, fun j hj => ?_⟩
    have hj1 := del_1.mp hj
    have key : fa W fr j = p ∨ cn W f fr (del R i) (fun q => q = wO W (fr i) p) (fa W fr j) := by
      refine cn_in (C := fun q => q = p ∨ cn W f fr (del R i) (fun q => q = wO W (fr i) p) q) (fun q hq => Or.inl hq) (fun k hk hx => ?_) (conn j hj1.1)
      by_cases e : k = i
      · subst e
        have hp' : cn W f fr (del R k) (fun q => q = wO W (fr k) p) (wO W (fr k) p) := cn_0 rfl
        rcases wI_ends hW hw with ⟨e1, e2⟩ | ⟨e1, e2⟩
        · unfold fa fb; rw [e1, e2]; exact ⟨fun _ => Or.inr hp', fun _ => Or.inl rfl⟩
        · unfold fa fb; rw [e1, e2]; exact ⟨fun _ => Or.inl rfl, fun _ => Or.inr hp'⟩
      · have na : fa W fr k ≠ p := fun z => h2 ⟨k, hx, e, wI_iff.mpr ⟨hfr k hk, Or.inl z⟩⟩
        have nb : fb W fr k ≠ p := fun z => h2 ⟨k, hx, e, wI_iff.mpr ⟨hfr k hk, Or.inr z⟩⟩
        have hst := cn_st (W := W) (fr := fr) (S := fun q => q = wO W (fr i) p) hk (del_1.mpr ⟨hx, e⟩)
        exact ⟨fun z => Or.inr (hst.mp (z.resolve_left na)), fun z => Or.inr (hst.mpr (z.resolve_left nb))⟩
    exact key.resolve_left (fun z => h2 ⟨j, hj1.1, hj1.2, wI_iff.mpr ⟨hfr j (hR j hj1.1), Or.inl z⟩⟩)
end ZEULER

/-! Layer 2: programs over the ints, and what it is that the small machine's run refines one -/
abbrev ZRR : Type := Option ZV × ZS × ZC
abbrev zmn (a b : Int) : Int := if b < a then b else a
abbrev zmx (a b : Int) : Int := if a < b then b else a
def zg {A : Type} (c : Prop) [Decidable c] (x : Option A) : Option A := if c then x else none
def zbd {α β : Type} (e : Option (α × ZC)) (k : α → ZC → Option (β × ZC)) : Option (β × ZC) := match e with
  | some (a, C) => k a C
  | none => none
def zbs {α β : Type} (e : Option ((α ⊕ β) × ZC)) (k : α → ZC → Option (β × ZC)) : Option (β × ZC) := match e with
  | some (.inl a, C) => k a C
  | some (.inr b, C) => some (b, C)
  | none => none
def zloopN {X Y : Type} (body : X → ZC → Option ((X ⊕ Y) × ZC)) : Nat → X → ZC → Option (Y × ZC)
  | 0, _, _ => none
  | n + 1, x, C => match body x C with
    | some (.inl x', C') => zloopN body n x' C'
    | some (.inr y, C') => some (y, C')
    | none => none
theorem zloopN_mono1 {X Y : Type} {body : X → ZC → Option ((X ⊕ Y) × ZC)} : ∀ (n : Nat) (x : X) (C : ZC) (r : Y × ZC), zloopN body n x C = some r → zloopN body (n + 1) x C = some r
  | 0, _, _, _, h => by cases h
  | n + 1, x, C, r, h => by
    unfold zloopN at h ⊢
    cases hb : body x C with
    | none => rw [hb] at h; cases h
    | some o =>
      obtain ⟨o, C'⟩ := o
      rw [hb] at h
      cases o with
      | inl x' => exact zloopN_mono1 n x' C' r h
      | inr y => exact h
theorem zloopN_mono {X Y : Type} {body : X → ZC → Option ((X ⊕ Y) × ZC)} {n : Nat} (k : Nat) {x : X} {C : ZC} {r : Y × ZC} (h : zloopN body n x C = some r) : zloopN body (n + k) x C = some r := by
  induction k with
  | zero => exact h
  | succ k ih => exact zloopN_mono1 _ _ _ _ ih
theorem zloop_ex {X Y : Type} (body : X → ZC → Option ((X ⊕ Y) × ZC)) (x : X) (C : ZC) : ∃ R : Option (Y × ZC), ∀ r, R = some r ↔ ∃ n, zloopN body n x C = some r := by
  by_cases h : ∃ n r, zloopN body n x C = some r
  · obtain ⟨n, r, h⟩ := h
    refine ⟨some r, fun r' => ⟨fun e => ⟨n, by rw [h, e]⟩, fun ⟨m, hm⟩ => ?_⟩⟩
    have h1 := zloopN_mono m h
    have h2 := zloopN_mono n hm
    rw [Nat.add_comm] at h2
    exact h1.symm.trans h2
  · exact ⟨none, fun r => ⟨fun e => (by cases e), fun ⟨n, hn⟩ => absurd ⟨n, r, hn⟩ h⟩⟩
noncomputable def zloop {X Y : Type} (body : X → ZC → Option ((X ⊕ Y) × ZC)) (x : X) (C : ZC) : Option (Y × ZC) := Classical.choose (zloop_ex body x C)
theorem zloop_iff {X Y : Type} {body : X → ZC → Option ((X ⊕ Y) × ZC)} {x : X} {C : ZC} {r : Y × ZC} : zloop body x C = some r ↔ ∃ n, zloopN body n x C = some r := Classical.choose_spec (zloop_ex body x C) r
theorem zloop_eq {X Y : Type} {body : X → ZC → Option ((X ⊕ Y) × ZC)} {x : X} {C : ZC} : zloop body x C = match body x C with
    | some (.inl x', C') => zloop body x' C'
    | some (.inr y, C') => some (y, C')
    | none => none := by
  refine zopt fun r => ?_
  rw [zloop_iff]
  constructor
  · rintro ⟨n, hn⟩
    cases n with
    | zero => cases hn
    | succ n =>
      unfold zloopN at hn
      cases hb : body x C with
      | none => rw [hb] at hn; cases hn
      | some o =>
        obtain ⟨o, C'⟩ := o
        rw [hb] at hn
        cases o with
        | inl x' => exact zloop_iff.mpr ⟨n, hn⟩
        | inr y => exact hn
  · intro h
    cases hb : body x C with
    | none => rw [hb] at h; cases h
    | some o =>
      obtain ⟨o, C'⟩ := o
      rw [hb] at h
      cases o with
      | inl x' =>
        obtain ⟨n, hn⟩ := zloop_iff.mp (show zloop body x' C' = some r from h)
        refine ⟨n + 1, ?_⟩
        unfold zloopN
        rw [hb]
        exact hn
      | inr y =>
        refine ⟨1, ?_⟩
        unfold zloopN
        rw [hb]
        exact h
/-- a run refines a program: what the program answers, in the sense of k, the run answers -/
def zRq {A : Type} (k : A → ZC → ZRR → Prop) (e : Option (A × ZC)) (z : Option ZRR) : Prop := ∀ a C r, e = some (a, C) → k a C r → z = some r
def zKi (S : ZS) : Int → ZC → ZRR → Prop := fun v C r => r = (some (.inl v), S, C)
def zKv (S : ZS) : Int → ZC → ZRR → Prop := fun _ C r => r = (none, S, C)
def zKl (S : ZS) : Int → ZC → ZRR → Prop := fun v C r => r = (some (.inr (.inl v)), S, C)
def zKf {X J : Type} (f : X → J → ZC → Option ZRR) : X → ZC → ZRR → Prop := fun x C r => ∀ j, f x j C = some r
def zKs {A B : Type} (p : A → ZC → ZRR → Prop) (q : B → ZC → ZRR → Prop) : A ⊕ B → ZC → ZRR → Prop := fun o C r => match o with
  | .inl a => p a C r
  | .inr b => q b C r
section ZREFINE
variable {A B X Y J : Type} {k : A → ZC → ZRR → Prop} {e : Option (A × ZC)} {z z' : Option ZRR} {S : ZS}
theorem zRq_rw (h : z = z') (h2 : zRq k e z') : zRq k e z := by rw [h]; exact h2
theorem zRq_ite {c : Prop} [Decidable c] {e1 e2 : Option (A × ZC)} {z1 z2 : Option ZRR} (h1 : c → zRq k e1 z1) (h2 : ¬ c → zRq k e2 z2) : zRq k (if c then e1 else e2) (if c then z1 else z2) := by
  by_cases h : c
  · rw [if_pos h, if_pos h]; exact h1 h
  · rw [if_neg h, if_neg h]; exact h2 h
theorem zRq_g {c : Prop} [Decidable c] (h1 : c → zRq k e z) : zRq k (zg c e) (zG c z) := by
  unfold zg zG
  by_cases h : c
  · rw [if_pos h, if_pos h]; exact h1 h
  · rw [if_neg h, if_neg h]
    intro a C r h _
    cases h
theorem zRq_lf {a : A} {C : ZC} (h : ∀ r, k a C r → z = some r) : zRq k (some (a, C)) z := by
  intro a' C' r h1 h2
  cases h1
  exact h r h2
theorem zRq_rt {a : A} {C : ZC} {r0 : ZRR} (h : ∀ r, k a C r → r = r0) : zRq k (some (a, C)) (some r0) := zRq_lf fun r hr => congrArg some (h r hr).symm
theorem zRq_bd {kA : X → ZC → ZRR → Prop} {e1 : Option (X × ZC)} {e2 : X → ZC → Option (A × ZC)} (h1 : zRq kA e1 z) (h2 : ∀ x C a C' r, e2 x C = some (a, C') → k a C' r → kA x C r) : zRq k (zbd e1 e2) z := by
  intro a C' r h3 h4
  cases he : e1 with
  | none => rw [he] at h3; cases h3
  | some o =>
    obtain ⟨x, C⟩ := o
    rw [he] at h3
    exact h1 x C r he (h2 x C a C' r h3 h4)
theorem zRq_bdf {f : Y → J → ZC → Option ZRR} {e1 : Option (Y × ZC)} {e2 : Y → ZC → Option (A × ZC)} (h1 : zRq (zKf f) e1 z) (h2 : ∀ y j C, zRq k (e2 y C) (f y j C)) : zRq k (zbd e1 e2) z :=
  zRq_bd h1 fun x C a C' r h3 h4 j => h2 x j C a C' r h3 h4
theorem zRq_bsf {f : Y → J → ZC → Option ZRR} {e1 : Option ((Y ⊕ A) × ZC)} {e2 : Y → ZC → Option (A × ZC)} (h1 : zRq (zKs (zKf f) k) e1 z) (h2 : ∀ y j C, zRq k (e2 y C) (f y j C)) : zRq k (zbs e1 e2) z := by
  intro a C' r h3 h4
  cases he : e1 with
  | none => rw [he] at h3; cases h3
  | some o =>
    obtain ⟨o, C⟩ := o
    rw [he] at h3
    cases o with
    | inl y => exact h1 (.inl y) C r he fun j => h2 y j C a C' r h3 h4
    | inr b =>
      cases h3
      exact h1 (.inr a) C' r he h4
theorem zRq_loop {f : X → J → ZC → Option ZRR} {body : X → ZC → Option ((X ⊕ A) × ZC)} (h : ∀ x j C, zRq (zKs (zKf f) k) (body x C) (f x j C)) : ∀ x j C, zRq k (zloop body x C) (f x j C) := by
  have key : ∀ n x C a C' r, zloopN body n x C = some (a, C') → k a C' r → ∀ j, f x j C = some r := by
    intro n
    induction n with
    | zero => intro x C a C' r h1; cases h1
    | succ n ih =>
      intro x C a C' r h1 h2 j
      unfold zloopN at h1
      cases hb : body x C with
      | none => rw [hb] at h1; cases h1
      | some o =>
        obtain ⟨o, C1⟩ := o
        rw [hb] at h1
        cases o with
        | inl x' => exact h x j C (.inl x') C1 r hb fun j' => ih x' C1 a C' r h1 h2 j'
        | inr y =>
          cases h1
          exact h x j C (.inr a) C' r hb h2
  intro x j C a C' r h1 h2
  obtain ⟨n, hn⟩ := zloop_iff.mp h1
  exact key n x C a C' r hn h2 j
variable {d M pc : Nat} {ls : ZL} {st : List ZV} {m : Option (Int × ZC)} {ek : Int → ZC → Option (A × ZC)}
theorem zRq_ci (hc : zRq (zKi S) m z) (h : ∀ v C, zRq k (ek v C) (zR d M pc ls (.inl v :: st) S C)) : zRq k (zbd m ek) (zB z (fun v S1 C1 => zR d M pc ls (v.toList ++ st) S1 C1)) := by
  intro a C' r h3 h4
  cases he : m with
  | none => rw [he] at h3; cases h3
  | some o =>
    obtain ⟨v, C⟩ := o
    rw [he] at h3
    rw [hc v C _ he rfl]
    exact h v C a C' r h3 h4
theorem zRq_cv (hc : zRq (zKv S) m z) (h : ∀ v C, zRq k (ek v C) (zR d M pc ls st S C)) : zRq k (zbd m ek) (zB z (fun v S1 C1 => zR d M pc ls (v.toList ++ st) S1 C1)) := by
  intro a C' r h3 h4
  cases he : m with
  | none => rw [he] at h3; cases h3
  | some o =>
    obtain ⟨v, C⟩ := o
    rw [he] at h3
    rw [hc v C _ he rfl]
    exact h v C a C' r h3 h4
theorem zRq_cl (hc : zRq (zKl S) m z) (h : ∀ v C, zRq k (ek v C) (zR d M pc ls (.inr (.inl v) :: st) S C)) : zRq k (zbd m ek) (zB z (fun v S1 C1 => zR d M pc ls (v.toList ++ st) S1 C1)) := by
  intro a C' r h3 h4
  cases he : m with
  | none => rw [he] at h3; cases h3
  | some o =>
    obtain ⟨v, C⟩ := o
    rw [he] at h3
    rw [hc v C _ he rfl]
    exact h v C a C' r h3 h4
end ZREFINE

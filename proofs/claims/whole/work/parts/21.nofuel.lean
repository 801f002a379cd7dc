/-! THE RUN WITHOUT FUEL, and its equations -/
theorem zrun_mono1 : ∀ (n d M pc : Nat) (ls : ZL) (st : List ZV) (S : ZS) (C : ZC) (r : Option ZV × ZS × ZC), zrun n d M pc ls st S C = some r → zrun (n + 1) d M pc ls st S C = some r := by
  intro n
  induction n with
  | zero => intro d M pc ls st S C r h; exact nomatch (show (none : Option (Option ZV × ZS × ZC)) = some _ from h)
  | succ n ih =>
    intro d M pc ls st S C r h
    unfold zrun at h
    unfold zrun
    cases hf : zfetch M pc with
    | none => rw [hf] at h; cases h
    | some ent =>
      obtain ⟨pc0, ins, len, ⟨x, y, z⟩, pl⟩ := ent
      rw [hf] at h
      dsimp only at h ⊢
      cases hz : zst ins x y z pc ls st S C with
      | some o =>
        obtain ⟨pc', ls', st', S1, C1⟩ := o
        rw [hz] at h
        dsimp only at h ⊢
        exact ih _ _ _ _ _ _ _ _ h
      | none =>
        rw [hz] at h
        dsimp only at h ⊢
        cases hre : zret ins (zbool M) st with
        | some v0 =>
          rw [hre] at h
          exact h
        | none =>
          rw [hre] at h
          dsimp only at h ⊢
          cases d with
          | zero => cases h
          | succ d =>
            dsimp only at h ⊢
            by_cases hx : 1000 ≤ x
            · rw [if_pos hx] at h ⊢
              cases hn : znat ins x pc ls st S C with
              | none => rw [hn] at h; cases h
              | some o =>
                obtain ⟨pc', ls', st', S1, C1⟩ := o
                rw [hn] at h
                dsimp only at h ⊢
                exact ih _ _ _ _ _ _ _ _ h
            · rw [if_neg hx] at h ⊢
              cases hcl : zcall ins x y st S with
              | none => rw [hcl] at h; cases h
              | some ar =>
                obtain ⟨as, r0⟩ := ar
                rw [hcl] at h
                dsimp only at h ⊢
                cases hru : zrun n d x 0 (zent (zml x) as) [] S C with
                | none => rw [hru] at h; cases h
                | some res =>
                  rw [ih _ _ _ _ _ _ _ _ hru]
                  obtain ⟨v1, S1, C1⟩ := res
                  rw [hru] at h
                  dsimp only at h ⊢
                  exact ih _ _ _ _ _ _ _ _ h
theorem zrun_mono {n k d M pc : Nat} {ls : ZL} {st : List ZV} {S : ZS} {C : ZC} {r : Option ZV × ZS × ZC} (h : zrun n d M pc ls st S C = some r) : zrun (n + k) d M pc ls st S C = some r := by
  induction k with
  | zero => exact h
  | succ k ih => exact zrun_mono1 _ _ _ _ _ _ _ _ _ ih
theorem zrun_det {n m d M pc : Nat} {ls : ZL} {st : List ZV} {S : ZS} {C : ZC} {r r' : Option ZV × ZS × ZC} (h : zrun n d M pc ls st S C = some r) (h' : zrun m d M pc ls st S C = some r') : r = r' := by
  have h1 := zrun_mono (k := m) h
  have h2 := zrun_mono (k := n) h'
  rw [Nat.add_comm] at h2
  exact Option.some.inj (h1.symm.trans h2)
theorem zR_ex (d M pc : Nat) (ls : ZL) (st : List ZV) (S : ZS) (C : ZC) : ∃ R : Option (Option ZV × ZS × ZC), ∀ r, R = some r ↔ ∃ n, zrun n d M pc ls st S C = some r := by
  by_cases h : ∃ n r, zrun n d M pc ls st S C = some r
  · obtain ⟨n, r, h⟩ := h
    refine ⟨some r, fun r' => ⟨fun e => ⟨n, by rw [h, e]⟩, fun ⟨m, hm⟩ => by rw [zrun_det h hm]⟩⟩
  · exact ⟨none, fun r => ⟨fun e => (by cases e), fun ⟨n, hn⟩ => absurd ⟨n, r, hn⟩ h⟩⟩
noncomputable def zR (d M pc : Nat) (ls : ZL) (st : List ZV) (S : ZS) (C : ZC) : Option (Option ZV × ZS × ZC) := Classical.choose (zR_ex d M pc ls st S C)
theorem zR_iff {d M pc : Nat} {ls : ZL} {st : List ZV} {S : ZS} {C : ZC} {r : Option ZV × ZS × ZC} : zR d M pc ls st S C = some r ↔ ∃ n, zrun n d M pc ls st S C = some r := Classical.choose_spec (zR_ex d M pc ls st S C) r
def zB (r : Option (Option ZV × ZS × ZC)) (k : Option ZV → ZS → ZC → Option (Option ZV × ZS × ZC)) : Option (Option ZV × ZS × ZC) := match r with
  | some (v, S, C) => k v S C
  | none => none
theorem zB_some {v : Option ZV} {S : ZS} {C : ZC} {k : Option ZV → ZS → ZC → Option (Option ZV × ZS × ZC)} : zB (some (v, S, C)) k = k v S C := rfl
def zG (c : Prop) [Decidable c] (x : Option (Option ZV × ZS × ZC)) : Option (Option ZV × ZS × ZC) := if c then x else none
theorem zG_t {c : Prop} [Decidable c] {x : Option (Option ZV × ZS × ZC)} (h : c) : zG c x = x := if_pos h
theorem zopt {α : Type} {a b : Option α} (h : ∀ r, a = some r ↔ b = some r) : a = b := Option.ext h
section ZREQ
variable {d M pc : Nat} {ls : ZL} {st : List ZV} {S : ZS} {C : ZC}
theorem zR_eqs {d' M' pc' : Nat} {ls' : ZL} {st' : List ZV} {S' : ZS} {C' : ZC} (h : ∀ n, zrun (n + 1) d M pc ls st S C = zrun n d' M' pc' ls' st' S' C') : zR d M pc ls st S C = zR d' M' pc' ls' st' S' C' := by
  refine zopt fun r => ?_
  rw [zR_iff, zR_iff]
  constructor
  · rintro ⟨n, hn⟩
    cases n with
    | zero => exact nomatch (show (none : Option (Option ZV × ZS × ZC)) = some _ from hn)
    | succ n => exact ⟨n, by rw [← h n]; exact hn⟩
  · rintro ⟨n, hn⟩
    exact ⟨n + 1, by rw [h n]; exact hn⟩
theorem zR_none (h : ∀ n, zrun (n + 1) d M pc ls st S C = none) : zR d M pc ls st S C = none := by
  refine zopt fun r => ?_
  rw [zR_iff]
  constructor
  · rintro ⟨n, hn⟩
    cases n with
    | zero => exact nomatch (show (none : Option (Option ZV × ZS × ZC)) = some _ from hn)
    | succ n => rw [h n] at hn; cases hn
  · intro h; cases h
variable {pc0 len x y pl : Nat} {z : Int} {ins : Instr} {o o2 : ZO}
theorem zR_step (hf : zfetch M pc = some (pc0, ins, len, (x, y, z), pl)) (hz : zst ins x y z pc ls st S C = some o) : zR d M pc ls st S C = zR d M o.1 o.2.1 o.2.2.1 o.2.2.2.1 o.2.2.2.2 := by
  refine zR_eqs fun n => ?_
  rw [zrun, hf]
  dsimp only
  rw [hz]
theorem zR_ret {v : Option ZV} (hf : zfetch M pc = some (pc0, ins, len, (x, y, z), pl)) (hz : zst ins x y z pc ls st S C = none) (hr : zret ins (zbool M) st = some v) : zR d M pc ls st S C = some (v, S, C) := by
  refine zR_iff.mpr ⟨1, ?_⟩
  rw [zrun, hf]
  dsimp only
  rw [hz]
  dsimp only
  rw [hr]
theorem zR_if {q : Prop} [Decidable q] (hf : zfetch M pc = some (pc0, ins, len, (x, y, z), pl)) (hz : zst ins x y z pc ls st S C = if q then some o else some o2) : zR d M pc ls st S C = if q then zR d M o.1 o.2.1 o.2.2.1 o.2.2.2.1 o.2.2.2.2 else zR d M o2.1 o2.2.1 o2.2.2.1 o2.2.2.2.1 o2.2.2.2.2 := by
  by_cases h : q
  · rw [if_pos h] at hz ⊢
    exact zR_step hf hz
  · rw [if_neg h] at hz ⊢
    exact zR_step hf hz
/-- an instruction that goes on only under a condition, and is no return and no call -/
theorem zR_gd {q : Prop} [Decidable q] (hf : zfetch M pc = some (pc0, ins, len, (x, y, z), pl)) (hr : zret ins (zbool M) st = none) (hx : x < 1000) (hc : zcall ins x y st S = none) (hz : zst ins x y z pc ls st S C = if q then some o else none) : zR d M pc ls st S C = zG q (zR d M o.1 o.2.1 o.2.2.1 o.2.2.2.1 o.2.2.2.2) := by
  by_cases h : q
  · rw [if_pos h] at hz
    rw [zG_t h]
    exact zR_step hf hz
  · rw [if_neg h] at hz
    unfold zG
    rw [if_neg h]
    refine zR_none fun n => ?_
    rw [zrun, hf]
    dsimp only
    rw [hz]
    dsimp only
    rw [hr]
    dsimp only
    cases d with
    | zero => rfl
    | succ d =>
      dsimp only
      rw [if_neg (by omega), hc]
theorem zR_nat (hf : zfetch M pc = some (pc0, ins, len, (x, y, z), pl)) (hz : zst ins x y z pc ls st S C = none) (hr : zret ins (zbool M) st = none) (hx : 1000 ≤ x) (hn : znat ins x pc ls st S C = some o) : zR (d + 1) M pc ls st S C = zR (d + 1) M o.1 o.2.1 o.2.2.1 o.2.2.2.1 o.2.2.2.2 := by
  refine zR_eqs fun n => ?_
  rw [zrun, hf]
  dsimp only
  rw [hz]
  dsimp only
  rw [hr]
  dsimp only
  rw [if_pos hx, hn]
theorem zR_call {as r : List ZV} (hf : zfetch M pc = some (pc0, ins, len, (x, y, z), pl)) (hz : zst ins x y z pc ls st S C = none) (hr : zret ins (zbool M) st = none) (hx : x < 1000) (hc : zcall ins x y st S = some (as, r)) : zR (d + 1) M pc ls st S C = zB (zR d x 0 (zent (zml x) as) [] S C) (fun v S' C' => zR (d + 1) M (pc + 3) ls (v.toList ++ r) S' C') := by
  have key : ∀ n, zrun (n + 1) (d + 1) M pc ls st S C = match zrun n d x 0 (zent (zml x) as) [] S C with
      | none => none
      | some (v, S', C') => zrun n (d + 1) M (pc + 3) ls (v.toList ++ r) S' C' := by
    intro n
    rw [zrun, hf]
    dsimp only
    rw [hz]
    dsimp only
    rw [hr]
    dsimp only
    rw [if_neg (by omega), hc]
    rfl
  refine zopt fun r' => ?_
  rw [zR_iff]
  constructor
  · rintro ⟨n, hn⟩
    cases n with
    | zero => exact nomatch (show (none : Option (Option ZV × ZS × ZC)) = some _ from hn)
    | succ n =>
      rw [key n] at hn
      cases hru : zrun n d x 0 (zent (zml x) as) [] S C with
      | none => rw [hru] at hn; cases hn
      | some res =>
        obtain ⟨v1, S1, C1⟩ := res
        rw [hru] at hn
        rw [zR_iff.mpr ⟨n, hru⟩]
        exact zR_iff.mpr ⟨n, hn⟩
  · intro h
    cases hB : zR d x 0 (zent (zml x) as) [] S C with
    | none => rw [hB] at h; cases h
    | some res =>
      obtain ⟨v1, S1, C1⟩ := res
      rw [hB] at h
      obtain ⟨n1, h1⟩ := zR_iff.mp hB
      obtain ⟨n2, h2⟩ := zR_iff.mp (show zR (d + 1) M (pc + 3) ls (v1.toList ++ r) S1 C1 = some r' from h)
      refine ⟨n1 + n2 + 1, ?_⟩
      rw [key, zrun_mono h1]
      dsimp only
      rw [Nat.add_comm]
      exact zrun_mono h2
end ZREQ

/-! The room only grows; what a return takes -/
def zP (S : ZS) (r : Option ZO) : Prop := ∀ o, r = some o → S.1.1 ≤ o.2.2.2.1.1.1 ∧ S.1.2 ≤ o.2.2.2.1.1.2
theorem zp_none {S : ZS} : zP S none := fun o h => by cases h
theorem zp_same {S S' : ZS} {a : Nat} {b : ZL} {d : List ZV} {C : ZC} (h1 : S.1.1 ≤ S'.1.1) (h2 : S.1.2 ≤ S'.1.2) : zP S (some (a, b, d, S', C)) := fun o h => by
  cases h
  exact ⟨h1, h2⟩
theorem zp_map {S : ZS} {a : Nat} {d : List ZV} {C : ZC} {r : Option ZL} : zP S (r.map fun l => (a, l, d, S, C)) := fun o h => by
  obtain ⟨l, -, rfl⟩ := Option.map_eq_some_iff.mp h
  exact ⟨Nat.le_refl _, Nat.le_refl _⟩
theorem zin_mono (k : Nat) : ∀ (n : Nat) (S : ZS) (C : ZC), S.1.1 ≤ (zin k n S C).1.1.1 ∧ S.1.2 ≤ (zin k n S C).1.1.2
  | 0, S, C => ⟨Nat.le_refl _, Nat.le_refl _⟩
  | n + 1, S, C => by
    have h := zin_mono k n (zmk S 8 k k) (zmkC S C)
    have h1 : (zmk S 8 k k).1.1 = S.1.1 + 1 := rfl
    have h2 : (zmk S 8 k k).1.2 = S.1.2 + k := rfl
    exact ⟨Nat.le_trans (by omega) h.1, Nat.le_trans (by omega) h.2⟩
section ZMONO
variable {x y pc k n : Nat} {z m : Int} {ls : ZL} {st : List ZV} {S : ZS} {C : ZC}
theorem zp_zo2 {g : Int32 → Int32 → Int32} : zP S (zo2 g pc ls st S C) := by
  unfold zo2
  repeat' split
  all_goals first
    | exact zp_none
    | exact zp_map
    | exact zp_same (Nat.le_refl _) (Nat.le_refl _)
    | exact zp_same (Nat.le_add_right _ _) (Nat.le_add_right _ _)
theorem zp_zo2d {g : Int32 → Int32 → Int32} : zP S (zo2d g pc ls st S C) := by
  unfold zo2d
  repeat' split
  all_goals first
    | exact zp_none
    | exact zp_map
    | exact zp_same (Nat.le_refl _) (Nat.le_refl _)
    | exact zp_same (Nat.le_add_right _ _) (Nat.le_add_right _ _)
theorem zp_zo1 {g : Int32 → Int32} : zP S (zo1 g pc ls st S C) := by
  unfold zo1
  repeat' split
  all_goals first
    | exact zp_none
    | exact zp_map
    | exact zp_same (Nat.le_refl _) (Nat.le_refl _)
    | exact zp_same (Nat.le_add_right _ _) (Nat.le_add_right _ _)
theorem zp_zo2l {g : Int64 → Int64 → Int64} : zP S (zo2l g pc ls st S C) := by
  unfold zo2l
  repeat' split
  all_goals first
    | exact zp_none
    | exact zp_map
    | exact zp_same (Nat.le_refl _) (Nat.le_refl _)
    | exact zp_same (Nat.le_add_right _ _) (Nat.le_add_right _ _)
theorem zp_zif1 {f : Int → Prop} [DecidablePred f] : zP S (zif1 f x pc ls st S C) := by
  unfold zif1
  repeat' split
  all_goals first
    | exact zp_none
    | exact zp_map
    | exact zp_same (Nat.le_refl _) (Nat.le_refl _)
    | exact zp_same (Nat.le_add_right _ _) (Nat.le_add_right _ _)
theorem zp_zif2 {f : Int → Int → Prop} [∀ a b, Decidable (f a b)] : zP S (zif2 f x pc ls st S C) := by
  unfold zif2
  repeat' split
  all_goals first
    | exact zp_none
    | exact zp_map
    | exact zp_same (Nat.le_refl _) (Nat.le_refl _)
    | exact zp_same (Nat.le_add_right _ _) (Nat.le_add_right _ _)
theorem zp_zsw {a b c : Int} {o : Array Int} : zP S (zsw a b c o pc ls st S C) := by
  unfold zsw
  repeat' split
  all_goals first
    | exact zp_none
    | exact zp_map
    | exact zp_same (Nat.le_refl _) (Nat.le_refl _)
    | exact zp_same (Nat.le_add_right _ _) (Nat.le_add_right _ _)
theorem zp_zi2l  : zP S (zi2l pc ls st S C) := by
  unfold zi2l
  repeat' split
  all_goals first
    | exact zp_none
    | exact zp_map
    | exact zp_same (Nat.le_refl _) (Nat.le_refl _)
    | exact zp_same (Nat.le_add_right _ _) (Nat.le_add_right _ _)
theorem zp_zlcmp  : zP S (zlcmp pc ls st S C) := by
  unfold zlcmp
  repeat' split
  all_goals first
    | exact zp_none
    | exact zp_map
    | exact zp_same (Nat.le_refl _) (Nat.le_refl _)
    | exact zp_same (Nat.le_add_right _ _) (Nat.le_add_right _ _)
theorem zp_zdup  : zP S (zdup pc ls st S C) := by
  unfold zdup
  repeat' split
  all_goals first
    | exact zp_none
    | exact zp_map
    | exact zp_same (Nat.le_refl _) (Nat.le_refl _)
    | exact zp_same (Nat.le_add_right _ _) (Nat.le_add_right _ _)
theorem zp_zdup2  : zP S (zdup2 pc ls st S C) := by
  unfold zdup2
  repeat' split
  all_goals first
    | exact zp_none
    | exact zp_map
    | exact zp_same (Nat.le_refl _) (Nat.le_refl _)
    | exact zp_same (Nat.le_add_right _ _) (Nat.le_add_right _ _)
theorem zp_zpop  : zP S (zpop pc ls st S C) := by
  unfold zpop
  repeat' split
  all_goals first
    | exact zp_none
    | exact zp_map
    | exact zp_same (Nat.le_refl _) (Nat.le_refl _)
    | exact zp_same (Nat.le_add_right _ _) (Nat.le_add_right _ _)
theorem zp_ziald  : zP S (ziald pc ls st S C) := by
  unfold ziald
  repeat' split
  all_goals first
    | exact zp_none
    | exact zp_map
    | exact zp_same (Nat.le_refl _) (Nat.le_refl _)
    | exact zp_same (Nat.le_add_right _ _) (Nat.le_add_right _ _)
theorem zp_zbald  : zP S (zbald pc ls st S C) := by
  unfold zbald
  repeat' split
  all_goals first
    | exact zp_none
    | exact zp_map
    | exact zp_same (Nat.le_refl _) (Nat.le_refl _)
    | exact zp_same (Nat.le_add_right _ _) (Nat.le_add_right _ _)
theorem zp_zaald  : zP S (zaald pc ls st S C) := by
  unfold zaald
  repeat' split
  all_goals first
    | exact zp_none
    | exact zp_map
    | exact zp_same (Nat.le_refl _) (Nat.le_refl _)
    | exact zp_same (Nat.le_add_right _ _) (Nat.le_add_right _ _)
theorem zp_ziast  : zP S (ziast pc ls st S C) := by
  unfold ziast
  repeat' split
  all_goals first
    | exact zp_none
    | exact zp_map
    | exact zp_same (Nat.le_refl _) (Nat.le_refl _)
    | exact zp_same (Nat.le_add_right _ _) (Nat.le_add_right _ _)
theorem zp_zbast  : zP S (zbast pc ls st S C) := by
  unfold zbast
  repeat' split
  all_goals first
    | exact zp_none
    | exact zp_map
    | exact zp_same (Nat.le_refl _) (Nat.le_refl _)
    | exact zp_same (Nat.le_add_right _ _) (Nat.le_add_right _ _)
theorem zp_zaast  : zP S (zaast pc ls st S C) := by
  unfold zaast
  repeat' split
  all_goals first
    | exact zp_none
    | exact zp_map
    | exact zp_same (Nat.le_refl _) (Nat.le_refl _)
    | exact zp_same (Nat.le_add_right _ _) (Nat.le_add_right _ _)
theorem zp_zalen  : zP S (zalen pc ls st S C) := by
  unfold zalen
  repeat' split
  all_goals first
    | exact zp_none
    | exact zp_map
    | exact zp_same (Nat.le_refl _) (Nat.le_refl _)
    | exact zp_same (Nat.le_add_right _ _) (Nat.le_add_right _ _)
theorem zp_zanew  : zP S (zanew pc ls st S C) := by
  unfold zanew
  repeat' split
  all_goals first
    | exact zp_none
    | exact zp_map
    | exact zp_same (Nat.le_refl _) (Nat.le_refl _)
    | exact zp_same (Nat.le_add_right _ _) (Nat.le_add_right _ _)
theorem zp_zgetf  : zP S (zgetf x y pc ls st S C) := by
  unfold zgetf
  repeat' split
  all_goals first
    | exact zp_none
    | exact zp_map
    | exact zp_same (Nat.le_refl _) (Nat.le_refl _)
    | exact zp_same (Nat.le_add_right _ _) (Nat.le_add_right _ _)
theorem zp_zputf  : zP S (zputf x y pc ls st S C) := by
  unfold zputf
  repeat' split
  all_goals first
    | exact zp_none
    | exact zp_map
    | exact zp_same (Nat.le_refl _) (Nat.le_refl _)
    | exact zp_same (Nat.le_add_right _ _) (Nat.le_add_right _ _)
theorem zp_znew  : zP S (znew x pc ls st S C) := by
  unfold znew
  repeat' split
  all_goals first
    | exact zp_none
    | exact zp_map
    | exact zp_same (Nat.le_refl _) (Nat.le_refl _)
    | exact zp_same (Nat.le_add_right _ _) (Nat.le_add_right _ _)
theorem zp_znewa  : zP S (znewa x pc ls st S C) := by
  unfold znewa
  repeat' split
  all_goals first
    | exact zp_none
    | exact zp_map
    | exact zp_same (Nat.le_refl _) (Nat.le_refl _)
    | exact zp_same (Nat.le_add_right _ _) (Nat.le_add_right _ _)
theorem zp_zldi  : zP S (zldi k n pc ls st S C) := by
  unfold zldi
  repeat' split
  all_goals first
    | exact zp_none
    | exact zp_map
    | exact zp_same (Nat.le_refl _) (Nat.le_refl _)
    | exact zp_same (Nat.le_add_right _ _) (Nat.le_add_right _ _)
theorem zp_zldl  : zP S (zldl k n pc ls st S C) := by
  unfold zldl
  repeat' split
  all_goals first
    | exact zp_none
    | exact zp_map
    | exact zp_same (Nat.le_refl _) (Nat.le_refl _)
    | exact zp_same (Nat.le_add_right _ _) (Nat.le_add_right _ _)
theorem zp_zlda  : zP S (zlda k n pc ls st S C) := by
  unfold zlda
  repeat' split
  all_goals first
    | exact zp_none
    | exact zp_map
    | exact zp_same (Nat.le_refl _) (Nat.le_refl _)
    | exact zp_same (Nat.le_add_right _ _) (Nat.le_add_right _ _)
theorem zp_zsti  : zP S (zsti k n pc ls st S C) := by
  unfold zsti
  repeat' split
  all_goals first
    | exact zp_none
    | exact zp_map
    | exact zp_same (Nat.le_refl _) (Nat.le_refl _)
    | exact zp_same (Nat.le_add_right _ _) (Nat.le_add_right _ _)
theorem zp_zstl  : zP S (zstl k n pc ls st S C) := by
  unfold zstl
  repeat' split
  all_goals first
    | exact zp_none
    | exact zp_map
    | exact zp_same (Nat.le_refl _) (Nat.le_refl _)
    | exact zp_same (Nat.le_add_right _ _) (Nat.le_add_right _ _)
theorem zp_zsta  : zP S (zsta k n pc ls st S C) := by
  unfold zsta
  repeat' split
  all_goals first
    | exact zp_none
    | exact zp_map
    | exact zp_same (Nat.le_refl _) (Nat.le_refl _)
    | exact zp_same (Nat.le_add_right _ _) (Nat.le_add_right _ _)
theorem zp_zinc  : zP S (zinc k m pc ls st S C) := by
  unfold zinc
  repeat' split
  all_goals first
    | exact zp_none
    | exact zp_map
    | exact zp_same (Nat.le_refl _) (Nat.le_refl _)
    | exact zp_same (Nat.le_add_right _ _) (Nat.le_add_right _ _)
theorem zp_multi : zP S (zmulti pc ls st S C) := by
  unfold zmulti
  repeat' split
  · next k n r hg =>
    have h := zin_mono k.toNat n.toNat (zmk S 11 n.toNat n.toNat) (zmkC S C)
    have h1 : (zmk S 11 n.toNat n.toNat).1.1 = S.1.1 + 1 := rfl
    have h2 : (zmk S 11 n.toNat n.toNat).1.2 = S.1.2 + n.toNat := rfl
    exact zp_same (Nat.le_trans (by omega) h.1) (Nat.le_trans (by omega) h.2)
  · exact zp_none
  · exact zp_none
theorem zst_mono {ins : Instr} : zP S (zst ins x y z pc ls st S C) := by
  unfold zst
  split
  all_goals first
    | exact zp_none
    | exact zp_same (Nat.le_refl _) (Nat.le_refl _)
    | exact zp_multi
    | exact zp_zldi | exact zp_zldl | exact zp_zlda | exact zp_zsti | exact zp_zstl | exact zp_zsta | exact zp_zinc | exact zp_zo2 | exact zp_zo2d | exact zp_zo1 | exact zp_zo2l | exact zp_zi2l | exact zp_zlcmp | exact zp_zdup | exact zp_zdup2 | exact zp_zpop | exact zp_zif1 | exact zp_zif2 | exact zp_zsw | exact zp_zgetf | exact zp_zputf | exact zp_ziald | exact zp_zbald | exact zp_zaald | exact zp_ziast | exact zp_zbast | exact zp_zaast | exact zp_zalen | exact zp_znew | exact zp_znewa | exact zp_zanew
theorem znat_same {ins : Instr} {o : ZO} (h : znat ins x pc ls st S C = some o) : o.2.2.2.1 = S := by
  unfold znat at h
  repeat' split at h
  all_goals first
    | (cases h; done)
    | (cases h; rfl)
end ZMONO
theorem zret_st {ins : Instr} {b : Bool} {st : List ZV} {v : Option ZV} (h : zret ins b st = some v) : st = v.toList ∧ zlen ins = 1 ∧ (∀ d lo hi o, ins ≠ .tableswitch d lo hi o) := by
  unfold zret at h
  split at h
  · split at h
    · cases h
    · cases h
      exact ⟨rfl, rfl, fun _ _ _ _ e => by cases e⟩
  · cases h
    exact ⟨rfl, rfl, fun _ _ _ _ e => by cases e⟩
  · cases h
    exact ⟨rfl, rfl, fun _ _ _ _ e => by cases e⟩
  · cases h

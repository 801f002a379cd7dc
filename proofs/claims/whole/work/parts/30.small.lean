/-! Layer 2: what the small methods of the class answer -/
section ZSMALL
variable {d : Nat} {S : ZS} {C : ZC}
def f_within (a b : Int) : Int := if a < 0 then 0 else if b ≤ a then 0 else 1
theorem f_within_0 {a b : Int} : f_within a b = 0 ↔ ¬ (0 ≤ a ∧ a < b) := by
  unfold f_within
  split
  · exact ⟨fun _ h => by omega, fun _ => rfl⟩
  · split
    · exact ⟨fun _ h => by omega, fun _ => rfl⟩
    · exact ⟨fun h => absurd h (by decide), fun h => absurd ⟨by omega, by omega⟩ h⟩
theorem f_within_1 {a b : Int} : ¬ f_within a b = 0 ↔ 0 ≤ a ∧ a < b := by
  rw [f_within_0]
  exact Decidable.not_not
theorem sp_within (hS : zShC S) {a b : Int} : zR (d + 1) 60 0 [some (.inl a), some (.inl b)] [] S C = some (some (.inl (f_within a b)), S, C) := by
  rw [zb_60_0 hS]
  unfold f_within
  by_cases h : a < 0
  · rw [if_pos h, if_pos h, zb_60_13 hS, zb_60_14 hS, zG_t (Or.inl rfl)]
  · rw [if_neg h, if_neg h, zb_60_4 hS]
    by_cases h2 : b ≤ a
    · rw [if_pos h2, if_pos h2, zb_60_13 hS, zb_60_14 hS, zG_t (Or.inl rfl)]
    · rw [if_neg h2, if_neg h2, zb_60_9 hS, zb_60_14 hS, zG_t (Or.inr rfl)]
def f_has (a b : Int) : Int := if zand (zshr a b) 1 = 0 then 0 else 1
theorem sp_has (hS : zShC S) {a b : Int} : zR (d + 1) 61 0 [some (.inl a), some (.inl b)] [] S C = some (some (.inl (f_has a b)), S, C) := by
  rw [zb_61_0 hS]
  unfold f_has
  by_cases h : zand (zshr a b) 1 = 0
  · rw [if_pos h, if_pos h, zb_61_12 hS, zb_61_13 hS, zG_t (Or.inl rfl)]
  · rw [if_neg h, if_neg h, zb_61_8 hS, zb_61_13 hS, zG_t (Or.inr rfl)]
/-- the other end of a way (cells 9: the wood; 10, 11: from, to) -/
def f_other (C : ZC) (way place : Int) : Int := if f_within way (C 9 3) = 0 then -1 else if C 10 way.toNat = place then C 11 way.toNat else if C 11 way.toNat = place then C 10 way.toNat else -1
theorem sp_other (hS : zShC S) (hc : C 9 3 ≤ 12) {way place : Int} : zR (d + 2) 5 0 [some (.inr (.inr (some 9))), some (.inl way), some (.inl place)] [] S C = some (some (.inl (f_other C way place)), S, C) := by
  rw [zb_5_0 hS, sp_within hS, zB_some]
  show zR (d + 2) 5 8 _ [.inl (f_within way (C 9 3))] S C = _
  rw [zb_5_8 hS]
  unfold f_other
  by_cases h : f_within way (C 9 3) = 0
  · rw [if_neg (fun q => q h), if_pos h, zb_5_11 hS]
  · have hw : 0 ≤ way ∧ way < 12 := by have := f_within_1.mp h; omega
    rw [if_pos h, if_neg h, zb_5_13 hS, zG_t hw]
    by_cases h1 : C 10 way.toNat = place
    · rw [if_neg (fun q => q h1), if_pos h1, zb_5_23 hS, zG_t hw]
    · rw [if_pos h1, if_neg h1, zb_5_30 hS, zG_t hw]
      by_cases h2 : C 11 way.toNat = place
      · rw [if_neg (fun q => q h2), if_pos h2, zb_5_40 hS, zG_t hw, zb_5_50 hS]
      · rw [if_pos h2, if_neg h2, zb_5_49 hS, zb_5_50 hS]
/-- whether a step may be from where a walk (cell w; its open ways: cell w + 1) stands: 0 no, 1 new, 2 back -/
def f_kind (C : ZC) (w : Nat) (way : Int) : Int := if f_other C way (C w 5) = -1 then 0 else if f_has (C w 7) way = 0 then 1 else if C w 6 ≤ 0 then 0 else if C (w + 1) (zsub (C w 6) 1).toNat = way then 2 else 0
theorem zsub_1 {x : Int} (h0 : 0 < x) (h1 : x < 1000000) : zsub x 1 = x - 1 := by
  unfold zsub zb
  have hs : (Int32.size : Int) = 4294967296 := rfl
  rw [Int32.toInt_sub, Int32.toInt_ofInt, Int32.toInt_ofInt, Int.bmod_eq_of_le (n := x) (by rw [hs]; omega) (by rw [hs]; omega), Int.bmod_eq_of_le (n := 1) (by rw [hs]; omega) (by rw [hs]; omega)]
  exact Int.bmod_eq_of_le (by omega) (by omega)
theorem sp_kindOf (hS : zShC S) (hc : C 9 3 ≤ 12) {w : Nat} (hw : zisW w) (hs : C w 6 ≤ 12) {way : Int} : zR (d + 3) 12 0 [some (.inr (.inr (some w))), some (.inl way)] [] S C = some (some (.inl (f_kind C w way)), S, C) := by
  rw [zb_12_0 hS hw, sp_other hS hc, zB_some]
  show zR (d + 3) 12 12 _ [.inl (f_other C way (C w 5))] S C = _
  rw [zb_12_12 hS hw]
  unfold f_kind
  by_cases h : f_other C way (C w 5) = -1
  · rw [if_neg (fun q => q h), if_pos h, zb_12_16 hS hw]
  · rw [if_pos h, if_neg h, zb_12_18 hS hw, sp_has hS, zB_some]
    show zR (d + 3) 12 26 _ [.inl (f_has (C w 7) way)] S C = _
    rw [zb_12_26 hS hw]
    by_cases h1 : f_has (C w 7) way = 0
    · rw [if_neg (fun q => q h1), if_pos h1, zb_12_29 hS hw]
    · rw [if_pos h1, if_neg h1, zb_12_31 hS hw]
      by_cases h2 : C w 6 ≤ 0
      · rw [if_pos h2, if_pos h2, zb_12_57 hS hw, zb_12_58 hS hw]
      · have e := zsub_1 (x := C w 6) (by omega) (by omega)
        rw [if_neg h2, if_neg h2, zb_12_38 hS hw, zG_t (by rw [e]; omega)]
        by_cases h3 : C (w + 1) (zsub (C w 6) 1).toNat = way
        · rw [if_neg (fun q => q h3), if_pos h3, zb_12_53 hS hw, zb_12_58 hS hw]
        · rw [if_pos h3, if_neg h3, zb_12_57 hS hw, zb_12_58 hS hw]
end ZSMALL

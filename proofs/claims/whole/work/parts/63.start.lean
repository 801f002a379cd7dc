/-! THE START: both constructors' run, and zGoal out of zHard -/
def zA0 : ZA := ((fun _ _ => 0, fun _ => 0, fun _ => 0), (0, fun _ => 0, fun _ => 0), (fun _ => -1, fun _ => 0, fun _ _ => 0), 0)
theorem zA0_ok : aOK zA0 := ⟨fun t _ => ⟨Nat.zero_le _, fun i hi => absurd hi (Nat.not_lt_zero _)⟩, fun k _ => (by decide : 0 < 8), ⟨Nat.zero_le _, fun i hi => absurd hi (Nat.not_lt_zero _)⟩, fun s _ => ⟨Int.le_refl _, by show (-1 : Int) ≤ 2; decide, Nat.zero_le _⟩, Int.le_refl _, by show (0 : Int) ≤ 5; decide⟩
section ZSTART
variable {C : ZC}
set_option maxRecDepth 100000 in
theorem zc_R0 : R0 zA0 (zc_58 C) := by
  refine ⟨fun t _ => ⟨rfl, fun i hi => absurd hi (Nat.not_lt_zero _)⟩, ⟨rfl, fun i hi => absurd hi (Nat.not_lt_zero _)⟩, fun s hs => ?_, rfl⟩
  match s, hs with
  | 0, _ => exact ⟨rfl, rfl, fun i _ => rfl⟩
  | 1, _ => exact ⟨rfl, rfl, fun i _ => rfl⟩
  | 2, _ => exact ⟨rfl, rfl, fun i _ => rfl⟩
  | 3, _ => exact ⟨rfl, rfl, fun i _ => rfl⟩
  | s + 4, h => exact absurd h (by omega)
set_option maxRecDepth 100000 in
theorem zc_home : ∀ k, k < 4 → zc_58 C (56 + 4 * k) 4 = (aH zA0 k : Int) := by
  intro k hk
  match k, hk with
  | 0, _ => rfl
  | 1, _ => rfl
  | 2, _ => rfl
  | 3, _ => rfl
  | k + 4, h => exact absurd h (by omega)
set_option maxRecDepth 100000 in
theorem zc_scr (j : Nat) : zc_58 C 0 j = C 0 j := rfl
set_option maxRecDepth 100000 in
theorem ze_lo {a : Nat} (h : a < 72) : ze_24 C a = C a := by
  unfold ze_24 ze_23 ze_22 ze_21 ze_20 ze_19 ze_18 ze_17 ze_16 ze_15 ze_14 ze_13 ze_12 ze_11 ze_10 ze_9 ze_8 ze_7 ze_6 ze_5 ze_4 ze_3 ze_2 ze_1 ze_0
  rw [zr_ne (by omega), zr_ne (by omega), zr_ne (by omega), zr_ne (by omega), zr_ne (by omega), zr_ne (by omega), zr_ne (by omega), zr_ne (by omega), zr_ne (by omega), zr_ne (by omega), zr_ne (by omega), zr_ne (by omega), zr_ne (by omega), zr_ne (by omega), zr_ne (by omega), zr_ne (by omega), zr_ne (by omega), zr_ne (by omega), zr_ne (by omega), zr_ne (by omega), zr_ne (by omega), zr_ne (by omega), zr_ne (by omega), zr_ne (by omega)]
set_option maxRecDepth 100000 in
theorem ze_RM : RM zA0 (ze_24 C) := by
  refine ⟨fun t _ => ⟨rfl, fun i hi => absurd hi (Nat.not_lt_zero _)⟩, fun k _ => rfl, ⟨rfl, fun i hi => absurd hi (Nat.not_lt_zero _)⟩, fun s hs => ⟨rfl, fun h => absurd rfl h, rfl, fun i _ => rfl⟩, rfl⟩
theorem zgoal_of (hard : zHard) : zGoal := by
  intro L xs hL hz
  have hzr : ∀ j, r32 (xs j) := fun j => by
    have := z32_lo (xs j)
    rw [hz j] at this
    exact this
  obtain ⟨v1, C1, e1, hRC, hF⟩ := h_settle (x := 0) (C := zc_58 (zC0 xs)) zA0_ok (by decide) zc_R0 zc_home (fun h => absurd rfl h)
  have s1 : zR 798 59 0 [some (.inr (.inr (some 1))), some (.inl 0), none] [] (zs_118 L) (zc_58 (zC0 xs)) = some (none, zs_118 L, C1) := r_59 (d := 793) (zsh_C1 L) v1 C1 _ e1 rfl
  have s2 : zR 799 58 0 [some (.inr (.inr (some 1))), none] [] (zs_1 L) (zc_1 (zC0 xs)) = some (none, zs_118 L, C1) := by
    refine (zk_16 (d := 793)).trans ?_
    refine (congrArg (fun q => zB q _) s1).trans ?_
    exact zk_58r (d := 798)
  have hLI : LI xs (ze_24 C1) := by
    refine ⟨zA0, zA0_ok, RC_fr (fun a _ _ h => ze_lo h) hRC, ze_RM, ?_⟩
    rw [ze_lo (by decide)]
    refine (hF 0 (Or.inl rfl)).trans (funext fun j => ?_)
    rw [zc_scr]; rfl
  obtain ⟨v2, C2, e2, rfl⟩ := h_law hard hL hzr hLI
  have s3 : zR 800 173 16 [some (.inr (.inr (some 0))), some (.inr (.inr (some 1))), some (.inr (.inr (some 72))), none] [] (zs_165 L) (ze_24 C1) = some (some (.inl 1), zs_165 L, C2) := r_law (d := 755) (zsh_C2 L) (zsh_M2 L) (zsf_L L) (by omega) _ C2 _ e2 rfl
  have s4 : zR 800 173 0 [some (.inr (.inr (some 0))), none, none, none] [] (zS0 L) (zC0 xs) = some (some (.inl 1), zs_165 L, C2) := by
    refine (zk_1 (d := 755)).trans ?_
    refine (congrArg (fun q => zB q _) s2).trans ?_
    exact (zk_18 (d := 755)).trans s3
  obtain ⟨n, hn⟩ := zR_iff.mp s4
  refine ⟨n, zs_165 L, C2, hn, ?_, ?_⟩
  · rw [zsf_room]; decide
  · rw [zsf_room]; decide
end ZSTART

/-! Layer 2: the methods as programs over the ints (written by wip/whole/gend.py) -/
-- 50: NewOrBack$Sheets.has(I)Z
noncomputable def c_Sheets_has (l1 : Int) (C : ZC) : Option (Int × ZC) :=
  zbd (c_N_within l1 4 C) fun v1 C2 => zg (v1 = 0 ∨ v1 = 1) (some (v1, C2))
set_option maxRecDepth 100000 in
theorem r_50 {d : Nat} {S : ZS} (hS : zShC S) {l1 : Int} {C : ZC} : zRq (zKi S) (c_Sheets_has l1 C) (zR (d + 2) 50 0 [some (.inr (.inr (some 48))), some (.inl l1)] [] S C) := by
  unfold c_Sheets_has
  refine zRq_rw (zb_50_0 hS) ?_
  refine zRq_ci (r_60 hS) (fun v1 C2 => ?_)
  refine zRq_rw (zb_50_5 hS) ?_
  refine zRq_g (fun h => ?_)
  exact zRq_rt fun r h => h
-- 51: NewOrBack$Sheets.isLost(I)Z
noncomputable def c_Sheets_isLost (l1 : Int) (C : ZC) : Option (Int × ZC) :=
  zg (0 ≤ l1 ∧ l1 < 4) (if ¬ ((C 55 l1.toNat)) = ((-1)) then (some (0, C)) else (some (1, C)))
set_option maxRecDepth 100000 in
theorem r_51 {d : Nat} {S : ZS} (hS : zShC S) {l1 : Int} {C : ZC} : zRq (zKi S) (c_Sheets_isLost l1 C) (zR (d + 1) 51 0 [some (.inr (.inr (some 48))), some (.inl l1)] [] S C) := by
  unfold c_Sheets_isLost
  refine zRq_rw (zb_51_0 hS) ?_
  refine zRq_g (fun h1 => ?_)
  refine zRq_ite (fun h2 => ?_) (fun h3 => ?_)
  · refine zRq_rw (zb_51_14 hS) ?_
    refine zRq_rw (zb_51_15 hS) ?_
    exact zRq_rt fun r h => h
  · refine zRq_rw (zb_51_10 hS) ?_
    refine zRq_rw (zb_51_15 hS) ?_
    exact zRq_rt fun r h => h
-- 52: NewOrBack$Sheets.find(I)I
noncomputable def c_Sheets_find (l1 : Int) (C : ZC) : Option (Int × ZC) :=
  some ((zsub (-10) l1), zup2 C 48 3 l1)
set_option maxRecDepth 100000 in
theorem r_52 {d : Nat} {S : ZS} (hS : zShC S) {l1 : Int} {C : ZC} : zRq (zKi S) (c_Sheets_find l1 C) (zR (d + 1) 52 0 [some (.inr (.inr (some 48))), some (.inl l1)] [] S C) := by
  unfold c_Sheets_find
  refine zRq_rw (zb_52_0 hS) ?_
  exact zRq_rt fun r h => h
-- 53: NewOrBack$Sheets.isForm(I)Z
noncomputable def c_Sheets_isForm (l1 : Int) (C : ZC) : Option (Int × ZC) :=
  zbd (c_N_within l1 3 C) fun v1 C2 => zg (v1 = 0 ∨ v1 = 1) (some (v1, C2))
set_option maxRecDepth 100000 in
theorem r_53 {d : Nat} {S : ZS} (hS : zShC S) {l1 : Int} {C : ZC} : zRq (zKi S) (c_Sheets_isForm l1 C) (zR (d + 2) 53 0 [some (.inr (.inr (some 48))), some (.inl l1)] [] S C) := by
  unfold c_Sheets_isForm
  refine zRq_rw (zb_53_0 hS) ?_
  refine zRq_ci (r_60 hS) (fun v1 C2 => ?_)
  refine zRq_rw (zb_53_5 hS) ?_
  refine zRq_g (fun h => ?_)
  exact zRq_rt fun r h => h
-- 54: NewOrBack$Sheets.renew(III)V
noncomputable def c_Sheets_renew (l1 : Int) (l2 : Int) (l3 : Int) (C : ZC) : Option (Int × ZC) :=
  zg (0 ≤ l1 ∧ l1 < 4) (zbd (c_Arrays_fill (50 + l1.toNat) 48 0 C) fun v2 C3 => zg (0 ≤ l1 ∧ l1 < 4) (zg (0 ≤ l1 ∧ l1 < 4) (some (0, zup2 (zup2 C3 54 l1.toNat l3) 55 l1.toNat l2))))
set_option maxRecDepth 100000 in
theorem r_54 {d : Nat} {S : ZS} (hS : zShC S) {l1 : Int} {l2 : Int} {l3 : Int} {C : ZC} : zRq (zKv S) (c_Sheets_renew l1 l2 l3 C) (zR (d + 2) 54 0 [some (.inr (.inr (some 48))), some (.inl l1), some (.inl l2), some (.inl l3)] [] S C) := by
  unfold c_Sheets_renew
  refine zRq_rw (zb_54_0 hS) ?_
  refine zRq_g (fun h1 => ?_)
  refine zRq_cv (r_1 hS (sa_i49 hS h1) (by decide)) (fun v2 C3 => ?_)
  refine zRq_rw (zb_54_10 hS) ?_
  refine zRq_g (fun h4 => ?_)
  refine zRq_g (fun h5 => ?_)
  exact zRq_rt fun r h => h
-- 55: NewOrBack$Sheets.findingOf(III)I
noncomputable def c_Sheets_findingOf (l1 : Int) (l2 : Int) (l3 : Int) (C : ZC) : Option (Int × ZC) :=
  zbd (c_Sheets_isLost l1 C) fun v1 C2 => if v1 = 0 then (zg (0 ≤ l1 ∧ l1 < 4) (if ((C2 55 l1.toNat)) = l2 then (zg (0 ≤ l1 ∧ l1 < 4) (zbd (c_N_within l3 (C2 54 l1.toNat) C2) fun v9 C10 => if v9 = 0 then (some (2, C10)) else (some (0, C10)))) else (some (3, C2)))) else (some (1, C2))
set_option maxRecDepth 100000 in
theorem r_55 {d : Nat} {S : ZS} (hS : zShC S) {l1 : Int} {l2 : Int} {l3 : Int} {C : ZC} : zRq (zKi S) (c_Sheets_findingOf l1 l2 l3 C) (zR (d + 2) 55 0 [some (.inr (.inr (some 48))), some (.inl l1), some (.inl l2), some (.inl l3)] [] S C) := by
  unfold c_Sheets_findingOf
  refine zRq_rw (zb_55_0 hS) ?_
  refine zRq_ci (r_51 hS) (fun v1 C2 => ?_)
  refine zRq_rw (zb_55_5 hS) ?_
  refine zRq_ite (fun h3 => ?_) (fun h4 => ?_)
  · refine zRq_rw (zb_55_10 hS) ?_
    refine zRq_g (fun h5 => ?_)
    refine zRq_ite (fun h6 => ?_) (fun h7 => ?_)
    · refine zRq_rw (zb_55_22 hS) ?_
      refine zRq_g (fun h8 => ?_)
      refine zRq_ci (r_60 hS) (fun v9 C10 => ?_)
      refine zRq_rw (zb_55_32 hS) ?_
      refine zRq_ite (fun h11 => ?_) (fun h12 => ?_)
      · refine zRq_rw (zb_55_39 hS) ?_
        refine zRq_rw (zb_55_40 hS) ?_
        exact zRq_rt fun r h => h
      · refine zRq_rw (zb_55_35 hS) ?_
        refine zRq_rw (zb_55_40 hS) ?_
        exact zRq_rt fun r h => h
    · refine zRq_rw (zb_55_20 hS) ?_
      exact zRq_rt fun r h => h
  · refine zRq_rw (zb_55_8 hS) ?_
    exact zRq_rt fun r h => h
-- 56: NewOrBack$Sheets.set(III)V
noncomputable def c_Sheets_set (l1 : Int) (l2 : Int) (l3 : Int) (C : ZC) : Option (Int × ZC) :=
  zg (0 ≤ l1 ∧ l1 < 4) (zg (0 ≤ l1 ∧ l1 < 4) (if ¬ ((C 55 l1.toNat)) = 0 then (if ¬ ((C 55 l1.toNat)) = 1 then (zg (0 ≤ l2 ∧ l2 < 48) (some (0, zup2 C (50 + l1.toNat) l2.toNat l3))) else (zg (0 ≤ l2 ∧ l2 < 48) (some (0, zup2 C (50 + l1.toNat) l2.toNat (zi2s l3))))) else (zg (0 ≤ l2 ∧ l2 < 48) (some (0, zup2 C (50 + l1.toNat) l2.toNat (zi2b l3))))))
set_option maxRecDepth 100000 in
theorem r_56 {d : Nat} {S : ZS} (hS : zShC S) {l1 : Int} {l2 : Int} {l3 : Int} {C : ZC} : zRq (zKv S) (c_Sheets_set l1 l2 l3 C) (zR (d + 1) 56 0 [some (.inr (.inr (some 48))), some (.inl l1), some (.inl l2), some (.inl l3), none] [] S C) := by
  unfold c_Sheets_set
  refine zRq_rw (zb_56_0 hS) ?_
  refine zRq_g (fun h1 => ?_)
  refine zRq_g (fun h2 => ?_)
  refine zRq_ite (fun h3 => ?_) (fun h4 => ?_)
  · refine zRq_rw (zb_56_25 hS (sa_i49 hS h2)) ?_
    refine zRq_ite (fun h5 => ?_) (fun h6 => ?_)
    · refine zRq_rw (zb_56_36 hS (sa_i49 hS h2)) ?_
      refine zRq_rw (zb_56_37 hS (sa_i49 hS h2)) ?_
      refine zRq_g (fun h7 => ?_)
      exact zRq_rt fun r h => h
    · refine zRq_rw (zb_56_31 hS (sa_i49 hS h2)) ?_
      refine zRq_rw (zb_56_37 hS (sa_i49 hS h2)) ?_
      refine zRq_g (fun h8 => ?_)
      exact zRq_rt fun r h => h
  · refine zRq_rw (zb_56_20 hS (sa_i49 hS h2)) ?_
    refine zRq_rw (zb_56_37 hS (sa_i49 hS h2)) ?_
    refine zRq_g (fun h9 => ?_)
    exact zRq_rt fun r h => h
-- 57: NewOrBack$Sheets.holds(III)Z
noncomputable def c_Sheets_holds (l1 : Int) (l2 : Int) (l3 : Int) (C : ZC) : Option (Int × ZC) :=
  if l2 < 0 then (some (0, C)) else (if l3 < 0 then (some (0, C)) else (zg (0 ≤ l1 ∧ l1 < 4) (if ((C 54 l1.toNat)) < l2 then (some (0, C)) else (zg (0 ≤ l1 ∧ l1 < 4) (if ((zsub (C 54 l1.toNat) l2)) < l3 then (some (0, C)) else (some (1, C)))))))
set_option maxRecDepth 100000 in
theorem r_57 {d : Nat} {S : ZS} (hS : zShC S) {l1 : Int} {l2 : Int} {l3 : Int} {C : ZC} : zRq (zKi S) (c_Sheets_holds l1 l2 l3 C) (zR (d + 1) 57 0 [some (.inr (.inr (some 48))), some (.inl l1), some (.inl l2), some (.inl l3)] [] S C) := by
  unfold c_Sheets_holds
  refine zRq_rw (zb_57_0 hS) ?_
  refine zRq_ite (fun h1 => ?_) (fun h2 => ?_)
  · refine zRq_rw (zb_57_34 hS) ?_
    refine zRq_rw (zb_57_35 hS) ?_
    exact zRq_rt fun r h => h
  · refine zRq_rw (zb_57_4 hS) ?_
    refine zRq_ite (fun h3 => ?_) (fun h4 => ?_)
    · refine zRq_rw (zb_57_34 hS) ?_
      refine zRq_rw (zb_57_35 hS) ?_
      exact zRq_rt fun r h => h
    · refine zRq_rw (zb_57_8 hS) ?_
      refine zRq_g (fun h5 => ?_)
      refine zRq_ite (fun h6 => ?_) (fun h7 => ?_)
      · refine zRq_rw (zb_57_34 hS) ?_
        refine zRq_rw (zb_57_35 hS) ?_
        exact zRq_rt fun r h => h
      · refine zRq_rw (zb_57_18 hS) ?_
        refine zRq_g (fun h8 => ?_)
        refine zRq_ite (fun h9 => ?_) (fun h10 => ?_)
        · refine zRq_rw (zb_57_34 hS) ?_
          refine zRq_rw (zb_57_35 hS) ?_
          exact zRq_rt fun r h => h
        · refine zRq_rw (zb_57_30 hS) ?_
          refine zRq_rw (zb_57_35 hS) ?_
          exact zRq_rt fun r h => h

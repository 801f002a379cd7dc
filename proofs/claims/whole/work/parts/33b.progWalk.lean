/-! Layer 2: the methods as programs over the ints (written by wip/whole/gend.py) -/
-- 11: NewOrBack$Walk.begin(I)V
noncomputable def c_Walk_begin (l0 : Nat) (l1 : Int) (C : ZC) : Option (Int × ZC) :=
  some (0, zup2 (zup2 (zup2 (zup2 (zup2 (zup2 C l0 5 l1) l0 6 0) l0 7 0) l0 8 0) l0 9 (zshl 1 l1)) l0 10 (-1))
set_option maxRecDepth 100000 in
theorem r_11 {d : Nat} {S : ZS} (hS : zShC S) {l0 : Nat} {l1 : Int} (hl0 : zisW l0) {C : ZC} : zRq (zKv S) (c_Walk_begin l0 l1 C) (zR (d + 1) 11 0 [some (.inr (.inr (some l0))), some (.inl l1)] [] S C) := by
  unfold c_Walk_begin
  refine zRq_rw (zb_11_0 hS hl0) ?_
  exact zRq_rt fun r h => h
-- 12: NewOrBack$Walk.kindOf(I)I
noncomputable def c_Walk_kindOf (l0 : Nat) (l1 : Int) (C : ZC) : Option (Int × ZC) :=
  zbd (c_Wood_other l1 (C l0 5) C) fun v1 C2 => if ¬ v1 = ((-1)) then (zbd (c_N_has (C2 l0 7) l1 C2) fun v5 C6 => if ¬ v5 = 0 then (if ((C6 l0 6)) ≤ 0 then (some (0, C6)) else (zg (0 ≤ (zsub (C6 l0 6) 1) ∧ (zsub (C6 l0 6) 1) < 12) (if ¬ ((C6 (l0 + 1) (zsub (C6 l0 6) 1).toNat)) = l1 then (some (0, C6)) else (some (2, C6))))) else (some (1, C6))) else (some (0, C2))
set_option maxRecDepth 100000 in
theorem r_12 {d : Nat} {S : ZS} (hS : zShC S) {l0 : Nat} {l1 : Int} (hl0 : zisW l0) {C : ZC} : zRq (zKi S) (c_Walk_kindOf l0 l1 C) (zR (d + 2) 12 0 [some (.inr (.inr (some l0))), some (.inl l1)] [] S C) := by
  unfold c_Walk_kindOf
  refine zRq_rw (zb_12_0 hS hl0) ?_
  refine zRq_ci (r_5 hS) (fun v1 C2 => ?_)
  refine zRq_rw (zb_12_12 hS hl0) ?_
  refine zRq_ite (fun h3 => ?_) (fun h4 => ?_)
  · refine zRq_rw (zb_12_18 hS hl0) ?_
    refine zRq_ci (r_61 hS) (fun v5 C6 => ?_)
    refine zRq_rw (zb_12_26 hS hl0) ?_
    refine zRq_ite (fun h7 => ?_) (fun h8 => ?_)
    · refine zRq_rw (zb_12_31 hS hl0) ?_
      refine zRq_ite (fun h9 => ?_) (fun h10 => ?_)
      · refine zRq_rw (zb_12_57 hS hl0) ?_
        refine zRq_rw (zb_12_58 hS hl0) ?_
        exact zRq_rt fun r h => h
      · refine zRq_rw (zb_12_38 hS hl0) ?_
        refine zRq_g (fun h11 => ?_)
        refine zRq_ite (fun h12 => ?_) (fun h13 => ?_)
        · refine zRq_rw (zb_12_57 hS hl0) ?_
          refine zRq_rw (zb_12_58 hS hl0) ?_
          exact zRq_rt fun r h => h
        · refine zRq_rw (zb_12_53 hS hl0) ?_
          refine zRq_rw (zb_12_58 hS hl0) ?_
          exact zRq_rt fun r h => h
    · refine zRq_rw (zb_12_29 hS hl0) ?_
      exact zRq_rt fun r h => h
  · refine zRq_rw (zb_12_16 hS hl0) ?_
    exact zRq_rt fun r h => h
-- 14: NewOrBack$Walk.goNew(I)V
noncomputable def c_Walk_goNew (l0 : Nat) (l1 : Int) (C : ZC) : Option (Int × ZC) :=
  zbd (c_Wood_other l1 (C l0 5) C) fun v1 C2 => if v1 = ((-1)) then (some (0, C2)) else (if 12 ≤ ((C2 l0 6)) then (some (0, C2)) else (zg (0 ≤ (C2 l0 6) ∧ (C2 l0 6) < 12) (zg (0 ≤ ((zup2 C2 (l0 + 1) (C2 l0 6).toNat l1) l0 6) ∧ ((zup2 C2 (l0 + 1) (C2 l0 6).toNat l1) l0 6) < 12) (some (0, zup2 (zup2 (zup2 (zup2 (zup2 C2 (l0 + 1) (C2 l0 6).toNat l1) (l0 + 2) ((zup2 C2 (l0 + 1) (C2 l0 6).toNat l1) l0 6).toNat ((zup2 C2 (l0 + 1) (C2 l0 6).toNat l1) l0 5)) l0 6 (zadd ((zup2 (zup2 C2 (l0 + 1) (C2 l0 6).toNat l1) (l0 + 2) ((zup2 C2 (l0 + 1) (C2 l0 6).toNat l1) l0 6).toNat ((zup2 C2 (l0 + 1) (C2 l0 6).toNat l1) l0 5)) l0 6) 1)) l0 7 (zor ((zup2 (zup2 (zup2 C2 (l0 + 1) (C2 l0 6).toNat l1) (l0 + 2) ((zup2 C2 (l0 + 1) (C2 l0 6).toNat l1) l0 6).toNat ((zup2 C2 (l0 + 1) (C2 l0 6).toNat l1) l0 5)) l0 6 (zadd ((zup2 (zup2 C2 (l0 + 1) (C2 l0 6).toNat l1) (l0 + 2) ((zup2 C2 (l0 + 1) (C2 l0 6).toNat l1) l0 6).toNat ((zup2 C2 (l0 + 1) (C2 l0 6).toNat l1) l0 5)) l0 6) 1)) l0 7) (zshl 1 l1))) l0 5 v1)))))
set_option maxRecDepth 100000 in
theorem r_14 {d : Nat} {S : ZS} (hS : zShC S) {l0 : Nat} {l1 : Int} (hl0 : zisW l0) {C : ZC} : zRq (zKv S) (c_Walk_goNew l0 l1 C) (zR (d + 2) 14 0 [some (.inr (.inr (some l0))), some (.inl l1), none] [] S C) := by
  unfold c_Walk_goNew
  refine zRq_rw (zb_14_0 hS hl0) ?_
  refine zRq_ci (r_5 hS) (fun v1 C2 => ?_)
  refine zRq_rw (zb_14_12 hS hl0) ?_
  refine zRq_ite (fun h3 => ?_) (fun h4 => ?_)
  · refine zRq_rw (zb_14_77 hS hl0) ?_
    exact zRq_rt fun r h => h
  · refine zRq_rw (zb_14_18 hS hl0) ?_
    refine zRq_ite (fun h5 => ?_) (fun h6 => ?_)
    · refine zRq_rw (zb_14_77 hS hl0) ?_
      exact zRq_rt fun r h => h
    · refine zRq_rw (zb_14_27 hS hl0) ?_
      refine zRq_g (fun h7 => ?_)
      refine zRq_g (fun h8 => ?_)
      refine zRq_rw (zb_14_77 hS hl0) ?_
      exact zRq_rt fun r h => h
-- 15: NewOrBack$Walk.goBack()V
noncomputable def c_Walk_goBack (l0 : Nat) (C : ZC) : Option (Int × ZC) :=
  if ((C l0 6)) ≤ 0 then (some (0, C)) else (zg (0 ≤ ((zup2 C l0 6 (zsub (C l0 6) 1)) l0 6) ∧ ((zup2 C l0 6 (zsub (C l0 6) 1)) l0 6) < 12) (some (0, zup2 (zup2 C l0 6 (zsub (C l0 6) 1)) l0 5 ((zup2 C l0 6 (zsub (C l0 6) 1)) (l0 + 2) ((zup2 C l0 6 (zsub (C l0 6) 1)) l0 6).toNat))))
set_option maxRecDepth 100000 in
theorem r_15 {d : Nat} {S : ZS} (hS : zShC S) {l0 : Nat} (hl0 : zisW l0) {C : ZC} : zRq (zKv S) (c_Walk_goBack l0 C) (zR (d + 1) 15 0 [some (.inr (.inr (some l0)))] [] S C) := by
  unfold c_Walk_goBack
  refine zRq_rw (zb_15_0 hS hl0) ?_
  refine zRq_ite (fun h1 => ?_) (fun h2 => ?_)
  · refine zRq_rw (zb_15_30 hS hl0) ?_
    exact zRq_rt fun r h => h
  · refine zRq_rw (zb_15_7 hS hl0) ?_
    refine zRq_g (fun h3 => ?_)
    refine zRq_rw (zb_15_30 hS hl0) ?_
    exact zRq_rt fun r h => h
-- 13: NewOrBack$Walk.step(II)V
noncomputable def c_Walk_step (l0 : Nat) (l1 : Int) (l2 : Int) (C : ZC) : Option (Int × ZC) :=
  if ¬ l2 = 1 then (zbd (c_Walk_goBack l0 C) fun v3 C4 => zg (0 ≤ l1 ∧ l1 < 12) (some (0, zup2 (zup2 C4 l0 8 (zadd (C4 l0 8) (C4 12 l1.toNat))) l0 9 (zor ((zup2 C4 l0 8 (zadd (C4 l0 8) (C4 12 l1.toNat))) l0 9) (zshl 1 ((zup2 C4 l0 8 (zadd (C4 l0 8) (C4 12 l1.toNat))) l0 5)))))) else (zbd (c_Walk_goNew l0 l1 C) fun v6 C7 => zg (0 ≤ l1 ∧ l1 < 12) (some (0, zup2 (zup2 C7 l0 8 (zadd (C7 l0 8) (C7 12 l1.toNat))) l0 9 (zor ((zup2 C7 l0 8 (zadd (C7 l0 8) (C7 12 l1.toNat))) l0 9) (zshl 1 ((zup2 C7 l0 8 (zadd (C7 l0 8) (C7 12 l1.toNat))) l0 5))))))
set_option maxRecDepth 100000 in
theorem r_13 {d : Nat} {S : ZS} (hS : zShC S) {l0 : Nat} {l1 : Int} {l2 : Int} (hl0 : zisW l0) {C : ZC} : zRq (zKv S) (c_Walk_step l0 l1 l2 C) (zR (d + 3) 13 0 [some (.inr (.inr (some l0))), some (.inl l1), some (.inl l2)] [] S C) := by
  unfold c_Walk_step
  refine zRq_rw (zb_13_0 hS hl0) ?_
  refine zRq_ite (fun h1 => ?_) (fun h2 => ?_)
  · refine zRq_rw (zb_13_13 hS hl0) ?_
    refine zRq_cv (r_15 hS hl0) (fun v3 C4 => ?_)
    refine zRq_rw (zb_13_17 hS hl0) ?_
    refine zRq_g (fun h5 => ?_)
    exact zRq_rt fun r h => h
  · refine zRq_rw (zb_13_5 hS hl0) ?_
    refine zRq_cv (r_14 hS hl0) (fun v6 C7 => ?_)
    refine zRq_rw (zb_13_10 hS hl0) ?_
    refine zRq_rw (zb_13_17 hS hl0) ?_
    refine zRq_g (fun h8 => ?_)
    exact zRq_rt fun r h => h
-- 17: NewOrBack$Walk.goOn(I)Z
noncomputable def c_Walk_goOn_L4 (l0 : Nat) (l1 : Int) (x1 : (Int × Int)) (C3 : ZC) : Option (((Int × Int) ⊕ Int) × ZC) :=
  if ((C3 9 3)) ≤ ((x1.2)) then (some (.inr (x1.1), C3)) else (zbd (c_N_has l1 (x1.2) C3) fun v7 C8 => if ¬ v7 = 0 then (some (.inl ((x1.1), (zadd (x1.2) 1)), C8)) else (zg (0 ≤ (x1.2) ∧ (x1.2) < 12) (zg (0 ≤ (x1.2) ∧ (x1.2) < 12) (zg (0 ≤ (C8 10 (x1.2).toNat) ∧ (C8 10 (x1.2).toNat) < 8) (zg (0 ≤ (C8 11 (x1.2).toNat) ∧ (C8 11 (x1.2).toNat) < 8) (zg (0 ≤ (x1.2) ∧ (x1.2) < 12) (zg (0 ≤ (C8 10 (x1.2).toNat) ∧ (C8 10 (x1.2).toNat) < 8) (if ((zadd (if (C8 (l0 + 3) (C8 11 (x1.2).toNat).toNat) < (C8 (l0 + 3) (C8 10 (x1.2).toNat).toNat) then (C8 (l0 + 3) (C8 11 (x1.2).toNat).toNat) else (C8 (l0 + 3) (C8 10 (x1.2).toNat).toNat)) (C8 12 (x1.2).toNat))) < ((C8 (l0 + 3) (C8 10 (x1.2).toNat).toNat)) then (zg (0 ≤ (C8 10 (x1.2).toNat) ∧ (C8 10 (x1.2).toNat) < 8) (zg (0 ≤ (C8 10 (x1.2).toNat) ∧ (C8 10 (x1.2).toNat) < 8) (zg (0 ≤ (C8 11 (x1.2).toNat) ∧ (C8 11 (x1.2).toNat) < 8) (zg (0 ≤ (C8 11 (x1.2).toNat) ∧ (C8 11 (x1.2).toNat) < 8) (some (.inl (1, (zadd (x1.2) 1)), zup2 (zup2 C8 (l0 + 3) (C8 10 (x1.2).toNat).toNat (if (zadd (if (C8 (l0 + 3) (C8 11 (x1.2).toNat).toNat) < (C8 (l0 + 3) (C8 10 (x1.2).toNat).toNat) then (C8 (l0 + 3) (C8 11 (x1.2).toNat).toNat) else (C8 (l0 + 3) (C8 10 (x1.2).toNat).toNat)) (C8 12 (x1.2).toNat)) < (C8 (l0 + 3) (C8 10 (x1.2).toNat).toNat) then (zadd (if (C8 (l0 + 3) (C8 11 (x1.2).toNat).toNat) < (C8 (l0 + 3) (C8 10 (x1.2).toNat).toNat) then (C8 (l0 + 3) (C8 11 (x1.2).toNat).toNat) else (C8 (l0 + 3) (C8 10 (x1.2).toNat).toNat)) (C8 12 (x1.2).toNat)) else (C8 (l0 + 3) (C8 10 (x1.2).toNat).toNat))) (l0 + 3) (C8 11 (x1.2).toNat).toNat (if (zadd (if (C8 (l0 + 3) (C8 11 (x1.2).toNat).toNat) < (C8 (l0 + 3) (C8 10 (x1.2).toNat).toNat) then (C8 (l0 + 3) (C8 11 (x1.2).toNat).toNat) else (C8 (l0 + 3) (C8 10 (x1.2).toNat).toNat)) (C8 12 (x1.2).toNat)) < ((zup2 C8 (l0 + 3) (C8 10 (x1.2).toNat).toNat (if (zadd (if (C8 (l0 + 3) (C8 11 (x1.2).toNat).toNat) < (C8 (l0 + 3) (C8 10 (x1.2).toNat).toNat) then (C8 (l0 + 3) (C8 11 (x1.2).toNat).toNat) else (C8 (l0 + 3) (C8 10 (x1.2).toNat).toNat)) (C8 12 (x1.2).toNat)) < (C8 (l0 + 3) (C8 10 (x1.2).toNat).toNat) then (zadd (if (C8 (l0 + 3) (C8 11 (x1.2).toNat).toNat) < (C8 (l0 + 3) (C8 10 (x1.2).toNat).toNat) then (C8 (l0 + 3) (C8 11 (x1.2).toNat).toNat) else (C8 (l0 + 3) (C8 10 (x1.2).toNat).toNat)) (C8 12 (x1.2).toNat)) else (C8 (l0 + 3) (C8 10 (x1.2).toNat).toNat))) (l0 + 3) (C8 11 (x1.2).toNat).toNat) then (zadd (if (C8 (l0 + 3) (C8 11 (x1.2).toNat).toNat) < (C8 (l0 + 3) (C8 10 (x1.2).toNat).toNat) then (C8 (l0 + 3) (C8 11 (x1.2).toNat).toNat) else (C8 (l0 + 3) (C8 10 (x1.2).toNat).toNat)) (C8 12 (x1.2).toNat)) else ((zup2 C8 (l0 + 3) (C8 10 (x1.2).toNat).toNat (if (zadd (if (C8 (l0 + 3) (C8 11 (x1.2).toNat).toNat) < (C8 (l0 + 3) (C8 10 (x1.2).toNat).toNat) then (C8 (l0 + 3) (C8 11 (x1.2).toNat).toNat) else (C8 (l0 + 3) (C8 10 (x1.2).toNat).toNat)) (C8 12 (x1.2).toNat)) < (C8 (l0 + 3) (C8 10 (x1.2).toNat).toNat) then (zadd (if (C8 (l0 + 3) (C8 11 (x1.2).toNat).toNat) < (C8 (l0 + 3) (C8 10 (x1.2).toNat).toNat) then (C8 (l0 + 3) (C8 11 (x1.2).toNat).toNat) else (C8 (l0 + 3) (C8 10 (x1.2).toNat).toNat)) (C8 12 (x1.2).toNat)) else (C8 (l0 + 3) (C8 10 (x1.2).toNat).toNat))) (l0 + 3) (C8 11 (x1.2).toNat).toNat)))))))) else (zg (0 ≤ (C8 11 (x1.2).toNat) ∧ (C8 11 (x1.2).toNat) < 8) (if ((C8 (l0 + 3) (C8 11 (x1.2).toNat).toNat)) ≤ ((zadd (if (C8 (l0 + 3) (C8 11 (x1.2).toNat).toNat) < (C8 (l0 + 3) (C8 10 (x1.2).toNat).toNat) then (C8 (l0 + 3) (C8 11 (x1.2).toNat).toNat) else (C8 (l0 + 3) (C8 10 (x1.2).toNat).toNat)) (C8 12 (x1.2).toNat))) then (some (.inl ((x1.1), (zadd (x1.2) 1)), C8)) else (zg (0 ≤ (C8 10 (x1.2).toNat) ∧ (C8 10 (x1.2).toNat) < 8) (zg (0 ≤ (C8 10 (x1.2).toNat) ∧ (C8 10 (x1.2).toNat) < 8) (zg (0 ≤ (C8 11 (x1.2).toNat) ∧ (C8 11 (x1.2).toNat) < 8) (zg (0 ≤ (C8 11 (x1.2).toNat) ∧ (C8 11 (x1.2).toNat) < 8) (some (.inl (1, (zadd (x1.2) 1)), zup2 (zup2 C8 (l0 + 3) (C8 10 (x1.2).toNat).toNat (if (zadd (if (C8 (l0 + 3) (C8 11 (x1.2).toNat).toNat) < (C8 (l0 + 3) (C8 10 (x1.2).toNat).toNat) then (C8 (l0 + 3) (C8 11 (x1.2).toNat).toNat) else (C8 (l0 + 3) (C8 10 (x1.2).toNat).toNat)) (C8 12 (x1.2).toNat)) < (C8 (l0 + 3) (C8 10 (x1.2).toNat).toNat) then (zadd (if (C8 (l0 + 3) (C8 11 (x1.2).toNat).toNat) < (C8 (l0 + 3) (C8 10 (x1.2).toNat).toNat) then (C8 (l0 + 3) (C8 11 (x1.2).toNat).toNat) else (C8 (l0 + 3) (C8 10 (x1.2).toNat).toNat)) (C8 12 (x1.2).toNat)) else (C8 (l0 + 3) (C8 10 (x1.2).toNat).toNat))) (l0 + 3) (C8 11 (x1.2).toNat).toNat (if (zadd (if (C8 (l0 + 3) (C8 11 (x1.2).toNat).toNat) < (C8 (l0 + 3) (C8 10 (x1.2).toNat).toNat) then (C8 (l0 + 3) (C8 11 (x1.2).toNat).toNat) else (C8 (l0 + 3) (C8 10 (x1.2).toNat).toNat)) (C8 12 (x1.2).toNat)) < ((zup2 C8 (l0 + 3) (C8 10 (x1.2).toNat).toNat (if (zadd (if (C8 (l0 + 3) (C8 11 (x1.2).toNat).toNat) < (C8 (l0 + 3) (C8 10 (x1.2).toNat).toNat) then (C8 (l0 + 3) (C8 11 (x1.2).toNat).toNat) else (C8 (l0 + 3) (C8 10 (x1.2).toNat).toNat)) (C8 12 (x1.2).toNat)) < (C8 (l0 + 3) (C8 10 (x1.2).toNat).toNat) then (zadd (if (C8 (l0 + 3) (C8 11 (x1.2).toNat).toNat) < (C8 (l0 + 3) (C8 10 (x1.2).toNat).toNat) then (C8 (l0 + 3) (C8 11 (x1.2).toNat).toNat) else (C8 (l0 + 3) (C8 10 (x1.2).toNat).toNat)) (C8 12 (x1.2).toNat)) else (C8 (l0 + 3) (C8 10 (x1.2).toNat).toNat))) (l0 + 3) (C8 11 (x1.2).toNat).toNat) then (zadd (if (C8 (l0 + 3) (C8 11 (x1.2).toNat).toNat) < (C8 (l0 + 3) (C8 10 (x1.2).toNat).toNat) then (C8 (l0 + 3) (C8 11 (x1.2).toNat).toNat) else (C8 (l0 + 3) (C8 10 (x1.2).toNat).toNat)) (C8 12 (x1.2).toNat)) else ((zup2 C8 (l0 + 3) (C8 10 (x1.2).toNat).toNat (if (zadd (if (C8 (l0 + 3) (C8 11 (x1.2).toNat).toNat) < (C8 (l0 + 3) (C8 10 (x1.2).toNat).toNat) then (C8 (l0 + 3) (C8 11 (x1.2).toNat).toNat) else (C8 (l0 + 3) (C8 10 (x1.2).toNat).toNat)) (C8 12 (x1.2).toNat)) < (C8 (l0 + 3) (C8 10 (x1.2).toNat).toNat) then (zadd (if (C8 (l0 + 3) (C8 11 (x1.2).toNat).toNat) < (C8 (l0 + 3) (C8 10 (x1.2).toNat).toNat) then (C8 (l0 + 3) (C8 11 (x1.2).toNat).toNat) else (C8 (l0 + 3) (C8 10 (x1.2).toNat).toNat)) (C8 12 (x1.2).toNat)) else (C8 (l0 + 3) (C8 10 (x1.2).toNat).toNat))) (l0 + 3) (C8 11 (x1.2).toNat).toNat))))))))))))))))))
noncomputable def c_Walk_goOn (l0 : Nat) (l1 : Int) (C : ZC) : Option (Int × ZC) :=
  zbd (zloop (c_Walk_goOn_L4 l0 l1) (0, 0) C) fun y4 C31 => zg (y4 = 0 ∨ y4 = 1) (some (y4, C31))
set_option maxRecDepth 100000 in
theorem r_17 {d : Nat} {S : ZS} (hS : zShC S) {l0 : Nat} {l1 : Int} (hl0 : zisW l0) {C : ZC} : zRq (zKi S) (c_Walk_goOn l0 l1 C) (zR (d + 2) 17 0 [some (.inr (.inr (some l0))), some (.inl l1), none, none, none, none, none] [] S C) := by
  unfold c_Walk_goOn
  refine zRq_rw (zb_17_0 hS hl0) ?_
  refine zRq_bdf (f := (fun (xq : Int) (jq : (Int × Option ZV × Option ZV × Option ZV)) (Cq : ZC) => zR (d + 2) 17 144 [some (.inr (.inr (some l0))), some (.inl l1), some (.inl xq), some (.inl (jq.1)), (jq.2.1), (jq.2.2.1), (jq.2.2.2)] [] S Cq)) (zRq_loop (f := (fun (xq : (Int × Int)) (jq : (Option ZV × Option ZV × Option ZV)) (Cq : ZC) => zR (d + 2) 17 4 [some (.inr (.inr (some l0))), some (.inl l1), some (.inl (xq.1)), some (.inl (xq.2)), (jq.1), (jq.2.1), (jq.2.2)] [] S Cq)) (fun x1 j2 C3 => ?_) _ (none, none, none) _) (fun y4 j30 C31 => ?_)
  · unfold c_Walk_goOn_L4
    refine zRq_rw (zb_17_4 hS hl0) ?_
    refine zRq_ite (fun h5 => ?_) (fun h6 => ?_)
    · exact zRq_lf fun r h => h ((x1.2), (j2.1), (j2.2.1), (j2.2.2))
    · refine zRq_rw (zb_17_15 hS hl0) ?_
      refine zRq_ci (r_61 hS) (fun v7 C8 => ?_)
      refine zRq_rw (zb_17_20 hS hl0) ?_
      refine zRq_ite (fun h9 => ?_) (fun h10 => ?_)
      · refine zRq_rw (zb_17_138 hS hl0) ?_
        exact zRq_lf fun r h => h ((j2.1), (j2.2.1), (j2.2.2))
      · refine zRq_rw (zb_17_23 hS hl0) ?_
        refine zRq_g (fun h11 => ?_)
        refine zRq_g (fun h12 => ?_)
        refine zRq_g (fun h13 => ?_)
        refine zRq_g (fun h14 => ?_)
        refine zRq_g (fun h15 => ?_)
        refine zRq_g (fun h16 => ?_)
        refine zRq_ite (fun h17 => ?_) (fun h18 => ?_)
        · refine zRq_rw (zb_17_98 hS hl0) ?_
          refine zRq_g (fun h19 => ?_)
          refine zRq_g (fun h20 => ?_)
          refine zRq_g (fun h21 => ?_)
          refine zRq_g (fun h22 => ?_)
          refine zRq_rw (zb_17_138 hS hl0) ?_
          exact zRq_lf fun r h => h ((some (.inl (C8 10 (x1.2).toNat))), (some (.inl (C8 11 (x1.2).toNat))), (some (.inl (zadd (if (C8 (l0 + 3) (C8 11 (x1.2).toNat).toNat) < (C8 (l0 + 3) (C8 10 (x1.2).toNat).toNat) then (C8 (l0 + 3) (C8 11 (x1.2).toNat).toNat) else (C8 (l0 + 3) (C8 10 (x1.2).toNat).toNat)) (C8 12 (x1.2).toNat)))))
        · refine zRq_rw (zb_17_86 hS hl0) ?_
          refine zRq_g (fun h23 => ?_)
          refine zRq_ite (fun h24 => ?_) (fun h25 => ?_)
          · refine zRq_rw (zb_17_138 hS hl0) ?_
            exact zRq_lf fun r h => h ((some (.inl (C8 10 (x1.2).toNat))), (some (.inl (C8 11 (x1.2).toNat))), (some (.inl (zadd (if (C8 (l0 + 3) (C8 11 (x1.2).toNat).toNat) < (C8 (l0 + 3) (C8 10 (x1.2).toNat).toNat) then (C8 (l0 + 3) (C8 11 (x1.2).toNat).toNat) else (C8 (l0 + 3) (C8 10 (x1.2).toNat).toNat)) (C8 12 (x1.2).toNat)))))
          · refine zRq_rw (zb_17_98 hS hl0) ?_
            refine zRq_g (fun h26 => ?_)
            refine zRq_g (fun h27 => ?_)
            refine zRq_g (fun h28 => ?_)
            refine zRq_g (fun h29 => ?_)
            refine zRq_rw (zb_17_138 hS hl0) ?_
            exact zRq_lf fun r h => h ((some (.inl (C8 10 (x1.2).toNat))), (some (.inl (C8 11 (x1.2).toNat))), (some (.inl (zadd (if (C8 (l0 + 3) (C8 11 (x1.2).toNat).toNat) < (C8 (l0 + 3) (C8 10 (x1.2).toNat).toNat) then (C8 (l0 + 3) (C8 11 (x1.2).toNat).toNat) else (C8 (l0 + 3) (C8 10 (x1.2).toNat).toNat)) (C8 12 (x1.2).toNat)))))
  · refine zRq_rw (zb_17_144 hS hl0) ?_
    refine zRq_g (fun h => ?_)
    exact zRq_rt fun r h => h
-- 16: NewOrBack$Walk.look(I)V
noncomputable def c_Walk_look_L28 (l0 : Nat) (l1 : Int) (x4 : (Int × Int)) (C6 : ZC) : Option (((Int × Int) ⊕ Unit) × ZC) :=
  if ((x4.2)) < 0 then (some (.inr (), C6)) else (zg (0 ≤ (x4.2) ∧ (x4.2) < 12) (zbd (c_N_has l1 (C6 (l0 + 1) (x4.2).toNat) C6) fun v11 C12 => if ¬ v11 = 0 then (some (.inr (), C12)) else (zg (0 ≤ (x4.2) ∧ (x4.2) < 12) (zg (0 ≤ (C12 (l0 + 1) (x4.2).toNat) ∧ (C12 (l0 + 1) (x4.2).toNat) < 12) (zg (0 ≤ (x4.2) ∧ (x4.2) < 12) (zg (0 ≤ (x4.2) ∧ (x4.2) < 12) (zg (0 ≤ (C12 (l0 + 2) (x4.2).toNat) ∧ (C12 (l0 + 2) (x4.2).toNat) < 8) (zg (0 ≤ (C12 (l0 + 2) (x4.2).toNat) ∧ (C12 (l0 + 2) (x4.2).toNat) < 8) (some (.inl ((zadd (x4.1) (C12 12 (C12 (l0 + 1) (x4.2).toNat).toNat)), (zadd (x4.2) (-1))), zup2 C12 (l0 + 3) (C12 (l0 + 2) (x4.2).toNat).toNat (if (zadd (x4.1) (C12 12 (C12 (l0 + 1) (x4.2).toNat).toNat)) < (C12 (l0 + 3) (C12 (l0 + 2) (x4.2).toNat).toNat) then (zadd (x4.1) (C12 12 (C12 (l0 + 1) (x4.2).toNat).toNat)) else (C12 (l0 + 3) (C12 (l0 + 2) (x4.2).toNat).toNat))))))))))))
noncomputable def c_Walk_look_L99 (l0 : Nat) (l1 : Int) (x23 : (Int × Int)) (C25 : ZC) : Option (((Int × Int) ⊕ Unit) × ZC) :=
  if 8 ≤ ((x23.2)) then (some (.inr (), C25)) else (if ((x23.1)) = 0 then (some (.inr (), C25)) else (zbd (c_Walk_goOn l0 (zor (C25 l0 7) l1) C25) fun v31 C32 => some (.inl (v31, (zadd (x23.2) 1)), C32)))
noncomputable def c_Walk_look_L135 (l0 : Nat) (x35 : Int) (C37 : ZC) : Option ((Int ⊕ Unit) × ZC) :=
  if 8 ≤ x35 then (some (.inr (), C37)) else (zg (0 ≤ x35 ∧ x35 < 8) (if 1048576 ≤ ((C37 (l0 + 3) x35.toNat)) then (some (.inl (zadd x35 1), zup2 C37 l0 11 (zor (C37 l0 11) 0))) else (some (.inl (zadd x35 1), zup2 C37 l0 11 (zor (C37 l0 11) (zshl 1 x35))))))
noncomputable def c_Walk_look (l0 : Nat) (l1 : Int) (C : ZC) : Option (Int × ZC) :=
  zbd (c_Arrays_fill (l0 + 3) 8 1048576 C) fun v1 C2 => zg (0 ≤ (C2 l0 5) ∧ (C2 l0 5) < 8) (zbd (zloop (c_Walk_look_L28 l0 l1) (0, (zsub ((zup2 C2 (l0 + 3) (C2 l0 5).toNat 0) l0 6) 1)) (zup2 C2 (l0 + 3) (C2 l0 5).toNat 0)) fun y7 C22 => zbd (zloop (c_Walk_look_L99 l0 l1) (1, 0) C22) fun y26 C34 => zbd (zloop (c_Walk_look_L135 l0) 0 (zup2 C34 l0 11 0)) fun y38 C45 => some (0, C45))
set_option maxRecDepth 100000 in
theorem r_16 {d : Nat} {S : ZS} (hS : zShC S) {l0 : Nat} {l1 : Int} (hl0 : zisW l0) {C : ZC} : zRq (zKv S) (c_Walk_look l0 l1 C) (zR (d + 3) 16 0 [some (.inr (.inr (some l0))), some (.inl l1), none, none, none] [] S C) := by
  unfold c_Walk_look
  refine zRq_rw (zb_16_0 hS hl0) ?_
  refine zRq_cv (r_1 hS ⟨sw3 hS hl0, swl3 hS hl0⟩ (by decide)) (fun v1 C2 => ?_)
  refine zRq_rw (zb_16_9 hS hl0) ?_
  refine zRq_g (fun h3 => ?_)
  refine zRq_bdf (f := (fun (xq : Unit) (jq : (Int × Int × Option ZV)) (Cq : ZC) => zR (d + 3) 16 94 [some (.inr (.inr (some l0))), some (.inl l1), some (.inl (jq.1)), some (.inl (jq.2.1)), (jq.2.2)] [] S Cq)) (zRq_loop (f := (fun (xq : (Int × Int)) (jq : Option ZV) (Cq : ZC) => zR (d + 3) 16 28 [some (.inr (.inr (some l0))), some (.inl l1), some (.inl (xq.1)), some (.inl (xq.2)), jq] [] S Cq)) (fun x4 j5 C6 => ?_) _ none _) (fun y7 j21 C22 => ?_)
  · unfold c_Walk_look_L28
    refine zRq_rw (zb_16_28 hS hl0) ?_
    refine zRq_ite (fun h8 => ?_) (fun h9 => ?_)
    · exact zRq_lf fun r h => h ((x4.1), (x4.2), j5)
    · refine zRq_rw (zb_16_32 hS hl0) ?_
      refine zRq_g (fun h10 => ?_)
      refine zRq_ci (r_61 hS) (fun v11 C12 => ?_)
      refine zRq_rw (zb_16_42 hS hl0) ?_
      refine zRq_ite (fun h13 => ?_) (fun h14 => ?_)
      · exact zRq_lf fun r h => h ((x4.1), (x4.2), j5)
      · refine zRq_rw (zb_16_45 hS hl0) ?_
        refine zRq_g (fun h15 => ?_)
        refine zRq_g (fun h16 => ?_)
        refine zRq_g (fun h17 => ?_)
        refine zRq_g (fun h18 => ?_)
        refine zRq_g (fun h19 => ?_)
        refine zRq_g (fun h20 => ?_)
        refine zRq_lf fun r h => ?_
        have h2 := h j5
        dsimp only [zKf, zKs] at h2
        rw [show d + 2 + 1 = d + 3 from rfl]
        exact h2
  · refine zRq_rw (zb_16_94 hS hl0) ?_
    refine zRq_bdf (f := (fun (xq : Unit) (jq : (Int × Int)) (Cq : ZC) => zR (d + 3) 16 127 [some (.inr (.inr (some l0))), some (.inl l1), some (.inl (j21.1)), some (.inl (jq.1)), some (.inl (jq.2))] [] S Cq)) (zRq_loop (f := (fun (xq : (Int × Int)) (jq : Unit) (Cq : ZC) => zR (d + 3) 16 99 [some (.inr (.inr (some l0))), some (.inl l1), some (.inl (j21.1)), some (.inl (xq.1)), some (.inl (xq.2))] [] S Cq)) (fun x23 j24 C25 => ?_) _ () _) (fun y26 j33 C34 => ?_)
    · unfold c_Walk_look_L99
      refine zRq_rw (zb_16_99 hS hl0) ?_
      refine zRq_ite (fun h27 => ?_) (fun h28 => ?_)
      · exact zRq_lf fun r h => h ((x23.1), (x23.2))
      · refine zRq_rw (zb_16_106 hS hl0) ?_
        refine zRq_ite (fun h29 => ?_) (fun h30 => ?_)
        · exact zRq_lf fun r h => h ((x23.1), (x23.2))
        · refine zRq_rw (zb_16_110 hS hl0) ?_
          refine zRq_ci (r_17 hS hl0) (fun v31 C32 => ?_)
          refine zRq_rw (zb_16_120 hS hl0) ?_
          exact zRq_lf fun r h => h ()
    · refine zRq_rw (zb_16_127 hS hl0) ?_
      refine zRq_bdf (f := (fun (xq : Unit) (jq : Int) (Cq : ZC) => zR (d + 3) 16 177 [some (.inr (.inr (some l0))), some (.inl l1), some (.inl (j21.1)), some (.inl (j33.1)), some (.inl jq)] [] S Cq)) (zRq_loop (f := (fun (xq : Int) (jq : Unit) (Cq : ZC) => zR (d + 3) 16 135 [some (.inr (.inr (some l0))), some (.inl l1), some (.inl (j21.1)), some (.inl (j33.1)), some (.inl xq)] [] S Cq)) (fun x35 j36 C37 => ?_) _ () _) (fun y38 j44 C45 => ?_)
      · unfold c_Walk_look_L135
        refine zRq_rw (zb_16_135 hS hl0) ?_
        refine zRq_ite (fun h39 => ?_) (fun h40 => ?_)
        · exact zRq_lf fun r h => h x35
        · refine zRq_rw (zb_16_142 hS hl0) ?_
          refine zRq_g (fun h41 => ?_)
          refine zRq_ite (fun h42 => ?_) (fun h43 => ?_)
          · refine zRq_rw (zb_16_166 hS hl0 hl0) ?_
            refine zRq_rw (zb_16_167 hS hl0 hl0) ?_
            exact zRq_lf fun r h => h ()
          · refine zRq_rw (zb_16_159 hS hl0 hl0) ?_
            refine zRq_rw (zb_16_167 hS hl0 hl0) ?_
            exact zRq_lf fun r h => h ()
      · refine zRq_rw (zb_16_177 hS hl0) ?_
        exact zRq_rt fun r h => h
-- 10: NewOrBack$Walk.follow([II)V
noncomputable def c_Walk_follow_L10 (l0 : Nat) (l1 : Nat) (l2 : Int) (x3 : Int) (C5 : ZC) : Option ((Int ⊕ Unit) × ZC) :=
  if l2 ≤ x3 then (some (.inr (), C5)) else (if ¬ ((C5 l0 10)) = ((-1)) then (some (.inr (), C5)) else (zg (0 ≤ x3 ∧ x3 < 60) (zbd (c_Walk_kindOf l0 (zsub (C5 l1 x3.toNat) 97) C5) fun v12 C13 => if ¬ v12 = 0 then (zbd (c_Walk_step l0 (zsub (C5 l1 x3.toNat) 97) v12 C13) fun v16 C17 => some (.inl (zadd x3 1), C17)) else (some (.inl (zadd x3 1), zup2 C13 l0 10 x3)))))
noncomputable def c_Walk_follow (l0 : Nat) (l1 : Nat) (l2 : Int) (C : ZC) : Option (Int × ZC) :=
  zbd (c_Walk_begin l0 (C l0 4) C) fun v1 C2 => zbd (zloop (c_Walk_follow_L10 l0 l1 l2) 0 C2) fun y6 C19 => zbd (c_Walk_look l0 0 C19) fun v20 C21 => some (0, C21)
set_option maxRecDepth 100000 in
theorem r_10 {d : Nat} {S : ZS} (hS : zShC S) {l0 : Nat} {l1 : Nat} {l2 : Int} (hl0 : zisW l0) (hl1 : zisI S l1 60) {C : ZC} : zRq (zKv S) (c_Walk_follow l0 l1 l2 C) (zR (d + 4) 10 0 [some (.inr (.inr (some l0))), some (.inr (.inr (some l1))), some (.inl l2), none, none, none] [] S C) := by
  unfold c_Walk_follow
  refine zRq_rw (zb_10_0 hS hl0 hl1) ?_
  refine zRq_cv (r_11 hS hl0) (fun v1 C2 => ?_)
  refine zRq_rw (zb_10_8 hS hl0 hl1) ?_
  refine zRq_bdf (f := (fun (xq : Unit) (jq : (Int × Option ZV × Option ZV)) (Cq : ZC) => zR (d + 4) 10 66 [some (.inr (.inr (some l0))), some (.inr (.inr (some l1))), some (.inl l2), some (.inl (jq.1)), (jq.2.1), (jq.2.2)] [] S Cq)) (zRq_loop (f := (fun (xq : Int) (jq : (Option ZV × Option ZV)) (Cq : ZC) => zR (d + 4) 10 10 [some (.inr (.inr (some l0))), some (.inr (.inr (some l1))), some (.inl l2), some (.inl xq), (jq.1), (jq.2)] [] S Cq)) (fun x3 j4 C5 => ?_) _ (none, none) _) (fun y6 j18 C19 => ?_)
  · unfold c_Walk_follow_L10
    refine zRq_rw (zb_10_10 hS hl0 hl1) ?_
    refine zRq_ite (fun h7 => ?_) (fun h8 => ?_)
    · exact zRq_lf fun r h => h (x3, (j4.1), (j4.2))
    · refine zRq_rw (zb_10_15 hS hl0 hl1) ?_
      refine zRq_ite (fun h9 => ?_) (fun h10 => ?_)
      · exact zRq_lf fun r h => h (x3, (j4.1), (j4.2))
      · refine zRq_rw (zb_10_23 hS hl0 hl1) ?_
        refine zRq_g (fun h11 => ?_)
        refine zRq_ci (r_12 hS hl0) (fun v12 C13 => ?_)
        refine zRq_rw (zb_10_37 hS hl0 hl1) ?_
        refine zRq_ite (fun h14 => ?_) (fun h15 => ?_)
        · refine zRq_rw (zb_10_52 hS hl0 hl1) ?_
          refine zRq_cv (r_13 hS hl0) (fun v16 C17 => ?_)
          refine zRq_rw (zb_10_60 hS hl0 hl1) ?_
          exact zRq_lf fun r h => h (some (.inl (zsub (C5 l1 x3.toNat) 97)), some (.inl v12))
        · refine zRq_rw (zb_10_44 hS hl0 hl1) ?_
          refine zRq_rw (zb_10_60 hS hl0 hl1) ?_
          exact zRq_lf fun r h => h (some (.inl (zsub (C5 l1 x3.toNat) 97)), some (.inl v12))
  · refine zRq_rw (zb_10_66 hS hl0 hl1) ?_
    refine zRq_cv (r_16 hS hl0) (fun v20 C21 => ?_)
    refine zRq_rw (zb_10_71 hS hl0 hl1) ?_
    exact zRq_rt fun r h => h
-- 18: NewOrBack$Walk.soonTo(I)I
noncomputable def c_Walk_soonTo (l0 : Nat) (l1 : Int) (C : ZC) : Option (Int × ZC) :=
  zg (0 ≤ l1 ∧ l1 < 8) (if 1048576 ≤ ((C (l0 + 3) l1.toNat)) then (some ((-1), C)) else (zg (0 ≤ l1 ∧ l1 < 8) (some ((C (l0 + 3) l1.toNat), C))))
set_option maxRecDepth 100000 in
theorem r_18 {d : Nat} {S : ZS} (hS : zShC S) {l0 : Nat} {l1 : Int} (hl0 : zisW l0) {C : ZC} : zRq (zKi S) (c_Walk_soonTo l0 l1 C) (zR (d + 1) 18 0 [some (.inr (.inr (some l0))), some (.inl l1)] [] S C) := by
  unfold c_Walk_soonTo
  refine zRq_rw (zb_18_0 hS hl0) ?_
  refine zRq_g (fun h1 => ?_)
  refine zRq_ite (fun h2 => ?_) (fun h3 => ?_)
  · refine zRq_rw (zb_18_20 hS hl0) ?_
    refine zRq_rw (zb_18_21 hS hl0) ?_
    exact zRq_rt fun r h => h
  · refine zRq_rw (zb_18_11 hS hl0) ?_
    refine zRq_g (fun h4 => ?_)
    refine zRq_rw (zb_18_21 hS hl0) ?_
    exact zRq_rt fun r h => h
-- 19: NewOrBack$Walk.become(LNewOrBack$Walk;)V
noncomputable def c_Walk_become (l0 : Nat) (l1 : Nat) (C : ZC) : Option (Int × ZC) :=
  zg (0 ≤ 12 ∧ 0 ≤ 0 ∧ 0 ≤ 0 ∧ 0 + 12 ≤ 12 ∧ 0 + 12 ≤ 12) (zg (0 ≤ 12 ∧ 0 ≤ 0 ∧ 0 ≤ 0 ∧ 0 + 12 ≤ 12 ∧ 0 + 12 ≤ 12) (some (0, zup2 (zup2 (zup2 (zup2 (zrow (zrow C (l0 + 1) (zcpy (C (l1 + 1)) (C (l0 + 1)) 0 0 12)) (l0 + 2) (zcpy ((zrow C (l0 + 1) (zcpy (C (l1 + 1)) (C (l0 + 1)) 0 0 12)) (l1 + 2)) ((zrow C (l0 + 1) (zcpy (C (l1 + 1)) (C (l0 + 1)) 0 0 12)) (l0 + 2)) 0 0 12)) l0 4 ((zrow (zrow C (l0 + 1) (zcpy (C (l1 + 1)) (C (l0 + 1)) 0 0 12)) (l0 + 2) (zcpy ((zrow C (l0 + 1) (zcpy (C (l1 + 1)) (C (l0 + 1)) 0 0 12)) (l1 + 2)) ((zrow C (l0 + 1) (zcpy (C (l1 + 1)) (C (l0 + 1)) 0 0 12)) (l0 + 2)) 0 0 12)) l1 4)) l0 5 ((zup2 (zrow (zrow C (l0 + 1) (zcpy (C (l1 + 1)) (C (l0 + 1)) 0 0 12)) (l0 + 2) (zcpy ((zrow C (l0 + 1) (zcpy (C (l1 + 1)) (C (l0 + 1)) 0 0 12)) (l1 + 2)) ((zrow C (l0 + 1) (zcpy (C (l1 + 1)) (C (l0 + 1)) 0 0 12)) (l0 + 2)) 0 0 12)) l0 4 ((zrow (zrow C (l0 + 1) (zcpy (C (l1 + 1)) (C (l0 + 1)) 0 0 12)) (l0 + 2) (zcpy ((zrow C (l0 + 1) (zcpy (C (l1 + 1)) (C (l0 + 1)) 0 0 12)) (l1 + 2)) ((zrow C (l0 + 1) (zcpy (C (l1 + 1)) (C (l0 + 1)) 0 0 12)) (l0 + 2)) 0 0 12)) l1 4)) l1 5)) l0 6 ((zup2 (zup2 (zrow (zrow C (l0 + 1) (zcpy (C (l1 + 1)) (C (l0 + 1)) 0 0 12)) (l0 + 2) (zcpy ((zrow C (l0 + 1) (zcpy (C (l1 + 1)) (C (l0 + 1)) 0 0 12)) (l1 + 2)) ((zrow C (l0 + 1) (zcpy (C (l1 + 1)) (C (l0 + 1)) 0 0 12)) (l0 + 2)) 0 0 12)) l0 4 ((zrow (zrow C (l0 + 1) (zcpy (C (l1 + 1)) (C (l0 + 1)) 0 0 12)) (l0 + 2) (zcpy ((zrow C (l0 + 1) (zcpy (C (l1 + 1)) (C (l0 + 1)) 0 0 12)) (l1 + 2)) ((zrow C (l0 + 1) (zcpy (C (l1 + 1)) (C (l0 + 1)) 0 0 12)) (l0 + 2)) 0 0 12)) l1 4)) l0 5 ((zup2 (zrow (zrow C (l0 + 1) (zcpy (C (l1 + 1)) (C (l0 + 1)) 0 0 12)) (l0 + 2) (zcpy ((zrow C (l0 + 1) (zcpy (C (l1 + 1)) (C (l0 + 1)) 0 0 12)) (l1 + 2)) ((zrow C (l0 + 1) (zcpy (C (l1 + 1)) (C (l0 + 1)) 0 0 12)) (l0 + 2)) 0 0 12)) l0 4 ((zrow (zrow C (l0 + 1) (zcpy (C (l1 + 1)) (C (l0 + 1)) 0 0 12)) (l0 + 2) (zcpy ((zrow C (l0 + 1) (zcpy (C (l1 + 1)) (C (l0 + 1)) 0 0 12)) (l1 + 2)) ((zrow C (l0 + 1) (zcpy (C (l1 + 1)) (C (l0 + 1)) 0 0 12)) (l0 + 2)) 0 0 12)) l1 4)) l1 5)) l1 6)) l0 7 ((zup2 (zup2 (zup2 (zrow (zrow C (l0 + 1) (zcpy (C (l1 + 1)) (C (l0 + 1)) 0 0 12)) (l0 + 2) (zcpy ((zrow C (l0 + 1) (zcpy (C (l1 + 1)) (C (l0 + 1)) 0 0 12)) (l1 + 2)) ((zrow C (l0 + 1) (zcpy (C (l1 + 1)) (C (l0 + 1)) 0 0 12)) (l0 + 2)) 0 0 12)) l0 4 ((zrow (zrow C (l0 + 1) (zcpy (C (l1 + 1)) (C (l0 + 1)) 0 0 12)) (l0 + 2) (zcpy ((zrow C (l0 + 1) (zcpy (C (l1 + 1)) (C (l0 + 1)) 0 0 12)) (l1 + 2)) ((zrow C (l0 + 1) (zcpy (C (l1 + 1)) (C (l0 + 1)) 0 0 12)) (l0 + 2)) 0 0 12)) l1 4)) l0 5 ((zup2 (zrow (zrow C (l0 + 1) (zcpy (C (l1 + 1)) (C (l0 + 1)) 0 0 12)) (l0 + 2) (zcpy ((zrow C (l0 + 1) (zcpy (C (l1 + 1)) (C (l0 + 1)) 0 0 12)) (l1 + 2)) ((zrow C (l0 + 1) (zcpy (C (l1 + 1)) (C (l0 + 1)) 0 0 12)) (l0 + 2)) 0 0 12)) l0 4 ((zrow (zrow C (l0 + 1) (zcpy (C (l1 + 1)) (C (l0 + 1)) 0 0 12)) (l0 + 2) (zcpy ((zrow C (l0 + 1) (zcpy (C (l1 + 1)) (C (l0 + 1)) 0 0 12)) (l1 + 2)) ((zrow C (l0 + 1) (zcpy (C (l1 + 1)) (C (l0 + 1)) 0 0 12)) (l0 + 2)) 0 0 12)) l1 4)) l1 5)) l0 6 ((zup2 (zup2 (zrow (zrow C (l0 + 1) (zcpy (C (l1 + 1)) (C (l0 + 1)) 0 0 12)) (l0 + 2) (zcpy ((zrow C (l0 + 1) (zcpy (C (l1 + 1)) (C (l0 + 1)) 0 0 12)) (l1 + 2)) ((zrow C (l0 + 1) (zcpy (C (l1 + 1)) (C (l0 + 1)) 0 0 12)) (l0 + 2)) 0 0 12)) l0 4 ((zrow (zrow C (l0 + 1) (zcpy (C (l1 + 1)) (C (l0 + 1)) 0 0 12)) (l0 + 2) (zcpy ((zrow C (l0 + 1) (zcpy (C (l1 + 1)) (C (l0 + 1)) 0 0 12)) (l1 + 2)) ((zrow C (l0 + 1) (zcpy (C (l1 + 1)) (C (l0 + 1)) 0 0 12)) (l0 + 2)) 0 0 12)) l1 4)) l0 5 ((zup2 (zrow (zrow C (l0 + 1) (zcpy (C (l1 + 1)) (C (l0 + 1)) 0 0 12)) (l0 + 2) (zcpy ((zrow C (l0 + 1) (zcpy (C (l1 + 1)) (C (l0 + 1)) 0 0 12)) (l1 + 2)) ((zrow C (l0 + 1) (zcpy (C (l1 + 1)) (C (l0 + 1)) 0 0 12)) (l0 + 2)) 0 0 12)) l0 4 ((zrow (zrow C (l0 + 1) (zcpy (C (l1 + 1)) (C (l0 + 1)) 0 0 12)) (l0 + 2) (zcpy ((zrow C (l0 + 1) (zcpy (C (l1 + 1)) (C (l0 + 1)) 0 0 12)) (l1 + 2)) ((zrow C (l0 + 1) (zcpy (C (l1 + 1)) (C (l0 + 1)) 0 0 12)) (l0 + 2)) 0 0 12)) l1 4)) l1 5)) l1 6)) l1 7))))
set_option maxRecDepth 100000 in
theorem r_19 {d : Nat} {S : ZS} (hS : zShC S) {l0 : Nat} {l1 : Nat} (hl0 : zisW l0) (hl1 : zisW l1) {C : ZC} : zRq (zKv S) (c_Walk_become l0 l1 C) (zR (d + 1) 19 0 [some (.inr (.inr (some l0))), some (.inr (.inr (some l1)))] [] S C) := by
  unfold c_Walk_become
  refine zRq_rw (zb_19_0 hS hl0 hl1) ?_
  refine zRq_g (fun h1 => ?_)
  refine zRq_g (fun h2 => ?_)
  exact zRq_rt fun r h => h
-- 20: NewOrBack$Walk.undoNew()V
noncomputable def c_Walk_undoNew (l0 : Nat) (C : ZC) : Option (Int × ZC) :=
  zbd (c_Walk_goBack l0 C) fun v1 C2 => zg (0 ≤ (C2 l0 6) ∧ (C2 l0 6) < 12) (some (0, zup2 C2 l0 7 (zand (C2 l0 7) (zxor (zshl 1 (C2 (l0 + 1) (C2 l0 6).toNat)) (-1)))))
set_option maxRecDepth 100000 in
theorem r_20 {d : Nat} {S : ZS} (hS : zShC S) {l0 : Nat} (hl0 : zisW l0) {C : ZC} : zRq (zKv S) (c_Walk_undoNew l0 C) (zR (d + 2) 20 0 [some (.inr (.inr (some l0)))] [] S C) := by
  unfold c_Walk_undoNew
  refine zRq_rw (zb_20_0 hS hl0) ?_
  refine zRq_cv (r_15 hS hl0) (fun v1 C2 => ?_)
  refine zRq_rw (zb_20_4 hS hl0) ?_
  refine zRq_g (fun h3 => ?_)
  exact zRq_rt fun r h => h
-- 21: NewOrBack$Walk.undoBack(I)V
noncomputable def c_Walk_undoBack (l0 : Nat) (l1 : Int) (C : ZC) : Option (Int × ZC) :=
  zbd (c_Walk_goNew l0 l1 C) fun v1 C2 => some (0, C2)
set_option maxRecDepth 100000 in
theorem r_21 {d : Nat} {S : ZS} (hS : zShC S) {l0 : Nat} {l1 : Int} (hl0 : zisW l0) {C : ZC} : zRq (zKv S) (c_Walk_undoBack l0 l1 C) (zR (d + 3) 21 0 [some (.inr (.inr (some l0))), some (.inl l1)] [] S C) := by
  unfold c_Walk_undoBack
  refine zRq_rw (zb_21_0 hS hl0) ?_
  refine zRq_cv (r_14 hS hl0) (fun v1 C2 => ?_)
  refine zRq_rw (zb_21_5 hS hl0) ?_
  exact zRq_rt fun r h => h
-- 22: NewOrBack$Walk.leastOpenFrom(I)I
noncomputable def c_Walk_leastOpenFrom_L16 (l0 : Nat) (l1 : Int) (x1 : (Int × Int × Int)) (C3 : ZC) : Option (((Int × Int × Int) ⊕ Int) × ZC) :=
  if ((x1.2.2)) < 0 then (some (.inr (x1.1), C3)) else (zbd (c_N_has l1 (x1.2.1) C3) fun v7 C8 => if v7 = 0 then (some (.inr (x1.1), C8)) else (zg (0 ≤ (x1.2.2) ∧ (x1.2.2) < 12) (zg (0 ≤ (x1.2.2) ∧ (x1.2.2) < 12) (some (.inl ((if (C8 (l0 + 1) (x1.2.2).toNat) < (x1.1) then (C8 (l0 + 1) (x1.2.2).toNat) else (x1.1)), (C8 (l0 + 2) (x1.2.2).toNat), (zadd (x1.2.2) (-1))), C8)))))
noncomputable def c_Walk_leastOpenFrom (l0 : Nat) (l1 : Int) (C : ZC) : Option (Int × ZC) :=
  zbd (zloop (c_Walk_leastOpenFrom_L16 l0 l1) (12, (C l0 5), (zsub (C l0 6) 1)) C) fun y4 C14 => some (y4, C14)
set_option maxRecDepth 100000 in
theorem r_22 {d : Nat} {S : ZS} (hS : zShC S) {l0 : Nat} {l1 : Int} (hl0 : zisW l0) {C : ZC} : zRq (zKi S) (c_Walk_leastOpenFrom l0 l1 C) (zR (d + 2) 22 0 [some (.inr (.inr (some l0))), some (.inl l1), none, none, none] [] S C) := by
  unfold c_Walk_leastOpenFrom
  refine zRq_rw (zb_22_0 hS hl0) ?_
  refine zRq_bdf (f := (fun (xq : Int) (jq : (Int × Int)) (Cq : ZC) => zR (d + 2) 22 55 [some (.inr (.inr (some l0))), some (.inl l1), some (.inl xq), some (.inl (jq.1)), some (.inl (jq.2))] [] S Cq)) (zRq_loop (f := (fun (xq : (Int × Int × Int)) (jq : Unit) (Cq : ZC) => zR (d + 2) 22 16 [some (.inr (.inr (some l0))), some (.inl l1), some (.inl (xq.1)), some (.inl (xq.2.1)), some (.inl (xq.2.2))] [] S Cq)) (fun x1 j2 C3 => ?_) _ () _) (fun y4 j13 C14 => ?_)
  · unfold c_Walk_leastOpenFrom_L16
    refine zRq_rw (zb_22_16 hS hl0) ?_
    refine zRq_ite (fun h5 => ?_) (fun h6 => ?_)
    · exact zRq_lf fun r h => h ((x1.2.1), (x1.2.2))
    · refine zRq_rw (zb_22_21 hS hl0) ?_
      refine zRq_ci (r_61 hS) (fun v7 C8 => ?_)
      refine zRq_rw (zb_22_26 hS hl0) ?_
      refine zRq_ite (fun h9 => ?_) (fun h10 => ?_)
      · exact zRq_lf fun r h => h ((x1.2.1), (x1.2.2))
      · refine zRq_rw (zb_22_29 hS hl0) ?_
        refine zRq_g (fun h11 => ?_)
        refine zRq_g (fun h12 => ?_)
        refine zRq_lf fun r h => ?_
        have h2 := h ()
        dsimp only [zKf, zKs] at h2
        rw [show d + 1 + 1 = d + 2 from rfl]
        exact h2
  · refine zRq_rw (zb_22_55 hS hl0) ?_
    exact zRq_rt fun r h => h

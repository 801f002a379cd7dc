/-! Layer 2: the methods as programs over the ints (written by wip/whole/gend.py) -/
-- 142: NewOrBackModel.ones(I)I
noncomputable def d_ones_L4 (l0 : Int) (x1 : (Int × Int)) (C3 : ZC) : Option (((Int × Int) ⊕ Int) × ZC) :=
  if 12 ≤ ((x1.2)) then (some (.inr (x1.1), C3)) else (some (.inl ((zadd (x1.1) (zand (zshr l0 (x1.2)) 1)), (zadd (x1.2) 1)), C3))
noncomputable def d_ones (l0 : Int) (C : ZC) : Option (Int × ZC) :=
  zbd (zloop (d_ones_L4 l0) (0, 0) C) fun y4 C8 => some (y4, C8)
set_option maxRecDepth 100000 in
theorem r_142 {d : Nat} {S : ZS} (hS : zShM S) {l0 : Int} {C : ZC} : zRq (zKi S) (d_ones l0 C) (zR (d + 1) 142 0 [some (.inl l0), none, none] [] S C) := by
  unfold d_ones
  refine zRq_rw (zb_142_0 hS) ?_
  refine zRq_bdf (f := (fun (xq : Int) (jq : Int) (Cq : ZC) => zR (d + 1) 142 24 [some (.inl l0), some (.inl xq), some (.inl jq)] [] S Cq)) (zRq_loop (f := (fun (xq : (Int × Int)) (jq : Unit) (Cq : ZC) => zR (d + 1) 142 4 [some (.inl l0), some (.inl (xq.1)), some (.inl (xq.2))] [] S Cq)) (fun x1 j2 C3 => ?_) _ () _) (fun y4 j7 C8 => ?_)
  · unfold d_ones_L4
    refine zRq_rw (zb_142_4 hS) ?_
    refine zRq_ite (fun h5 => ?_) (fun h6 => ?_)
    · exact zRq_lf fun r h => h (x1.2)
    · refine zRq_rw (zb_142_10 hS) ?_
      exact zRq_lf fun r h => h ()
  · refine zRq_rw (zb_142_24 hS) ?_
    exact zRq_rt fun r h => h
-- 144: NewOrBackModel.unsteps(II)V
noncomputable def d_unsteps (l1 : Int) (l2 : Int) (C : ZC) : Option (Int × ZC) :=
  zbd (d_beyond l1 (C 72 7) C) fun v1 C2 => if ¬ l2 = 1 then (zg (0 ≤ ((zup2 C2 72 7 v1) 72 9) ∧ ((zup2 C2 72 7 v1) 72 9) < 64) (some (0, zup2 (zup2 (zup2 C2 72 7 v1) 79 ((zup2 C2 72 7 v1) 72 9).toNat l1) 72 9 (zadd ((zup2 (zup2 C2 72 7 v1) 79 ((zup2 C2 72 7 v1) 72 9).toNat l1) 72 9) 1)))) else (some (0, zup2 (zup2 (zup2 C2 72 7 v1) 72 8 (zand ((zup2 C2 72 7 v1) 72 8) (zxor (zshl 1 l1) (-1)))) 72 9 (zsub ((zup2 (zup2 C2 72 7 v1) 72 8 (zand ((zup2 C2 72 7 v1) 72 8) (zxor (zshl 1 l1) (-1)))) 72 9) 1)))
set_option maxRecDepth 100000 in
theorem r_144 {d : Nat} {S : ZS} (hS : zShM S) {l1 : Int} {l2 : Int} {C : ZC} : zRq (zKv S) (d_unsteps l1 l2 C) (zR (d + 2) 144 0 [some (.inr (.inr (some 72))), some (.inl l1), some (.inl l2)] [] S C) := by
  unfold d_unsteps
  refine zRq_rw (zb_144_0 hS) ?_
  refine zRq_ci (r_121 hS) (fun v1 C2 => ?_)
  refine zRq_rw (zb_144_10 hS) ?_
  refine zRq_ite (fun h3 => ?_) (fun h4 => ?_)
  · refine zRq_rw (zb_144_45 hS) ?_
    refine zRq_g (fun h5 => ?_)
    refine zRq_rw (zb_144_65 hS) ?_
    exact zRq_rt fun r h => h
  · refine zRq_rw (zb_144_18 hS) ?_
    refine zRq_rw (zb_144_65 hS) ?_
    exact zRq_rt fun r h => h
-- 143: NewOrBackModel.runsErrands(II)I
noncomputable def d_runsErrands_L305 (l1 : Int) (l2 : Int) (l3 : Int) (x48 : Int) (C50 : ZC) : Option ((Int ⊕ Unit) × ZC) :=
  if l3 ≤ x48 then (some (.inr (), C50)) else (zg (0 ≤ x48 ∧ x48 < 64) (zg (0 ≤ x48 ∧ x48 < 64) (some (.inl (zadd x48 1), zup2 C50 85 x48.toNat (C50 81 x48.toNat)))))
noncomputable def d_runsErrands_L76 (l1 : Int) (l2 : Int) (x5 : Int) (C7 : ZC) : Option ((Int ⊕ Unit) × ZC) :=
  if x5 < 0 then (some (.inr (), C7)) else (zg (0 ≤ x5 ∧ x5 < 64) (zg (0 ≤ x5 ∧ x5 < 64) (zg (0 ≤ x5 ∧ x5 < 64) (if (((zup2 C7 81 x5.toNat (zadd (C7 81 x5.toNat) 1)) 81 x5.toNat)) < (((zup2 C7 81 x5.toNat (zadd (C7 81 x5.toNat) 1)) 72 2)) then (zbd (d_mayBe ((zup2 C7 81 x5.toNat (zadd (C7 81 x5.toNat) 1)) 81 x5.toNat) (zup2 C7 81 x5.toNat (zadd (C7 81 x5.toNat) 1))) fun v16 C17 => zbd (α := (Int × Int × Int)) (zg (0 ≤ x5 ∧ x5 < 64) (zg (0 ≤ ((zup2 C7 81 x5.toNat (zadd (C7 81 x5.toNat) 1)) 81 x5.toNat) ∧ ((zup2 C7 81 x5.toNat (zadd (C7 81 x5.toNat) 1)) 81 x5.toNat) < 13) (if ((C17 72 21)) = ((-1)) then (some ((v16, (zadd (C17 84 x5.toNat) (C17 77 ((zup2 C7 81 x5.toNat (zadd (C7 81 x5.toNat) 1)) 81 x5.toNat).toNat)), 1), C17)) else (if ((zadd (C17 84 x5.toNat) (C17 77 ((zup2 C7 81 x5.toNat (zadd (C7 81 x5.toNat) 1)) 81 x5.toNat).toNat))) < ((C17 72 21)) then (some ((v16, (zadd (C17 84 x5.toNat) (C17 77 ((zup2 C7 81 x5.toNat (zadd (C7 81 x5.toNat) 1)) 81 x5.toNat).toNat)), 1), C17)) else (if ¬ ((zadd (C17 84 x5.toNat) (C17 77 ((zup2 C7 81 x5.toNat (zadd (C7 81 x5.toNat) 1)) 81 x5.toNat).toNat))) = ((C17 72 21)) then (some ((v16, (zadd (C17 84 x5.toNat) (C17 77 ((zup2 C7 81 x5.toNat (zadd (C7 81 x5.toNat) 1)) 81 x5.toNat).toNat)), 0), C17)) else (if ((C17 72 20)) ≤ ((zadd x5 1)) then (some ((v16, (zadd (C17 84 x5.toNat) (C17 77 ((zup2 C7 81 x5.toNat (zadd (C7 81 x5.toNat) 1)) 81 x5.toNat).toNat)), 0), C17)) else (some ((v16, (zadd (C17 84 x5.toNat) (C17 77 ((zup2 C7 81 x5.toNat (zadd (C7 81 x5.toNat) 1)) 81 x5.toNat).toNat)), 1), C17)))))))) fun y18 C20 => if ((y18.1)) ≤ 0 then (some (.inl x5, C20)) else (if ((y18.2.2)) = 0 then (some (.inl x5, C20)) else (zbd (d_steps ((zup2 C7 81 x5.toNat (zadd (C7 81 x5.toNat) 1)) 81 x5.toNat) (y18.1) C20) fun v35 C36 => zg (0 ≤ x5 ∧ x5 < 64) (zg (0 ≤ (zsub (zadd x5 1) 1) ∧ (zsub (zadd x5 1) 1) < 64) (zg (0 ≤ (zadd x5 1) ∧ (zadd x5 1) < 64) (zg (0 ≤ (zadd x5 1) ∧ (zadd x5 1) < 64) (zg (0 ≤ (zadd x5 1) ∧ (zadd x5 1) < 64) (zg (0 ≤ (zadd x5 1) ∧ (zadd x5 1) < 64) (if ¬ ((zand l2 (zxor ((zup2 (zup2 (zup2 (zup2 C36 82 x5.toNat (y18.1)) 83 (zadd x5 1).toNat (zor ((zup2 C36 82 x5.toNat (y18.1)) 83 (zsub (zadd x5 1) 1).toNat) (zshl 1 ((zup2 C36 82 x5.toNat (y18.1)) 72 7)))) 84 (zadd x5 1).toNat (y18.2.1)) 81 (zadd x5 1).toNat (-1)) 83 (zadd x5 1).toNat) (-1)))) = 0 then (some (.inl (zadd x5 1), zup2 (zup2 (zup2 (zup2 C36 82 x5.toNat (y18.1)) 83 (zadd x5 1).toNat (zor ((zup2 C36 82 x5.toNat (y18.1)) 83 (zsub (zadd x5 1) 1).toNat) (zshl 1 ((zup2 C36 82 x5.toNat (y18.1)) 72 7)))) 84 (zadd x5 1).toNat (y18.2.1)) 81 (zadd x5 1).toNat (-1))) else (zg (0 ≤ l1 ∧ l1 < 4) (if ¬ (((zup2 (zup2 (zup2 (zup2 C36 82 x5.toNat (y18.1)) 83 (zadd x5 1).toNat (zor ((zup2 C36 82 x5.toNat (y18.1)) 83 (zsub (zadd x5 1) 1).toNat) (zshl 1 ((zup2 C36 82 x5.toNat (y18.1)) 72 7)))) 84 (zadd x5 1).toNat (y18.2.1)) 81 (zadd x5 1).toNat (-1)) 72 7)) = (((zup2 (zup2 (zup2 (zup2 C36 82 x5.toNat (y18.1)) 83 (zadd x5 1).toNat (zor ((zup2 C36 82 x5.toNat (y18.1)) 83 (zsub (zadd x5 1) 1).toNat) (zshl 1 ((zup2 C36 82 x5.toNat (y18.1)) 72 7)))) 84 (zadd x5 1).toNat (y18.2.1)) 81 (zadd x5 1).toNat (-1)) 78 l1.toNat)) then (some (.inl (zadd x5 1), zup2 (zup2 (zup2 (zup2 C36 82 x5.toNat (y18.1)) 83 (zadd x5 1).toNat (zor ((zup2 C36 82 x5.toNat (y18.1)) 83 (zsub (zadd x5 1) 1).toNat) (zshl 1 ((zup2 C36 82 x5.toNat (y18.1)) 72 7)))) 84 (zadd x5 1).toNat (y18.2.1)) 81 (zadd x5 1).toNat (-1))) else (zbd (zloop (d_runsErrands_L305 l1 l2 (zadd x5 1)) 0 (zup2 (zup2 (zup2 (zup2 (zup2 (zup2 C36 82 x5.toNat (y18.1)) 83 (zadd x5 1).toNat (zor ((zup2 C36 82 x5.toNat (y18.1)) 83 (zsub (zadd x5 1) 1).toNat) (zshl 1 ((zup2 C36 82 x5.toNat (y18.1)) 72 7)))) 84 (zadd x5 1).toNat (y18.2.1)) 81 (zadd x5 1).toNat (-1)) 72 21 (y18.2.1)) 72 20 (zadd x5 1))) fun y51 C57 => some (.inl (zadd x5 1), C57))))))))))))) else (if ((zadd x5 (-1))) < 0 then (some (.inl (zadd x5 (-1)), zup2 C7 81 x5.toNat (zadd (C7 81 x5.toNat) 1))) else (zg (0 ≤ (zadd x5 (-1)) ∧ (zadd x5 (-1)) < 64) (zg (0 ≤ (zadd x5 (-1)) ∧ (zadd x5 (-1)) < 64) (zbd (d_unsteps ((zup2 C7 81 x5.toNat (zadd (C7 81 x5.toNat) 1)) 81 (zadd x5 (-1)).toNat) ((zup2 C7 81 x5.toNat (zadd (C7 81 x5.toNat) 1)) 82 (zadd x5 (-1)).toNat) (zup2 C7 81 x5.toNat (zadd (C7 81 x5.toNat) 1))) fun v62 C63 => some (.inl (zadd x5 (-1)), C63)))))))))
noncomputable def d_runsErrands_L305 (l1 : Int) (l2 : Int) (l3 : Int) (x112 : Int) (C114 : ZC) : Option ((Int ⊕ Unit) × ZC) :=
  if l3 ≤ x112 then (some (.inr (), C114)) else (zg (0 ≤ x112 ∧ x112 < 64) (zg (0 ≤ x112 ∧ x112 < 64) (some (.inl (zadd x112 1), zup2 C114 85 x112.toNat (C114 81 x112.toNat)))))
noncomputable def d_runsErrands_L76 (l1 : Int) (l2 : Int) (x69 : Int) (C71 : ZC) : Option ((Int ⊕ Unit) × ZC) :=
  if x69 < 0 then (some (.inr (), C71)) else (zg (0 ≤ x69 ∧ x69 < 64) (zg (0 ≤ x69 ∧ x69 < 64) (zg (0 ≤ x69 ∧ x69 < 64) (if (((zup2 C71 81 x69.toNat (zadd (C71 81 x69.toNat) 1)) 81 x69.toNat)) < (((zup2 C71 81 x69.toNat (zadd (C71 81 x69.toNat) 1)) 72 2)) then (zbd (d_mayBe ((zup2 C71 81 x69.toNat (zadd (C71 81 x69.toNat) 1)) 81 x69.toNat) (zup2 C71 81 x69.toNat (zadd (C71 81 x69.toNat) 1))) fun v80 C81 => zbd (α := (Int × Int × Int)) (zg (0 ≤ x69 ∧ x69 < 64) (zg (0 ≤ ((zup2 C71 81 x69.toNat (zadd (C71 81 x69.toNat) 1)) 81 x69.toNat) ∧ ((zup2 C71 81 x69.toNat (zadd (C71 81 x69.toNat) 1)) 81 x69.toNat) < 13) (if ((C81 72 21)) = ((-1)) then (some ((v80, (zadd (C81 84 x69.toNat) (C81 77 ((zup2 C71 81 x69.toNat (zadd (C71 81 x69.toNat) 1)) 81 x69.toNat).toNat)), 1), C81)) else (if ((zadd (C81 84 x69.toNat) (C81 77 ((zup2 C71 81 x69.toNat (zadd (C71 81 x69.toNat) 1)) 81 x69.toNat).toNat))) < ((C81 72 21)) then (some ((v80, (zadd (C81 84 x69.toNat) (C81 77 ((zup2 C71 81 x69.toNat (zadd (C71 81 x69.toNat) 1)) 81 x69.toNat).toNat)), 1), C81)) else (if ¬ ((zadd (C81 84 x69.toNat) (C81 77 ((zup2 C71 81 x69.toNat (zadd (C71 81 x69.toNat) 1)) 81 x69.toNat).toNat))) = ((C81 72 21)) then (some ((v80, (zadd (C81 84 x69.toNat) (C81 77 ((zup2 C71 81 x69.toNat (zadd (C71 81 x69.toNat) 1)) 81 x69.toNat).toNat)), 0), C81)) else (if ((C81 72 20)) ≤ ((zadd x69 1)) then (some ((v80, (zadd (C81 84 x69.toNat) (C81 77 ((zup2 C71 81 x69.toNat (zadd (C71 81 x69.toNat) 1)) 81 x69.toNat).toNat)), 0), C81)) else (some ((v80, (zadd (C81 84 x69.toNat) (C81 77 ((zup2 C71 81 x69.toNat (zadd (C71 81 x69.toNat) 1)) 81 x69.toNat).toNat)), 1), C81)))))))) fun y82 C84 => if ((y82.1)) ≤ 0 then (some (.inl x69, C84)) else (if ((y82.2.2)) = 0 then (some (.inl x69, C84)) else (zbd (d_steps ((zup2 C71 81 x69.toNat (zadd (C71 81 x69.toNat) 1)) 81 x69.toNat) (y82.1) C84) fun v99 C100 => zg (0 ≤ x69 ∧ x69 < 64) (zg (0 ≤ (zsub (zadd x69 1) 1) ∧ (zsub (zadd x69 1) 1) < 64) (zg (0 ≤ (zadd x69 1) ∧ (zadd x69 1) < 64) (zg (0 ≤ (zadd x69 1) ∧ (zadd x69 1) < 64) (zg (0 ≤ (zadd x69 1) ∧ (zadd x69 1) < 64) (zg (0 ≤ (zadd x69 1) ∧ (zadd x69 1) < 64) (if ¬ ((zand l2 (zxor ((zup2 (zup2 (zup2 (zup2 C100 82 x69.toNat (y82.1)) 83 (zadd x69 1).toNat (zor ((zup2 C100 82 x69.toNat (y82.1)) 83 (zsub (zadd x69 1) 1).toNat) (zshl 1 ((zup2 C100 82 x69.toNat (y82.1)) 72 7)))) 84 (zadd x69 1).toNat (y82.2.1)) 81 (zadd x69 1).toNat (-1)) 83 (zadd x69 1).toNat) (-1)))) = 0 then (some (.inl (zadd x69 1), zup2 (zup2 (zup2 (zup2 C100 82 x69.toNat (y82.1)) 83 (zadd x69 1).toNat (zor ((zup2 C100 82 x69.toNat (y82.1)) 83 (zsub (zadd x69 1) 1).toNat) (zshl 1 ((zup2 C100 82 x69.toNat (y82.1)) 72 7)))) 84 (zadd x69 1).toNat (y82.2.1)) 81 (zadd x69 1).toNat (-1))) else (zg (0 ≤ l1 ∧ l1 < 4) (if ¬ (((zup2 (zup2 (zup2 (zup2 C100 82 x69.toNat (y82.1)) 83 (zadd x69 1).toNat (zor ((zup2 C100 82 x69.toNat (y82.1)) 83 (zsub (zadd x69 1) 1).toNat) (zshl 1 ((zup2 C100 82 x69.toNat (y82.1)) 72 7)))) 84 (zadd x69 1).toNat (y82.2.1)) 81 (zadd x69 1).toNat (-1)) 72 7)) = (((zup2 (zup2 (zup2 (zup2 C100 82 x69.toNat (y82.1)) 83 (zadd x69 1).toNat (zor ((zup2 C100 82 x69.toNat (y82.1)) 83 (zsub (zadd x69 1) 1).toNat) (zshl 1 ((zup2 C100 82 x69.toNat (y82.1)) 72 7)))) 84 (zadd x69 1).toNat (y82.2.1)) 81 (zadd x69 1).toNat (-1)) 78 l1.toNat)) then (some (.inl (zadd x69 1), zup2 (zup2 (zup2 (zup2 C100 82 x69.toNat (y82.1)) 83 (zadd x69 1).toNat (zor ((zup2 C100 82 x69.toNat (y82.1)) 83 (zsub (zadd x69 1) 1).toNat) (zshl 1 ((zup2 C100 82 x69.toNat (y82.1)) 72 7)))) 84 (zadd x69 1).toNat (y82.2.1)) 81 (zadd x69 1).toNat (-1))) else (zbd (zloop (d_runsErrands_L305 l1 l2 (zadd x69 1)) 0 (zup2 (zup2 (zup2 (zup2 (zup2 (zup2 C100 82 x69.toNat (y82.1)) 83 (zadd x69 1).toNat (zor ((zup2 C100 82 x69.toNat (y82.1)) 83 (zsub (zadd x69 1) 1).toNat) (zshl 1 ((zup2 C100 82 x69.toNat (y82.1)) 72 7)))) 84 (zadd x69 1).toNat (y82.2.1)) 81 (zadd x69 1).toNat (-1)) 72 21 (y82.2.1)) 72 20 (zadd x69 1))) fun y115 C121 => some (.inl (zadd x69 1), C121))))))))))))) else (if ((zadd x69 (-1))) < 0 then (some (.inl (zadd x69 (-1)), zup2 C71 81 x69.toNat (zadd (C71 81 x69.toNat) 1))) else (zg (0 ≤ (zadd x69 (-1)) ∧ (zadd x69 (-1)) < 64) (zg (0 ≤ (zadd x69 (-1)) ∧ (zadd x69 (-1)) < 64) (zbd (d_unsteps ((zup2 C71 81 x69.toNat (zadd (C71 81 x69.toNat) 1)) 81 (zadd x69 (-1)).toNat) ((zup2 C71 81 x69.toNat (zadd (C71 81 x69.toNat) 1)) 82 (zadd x69 (-1)).toNat) (zup2 C71 81 x69.toNat (zadd (C71 81 x69.toNat) 1))) fun v126 C127 => some (.inl (zadd x69 (-1)), C127)))))))))
noncomputable def d_runsErrands (l1 : Int) (l2 : Int) (C : ZC) : Option (Int × ZC) :=
  zbd (d_walks l1 C) fun v1 C2 => if ¬ ((zand l2 (zxor ((zup2 (zup2 (zup2 (zup2 (zup2 C2 72 21 (-1)) 72 20 0) 81 0 (-1)) 83 0 (zshl 1 ((zup2 (zup2 (zup2 C2 72 21 (-1)) 72 20 0) 81 0 (-1)) 72 7))) 84 0 0) 83 0) (-1)))) = 0 then (zbd (zloop (d_runsErrands_L76 l1 l2) 0 (zup2 (zup2 (zup2 (zup2 (zup2 C2 72 21 (-1)) 72 20 0) 81 0 (-1)) 83 0 (zshl 1 ((zup2 (zup2 (zup2 C2 72 21 (-1)) 72 20 0) 81 0 (-1)) 72 7))) 84 0 0)) fun y8 C65 => some ((C65 72 21), C65)) else (zg (0 ≤ l1 ∧ l1 < 4) (if ¬ (((zup2 (zup2 (zup2 (zup2 (zup2 C2 72 21 (-1)) 72 20 0) 81 0 (-1)) 83 0 (zshl 1 ((zup2 (zup2 (zup2 C2 72 21 (-1)) 72 20 0) 81 0 (-1)) 72 7))) 84 0 0) 72 7)) = (((zup2 (zup2 (zup2 (zup2 (zup2 C2 72 21 (-1)) 72 20 0) 81 0 (-1)) 83 0 (zshl 1 ((zup2 (zup2 (zup2 C2 72 21 (-1)) 72 20 0) 81 0 (-1)) 72 7))) 84 0 0) 78 l1.toNat)) then (zbd (zloop (d_runsErrands_L76 l1 l2) 0 (zup2 (zup2 (zup2 (zup2 (zup2 C2 72 21 (-1)) 72 20 0) 81 0 (-1)) 83 0 (zshl 1 ((zup2 (zup2 (zup2 C2 72 21 (-1)) 72 20 0) 81 0 (-1)) 72 7))) 84 0 0)) fun y72 C129 => some ((C129 72 21), C129)) else (some (0, zup2 (zup2 (zup2 (zup2 (zup2 (zup2 C2 72 21 (-1)) 72 20 0) 81 0 (-1)) 83 0 (zshl 1 ((zup2 (zup2 (zup2 C2 72 21 (-1)) 72 20 0) 81 0 (-1)) 72 7))) 84 0 0) 72 21 0))))
set_option maxRecDepth 100000 in
theorem r_143 {d : Nat} {S : ZS} (hS : zShM S) {l1 : Int} {l2 : Int} {C : ZC} : zRq (zKi S) (d_runsErrands l1 l2 C) (zR (d + 5) 143 0 [some (.inr (.inr (some 72))), some (.inl l1), some (.inl l2), none, none, none, none, none, none] [] S C) := by
  unfold d_runsErrands
  refine zRq_rw (zb_143_0 hS) ?_
  refine zRq_cv (r_116 hS) (fun v1 C2 => ?_)
  refine zRq_rw (zb_143_5 hS) ?_
  refine zRq_ite (fun h3 => ?_) (fun h4 => ?_)
  · refine zRq_bdf (f := (fun (xq : Unit) (jq : (Int × Option ZV × Option ZV × Option ZV × Option ZV × Option ZV)) (Cq : ZC) => zR (d + 5) 143 334 [some (.inr (.inr (some 72))), some (.inl l1), some (.inl l2), some (.inl (jq.1)), (jq.2.1), (jq.2.2.1), (jq.2.2.2.1), (jq.2.2.2.2.1), (jq.2.2.2.2.2)] [] S Cq)) (zRq_loop (f := (fun (xq : Int) (jq : (Option ZV × Option ZV × Option ZV × Option ZV × Option ZV)) (Cq : ZC) => zR (d + 5) 143 76 [some (.inr (.inr (some 72))), some (.inl l1), some (.inl l2), some (.inl xq), (jq.1), (jq.2.1), (jq.2.2.1), (jq.2.2.2.1), (jq.2.2.2.2)] [] S Cq)) (fun x5 j6 C7 => ?_) _ (none, none, none, none, none) _) (fun y8 j64 C65 => ?_)
    · unfold d_runsErrands_L76
      refine zRq_rw (zb_143_76 hS) ?_
      refine zRq_ite (fun h9 => ?_) (fun h10 => ?_)
      · exact zRq_lf fun r h => h (x5, (j6.1), (j6.2.1), (j6.2.2.1), (j6.2.2.2.1), (j6.2.2.2.2))
      · refine zRq_rw (zb_143_80 hS) ?_
        refine zRq_g (fun h11 => ?_)
        refine zRq_g (fun h12 => ?_)
        refine zRq_g (fun h13 => ?_)
        refine zRq_ite (fun h14 => ?_) (fun h15 => ?_)
        · refine zRq_rw (zb_143_133 hS) ?_
          refine zRq_ci (r_118 hS) (fun v16 C17 => ?_)
          refine zRq_bdf (f := (fun (xq : (Int × Int × Int)) (jq : (Option ZV × Option ZV)) (Cq : ZC) => zR (d + 5) 143 198 [some (.inr (.inr (some 72))), some (.inl l1), some (.inl l2), some (.inl x5), some (.inl ((zup2 C7 81 x5.toNat (zadd (C7 81 x5.toNat) 1)) 81 x5.toNat)), some (.inl (xq.1)), some (.inl (xq.2.1)), (jq.1), (jq.2)] [.inl (xq.2.2)] S Cq)) ?_ (fun y18 j19 C20 => ?_)
          · refine zRq_rw (zb_143_139 hS) ?_
            refine zRq_g (fun h21 => ?_)
            refine zRq_g (fun h22 => ?_)
            refine zRq_ite (fun h23 => ?_) (fun h24 => ?_)
            · refine zRq_rw (zb_143_193 hS) ?_
              exact zRq_lf fun r h => h ((j6.2.2.2.1), (j6.2.2.2.2))
            · refine zRq_rw (zb_143_165 hS) ?_
              refine zRq_ite (fun h25 => ?_) (fun h26 => ?_)
              · refine zRq_rw (zb_143_193 hS) ?_
                exact zRq_lf fun r h => h ((j6.2.2.2.1), (j6.2.2.2.2))
              · refine zRq_rw (zb_143_174 hS) ?_
                refine zRq_ite (fun h27 => ?_) (fun h28 => ?_)
                · refine zRq_rw (zb_143_197 hS) ?_
                  exact zRq_lf fun r h => h ((j6.2.2.2.1), (j6.2.2.2.2))
                · refine zRq_rw (zb_143_183 hS) ?_
                  refine zRq_ite (fun h29 => ?_) (fun h30 => ?_)
                  · refine zRq_rw (zb_143_197 hS) ?_
                    exact zRq_lf fun r h => h ((j6.2.2.2.1), (j6.2.2.2.2))
                  · refine zRq_rw (zb_143_193 hS) ?_
                    exact zRq_lf fun r h => h ((j6.2.2.2.1), (j6.2.2.2.2))
          · refine zRq_rw (zb_143_198 hS) ?_
            refine zRq_ite (fun h31 => ?_) (fun h32 => ?_)
            · refine zRq_rw (zb_143_331 hS) ?_
              exact zRq_lf fun r h => h (some (.inl ((zup2 C7 81 x5.toNat (zadd (C7 81 x5.toNat) 1)) 81 x5.toNat)), some (.inl (y18.1)), some (.inl (y18.2.1)), some (.inl (y18.2.2)), (j19.2))
            · refine zRq_rw (zb_143_205 hS) ?_
              refine zRq_ite (fun h33 => ?_) (fun h34 => ?_)
              · refine zRq_rw (zb_143_331 hS) ?_
                exact zRq_lf fun r h => h (some (.inl ((zup2 C7 81 x5.toNat (zadd (C7 81 x5.toNat) 1)) 81 x5.toNat)), some (.inl (y18.1)), some (.inl (y18.2.1)), some (.inl (y18.2.2)), (j19.2))
              · refine zRq_rw (zb_143_210 hS) ?_
                refine zRq_cv (r_120 hS) (fun v35 C36 => ?_)
                refine zRq_rw (zb_143_218 hS) ?_
                refine zRq_g (fun h37 => ?_)
                refine zRq_g (fun h38 => ?_)
                refine zRq_g (fun h39 => ?_)
                refine zRq_g (fun h40 => ?_)
                refine zRq_g (fun h41 => ?_)
                refine zRq_g (fun h42 => ?_)
                refine zRq_ite (fun h43 => ?_) (fun h44 => ?_)
                · refine zRq_rw (zb_143_331 hS) ?_
                  refine zRq_lf fun r h => ?_
                  have h2 := h (some (.inl ((zup2 C7 81 x5.toNat (zadd (C7 81 x5.toNat) 1)) 81 x5.toNat)), some (.inl (y18.1)), some (.inl (y18.2.1)), some (.inl (y18.2.2)), (j19.2))
                  dsimp only [zKf, zKs] at h2
                  rw [show d + 4 + 1 = d + 5 from rfl]
                  exact h2
                · refine zRq_rw (zb_143_278 hS) ?_
                  refine zRq_g (fun h45 => ?_)
                  refine zRq_ite (fun h46 => ?_) (fun h47 => ?_)
                  · refine zRq_rw (zb_143_331 hS) ?_
                    refine zRq_lf fun r h => ?_
                    have h2 := h (some (.inl ((zup2 C7 81 x5.toNat (zadd (C7 81 x5.toNat) 1)) 81 x5.toNat)), some (.inl (y18.1)), some (.inl (y18.2.1)), some (.inl (y18.2.2)), (j19.2))
                    dsimp only [zKf, zKs] at h2
                    rw [show d + 4 + 1 = d + 5 from rfl]
                    exact h2
                  · refine zRq_rw (zb_143_291 hS) ?_
                    refine zRq_bdf (f := (fun (xq : Unit) (jq : Option ZV) (Cq : ZC) => zR (d + 5) 143 331 [some (.inr (.inr (some 72))), some (.inl l1), some (.inl l2), some (.inl (zadd x5 1)), some (.inl ((zup2 C7 81 x5.toNat (zadd (C7 81 x5.toNat) 1)) 81 x5.toNat)), some (.inl (y18.1)), some (.inl (y18.2.1)), some (.inl (y18.2.2)), jq] [] S Cq)) (zRq_loop (f := (fun (xq : Int) (jq : Unit) (Cq : ZC) => zR (d + 5) 143 305 [some (.inr (.inr (some 72))), some (.inl l1), some (.inl l2), some (.inl (zadd x5 1)), some (.inl ((zup2 C7 81 x5.toNat (zadd (C7 81 x5.toNat) 1)) 81 x5.toNat)), some (.inl (y18.1)), some (.inl (y18.2.1)), some (.inl (y18.2.2)), some (.inl xq)] [] S Cq)) (fun x48 j49 C50 => ?_) _ () _) (fun y51 j56 C57 => ?_)
                    · unfold d_runsErrands_L305
                      refine zRq_rw (zb_143_305 hS) ?_
                      refine zRq_ite (fun h52 => ?_) (fun h53 => ?_)
                      · exact zRq_lf fun r h => h (some (.inl x48))
                      · refine zRq_rw (zb_143_311 hS) ?_
                        refine zRq_g (fun h54 => ?_)
                        refine zRq_g (fun h55 => ?_)
                        exact zRq_lf fun r h => h ()
                    · refine zRq_rw (zb_143_331 hS) ?_
                      exact zRq_lf fun r h => h (some (.inl ((zup2 C7 81 x5.toNat (zadd (C7 81 x5.toNat) 1)) 81 x5.toNat)), some (.inl (y18.1)), some (.inl (y18.2.1)), some (.inl (y18.2.2)), j56)
        · refine zRq_rw (zb_143_107 hS) ?_
          refine zRq_ite (fun h58 => ?_) (fun h59 => ?_)
          · refine zRq_lf fun r h => ?_
            have h2 := h (some (.inl ((zup2 C7 81 x5.toNat (zadd (C7 81 x5.toNat) 1)) 81 x5.toNat)), (j6.2.1), (j6.2.2.1), (j6.2.2.2.1), (j6.2.2.2.2))
            dsimp only [zKf, zKs] at h2
            rw [show d + 4 + 1 = d + 5 from rfl]
            exact h2
          · refine zRq_rw (zb_143_114 hS) ?_
            refine zRq_g (fun h60 => ?_)
            refine zRq_g (fun h61 => ?_)
            refine zRq_cv (r_144 hS) (fun v62 C63 => ?_)
            refine zRq_rw (zb_143_130 hS) ?_
            refine zRq_lf fun r h => ?_
            have h2 := h (some (.inl ((zup2 C7 81 x5.toNat (zadd (C7 81 x5.toNat) 1)) 81 x5.toNat)), (j6.2.1), (j6.2.2.1), (j6.2.2.2.1), (j6.2.2.2.2))
            dsimp only [zKf, zKs] at h2
            rw [show d + 4 + 1 = d + 5 from rfl]
            exact h2
    · refine zRq_rw (zb_143_334 hS) ?_
      exact zRq_rt fun r h => h
  · refine zRq_rw (zb_143_56 hS) ?_
    refine zRq_g (fun h66 => ?_)
    refine zRq_ite (fun h67 => ?_) (fun h68 => ?_)
    · refine zRq_bdf (f := (fun (xq : Unit) (jq : (Int × Option ZV × Option ZV × Option ZV × Option ZV × Option ZV)) (Cq : ZC) => zR (d + 5) 143 334 [some (.inr (.inr (some 72))), some (.inl l1), some (.inl l2), some (.inl (jq.1)), (jq.2.1), (jq.2.2.1), (jq.2.2.2.1), (jq.2.2.2.2.1), (jq.2.2.2.2.2)] [] S Cq)) (zRq_loop (f := (fun (xq : Int) (jq : (Option ZV × Option ZV × Option ZV × Option ZV × Option ZV)) (Cq : ZC) => zR (d + 5) 143 76 [some (.inr (.inr (some 72))), some (.inl l1), some (.inl l2), some (.inl xq), (jq.1), (jq.2.1), (jq.2.2.1), (jq.2.2.2.1), (jq.2.2.2.2)] [] S Cq)) (fun x69 j70 C71 => ?_) _ (none, none, none, none, none) _) (fun y72 j128 C129 => ?_)
      · unfold d_runsErrands_L76
        refine zRq_rw (zb_143_76 hS) ?_
        refine zRq_ite (fun h73 => ?_) (fun h74 => ?_)
        · exact zRq_lf fun r h => h (x69, (j70.1), (j70.2.1), (j70.2.2.1), (j70.2.2.2.1), (j70.2.2.2.2))
        · refine zRq_rw (zb_143_80 hS) ?_
          refine zRq_g (fun h75 => ?_)
          refine zRq_g (fun h76 => ?_)
          refine zRq_g (fun h77 => ?_)
          refine zRq_ite (fun h78 => ?_) (fun h79 => ?_)
          · refine zRq_rw (zb_143_133 hS) ?_
            refine zRq_ci (r_118 hS) (fun v80 C81 => ?_)
            refine zRq_bdf (f := (fun (xq : (Int × Int × Int)) (jq : (Option ZV × Option ZV)) (Cq : ZC) => zR (d + 5) 143 198 [some (.inr (.inr (some 72))), some (.inl l1), some (.inl l2), some (.inl x69), some (.inl ((zup2 C71 81 x69.toNat (zadd (C71 81 x69.toNat) 1)) 81 x69.toNat)), some (.inl (xq.1)), some (.inl (xq.2.1)), (jq.1), (jq.2)] [.inl (xq.2.2)] S Cq)) ?_ (fun y82 j83 C84 => ?_)
            · refine zRq_rw (zb_143_139 hS) ?_
              refine zRq_g (fun h85 => ?_)
              refine zRq_g (fun h86 => ?_)
              refine zRq_ite (fun h87 => ?_) (fun h88 => ?_)
              · refine zRq_rw (zb_143_193 hS) ?_
                exact zRq_lf fun r h => h ((j70.2.2.2.1), (j70.2.2.2.2))
              · refine zRq_rw (zb_143_165 hS) ?_
                refine zRq_ite (fun h89 => ?_) (fun h90 => ?_)
                · refine zRq_rw (zb_143_193 hS) ?_
                  exact zRq_lf fun r h => h ((j70.2.2.2.1), (j70.2.2.2.2))
                · refine zRq_rw (zb_143_174 hS) ?_
                  refine zRq_ite (fun h91 => ?_) (fun h92 => ?_)
                  · refine zRq_rw (zb_143_197 hS) ?_
                    exact zRq_lf fun r h => h ((j70.2.2.2.1), (j70.2.2.2.2))
                  · refine zRq_rw (zb_143_183 hS) ?_
                    refine zRq_ite (fun h93 => ?_) (fun h94 => ?_)
                    · refine zRq_rw (zb_143_197 hS) ?_
                      exact zRq_lf fun r h => h ((j70.2.2.2.1), (j70.2.2.2.2))
                    · refine zRq_rw (zb_143_193 hS) ?_
                      exact zRq_lf fun r h => h ((j70.2.2.2.1), (j70.2.2.2.2))
            · refine zRq_rw (zb_143_198 hS) ?_
              refine zRq_ite (fun h95 => ?_) (fun h96 => ?_)
              · refine zRq_rw (zb_143_331 hS) ?_
                exact zRq_lf fun r h => h (some (.inl ((zup2 C71 81 x69.toNat (zadd (C71 81 x69.toNat) 1)) 81 x69.toNat)), some (.inl (y82.1)), some (.inl (y82.2.1)), some (.inl (y82.2.2)), (j83.2))
              · refine zRq_rw (zb_143_205 hS) ?_
                refine zRq_ite (fun h97 => ?_) (fun h98 => ?_)
                · refine zRq_rw (zb_143_331 hS) ?_
                  exact zRq_lf fun r h => h (some (.inl ((zup2 C71 81 x69.toNat (zadd (C71 81 x69.toNat) 1)) 81 x69.toNat)), some (.inl (y82.1)), some (.inl (y82.2.1)), some (.inl (y82.2.2)), (j83.2))
                · refine zRq_rw (zb_143_210 hS) ?_
                  refine zRq_cv (r_120 hS) (fun v99 C100 => ?_)
                  refine zRq_rw (zb_143_218 hS) ?_
                  refine zRq_g (fun h101 => ?_)
                  refine zRq_g (fun h102 => ?_)
                  refine zRq_g (fun h103 => ?_)
                  refine zRq_g (fun h104 => ?_)
                  refine zRq_g (fun h105 => ?_)
                  refine zRq_g (fun h106 => ?_)
                  refine zRq_ite (fun h107 => ?_) (fun h108 => ?_)
                  · refine zRq_rw (zb_143_331 hS) ?_
                    refine zRq_lf fun r h => ?_
                    have h2 := h (some (.inl ((zup2 C71 81 x69.toNat (zadd (C71 81 x69.toNat) 1)) 81 x69.toNat)), some (.inl (y82.1)), some (.inl (y82.2.1)), some (.inl (y82.2.2)), (j83.2))
                    dsimp only [zKf, zKs] at h2
                    rw [show d + 4 + 1 = d + 5 from rfl]
                    exact h2
                  · refine zRq_rw (zb_143_278 hS) ?_
                    refine zRq_g (fun h109 => ?_)
                    refine zRq_ite (fun h110 => ?_) (fun h111 => ?_)
                    · refine zRq_rw (zb_143_331 hS) ?_
                      refine zRq_lf fun r h => ?_
                      have h2 := h (some (.inl ((zup2 C71 81 x69.toNat (zadd (C71 81 x69.toNat) 1)) 81 x69.toNat)), some (.inl (y82.1)), some (.inl (y82.2.1)), some (.inl (y82.2.2)), (j83.2))
                      dsimp only [zKf, zKs] at h2
                      rw [show d + 4 + 1 = d + 5 from rfl]
                      exact h2
                    · refine zRq_rw (zb_143_291 hS) ?_
                      refine zRq_bdf (f := (fun (xq : Unit) (jq : Option ZV) (Cq : ZC) => zR (d + 5) 143 331 [some (.inr (.inr (some 72))), some (.inl l1), some (.inl l2), some (.inl (zadd x69 1)), some (.inl ((zup2 C71 81 x69.toNat (zadd (C71 81 x69.toNat) 1)) 81 x69.toNat)), some (.inl (y82.1)), some (.inl (y82.2.1)), some (.inl (y82.2.2)), jq] [] S Cq)) (zRq_loop (f := (fun (xq : Int) (jq : Unit) (Cq : ZC) => zR (d + 5) 143 305 [some (.inr (.inr (some 72))), some (.inl l1), some (.inl l2), some (.inl (zadd x69 1)), some (.inl ((zup2 C71 81 x69.toNat (zadd (C71 81 x69.toNat) 1)) 81 x69.toNat)), some (.inl (y82.1)), some (.inl (y82.2.1)), some (.inl (y82.2.2)), some (.inl xq)] [] S Cq)) (fun x112 j113 C114 => ?_) _ () _) (fun y115 j120 C121 => ?_)
                      · unfold d_runsErrands_L305
                        refine zRq_rw (zb_143_305 hS) ?_
                        refine zRq_ite (fun h116 => ?_) (fun h117 => ?_)
                        · exact zRq_lf fun r h => h (some (.inl x112))
                        · refine zRq_rw (zb_143_311 hS) ?_
                          refine zRq_g (fun h118 => ?_)
                          refine zRq_g (fun h119 => ?_)
                          exact zRq_lf fun r h => h ()
                      · refine zRq_rw (zb_143_331 hS) ?_
                        exact zRq_lf fun r h => h (some (.inl ((zup2 C71 81 x69.toNat (zadd (C71 81 x69.toNat) 1)) 81 x69.toNat)), some (.inl (y82.1)), some (.inl (y82.2.1)), some (.inl (y82.2.2)), j120)
          · refine zRq_rw (zb_143_107 hS) ?_
            refine zRq_ite (fun h122 => ?_) (fun h123 => ?_)
            · refine zRq_lf fun r h => ?_
              have h2 := h (some (.inl ((zup2 C71 81 x69.toNat (zadd (C71 81 x69.toNat) 1)) 81 x69.toNat)), (j70.2.1), (j70.2.2.1), (j70.2.2.2.1), (j70.2.2.2.2))
              dsimp only [zKf, zKs] at h2
              rw [show d + 4 + 1 = d + 5 from rfl]
              exact h2
            · refine zRq_rw (zb_143_114 hS) ?_
              refine zRq_g (fun h124 => ?_)
              refine zRq_g (fun h125 => ?_)
              refine zRq_cv (r_144 hS) (fun v126 C127 => ?_)
              refine zRq_rw (zb_143_130 hS) ?_
              refine zRq_lf fun r h => ?_
              have h2 := h (some (.inl ((zup2 C71 81 x69.toNat (zadd (C71 81 x69.toNat) 1)) 81 x69.toNat)), (j70.2.1), (j70.2.2.1), (j70.2.2.2.1), (j70.2.2.2.2))
              dsimp only [zKf, zKs] at h2
              rw [show d + 4 + 1 = d + 5 from rfl]
              exact h2
      · refine zRq_rw (zb_143_334 hS) ?_
        exact zRq_rt fun r h => h
    · refine zRq_rw (zb_143_69 hS) ?_
      exact zRq_rt fun r h => h
-- 141: NewOrBackModel.errandsOf(III)I
noncomputable def d_errandsOf (l1 : Int) (l2 : Int) (l3 : Int) (C : ZC) : Option (Int × ZC) :=
  zbd (d_walks l1 C) fun v1 C2 => zbd (d_ones (C2 72 8) C2) fun v3 C4 => if ((zsub (C2 72 2) v3)) ≤ 6 then (zbd (d_runsErrands l1 l2 C4) fun v7 C8 => if l3 = ((-1)) then (some (v7, C8)) else (if ¬ v7 = ((-1)) then (if ((C8 72 20)) ≤ l3 then (some ((-1), C8)) else (zg (0 ≤ l3 ∧ l3 < 64) (some ((C8 85 l3.toNat), C8)))) else (some (v7, C8)))) else (some ((-4), C4))
set_option maxRecDepth 100000 in
theorem r_141 {d : Nat} {S : ZS} (hS : zShM S) {l1 : Int} {l2 : Int} {l3 : Int} {C : ZC} : zRq (zKi S) (d_errandsOf l1 l2 l3 C) (zR (d + 6) 141 0 [some (.inr (.inr (some 72))), some (.inl l1), some (.inl l2), some (.inl l3), none] [] S C) := by
  unfold d_errandsOf
  refine zRq_rw (zb_141_0 hS) ?_
  refine zRq_cv (r_116 hS) (fun v1 C2 => ?_)
  refine zRq_rw (zb_141_5 hS) ?_
  refine zRq_ci (r_142 hS) (fun v3 C4 => ?_)
  refine zRq_rw (zb_141_16 hS) ?_
  refine zRq_ite (fun h5 => ?_) (fun h6 => ?_)
  · refine zRq_rw (zb_141_25 hS) ?_
    refine zRq_ci (r_143 hS) (fun v7 C8 => ?_)
    refine zRq_rw (zb_141_31 hS) ?_
    refine zRq_ite (fun h9 => ?_) (fun h10 => ?_)
    · refine zRq_rw (zb_141_44 hS) ?_
      refine zRq_rw (zb_141_67 hS) ?_
      exact zRq_rt fun r h => h
    · refine zRq_rw (zb_141_38 hS) ?_
      refine zRq_ite (fun h11 => ?_) (fun h12 => ?_)
      · refine zRq_rw (zb_141_49 hS) ?_
        refine zRq_ite (fun h13 => ?_) (fun h14 => ?_)
        · refine zRq_rw (zb_141_66 hS) ?_
          refine zRq_rw (zb_141_67 hS) ?_
          exact zRq_rt fun r h => h
        · refine zRq_rw (zb_141_57 hS) ?_
          refine zRq_g (fun h15 => ?_)
          refine zRq_rw (zb_141_67 hS) ?_
          exact zRq_rt fun r h => h
      · refine zRq_rw (zb_141_44 hS) ?_
        refine zRq_rw (zb_141_67 hS) ?_
        exact zRq_rt fun r h => h
  · refine zRq_rw (zb_141_22 hS) ?_
    exact zRq_rt fun r h => h
-- 146: NewOrBackModel.meetingOf(III)I
noncomputable def d_meetingOf_L13 (l2 : Int) (l3 : Int) (x5 : Int) (C7 : ZC) : Option ((Int ⊕ Unit) × ZC) :=
  if 8 ≤ x5 then (some (.inr (), C7)) else (zg (0 ≤ x5 ∧ x5 < 8) (zg (0 ≤ x5 ∧ x5 < 8) (some (.inl (zadd x5 1), zup2 C7 86 x5.toNat (C7 80 x5.toNat)))))
noncomputable def d_meetingOf_L60 (l3 : Int) (x19 : (Int × Int × Int)) (C21 : ZC) : Option (((Int × Int × Int) ⊕ (Int × Int)) × ZC) :=
  if 8 ≤ ((x19.2.2)) then (some (.inr (((x19.1), (x19.2.1))), C21)) else (zbd (α := Int) (zg (0 ≤ (x19.2.2) ∧ (x19.2.2) < 8) (zg (0 ≤ (x19.2.2) ∧ (x19.2.2) < 8) (if ((C21 86 (x19.2.2).toNat)) ≤ ((C21 80 (x19.2.2).toNat)) then (zg (0 ≤ (x19.2.2) ∧ (x19.2.2) < 8) (some ((C21 80 (x19.2.2).toNat), C21))) else (zg (0 ≤ (x19.2.2) ∧ (x19.2.2) < 8) (some ((C21 86 (x19.2.2).toNat), C21)))))) fun y25 C27 => zbd (α := (Int × Int)) (if ((x19.2.1)) ≤ y25 then (some ((y25, (x19.1)), C27)) else (some ((y25, (x19.2.2)), C27))) fun y34 C36 => if ((x19.2.1)) ≤ ((y34.1)) then (some (.inl ((y34.2), (x19.2.1), (zadd (x19.2.2) 1)), C36)) else (some (.inl ((y34.2), (y34.1), (zadd (x19.2.2) 1)), C36)))
noncomputable def d_meetingOf (l1 : Int) (l2 : Int) (l3 : Int) (C : ZC) : Option (Int × ZC) :=
  zbd (d_walks l1 C) fun v1 C2 => zbd (d_reaches 0 C2) fun v3 C4 => zbd (zloop (d_meetingOf_L13 l2 l3) 0 C4) fun y8 C14 => zbd (d_walks l2 C14) fun v15 C16 => zbd (d_reaches 0 C16) fun v17 C18 => zbd (zloop (d_meetingOf_L60 l3) ((-1), 1000000, 0) C18) fun y22 C42 => if ((y22.1)) = ((-1)) then (some ((y22.1), C42)) else (if ¬ l3 = 0 then (some ((y22.2), C42)) else (some ((y22.1), C42)))
set_option maxRecDepth 100000 in
theorem r_146 {d : Nat} {S : ZS} (hS : zShM S) {l1 : Int} {l2 : Int} {l3 : Int} {C : ZC} : zRq (zKi S) (d_meetingOf l1 l2 l3 C) (zR (d + 5) 146 0 [some (.inr (.inr (some 72))), some (.inl l1), some (.inl l2), some (.inl l3), none, none, none, none] [] S C) := by
  unfold d_meetingOf
  refine zRq_rw (zb_146_0 hS) ?_
  refine zRq_cv (r_116 hS) (fun v1 C2 => ?_)
  refine zRq_rw (zb_146_5 hS) ?_
  refine zRq_cv (r_133 hS) (fun v3 C4 => ?_)
  refine zRq_rw (zb_146_10 hS) ?_
  refine zRq_bdf (f := (fun (xq : Unit) (jq : (Int × Option ZV × Option ZV × Option ZV)) (Cq : ZC) => zR (d + 5) 146 40 [some (.inr (.inr (some 72))), some (.inl l1), some (.inl l2), some (.inl l3), some (.inl (jq.1)), (jq.2.1), (jq.2.2.1), (jq.2.2.2)] [] S Cq)) (zRq_loop (f := (fun (xq : Int) (jq : (Option ZV × Option ZV × Option ZV)) (Cq : ZC) => zR (d + 5) 146 13 [some (.inr (.inr (some 72))), some (.inl l1), some (.inl l2), some (.inl l3), some (.inl xq), (jq.1), (jq.2.1), (jq.2.2)] [] S Cq)) (fun x5 j6 C7 => ?_) _ (none, none, none) _) (fun y8 j13 C14 => ?_)
  · unfold d_meetingOf_L13
    refine zRq_rw (zb_146_13 hS) ?_
    refine zRq_ite (fun h9 => ?_) (fun h10 => ?_)
    · exact zRq_lf fun r h => h (x5, (j6.1), (j6.2.1), (j6.2.2))
    · refine zRq_rw (zb_146_20 hS) ?_
      refine zRq_g (fun h11 => ?_)
      refine zRq_g (fun h12 => ?_)
      exact zRq_lf fun r h => h ((j6.1), (j6.2.1), (j6.2.2))
  · refine zRq_rw (zb_146_40 hS) ?_
    refine zRq_cv (r_116 hS) (fun v15 C16 => ?_)
    refine zRq_rw (zb_146_45 hS) ?_
    refine zRq_cv (r_133 hS) (fun v17 C18 => ?_)
    refine zRq_rw (zb_146_50 hS) ?_
    refine zRq_bdf (f := (fun (xq : (Int × Int)) (jq : (Int × Option ZV)) (Cq : ZC) => zR (d + 5) 146 141 [some (.inr (.inr (some 72))), some (.inl l1), some (.inl l2), some (.inl l3), some (.inl (xq.1)), some (.inl (xq.2)), some (.inl (jq.1)), (jq.2)] [] S Cq)) (zRq_loop (f := (fun (xq : (Int × Int × Int)) (jq : Option ZV) (Cq : ZC) => zR (d + 5) 146 60 [some (.inr (.inr (some 72))), some (.inl l1), some (.inl l2), some (.inl l3), some (.inl (xq.1)), some (.inl (xq.2.1)), some (.inl (xq.2.2)), jq] [] S Cq)) (fun x19 j20 C21 => ?_) _ (j13.2.2.2) _) (fun y22 j41 C42 => ?_)
    · unfold d_meetingOf_L60
      refine zRq_rw (zb_146_60 hS) ?_
      refine zRq_ite (fun h23 => ?_) (fun h24 => ?_)
      · exact zRq_lf fun r h => h ((x19.2.2), j20)
      · refine zRq_bdf (f := (fun (xq : Int) (jq : Option ZV) (Cq : ZC) => zR (d + 5) 146 101 [some (.inr (.inr (some 72))), some (.inl l1), some (.inl l2), some (.inl l3), some (.inl (x19.1)), some (.inl (x19.2.1)), some (.inl (x19.2.2)), jq] [.inl xq] S Cq)) ?_ (fun y25 j26 C27 => ?_)
        · refine zRq_rw (zb_146_67 hS) ?_
          refine zRq_g (fun h28 => ?_)
          refine zRq_g (fun h29 => ?_)
          refine zRq_ite (fun h30 => ?_) (fun h31 => ?_)
          · refine zRq_rw (zb_146_94 hS) ?_
            refine zRq_g (fun h32 => ?_)
            exact zRq_lf fun r h => h j20
          · refine zRq_rw (zb_146_84 hS) ?_
            refine zRq_g (fun h33 => ?_)
            exact zRq_lf fun r h => h j20
        · refine zRq_bdf (f := (fun (xq : (Int × Int)) (jq : Unit) (Cq : ZC) => zR (d + 5) 146 117 [some (.inr (.inr (some 72))), some (.inl l1), some (.inl l2), some (.inl l3), some (.inl (x19.1)), some (.inl (x19.2.1)), some (.inl (x19.2.2)), some (.inl (xq.1))] [.inl (xq.2)] S Cq)) ?_ (fun y34 j35 C36 => ?_)
          · refine zRq_rw (zb_146_101 hS) ?_
            refine zRq_ite (fun h37 => ?_) (fun h38 => ?_)
            · refine zRq_rw (zb_146_115 hS) ?_
              exact zRq_lf fun r h => h ()
            · refine zRq_rw (zb_146_110 hS) ?_
              exact zRq_lf fun r h => h ()
          · refine zRq_rw (zb_146_117 hS) ?_
            refine zRq_ite (fun h39 => ?_) (fun h40 => ?_)
            · refine zRq_rw (zb_146_131 hS) ?_
              refine zRq_rw (zb_146_133 hS) ?_
              exact zRq_lf fun r h => h (some (.inl (y34.1)))
            · refine zRq_rw (zb_146_126 hS) ?_
              refine zRq_rw (zb_146_133 hS) ?_
              exact zRq_lf fun r h => h (some (.inl (y34.1)))
    · refine zRq_rw (zb_146_141 hS) ?_
      refine zRq_ite (fun h43 => ?_) (fun h44 => ?_)
      · refine zRq_rw (zb_146_151 hS) ?_
        refine zRq_rw (zb_146_158 hS) ?_
        exact zRq_rt fun r h => h
      · refine zRq_rw (zb_146_147 hS) ?_
        refine zRq_ite (fun h45 => ?_) (fun h46 => ?_)
        · refine zRq_rw (zb_146_156 hS) ?_
          refine zRq_rw (zb_146_158 hS) ?_
          exact zRq_rt fun r h => h
        · refine zRq_rw (zb_146_151 hS) ?_
          refine zRq_rw (zb_146_158 hS) ?_
          exact zRq_rt fun r h => h
-- 145: NewOrBackModel.meeting(III)I
noncomputable def d_meeting (l1 : Int) (l2 : Int) (l3 : Int) (C : ZC) : Option (Int × ZC) :=
  zbd (d_isWalker l1 C) fun v1 C2 => if v1 = 0 then (some ((-2), C2)) else (zbd (d_isWalker l2 C2) fun v5 C6 => if v5 = 0 then (some ((-2), C6)) else (if l1 = l2 then (some ((-2), C6)) else (zbd (d_in l3 0 1 C6) fun v11 C12 => if v11 = 0 then (some ((-2), C12)) else (zbd (d_meetingOf l1 l2 l3 C12) fun v15 C16 => some (v15, C16)))))
set_option maxRecDepth 100000 in
theorem r_145 {d : Nat} {S : ZS} (hS : zShM S) {l1 : Int} {l2 : Int} {l3 : Int} {C : ZC} : zRq (zKi S) (d_meeting l1 l2 l3 C) (zR (d + 6) 145 0 [some (.inr (.inr (some 72))), some (.inl l1), some (.inl l2), some (.inl l3)] [] S C) := by
  unfold d_meeting
  refine zRq_rw (zb_145_0 hS) ?_
  refine zRq_ci (r_109 hS) (fun v1 C2 => ?_)
  refine zRq_rw (zb_145_4 hS) ?_
  refine zRq_ite (fun h3 => ?_) (fun h4 => ?_)
  · refine zRq_rw (zb_145_38 hS) ?_
    refine zRq_rw (zb_145_40 hS) ?_
    exact zRq_rt fun r h => h
  · refine zRq_rw (zb_145_7 hS) ?_
    refine zRq_ci (r_109 hS) (fun v5 C6 => ?_)
    refine zRq_rw (zb_145_11 hS) ?_
    refine zRq_ite (fun h7 => ?_) (fun h8 => ?_)
    · refine zRq_rw (zb_145_38 hS) ?_
      refine zRq_rw (zb_145_40 hS) ?_
      exact zRq_rt fun r h => h
    · refine zRq_rw (zb_145_14 hS) ?_
      refine zRq_ite (fun h9 => ?_) (fun h10 => ?_)
      · refine zRq_rw (zb_145_38 hS) ?_
        refine zRq_rw (zb_145_40 hS) ?_
        exact zRq_rt fun r h => h
      · refine zRq_rw (zb_145_19 hS) ?_
        refine zRq_ci (r_101 hS) (fun v11 C12 => ?_)
        refine zRq_rw (zb_145_25 hS) ?_
        refine zRq_ite (fun h13 => ?_) (fun h14 => ?_)
        · refine zRq_rw (zb_145_38 hS) ?_
          refine zRq_rw (zb_145_40 hS) ?_
          exact zRq_rt fun r h => h
        · refine zRq_rw (zb_145_28 hS) ?_
          refine zRq_ci (r_146 hS) (fun v15 C16 => ?_)
          refine zRq_rw (zb_145_35 hS) ?_
          refine zRq_rw (zb_145_40 hS) ?_
          exact zRq_rt fun r h => h
-- 148: NewOrBackModel.lentOf(II)I
noncomputable def d_lentOf (l1 : Int) (l2 : Int) (C : ZC) : Option (Int × ZC) :=
  zbd (d_goneOf l1 C) fun v1 C2 => zbd (d_walks l2 C2) fun v3 C4 => zbd (d_reaches 0 (zup2 C4 72 8 (zor (C4 72 8) v1))) fun v5 C6 => zbd (d_reached C6) fun v7 C8 => some (v7, C8)
set_option maxRecDepth 100000 in
theorem r_148 {d : Nat} {S : ZS} (hS : zShM S) {l1 : Int} {l2 : Int} {C : ZC} : zRq (zKi S) (d_lentOf l1 l2 C) (zR (d + 6) 148 0 [some (.inr (.inr (some 72))), some (.inl l1), some (.inl l2), none] [] S C) := by
  unfold d_lentOf
  refine zRq_rw (zb_148_0 hS) ?_
  refine zRq_ci (r_127 hS) (fun v1 C2 => ?_)
  refine zRq_rw (zb_148_5 hS) ?_
  refine zRq_cv (r_116 hS) (fun v3 C4 => ?_)
  refine zRq_rw (zb_148_11 hS) ?_
  refine zRq_cv (r_133 hS) (fun v5 C6 => ?_)
  refine zRq_rw (zb_148_26 hS) ?_
  refine zRq_ci (r_136 hS) (fun v7 C8 => ?_)
  refine zRq_rw (zb_148_30 hS) ?_
  exact zRq_rt fun r h => h
-- 147: NewOrBackModel.lent(II)I
noncomputable def d_lent (l1 : Int) (l2 : Int) (C : ZC) : Option (Int × ZC) :=
  zbd (d_isWalker l1 C) fun v1 C2 => if v1 = 0 then (some ((-2), C2)) else (zbd (d_isWalker l2 C2) fun v5 C6 => if v5 = 0 then (some ((-2), C6)) else (if l1 = l2 then (some ((-2), C6)) else (zbd (d_lentOf l1 l2 C6) fun v11 C12 => some (v11, C12))))
set_option maxRecDepth 100000 in
theorem r_147 {d : Nat} {S : ZS} (hS : zShM S) {l1 : Int} {l2 : Int} {C : ZC} : zRq (zKi S) (d_lent l1 l2 C) (zR (d + 7) 147 0 [some (.inr (.inr (some 72))), some (.inl l1), some (.inl l2)] [] S C) := by
  unfold d_lent
  refine zRq_rw (zb_147_0 hS) ?_
  refine zRq_ci (r_109 hS) (fun v1 C2 => ?_)
  refine zRq_rw (zb_147_4 hS) ?_
  refine zRq_ite (fun h3 => ?_) (fun h4 => ?_)
  · refine zRq_rw (zb_147_28 hS) ?_
    refine zRq_rw (zb_147_30 hS) ?_
    exact zRq_rt fun r h => h
  · refine zRq_rw (zb_147_7 hS) ?_
    refine zRq_ci (r_109 hS) (fun v5 C6 => ?_)
    refine zRq_rw (zb_147_11 hS) ?_
    refine zRq_ite (fun h7 => ?_) (fun h8 => ?_)
    · refine zRq_rw (zb_147_28 hS) ?_
      refine zRq_rw (zb_147_30 hS) ?_
      exact zRq_rt fun r h => h
    · refine zRq_rw (zb_147_14 hS) ?_
      refine zRq_ite (fun h9 => ?_) (fun h10 => ?_)
      · refine zRq_rw (zb_147_28 hS) ?_
        refine zRq_rw (zb_147_30 hS) ?_
        exact zRq_rt fun r h => h
      · refine zRq_rw (zb_147_19 hS) ?_
        refine zRq_ci (r_148 hS) (fun v11 C12 => ?_)
        refine zRq_rw (zb_147_25 hS) ?_
        refine zRq_rw (zb_147_30 hS) ?_
        exact zRq_rt fun r h => h
-- 150: NewOrBackModel.allWays()I
noncomputable def d_allWays  (C : ZC) : Option (Int × ZC) :=
  zbd (d_faultNow C) fun v1 C2 => some ((zsub (zshl 1 (C2 72 2)) 1), C2)
set_option maxRecDepth 100000 in
theorem r_150 {d : Nat} {S : ZS} (hS : zShM S) {C : ZC} : zRq (zKi S) (d_allWays C) (zR (d + 4) 150 0 [some (.inr (.inr (some 72))), none] [] S C) := by
  unfold d_allWays
  refine zRq_rw (zb_150_0 hS) ?_
  refine zRq_ci (r_104 hS) (fun v1 C2 => ?_)
  refine zRq_rw (zb_150_4 hS) ?_
  exact zRq_rt fun r h => h
-- 149: NewOrBackModel.lost(II)I
noncomputable def d_lost (l1 : Int) (l2 : Int) (C : ZC) : Option (Int × ZC) :=
  zbd (d_isWalker l1 C) fun v1 C2 => if v1 = 0 then (some ((-2), C2)) else (zbd (d_allWays C2) fun v5 C6 => zbd (d_in l2 0 v5 C6) fun v7 C8 => if ¬ v7 = 0 then (zbd (d_walks l1 C8) fun v11 C12 => zbd (d_reaches l2 C12) fun v13 C14 => zg (0 ≤ l1 ∧ l1 < 4) (zg (0 ≤ (C14 78 l1.toNat) ∧ (C14 78 l1.toNat) < 8) (if 1000000 ≤ ((C14 80 (C14 78 l1.toNat).toNat)) then (some (1, C14)) else (some (0, C14))))) else (some ((-2), C8)))
set_option maxRecDepth 100000 in
theorem r_149 {d : Nat} {S : ZS} (hS : zShM S) {l1 : Int} {l2 : Int} {C : ZC} : zRq (zKi S) (d_lost l1 l2 C) (zR (d + 5) 149 0 [some (.inr (.inr (some 72))), some (.inl l1), some (.inl l2)] [] S C) := by
  unfold d_lost
  refine zRq_rw (zb_149_0 hS) ?_
  refine zRq_ci (r_109 hS) (fun v1 C2 => ?_)
  refine zRq_rw (zb_149_4 hS) ?_
  refine zRq_ite (fun h3 => ?_) (fun h4 => ?_)
  · refine zRq_rw (zb_149_19 hS) ?_
    exact zRq_rt fun r h => h
  · refine zRq_rw (zb_149_7 hS) ?_
    refine zRq_ci (r_150 hS) (fun v5 C6 => ?_)
    refine zRq_rw (zb_149_13 hS) ?_
    refine zRq_ci (r_101 hS) (fun v7 C8 => ?_)
    refine zRq_rw (zb_149_16 hS) ?_
    refine zRq_ite (fun h9 => ?_) (fun h10 => ?_)
    · refine zRq_rw (zb_149_22 hS) ?_
      refine zRq_cv (r_116 hS) (fun v11 C12 => ?_)
      refine zRq_rw (zb_149_27 hS) ?_
      refine zRq_cv (r_133 hS) (fun v13 C14 => ?_)
      refine zRq_rw (zb_149_32 hS) ?_
      refine zRq_g (fun h15 => ?_)
      refine zRq_g (fun h16 => ?_)
      refine zRq_ite (fun h17 => ?_) (fun h18 => ?_)
      · refine zRq_rw (zb_149_52 hS) ?_
        refine zRq_rw (zb_149_53 hS) ?_
        exact zRq_rt fun r h => h
      · refine zRq_rw (zb_149_48 hS) ?_
        refine zRq_rw (zb_149_53 hS) ?_
        exact zRq_rt fun r h => h
    · refine zRq_rw (zb_149_19 hS) ?_
      exact zRq_rt fun r h => h
-- 152: NewOrBackModel.threadOf(II)I
noncomputable def d_threadOf_L10 (l1 : Int) (l2 : Int) (x3 : (Int × Int)) (C5 : ZC) : Option (((Int × Int) ⊕ Int) × ZC) :=
  if ((zshl 1 (C5 72 2))) ≤ ((x3.2)) then (some (.inr (x3.1), C5)) else (zg (0 ≤ l1 ∧ l1 < 4) (if ((C5 72 7)) = ((C5 78 l1.toNat)) then (some (.inr (x3.1), C5)) else (zbs (α := Unit) (if ((x3.1)) = ((-1)) then (some (.inl (), C5)) else (zbd (d_ones (x3.2) C5) fun v17 C18 => zbd (d_ones (x3.1) C18) fun v19 C20 => if v19 ≤ v17 then (some (.inr (.inl ((x3.1), (zadd (x3.2) 1))), C20)) else (some (.inl (), C20)))) fun y12 C14 => zbd (d_reaches (x3.2) C14) fun v23 C24 => zg (0 ≤ l1 ∧ l1 < 4) (zg (0 ≤ (C24 78 l1.toNat) ∧ (C24 78 l1.toNat) < 8) (if 1000000 ≤ ((C24 80 (C24 78 l1.toNat).toNat)) then (some (.inl ((x3.2), (zadd (x3.2) 1)), C24)) else (some (.inl ((x3.1), (zadd (x3.2) 1)), C24)))))))
noncomputable def d_threadOf (l1 : Int) (l2 : Int) (C : ZC) : Option (Int × ZC) :=
  zbd (d_walks l1 C) fun v1 C2 => zbd (zloop (d_threadOf_L10 l1 l2) ((-1), 0) C2) fun y6 C30 => if y6 = ((-1)) then (some (y6, C30)) else (if ¬ l2 = 1 then (zbd (d_ones y6 C30) fun v35 C36 => some (v35, C36)) else (some (y6, C30)))
set_option maxRecDepth 100000 in
theorem r_152 {d : Nat} {S : ZS} (hS : zShM S) {l1 : Int} {l2 : Int} {C : ZC} : zRq (zKi S) (d_threadOf l1 l2 C) (zR (d + 5) 152 0 [some (.inr (.inr (some 72))), some (.inl l1), some (.inl l2), none, none] [] S C) := by
  unfold d_threadOf
  refine zRq_rw (zb_152_0 hS) ?_
  refine zRq_cv (r_116 hS) (fun v1 C2 => ?_)
  refine zRq_rw (zb_152_5 hS) ?_
  refine zRq_bdf (f := (fun (xq : Int) (jq : Int) (Cq : ZC) => zR (d + 5) 152 86 [some (.inr (.inr (some 72))), some (.inl l1), some (.inl l2), some (.inl xq), some (.inl jq)] [] S Cq)) (zRq_loop (f := (fun (xq : (Int × Int)) (jq : Unit) (Cq : ZC) => zR (d + 5) 152 10 [some (.inr (.inr (some 72))), some (.inl l1), some (.inl l2), some (.inl (xq.1)), some (.inl (xq.2))] [] S Cq)) (fun x3 j4 C5 => ?_) _ () _) (fun y6 j29 C30 => ?_)
  · unfold d_threadOf_L10
    refine zRq_rw (zb_152_10 hS) ?_
    refine zRq_ite (fun h7 => ?_) (fun h8 => ?_)
    · exact zRq_lf fun r h => h (x3.2)
    · refine zRq_rw (zb_152_21 hS) ?_
      refine zRq_g (fun h9 => ?_)
      refine zRq_ite (fun h10 => ?_) (fun h11 => ?_)
      · exact zRq_lf fun r h => h (x3.2)
      · refine zRq_bsf (f := (fun (xq : Unit) (jq : Unit) (Cq : ZC) => zR (d + 5) 152 51 [some (.inr (.inr (some 72))), some (.inl l1), some (.inl l2), some (.inl (x3.1)), some (.inl (x3.2))] [] S Cq)) ?_ (fun y12 j13 C14 => ?_)
        · refine zRq_rw (zb_152_34 hS) ?_
          refine zRq_ite (fun h15 => ?_) (fun h16 => ?_)
          · exact zRq_lf fun r h => h ()
          · refine zRq_rw (zb_152_39 hS) ?_
            refine zRq_ci (r_142 hS) (fun v17 C18 => ?_)
            refine zRq_rw (zb_152_44 hS) ?_
            refine zRq_ci (r_142 hS) (fun v19 C20 => ?_)
            refine zRq_rw (zb_152_48 hS) ?_
            refine zRq_ite (fun h21 => ?_) (fun h22 => ?_)
            · refine zRq_rw (zb_152_80 hS) ?_
              exact zRq_lf fun r h => h ()
            · exact zRq_lf fun r h => h ()
        · refine zRq_rw (zb_152_51 hS) ?_
          refine zRq_cv (r_133 hS) (fun v23 C24 => ?_)
          refine zRq_rw (zb_152_57 hS) ?_
          refine zRq_g (fun h25 => ?_)
          refine zRq_g (fun h26 => ?_)
          refine zRq_ite (fun h27 => ?_) (fun h28 => ?_)
          · refine zRq_rw (zb_152_77 hS) ?_
            refine zRq_rw (zb_152_79 hS) ?_
            refine zRq_rw (zb_152_80 hS) ?_
            exact zRq_lf fun r h => h ()
          · refine zRq_rw (zb_152_73 hS) ?_
            refine zRq_rw (zb_152_79 hS) ?_
            refine zRq_rw (zb_152_80 hS) ?_
            exact zRq_lf fun r h => h ()
  · refine zRq_rw (zb_152_86 hS) ?_
    refine zRq_ite (fun h31 => ?_) (fun h32 => ?_)
    · refine zRq_rw (zb_152_96 hS) ?_
      refine zRq_rw (zb_152_104 hS) ?_
      exact zRq_rt fun r h => h
    · refine zRq_rw (zb_152_91 hS) ?_
      refine zRq_ite (fun h33 => ?_) (fun h34 => ?_)
      · refine zRq_rw (zb_152_100 hS) ?_
        refine zRq_ci (r_142 hS) (fun v35 C36 => ?_)
        refine zRq_rw (zb_152_104 hS) ?_
        exact zRq_rt fun r h => h
      · refine zRq_rw (zb_152_96 hS) ?_
        refine zRq_rw (zb_152_104 hS) ?_
        exact zRq_rt fun r h => h
-- 151: NewOrBackModel.thread(II)I
noncomputable def d_thread (l1 : Int) (l2 : Int) (C : ZC) : Option (Int × ZC) :=
  zbd (d_isWalker l1 C) fun v1 C2 => if v1 = 0 then (some ((-2), C2)) else (zbd (d_in l2 0 1 C2) fun v5 C6 => if v5 = 0 then (some ((-2), C6)) else (zbd (d_threadOf l1 l2 C6) fun v9 C10 => some (v9, C10)))
set_option maxRecDepth 100000 in
theorem r_151 {d : Nat} {S : ZS} (hS : zShM S) {l1 : Int} {l2 : Int} {C : ZC} : zRq (zKi S) (d_thread l1 l2 C) (zR (d + 6) 151 0 [some (.inr (.inr (some 72))), some (.inl l1), some (.inl l2)] [] S C) := by
  unfold d_thread
  refine zRq_rw (zb_151_0 hS) ?_
  refine zRq_ci (r_109 hS) (fun v1 C2 => ?_)
  refine zRq_rw (zb_151_4 hS) ?_
  refine zRq_ite (fun h3 => ?_) (fun h4 => ?_)
  · refine zRq_rw (zb_151_25 hS) ?_
    refine zRq_rw (zb_151_27 hS) ?_
    exact zRq_rt fun r h => h
  · refine zRq_rw (zb_151_7 hS) ?_
    refine zRq_ci (r_101 hS) (fun v5 C6 => ?_)
    refine zRq_rw (zb_151_13 hS) ?_
    refine zRq_ite (fun h7 => ?_) (fun h8 => ?_)
    · refine zRq_rw (zb_151_25 hS) ?_
      refine zRq_rw (zb_151_27 hS) ?_
      exact zRq_rt fun r h => h
    · refine zRq_rw (zb_151_16 hS) ?_
      refine zRq_ci (r_152 hS) (fun v9 C10 => ?_)
      refine zRq_rw (zb_151_22 hS) ?_
      refine zRq_rw (zb_151_27 hS) ?_
      exact zRq_rt fun r h => h
-- 153: NewOrBackModel.seen(II)I
noncomputable def d_seen (l1 : Int) (l2 : Int) (C : ZC) : Option (Int × ZC) :=
  zbd (d_in l1 0 11 C) fun v1 C2 => if v1 = 0 then (some ((-2), C2)) else (zbd (d_isPlace l2 C2) fun v5 C6 => if ¬ v5 = 0 then (if ¬ ((C6 72 23)) = 4 then (zg (0 ≤ (C6 72 23) ∧ (C6 72 23) < 4) (zg (0 ≤ ((zup2 C6 87 (C6 72 23).toNat l1) 72 23) ∧ ((zup2 C6 87 (C6 72 23).toNat l1) 72 23) < 4) (some (((zup2 (zup2 (zup2 C6 87 (C6 72 23).toNat l1) 88 ((zup2 C6 87 (C6 72 23).toNat l1) 72 23).toNat l2) 72 23 (zadd ((zup2 (zup2 C6 87 (C6 72 23).toNat l1) 88 ((zup2 C6 87 (C6 72 23).toNat l1) 72 23).toNat l2) 72 23) 1)) 72 23), zup2 (zup2 (zup2 C6 87 (C6 72 23).toNat l1) 88 ((zup2 C6 87 (C6 72 23).toNat l1) 72 23).toNat l2) 72 23 (zadd ((zup2 (zup2 C6 87 (C6 72 23).toNat l1) 88 ((zup2 C6 87 (C6 72 23).toNat l1) 72 23).toNat l2) 72 23) 1))))) else (some ((-4), C6))) else (some ((-2), C6)))
set_option maxRecDepth 100000 in
theorem r_153 {d : Nat} {S : ZS} (hS : zShM S) {l1 : Int} {l2 : Int} {C : ZC} : zRq (zKi S) (d_seen l1 l2 C) (zR (d + 3) 153 0 [some (.inr (.inr (some 72))), some (.inl l1), some (.inl l2)] [] S C) := by
  unfold d_seen
  refine zRq_rw (zb_153_0 hS) ?_
  refine zRq_ci (r_101 hS) (fun v1 C2 => ?_)
  refine zRq_rw (zb_153_7 hS) ?_
  refine zRq_ite (fun h3 => ?_) (fun h4 => ?_)
  · refine zRq_rw (zb_153_17 hS) ?_
    exact zRq_rt fun r h => h
  · refine zRq_rw (zb_153_10 hS) ?_
    refine zRq_ci (r_110 hS) (fun v5 C6 => ?_)
    refine zRq_rw (zb_153_14 hS) ?_
    refine zRq_ite (fun h7 => ?_) (fun h8 => ?_)
    · refine zRq_rw (zb_153_20 hS) ?_
      refine zRq_ite (fun h9 => ?_) (fun h10 => ?_)
      · refine zRq_rw (zb_153_31 hS) ?_
        refine zRq_g (fun h11 => ?_)
        refine zRq_g (fun h12 => ?_)
        exact zRq_rt fun r h => h
      · refine zRq_rw (zb_153_28 hS) ?_
        exact zRq_rt fun r h => h
    · refine zRq_rw (zb_153_17 hS) ?_
      exact zRq_rt fun r h => h
-- 154: NewOrBackModel.forget()I
noncomputable def d_forget  (C : ZC) : Option (Int × ZC) :=
  some ((C 72 23), zup2 C 72 23 0)
set_option maxRecDepth 100000 in
theorem r_154 {d : Nat} {S : ZS} (hS : zShM S) {C : ZC} : zRq (zKi S) (d_forget C) (zR (d + 1) 154 0 [some (.inr (.inr (some 72))), none] [] S C) := by
  unfold d_forget
  refine zRq_rw (zb_154_0 hS) ?_
  exact zRq_rt fun r h => h
-- 157: NewOrBackModel.couldBegin(I)Z
noncomputable def d_couldBegin_L34  (x8 : (Int × Int)) (C10 : ZC) : Option (((Int × Int) ⊕ Int) × ZC) :=
  if ((x8.1)) < 0 then (some (.inr (x8.2), C10)) else (if ¬ ((x8.2)) = 0 then (some (.inr (x8.2), C10)) else (zg (0 ≤ (x8.1) ∧ (x8.1) < 64) (zg (0 ≤ (x8.1) ∧ (x8.1) < 64) (zg (0 ≤ (x8.1) ∧ (x8.1) < 64) (if (((zup2 C10 81 (x8.1).toNat (zadd (C10 81 (x8.1).toNat) 1)) 81 (x8.1).toNat)) < (((zup2 C10 81 (x8.1).toNat (zadd (C10 81 (x8.1).toNat) 1)) 72 2)) then (zbd (d_mayBe ((zup2 C10 81 (x8.1).toNat (zadd (C10 81 (x8.1).toNat) 1)) 81 (x8.1).toNat) (zup2 C10 81 (x8.1).toNat (zadd (C10 81 (x8.1).toNat) 1))) fun v21 C22 => if v21 ≤ 0 then (some (.inl ((x8.1), (x8.2)), C22)) else (zbd (d_steps ((zup2 C10 81 (x8.1).toNat (zadd (C10 81 (x8.1).toNat) 1)) 81 (x8.1).toNat) v21 C22) fun v25 C26 => zbd (α := (Int × Int × Int)) (zg (0 ≤ (x8.1) ∧ (x8.1) < 64) (zg (0 ≤ (zsub (zadd (x8.1) 1) 1) ∧ (zsub (zadd (x8.1) 1) 1) < 64) (zg (0 ≤ ((zup2 C26 82 (x8.1).toNat v21) 83 (zsub (zadd (x8.1) 1) 1).toNat) ∧ ((zup2 C26 82 (x8.1).toNat v21) 83 (zsub (zadd (x8.1) 1) 1).toNat) < 4) (if ¬ (((zup2 C26 82 (x8.1).toNat v21) 87 ((zup2 C26 82 (x8.1).toNat v21) 83 (zsub (zadd (x8.1) 1) 1).toNat).toNat)) = (((zup2 C10 81 (x8.1).toNat (zadd (C10 81 (x8.1).toNat) 1)) 81 (x8.1).toNat)) then (some (((zadd (x8.1) 1), ((zup2 C26 82 (x8.1).toNat v21) 83 (zsub (zadd (x8.1) 1) 1).toNat), (zadd (x8.1) 1)), zup2 C26 82 (x8.1).toNat v21)) else (zg (0 ≤ ((zup2 C26 82 (x8.1).toNat v21) 83 (zsub (zadd (x8.1) 1) 1).toNat) ∧ ((zup2 C26 82 (x8.1).toNat v21) 83 (zsub (zadd (x8.1) 1) 1).toNat) < 4) (if ¬ (((zup2 C26 82 (x8.1).toNat v21) 88 ((zup2 C26 82 (x8.1).toNat v21) 83 (zsub (zadd (x8.1) 1) 1).toNat).toNat)) = (((zup2 C26 82 (x8.1).toNat v21) 72 7)) then (some (((zadd (x8.1) 1), ((zup2 C26 82 (x8.1).toNat v21) 83 (zsub (zadd (x8.1) 1) 1).toNat), (zadd (x8.1) 1)), zup2 C26 82 (x8.1).toNat v21)) else (some (((zadd (x8.1) 1), (zadd ((zup2 C26 82 (x8.1).toNat v21) 83 (zsub (zadd (x8.1) 1) 1).toNat) 1), (zadd (x8.1) 1)), zup2 C26 82 (x8.1).toNat v21)))))))) fun y27 C29 => zg (0 ≤ (y27.2.2) ∧ (y27.2.2) < 64) (zg (0 ≤ (y27.1) ∧ (y27.1) < 64) (zg (0 ≤ (y27.1) ∧ (y27.1) < 64) (if ¬ (((zup2 (zup2 C29 83 (y27.2.2).toNat (y27.2.1)) 81 (y27.1).toNat (-1)) 83 (y27.1).toNat)) = (((zup2 (zup2 C29 83 (y27.2.2).toNat (y27.2.1)) 81 (y27.1).toNat (-1)) 72 23)) then (some (.inl ((y27.1), 0), zup2 (zup2 C29 83 (y27.2.2).toNat (y27.2.1)) 81 (y27.1).toNat (-1))) else (some (.inl ((y27.1), 1), zup2 (zup2 C29 83 (y27.2.2).toNat (y27.2.1)) 81 (y27.1).toNat (-1)))))))) else (if ((zadd (x8.1) (-1))) < 0 then (some (.inl ((zadd (x8.1) (-1)), (x8.2)), zup2 C10 81 (x8.1).toNat (zadd (C10 81 (x8.1).toNat) 1))) else (zg (0 ≤ (zadd (x8.1) (-1)) ∧ (zadd (x8.1) (-1)) < 64) (zg (0 ≤ (zadd (x8.1) (-1)) ∧ (zadd (x8.1) (-1)) < 64) (zbd (d_unsteps ((zup2 C10 81 (x8.1).toNat (zadd (C10 81 (x8.1).toNat) 1)) 81 (zadd (x8.1) (-1)).toNat) ((zup2 C10 81 (x8.1).toNat (zadd (C10 81 (x8.1).toNat) 1)) 82 (zadd (x8.1) (-1)).toNat) (zup2 C10 81 (x8.1).toNat (zadd (C10 81 (x8.1).toNat) 1))) fun v47 C48 => some (.inl ((zadd (x8.1) (-1)), (x8.2)), C48))))))))))
noncomputable def d_couldBegin (l1 : Int) (C : ZC) : Option (Int × ZC) :=
  zbd (d_begins l1 C) fun v1 C2 => zbd (α := (Int × Int)) (if ¬ (((zup2 (zup2 C2 81 0 (-1)) 83 0 0) 72 23)) = 0 then (some ((0, 0), zup2 (zup2 C2 81 0 (-1)) 83 0 0)) else (some ((0, 1), zup2 (zup2 C2 81 0 (-1)) 83 0 0))) fun y3 C5 => zbd (zloop (d_couldBegin_L34) ((y3.1), (y3.2)) C5) fun y11 C50 => zg (y11 = 0 ∨ y11 = 1) (some (y11, C50))
set_option maxRecDepth 100000 in
theorem r_157 {d : Nat} {S : ZS} (hS : zShM S) {l1 : Int} {C : ZC} : zRq (zKi S) (d_couldBegin l1 C) (zR (d + 3) 157 0 [some (.inr (.inr (some 72))), some (.inl l1), none, none, none, none, none] [] S C) := by
  unfold d_couldBegin
  refine zRq_rw (zb_157_0 hS) ?_
  refine zRq_cv (r_117 hS) (fun v1 C2 => ?_)
  refine zRq_bdf (f := (fun (xq : (Int × Int)) (jq : (Option ZV × Option ZV × Option ZV × Option ZV)) (Cq : ZC) => zR (d + 3) 157 33 [some (.inr (.inr (some 72))), some (.inl l1), some (.inl (xq.1)), (jq.1), (jq.2.1), (jq.2.2.1), (jq.2.2.2)] [.inl (xq.2)] S Cq)) ?_ (fun y3 j4 C5 => ?_)
  · refine zRq_rw (zb_157_5 hS) ?_
    refine zRq_ite (fun h6 => ?_) (fun h7 => ?_)
    · refine zRq_rw (zb_157_32 hS) ?_
      refine zRq_lf fun r h => ?_
      have h2 := h (none, none, none, none)
      dsimp only [zKf, zKs] at h2
      rw [show d + 2 + 1 = d + 3 from rfl]
      exact h2
    · refine zRq_rw (zb_157_28 hS) ?_
      refine zRq_lf fun r h => ?_
      have h2 := h (none, none, none, none)
      dsimp only [zKf, zKs] at h2
      rw [show d + 2 + 1 = d + 3 from rfl]
      exact h2
  · refine zRq_rw (zb_157_33 hS) ?_
    refine zRq_bdf (f := (fun (xq : Int) (jq : (Int × Option ZV × Option ZV × Option ZV)) (Cq : ZC) => zR (d + 3) 157 207 [some (.inr (.inr (some 72))), some (.inl l1), some (.inl (jq.1)), some (.inl xq), (jq.2.1), (jq.2.2.1), (jq.2.2.2)] [] S Cq)) (zRq_loop (f := (fun (xq : (Int × Int)) (jq : (Option ZV × Option ZV × Option ZV)) (Cq : ZC) => zR (d + 3) 157 34 [some (.inr (.inr (some 72))), some (.inl l1), some (.inl (xq.1)), some (.inl (xq.2)), (jq.1), (jq.2.1), (jq.2.2)] [] S Cq)) (fun x8 j9 C10 => ?_) _ ((j4.2.1), (j4.2.2.1), (j4.2.2.2)) _) (fun y11 j49 C50 => ?_)
    · unfold d_couldBegin_L34
      refine zRq_rw (zb_157_34 hS) ?_
      refine zRq_ite (fun h12 => ?_) (fun h13 => ?_)
      · exact zRq_lf fun r h => h ((x8.1), (j9.1), (j9.2.1), (j9.2.2))
      · refine zRq_rw (zb_157_38 hS) ?_
        refine zRq_ite (fun h14 => ?_) (fun h15 => ?_)
        · exact zRq_lf fun r h => h ((x8.1), (j9.1), (j9.2.1), (j9.2.2))
        · refine zRq_rw (zb_157_42 hS) ?_
          refine zRq_g (fun h16 => ?_)
          refine zRq_g (fun h17 => ?_)
          refine zRq_g (fun h18 => ?_)
          refine zRq_ite (fun h19 => ?_) (fun h20 => ?_)
          · refine zRq_rw (zb_157_95 hS) ?_
            refine zRq_ci (r_118 hS) (fun v21 C22 => ?_)
            refine zRq_rw (zb_157_101 hS) ?_
            refine zRq_ite (fun h23 => ?_) (fun h24 => ?_)
            · refine zRq_rw (zb_157_204 hS) ?_
              exact zRq_lf fun r h => h (some (.inl ((zup2 C10 81 (x8.1).toNat (zadd (C10 81 (x8.1).toNat) 1)) 81 (x8.1).toNat)), some (.inl v21), (j9.2.2))
            · refine zRq_rw (zb_157_108 hS) ?_
              refine zRq_cv (r_120 hS) (fun v25 C26 => ?_)
              refine zRq_bdf (f := (fun (xq : (Int × Int × Int)) (jq : Int) (Cq : ZC) => zR (d + 3) 157 177 [some (.inr (.inr (some 72))), some (.inl l1), some (.inl (xq.1)), some (.inl (x8.2)), some (.inl ((zup2 C10 81 (x8.1).toNat (zadd (C10 81 (x8.1).toNat) 1)) 81 (x8.1).toNat)), some (.inl v21), some (.inl jq)] [.inl (xq.2.1), .inl (xq.2.2), .inr (.inr (some 83))] S Cq)) ?_ (fun y27 j28 C29 => ?_)
              · refine zRq_rw (zb_157_116 hS) ?_
                refine zRq_g (fun h30 => ?_)
                refine zRq_g (fun h31 => ?_)
                refine zRq_g (fun h32 => ?_)
                refine zRq_ite (fun h33 => ?_) (fun h34 => ?_)
                · refine zRq_rw (zb_157_175 hS) ?_
                  exact zRq_lf fun r h => h ((zup2 C26 82 (x8.1).toNat v21) 83 (zsub (zadd (x8.1) 1) 1).toNat)
                · refine zRq_rw (zb_157_154 hS) ?_
                  refine zRq_g (fun h35 => ?_)
                  refine zRq_ite (fun h36 => ?_) (fun h37 => ?_)
                  · refine zRq_rw (zb_157_175 hS) ?_
                    exact zRq_lf fun r h => h ((zup2 C26 82 (x8.1).toNat v21) 83 (zsub (zadd (x8.1) 1) 1).toNat)
                  · refine zRq_rw (zb_157_168 hS) ?_
                    exact zRq_lf fun r h => h ((zup2 C26 82 (x8.1).toNat v21) 83 (zsub (zadd (x8.1) 1) 1).toNat)
              · refine zRq_rw (zb_157_177 hS) ?_
                refine zRq_g (fun h38 => ?_)
                refine zRq_g (fun h39 => ?_)
                refine zRq_g (fun h40 => ?_)
                refine zRq_ite (fun h41 => ?_) (fun h42 => ?_)
                · refine zRq_rw (zb_157_202 hS) ?_
                  refine zRq_rw (zb_157_203 hS) ?_
                  refine zRq_rw (zb_157_204 hS) ?_
                  refine zRq_lf fun r h => ?_
                  have h2 := h (some (.inl ((zup2 C10 81 (x8.1).toNat (zadd (C10 81 (x8.1).toNat) 1)) 81 (x8.1).toNat)), some (.inl v21), (some (.inl j28)))
                  dsimp only [zKf, zKs] at h2
                  rw [show d + 2 + 1 = d + 3 from rfl]
                  exact h2
                · refine zRq_rw (zb_157_198 hS) ?_
                  refine zRq_rw (zb_157_203 hS) ?_
                  refine zRq_rw (zb_157_204 hS) ?_
                  refine zRq_lf fun r h => ?_
                  have h2 := h (some (.inl ((zup2 C10 81 (x8.1).toNat (zadd (C10 81 (x8.1).toNat) 1)) 81 (x8.1).toNat)), some (.inl v21), (some (.inl j28)))
                  dsimp only [zKf, zKs] at h2
                  rw [show d + 2 + 1 = d + 3 from rfl]
                  exact h2
          · refine zRq_rw (zb_157_69 hS) ?_
            refine zRq_ite (fun h43 => ?_) (fun h44 => ?_)
            · refine zRq_lf fun r h => ?_
              have h2 := h (some (.inl ((zup2 C10 81 (x8.1).toNat (zadd (C10 81 (x8.1).toNat) 1)) 81 (x8.1).toNat)), (j9.2.1), (j9.2.2))
              dsimp only [zKf, zKs] at h2
              rw [show d + 2 + 1 = d + 3 from rfl]
              exact h2
            · refine zRq_rw (zb_157_76 hS) ?_
              refine zRq_g (fun h45 => ?_)
              refine zRq_g (fun h46 => ?_)
              refine zRq_cv (r_144 hS) (fun v47 C48 => ?_)
              refine zRq_rw (zb_157_92 hS) ?_
              refine zRq_lf fun r h => ?_
              have h2 := h (some (.inl ((zup2 C10 81 (x8.1).toNat (zadd (C10 81 (x8.1).toNat) 1)) 81 (x8.1).toNat)), (j9.2.1), (j9.2.2))
              dsimp only [zKf, zKs] at h2
              rw [show d + 2 + 1 = d + 3 from rfl]
              exact h2
    · refine zRq_rw (zb_157_207 hS) ?_
      refine zRq_g (fun h => ?_)
      exact zRq_rt fun r h => h
-- 156: NewOrBackModel.cameInNow()I
noncomputable def d_cameInNow_L19  (x5 : Int) (C7 : ZC) : Option ((Int ⊕ (Unit ⊕ Int)) × ZC) :=
  if ((C7 72 23)) ≤ x5 then (some (.inr (.inl ()), C7)) else (zbd (α := Int) (zg (0 ≤ x5 ∧ x5 < 4) (if ((C7 72 2)) ≤ ((C7 87 x5.toNat)) then (some (0, C7)) else (zg (0 ≤ x5 ∧ x5 < 4) (zg (0 ≤ (C7 87 x5.toNat) ∧ (C7 87 x5.toNat) < 13) (zg (0 ≤ x5 ∧ x5 < 4) (if ((C7 75 (C7 87 x5.toNat).toNat)) = ((C7 88 x5.toNat)) then (some (1, C7)) else (zg (0 ≤ x5 ∧ x5 < 4) (zg (0 ≤ (C7 87 x5.toNat) ∧ (C7 87 x5.toNat) < 13) (zg (0 ≤ x5 ∧ x5 < 4) (if ¬ ((C7 76 (C7 87 x5.toNat).toNat)) = ((C7 88 x5.toNat)) then (some (0, C7)) else (some (1, C7)))))))))))) fun y11 C13 => if ¬ y11 = 0 then (some (.inl (zadd x5 1), C13)) else (some (.inr (.inr 0), C13)))
noncomputable def d_cameInNow_L102  (x31 : (Int × Int)) (C33 : ZC) : Option (((Int × Int) ⊕ Int) × ZC) :=
  if 8 ≤ ((x31.2)) then (some (.inr (x31.1), C33)) else (zbd (d_couldBegin (x31.2) C33) fun v37 C38 => if v37 = 0 then (some (.inl ((zor (x31.1) 0), (zadd (x31.2) 1)), C38)) else (some (.inl ((zor (x31.1) (zshl 1 (x31.2))), (zadd (x31.2) 1)), C38)))
noncomputable def d_cameInNow  (C : ZC) : Option (Int × ZC) :=
  zbd (d_faultNow C) fun v1 C2 => if ((C2 72 2)) ≤ 6 then (zbs (zloop (d_cameInNow_L19) 0 C2) fun y8 C30 => zbd (zloop (d_cameInNow_L102) (0, 0) C30) fun y34 C42 => some (y34, C42)) else (some ((-4), C2))
set_option maxRecDepth 100000 in
theorem r_156 {d : Nat} {S : ZS} (hS : zShM S) {C : ZC} : zRq (zKi S) (d_cameInNow C) (zR (d + 4) 156 0 [some (.inr (.inr (some 72))), none, none, none] [] S C) := by
  unfold d_cameInNow
  refine zRq_rw (zb_156_0 hS) ?_
  refine zRq_ci (r_104 hS) (fun v1 C2 => ?_)
  refine zRq_rw (zb_156_4 hS) ?_
  refine zRq_ite (fun h3 => ?_) (fun h4 => ?_)
  · refine zRq_rw (zb_156_17 hS) ?_
    refine zRq_bsf (f := (fun (xq : Unit) (jq : (Int × Option ZV)) (Cq : ZC) => zR (d + 4) 156 98 [some (.inr (.inr (some 72))), some (.inl v1), some (.inl (jq.1)), (jq.2)] [] S Cq)) (zRq_loop (f := (fun (xq : Int) (jq : Option ZV) (Cq : ZC) => zR (d + 4) 156 19 [some (.inr (.inr (some 72))), some (.inl v1), some (.inl xq), jq] [] S Cq)) (fun x5 j6 C7 => ?_) _ none _) (fun y8 j29 C30 => ?_)
    · unfold d_cameInNow_L19
      refine zRq_rw (zb_156_19 hS) ?_
      refine zRq_ite (fun h9 => ?_) (fun h10 => ?_)
      · exact zRq_lf fun r h => h (x5, j6)
      · refine zRq_bdf (f := (fun (xq : Int) (jq : Option ZV) (Cq : ZC) => zR (d + 4) 156 85 [some (.inr (.inr (some 72))), some (.inl v1), some (.inl x5), jq] [.inl xq] S Cq)) ?_ (fun y11 j12 C13 => ?_)
        · refine zRq_rw (zb_156_27 hS) ?_
          refine zRq_g (fun h14 => ?_)
          refine zRq_ite (fun h15 => ?_) (fun h16 => ?_)
          · refine zRq_rw (zb_156_84 hS) ?_
            exact zRq_lf fun r h => h j6
          · refine zRq_rw (zb_156_40 hS) ?_
            refine zRq_g (fun h17 => ?_)
            refine zRq_g (fun h18 => ?_)
            refine zRq_g (fun h19 => ?_)
            refine zRq_ite (fun h20 => ?_) (fun h21 => ?_)
            · refine zRq_rw (zb_156_80 hS) ?_
              exact zRq_lf fun r h => h j6
            · refine zRq_rw (zb_156_60 hS) ?_
              refine zRq_g (fun h22 => ?_)
              refine zRq_g (fun h23 => ?_)
              refine zRq_g (fun h24 => ?_)
              refine zRq_ite (fun h25 => ?_) (fun h26 => ?_)
              · refine zRq_rw (zb_156_84 hS) ?_
                exact zRq_lf fun r h => h j6
              · refine zRq_rw (zb_156_80 hS) ?_
                exact zRq_lf fun r h => h j6
        · refine zRq_rw (zb_156_85 hS) ?_
          refine zRq_ite (fun h27 => ?_) (fun h28 => ?_)
          · refine zRq_rw (zb_156_92 hS) ?_
            exact zRq_lf fun r h => h (some (.inl y11))
          · refine zRq_rw (zb_156_90 hS) ?_
            exact zRq_rt fun r h => h
    · refine zRq_rw (zb_156_98 hS) ?_
      refine zRq_bdf (f := (fun (xq : Int) (jq : Int) (Cq : ZC) => zR (d + 4) 156 132 [some (.inr (.inr (some 72))), some (.inl v1), some (.inl xq), some (.inl jq)] [] S Cq)) (zRq_loop (f := (fun (xq : (Int × Int)) (jq : Unit) (Cq : ZC) => zR (d + 4) 156 102 [some (.inr (.inr (some 72))), some (.inl v1), some (.inl (xq.1)), some (.inl (xq.2))] [] S Cq)) (fun x31 j32 C33 => ?_) _ () _) (fun y34 j41 C42 => ?_)
      · unfold d_cameInNow_L102
        refine zRq_rw (zb_156_102 hS) ?_
        refine zRq_ite (fun h35 => ?_) (fun h36 => ?_)
        · exact zRq_lf fun r h => h (x31.2)
        · refine zRq_rw (zb_156_108 hS) ?_
          refine zRq_ci (r_157 hS) (fun v37 C38 => ?_)
          refine zRq_rw (zb_156_114 hS) ?_
          refine zRq_ite (fun h39 => ?_) (fun h40 => ?_)
          · refine zRq_rw (zb_156_123 hS) ?_
            refine zRq_rw (zb_156_124 hS) ?_
            exact zRq_lf fun r h => h ()
          · refine zRq_rw (zb_156_117 hS) ?_
            refine zRq_rw (zb_156_124 hS) ?_
            exact zRq_lf fun r h => h ()
      · refine zRq_rw (zb_156_132 hS) ?_
        exact zRq_rt fun r h => h
  · refine zRq_rw (zb_156_14 hS) ?_
    exact zRq_rt fun r h => h
-- 155: NewOrBackModel.cameIn()I
noncomputable def d_cameIn  (C : ZC) : Option (Int × ZC) :=
  zbd (d_cameInNow C) fun v1 C2 => some (v1, C2)
set_option maxRecDepth 100000 in
theorem r_155 {d : Nat} {S : ZS} (hS : zShM S) {C : ZC} : zRq (zKi S) (d_cameIn C) (zR (d + 5) 155 0 [some (.inr (.inr (some 72)))] [] S C) := by
  unfold d_cameIn
  refine zRq_rw (zb_155_0 hS) ?_
  refine zRq_ci (r_156 hS) (fun v1 C2 => ?_)
  refine zRq_rw (zb_155_4 hS) ?_
  exact zRq_rt fun r h => h
-- 159: NewOrBackModel.safeOf(II)I
noncomputable def d_safeOf_L72 (l1 : Int) (x15 : Int) (C17 : ZC) : Option ((Int ⊕ (Unit ⊕ (Unit ⊕ Int))) × ZC) :=
  if x15 < 0 then (some (.inr (.inl ()), C17)) else (zg (0 ≤ x15 ∧ x15 < 64) (zg (0 ≤ x15 ∧ x15 < 64) (zg (0 ≤ x15 ∧ x15 < 64) (if (((zup2 C17 81 x15.toNat (zadd (C17 81 x15.toNat) 1)) 81 x15.toNat)) < (((zup2 C17 81 x15.toNat (zadd (C17 81 x15.toNat) 1)) 72 2)) then (zbd (d_mayBe ((zup2 C17 81 x15.toNat (zadd (C17 81 x15.toNat) 1)) 81 x15.toNat) (zup2 C17 81 x15.toNat (zadd (C17 81 x15.toNat) 1))) fun v26 C27 => if v26 ≤ 0 then (some (.inl x15, C27)) else (zbd (d_beyond ((zup2 C17 81 x15.toNat (zadd (C17 81 x15.toNat) 1)) 81 x15.toNat) (C27 72 7) C27) fun v30 C31 => zg (0 ≤ x15 ∧ x15 < 64) (if v30 = ((C31 90 x15.toNat)) then (some (.inl x15, C31)) else (zbd (d_beyond ((zup2 C17 81 x15.toNat (zadd (C17 81 x15.toNat) 1)) 81 x15.toNat) (C31 72 7) C31) fun v35 C36 => zg (0 ≤ l1 ∧ l1 < 4) (if ¬ v35 = ((C36 78 l1.toNat)) then (zg (0 ≤ x15 ∧ x15 < 64) (zbd (d_wolfGoes (C36 90 x15.toNat) v35 C36) fun v41 C42 => if v41 = v35 then (some (.inl x15, C42)) else (zbd (d_steps ((zup2 C17 81 x15.toNat (zadd (C17 81 x15.toNat) 1)) 81 x15.toNat) v26 C42) fun v45 C46 => zg (0 ≤ x15 ∧ x15 < 64) (zg (0 ≤ (zadd x15 1) ∧ (zadd x15 1) < 64) (zg (0 ≤ (zadd x15 1) ∧ (zadd x15 1) < 64) (some (.inl (zadd x15 1), zup2 (zup2 (zup2 C46 82 x15.toNat v26) 90 (zadd x15 1).toNat v41) 81 (zadd x15 1).toNat (-1)))))))) else (some (.inr (.inr (.inr 1)), C36))))))) else (if ((zadd x15 (-1))) < 0 then (some (.inl (zadd x15 (-1)), zup2 C17 81 x15.toNat (zadd (C17 81 x15.toNat) 1))) else (zg (0 ≤ (zadd x15 (-1)) ∧ (zadd x15 (-1)) < 64) (zg (0 ≤ (zadd x15 (-1)) ∧ (zadd x15 (-1)) < 64) (zbd (d_unsteps ((zup2 C17 81 x15.toNat (zadd (C17 81 x15.toNat) 1)) 81 (zadd x15 (-1)).toNat) ((zup2 C17 81 x15.toNat (zadd (C17 81 x15.toNat) 1)) 82 (zadd x15 (-1)).toNat) (zup2 C17 81 x15.toNat (zadd (C17 81 x15.toNat) 1))) fun v54 C55 => some (.inl (zadd x15 (-1)), C55)))))))))
noncomputable def d_safeOf (l1 : Int) (l2 : Int) (C : ZC) : Option (Int × ZC) :=
  zbd (d_walks l1 C) fun v1 C2 => if ((C2 72 2)) ≤ 6 then (zbd (d_laysHops C2) fun v5 C6 => zbs (α := Unit) (if ((C6 72 7)) = l2 then (some (.inl (), C6)) else (zg (0 ≤ l1 ∧ l1 < 4) (if ¬ ((C6 72 7)) = ((C6 78 l1.toNat)) then (zbs (zloop (d_safeOf_L72 l1) 0 (zup2 (zup2 C6 81 0 (-1)) 90 0 l2)) fun y18 C57 => some (.inr 0, C57)) else (some (.inl (), C6))))) fun y7 C9 => if ¬ ((C9 72 7)) = l2 then (some (1, C9)) else (some (0, C9))) else (some ((-4), C2))
set_option maxRecDepth 100000 in
theorem r_159 {d : Nat} {S : ZS} (hS : zShM S) {l1 : Int} {l2 : Int} {C : ZC} : zRq (zKi S) (d_safeOf l1 l2 C) (zR (d + 5) 159 0 [some (.inr (.inr (some 72))), some (.inl l1), some (.inl l2), none, none, none, none, none] [] S C) := by
  unfold d_safeOf
  refine zRq_rw (zb_159_0 hS) ?_
  refine zRq_cv (r_116 hS) (fun v1 C2 => ?_)
  refine zRq_rw (zb_159_5 hS) ?_
  refine zRq_ite (fun h3 => ?_) (fun h4 => ?_)
  · refine zRq_rw (zb_159_17 hS) ?_
    refine zRq_cv (r_160 hS) (fun v5 C6 => ?_)
    refine zRq_bsf (f := (fun (xq : Unit) (jq : (Option ZV × Option ZV × Option ZV × Option ZV × Option ZV)) (Cq : ZC) => zR (d + 5) 159 42 [some (.inr (.inr (some 72))), some (.inl l1), some (.inl l2), (jq.1), (jq.2.1), (jq.2.2.1), (jq.2.2.2.1), (jq.2.2.2.2)] [] S Cq)) ?_ (fun y7 j8 C9 => ?_)
    · refine zRq_rw (zb_159_21 hS) ?_
      refine zRq_ite (fun h10 => ?_) (fun h11 => ?_)
      · exact zRq_lf fun r h => h (none, none, none, none, none)
      · refine zRq_rw (zb_159_29 hS) ?_
        refine zRq_g (fun h12 => ?_)
        refine zRq_ite (fun h13 => ?_) (fun h14 => ?_)
        · refine zRq_rw (zb_159_56 hS) ?_
          refine zRq_bsf (f := (fun (xq : Unit) (jq : (Int × Option ZV × Option ZV × Option ZV × Option ZV)) (Cq : ZC) => zR (d + 5) 159 244 [some (.inr (.inr (some 72))), some (.inl l1), some (.inl l2), some (.inl (jq.1)), (jq.2.1), (jq.2.2.1), (jq.2.2.2.1), (jq.2.2.2.2)] [] S Cq)) (zRq_loop (f := (fun (xq : Int) (jq : (Option ZV × Option ZV × Option ZV × Option ZV)) (Cq : ZC) => zR (d + 5) 159 72 [some (.inr (.inr (some 72))), some (.inl l1), some (.inl l2), some (.inl xq), (jq.1), (jq.2.1), (jq.2.2.1), (jq.2.2.2)] [] S Cq)) (fun x15 j16 C17 => ?_) _ (none, none, none, none) _) (fun y18 j56 C57 => ?_)
          · unfold d_safeOf_L72
            refine zRq_rw (zb_159_72 hS) ?_
            refine zRq_ite (fun h19 => ?_) (fun h20 => ?_)
            · exact zRq_lf fun r h => h (x15, (j16.1), (j16.2.1), (j16.2.2.1), (j16.2.2.2))
            · refine zRq_rw (zb_159_76 hS) ?_
              refine zRq_g (fun h21 => ?_)
              refine zRq_g (fun h22 => ?_)
              refine zRq_g (fun h23 => ?_)
              refine zRq_ite (fun h24 => ?_) (fun h25 => ?_)
              · refine zRq_rw (zb_159_129 hS) ?_
                refine zRq_ci (r_118 hS) (fun v26 C27 => ?_)
                refine zRq_rw (zb_159_135 hS) ?_
                refine zRq_ite (fun h28 => ?_) (fun h29 => ?_)
                · refine zRq_rw (zb_159_241 hS) ?_
                  exact zRq_lf fun r h => h (some (.inl ((zup2 C17 81 x15.toNat (zadd (C17 81 x15.toNat) 1)) 81 x15.toNat)), some (.inl v26), (j16.2.2.1), (j16.2.2.2))
                · refine zRq_rw (zb_159_142 hS) ?_
                  refine zRq_ci (r_121 hS) (fun v30 C31 => ?_)
                  refine zRq_rw (zb_159_152 hS) ?_
                  refine zRq_g (fun h32 => ?_)
                  refine zRq_ite (fun h33 => ?_) (fun h34 => ?_)
                  · refine zRq_rw (zb_159_241 hS) ?_
                    exact zRq_lf fun r h => h (some (.inl ((zup2 C17 81 x15.toNat (zadd (C17 81 x15.toNat) 1)) 81 x15.toNat)), some (.inl v26), (j16.2.2.1), (j16.2.2.2))
                  · refine zRq_rw (zb_159_161 hS) ?_
                    refine zRq_ci (r_121 hS) (fun v35 C36 => ?_)
                    refine zRq_rw (zb_159_171 hS) ?_
                    refine zRq_g (fun h37 => ?_)
                    refine zRq_ite (fun h38 => ?_) (fun h39 => ?_)
                    · refine zRq_rw (zb_159_186 hS) ?_
                      refine zRq_g (fun h40 => ?_)
                      refine zRq_ci (r_161 hS) (fun v41 C42 => ?_)
                      refine zRq_rw (zb_159_198 hS) ?_
                      refine zRq_ite (fun h43 => ?_) (fun h44 => ?_)
                      · refine zRq_rw (zb_159_241 hS) ?_
                        exact zRq_lf fun r h => h (some (.inl ((zup2 C17 81 x15.toNat (zadd (C17 81 x15.toNat) 1)) 81 x15.toNat)), some (.inl v26), (some (.inl v35)), (some (.inl v41)))
                      · refine zRq_rw (zb_159_207 hS) ?_
                        refine zRq_cv (r_120 hS) (fun v45 C46 => ?_)
                        refine zRq_rw (zb_159_215 hS) ?_
                        refine zRq_g (fun h47 => ?_)
                        refine zRq_g (fun h48 => ?_)
                        refine zRq_g (fun h49 => ?_)
                        refine zRq_rw (zb_159_241 hS) ?_
                        refine zRq_lf fun r h => ?_
                        have h2 := h (some (.inl ((zup2 C17 81 x15.toNat (zadd (C17 81 x15.toNat) 1)) 81 x15.toNat)), some (.inl v26), (some (.inl v35)), (some (.inl v41)))
                        dsimp only [zKf, zKs] at h2
                        rw [show d + 4 + 1 = d + 5 from rfl]
                        exact h2
                    · refine zRq_rw (zb_159_184 hS) ?_
                      exact zRq_rt fun r h => h
              · refine zRq_rw (zb_159_103 hS) ?_
                refine zRq_ite (fun h50 => ?_) (fun h51 => ?_)
                · refine zRq_lf fun r h => ?_
                  have h2 := h (some (.inl ((zup2 C17 81 x15.toNat (zadd (C17 81 x15.toNat) 1)) 81 x15.toNat)), (j16.2.1), (j16.2.2.1), (j16.2.2.2))
                  dsimp only [zKf, zKs] at h2
                  rw [show d + 4 + 1 = d + 5 from rfl]
                  exact h2
                · refine zRq_rw (zb_159_110 hS) ?_
                  refine zRq_g (fun h52 => ?_)
                  refine zRq_g (fun h53 => ?_)
                  refine zRq_cv (r_144 hS) (fun v54 C55 => ?_)
                  refine zRq_rw (zb_159_126 hS) ?_
                  refine zRq_lf fun r h => ?_
                  have h2 := h (some (.inl ((zup2 C17 81 x15.toNat (zadd (C17 81 x15.toNat) 1)) 81 x15.toNat)), (j16.2.1), (j16.2.2.1), (j16.2.2.2))
                  dsimp only [zKf, zKs] at h2
                  rw [show d + 4 + 1 = d + 5 from rfl]
                  exact h2
          · refine zRq_rw (zb_159_244 hS) ?_
            exact zRq_rt fun r h => h
        · exact zRq_lf fun r h => h (none, none, none, none, none)
    · refine zRq_rw (zb_159_42 hS) ?_
      refine zRq_ite (fun h58 => ?_) (fun h59 => ?_)
      · refine zRq_rw (zb_159_54 hS) ?_
        refine zRq_rw (zb_159_55 hS) ?_
        exact zRq_rt fun r h => h
      · refine zRq_rw (zb_159_50 hS) ?_
        refine zRq_rw (zb_159_55 hS) ?_
        exact zRq_rt fun r h => h
  · refine zRq_rw (zb_159_14 hS) ?_
    exact zRq_rt fun r h => h
-- 158: NewOrBackModel.safe(II)I
noncomputable def d_safe (l1 : Int) (l2 : Int) (C : ZC) : Option (Int × ZC) :=
  zbd (d_isWalker l1 C) fun v1 C2 => if v1 = 0 then (some ((-2), C2)) else (zbd (d_isPlace l2 C2) fun v5 C6 => if v5 = 0 then (some ((-2), C6)) else (zbd (d_safeOf l1 l2 C6) fun v9 C10 => some (v9, C10)))
set_option maxRecDepth 100000 in
theorem r_158 {d : Nat} {S : ZS} (hS : zShM S) {l1 : Int} {l2 : Int} {C : ZC} : zRq (zKi S) (d_safe l1 l2 C) (zR (d + 6) 158 0 [some (.inr (.inr (some 72))), some (.inl l1), some (.inl l2)] [] S C) := by
  unfold d_safe
  refine zRq_rw (zb_158_0 hS) ?_
  refine zRq_ci (r_109 hS) (fun v1 C2 => ?_)
  refine zRq_rw (zb_158_4 hS) ?_
  refine zRq_ite (fun h3 => ?_) (fun h4 => ?_)
  · refine zRq_rw (zb_158_23 hS) ?_
    refine zRq_rw (zb_158_25 hS) ?_
    exact zRq_rt fun r h => h
  · refine zRq_rw (zb_158_7 hS) ?_
    refine zRq_ci (r_110 hS) (fun v5 C6 => ?_)
    refine zRq_rw (zb_158_11 hS) ?_
    refine zRq_ite (fun h7 => ?_) (fun h8 => ?_)
    · refine zRq_rw (zb_158_23 hS) ?_
      refine zRq_rw (zb_158_25 hS) ?_
      exact zRq_rt fun r h => h
    · refine zRq_rw (zb_158_14 hS) ?_
      refine zRq_ci (r_159 hS) (fun v9 C10 => ?_)
      refine zRq_rw (zb_158_20 hS) ?_
      refine zRq_rw (zb_158_25 hS) ?_
      exact zRq_rt fun r h => h

/-! Layer 2: the methods as programs over the ints (written by wip/whole/gend.py) -/
-- 26: NewOrBack$Round.costOf(I)I
noncomputable def c_Round_costOf (l1 : Int) (C : ZC) : Option (Int × ZC) :=
  zg (0 ≤ l1 ∧ l1 < 12) (some ((zadd (zmul (C 12 l1.toNat) 64) 1), C))
set_option maxRecDepth 100000 in
theorem r_26 {d : Nat} {S : ZS} (hS : zShC S) {l1 : Int} {C : ZC} : zRq (zKi S) (c_Round_costOf l1 C) (zR (d + 1) 26 0 [some (.inr (.inr (some 18))), some (.inl l1)] [] S C) := by
  unfold c_Round_costOf
  refine zRq_rw (zb_26_0 hS) ?_
  refine zRq_g (fun h1 => ?_)
  exact zRq_rt fun r h => h
-- 25: NewOrBack$Round.tellSets()V
noncomputable def c_Round_tellSets_L52 (l1 : Int) (l2 : Int) (l3 : Int) (x10 : Int) (C12 : ZC) : Option ((Int ⊕ Unit) × ZC) :=
  if l2 ≤ x10 then (some (.inr (), C12)) else (zg (0 ≤ x10 ∧ x10 < 64) (zg (0 ≤ l1 ∧ l1 < 6) (zbd (c_Round_costOf (C12 19 l1.toNat) C12) fun v18 C19 => zg (0 ≤ (zor l2 x10) ∧ (zor l2 x10) < 64) (zg (0 ≤ x10 ∧ x10 < 64) (zg (0 ≤ (zor l2 x10) ∧ (zor l2 x10) < 64) (zg (0 ≤ x10 ∧ x10 < 64) (zg (0 ≤ (zor l2 x10) ∧ (zor l2 x10) < 64) (some (.inl (zadd x10 1), zup2 (zup2 (zup2 C19 20 (zor l2 x10).toNat (zadd (C12 20 x10.toNat) v18)) 21 (zor l2 x10).toNat (zor ((zup2 C19 20 (zor l2 x10).toNat (zadd (C12 20 x10.toNat) v18)) 21 x10.toNat) l3)) 22 (zor l2 x10).toNat (zxor ((zup2 (zup2 C19 20 (zor l2 x10).toNat (zadd (C12 20 x10.toNat) v18)) 21 (zor l2 x10).toNat (zor ((zup2 C19 20 (zor l2 x10).toNat (zadd (C12 20 x10.toNat) v18)) 21 x10.toNat) l3)) 22 x10.toNat) l3))))))))))
noncomputable def c_Round_tellSets_L23  (x1 : Int) (C3 : ZC) : Option ((Int ⊕ Unit) × ZC) :=
  if ((C3 18 6)) ≤ x1 then (some (.inr (), C3)) else (zg (0 ≤ x1 ∧ x1 < 6) (zbd (c_Wood_endsOf (C3 19 x1.toNat) C3) fun v8 C9 => zbd (zloop (c_Round_tellSets_L52 x1 (zshl 1 x1) v8) 0 C9) fun y13 C26 => some (.inl (zadd x1 1), C26)))
noncomputable def c_Round_tellSets  (C : ZC) : Option (Int × ZC) :=
  zbd (zloop (c_Round_tellSets_L23) 0 (zup2 (zup2 (zup2 C 20 0 0) 21 0 0) 22 0 0)) fun y4 C28 => some (0, C28)
set_option maxRecDepth 100000 in
theorem r_25 {d : Nat} {S : ZS} (hS : zShC S) {C : ZC} : zRq (zKv S) (c_Round_tellSets C) (zR (d + 2) 25 0 [some (.inr (.inr (some 18))), none, none, none, none] [] S C) := by
  unfold c_Round_tellSets
  refine zRq_rw (zb_25_0 hS) ?_
  refine zRq_bdf (f := (fun (xq : Unit) (jq : (Int × Option ZV × Option ZV × Option ZV)) (Cq : ZC) => zR (d + 2) 25 133 [some (.inr (.inr (some 18))), some (.inl (jq.1)), (jq.2.1), (jq.2.2.1), (jq.2.2.2)] [] S Cq)) (zRq_loop (f := (fun (xq : Int) (jq : (Option ZV × Option ZV × Option ZV)) (Cq : ZC) => zR (d + 2) 25 23 [some (.inr (.inr (some 18))), some (.inl xq), (jq.1), (jq.2.1), (jq.2.2)] [] S Cq)) (fun x1 j2 C3 => ?_) _ (none, none, none) _) (fun y4 j27 C28 => ?_)
  · unfold c_Round_tellSets_L23
    refine zRq_rw (zb_25_23 hS) ?_
    refine zRq_ite (fun h5 => ?_) (fun h6 => ?_)
    · exact zRq_lf fun r h => h (x1, (j2.1), (j2.2.1), (j2.2.2))
    · refine zRq_rw (zb_25_31 hS) ?_
      refine zRq_g (fun h7 => ?_)
      refine zRq_ci (r_6 hS) (fun v8 C9 => ?_)
      refine zRq_rw (zb_25_48 hS) ?_
      refine zRq_bdf (f := (fun (xq : Unit) (jq : Int) (Cq : ZC) => zR (d + 2) 25 127 [some (.inr (.inr (some 18))), some (.inl x1), some (.inl (zshl 1 x1)), some (.inl v8), some (.inl jq)] [] S Cq)) (zRq_loop (f := (fun (xq : Int) (jq : Unit) (Cq : ZC) => zR (d + 2) 25 52 [some (.inr (.inr (some 18))), some (.inl x1), some (.inl (zshl 1 x1)), some (.inl v8), some (.inl xq)] [] S Cq)) (fun x10 j11 C12 => ?_) _ () _) (fun y13 j25 C26 => ?_)
      · unfold c_Round_tellSets_L52
        refine zRq_rw (zb_25_52 hS) ?_
        refine zRq_ite (fun h14 => ?_) (fun h15 => ?_)
        · exact zRq_lf fun r h => h x10
        · refine zRq_rw (zb_25_58 hS) ?_
          refine zRq_g (fun h16 => ?_)
          refine zRq_g (fun h17 => ?_)
          refine zRq_ci (r_26 hS) (fun v18 C19 => ?_)
          refine zRq_rw (zb_25_83 hS) ?_
          refine zRq_g (fun h20 => ?_)
          refine zRq_g (fun h21 => ?_)
          refine zRq_g (fun h22 => ?_)
          refine zRq_g (fun h23 => ?_)
          refine zRq_g (fun h24 => ?_)
          exact zRq_lf fun r h => h ()
      · refine zRq_rw (zb_25_127 hS) ?_
        exact zRq_lf fun r h => h (some (.inl (zshl 1 x1)), some (.inl v8), some (.inl j25))
  · refine zRq_rw (zb_25_133 hS) ?_
    exact zRq_rt fun r h => h
-- 29: NewOrBack$Round.spread(II)I
noncomputable def c_Round_spread_L30 (l2 : Int) (l4 : Int) (x10 : (Int × Int)) (C12 : ZC) : Option (((Int × Int) ⊕ Int) × ZC) :=
  if ((C12 18 6)) ≤ ((x10.2)) then (some (.inr (x10.1), C12)) else (if ((zand l2 (zshl 1 (x10.2)))) = 0 then (some (.inl ((x10.1), (zadd (x10.2) 1)), C12)) else (zg (0 ≤ (zshl 1 (x10.2)) ∧ (zshl 1 (x10.2)) < 64) (if ((zand (C12 21 (zshl 1 (x10.2)).toNat) (x10.1))) = 0 then (some (.inl ((x10.1), (zadd (x10.2) 1)), C12)) else (zg (0 ≤ (zshl 1 (x10.2)) ∧ (zshl 1 (x10.2)) < 64) (some (.inl ((zor (x10.1) (C12 21 (zshl 1 (x10.2)).toNat)), (zadd (x10.2) 1)), C12))))))
noncomputable def c_Round_spread_L5 (l2 : Int) (x1 : (Int × Int)) (C3 : ZC) : Option (((Int × Int) ⊕ Int) × ZC) :=
  if ((C3 18 6)) ≤ ((x1.2)) then (some (.inr (x1.1), C3)) else (zg (0 ≤ l2 ∧ l2 < 64) (if ((zand (C3 21 l2.toNat) (zxor (x1.1) (-1)))) = 0 then (some (.inr (x1.1), C3)) else (zbd (zloop (c_Round_spread_L30 l2 (x1.2)) ((x1.1), 0) C3) fun y13 C23 => some (.inl (y13, (zadd (x1.2) 1)), C23))))
noncomputable def c_Round_spread (l1 : Int) (l2 : Int) (C : ZC) : Option (Int × ZC) :=
  zbd (zloop (c_Round_spread_L5 l2) (l1, 0) C) fun y4 C25 => some (y4, C25)
set_option maxRecDepth 100000 in
theorem r_29 {d : Nat} {S : ZS} (hS : zShC S) {l1 : Int} {l2 : Int} {C : ZC} : zRq (zKi S) (c_Round_spread l1 l2 C) (zR (d + 1) 29 0 [some (.inr (.inr (some 18))), some (.inl l1), some (.inl l2), none, none, none, none] [] S C) := by
  unfold c_Round_spread
  refine zRq_rw (zb_29_0 hS) ?_
  refine zRq_bdf (f := (fun (xq : Int) (jq : (Int × Option ZV × Option ZV)) (Cq : ZC) => zR (d + 1) 29 86 [some (.inr (.inr (some 18))), some (.inl l1), some (.inl l2), some (.inl xq), some (.inl (jq.1)), (jq.2.1), (jq.2.2)] [] S Cq)) (zRq_loop (f := (fun (xq : (Int × Int)) (jq : (Option ZV × Option ZV)) (Cq : ZC) => zR (d + 1) 29 5 [some (.inr (.inr (some 18))), some (.inl l1), some (.inl l2), some (.inl (xq.1)), some (.inl (xq.2)), (jq.1), (jq.2)] [] S Cq)) (fun x1 j2 C3 => ?_) _ (none, none) _) (fun y4 j24 C25 => ?_)
  · unfold c_Round_spread_L5
    refine zRq_rw (zb_29_5 hS) ?_
    refine zRq_ite (fun h5 => ?_) (fun h6 => ?_)
    · exact zRq_lf fun r h => h ((x1.2), (j2.1), (j2.2))
    · refine zRq_rw (zb_29_14 hS) ?_
      refine zRq_g (fun h7 => ?_)
      refine zRq_ite (fun h8 => ?_) (fun h9 => ?_)
      · exact zRq_lf fun r h => h ((x1.2), (j2.1), (j2.2))
      · refine zRq_rw (zb_29_27 hS) ?_
        refine zRq_bdf (f := (fun (xq : Int) (jq : (Int × Option ZV)) (Cq : ZC) => zR (d + 1) 29 80 [some (.inr (.inr (some 18))), some (.inl l1), some (.inl l2), some (.inl xq), some (.inl (x1.2)), some (.inl (jq.1)), (jq.2)] [] S Cq)) (zRq_loop (f := (fun (xq : (Int × Int)) (jq : Option ZV) (Cq : ZC) => zR (d + 1) 29 30 [some (.inr (.inr (some 18))), some (.inl l1), some (.inl l2), some (.inl (xq.1)), some (.inl (x1.2)), some (.inl (xq.2)), jq] [] S Cq)) (fun x10 j11 C12 => ?_) _ (j2.2) _) (fun y13 j22 C23 => ?_)
        · unfold c_Round_spread_L30
          refine zRq_rw (zb_29_30 hS) ?_
          refine zRq_ite (fun h14 => ?_) (fun h15 => ?_)
          · exact zRq_lf fun r h => h ((x10.2), j11)
          · refine zRq_rw (zb_29_39 hS) ?_
            refine zRq_ite (fun h16 => ?_) (fun h17 => ?_)
            · refine zRq_rw (zb_29_74 hS) ?_
              exact zRq_lf fun r h => h (some (.inl (zshl 1 (x10.2))))
            · refine zRq_rw (zb_29_52 hS) ?_
              refine zRq_g (fun h18 => ?_)
              refine zRq_ite (fun h19 => ?_) (fun h20 => ?_)
              · refine zRq_rw (zb_29_74 hS) ?_
                exact zRq_lf fun r h => h (some (.inl (zshl 1 (x10.2))))
              · refine zRq_rw (zb_29_64 hS) ?_
                refine zRq_g (fun h21 => ?_)
                refine zRq_rw (zb_29_74 hS) ?_
                exact zRq_lf fun r h => h (some (.inl (zshl 1 (x10.2))))
        · refine zRq_rw (zb_29_80 hS) ?_
          exact zRq_lf fun r h => h (some (.inl (j22.1)), (j22.2))
  · refine zRq_rw (zb_29_86 hS) ?_
    exact zRq_rt fun r h => h
-- 30: NewOrBack$Round.withAsides(IIII)I
noncomputable def c_Round_withAsides_L39 (l1 : Int) (l2 : Int) (l3 : Int) (l5 : Int) (x3 : (Int × Int)) (C5 : ZC) : Option (((Int × Int) ⊕ Int) × ZC) :=
  if l3 < ((x3.2)) then (some (.inr (x3.1), C5)) else (zg (0 ≤ (x3.2) ∧ (x3.2) < 64) (if ¬ ((zand (x3.2) (zxor l3 (-1)))) = 0 then (some (.inl ((x3.1), (zadd (x3.2) 1)), C5)) else (if ((x3.1)) ≤ ((zadd l2 (zmul 2 (C5 20 (x3.2).toNat)))) then (some (.inl ((x3.1), (zadd (x3.2) 1)), C5)) else (zg (0 ≤ (x3.2) ∧ (x3.2) < 64) (if ¬ ((zand l5 (zxor (C5 21 (x3.2).toNat) (-1)))) = 0 then (some (.inl ((x3.1), (zadd (x3.2) 1)), C5)) else (zbd (c_Round_spread l1 (x3.2) C5) fun v17 C18 => if ¬ ((zand l5 (zxor v17 (-1)))) = 0 then (some (.inl ((x3.1), (zadd (x3.2) 1)), C18)) else (some (.inl ((zadd l2 (zmul 2 (C5 20 (x3.2).toNat))), (zadd (x3.2) 1)), C18))))))))
noncomputable def c_Round_withAsides (l1 : Int) (l2 : Int) (l3 : Int) (l4 : Int) (C : ZC) : Option (Int × ZC) :=
  if ¬ ((zand (zand (C 18 7) (zxor (C 23 9) (-1))) (zxor l1 (-1)))) = 0 then (zbd (zloop (c_Round_withAsides_L39 l1 l2 l3 (zand (zand (C 18 7) (zxor (C 23 9) (-1))) (zxor l1 (-1)))) (l4, 1) C) fun y6 C22 => some (y6, C22)) else (some ((if l4 < l2 then l4 else l2), C))
set_option maxRecDepth 100000 in
theorem r_30 {d : Nat} {S : ZS} (hS : zShC S) {l1 : Int} {l2 : Int} {l3 : Int} {l4 : Int} {C : ZC} : zRq (zKi S) (c_Round_withAsides l1 l2 l3 l4 C) (zR (d + 2) 30 0 [some (.inr (.inr (some 18))), some (.inl l1), some (.inl l2), some (.inl l3), some (.inl l4), none, none, none, none] [] S C) := by
  unfold c_Round_withAsides
  refine zRq_rw (zb_30_0 hS) ?_
  refine zRq_ite (fun h1 => ?_) (fun h2 => ?_)
  · refine zRq_rw (zb_30_32 hS) ?_
    refine zRq_bdf (f := (fun (xq : Int) (jq : (Int × Option ZV)) (Cq : ZC) => zR (d + 2) 30 114 [some (.inr (.inr (some 18))), some (.inl l1), some (.inl l2), some (.inl l3), some (.inl l4), some (.inl (zand (zand (C 18 7) (zxor (C 23 9) (-1))) (zxor l1 (-1)))), some (.inl xq), some (.inl (jq.1)), (jq.2)] [] S Cq)) (zRq_loop (f := (fun (xq : (Int × Int)) (jq : Option ZV) (Cq : ZC) => zR (d + 2) 30 39 [some (.inr (.inr (some 18))), some (.inl l1), some (.inl l2), some (.inl l3), some (.inl l4), some (.inl (zand (zand (C 18 7) (zxor (C 23 9) (-1))) (zxor l1 (-1)))), some (.inl (xq.1)), some (.inl (xq.2)), jq] [] S Cq)) (fun x3 j4 C5 => ?_) _ none _) (fun y6 j21 C22 => ?_)
    · unfold c_Round_withAsides_L39
      refine zRq_rw (zb_30_39 hS) ?_
      refine zRq_ite (fun h7 => ?_) (fun h8 => ?_)
      · exact zRq_lf fun r h => h ((x3.2), j4)
      · refine zRq_rw (zb_30_45 hS) ?_
        refine zRq_g (fun h9 => ?_)
        refine zRq_ite (fun h10 => ?_) (fun h11 => ?_)
        · refine zRq_rw (zb_30_108 hS) ?_
          exact zRq_lf fun r h => h (some (.inl (zadd l2 (zmul 2 (C5 20 (x3.2).toNat)))))
        · refine zRq_rw (zb_30_67 hS) ?_
          refine zRq_ite (fun h12 => ?_) (fun h13 => ?_)
          · refine zRq_rw (zb_30_108 hS) ?_
            exact zRq_lf fun r h => h (some (.inl (zadd l2 (zmul 2 (C5 20 (x3.2).toNat)))))
          · refine zRq_rw (zb_30_74 hS) ?_
            refine zRq_g (fun h14 => ?_)
            refine zRq_ite (fun h15 => ?_) (fun h16 => ?_)
            · refine zRq_rw (zb_30_108 hS) ?_
              exact zRq_lf fun r h => h (some (.inl (zadd l2 (zmul 2 (C5 20 (x3.2).toNat)))))
            · refine zRq_rw (zb_30_89 hS) ?_
              refine zRq_ci (r_29 hS) (fun v17 C18 => ?_)
              refine zRq_rw (zb_30_98 hS) ?_
              refine zRq_ite (fun h19 => ?_) (fun h20 => ?_)
              · refine zRq_rw (zb_30_108 hS) ?_
                exact zRq_lf fun r h => h (some (.inl (zadd l2 (zmul 2 (C5 20 (x3.2).toNat)))))
              · refine zRq_rw (zb_30_104 hS) ?_
                refine zRq_rw (zb_30_108 hS) ?_
                exact zRq_lf fun r h => h (some (.inl (zadd l2 (zmul 2 (C5 20 (x3.2).toNat)))))
    · refine zRq_rw (zb_30_114 hS) ?_
      exact zRq_rt fun r h => h
  · refine zRq_rw (zb_30_25 hS) ?_
    exact zRq_rt fun r h => h
-- 28: NewOrBack$Round.byRoads(IIIII)I
noncomputable def c_Round_byRoads_L22 (l1 : Int) (l2 : Int) (l3 : Int) (l4 : Int) (l7 : Int) (x1 : (Int × Int)) (C3 : ZC) : Option (((Int × Int) ⊕ Int) × ZC) :=
  if l4 < ((x1.2)) then (some (.inr (x1.1), C3)) else (zg (0 ≤ (x1.2) ∧ (x1.2) < 64) (if ¬ ((zand (x1.2) (zxor l4 (-1)))) = 0 then (some (.inl ((x1.1), (zadd (x1.2) 1)), C3)) else (if ((x1.1)) ≤ ((zadd l3 (C3 20 (x1.2).toNat))) then (some (.inl ((x1.1), (zadd (x1.2) 1)), C3)) else (zg (0 ≤ (x1.2) ∧ (x1.2) < 64) (if ¬ ((C3 22 (x1.2).toNat)) = l7 then (some (.inl ((x1.1), (zadd (x1.2) 1)), C3)) else (zg (0 ≤ (x1.2) ∧ (x1.2) < 64) (zbd (c_Round_spread (zshl 1 l1) (x1.2) C3) fun v16 C17 => if ¬ ((zand (C3 21 (x1.2).toNat) (zxor v16 (-1)))) = 0 then (some (.inl ((x1.1), (zadd (x1.2) 1)), C17)) else (zg (0 ≤ (x1.2) ∧ (x1.2) < 64) (zbd (c_Round_withAsides (zor l2 (C17 21 (x1.2).toNat)) (zadd l3 (C3 20 (x1.2).toNat)) (zand l4 (zxor (x1.2) (-1))) (x1.1) C17) fun v21 C22 => some (.inl (v21, (zadd (x1.2) 1)), C22))))))))))
noncomputable def c_Round_byRoads (l1 : Int) (l2 : Int) (l3 : Int) (l4 : Int) (l5 : Int) (C : ZC) : Option (Int × ZC) :=
  zbd (zloop (c_Round_byRoads_L22 l1 l2 l3 l4 (zxor (zshl 1 l1) (zshl 1 (C 23 4)))) (l5, 0) C) fun y4 C24 => some (y4, C24)
set_option maxRecDepth 100000 in
theorem r_28 {d : Nat} {S : ZS} (hS : zShC S) {l1 : Int} {l2 : Int} {l3 : Int} {l4 : Int} {l5 : Int} {C : ZC} : zRq (zKi S) (c_Round_byRoads l1 l2 l3 l4 l5 C) (zR (d + 3) 28 0 [some (.inr (.inr (some 18))), some (.inl l1), some (.inl l2), some (.inl l3), some (.inl l4), some (.inl l5), none, none, none, none] [] S C) := by
  unfold c_Round_byRoads
  refine zRq_rw (zb_28_0 hS) ?_
  refine zRq_bdf (f := (fun (xq : Int) (jq : (Int × Option ZV)) (Cq : ZC) => zR (d + 3) 28 123 [some (.inr (.inr (some 18))), some (.inl l1), some (.inl l2), some (.inl l3), some (.inl l4), some (.inl l5), some (.inl xq), some (.inl (zxor (zshl 1 l1) (zshl 1 (C 23 4)))), some (.inl (jq.1)), (jq.2)] [] S Cq)) (zRq_loop (f := (fun (xq : (Int × Int)) (jq : Option ZV) (Cq : ZC) => zR (d + 3) 28 22 [some (.inr (.inr (some 18))), some (.inl l1), some (.inl l2), some (.inl l3), some (.inl l4), some (.inl l5), some (.inl (xq.1)), some (.inl (zxor (zshl 1 l1) (zshl 1 (C 23 4)))), some (.inl (xq.2)), jq] [] S Cq)) (fun x1 j2 C3 => ?_) _ none _) (fun y4 j23 C24 => ?_)
  · unfold c_Round_byRoads_L22
    refine zRq_rw (zb_28_22 hS) ?_
    refine zRq_ite (fun h5 => ?_) (fun h6 => ?_)
    · exact zRq_lf fun r h => h ((x1.2), j2)
    · refine zRq_rw (zb_28_29 hS) ?_
      refine zRq_g (fun h7 => ?_)
      refine zRq_ite (fun h8 => ?_) (fun h9 => ?_)
      · refine zRq_rw (zb_28_117 hS) ?_
        exact zRq_lf fun r h => h (some (.inl (zadd l3 (C3 20 (x1.2).toNat))))
      · refine zRq_rw (zb_28_50 hS) ?_
        refine zRq_ite (fun h10 => ?_) (fun h11 => ?_)
        · refine zRq_rw (zb_28_117 hS) ?_
          exact zRq_lf fun r h => h (some (.inl (zadd l3 (C3 20 (x1.2).toNat))))
        · refine zRq_rw (zb_28_57 hS) ?_
          refine zRq_g (fun h12 => ?_)
          refine zRq_ite (fun h13 => ?_) (fun h14 => ?_)
          · refine zRq_rw (zb_28_117 hS) ?_
            exact zRq_lf fun r h => h (some (.inl (zadd l3 (C3 20 (x1.2).toNat))))
          · refine zRq_rw (zb_28_69 hS) ?_
            refine zRq_g (fun h15 => ?_)
            refine zRq_ci (r_29 hS) (fun v16 C17 => ?_)
            refine zRq_rw (zb_28_85 hS) ?_
            refine zRq_ite (fun h18 => ?_) (fun h19 => ?_)
            · refine zRq_rw (zb_28_117 hS) ?_
              exact zRq_lf fun r h => h (some (.inl (zadd l3 (C3 20 (x1.2).toNat))))
            · refine zRq_rw (zb_28_91 hS) ?_
              refine zRq_g (fun h20 => ?_)
              refine zRq_ci (r_30 hS) (fun v21 C22 => ?_)
              refine zRq_rw (zb_28_115 hS) ?_
              refine zRq_rw (zb_28_117 hS) ?_
              exact zRq_lf fun r h => h (some (.inl (zadd l3 (C3 20 (x1.2).toNat))))
  · refine zRq_rw (zb_28_123 hS) ?_
    exact zRq_rt fun r h => h
-- 27: NewOrBack$Round.leastCost(I)I
noncomputable def c_Round_leastCost_L4 (l1 : Int) (x1 : (Int × Int)) (C3 : ZC) : Option (((Int × Int) ⊕ Int) × ZC) :=
  if ((C3 18 6)) ≤ ((x1.2)) then (some (.inr (x1.1), C3)) else (zg (0 ≤ (x1.2) ∧ (x1.2) < 6) (zbd (c_N_has (C3 23 7) (C3 19 (x1.2).toNat) C3) fun v8 C9 => if v8 = 0 then (some (.inl ((zor (x1.1) (zshl 1 (x1.2))), (zadd (x1.2) 1)), C9)) else (some (.inl ((zor (x1.1) 0), (zadd (x1.2) 1)), C9))))
noncomputable def c_Round_leastCost_L94 (l2 : Int) (x16 : (Int × Int × Int × Int)) (C18 : ZC) : Option (((Int × Int × Int × Int) ⊕ Int) × ZC) :=
  if ((x16.2.2.2)) < 0 then (some (.inr (x16.1), C18)) else (if ((x16.1)) ≤ ((x16.2.2.1)) then (some (.inr (x16.1), C18)) else (zg (0 ≤ (x16.2.2.2) ∧ (x16.2.2.2) < 12) (zbd (c_Round_costOf (C18 24 (x16.2.2.2).toNat) C18) fun v25 C26 => zg (0 ≤ (x16.2.2.2) ∧ (x16.2.2.2) < 12) (zg (0 ≤ (x16.2.2.2) ∧ (x16.2.2.2) < 12) (zbd (c_Round_byRoads (C26 25 (x16.2.2.2).toNat) (zor (x16.2.1) (zshl 1 (C26 25 (x16.2.2.2).toNat))) (zadd (x16.2.2.1) v25) l2 (x16.1) C26) fun v29 C30 => some (.inl (v29, (zor (x16.2.1) (zshl 1 (C26 25 (x16.2.2.2).toNat))), (zadd (x16.2.2.1) v25), (zadd (x16.2.2.2) (-1))), C30))))))
noncomputable def c_Round_leastCost (l1 : Int) (C : ZC) : Option (Int × ZC) :=
  zbd (zloop (c_Round_leastCost_L4 l1) (0, 0) C) fun y4 C13 => zbd (c_Round_byRoads (C13 23 5) (zshl 1 (C13 23 5)) 0 y4 (zadd l1 1) C13) fun v14 C15 => zbd (zloop (c_Round_leastCost_L94 y4) (v14, (zshl 1 (C13 23 5)), 0, (zsub (C15 23 6) 1)) C15) fun y19 C32 => some (y19, C32)
set_option maxRecDepth 100000 in
theorem r_27 {d : Nat} {S : ZS} (hS : zShC S) {l1 : Int} {C : ZC} : zRq (zKi S) (c_Round_leastCost l1 C) (zR (d + 4) 27 0 [some (.inr (.inr (some 18))), some (.inl l1), none, none, none, none, none] [] S C) := by
  unfold c_Round_leastCost
  refine zRq_rw (zb_27_0 hS) ?_
  refine zRq_bdf (f := (fun (xq : Int) (jq : (Int × Option ZV × Option ZV × Option ZV)) (Cq : ZC) => zR (d + 4) 27 47 [some (.inr (.inr (some 18))), some (.inl l1), some (.inl xq), some (.inl (jq.1)), (jq.2.1), (jq.2.2.1), (jq.2.2.2)] [] S Cq)) (zRq_loop (f := (fun (xq : (Int × Int)) (jq : (Option ZV × Option ZV × Option ZV)) (Cq : ZC) => zR (d + 4) 27 4 [some (.inr (.inr (some 18))), some (.inl l1), some (.inl (xq.1)), some (.inl (xq.2)), (jq.1), (jq.2.1), (jq.2.2)] [] S Cq)) (fun x1 j2 C3 => ?_) _ (none, none, none) _) (fun y4 j12 C13 => ?_)
  · unfold c_Round_leastCost_L4
    refine zRq_rw (zb_27_4 hS) ?_
    refine zRq_ite (fun h5 => ?_) (fun h6 => ?_)
    · exact zRq_lf fun r h => h ((x1.2), (j2.1), (j2.2.1), (j2.2.2))
    · refine zRq_rw (zb_27_12 hS) ?_
      refine zRq_g (fun h7 => ?_)
      refine zRq_ci (r_61 hS) (fun v8 C9 => ?_)
      refine zRq_rw (zb_27_29 hS) ?_
      refine zRq_ite (fun h10 => ?_) (fun h11 => ?_)
      · refine zRq_rw (zb_27_36 hS) ?_
        refine zRq_rw (zb_27_39 hS) ?_
        exact zRq_lf fun r h => h ((j2.1), (j2.2.1), (j2.2.2))
      · refine zRq_rw (zb_27_32 hS) ?_
        refine zRq_rw (zb_27_39 hS) ?_
        exact zRq_lf fun r h => h ((j2.1), (j2.2.1), (j2.2.2))
  · refine zRq_rw (zb_27_47 hS) ?_
    refine zRq_ci (r_28 hS) (fun v14 C15 => ?_)
    refine zRq_rw (zb_27_82 hS) ?_
    refine zRq_bdf (f := (fun (xq : Int) (jq : (Int × Int × Int)) (Cq : ZC) => zR (d + 4) 27 168 [some (.inr (.inr (some 18))), some (.inl l1), some (.inl y4), some (.inl xq), some (.inl (jq.1)), some (.inl (jq.2.1)), some (.inl (jq.2.2))] [] S Cq)) (zRq_loop (f := (fun (xq : (Int × Int × Int × Int)) (jq : Unit) (Cq : ZC) => zR (d + 4) 27 94 [some (.inr (.inr (some 18))), some (.inl l1), some (.inl y4), some (.inl (xq.1)), some (.inl (xq.2.1)), some (.inl (xq.2.2.1)), some (.inl (xq.2.2.2))] [] S Cq)) (fun x16 j17 C18 => ?_) _ () _) (fun y19 j31 C32 => ?_)
    · unfold c_Round_leastCost_L94
      refine zRq_rw (zb_27_94 hS) ?_
      refine zRq_ite (fun h20 => ?_) (fun h21 => ?_)
      · exact zRq_lf fun r h => h ((x16.2.1), (x16.2.2.1), (x16.2.2.2))
      · refine zRq_rw (zb_27_99 hS) ?_
        refine zRq_ite (fun h22 => ?_) (fun h23 => ?_)
        · exact zRq_lf fun r h => h ((x16.2.1), (x16.2.2.1), (x16.2.2.2))
        · refine zRq_rw (zb_27_105 hS) ?_
          refine zRq_g (fun h24 => ?_)
          refine zRq_ci (r_26 hS) (fun v25 C26 => ?_)
          refine zRq_rw (zb_27_121 hS) ?_
          refine zRq_g (fun h27 => ?_)
          refine zRq_g (fun h28 => ?_)
          refine zRq_ci (r_28 hS) (fun v29 C30 => ?_)
          refine zRq_rw (zb_27_161 hS) ?_
          refine zRq_lf fun r h => ?_
          have h2 := h ()
          dsimp only [zKf, zKs] at h2
          rw [show d + 3 + 1 = d + 4 from rfl]
          exact h2
    · refine zRq_rw (zb_27_168 hS) ?_
      exact zRq_rt fun r h => h
-- 24: NewOrBack$Round.begin(LNewOrBack$Walk;I)V
noncomputable def c_Round_begin_L36  (x3 : Int) (C5 : ZC) : Option ((Int ⊕ Unit) × ZC) :=
  if ((C5 9 3)) ≤ x3 then (some (.inr (), C5)) else (zbd (c_N_has (C5 23 7) x3 C5) fun v9 C10 => if ¬ v9 = 0 then (some (.inl (zadd x3 1), C10)) else (if 6 ≤ ((C10 18 6)) then (some (.inl (zadd x3 1), C10)) else (zg (0 ≤ (C10 18 6) ∧ (C10 18 6) < 6) (some (.inl (zadd x3 1), zup2 (zup2 C10 19 (C10 18 6).toNat x3) 18 6 (zadd ((zup2 C10 19 (C10 18 6).toNat x3) 18 6) 1))))))
noncomputable def c_Round_begin (l1 : Nat) (l2 : Int) (C : ZC) : Option (Int × ZC) :=
  zbd (c_Walk_become 23 l1 (zup2 C 18 7 l2)) fun v1 C2 => zbd (zloop (c_Round_begin_L36) 0 (zup2 (zup2 C2 23 9 (zshl 1 (C2 23 5))) 18 6 0)) fun y6 C17 => zbd (c_Round_tellSets C17) fun v18 C19 => zbd (c_Round_leastCost 1048576 C19) fun v20 C21 => some (0, zup2 C21 18 8 v20)
set_option maxRecDepth 100000 in
theorem r_24 {d : Nat} {S : ZS} (hS : zShC S) {l1 : Nat} {l2 : Int} (hl1 : zisW l1) {C : ZC} : zRq (zKv S) (c_Round_begin l1 l2 C) (zR (d + 5) 24 0 [some (.inr (.inr (some 18))), some (.inr (.inr (some l1))), some (.inl l2), none] [] S C) := by
  unfold c_Round_begin
  refine zRq_rw (zb_24_0 hS hl1) ?_
  refine zRq_cv (r_19 hS (by unfold zisW; decide) hl1) (fun v1 C2 => ?_)
  refine zRq_rw (zb_24_13 hS hl1) ?_
  refine zRq_bdf (f := (fun (xq : Unit) (jq : Int) (Cq : ZC) => zR (d + 5) 24 96 [some (.inr (.inr (some 18))), some (.inr (.inr (some l1))), some (.inl l2), some (.inl jq)] [] S Cq)) (zRq_loop (f := (fun (xq : Int) (jq : Unit) (Cq : ZC) => zR (d + 5) 24 36 [some (.inr (.inr (some 18))), some (.inr (.inr (some l1))), some (.inl l2), some (.inl xq)] [] S Cq)) (fun x3 j4 C5 => ?_) _ () _) (fun y6 j16 C17 => ?_)
  · unfold c_Round_begin_L36
    refine zRq_rw (zb_24_36 hS hl1) ?_
    refine zRq_ite (fun h7 => ?_) (fun h8 => ?_)
    · exact zRq_lf fun r h => h x3
    · refine zRq_rw (zb_24_47 hS hl1) ?_
      refine zRq_ci (r_61 hS) (fun v9 C10 => ?_)
      refine zRq_rw (zb_24_58 hS hl1) ?_
      refine zRq_ite (fun h11 => ?_) (fun h12 => ?_)
      · refine zRq_rw (zb_24_90 hS hl1) ?_
        exact zRq_lf fun r h => h ()
      · refine zRq_rw (zb_24_61 hS hl1) ?_
        refine zRq_ite (fun h13 => ?_) (fun h14 => ?_)
        · refine zRq_rw (zb_24_90 hS hl1) ?_
          exact zRq_lf fun r h => h ()
        · refine zRq_rw (zb_24_70 hS hl1) ?_
          refine zRq_g (fun h15 => ?_)
          refine zRq_rw (zb_24_90 hS hl1) ?_
          exact zRq_lf fun r h => h ()
  · refine zRq_rw (zb_24_96 hS hl1) ?_
    refine zRq_cv (r_25 hS) (fun v18 C19 => ?_)
    refine zRq_rw (zb_24_100 hS hl1) ?_
    refine zRq_ci (r_27 hS) (fun v20 C21 => ?_)
    refine zRq_rw (zb_24_107 hS hl1) ?_
    exact zRq_rt fun r h => h
-- 31: NewOrBack$Round.minutes()I
noncomputable def c_Round_minutes  (C : ZC) : Option (Int × ZC) :=
  if ((C 18 8)) ≤ 1048576 then (some ((zdiv (C 18 8) 64), C)) else (some ((-1), C))
set_option maxRecDepth 100000 in
theorem r_31 {d : Nat} {S : ZS} (hS : zShC S) {C : ZC} : zRq (zKi S) (c_Round_minutes C) (zR (d + 1) 31 0 [some (.inr (.inr (some 18)))] [] S C) := by
  unfold c_Round_minutes
  refine zRq_rw (zb_31_0 hS) ?_
  refine zRq_ite (fun h1 => ?_) (fun h2 => ?_)
  · refine zRq_rw (zb_31_13 hS) ?_
    refine zRq_rw (zb_31_20 hS) ?_
    exact zRq_rt fun r h => h
  · refine zRq_rw (zb_31_9 hS) ?_
    refine zRq_rw (zb_31_20 hS) ?_
    exact zRq_rt fun r h => h
-- 33: NewOrBack$Round.goLeastStep(I)I
noncomputable def c_Round_goLeastStep_L2 (l1 : Int) (x1 : Int) (C3 : ZC) : Option ((Int ⊕ (Unit ⊕ Int)) × ZC) :=
  if ((C3 9 3)) ≤ x1 then (some (.inr (.inl ()), C3)) else (zbd (c_Walk_kindOf 23 x1 C3) fun v7 C8 => zbd (c_Round_costOf x1 C8) fun v9 C10 => if v7 = 0 then (some (.inl (zadd x1 1), C10)) else (if ((zsub l1 v9)) < 0 then (some (.inl (zadd x1 1), C10)) else (zbd (c_Walk_step 23 x1 v7 C10) fun v15 C16 => zbd (c_Round_leastCost (zsub l1 v9) C16) fun v17 C18 => if ((zsub l1 v9)) < v17 then (if ¬ v7 = 1 then (zbd (c_Walk_undoBack 23 x1 (zup2 C18 23 9 (C10 23 9))) fun v23 C24 => some (.inl (zadd x1 1), C24)) else (zbd (c_Walk_undoNew 23 (zup2 C18 23 9 (C10 23 9))) fun v25 C26 => some (.inl (zadd x1 1), C26))) else (some (.inr (.inr x1), C18)))))
noncomputable def c_Round_goLeastStep (l1 : Int) (C : ZC) : Option (Int × ZC) :=
  zbs (zloop (c_Round_goLeastStep_L2 l1) 0 C) fun y4 C28 => some ((-1), C28)
set_option maxRecDepth 100000 in
theorem r_33 {d : Nat} {S : ZS} (hS : zShC S) {l1 : Int} {C : ZC} : zRq (zKi S) (c_Round_goLeastStep l1 C) (zR (d + 5) 33 0 [some (.inr (.inr (some 18))), some (.inl l1), none, none, none, none] [] S C) := by
  unfold c_Round_goLeastStep
  refine zRq_rw (zb_33_0 hS) ?_
  refine zRq_bsf (f := (fun (xq : Unit) (jq : (Int × Option ZV × Option ZV × Option ZV)) (Cq : ZC) => zR (d + 5) 33 109 [some (.inr (.inr (some 18))), some (.inl l1), some (.inl (jq.1)), (jq.2.1), (jq.2.2.1), (jq.2.2.2)] [] S Cq)) (zRq_loop (f := (fun (xq : Int) (jq : (Option ZV × Option ZV × Option ZV)) (Cq : ZC) => zR (d + 5) 33 2 [some (.inr (.inr (some 18))), some (.inl l1), some (.inl xq), (jq.1), (jq.2.1), (jq.2.2)] [] S Cq)) (fun x1 j2 C3 => ?_) _ (none, none, none) _) (fun y4 j27 C28 => ?_)
  · unfold c_Round_goLeastStep_L2
    refine zRq_rw (zb_33_2 hS) ?_
    refine zRq_ite (fun h5 => ?_) (fun h6 => ?_)
    · exact zRq_lf fun r h => h (x1, (j2.1), (j2.2.1), (j2.2.2))
    · refine zRq_rw (zb_33_13 hS) ?_
      refine zRq_ci (r_12 hS (by unfold zisW; decide)) (fun v7 C8 => ?_)
      refine zRq_rw (zb_33_21 hS) ?_
      refine zRq_ci (r_26 hS) (fun v9 C10 => ?_)
      refine zRq_rw (zb_33_28 hS) ?_
      refine zRq_ite (fun h11 => ?_) (fun h12 => ?_)
      · refine zRq_rw (zb_33_103 hS) ?_
        exact zRq_lf fun r h => h (some (.inl v7), some (.inl (zsub l1 v9)), (j2.2.2))
      · refine zRq_rw (zb_33_35 hS) ?_
        refine zRq_ite (fun h13 => ?_) (fun h14 => ?_)
        · refine zRq_rw (zb_33_103 hS) ?_
          exact zRq_lf fun r h => h (some (.inl v7), some (.inl (zsub l1 v9)), (j2.2.2))
        · refine zRq_rw (zb_33_40 hS) ?_
          refine zRq_cv (r_13 hS (by unfold zisW; decide)) (fun v15 C16 => ?_)
          refine zRq_rw (zb_33_58 hS) ?_
          refine zRq_ci (r_27 hS) (fun v17 C18 => ?_)
          refine zRq_rw (zb_33_64 hS) ?_
          refine zRq_ite (fun h19 => ?_) (fun h20 => ?_)
          · refine zRq_rw (zb_33_71 hS) ?_
            refine zRq_ite (fun h21 => ?_) (fun h22 => ?_)
            · refine zRq_rw (zb_33_95 hS) ?_
              refine zRq_cv (r_21 hS (by unfold zisW; decide)) (fun v23 C24 => ?_)
              refine zRq_rw (zb_33_103 hS) ?_
              exact zRq_lf fun r h => h (some (.inl v7), some (.inl (zsub l1 v9)), (some (.inl (C10 23 9))))
            · refine zRq_rw (zb_33_85 hS) ?_
              refine zRq_cv (r_20 hS (by unfold zisW; decide)) (fun v25 C26 => ?_)
              refine zRq_rw (zb_33_92 hS) ?_
              refine zRq_rw (zb_33_103 hS) ?_
              exact zRq_lf fun r h => h (some (.inl v7), some (.inl (zsub l1 v9)), (some (.inl (C10 23 9))))
          · refine zRq_rw (zb_33_69 hS) ?_
            exact zRq_rt fun r h => h
  · refine zRq_rw (zb_33_109 hS) ?_
    exact zRq_rt fun r h => h
-- 32: NewOrBack$Round.wayAt(I)I
noncomputable def c_Round_wayAt_L32 (l1 : Int) (x5 : (Int × Int × Int)) (C7 : ZC) : Option (((Int × Int × Int) ⊕ (Int ⊕ Int)) × ZC) :=
  if l1 < ((x5.2.2)) then (some (.inr (.inl (x5.2.1)), C7)) else (zbd (c_Round_goLeastStep (x5.1) C7) fun v11 C12 => if ¬ v11 = ((-1)) then (zbd (c_Round_costOf v11 C12) fun v15 C16 => some (.inl ((zsub (x5.1) v15), v11, (zadd (x5.2.2) 1)), C16)) else (some (.inr (.inr (-1)), C12)))
noncomputable def c_Round_wayAt (l1 : Int) (C : ZC) : Option (Int × ZC) :=
  if 1048576 < ((C 18 8)) then (some ((-1), C)) else (if l1 < ((zrem (C 18 8) 64)) then (zbs (zloop (c_Round_wayAt_L32 l1) ((C 18 8), (-1), 0) C) fun y8 C18 => some (y8, C18)) else (some ((-1), C)))
set_option maxRecDepth 100000 in
theorem r_32 {d : Nat} {S : ZS} (hS : zShC S) {l1 : Int} {C : ZC} : zRq (zKi S) (c_Round_wayAt l1 C) (zR (d + 6) 32 0 [some (.inr (.inr (some 18))), some (.inl l1), none, none, none] [] S C) := by
  unfold c_Round_wayAt
  refine zRq_rw (zb_32_0 hS) ?_
  refine zRq_ite (fun h1 => ?_) (fun h2 => ?_)
  · refine zRq_rw (zb_32_20 hS) ?_
    exact zRq_rt fun r h => h
  · refine zRq_rw (zb_32_9 hS) ?_
    refine zRq_ite (fun h3 => ?_) (fun h4 => ?_)
    · refine zRq_rw (zb_32_22 hS) ?_
      refine zRq_bsf (f := (fun (xq : Int) (jq : (Int × Int)) (Cq : ZC) => zR (d + 6) 32 65 [some (.inr (.inr (some 18))), some (.inl l1), some (.inl (jq.1)), some (.inl xq), some (.inl (jq.2))] [] S Cq)) (zRq_loop (f := (fun (xq : (Int × Int × Int)) (jq : Unit) (Cq : ZC) => zR (d + 6) 32 32 [some (.inr (.inr (some 18))), some (.inl l1), some (.inl (xq.1)), some (.inl (xq.2.1)), some (.inl (xq.2.2))] [] S Cq)) (fun x5 j6 C7 => ?_) _ () _) (fun y8 j17 C18 => ?_)
      · unfold c_Round_wayAt_L32
        refine zRq_rw (zb_32_32 hS) ?_
        refine zRq_ite (fun h9 => ?_) (fun h10 => ?_)
        · exact zRq_lf fun r h => h ((x5.1), (x5.2.2))
        · refine zRq_rw (zb_32_38 hS) ?_
          refine zRq_ci (r_33 hS) (fun v11 C12 => ?_)
          refine zRq_rw (zb_32_43 hS) ?_
          refine zRq_ite (fun h13 => ?_) (fun h14 => ?_)
          · refine zRq_rw (zb_32_51 hS) ?_
            refine zRq_ci (r_26 hS) (fun v15 C16 => ?_)
            refine zRq_rw (zb_32_57 hS) ?_
            exact zRq_lf fun r h => h ()
          · refine zRq_rw (zb_32_49 hS) ?_
            exact zRq_rt fun r h => h
      · refine zRq_rw (zb_32_65 hS) ?_
        exact zRq_rt fun r h => h
    · refine zRq_rw (zb_32_20 hS) ?_
      exact zRq_rt fun r h => h

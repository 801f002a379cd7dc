/-! Layer 2: the methods as programs over the ints (written by wip/whole/gend.py) -/
-- 60: NewOrBack.within(II)Z
noncomputable def c_N_within (l0 : Int) (l1 : Int) (C : ZC) : Option (Int × ZC) :=
  if l0 < 0 then (some (0, C)) else (if l1 ≤ l0 then (some (0, C)) else (some (1, C)))
set_option maxRecDepth 100000 in
theorem r_60 {d : Nat} {S : ZS} (hS : zShC S) {l0 : Int} {l1 : Int} {C : ZC} : zRq (zKi S) (c_N_within l0 l1 C) (zR (d + 1) 60 0 [some (.inl l0), some (.inl l1)] [] S C) := by
  unfold c_N_within
  refine zRq_rw (zb_60_0 hS) ?_
  refine zRq_ite (fun h1 => ?_) (fun h2 => ?_)
  · refine zRq_rw (zb_60_13 hS) ?_
    refine zRq_rw (zb_60_14 hS) ?_
    exact zRq_rt fun r h => h
  · refine zRq_rw (zb_60_4 hS) ?_
    refine zRq_ite (fun h3 => ?_) (fun h4 => ?_)
    · refine zRq_rw (zb_60_13 hS) ?_
      refine zRq_rw (zb_60_14 hS) ?_
      exact zRq_rt fun r h => h
    · refine zRq_rw (zb_60_9 hS) ?_
      refine zRq_rw (zb_60_14 hS) ?_
      exact zRq_rt fun r h => h
-- 61: NewOrBack.has(II)Z
noncomputable def c_N_has (l0 : Int) (l1 : Int) (C : ZC) : Option (Int × ZC) :=
  if ((zand (zshr l0 l1) 1)) = 0 then (some (0, C)) else (some (1, C))
set_option maxRecDepth 100000 in
theorem r_61 {d : Nat} {S : ZS} (hS : zShC S) {l0 : Int} {l1 : Int} {C : ZC} : zRq (zKi S) (c_N_has l0 l1 C) (zR (d + 1) 61 0 [some (.inl l0), some (.inl l1)] [] S C) := by
  unfold c_N_has
  refine zRq_rw (zb_61_0 hS) ?_
  refine zRq_ite (fun h1 => ?_) (fun h2 => ?_)
  · refine zRq_rw (zb_61_12 hS) ?_
    refine zRq_rw (zb_61_13 hS) ?_
    exact zRq_rt fun r h => h
  · refine zRq_rw (zb_61_8 hS) ?_
    refine zRq_rw (zb_61_13 hS) ?_
    exact zRq_rt fun r h => h
-- 0: java/lang/Integer.bitCount(I)I
noncomputable def c_Integer_bitCount (l0 : Int) (C : ZC) : Option (Int × ZC) :=
  some ((zand (zadd (zadd (zand (zadd (zadd (zand (zsub l0 (zand (zushr l0 1) 1431655765)) 858993459) (zand (zushr (zsub l0 (zand (zushr l0 1) 1431655765)) 2) 858993459)) (zushr (zadd (zand (zsub l0 (zand (zushr l0 1) 1431655765)) 858993459) (zand (zushr (zsub l0 (zand (zushr l0 1) 1431655765)) 2) 858993459)) 4)) 252645135) (zushr (zand (zadd (zadd (zand (zsub l0 (zand (zushr l0 1) 1431655765)) 858993459) (zand (zushr (zsub l0 (zand (zushr l0 1) 1431655765)) 2) 858993459)) (zushr (zadd (zand (zsub l0 (zand (zushr l0 1) 1431655765)) 858993459) (zand (zushr (zsub l0 (zand (zushr l0 1) 1431655765)) 2) 858993459)) 4)) 252645135) 8)) (zushr (zadd (zand (zadd (zadd (zand (zsub l0 (zand (zushr l0 1) 1431655765)) 858993459) (zand (zushr (zsub l0 (zand (zushr l0 1) 1431655765)) 2) 858993459)) (zushr (zadd (zand (zsub l0 (zand (zushr l0 1) 1431655765)) 858993459) (zand (zushr (zsub l0 (zand (zushr l0 1) 1431655765)) 2) 858993459)) 4)) 252645135) (zushr (zand (zadd (zadd (zand (zsub l0 (zand (zushr l0 1) 1431655765)) 858993459) (zand (zushr (zsub l0 (zand (zushr l0 1) 1431655765)) 2) 858993459)) (zushr (zadd (zand (zsub l0 (zand (zushr l0 1) 1431655765)) 858993459) (zand (zushr (zsub l0 (zand (zushr l0 1) 1431655765)) 2) 858993459)) 4)) 252645135) 8)) 16)) 63), C)
set_option maxRecDepth 100000 in
theorem r_0 {d : Nat} {S : ZS} (hS : zShC S) {l0 : Int} {C : ZC} : zRq (zKi S) (c_Integer_bitCount l0 C) (zR (d + 1) 0 0 [some (.inl l0)] [] S C) := by
  unfold c_Integer_bitCount
  refine zRq_rw (zb_0_0 hS) ?_
  exact zRq_rt fun r h => h
-- 1: java/util/Arrays.fill([II)V
noncomputable def c_Arrays_fill_L5 (l0 : Nat) (znl0 : Int) (l1 : Int) (l3 : Int) (x1 : Int) (C3 : ZC) : Option ((Int ⊕ Unit) × ZC) :=
  if l3 ≤ x1 then (some (.inr (), C3)) else (zg (0 ≤ x1 ∧ x1 < znl0) (some (.inl (zadd x1 1), zup2 C3 l0 x1.toNat l1)))
noncomputable def c_Arrays_fill (l0 : Nat) (znl0 : Int) (l1 : Int) (C : ZC) : Option (Int × ZC) :=
  zbd (zloop (c_Arrays_fill_L5 l0 znl0 l1 znl0) 0 C) fun y4 C9 => some (0, C9)
set_option maxRecDepth 100000 in
theorem r_1 {d : Nat} {S : ZS} (hS : zShC S) {l0 : Nat} {znl0 : Int} {l1 : Int} (hl0 : zisI S l0 znl0) (hlen : znl0 < 1000000) {C : ZC} : zRq (zKv S) (c_Arrays_fill l0 znl0 l1 C) (zR (d + 1) 1 0 [some (.inr (.inr (some l0))), some (.inl l1), none, none] [] S C) := by
  unfold c_Arrays_fill
  refine zRq_rw (zb_1_0 hS hl0 hlen) ?_
  refine zRq_bdf (f := (fun (xq : Unit) (jq : Int) (Cq : ZC) => zR (d + 1) 1 20 [some (.inr (.inr (some l0))), some (.inl l1), some (.inl jq), some (.inl znl0)] [] S Cq)) (zRq_loop (f := (fun (xq : Int) (jq : Unit) (Cq : ZC) => zR (d + 1) 1 5 [some (.inr (.inr (some l0))), some (.inl l1), some (.inl xq), some (.inl znl0)] [] S Cq)) (fun x1 j2 C3 => ?_) _ () _) (fun y4 j8 C9 => ?_)
  · unfold c_Arrays_fill_L5
    refine zRq_rw (zb_1_5 hS hl0 hlen) ?_
    refine zRq_ite (fun h5 => ?_) (fun h6 => ?_)
    · exact zRq_lf fun r h => h x1
    · refine zRq_rw (zb_1_10 hS hl0 hlen) ?_
      refine zRq_g (fun h7 => ?_)
      exact zRq_lf fun r h => h ()
  · refine zRq_rw (zb_1_20 hS hl0 hlen) ?_
    exact zRq_rt fun r h => h
-- 4: NewOrBack$Wood.goesOn([II)Z
noncomputable def c_Wood_goesOn (l0 : Nat) (l1 : Int) (C : ZC) : Option (Int × ZC) :=
  zg (0 ≤ l1 ∧ l1 < 60) (if ¬ ((zrem l1 4)) = 3 then (if ¬ ((zrem l1 4)) = 2 then (zbd (α := Int) (if ((C l0 l1.toNat)) < 48 then (some (0, C)) else (if 55 < ((C l0 l1.toNat)) then (some (0, C)) else (some (1, C)))) fun y6 C8 => if y6 = 0 then (some (0, C8)) else (if ¬ ((zrem l1 4)) = 0 then (zg (0 ≤ (zsub l1 1) ∧ (zsub l1 1) < 60) (if ((C l0 l1.toNat)) = ((C8 l0 (zsub l1 1).toNat)) then (some (0, C8)) else (some (1, C8)))) else (if 48 ≤ l1 then (some (0, C8)) else (some (1, C8))))) else (if ((C l0 l1.toNat)) < 49 then (some (0, C)) else (if 57 < ((C l0 l1.toNat)) then (some (0, C)) else (some (1, C))))) else (if ¬ ((C l0 l1.toNat)) = 59 then (some (0, C)) else (some (1, C))))
set_option maxRecDepth 100000 in
theorem r_4 {d : Nat} {S : ZS} (hS : zShC S) {l0 : Nat} {l1 : Int} (hl0 : zisI S l0 60) {C : ZC} : zRq (zKi S) (c_Wood_goesOn l0 l1 C) (zR (d + 1) 4 0 [some (.inr (.inr (some l0))), some (.inl l1), none, none, none] [] S C) := by
  unfold c_Wood_goesOn
  refine zRq_rw (zb_4_0 hS hl0) ?_
  refine zRq_g (fun h1 => ?_)
  refine zRq_ite (fun h2 => ?_) (fun h3 => ?_)
  · refine zRq_rw (zb_4_25 hS hl0) ?_
    refine zRq_ite (fun h4 => ?_) (fun h5 => ?_)
    · refine zRq_bdf (f := (fun (xq : Int) (jq : Option ZV) (Cq : ZC) => zR (d + 1) 4 65 [some (.inr (.inr (some l0))), some (.inl l1), some (.inl (C l0 l1.toNat)), some (.inl (zrem l1 4)), jq] [.inl xq] S Cq)) ?_ (fun y6 j7 C8 => ?_)
      · refine zRq_rw (zb_4_48 hS hl0) ?_
        refine zRq_ite (fun h9 => ?_) (fun h10 => ?_)
        · refine zRq_rw (zb_4_64 hS hl0) ?_
          exact zRq_lf fun r h => h none
        · refine zRq_rw (zb_4_54 hS hl0) ?_
          refine zRq_ite (fun h11 => ?_) (fun h12 => ?_)
          · refine zRq_rw (zb_4_64 hS hl0) ?_
            exact zRq_lf fun r h => h none
          · refine zRq_rw (zb_4_60 hS hl0) ?_
            exact zRq_lf fun r h => h none
      · refine zRq_rw (zb_4_65 hS hl0) ?_
        refine zRq_ite (fun h13 => ?_) (fun h14 => ?_)
        · refine zRq_rw (zb_4_98 hS hl0) ?_
          refine zRq_rw (zb_4_99 hS hl0) ?_
          exact zRq_rt fun r h => h
        · refine zRq_rw (zb_4_72 hS hl0) ?_
          refine zRq_ite (fun h15 => ?_) (fun h16 => ?_)
          · refine zRq_rw (zb_4_85 hS hl0) ?_
            refine zRq_g (fun h17 => ?_)
            refine zRq_ite (fun h18 => ?_) (fun h19 => ?_)
            · refine zRq_rw (zb_4_98 hS hl0) ?_
              refine zRq_rw (zb_4_99 hS hl0) ?_
              exact zRq_rt fun r h => h
            · refine zRq_rw (zb_4_94 hS hl0) ?_
              refine zRq_rw (zb_4_99 hS hl0) ?_
              exact zRq_rt fun r h => h
          · refine zRq_rw (zb_4_76 hS hl0) ?_
            refine zRq_ite (fun h20 => ?_) (fun h21 => ?_)
            · refine zRq_rw (zb_4_98 hS hl0) ?_
              refine zRq_rw (zb_4_99 hS hl0) ?_
              exact zRq_rt fun r h => h
            · refine zRq_rw (zb_4_82 hS hl0) ?_
              refine zRq_rw (zb_4_94 hS hl0) ?_
              refine zRq_rw (zb_4_99 hS hl0) ?_
              exact zRq_rt fun r h => h
    · refine zRq_rw (zb_4_30 hS hl0) ?_
      refine zRq_ite (fun h22 => ?_) (fun h23 => ?_)
      · refine zRq_rw (zb_4_46 hS hl0) ?_
        refine zRq_rw (zb_4_47 hS hl0) ?_
        exact zRq_rt fun r h => h
      · refine zRq_rw (zb_4_36 hS hl0) ?_
        refine zRq_ite (fun h24 => ?_) (fun h25 => ?_)
        · refine zRq_rw (zb_4_46 hS hl0) ?_
          refine zRq_rw (zb_4_47 hS hl0) ?_
          exact zRq_rt fun r h => h
        · refine zRq_rw (zb_4_42 hS hl0) ?_
          refine zRq_rw (zb_4_47 hS hl0) ?_
          exact zRq_rt fun r h => h
  · refine zRq_rw (zb_4_13 hS hl0) ?_
    refine zRq_ite (fun h26 => ?_) (fun h27 => ?_)
    · refine zRq_rw (zb_4_23 hS hl0) ?_
      refine zRq_rw (zb_4_24 hS hl0) ?_
      exact zRq_rt fun r h => h
    · refine zRq_rw (zb_4_19 hS hl0) ?_
      refine zRq_rw (zb_4_24 hS hl0) ?_
      exact zRq_rt fun r h => h
-- 3: NewOrBack$Wood.take([II)V
noncomputable def c_Wood_take_L7 (l1 : Nat) (l2 : Int) (x1 : Int) (C3 : ZC) : Option ((Int ⊕ Unit) × ZC) :=
  if l2 ≤ x1 then (some (.inr (), C3)) else (if ¬ ((C3 9 4)) = ((-1)) then (some (.inr (), C3)) else (zbd (c_Wood_goesOn l1 x1 C3) fun v9 C10 => if ¬ v9 = 0 then (some (.inl (zadd x1 1), C10)) else (some (.inl (zadd x1 1), zup2 C10 9 4 x1))))
noncomputable def c_Wood_take_L91 (l1 : Nat) (x29 : Int) (C31 : ZC) : Option ((Int ⊕ Unit) × ZC) :=
  if ((C31 9 3)) ≤ x29 then (some (.inr (), C31)) else (zg (0 ≤ (zmul 4 x29) ∧ (zmul 4 x29) < 60) (zg (0 ≤ x29 ∧ x29 < 12) (zg (0 ≤ (zadd (zmul 4 x29) 1) ∧ (zadd (zmul 4 x29) 1) < 60) (zg (0 ≤ x29 ∧ x29 < 12) (zg (0 ≤ (zadd (zmul 4 x29) 2) ∧ (zadd (zmul 4 x29) 2) < 60) (zg (0 ≤ x29 ∧ x29 < 12) (some (.inl (zadd x29 1), zup2 (zup2 (zup2 C31 10 x29.toNat (zsub (C31 l1 (zmul 4 x29).toNat) 48)) 11 x29.toNat (zsub ((zup2 C31 10 x29.toNat (zsub (C31 l1 (zmul 4 x29).toNat) 48)) l1 (zadd (zmul 4 x29) 1).toNat) 48)) 12 x29.toNat (zsub ((zup2 (zup2 C31 10 x29.toNat (zsub (C31 l1 (zmul 4 x29).toNat) 48)) 11 x29.toNat (zsub ((zup2 C31 10 x29.toNat (zsub (C31 l1 (zmul 4 x29).toNat) 48)) l1 (zadd (zmul 4 x29) 1).toNat) 48)) l1 (zadd (zmul 4 x29) 2).toNat) 48)))))))))
noncomputable def c_Wood_take (l1 : Nat) (l2 : Int) (C : ZC) : Option (Int × ZC) :=
  zbd (zloop (c_Wood_take_L7 l1 l2) 0 (zup2 C 9 4 (-1))) fun y4 C14 => zbd (α := Unit) (if ¬ ((C14 9 4)) = ((-1)) then (some ((), C14)) else (if l2 ≤ 0 then (some ((), C14)) else (if ((zrem l2 4)) = 3 then (some ((), C14)) else (some ((), zup2 C14 9 4 l2))))) fun y15 C17 => zbd (α := Int) (if ¬ ((C17 9 4)) = ((-1)) then (some (0, C17)) else (some ((if 12 < (zdiv (zadd l2 1) 4) then 12 else (zdiv (zadd l2 1) 4)), C17))) fun y24 C26 => zbd (zloop (c_Wood_take_L91 l1) 0 (zup2 C26 9 3 y24)) fun y32 C42 => some (0, C42)
set_option maxRecDepth 100000 in
theorem r_3 {d : Nat} {S : ZS} (hS : zShC S) {l1 : Nat} {l2 : Int} (hl1 : zisI S l1 60) {C : ZC} : zRq (zKv S) (c_Wood_take l1 l2 C) (zR (d + 2) 3 0 [some (.inr (.inr (some 9))), some (.inr (.inr (some l1))), some (.inl l2), none] [] S C) := by
  unfold c_Wood_take
  refine zRq_rw (zb_3_0 hS hl1) ?_
  refine zRq_bdf (f := (fun (xq : Unit) (jq : Int) (Cq : ZC) => zR (d + 2) 3 39 [some (.inr (.inr (some 9))), some (.inr (.inr (some l1))), some (.inl l2), some (.inl jq)] [] S Cq)) (zRq_loop (f := (fun (xq : Int) (jq : Unit) (Cq : ZC) => zR (d + 2) 3 7 [some (.inr (.inr (some 9))), some (.inr (.inr (some l1))), some (.inl l2), some (.inl xq)] [] S Cq)) (fun x1 j2 C3 => ?_) _ () _) (fun y4 j13 C14 => ?_)
  · unfold c_Wood_take_L7
    refine zRq_rw (zb_3_7 hS hl1) ?_
    refine zRq_ite (fun h5 => ?_) (fun h6 => ?_)
    · exact zRq_lf fun r h => h x1
    · refine zRq_rw (zb_3_12 hS hl1) ?_
      refine zRq_ite (fun h7 => ?_) (fun h8 => ?_)
      · exact zRq_lf fun r h => h x1
      · refine zRq_rw (zb_3_20 hS hl1) ?_
        refine zRq_ci (r_4 hS hl1) (fun v9 C10 => ?_)
        refine zRq_rw (zb_3_25 hS hl1) ?_
        refine zRq_ite (fun h11 => ?_) (fun h12 => ?_)
        · refine zRq_rw (zb_3_33 hS hl1) ?_
          exact zRq_lf fun r h => h ()
        · refine zRq_rw (zb_3_28 hS hl1) ?_
          refine zRq_rw (zb_3_33 hS hl1) ?_
          exact zRq_lf fun r h => h ()
  · refine zRq_bdf (f := (fun (xq : Unit) (jq : Unit) (Cq : ZC) => zR (d + 2) 3 63 [some (.inr (.inr (some 9))), some (.inr (.inr (some l1))), some (.inl l2), some (.inl j13)] [] S Cq)) ?_ (fun y15 j16 C17 => ?_)
    · refine zRq_rw (zb_3_39 hS hl1) ?_
      refine zRq_ite (fun h18 => ?_) (fun h19 => ?_)
      · exact zRq_lf fun r h => h ()
      · refine zRq_rw (zb_3_47 hS hl1) ?_
        refine zRq_ite (fun h20 => ?_) (fun h21 => ?_)
        · exact zRq_lf fun r h => h ()
        · refine zRq_rw (zb_3_51 hS hl1) ?_
          refine zRq_ite (fun h22 => ?_) (fun h23 => ?_)
          · exact zRq_lf fun r h => h ()
          · refine zRq_rw (zb_3_58 hS hl1) ?_
            exact zRq_lf fun r h => h ()
    · refine zRq_bdf (f := (fun (xq : Int) (jq : Unit) (Cq : ZC) => zR (d + 2) 3 86 [some (.inr (.inr (some 9))), some (.inr (.inr (some l1))), some (.inl l2), some (.inl j13)] [.inl xq, .inr (.inr (some 9))] S Cq)) ?_ (fun y24 j25 C26 => ?_)
      · refine zRq_rw (zb_3_63 hS hl1) ?_
        refine zRq_ite (fun h27 => ?_) (fun h28 => ?_)
        · refine zRq_rw (zb_3_85 hS hl1) ?_
          exact zRq_lf fun r h => h ()
        · refine zRq_rw (zb_3_72 hS hl1) ?_
          exact zRq_lf fun r h => h ()
      · refine zRq_rw (zb_3_86 hS hl1) ?_
        refine zRq_bdf (f := (fun (xq : Unit) (jq : Int) (Cq : ZC) => zR (d + 2) 3 151 [some (.inr (.inr (some 9))), some (.inr (.inr (some l1))), some (.inl l2), some (.inl jq)] [] S Cq)) (zRq_loop (f := (fun (xq : Int) (jq : Unit) (Cq : ZC) => zR (d + 2) 3 91 [some (.inr (.inr (some 9))), some (.inr (.inr (some l1))), some (.inl l2), some (.inl xq)] [] S Cq)) (fun x29 j30 C31 => ?_) _ () _) (fun y32 j41 C42 => ?_)
        · unfold c_Wood_take_L91
          refine zRq_rw (zb_3_91 hS hl1) ?_
          refine zRq_ite (fun h33 => ?_) (fun h34 => ?_)
          · exact zRq_lf fun r h => h x29
          · refine zRq_rw (zb_3_99 hS hl1) ?_
            refine zRq_g (fun h35 => ?_)
            refine zRq_g (fun h36 => ?_)
            refine zRq_g (fun h37 => ?_)
            refine zRq_g (fun h38 => ?_)
            refine zRq_g (fun h39 => ?_)
            refine zRq_g (fun h40 => ?_)
            exact zRq_lf fun r h => h ()
        · refine zRq_rw (zb_3_151 hS hl1) ?_
          exact zRq_rt fun r h => h
-- 5: NewOrBack$Wood.other(II)I
noncomputable def c_Wood_other (l1 : Int) (l2 : Int) (C : ZC) : Option (Int × ZC) :=
  if l1 < 0 then (some ((-1), C)) else (if l1 < ((C 9 3)) then (zg (0 ≤ l1 ∧ l1 < 12) (if ¬ ((C 10 l1.toNat)) = l2 then (zg (0 ≤ l1 ∧ l1 < 12) (if ¬ ((C 11 l1.toNat)) = l2 then (some ((-1), C)) else (zg (0 ≤ l1 ∧ l1 < 12) (some ((C 10 l1.toNat), C))))) else (zg (0 ≤ l1 ∧ l1 < 12) (some ((C 11 l1.toNat), C))))) else (some ((-1), C)))
set_option maxRecDepth 100000 in
theorem r_5 {d : Nat} {S : ZS} (hS : zShC S) {l1 : Int} {l2 : Int} {C : ZC} : zRq (zKi S) (c_Wood_other l1 l2 C) (zR (d + 1) 5 0 [some (.inr (.inr (some 9))), some (.inl l1), some (.inl l2)] [] S C) := by
  unfold c_Wood_other
  refine zRq_rw (zb_5_0 hS) ?_
  refine zRq_ite (fun h1 => ?_) (fun h2 => ?_)
  · refine zRq_rw (zb_5_12 hS) ?_
    exact zRq_rt fun r h => h
  · refine zRq_rw (zb_5_4 hS) ?_
    refine zRq_ite (fun h3 => ?_) (fun h4 => ?_)
    · refine zRq_rw (zb_5_14 hS) ?_
      refine zRq_g (fun h5 => ?_)
      refine zRq_ite (fun h6 => ?_) (fun h7 => ?_)
      · refine zRq_rw (zb_5_31 hS) ?_
        refine zRq_g (fun h8 => ?_)
        refine zRq_ite (fun h9 => ?_) (fun h10 => ?_)
        · refine zRq_rw (zb_5_50 hS) ?_
          refine zRq_rw (zb_5_51 hS) ?_
          exact zRq_rt fun r h => h
        · refine zRq_rw (zb_5_41 hS) ?_
          refine zRq_g (fun h11 => ?_)
          refine zRq_rw (zb_5_51 hS) ?_
          exact zRq_rt fun r h => h
      · refine zRq_rw (zb_5_24 hS) ?_
        refine zRq_g (fun h12 => ?_)
        exact zRq_rt fun r h => h
    · refine zRq_rw (zb_5_12 hS) ?_
      exact zRq_rt fun r h => h
-- 6: NewOrBack$Wood.endsOf(I)I
noncomputable def c_Wood_endsOf (l1 : Int) (C : ZC) : Option (Int × ZC) :=
  zg (0 ≤ l1 ∧ l1 < 12) (zg (0 ≤ l1 ∧ l1 < 12) (some ((zor (zshl 1 (C 10 l1.toNat)) (zshl 1 (C 11 l1.toNat))), C)))
set_option maxRecDepth 100000 in
theorem r_6 {d : Nat} {S : ZS} (hS : zShC S) {l1 : Int} {C : ZC} : zRq (zKi S) (c_Wood_endsOf l1 C) (zR (d + 1) 6 0 [some (.inr (.inr (some 9))), some (.inl l1)] [] S C) := by
  unfold c_Wood_endsOf
  refine zRq_rw (zb_6_0 hS) ?_
  refine zRq_g (fun h1 => ?_)
  refine zRq_g (fun h2 => ?_)
  exact zRq_rt fun r h => h
-- 7: NewOrBack$Wood.leadingOut(I)I
noncomputable def c_Wood_leadingOut_L4 (l1 : Int) (x1 : (Int × Int)) (C3 : ZC) : Option (((Int × Int) ⊕ Int) × ZC) :=
  if ((C3 9 3)) ≤ ((x1.2)) then (some (.inr (x1.1), C3)) else (zg (0 ≤ (x1.2) ∧ (x1.2) < 12) (zbd (c_N_has l1 (C3 10 (x1.2).toNat) C3) fun v8 C9 => zg (0 ≤ (x1.2) ∧ (x1.2) < 12) (zbd (c_N_has l1 (C9 11 (x1.2).toNat) C9) fun v11 C12 => if v8 = v11 then (some (.inl ((x1.1), (zadd (x1.2) 1)), C12)) else (some (.inl ((zor (x1.1) (zshl 1 (x1.2))), (zadd (x1.2) 1)), C12)))))
noncomputable def c_Wood_leadingOut (l1 : Int) (C : ZC) : Option (Int × ZC) :=
  zbd (zloop (c_Wood_leadingOut_L4 l1) (0, 0) C) fun y4 C16 => some (y4, C16)
set_option maxRecDepth 100000 in
theorem r_7 {d : Nat} {S : ZS} (hS : zShC S) {l1 : Int} {C : ZC} : zRq (zKi S) (c_Wood_leadingOut l1 C) (zR (d + 2) 7 0 [some (.inr (.inr (some 9))), some (.inl l1), none, none] [] S C) := by
  unfold c_Wood_leadingOut
  refine zRq_rw (zb_7_0 hS) ?_
  refine zRq_bdf (f := (fun (xq : Int) (jq : Int) (Cq : ZC) => zR (d + 2) 7 47 [some (.inr (.inr (some 9))), some (.inl l1), some (.inl xq), some (.inl jq)] [] S Cq)) (zRq_loop (f := (fun (xq : (Int × Int)) (jq : Unit) (Cq : ZC) => zR (d + 2) 7 4 [some (.inr (.inr (some 9))), some (.inl l1), some (.inl (xq.1)), some (.inl (xq.2))] [] S Cq)) (fun x1 j2 C3 => ?_) _ () _) (fun y4 j15 C16 => ?_)
  · unfold c_Wood_leadingOut_L4
    refine zRq_rw (zb_7_4 hS) ?_
    refine zRq_ite (fun h5 => ?_) (fun h6 => ?_)
    · exact zRq_lf fun r h => h (x1.2)
    · refine zRq_rw (zb_7_12 hS) ?_
      refine zRq_g (fun h7 => ?_)
      refine zRq_ci (r_61 hS) (fun v8 C9 => ?_)
      refine zRq_rw (zb_7_22 hS) ?_
      refine zRq_g (fun h10 => ?_)
      refine zRq_ci (r_61 hS) (fun v11 C12 => ?_)
      refine zRq_rw (zb_7_32 hS) ?_
      refine zRq_ite (fun h13 => ?_) (fun h14 => ?_)
      · refine zRq_rw (zb_7_41 hS) ?_
        exact zRq_lf fun r h => h ()
      · refine zRq_rw (zb_7_35 hS) ?_
        refine zRq_rw (zb_7_41 hS) ?_
        exact zRq_lf fun r h => h ()
  · refine zRq_rw (zb_7_47 hS) ?_
    exact zRq_rt fun r h => h
-- 8: NewOrBack$Wood.allMinutes()I
noncomputable def c_Wood_allMinutes_L4  (x1 : (Int × Int)) (C3 : ZC) : Option (((Int × Int) ⊕ Int) × ZC) :=
  if ((C3 9 3)) ≤ ((x1.2)) then (some (.inr (x1.1), C3)) else (zg (0 ≤ (x1.2) ∧ (x1.2) < 12) (some (.inl ((zadd (x1.1) (C3 12 (x1.2).toNat)), (zadd (x1.2) 1)), C3)))
noncomputable def c_Wood_allMinutes  (C : ZC) : Option (Int × ZC) :=
  zbd (zloop (c_Wood_allMinutes_L4) (0, 0) C) fun y4 C9 => some (y4, C9)
set_option maxRecDepth 100000 in
theorem r_8 {d : Nat} {S : ZS} (hS : zShC S) {C : ZC} : zRq (zKi S) (c_Wood_allMinutes C) (zR (d + 1) 8 0 [some (.inr (.inr (some 9))), none, none] [] S C) := by
  unfold c_Wood_allMinutes
  refine zRq_rw (zb_8_0 hS) ?_
  refine zRq_bdf (f := (fun (xq : Int) (jq : Int) (Cq : ZC) => zR (d + 1) 8 27 [some (.inr (.inr (some 9))), some (.inl xq), some (.inl jq)] [] S Cq)) (zRq_loop (f := (fun (xq : (Int × Int)) (jq : Unit) (Cq : ZC) => zR (d + 1) 8 4 [some (.inr (.inr (some 9))), some (.inl (xq.1)), some (.inl (xq.2))] [] S Cq)) (fun x1 j2 C3 => ?_) _ () _) (fun y4 j8 C9 => ?_)
  · unfold c_Wood_allMinutes_L4
    refine zRq_rw (zb_8_4 hS) ?_
    refine zRq_ite (fun h5 => ?_) (fun h6 => ?_)
    · exact zRq_lf fun r h => h (x1.2)
    · refine zRq_rw (zb_8_12 hS) ?_
      refine zRq_g (fun h7 => ?_)
      exact zRq_lf fun r h => h ()
  · refine zRq_rw (zb_8_27 hS) ?_
    exact zRq_rt fun r h => h

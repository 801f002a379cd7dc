/-! Layer 2: the methods as programs over the ints (written by wip/whole/gend.py) -/
-- 35: NewOrBack$Sights.add(II)Z
noncomputable def c_Sights_add (l1 : Int) (l2 : Int) (C : ZC) : Option (Int × ZC) :=
  if ((C 27 4)) < 4 then (zg (0 ≤ (C 27 4) ∧ (C 27 4) < 4) (zg (0 ≤ ((zup2 C 28 (C 27 4).toNat l1) 27 4) ∧ ((zup2 C 28 (C 27 4).toNat l1) 27 4) < 4) (some (1, zup2 (zup2 (zup2 C 28 (C 27 4).toNat l1) 29 ((zup2 C 28 (C 27 4).toNat l1) 27 4).toNat l2) 27 4 (zadd ((zup2 (zup2 C 28 (C 27 4).toNat l1) 29 ((zup2 C 28 (C 27 4).toNat l1) 27 4).toNat l2) 27 4) 1))))) else (some (0, C))
set_option maxRecDepth 100000 in
theorem r_35 {d : Nat} {S : ZS} (hS : zShC S) {l1 : Int} {l2 : Int} {C : ZC} : zRq (zKi S) (c_Sights_add l1 l2 C) (zR (d + 1) 35 0 [some (.inr (.inr (some 27))), some (.inl l1), some (.inl l2)] [] S C) := by
  unfold c_Sights_add
  refine zRq_rw (zb_35_0 hS) ?_
  refine zRq_ite (fun h1 => ?_) (fun h2 => ?_)
  · refine zRq_rw (zb_35_10 hS) ?_
    refine zRq_g (fun h3 => ?_)
    refine zRq_g (fun h4 => ?_)
    exact zRq_rt fun r h => h
  · refine zRq_rw (zb_35_8 hS) ?_
    exact zRq_rt fun r h => h
-- 38: NewOrBack$Sights.areLeft(I)Z
noncomputable def c_Sights_areLeft_L12 (l1 : Int) (x1 : (Int × Int)) (C3 : ZC) : Option (((Int × Int) ⊕ Int) × ZC) :=
  if ((C3 30 6)) ≤ ((x1.2)) then (some (.inr (x1.1), C3)) else (zg (0 ≤ (x1.2) ∧ (x1.2) < 12) (some (.inl ((zor (x1.1) (zshl 1 (C3 31 (x1.2).toNat))), (zadd (x1.2) 1)), C3)))
noncomputable def c_Sights_areLeft_L45 (l2 : Int) (x10 : Int) (C12 : ZC) : Option ((Int ⊕ (Unit ⊕ Int)) × ZC) :=
  if ((C12 27 4)) ≤ x10 then (some (.inr (.inl ()), C12)) else (zg (0 ≤ x10 ∧ x10 < 4) (zbd (c_N_has l2 (C12 28 x10.toNat) C12) fun v17 C18 => if ¬ v17 = 0 then (some (.inl (zadd x10 1), C18)) else (some (.inr (.inr 0), C18))))
noncomputable def c_Sights_areLeft (l1 : Int) (C : ZC) : Option (Int × ZC) :=
  zbd (zloop (c_Sights_areLeft_L12 l1) ((zxor (C 30 7) (-1)), 0) C) fun y4 C9 => zbs (zloop (c_Sights_areLeft_L45 y4) l1 C9) fun y13 C22 => some (1, C22)
set_option maxRecDepth 100000 in
theorem r_38 {d : Nat} {S : ZS} (hS : zShC S) {l1 : Int} {C : ZC} : zRq (zKi S) (c_Sights_areLeft l1 C) (zR (d + 2) 38 0 [some (.inr (.inr (some 27))), some (.inl l1), none, none] [] S C) := by
  unfold c_Sights_areLeft
  refine zRq_rw (zb_38_0 hS) ?_
  refine zRq_bdf (f := (fun (xq : Int) (jq : Int) (Cq : ZC) => zR (d + 2) 38 43 [some (.inr (.inr (some 27))), some (.inl l1), some (.inl xq), some (.inl jq)] [] S Cq)) (zRq_loop (f := (fun (xq : (Int × Int)) (jq : Unit) (Cq : ZC) => zR (d + 2) 38 12 [some (.inr (.inr (some 27))), some (.inl l1), some (.inl (xq.1)), some (.inl (xq.2))] [] S Cq)) (fun x1 j2 C3 => ?_) _ () _) (fun y4 j8 C9 => ?_)
  · unfold c_Sights_areLeft_L12
    refine zRq_rw (zb_38_12 hS) ?_
    refine zRq_ite (fun h5 => ?_) (fun h6 => ?_)
    · exact zRq_lf fun r h => h (x1.2)
    · refine zRq_rw (zb_38_23 hS) ?_
      refine zRq_g (fun h7 => ?_)
      exact zRq_lf fun r h => h ()
  · refine zRq_rw (zb_38_43 hS) ?_
    refine zRq_bsf (f := (fun (xq : Unit) (jq : Int) (Cq : ZC) => zR (d + 2) 38 74 [some (.inr (.inr (some 27))), some (.inl l1), some (.inl y4), some (.inl jq)] [] S Cq)) (zRq_loop (f := (fun (xq : Int) (jq : Unit) (Cq : ZC) => zR (d + 2) 38 45 [some (.inr (.inr (some 27))), some (.inl l1), some (.inl y4), some (.inl xq)] [] S Cq)) (fun x10 j11 C12 => ?_) _ () _) (fun y13 j21 C22 => ?_)
    · unfold c_Sights_areLeft_L45
      refine zRq_rw (zb_38_45 hS) ?_
      refine zRq_ite (fun h14 => ?_) (fun h15 => ?_)
      · exact zRq_lf fun r h => h x10
      · refine zRq_rw (zb_38_53 hS) ?_
        refine zRq_g (fun h16 => ?_)
        refine zRq_ci (r_61 hS) (fun v17 C18 => ?_)
        refine zRq_rw (zb_38_63 hS) ?_
        refine zRq_ite (fun h19 => ?_) (fun h20 => ?_)
        · refine zRq_rw (zb_38_68 hS) ?_
          exact zRq_lf fun r h => h ()
        · refine zRq_rw (zb_38_66 hS) ?_
          exact zRq_rt fun r h => h
    · refine zRq_rw (zb_38_74 hS) ?_
      exact zRq_rt fun r h => h
-- 39: NewOrBack$Sights.goesOnBack(III)Z
noncomputable def c_Sights_goesOnBack (rec : Int → Int → Int → ZC → Option (Int × ZC)) (l1 : Int) (l2 : Int) (l3 : Int) (C : ZC) : Option (Int × ZC) :=
  if 0 < ((C 30 6)) then (zbd (α := (Int × Int × Int)) (zg (0 ≤ (zsub (C 30 6) 1) ∧ (zsub (C 30 6) 1) < 12) (zg (0 ≤ (zsub (C 30 6) 1) ∧ (zsub (C 30 6) 1) < 12) (zg (0 ≤ l1 ∧ l1 < 4) (if ¬ ((C 28 l1.toNat)) = ((C 31 (zsub (C 30 6) 1).toNat)) then (some (((C 31 (zsub (C 30 6) 1).toNat), (C 32 (zsub (C 30 6) 1).toNat), 0), C)) else (zg (0 ≤ l1 ∧ l1 < 4) (if ¬ ((C 29 l1.toNat)) = ((C 32 (zsub (C 30 6) 1).toNat)) then (some (((C 31 (zsub (C 30 6) 1).toNat), (C 32 (zsub (C 30 6) 1).toNat), 0), C)) else (some (((C 31 (zsub (C 30 6) 1).toNat), (C 32 (zsub (C 30 6) 1).toNat), 1), C)))))))) fun y3 C5 => zbs (α := Int) (if ¬ ((y3.2.2)) = 0 then (some (.inl (y3.2.2), C5)) else (if l2 = ((zshl 1 (C5 30 5))) then (some (.inl (y3.2.2), C5)) else (some (.inr 0, C5)))) fun y14 C16 => zbd (c_Walk_goBack 30 C16) fun v21 C22 => zbd (α := Int) (if y14 = 0 then (some (l1, C22)) else (some ((zadd l1 1), C22))) fun y23 C25 => zbd (rec y23 (zshl 1 (y3.2.1)) (zsub l3 1) C25) fun v28 C29 => zbd (c_Walk_undoBack 30 (y3.1) C29) fun v30 C31 => zg (v28 = 0 ∨ v28 = 1) (some (v28, C31))) else (some (0, C))
set_option maxRecDepth 100000 in
theorem r_39 {d : Nat} {S : ZS} (hS : zShC S) {rec : Int → Int → Int → ZC → Option (Int × ZC)} (hrec : ∀ a b c C, zRq (zKi S) (rec a b c C) (zR (d + 3) 37 0 [some (.inr (.inr (some 27))), some (.inl a), some (.inl b), some (.inl c)] [] S C)) {l1 : Int} {l2 : Int} {l3 : Int} {C : ZC} : zRq (zKi S) (c_Sights_goesOnBack rec l1 l2 l3 C) (zR (d + 4) 39 0 [some (.inr (.inr (some 27))), some (.inl l1), some (.inl l2), some (.inl l3), none, none, none, none] [] S C) := by
  unfold c_Sights_goesOnBack
  refine zRq_rw (zb_39_0 hS) ?_
  refine zRq_ite (fun h1 => ?_) (fun h2 => ?_)
  · refine zRq_bdf (f := (fun (xq : (Int × Int × Int)) (jq : (Option ZV × Option ZV)) (Cq : ZC) => zR (d + 4) 39 77 [some (.inr (.inr (some 27))), some (.inl l1), some (.inl l2), some (.inl l3), some (.inl (xq.1)), some (.inl (xq.2.1)), (jq.1), (jq.2)] [.inl (xq.2.2)] S Cq)) ?_ (fun y3 j4 C5 => ?_)
    · refine zRq_rw (zb_39_12 hS) ?_
      refine zRq_g (fun h6 => ?_)
      refine zRq_g (fun h7 => ?_)
      refine zRq_g (fun h8 => ?_)
      refine zRq_ite (fun h9 => ?_) (fun h10 => ?_)
      · refine zRq_rw (zb_39_76 hS) ?_
        exact zRq_lf fun r h => h (none, none)
      · refine zRq_rw (zb_39_61 hS) ?_
        refine zRq_g (fun h11 => ?_)
        refine zRq_ite (fun h12 => ?_) (fun h13 => ?_)
        · refine zRq_rw (zb_39_76 hS) ?_
          exact zRq_lf fun r h => h (none, none)
        · refine zRq_rw (zb_39_72 hS) ?_
          exact zRq_lf fun r h => h (none, none)
    · refine zRq_bsf (f := (fun (xq : Int) (jq : Option ZV) (Cq : ZC) => zR (d + 4) 39 99 [some (.inr (.inr (some 27))), some (.inl l1), some (.inl l2), some (.inl l3), some (.inl (y3.1)), some (.inl (y3.2.1)), some (.inl xq), jq] [] S Cq)) ?_ (fun y14 j15 C16 => ?_)
      · refine zRq_rw (zb_39_77 hS) ?_
        refine zRq_ite (fun h17 => ?_) (fun h18 => ?_)
        · exact zRq_lf fun r h => h (j4.2)
        · refine zRq_rw (zb_39_84 hS) ?_
          refine zRq_ite (fun h19 => ?_) (fun h20 => ?_)
          · exact zRq_lf fun r h => h (j4.2)
          · refine zRq_rw (zb_39_97 hS) ?_
            exact zRq_rt fun r h => h
      · refine zRq_rw (zb_39_99 hS) ?_
        refine zRq_cv (r_15 hS (by unfold zisW; decide)) (fun v21 C22 => ?_)
        refine zRq_bdf (f := (fun (xq : Int) (jq : Option ZV) (Cq : ZC) => zR (d + 4) 39 119 [some (.inr (.inr (some 27))), some (.inl l1), some (.inl l2), some (.inl l3), some (.inl (y3.1)), some (.inl (y3.2.1)), some (.inl y14), jq] [.inl xq, .inr (.inr (some 27))] S Cq)) ?_ (fun y23 j24 C25 => ?_)
        · refine zRq_rw (zb_39_106 hS) ?_
          refine zRq_ite (fun h26 => ?_) (fun h27 => ?_)
          · refine zRq_rw (zb_39_118 hS) ?_
            exact zRq_lf fun r h => h j15
          · refine zRq_rw (zb_39_112 hS) ?_
            exact zRq_lf fun r h => h j15
        · refine zRq_rw (zb_39_119 hS) ?_
          refine zRq_ci (hrec _ _ _ _) (fun v28 C29 => ?_)
          refine zRq_rw (zb_39_129 hS) ?_
          refine zRq_cv (r_21 hS (by unfold zisW; decide)) (fun v30 C31 => ?_)
          refine zRq_rw (zb_39_140 hS) ?_
          refine zRq_g (fun h => ?_)
          exact zRq_rt fun r h => h
  · refine zRq_rw (zb_39_10 hS) ?_
    exact zRq_rt fun r h => h
-- 40: NewOrBack$Sights.goesOnNew(III)Z
noncomputable def c_Sights_goesOnNew_L3 (rec : Int → Int → Int → ZC → Option (Int × ZC)) (l1 : Int) (l2 : Int) (l3 : Int) (x1 : Int) (C3 : ZC) : Option ((Int ⊕ (Unit ⊕ Int)) × ZC) :=
  if ((C3 9 3)) ≤ x1 then (some (.inr (.inl ()), C3)) else (zbd (c_Wood_other x1 (C3 30 5) C3) fun v7 C8 => if v7 = ((-1)) then (some (.inl (zadd x1 1), C8)) else (zbd (c_N_has (C8 30 7) x1 C8) fun v11 C12 => if ¬ v11 = 0 then (some (.inl (zadd x1 1), C12)) else (zbd (α := Int) (zg (0 ≤ l1 ∧ l1 < 4) (if ¬ ((C12 28 l1.toNat)) = x1 then (some (0, C12)) else (zg (0 ≤ l1 ∧ l1 < 4) (if ¬ ((C12 29 l1.toNat)) = v7 then (some (0, C12)) else (some (1, C12)))))) fun y15 C17 => zbs (α := Int) (if ¬ y15 = 0 then (some (.inl y15, C17)) else (zbd (c_N_has l2 v7 C17) fun v29 C30 => if ¬ v29 = 0 then (some (.inr (.inl (zadd x1 1)), C30)) else (some (.inl y15, C30)))) fun y24 C26 => zbd (c_Walk_goNew 30 x1 C26) fun v33 C34 => zbd (α := Int) (if y24 = 0 then (some ((zor l2 (zshl 1 v7)), C34)) else (some ((zshl 1 v7), C34))) fun y35 C37 => zbd (α := (Int × Int)) (if y24 = 0 then (some ((y35, l1), C37)) else (some ((y35, (zadd l1 1)), C37))) fun y40 C42 => zbd (rec (y40.2) (y40.1) (zsub l3 1) C42) fun v45 C46 => zbd (c_Walk_undoNew 30 C46) fun v47 C48 => if v45 = 0 then (some (.inl (zadd x1 1), C48)) else (some (.inr (.inr 1), C48)))))
noncomputable def c_Sights_goesOnNew (rec : Int → Int → Int → ZC → Option (Int × ZC)) (l1 : Int) (l2 : Int) (l3 : Int) (C : ZC) : Option (Int × ZC) :=
  zbs (zloop (c_Sights_goesOnNew_L3 rec l1 l2 l3) 0 C) fun y4 C52 => some (0, C52)
set_option maxRecDepth 100000 in
theorem r_40 {d : Nat} {S : ZS} (hS : zShC S) {rec : Int → Int → Int → ZC → Option (Int × ZC)} (hrec : ∀ a b c C, zRq (zKi S) (rec a b c C) (zR (d + 3) 37 0 [some (.inr (.inr (some 27))), some (.inl a), some (.inl b), some (.inl c)] [] S C)) {l1 : Int} {l2 : Int} {l3 : Int} {C : ZC} : zRq (zKi S) (c_Sights_goesOnNew rec l1 l2 l3 C) (zR (d + 4) 40 0 [some (.inr (.inr (some 27))), some (.inl l1), some (.inl l2), some (.inl l3), none, none, none, none, none] [] S C) := by
  unfold c_Sights_goesOnNew
  refine zRq_rw (zb_40_0 hS) ?_
  refine zRq_bsf (f := (fun (xq : Unit) (jq : (Int × Option ZV × Option ZV × Option ZV × Option ZV)) (Cq : ZC) => zR (d + 4) 40 169 [some (.inr (.inr (some 27))), some (.inl l1), some (.inl l2), some (.inl l3), some (.inl (jq.1)), (jq.2.1), (jq.2.2.1), (jq.2.2.2.1), (jq.2.2.2.2)] [] S Cq)) (zRq_loop (f := (fun (xq : Int) (jq : (Option ZV × Option ZV × Option ZV × Option ZV)) (Cq : ZC) => zR (d + 4) 40 3 [some (.inr (.inr (some 27))), some (.inl l1), some (.inl l2), some (.inl l3), some (.inl xq), (jq.1), (jq.2.1), (jq.2.2.1), (jq.2.2.2)] [] S Cq)) (fun x1 j2 C3 => ?_) _ (none, none, none, none) _) (fun y4 j51 C52 => ?_)
  · unfold c_Sights_goesOnNew_L3
    refine zRq_rw (zb_40_3 hS) ?_
    refine zRq_ite (fun h5 => ?_) (fun h6 => ?_)
    · exact zRq_lf fun r h => h (x1, (j2.1), (j2.2.1), (j2.2.2.1), (j2.2.2.2))
    · refine zRq_rw (zb_40_15 hS) ?_
      refine zRq_ci (r_5 hS) (fun v7 C8 => ?_)
      refine zRq_rw (zb_40_31 hS) ?_
      refine zRq_ite (fun h9 => ?_) (fun h10 => ?_)
      · refine zRq_rw (zb_40_163 hS) ?_
        exact zRq_lf fun r h => h (some (.inl v7), (j2.2.1), (j2.2.2.1), (j2.2.2.2))
      · refine zRq_rw (zb_40_39 hS) ?_
        refine zRq_ci (r_61 hS) (fun v11 C12 => ?_)
        refine zRq_rw (zb_40_51 hS) ?_
        refine zRq_ite (fun h13 => ?_) (fun h14 => ?_)
        · refine zRq_rw (zb_40_163 hS) ?_
          exact zRq_lf fun r h => h (some (.inl v7), (j2.2.1), (j2.2.2.1), (j2.2.2.2))
        · refine zRq_bdf (f := (fun (xq : Int) (jq : (Option ZV × Option ZV × Option ZV)) (Cq : ZC) => zR (d + 4) 40 81 [some (.inr (.inr (some 27))), some (.inl l1), some (.inl l2), some (.inl l3), some (.inl x1), some (.inl v7), (jq.1), (jq.2.1), (jq.2.2)] [.inl xq] S Cq)) ?_ (fun y15 j16 C17 => ?_)
          · refine zRq_rw (zb_40_54 hS) ?_
            refine zRq_g (fun h18 => ?_)
            refine zRq_ite (fun h19 => ?_) (fun h20 => ?_)
            · refine zRq_rw (zb_40_80 hS) ?_
              exact zRq_lf fun r h => h ((j2.2.1), (j2.2.2.1), (j2.2.2.2))
            · refine zRq_rw (zb_40_65 hS) ?_
              refine zRq_g (fun h21 => ?_)
              refine zRq_ite (fun h22 => ?_) (fun h23 => ?_)
              · refine zRq_rw (zb_40_80 hS) ?_
                exact zRq_lf fun r h => h ((j2.2.1), (j2.2.2.1), (j2.2.2.2))
              · refine zRq_rw (zb_40_76 hS) ?_
                exact zRq_lf fun r h => h ((j2.2.1), (j2.2.2.1), (j2.2.2.2))
          · refine zRq_bsf (f := (fun (xq : Int) (jq : (Option ZV × Option ZV)) (Cq : ZC) => zR (d + 4) 40 97 [some (.inr (.inr (some 27))), some (.inl l1), some (.inl l2), some (.inl l3), some (.inl x1), some (.inl v7), some (.inl xq), (jq.1), (jq.2)] [] S Cq)) ?_ (fun y24 j25 C26 => ?_)
            · refine zRq_rw (zb_40_81 hS) ?_
              refine zRq_ite (fun h27 => ?_) (fun h28 => ?_)
              · exact zRq_lf fun r h => h ((j16.2.1), (j16.2.2))
              · refine zRq_rw (zb_40_88 hS) ?_
                refine zRq_ci (r_61 hS) (fun v29 C30 => ?_)
                refine zRq_rw (zb_40_94 hS) ?_
                refine zRq_ite (fun h31 => ?_) (fun h32 => ?_)
                · refine zRq_rw (zb_40_163 hS) ?_
                  exact zRq_lf fun r h => h (some (.inl v7), (some (.inl y15)), (j16.2.1), (j16.2.2))
                · exact zRq_lf fun r h => h ((j16.2.1), (j16.2.2))
            · refine zRq_rw (zb_40_97 hS) ?_
              refine zRq_cv (r_14 hS (by unfold zisW; decide)) (fun v33 C34 => ?_)
              refine zRq_bdf (f := (fun (xq : Int) (jq : (Option ZV × Option ZV)) (Cq : ZC) => zR (d + 4) 40 124 [some (.inr (.inr (some 27))), some (.inl l1), some (.inl l2), some (.inl l3), some (.inl x1), some (.inl v7), some (.inl y24), (jq.1), (jq.2)] [.inl xq] S Cq)) ?_ (fun y35 j36 C37 => ?_)
              · refine zRq_rw (zb_40_106 hS) ?_
                refine zRq_ite (fun h38 => ?_) (fun h39 => ?_)
                · refine zRq_rw (zb_40_118 hS) ?_
                  exact zRq_lf fun r h => h ((j25.1), (j25.2))
                · refine zRq_rw (zb_40_111 hS) ?_
                  exact zRq_lf fun r h => h ((j25.1), (j25.2))
              · refine zRq_bdf (f := (fun (xq : (Int × Int)) (jq : Option ZV) (Cq : ZC) => zR (d + 4) 40 139 [some (.inr (.inr (some 27))), some (.inl l1), some (.inl l2), some (.inl l3), some (.inl x1), some (.inl v7), some (.inl y24), some (.inl (xq.1)), jq] [.inl (xq.2), .inr (.inr (some 27))] S Cq)) ?_ (fun y40 j41 C42 => ?_)
                · refine zRq_rw (zb_40_124 hS) ?_
                  refine zRq_ite (fun h43 => ?_) (fun h44 => ?_)
                  · refine zRq_rw (zb_40_138 hS) ?_
                    exact zRq_lf fun r h => h (j36.2)
                  · refine zRq_rw (zb_40_132 hS) ?_
                    exact zRq_lf fun r h => h (j36.2)
                · refine zRq_rw (zb_40_139 hS) ?_
                  refine zRq_ci (hrec _ _ _ _) (fun v45 C46 => ?_)
                  refine zRq_rw (zb_40_147 hS) ?_
                  refine zRq_cv (r_20 hS (by unfold zisW; decide)) (fun v47 C48 => ?_)
                  refine zRq_rw (zb_40_156 hS) ?_
                  refine zRq_ite (fun h49 => ?_) (fun h50 => ?_)
                  · refine zRq_rw (zb_40_163 hS) ?_
                    exact zRq_lf fun r h => h (some (.inl v7), (some (.inl y24)), (some (.inl (y40.1))), (some (.inl v45)))
                  · refine zRq_rw (zb_40_161 hS) ?_
                    exact zRq_rt fun r h => h
  · refine zRq_rw (zb_40_169 hS) ?_
    exact zRq_rt fun r h => h
-- 37: NewOrBack$Sights.goesOn(III)Z
noncomputable def c_Sights_goesOn_F (rec : Int → Int → Int → ZC → Option (Int × ZC)) (l1 : Int) (l2 : Int) (l3 : Int) (C : ZC) : Option (Int × ZC) :=
  if l1 < ((C 27 4)) then (if l3 ≤ 0 then (some (0, C)) else (zbd (c_Sights_areLeft l1 C) fun v5 C6 => if ¬ v5 = 0 then (zbd (c_Sights_goesOnBack rec l1 l2 l3 C6) fun v9 C10 => if ¬ v9 = 0 then (some (1, C10)) else (zbd (c_Sights_goesOnNew rec l1 l2 l3 C10) fun v13 C14 => if v13 = 0 then (some (0, C14)) else (some (1, C14)))) else (some (0, C6)))) else (some (1, C))
set_option maxRecDepth 100000 in
theorem r_37F {d : Nat} {S : ZS} (hS : zShC S) {rec : Int → Int → Int → ZC → Option (Int × ZC)} (hrec : ∀ a b c C, zRq (zKi S) (rec a b c C) (zR (d + 3) 37 0 [some (.inr (.inr (some 27))), some (.inl a), some (.inl b), some (.inl c)] [] S C)) {l1 : Int} {l2 : Int} {l3 : Int} {C : ZC} : zRq (zKi S) (c_Sights_goesOn_F rec l1 l2 l3 C) (zR (d + 5) 37 0 [some (.inr (.inr (some 27))), some (.inl l1), some (.inl l2), some (.inl l3)] [] S C) := by
  unfold c_Sights_goesOn_F
  refine zRq_rw (zb_37_0 hS) ?_
  refine zRq_ite (fun h1 => ?_) (fun h2 => ?_)
  · refine zRq_rw (zb_37_10 hS) ?_
    refine zRq_ite (fun h3 => ?_) (fun h4 => ?_)
    · refine zRq_rw (zb_37_22 hS) ?_
      exact zRq_rt fun r h => h
    · refine zRq_rw (zb_37_14 hS) ?_
      refine zRq_ci (r_38 hS) (fun v5 C6 => ?_)
      refine zRq_rw (zb_37_19 hS) ?_
      refine zRq_ite (fun h7 => ?_) (fun h8 => ?_)
      · refine zRq_rw (zb_37_24 hS) ?_
        refine zRq_ci (r_39 hS hrec) (fun v9 C10 => ?_)
        refine zRq_rw (zb_37_31 hS) ?_
        refine zRq_ite (fun h11 => ?_) (fun h12 => ?_)
        · refine zRq_rw (zb_37_44 hS) ?_
          refine zRq_rw (zb_37_49 hS) ?_
          exact zRq_rt fun r h => h
        · refine zRq_rw (zb_37_34 hS) ?_
          refine zRq_ci (r_40 hS hrec) (fun v13 C14 => ?_)
          refine zRq_rw (zb_37_41 hS) ?_
          refine zRq_ite (fun h15 => ?_) (fun h16 => ?_)
          · refine zRq_rw (zb_37_48 hS) ?_
            refine zRq_rw (zb_37_49 hS) ?_
            exact zRq_rt fun r h => h
          · refine zRq_rw (zb_37_44 hS) ?_
            refine zRq_rw (zb_37_49 hS) ?_
            exact zRq_rt fun r h => h
      · refine zRq_rw (zb_37_22 hS) ?_
        exact zRq_rt fun r h => h
  · refine zRq_rw (zb_37_8 hS) ?_
    exact zRq_rt fun r h => h
noncomputable def c_Sights_goesOn : Nat → Int → Int → Int → ZC → Option (Int × ZC)
  | 0 => fun _ _ _ _ => none
  | n + 1 => fun a b c C => c_Sights_goesOn_F (c_Sights_goesOn n) a b c C
theorem r_37 {d : Nat} {S : ZS} (hS : zShC S) : ∀ (n : Nat) {a b c : Int} {C : ZC}, zRq (zKi S) (c_Sights_goesOn n a b c C) (zR (d + 3 + 2 * n) 37 0 [some (.inr (.inr (some 27))), some (.inl a), some (.inl b), some (.inl c)] [] S C)
  | 0, _, _, _, _ => fun _ _ _ h _ => (by cases h)
  | n + 1, a, b, c, C => by
    have e : d + 3 + 2 * (n + 1) = (d + 2 * n) + 5 := by omega
    rw [e]
    refine r_37F (d := d + 2 * n) (rec := c_Sights_goesOn n) hS (fun a b c C => ?_)
    have e2 : d + 2 * n + 3 = d + 3 + 2 * n := by omega
    rw [e2]
    exact r_37 hS n
-- 36: NewOrBack$Sights.beginnings()I
noncomputable def c_Sights_beginnings_L2  (x1 : Int) (C3 : ZC) : Option ((Int ⊕ (Unit ⊕ Int)) × ZC) :=
  if ((C3 27 4)) ≤ x1 then (some (.inr (.inl ()), C3)) else (zg (0 ≤ x1 ∧ x1 < 4) (zg (0 ≤ x1 ∧ x1 < 4) (zbd (c_Wood_other (C3 28 x1.toNat) (C3 29 x1.toNat) C3) fun v9 C10 => if ¬ v9 = ((-1)) then (some (.inl (zadd x1 1), C10)) else (some (.inr (.inr 0), C10)))))
noncomputable def c_Sights_beginnings_L45  (x15 : (Int × Int)) (C17 : ZC) : Option (((Int × Int) ⊕ Int) × ZC) :=
  if 8 ≤ ((x15.2)) then (some (.inr (x15.1), C17)) else (zbd (c_Walk_begin 30 (x15.2) C17) fun v21 C22 => zbd (c_Sights_goesOn 13 0 (zshl 1 (x15.2)) 12 C22) fun v23 C24 => if v23 = 0 then (some (.inl ((x15.1), (zadd (x15.2) 1)), C24)) else (some (.inl ((zor (x15.1) (zshl 1 (x15.2))), (zadd (x15.2) 1)), C24)))
noncomputable def c_Sights_beginnings  (C : ZC) : Option (Int × ZC) :=
  zbs (zloop (c_Sights_beginnings_L2) 0 C) fun y4 C14 => zbd (zloop (c_Sights_beginnings_L45) (0, 0) C14) fun y18 C28 => some (y18, C28)
set_option maxRecDepth 100000 in
theorem r_36 {d : Nat} {S : ZS} (hS : zShC S) {C : ZC} : zRq (zKi S) (c_Sights_beginnings C) (zR (d + 30) 36 0 [some (.inr (.inr (some 27))), none, none] [] S C) := by
  unfold c_Sights_beginnings
  refine zRq_rw (zb_36_0 hS) ?_
  refine zRq_bsf (f := (fun (xq : Unit) (jq : (Int × Option ZV)) (Cq : ZC) => zR (d + 30) 36 41 [some (.inr (.inr (some 27))), some (.inl (jq.1)), (jq.2)] [] S Cq)) (zRq_loop (f := (fun (xq : Int) (jq : Option ZV) (Cq : ZC) => zR (d + 30) 36 2 [some (.inr (.inr (some 27))), some (.inl xq), jq] [] S Cq)) (fun x1 j2 C3 => ?_) _ none _) (fun y4 j13 C14 => ?_)
  · unfold c_Sights_beginnings_L2
    refine zRq_rw (zb_36_2 hS) ?_
    refine zRq_ite (fun h5 => ?_) (fun h6 => ?_)
    · exact zRq_lf fun r h => h (x1, j2)
    · refine zRq_rw (zb_36_10 hS) ?_
      refine zRq_g (fun h7 => ?_)
      refine zRq_g (fun h8 => ?_)
      refine zRq_ci (r_5 hS) (fun v9 C10 => ?_)
      refine zRq_rw (zb_36_29 hS) ?_
      refine zRq_ite (fun h11 => ?_) (fun h12 => ?_)
      · refine zRq_rw (zb_36_35 hS) ?_
        exact zRq_lf fun r h => h j2
      · refine zRq_rw (zb_36_33 hS) ?_
        exact zRq_rt fun r h => h
  · refine zRq_rw (zb_36_41 hS) ?_
    refine zRq_bdf (f := (fun (xq : Int) (jq : Int) (Cq : ZC) => zR (d + 30) 36 84 [some (.inr (.inr (some 27))), some (.inl xq), some (.inl jq)] [] S Cq)) (zRq_loop (f := (fun (xq : (Int × Int)) (jq : Unit) (Cq : ZC) => zR (d + 30) 36 45 [some (.inr (.inr (some 27))), some (.inl (xq.1)), some (.inl (xq.2))] [] S Cq)) (fun x15 j16 C17 => ?_) _ () _) (fun y18 j27 C28 => ?_)
    · unfold c_Sights_beginnings_L45
      refine zRq_rw (zb_36_45 hS) ?_
      refine zRq_ite (fun h19 => ?_) (fun h20 => ?_)
      · exact zRq_lf fun r h => h (x15.2)
      · refine zRq_rw (zb_36_51 hS) ?_
        refine zRq_cv (r_11 hS (by unfold zisW; decide)) (fun v21 C22 => ?_)
        refine zRq_rw (zb_36_59 hS) ?_
        refine zRq_ci (r_37 hS 13) (fun v23 C24 => ?_)
        refine zRq_rw (zb_36_69 hS) ?_
        refine zRq_ite (fun h25 => ?_) (fun h26 => ?_)
        · refine zRq_rw (zb_36_78 hS) ?_
          exact zRq_lf fun r h => h ()
        · refine zRq_rw (zb_36_72 hS) ?_
          refine zRq_rw (zb_36_78 hS) ?_
          exact zRq_lf fun r h => h ()
    · refine zRq_rw (zb_36_84 hS) ?_
      exact zRq_rt fun r h => h
-- 43: NewOrBack$Hunt.tellHops(I)V
noncomputable def c_Hunt_tellHops_L28 (l2 : Nat) (l3 : Int) (x11 : Int) (C13 : ZC) : Option ((Int ⊕ Unit) × ZC) :=
  if ((C13 9 3)) ≤ x11 then (some (.inr (), C13)) else (zg (0 ≤ x11 ∧ x11 < 12) (zg (0 ≤ x11 ∧ x11 < 12) (zg (0 ≤ (C13 10 x11.toNat) ∧ (C13 10 x11.toNat) < 8) (zg (0 ≤ (C13 11 x11.toNat) ∧ (C13 11 x11.toNat) < 8) (zg (0 ≤ (C13 10 x11.toNat) ∧ (C13 10 x11.toNat) < 8) (zg (0 ≤ (C13 11 x11.toNat) ∧ (C13 11 x11.toNat) < 8) (zg (0 ≤ (C13 10 x11.toNat) ∧ (C13 10 x11.toNat) < 8) (zg (0 ≤ (C13 11 x11.toNat) ∧ (C13 11 x11.toNat) < 8) (some (.inl (zadd x11 1), zup2 (zup2 C13 l2 (C13 10 x11.toNat).toNat (if (zadd (C13 l2 (C13 11 x11.toNat).toNat) 1) < (C13 l2 (C13 10 x11.toNat).toNat) then (zadd (C13 l2 (C13 11 x11.toNat).toNat) 1) else (C13 l2 (C13 10 x11.toNat).toNat))) l2 (C13 11 x11.toNat).toNat (if (zadd ((zup2 C13 l2 (C13 10 x11.toNat).toNat (if (zadd (C13 l2 (C13 11 x11.toNat).toNat) 1) < (C13 l2 (C13 10 x11.toNat).toNat) then (zadd (C13 l2 (C13 11 x11.toNat).toNat) 1) else (C13 l2 (C13 10 x11.toNat).toNat))) l2 (C13 10 x11.toNat).toNat) 1) < ((zup2 C13 l2 (C13 10 x11.toNat).toNat (if (zadd (C13 l2 (C13 11 x11.toNat).toNat) 1) < (C13 l2 (C13 10 x11.toNat).toNat) then (zadd (C13 l2 (C13 11 x11.toNat).toNat) 1) else (C13 l2 (C13 10 x11.toNat).toNat))) l2 (C13 11 x11.toNat).toNat) then (zadd ((zup2 C13 l2 (C13 10 x11.toNat).toNat (if (zadd (C13 l2 (C13 11 x11.toNat).toNat) 1) < (C13 l2 (C13 10 x11.toNat).toNat) then (zadd (C13 l2 (C13 11 x11.toNat).toNat) 1) else (C13 l2 (C13 10 x11.toNat).toNat))) l2 (C13 10 x11.toNat).toNat) 1) else ((zup2 C13 l2 (C13 10 x11.toNat).toNat (if (zadd (C13 l2 (C13 11 x11.toNat).toNat) 1) < (C13 l2 (C13 10 x11.toNat).toNat) then (zadd (C13 l2 (C13 11 x11.toNat).toNat) 1) else (C13 l2 (C13 10 x11.toNat).toNat))) l2 (C13 11 x11.toNat).toNat))))))))))))
noncomputable def c_Hunt_tellHops_L19 (l2 : Nat) (x5 : Int) (C7 : ZC) : Option ((Int ⊕ Unit) × ZC) :=
  if 6 ≤ x5 then (some (.inr (), C7)) else (zbd (zloop (c_Hunt_tellHops_L28 l2 x5) 0 C7) fun y14 C26 => some (.inl (zadd x5 1), C26))
noncomputable def c_Hunt_tellHops (l1 : Int) (C : ZC) : Option (Int × ZC) :=
  zg (0 ≤ l1 ∧ l1 < 8) (zbd (c_Arrays_fill (36 + l1.toNat) 8 8 C) fun v2 C3 => zg (0 ≤ l1 ∧ l1 < 8) (zbd (zloop (c_Hunt_tellHops_L19 (36 + l1.toNat)) 0 (zup2 C3 (36 + l1.toNat) l1.toNat 0)) fun y8 C28 => some (0, C28)))
set_option maxRecDepth 100000 in
theorem r_43 {d : Nat} {S : ZS} (hS : zShC S) {l1 : Int} {C : ZC} : zRq (zKv S) (c_Hunt_tellHops l1 C) (zR (d + 2) 43 0 [some (.inr (.inr (some 34))), some (.inl l1), none, none, none, none, none] [] S C) := by
  unfold c_Hunt_tellHops
  refine zRq_rw (zb_43_0 hS) ?_
  refine zRq_g (fun h1 => ?_)
  refine zRq_cv (r_1 hS (sa_i35 hS h1) (by decide)) (fun v2 C3 => ?_)
  refine zRq_rw (zb_43_13 hS (sa_i35 hS h1)) ?_
  refine zRq_g (fun h4 => ?_)
  refine zRq_bdf (f := (fun (xq : Unit) (jq : (Int × Option ZV × Option ZV × Option ZV)) (Cq : ZC) => zR (d + 2) 43 110 [some (.inr (.inr (some 34))), some (.inl l1), some (.inr (.inr (some (36 + l1.toNat)))), some (.inl (jq.1)), (jq.2.1), (jq.2.2.1), (jq.2.2.2)] [] S Cq)) (zRq_loop (f := (fun (xq : Int) (jq : (Option ZV × Option ZV × Option ZV)) (Cq : ZC) => zR (d + 2) 43 19 [some (.inr (.inr (some 34))), some (.inl l1), some (.inr (.inr (some (36 + l1.toNat)))), some (.inl xq), (jq.1), (jq.2.1), (jq.2.2)] [] S Cq)) (fun x5 j6 C7 => ?_) _ (none, none, none) _) (fun y8 j27 C28 => ?_)
  · unfold c_Hunt_tellHops_L19
    refine zRq_rw (zb_43_19 hS (sa_i35 hS h1)) ?_
    refine zRq_ite (fun h9 => ?_) (fun h10 => ?_)
    · exact zRq_lf fun r h => h (x5, (j6.1), (j6.2.1), (j6.2.2))
    · refine zRq_rw (zb_43_25 hS (sa_i35 hS h1)) ?_
      refine zRq_bdf (f := (fun (xq : Unit) (jq : (Int × Option ZV × Option ZV)) (Cq : ZC) => zR (d + 2) 43 104 [some (.inr (.inr (some 34))), some (.inl l1), some (.inr (.inr (some (36 + l1.toNat)))), some (.inl x5), some (.inl (jq.1)), (jq.2.1), (jq.2.2)] [] S Cq)) (zRq_loop (f := (fun (xq : Int) (jq : (Option ZV × Option ZV)) (Cq : ZC) => zR (d + 2) 43 28 [some (.inr (.inr (some 34))), some (.inl l1), some (.inr (.inr (some (36 + l1.toNat)))), some (.inl x5), some (.inl xq), (jq.1), (jq.2)] [] S Cq)) (fun x11 j12 C13 => ?_) _ ((j6.2.1), (j6.2.2)) _) (fun y14 j25 C26 => ?_)
      · unfold c_Hunt_tellHops_L28
        refine zRq_rw (zb_43_28 hS (sa_i35 hS h1)) ?_
        refine zRq_ite (fun h15 => ?_) (fun h16 => ?_)
        · exact zRq_lf fun r h => h (x11, (j12.1), (j12.2))
        · refine zRq_rw (zb_43_40 hS (sa_i35 hS h1)) ?_
          refine zRq_g (fun h17 => ?_)
          refine zRq_g (fun h18 => ?_)
          refine zRq_g (fun h19 => ?_)
          refine zRq_g (fun h20 => ?_)
          refine zRq_g (fun h21 => ?_)
          refine zRq_g (fun h22 => ?_)
          refine zRq_g (fun h23 => ?_)
          refine zRq_g (fun h24 => ?_)
          exact zRq_lf fun r h => h (some (.inl (C13 10 x11.toNat)), some (.inl (C13 11 x11.toNat)))
      · refine zRq_rw (zb_43_104 hS (sa_i35 hS h1)) ?_
        exact zRq_lf fun r h => h (some (.inl (j25.1)), (j25.2.1), (j25.2.2))
  · refine zRq_rw (zb_43_110 hS (sa_i35 hS h1)) ?_
    exact zRq_rt fun r h => h
-- 47: NewOrBack$Hunt.wolfStep(I)I
noncomputable def c_Hunt_wolfStep_L15 (l1 : Int) (l2 : Nat) (x2 : Int) (C4 : ZC) : Option ((Int ⊕ (Unit ⊕ Int)) × ZC) :=
  if ((C4 9 3)) ≤ x2 then (some (.inr (.inl ()), C4)) else (zbd (c_Wood_other x2 l1 C4) fun v8 C9 => if v8 = ((-1)) then (some (.inl (zadd x2 1), C9)) else (zg (0 ≤ v8 ∧ v8 < 8) (zg (0 ≤ l1 ∧ l1 < 8) (if ((C9 l2 l1.toNat)) ≤ ((C9 l2 v8.toNat)) then (some (.inl (zadd x2 1), C9)) else (some (.inr (.inr v8), C9))))))
noncomputable def c_Hunt_wolfStep (l1 : Int) (C : ZC) : Option (Int × ZC) :=
  zg (0 ≤ (C 44 5) ∧ (C 44 5) < 8) (zbs (zloop (c_Hunt_wolfStep_L15 l1 (36 + (C 44 5).toNat)) 0 C) fun y5 C17 => some (l1, C17))
set_option maxRecDepth 100000 in
theorem r_47 {d : Nat} {S : ZS} (hS : zShC S) {l1 : Int} {C : ZC} : zRq (zKi S) (c_Hunt_wolfStep l1 C) (zR (d + 2) 47 0 [some (.inr (.inr (some 34))), some (.inl l1), none, none, none] [] S C) := by
  unfold c_Hunt_wolfStep
  refine zRq_rw (zb_47_0 hS) ?_
  refine zRq_g (fun h1 => ?_)
  refine zRq_bsf (f := (fun (xq : Unit) (jq : (Int × Option ZV)) (Cq : ZC) => zR (d + 2) 47 62 [some (.inr (.inr (some 34))), some (.inl l1), some (.inr (.inr (some (36 + (C 44 5).toNat)))), some (.inl (jq.1)), (jq.2)] [] S Cq)) (zRq_loop (f := (fun (xq : Int) (jq : Option ZV) (Cq : ZC) => zR (d + 2) 47 15 [some (.inr (.inr (some 34))), some (.inl l1), some (.inr (.inr (some (36 + (C 44 5).toNat)))), some (.inl xq), jq] [] S Cq)) (fun x2 j3 C4 => ?_) _ none _) (fun y5 j16 C17 => ?_)
  · unfold c_Hunt_wolfStep_L15
    refine zRq_rw (zb_47_15 hS (sa_i35 hS h1)) ?_
    refine zRq_ite (fun h6 => ?_) (fun h7 => ?_)
    · exact zRq_lf fun r h => h (x2, j3)
    · refine zRq_rw (zb_47_26 hS (sa_i35 hS h1)) ?_
      refine zRq_ci (r_5 hS) (fun v8 C9 => ?_)
      refine zRq_rw (zb_47_35 hS (sa_i35 hS h1)) ?_
      refine zRq_ite (fun h10 => ?_) (fun h11 => ?_)
      · refine zRq_rw (zb_47_56 hS (sa_i35 hS h1)) ?_
        exact zRq_lf fun r h => h (some (.inl v8))
      · refine zRq_rw (zb_47_43 hS (sa_i35 hS h1)) ?_
        refine zRq_g (fun h12 => ?_)
        refine zRq_g (fun h13 => ?_)
        refine zRq_ite (fun h14 => ?_) (fun h15 => ?_)
        · refine zRq_rw (zb_47_56 hS (sa_i35 hS h1)) ?_
          exact zRq_lf fun r h => h (some (.inl v8))
        · refine zRq_rw (zb_47_53 hS (sa_i35 hS h1)) ?_
          exact zRq_rt fun r h => h
  · refine zRq_rw (zb_47_62 hS (sa_i35 hS h1)) ?_
    exact zRq_rt fun r h => h
-- 46: NewOrBack$Hunt.endsWell(II)Z
noncomputable def c_Hunt_endsWell (rec : Int → Int → ZC → Option (Int × ZC)) (l1 : Int) (l2 : Int) (C : ZC) : Option (Int × ZC) :=
  if ¬ ((C 44 5)) = l1 then (if ¬ ((C 44 5)) = ((C 44 4)) then (zbd (c_Hunt_wolfStep l1 C) fun v5 C6 => if v5 = ((C6 44 5)) then (some (0, C6)) else (zbd (rec v5 (zsub l2 1) C6) fun v9 C10 => if v9 = 0 then (some (0, C10)) else (some (1, C10)))) else (some (1, C))) else (some (0, C))
set_option maxRecDepth 100000 in
theorem r_46 {d : Nat} {S : ZS} (hS : zShC S) {rec : Int → Int → ZC → Option (Int × ZC)} (hrec : ∀ a b C, zRq (zKi S) (rec a b C) (zR (d + 3) 44 0 [some (.inr (.inr (some 34))), some (.inl a), some (.inl b)] [] S C)) {l1 : Int} {l2 : Int} {C : ZC} : zRq (zKi S) (c_Hunt_endsWell rec l1 l2 C) (zR (d + 4) 46 0 [some (.inr (.inr (some 34))), some (.inl l1), some (.inl l2), none] [] S C) := by
  unfold c_Hunt_endsWell
  refine zRq_rw (zb_46_0 hS) ?_
  refine zRq_ite (fun h1 => ?_) (fun h2 => ?_)
  · refine zRq_rw (zb_46_13 hS) ?_
    refine zRq_ite (fun h3 => ?_) (fun h4 => ?_)
    · refine zRq_rw (zb_46_32 hS) ?_
      refine zRq_ci (r_47 hS) (fun v5 C6 => ?_)
      refine zRq_rw (zb_46_37 hS) ?_
      refine zRq_ite (fun h7 => ?_) (fun h8 => ?_)
      · refine zRq_rw (zb_46_64 hS) ?_
        refine zRq_rw (zb_46_65 hS) ?_
        exact zRq_rt fun r h => h
      · refine zRq_rw (zb_46_49 hS) ?_
        refine zRq_ci (hrec _ _ _) (fun v9 C10 => ?_)
        refine zRq_rw (zb_46_57 hS) ?_
        refine zRq_ite (fun h11 => ?_) (fun h12 => ?_)
        · refine zRq_rw (zb_46_64 hS) ?_
          refine zRq_rw (zb_46_65 hS) ?_
          exact zRq_rt fun r h => h
        · refine zRq_rw (zb_46_60 hS) ?_
          refine zRq_rw (zb_46_65 hS) ?_
          exact zRq_rt fun r h => h
    · refine zRq_rw (zb_46_30 hS) ?_
      exact zRq_rt fun r h => h
  · refine zRq_rw (zb_46_11 hS) ?_
    exact zRq_rt fun r h => h
-- 45: NewOrBack$Hunt.escapesBack(II)Z
noncomputable def c_Hunt_escapesBack (rec : Int → Int → ZC → Option (Int × ZC)) (l1 : Int) (l2 : Int) (C : ZC) : Option (Int × ZC) :=
  if 0 < ((C 44 6)) then (zg (0 ≤ (zsub (C 44 6) 1) ∧ (zsub (C 44 6) 1) < 12) (zbd (c_Walk_goBack 44 C) fun v4 C5 => zbd (c_Hunt_endsWell rec l1 l2 C5) fun v6 C7 => zbd (c_Walk_undoBack 44 (C 45 (zsub (C 44 6) 1).toNat) C7) fun v8 C9 => zg (v6 = 0 ∨ v6 = 1) (some (v6, C9)))) else (some (0, C))
set_option maxRecDepth 100000 in
theorem r_45 {d : Nat} {S : ZS} (hS : zShC S) {rec : Int → Int → ZC → Option (Int × ZC)} (hrec : ∀ a b C, zRq (zKi S) (rec a b C) (zR (d + 3) 44 0 [some (.inr (.inr (some 34))), some (.inl a), some (.inl b)] [] S C)) {l1 : Int} {l2 : Int} {C : ZC} : zRq (zKi S) (c_Hunt_escapesBack rec l1 l2 C) (zR (d + 5) 45 0 [some (.inr (.inr (some 34))), some (.inl l1), some (.inl l2), none, none] [] S C) := by
  unfold c_Hunt_escapesBack
  refine zRq_rw (zb_45_0 hS) ?_
  refine zRq_ite (fun h1 => ?_) (fun h2 => ?_)
  · refine zRq_rw (zb_45_12 hS) ?_
    refine zRq_g (fun h3 => ?_)
    refine zRq_cv (r_15 hS (by unfold zisW; decide)) (fun v4 C5 => ?_)
    refine zRq_rw (zb_45_37 hS) ?_
    refine zRq_ci (r_46 hS hrec) (fun v6 C7 => ?_)
    refine zRq_rw (zb_45_43 hS) ?_
    refine zRq_cv (r_21 hS (by unfold zisW; decide)) (fun v8 C9 => ?_)
    refine zRq_rw (zb_45_53 hS) ?_
    refine zRq_g (fun h => ?_)
    exact zRq_rt fun r h => h
  · refine zRq_rw (zb_45_10 hS) ?_
    exact zRq_rt fun r h => h
-- 48: NewOrBack$Hunt.escapesNew(II)Z
noncomputable def c_Hunt_escapesNew_L2 (rec : Int → Int → ZC → Option (Int × ZC)) (l1 : Int) (l2 : Int) (x1 : Int) (C3 : ZC) : Option ((Int ⊕ (Unit ⊕ Int)) × ZC) :=
  if ((C3 9 3)) ≤ x1 then (some (.inr (.inl ()), C3)) else (zbd (c_Walk_kindOf 44 x1 C3) fun v7 C8 => if ¬ v7 = 1 then (some (.inl (zadd x1 1), C8)) else (zbd (c_Walk_goNew 44 x1 C8) fun v11 C12 => zbd (c_Hunt_endsWell rec l1 l2 C12) fun v13 C14 => zbd (c_Walk_undoNew 44 C14) fun v15 C16 => if v13 = 0 then (some (.inl (zadd x1 1), C16)) else (some (.inr (.inr 1), C16))))
noncomputable def c_Hunt_escapesNew (rec : Int → Int → ZC → Option (Int × ZC)) (l1 : Int) (l2 : Int) (C : ZC) : Option (Int × ZC) :=
  zbs (zloop (c_Hunt_escapesNew_L2 rec l1 l2) 0 C) fun y4 C20 => some (0, C20)
set_option maxRecDepth 100000 in
theorem r_48 {d : Nat} {S : ZS} (hS : zShC S) {rec : Int → Int → ZC → Option (Int × ZC)} (hrec : ∀ a b C, zRq (zKi S) (rec a b C) (zR (d + 3) 44 0 [some (.inr (.inr (some 34))), some (.inl a), some (.inl b)] [] S C)) {l1 : Int} {l2 : Int} {C : ZC} : zRq (zKi S) (c_Hunt_escapesNew rec l1 l2 C) (zR (d + 5) 48 0 [some (.inr (.inr (some 34))), some (.inl l1), some (.inl l2), none, none] [] S C) := by
  unfold c_Hunt_escapesNew
  refine zRq_rw (zb_48_0 hS) ?_
  refine zRq_bsf (f := (fun (xq : Unit) (jq : (Int × Option ZV)) (Cq : ZC) => zR (d + 5) 48 61 [some (.inr (.inr (some 34))), some (.inl l1), some (.inl l2), some (.inl (jq.1)), (jq.2)] [] S Cq)) (zRq_loop (f := (fun (xq : Int) (jq : Option ZV) (Cq : ZC) => zR (d + 5) 48 2 [some (.inr (.inr (some 34))), some (.inl l1), some (.inl l2), some (.inl xq), jq] [] S Cq)) (fun x1 j2 C3 => ?_) _ none _) (fun y4 j19 C20 => ?_)
  · unfold c_Hunt_escapesNew_L2
    refine zRq_rw (zb_48_2 hS) ?_
    refine zRq_ite (fun h5 => ?_) (fun h6 => ?_)
    · exact zRq_lf fun r h => h (x1, j2)
    · refine zRq_rw (zb_48_13 hS) ?_
      refine zRq_ci (r_12 hS (by unfold zisW; decide)) (fun v7 C8 => ?_)
      refine zRq_rw (zb_48_21 hS) ?_
      refine zRq_ite (fun h9 => ?_) (fun h10 => ?_)
      · refine zRq_rw (zb_48_55 hS) ?_
        exact zRq_lf fun r h => h j2
      · refine zRq_rw (zb_48_25 hS) ?_
        refine zRq_cv (r_14 hS (by unfold zisW; decide)) (fun v11 C12 => ?_)
        refine zRq_rw (zb_48_33 hS) ?_
        refine zRq_ci (r_46 hS hrec) (fun v13 C14 => ?_)
        refine zRq_rw (zb_48_39 hS) ?_
        refine zRq_cv (r_20 hS (by unfold zisW; decide)) (fun v15 C16 => ?_)
        refine zRq_rw (zb_48_48 hS) ?_
        refine zRq_ite (fun h17 => ?_) (fun h18 => ?_)
        · refine zRq_rw (zb_48_55 hS) ?_
          exact zRq_lf fun r h => h (some (.inl v13))
        · refine zRq_rw (zb_48_53 hS) ?_
          exact zRq_rt fun r h => h
  · refine zRq_rw (zb_48_61 hS) ?_
    exact zRq_rt fun r h => h
-- 44: NewOrBack$Hunt.escapes(II)Z
noncomputable def c_Hunt_escapes_F (rec : Int → Int → ZC → Option (Int × ZC)) (l1 : Int) (l2 : Int) (C : ZC) : Option (Int × ZC) :=
  if 0 < l2 then (zbd (c_Hunt_escapesBack rec l1 l2 C) fun v3 C4 => if ¬ v3 = 0 then (some (1, C4)) else (zbd (c_Hunt_escapesNew rec l1 l2 C4) fun v7 C8 => if v7 = 0 then (some (0, C8)) else (some (1, C8)))) else (some (0, C))
set_option maxRecDepth 100000 in
theorem r_44F {d : Nat} {S : ZS} (hS : zShC S) {rec : Int → Int → ZC → Option (Int × ZC)} (hrec : ∀ a b C, zRq (zKi S) (rec a b C) (zR (d + 3) 44 0 [some (.inr (.inr (some 34))), some (.inl a), some (.inl b)] [] S C)) {l1 : Int} {l2 : Int} {C : ZC} : zRq (zKi S) (c_Hunt_escapes_F rec l1 l2 C) (zR (d + 6) 44 0 [some (.inr (.inr (some 34))), some (.inl l1), some (.inl l2)] [] S C) := by
  unfold c_Hunt_escapes_F
  refine zRq_rw (zb_44_0 hS) ?_
  refine zRq_ite (fun h1 => ?_) (fun h2 => ?_)
  · refine zRq_rw (zb_44_6 hS) ?_
    refine zRq_ci (r_45 hS hrec) (fun v3 C4 => ?_)
    refine zRq_rw (zb_44_12 hS) ?_
    refine zRq_ite (fun h5 => ?_) (fun h6 => ?_)
    · refine zRq_rw (zb_44_24 hS) ?_
      refine zRq_rw (zb_44_29 hS) ?_
      exact zRq_rt fun r h => h
    · refine zRq_rw (zb_44_15 hS) ?_
      refine zRq_ci (r_48 hS hrec) (fun v7 C8 => ?_)
      refine zRq_rw (zb_44_21 hS) ?_
      refine zRq_ite (fun h9 => ?_) (fun h10 => ?_)
      · refine zRq_rw (zb_44_28 hS) ?_
        refine zRq_rw (zb_44_29 hS) ?_
        exact zRq_rt fun r h => h
      · refine zRq_rw (zb_44_24 hS) ?_
        refine zRq_rw (zb_44_29 hS) ?_
        exact zRq_rt fun r h => h
  · refine zRq_rw (zb_44_4 hS) ?_
    exact zRq_rt fun r h => h
noncomputable def c_Hunt_escapes : Nat → Int → Int → ZC → Option (Int × ZC)
  | 0 => fun _ _ _ => none
  | n + 1 => fun a b C => c_Hunt_escapes_F (c_Hunt_escapes n) a b C
theorem r_44 {d : Nat} {S : ZS} (hS : zShC S) : ∀ (n : Nat) {a b : Int} {C : ZC}, zRq (zKi S) (c_Hunt_escapes n a b C) (zR (d + 3 + 3 * n) 44 0 [some (.inr (.inr (some 34))), some (.inl a), some (.inl b)] [] S C)
  | 0, _, _, _ => fun _ _ _ h _ => (by cases h)
  | n + 1, a, b, C => by
    have e : d + 3 + 3 * (n + 1) = (d + 3 * n) + 6 := by omega
    rw [e]
    refine r_44F (d := d + 3 * n) (rec := c_Hunt_escapes n) hS (fun a b C => ?_)
    have e2 : d + 3 * n + 3 = d + 3 + 3 * n := by omega
    rw [e2]
    exact r_44 hS n
-- 42: NewOrBack$Hunt.isEscaped(LNewOrBack$Walk;I)Z
noncomputable def c_Hunt_isEscaped_L42 (l2 : Int) (x7 : Int) (C9 : ZC) : Option ((Int ⊕ Unit) × ZC) :=
  if 8 ≤ x7 then (some (.inr (), C9)) else (zbd (c_Hunt_tellHops x7 C9) fun v13 C14 => some (.inl (zadd x7 1), C14))
noncomputable def c_Hunt_isEscaped (l1 : Nat) (l2 : Int) (C : ZC) : Option (Int × ZC) :=
  zbd (c_Walk_become 44 l1 C) fun v1 C2 => if ¬ ((C2 44 5)) = l2 then (if ¬ ((C2 44 5)) = ((C2 44 4)) then (zbd (zloop (c_Hunt_isEscaped_L42 l2) 0 C2) fun y10 C16 => zbd (c_Hunt_escapes 13 l2 12 C16) fun v17 C18 => zg (v17 = 0 ∨ v17 = 1) (some (v17, C18))) else (some (1, C2))) else (some (0, C2))
set_option maxRecDepth 100000 in
theorem r_42 {d : Nat} {S : ZS} (hS : zShC S) {l1 : Nat} {l2 : Int} (hl1 : zisW l1) {C : ZC} : zRq (zKi S) (c_Hunt_isEscaped l1 l2 C) (zR (d + 43) 42 0 [some (.inr (.inr (some 34))), some (.inr (.inr (some l1))), some (.inl l2), none] [] S C) := by
  unfold c_Hunt_isEscaped
  refine zRq_rw (zb_42_0 hS hl1) ?_
  refine zRq_cv (r_19 hS (by unfold zisW; decide) hl1) (fun v1 C2 => ?_)
  refine zRq_rw (zb_42_8 hS hl1) ?_
  refine zRq_ite (fun h3 => ?_) (fun h4 => ?_)
  · refine zRq_rw (zb_42_21 hS hl1) ?_
    refine zRq_ite (fun h5 => ?_) (fun h6 => ?_)
    · refine zRq_rw (zb_42_40 hS hl1) ?_
      refine zRq_bdf (f := (fun (xq : Unit) (jq : Int) (Cq : ZC) => zR (d + 43) 42 59 [some (.inr (.inr (some 34))), some (.inr (.inr (some l1))), some (.inl l2), some (.inl jq)] [] S Cq)) (zRq_loop (f := (fun (xq : Int) (jq : Unit) (Cq : ZC) => zR (d + 43) 42 42 [some (.inr (.inr (some 34))), some (.inr (.inr (some l1))), some (.inl l2), some (.inl xq)] [] S Cq)) (fun x7 j8 C9 => ?_) _ () _) (fun y10 j15 C16 => ?_)
      · unfold c_Hunt_isEscaped_L42
        refine zRq_rw (zb_42_42 hS hl1) ?_
        refine zRq_ite (fun h11 => ?_) (fun h12 => ?_)
        · exact zRq_lf fun r h => h x7
        · refine zRq_rw (zb_42_48 hS hl1) ?_
          refine zRq_cv (r_43 hS) (fun v13 C14 => ?_)
          refine zRq_rw (zb_42_53 hS hl1) ?_
          exact zRq_lf fun r h => h ()
      · refine zRq_rw (zb_42_59 hS hl1) ?_
        refine zRq_ci (r_44 hS 13) (fun v17 C18 => ?_)
        refine zRq_rw (zb_42_66 hS hl1) ?_
        refine zRq_g (fun h => ?_)
        exact zRq_rt fun r h => h
    · refine zRq_rw (zb_42_38 hS hl1) ?_
      exact zRq_rt fun r h => h
  · refine zRq_rw (zb_42_19 hS hl1) ?_
    exact zRq_rt fun r h => h

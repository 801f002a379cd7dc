/-! Layer 2: the methods as programs over the ints (written by wip/whole/gend.py) -/
-- 101: NewOrBackModel.in(III)Z
noncomputable def d_in (l0 : Int) (l1 : Int) (l2 : Int) (C : ZC) : Option (Int × ZC) :=
  if l0 < l1 then (some (0, C)) else (if l2 < l0 then (some (0, C)) else (some (1, C)))
set_option maxRecDepth 100000 in
theorem r_101 {d : Nat} {S : ZS} (hS : zShM S) {l0 : Int} {l1 : Int} {l2 : Int} {C : ZC} : zRq (zKi S) (d_in l0 l1 l2 C) (zR (d + 1) 101 0 [some (.inl l0), some (.inl l1), some (.inl l2)] [] S C) := by
  unfold d_in
  refine zRq_rw (zb_101_0 hS) ?_
  refine zRq_ite (fun h1 => ?_) (fun h2 => ?_)
  · refine zRq_rw (zb_101_14 hS) ?_
    refine zRq_rw (zb_101_15 hS) ?_
    exact zRq_rt fun r h => h
  · refine zRq_rw (zb_101_5 hS) ?_
    refine zRq_ite (fun h3 => ?_) (fun h4 => ?_)
    · refine zRq_rw (zb_101_14 hS) ?_
      refine zRq_rw (zb_101_15 hS) ?_
      exact zRq_rt fun r h => h
    · refine zRq_rw (zb_101_10 hS) ?_
      refine zRq_rw (zb_101_15 hS) ?_
      exact zRq_rt fun r h => h
-- 100: NewOrBackModel.type(II)I
noncomputable def d_type (l1 : Int) (l2 : Int) (C : ZC) : Option (Int × ZC) :=
  zbd (d_in l1 0 4 C) fun v1 C2 => if v1 = 0 then (some ((-2), C2)) else (zbd (d_in l2 0 255 C2) fun v5 C6 => if ¬ v5 = 0 then (zbd (α := (Int × Int)) (zg (0 ≤ l1 ∧ l1 < 5) (if ¬ l1 = 0 then (some ((24, (C6 73 l1.toNat)), C6)) else (some ((60, (C6 73 l1.toNat)), C6)))) fun y9 C11 => if ¬ ((y9.2)) = ((y9.1)) then (zg (0 ≤ l1 ∧ l1 < 5) (zg (0 ≤ (zadd (zmul 60 l1) (C11 73 l1.toNat)) ∧ (zadd (zmul 60 l1) (C11 73 l1.toNat)) < 300) (zg (0 ≤ l1 ∧ l1 < 5) (zg (0 ≤ l1 ∧ l1 < 5) (zg (0 ≤ l1 ∧ l1 < 5) (some (((zup2 (zup2 C11 74 (zadd (zmul 60 l1) (C11 73 l1.toNat)).toNat l2) 73 l1.toNat (zadd ((zup2 C11 74 (zadd (zmul 60 l1) (C11 73 l1.toNat)).toNat l2) 73 l1.toNat) 1)) 73 l1.toNat), zup2 (zup2 C11 74 (zadd (zmul 60 l1) (C11 73 l1.toNat)).toNat l2) 73 l1.toNat (zadd ((zup2 C11 74 (zadd (zmul 60 l1) (C11 73 l1.toNat)).toNat l2) 73 l1.toNat) 1)))))))) else (some ((-4), C11))) else (some ((-2), C6)))
set_option maxRecDepth 100000 in
theorem r_100 {d : Nat} {S : ZS} (hS : zShM S) {l1 : Int} {l2 : Int} {C : ZC} : zRq (zKi S) (d_type l1 l2 C) (zR (d + 2) 100 0 [some (.inr (.inr (some 72))), some (.inl l1), some (.inl l2)] [] S C) := by
  unfold d_type
  refine zRq_rw (zb_100_0 hS) ?_
  refine zRq_ci (r_101 hS) (fun v1 C2 => ?_)
  refine zRq_rw (zb_100_6 hS) ?_
  refine zRq_ite (fun h3 => ?_) (fun h4 => ?_)
  · refine zRq_rw (zb_100_20 hS) ?_
    exact zRq_rt fun r h => h
  · refine zRq_rw (zb_100_9 hS) ?_
    refine zRq_ci (r_101 hS) (fun v5 C6 => ?_)
    refine zRq_rw (zb_100_17 hS) ?_
    refine zRq_ite (fun h7 => ?_) (fun h8 => ?_)
    · refine zRq_bdf (f := (fun (xq : (Int × Int)) (jq : Unit) (Cq : ZC) => zR (d + 2) 100 40 [some (.inr (.inr (some 72))), some (.inl l1), some (.inl l2)] [.inl (xq.1), .inl (xq.2)] S Cq)) ?_ (fun y9 j10 C11 => ?_)
      · refine zRq_rw (zb_100_23 hS) ?_
        refine zRq_g (fun h12 => ?_)
        refine zRq_ite (fun h13 => ?_) (fun h14 => ?_)
        · refine zRq_rw (zb_100_38 hS) ?_
          exact zRq_lf fun r h => h ()
        · refine zRq_rw (zb_100_33 hS) ?_
          exact zRq_lf fun r h => h ()
      · refine zRq_rw (zb_100_40 hS) ?_
        refine zRq_ite (fun h15 => ?_) (fun h16 => ?_)
        · refine zRq_rw (zb_100_46 hS) ?_
          refine zRq_g (fun h17 => ?_)
          refine zRq_g (fun h18 => ?_)
          refine zRq_g (fun h19 => ?_)
          refine zRq_g (fun h20 => ?_)
          refine zRq_g (fun h21 => ?_)
          exact zRq_rt fun r h => h
        · refine zRq_rw (zb_100_43 hS) ?_
          exact zRq_rt fun r h => h
    · refine zRq_rw (zb_100_20 hS) ?_
      exact zRq_rt fun r h => h
-- 102: NewOrBackModel.wipe(I)I
noncomputable def d_wipe (l1 : Int) (C : ZC) : Option (Int × ZC) :=
  zbd (d_in l1 0 4 C) fun v1 C2 => if ¬ v1 = 0 then (zg (0 ≤ l1 ∧ l1 < 5) (zg (0 ≤ l1 ∧ l1 < 5) (some ((C2 73 l1.toNat), zup2 C2 73 l1.toNat 0)))) else (some ((-2), C2))
set_option maxRecDepth 100000 in
theorem r_102 {d : Nat} {S : ZS} (hS : zShM S) {l1 : Int} {C : ZC} : zRq (zKi S) (d_wipe l1 C) (zR (d + 2) 102 0 [some (.inr (.inr (some 72))), some (.inl l1), none] [] S C) := by
  unfold d_wipe
  refine zRq_rw (zb_102_0 hS) ?_
  refine zRq_ci (r_101 hS) (fun v1 C2 => ?_)
  refine zRq_rw (zb_102_6 hS) ?_
  refine zRq_ite (fun h3 => ?_) (fun h4 => ?_)
  · refine zRq_rw (zb_102_12 hS) ?_
    refine zRq_g (fun h5 => ?_)
    refine zRq_g (fun h6 => ?_)
    exact zRq_rt fun r h => h
  · refine zRq_rw (zb_102_9 hS) ?_
    exact zRq_rt fun r h => h
-- 105: NewOrBackModel.figureAt(III)I
noncomputable def d_figureAt (l1 : Int) (l2 : Int) (l3 : Int) (C : ZC) : Option (Int × ZC) :=
  zbd (α := Int) (if ((C 73 0)) ≤ l1 then (some ((-1), C)) else (zg (0 ≤ l1 ∧ l1 < 300) (some ((zsub (C 74 l1.toNat) 48), C)))) fun y1 C3 => zbd (d_in y1 l2 l3 C3) fun v7 C8 => if v7 = 0 then (some ((-1), C8)) else (some (y1, C8))
set_option maxRecDepth 100000 in
theorem r_105 {d : Nat} {S : ZS} (hS : zShM S) {l1 : Int} {l2 : Int} {l3 : Int} {C : ZC} : zRq (zKi S) (d_figureAt l1 l2 l3 C) (zR (d + 2) 105 0 [some (.inr (.inr (some 72))), some (.inl l1), some (.inl l2), some (.inl l3), none] [] S C) := by
  unfold d_figureAt
  refine zRq_bdf (f := (fun (xq : Int) (jq : Option ZV) (Cq : ZC) => zR (d + 2) 105 23 [some (.inr (.inr (some 72))), some (.inl l1), some (.inl l2), some (.inl l3), jq] [.inl xq] S Cq)) ?_ (fun y1 j2 C3 => ?_)
  · refine zRq_rw (zb_105_0 hS) ?_
    refine zRq_ite (fun h4 => ?_) (fun h5 => ?_)
    · refine zRq_rw (zb_105_22 hS) ?_
      refine zRq_lf fun r h => ?_
      have h2 := h none
      dsimp only [zKf, zKs] at h2
      rw [show d + 1 + 1 = d + 2 from rfl]
      exact h2
    · refine zRq_rw (zb_105_10 hS) ?_
      refine zRq_g (fun h6 => ?_)
      exact zRq_lf fun r h => h none
  · refine zRq_rw (zb_105_23 hS) ?_
    refine zRq_ci (r_101 hS) (fun v7 C8 => ?_)
    refine zRq_rw (zb_105_32 hS) ?_
    refine zRq_ite (fun h9 => ?_) (fun h10 => ?_)
    · refine zRq_rw (zb_105_40 hS) ?_
      refine zRq_rw (zb_105_41 hS) ?_
      exact zRq_rt fun r h => h
    · refine zRq_rw (zb_105_35 hS) ?_
      refine zRq_rw (zb_105_41 hS) ?_
      exact zRq_rt fun r h => h
-- 104: NewOrBackModel.faultNow()I
noncomputable def d_faultNow_L9  (x1 : (Int × Int)) (C3 : ZC) : Option (((Int × Int) ⊕ (Unit ⊕ Int)) × ZC) :=
  zbs (α := Unit) (if ((x1.2)) < ((C3 73 0)) then (some (.inl (), C3)) else (if ((x1.2)) ≤ 0 then (some (.inr (.inr (.inl ())), C3)) else (some (.inl (), C3)))) fun y5 C7 => zbd (d_figureAt (x1.2) 0 7 C7) fun v12 C13 => if ((x1.1)) = 12 then (some (.inr (.inr (x1.2)), C13)) else (if ¬ v12 = ((-1)) then (zbd (d_figureAt (zadd (x1.2) 1) 0 7 C13) fun v18 C19 => if v18 = ((-1)) then (some (.inr (.inr ((zadd (x1.2) 1))), C19)) else (if ¬ v18 = v12 then (zbd (d_figureAt (zadd (x1.2) 2) 1 9 C19) fun v24 C25 => if ¬ v24 = ((-1)) then (zg (0 ≤ (x1.1) ∧ (x1.1) < 13) (zg (0 ≤ (x1.1) ∧ (x1.1) < 13) (zg (0 ≤ (x1.1) ∧ (x1.1) < 13) (if ¬ ((zadd (x1.2) 3)) = (((zup2 (zup2 (zup2 C25 75 (x1.1).toNat v12) 76 (x1.1).toNat v18) 77 (x1.1).toNat v24) 73 0)) then (zg (0 ≤ (zadd (x1.2) 3) ∧ (zadd (x1.2) 3) < 300) (if (((zup2 (zup2 (zup2 C25 75 (x1.1).toNat v12) 76 (x1.1).toNat v18) 77 (x1.1).toNat v24) 74 (zadd (x1.2) 3).toNat)) = 59 then (some (.inl ((zadd (x1.1) 1), (zadd (zadd (x1.2) 3) 1)), zup2 (zup2 (zup2 C25 75 (x1.1).toNat v12) 76 (x1.1).toNat v18) 77 (x1.1).toNat v24)) else (some (.inr (.inr ((zadd (x1.2) 3))), zup2 (zup2 (zup2 C25 75 (x1.1).toNat v12) 76 (x1.1).toNat v18) 77 (x1.1).toNat v24)))) else (some (.inr (.inr (-1)), zup2 (zup2 (zup2 (zup2 C25 75 (x1.1).toNat v12) 76 (x1.1).toNat v18) 77 (x1.1).toNat v24) 72 2 (zadd (x1.1) 1))))))) else (some (.inr (.inr ((zadd (x1.2) 2))), C25))) else (some (.inr (.inr ((zadd (x1.2) 1))), C19)))) else (some (.inr (.inr (x1.2)), C13)))
noncomputable def d_faultNow  (C : ZC) : Option (Int × ZC) :=
  zbs (zloop (d_faultNow_L9) (0, 0) (zup2 C 72 2 0)) fun y4 C37 => some ((-1), C37)
set_option maxRecDepth 100000 in
theorem r_104 {d : Nat} {S : ZS} (hS : zShM S) {C : ZC} : zRq (zKi S) (d_faultNow C) (zR (d + 3) 104 0 [some (.inr (.inr (some 72))), none, none, none, none, none] [] S C) := by
  unfold d_faultNow
  refine zRq_rw (zb_104_0 hS) ?_
  refine zRq_bsf (f := (fun (xq : Unit) (jq : (Int × Int × Option ZV × Option ZV × Option ZV)) (Cq : ZC) => zR (d + 3) 104 160 [some (.inr (.inr (some 72))), some (.inl (jq.1)), some (.inl (jq.2.1)), (jq.2.2.1), (jq.2.2.2.1), (jq.2.2.2.2)] [] S Cq)) (zRq_loop (f := (fun (xq : (Int × Int)) (jq : (Option ZV × Option ZV × Option ZV)) (Cq : ZC) => zR (d + 3) 104 9 [some (.inr (.inr (some 72))), some (.inl (xq.1)), some (.inl (xq.2)), (jq.1), (jq.2.1), (jq.2.2)] [] S Cq)) (fun x1 j2 C3 => ?_) _ (none, none, none) _) (fun y4 j36 C37 => ?_)
  · unfold d_faultNow_L9
    refine zRq_bsf (f := (fun (xq : Unit) (jq : (Option ZV × Option ZV × Option ZV)) (Cq : ZC) => zR (d + 3) 104 23 [some (.inr (.inr (some 72))), some (.inl (x1.1)), some (.inl (x1.2)), (jq.1), (jq.2.1), (jq.2.2)] [] S Cq)) ?_ (fun y5 j6 C7 => ?_)
    · refine zRq_rw (zb_104_9 hS) ?_
      refine zRq_ite (fun h8 => ?_) (fun h9 => ?_)
      · exact zRq_lf fun r h => h ((j2.1), (j2.2.1), (j2.2.2))
      · refine zRq_rw (zb_104_19 hS) ?_
        refine zRq_ite (fun h10 => ?_) (fun h11 => ?_)
        · exact zRq_lf fun r h => h ((x1.1), (x1.2), (j2.1), (j2.2.1), (j2.2.2))
        · exact zRq_lf fun r h => h ((j2.1), (j2.2.1), (j2.2.2))
    · refine zRq_rw (zb_104_23 hS) ?_
      refine zRq_ci (r_105 hS) (fun v12 C13 => ?_)
      refine zRq_rw (zb_104_31 hS) ?_
      refine zRq_ite (fun h14 => ?_) (fun h15 => ?_)
      · refine zRq_rw (zb_104_43 hS) ?_
        exact zRq_rt fun r h => h
      · refine zRq_rw (zb_104_38 hS) ?_
        refine zRq_ite (fun h16 => ?_) (fun h17 => ?_)
        · refine zRq_rw (zb_104_45 hS) ?_
          refine zRq_ci (r_105 hS) (fun v18 C19 => ?_)
          refine zRq_rw (zb_104_55 hS) ?_
          refine zRq_ite (fun h20 => ?_) (fun h21 => ?_)
          · refine zRq_rw (zb_104_69 hS) ?_
            exact zRq_rt fun r h => h
          · refine zRq_rw (zb_104_63 hS) ?_
            refine zRq_ite (fun h22 => ?_) (fun h23 => ?_)
            · refine zRq_rw (zb_104_73 hS) ?_
              refine zRq_ci (r_105 hS) (fun v24 C25 => ?_)
              refine zRq_rw (zb_104_83 hS) ?_
              refine zRq_ite (fun h26 => ?_) (fun h27 => ?_)
              · refine zRq_rw (zb_104_95 hS) ?_
                refine zRq_g (fun h28 => ?_)
                refine zRq_g (fun h29 => ?_)
                refine zRq_g (fun h30 => ?_)
                refine zRq_ite (fun h31 => ?_) (fun h32 => ?_)
                · refine zRq_rw (zb_104_141 hS) ?_
                  refine zRq_g (fun h33 => ?_)
                  refine zRq_ite (fun h34 => ?_) (fun h35 => ?_)
                  · refine zRq_rw (zb_104_154 hS) ?_
                    exact zRq_lf fun r h => h (some (.inl v12), some (.inl v18), some (.inl v24))
                  · refine zRq_rw (zb_104_152 hS) ?_
                    exact zRq_rt fun r h => h
                · refine zRq_rw (zb_104_134 hS) ?_
                  exact zRq_rt fun r h => h
              · refine zRq_rw (zb_104_91 hS) ?_
                exact zRq_rt fun r h => h
            · refine zRq_rw (zb_104_69 hS) ?_
              exact zRq_rt fun r h => h
        · refine zRq_rw (zb_104_43 hS) ?_
          exact zRq_rt fun r h => h
  · refine zRq_rw (zb_104_160 hS) ?_
    exact zRq_rt fun r h => h
-- 103: NewOrBackModel.fault()I
noncomputable def d_fault  (C : ZC) : Option (Int × ZC) :=
  zbd (d_faultNow C) fun v1 C2 => some (v1, C2)
set_option maxRecDepth 100000 in
theorem r_103 {d : Nat} {S : ZS} (hS : zShM S) {C : ZC} : zRq (zKi S) (d_fault C) (zR (d + 4) 103 0 [some (.inr (.inr (some 72)))] [] S C) := by
  unfold d_fault
  refine zRq_rw (zb_103_0 hS) ?_
  refine zRq_ci (r_104 hS) (fun v1 C2 => ?_)
  refine zRq_rw (zb_103_4 hS) ?_
  exact zRq_rt fun r h => h
-- 107: NewOrBackModel.isWay(I)Z
noncomputable def d_isWay (l1 : Int) (C : ZC) : Option (Int × ZC) :=
  zbd (d_faultNow C) fun v1 C2 => zbd (d_in l1 0 (zsub (C2 72 2) 1) C2) fun v3 C4 => zg (v3 = 0 ∨ v3 = 1) (some (v3, C4))
set_option maxRecDepth 100000 in
theorem r_107 {d : Nat} {S : ZS} (hS : zShM S) {l1 : Int} {C : ZC} : zRq (zKi S) (d_isWay l1 C) (zR (d + 4) 107 0 [some (.inr (.inr (some 72))), some (.inl l1), none] [] S C) := by
  unfold d_isWay
  refine zRq_rw (zb_107_0 hS) ?_
  refine zRq_ci (r_104 hS) (fun v1 C2 => ?_)
  refine zRq_rw (zb_107_4 hS) ?_
  refine zRq_ci (r_101 hS) (fun v3 C4 => ?_)
  refine zRq_rw (zb_107_16 hS) ?_
  refine zRq_g (fun h => ?_)
  exact zRq_rt fun r h => h
-- 106: NewOrBackModel.way(II)I
noncomputable def d_way (l1 : Int) (l2 : Int) (C : ZC) : Option (Int × ZC) :=
  zbd (d_isWay l1 C) fun v1 C2 => if v1 = 0 then (some ((-2), C2)) else (zbd (d_in l2 0 2 C2) fun v5 C6 => if v5 = 0 then (some ((-2), C6)) else (if ¬ l2 = 0 then (if ¬ l2 = 1 then (zg (0 ≤ l1 ∧ l1 < 13) (some ((C6 77 l1.toNat), C6))) else (zg (0 ≤ l1 ∧ l1 < 13) (some ((C6 76 l1.toNat), C6)))) else (zg (0 ≤ l1 ∧ l1 < 13) (some ((C6 75 l1.toNat), C6)))))
set_option maxRecDepth 100000 in
theorem r_106 {d : Nat} {S : ZS} (hS : zShM S) {l1 : Int} {l2 : Int} {C : ZC} : zRq (zKi S) (d_way l1 l2 C) (zR (d + 5) 106 0 [some (.inr (.inr (some 72))), some (.inl l1), some (.inl l2)] [] S C) := by
  unfold d_way
  refine zRq_rw (zb_106_0 hS) ?_
  refine zRq_ci (r_107 hS) (fun v1 C2 => ?_)
  refine zRq_rw (zb_106_5 hS) ?_
  refine zRq_ite (fun h3 => ?_) (fun h4 => ?_)
  · refine zRq_rw (zb_106_53 hS) ?_
    refine zRq_rw (zb_106_55 hS) ?_
    exact zRq_rt fun r h => h
  · refine zRq_rw (zb_106_8 hS) ?_
    refine zRq_ci (r_101 hS) (fun v5 C6 => ?_)
    refine zRq_rw (zb_106_14 hS) ?_
    refine zRq_ite (fun h7 => ?_) (fun h8 => ?_)
    · refine zRq_rw (zb_106_53 hS) ?_
      refine zRq_rw (zb_106_55 hS) ?_
      exact zRq_rt fun r h => h
    · refine zRq_rw (zb_106_17 hS) ?_
      refine zRq_ite (fun h9 => ?_) (fun h10 => ?_)
      · refine zRq_rw (zb_106_30 hS) ?_
        refine zRq_ite (fun h11 => ?_) (fun h12 => ?_)
        · refine zRq_rw (zb_106_44 hS) ?_
          refine zRq_g (fun h13 => ?_)
          refine zRq_rw (zb_106_55 hS) ?_
          exact zRq_rt fun r h => h
        · refine zRq_rw (zb_106_35 hS) ?_
          refine zRq_g (fun h14 => ?_)
          refine zRq_rw (zb_106_55 hS) ?_
          exact zRq_rt fun r h => h
      · refine zRq_rw (zb_106_21 hS) ?_
        refine zRq_g (fun h15 => ?_)
        refine zRq_rw (zb_106_55 hS) ?_
        exact zRq_rt fun r h => h
-- 109: NewOrBackModel.isWalker(I)Z
noncomputable def d_isWalker (l0 : Int) (C : ZC) : Option (Int × ZC) :=
  zbd (d_in l0 0 3 C) fun v1 C2 => zg (v1 = 0 ∨ v1 = 1) (some (v1, C2))
set_option maxRecDepth 100000 in
theorem r_109 {d : Nat} {S : ZS} (hS : zShM S) {l0 : Int} {C : ZC} : zRq (zKi S) (d_isWalker l0 C) (zR (d + 2) 109 0 [some (.inl l0)] [] S C) := by
  unfold d_isWalker
  refine zRq_rw (zb_109_0 hS) ?_
  refine zRq_ci (r_101 hS) (fun v1 C2 => ?_)
  refine zRq_rw (zb_109_6 hS) ?_
  refine zRq_g (fun h => ?_)
  exact zRq_rt fun r h => h
-- 110: NewOrBackModel.isPlace(I)Z
noncomputable def d_isPlace (l0 : Int) (C : ZC) : Option (Int × ZC) :=
  zbd (d_in l0 0 7 C) fun v1 C2 => zg (v1 = 0 ∨ v1 = 1) (some (v1, C2))
set_option maxRecDepth 100000 in
theorem r_110 {d : Nat} {S : ZS} (hS : zShM S) {l0 : Int} {C : ZC} : zRq (zKi S) (d_isPlace l0 C) (zR (d + 2) 110 0 [some (.inl l0)] [] S C) := by
  unfold d_isPlace
  refine zRq_rw (zb_110_0 hS) ?_
  refine zRq_ci (r_101 hS) (fun v1 C2 => ?_)
  refine zRq_rw (zb_110_7 hS) ?_
  refine zRq_g (fun h => ?_)
  exact zRq_rt fun r h => h
-- 108: NewOrBackModel.home(II)I
noncomputable def d_home (l1 : Int) (l2 : Int) (C : ZC) : Option (Int × ZC) :=
  zbd (d_isWalker l1 C) fun v1 C2 => if v1 = 0 then (some ((-2), C2)) else (zbd (d_isPlace l2 C2) fun v5 C6 => if ¬ v5 = 0 then (zg (0 ≤ l1 ∧ l1 < 4) (zg (0 ≤ l1 ∧ l1 < 4) (some ((C6 78 l1.toNat), zup2 C6 78 l1.toNat l2)))) else (some ((-2), C6)))
set_option maxRecDepth 100000 in
theorem r_108 {d : Nat} {S : ZS} (hS : zShM S) {l1 : Int} {l2 : Int} {C : ZC} : zRq (zKi S) (d_home l1 l2 C) (zR (d + 3) 108 0 [some (.inr (.inr (some 72))), some (.inl l1), some (.inl l2), none] [] S C) := by
  unfold d_home
  refine zRq_rw (zb_108_0 hS) ?_
  refine zRq_ci (r_109 hS) (fun v1 C2 => ?_)
  refine zRq_rw (zb_108_4 hS) ?_
  refine zRq_ite (fun h3 => ?_) (fun h4 => ?_)
  · refine zRq_rw (zb_108_14 hS) ?_
    exact zRq_rt fun r h => h
  · refine zRq_rw (zb_108_7 hS) ?_
    refine zRq_ci (r_110 hS) (fun v5 C6 => ?_)
    refine zRq_rw (zb_108_11 hS) ?_
    refine zRq_ite (fun h7 => ?_) (fun h8 => ?_)
    · refine zRq_rw (zb_108_17 hS) ?_
      refine zRq_g (fun h9 => ?_)
      refine zRq_g (fun h10 => ?_)
      exact zRq_rt fun r h => h
    · refine zRq_rw (zb_108_14 hS) ?_
      exact zRq_rt fun r h => h
-- 112: NewOrBackModel.isSheet(I)Z
noncomputable def d_isSheet (l0 : Int) (C : ZC) : Option (Int × ZC) :=
  zbd (d_in l0 0 3 C) fun v1 C2 => zg (v1 = 0 ∨ v1 = 1) (some (v1, C2))
set_option maxRecDepth 100000 in
theorem r_112 {d : Nat} {S : ZS} (hS : zShM S) {l0 : Int} {C : ZC} : zRq (zKi S) (d_isSheet l0 C) (zR (d + 2) 112 0 [some (.inl l0)] [] S C) := by
  unfold d_isSheet
  refine zRq_rw (zb_112_0 hS) ?_
  refine zRq_ci (r_101 hS) (fun v1 C2 => ?_)
  refine zRq_rw (zb_112_6 hS) ?_
  refine zRq_g (fun h => ?_)
  exact zRq_rt fun r h => h
-- 113: NewOrBackModel.meets(I)I
noncomputable def d_meets (l1 : Int) (C : ZC) : Option (Int × ZC) :=
  some ((zsub (-10) l1), zup2 C 72 33 l1)
set_option maxRecDepth 100000 in
theorem r_113 {d : Nat} {S : ZS} (hS : zShM S) {l1 : Int} {C : ZC} : zRq (zKi S) (d_meets l1 C) (zR (d + 1) 113 0 [some (.inr (.inr (some 72))), some (.inl l1)] [] S C) := by
  unfold d_meets
  refine zRq_rw (zb_113_0 hS) ?_
  exact zRq_rt fun r h => h
-- 111: NewOrBackModel.read(II)I
noncomputable def d_read_L34 (l1 : Int) (l2 : Int) (x12 : Int) (C14 : ZC) : Option ((Int ⊕ Int) × ZC) :=
  zg (0 ≤ l1 ∧ l1 < 4) (if ((C14 93 l1.toNat)) ≤ x12 then (some (.inr x12, C14)) else (if 24 ≤ x12 then (some (.inr x12, C14)) else (zg (0 ≤ (zadd (zmul 48 l1) x12) ∧ (zadd (zmul 48 l1) x12) < 192) (zbd (d_in (C14 94 (zadd (zmul 48 l1) x12).toNat) 0 11 C14) fun v22 C23 => if v22 = 0 then (some (.inr x12, C23)) else (zg (0 ≤ (zadd (zmul 48 l1) x12) ∧ (zadd (zmul 48 l1) x12) < 192) (zg (0 ≤ (zadd (zmul 60 (zadd l2 1)) x12) ∧ (zadd (zmul 60 (zadd l2 1)) x12) < 300) (some (.inl (zadd x12 1), zup2 C23 74 (zadd (zmul 60 (zadd l2 1)) x12).toNat (zadd 97 (C23 94 (zadd (zmul 48 l1) x12).toNat))))))))))
noncomputable def d_read (l1 : Int) (l2 : Int) (C : ZC) : Option (Int × ZC) :=
  zbd (d_isSheet l1 C) fun v1 C2 => if v1 = 0 then (some ((-2), C2)) else (zbd (d_isWalker l2 C2) fun v5 C6 => if ¬ v5 = 0 then (zg (0 ≤ l1 ∧ l1 < 4) (if ¬ ((C6 91 l1.toNat)) = 0 then (zbd (zloop (d_read_L34 l1 l2) 0 C6) fun y15 C29 => zg (0 ≤ (zadd l2 1) ∧ (zadd l2 1) < 5) (some (y15, zup2 C29 73 (zadd l2 1).toNat y15))) else (zbd (d_meets 1 C6) fun v31 C32 => some (v31, C32)))) else (some ((-2), C6)))
set_option maxRecDepth 100000 in
theorem r_111 {d : Nat} {S : ZS} (hS : zShM S) {l1 : Int} {l2 : Int} {C : ZC} : zRq (zKi S) (d_read l1 l2 C) (zR (d + 3) 111 0 [some (.inr (.inr (some 72))), some (.inl l1), some (.inl l2), none] [] S C) := by
  unfold d_read
  refine zRq_rw (zb_111_0 hS) ?_
  refine zRq_ci (r_112 hS) (fun v1 C2 => ?_)
  refine zRq_rw (zb_111_4 hS) ?_
  refine zRq_ite (fun h3 => ?_) (fun h4 => ?_)
  · refine zRq_rw (zb_111_14 hS) ?_
    exact zRq_rt fun r h => h
  · refine zRq_rw (zb_111_7 hS) ?_
    refine zRq_ci (r_109 hS) (fun v5 C6 => ?_)
    refine zRq_rw (zb_111_11 hS) ?_
    refine zRq_ite (fun h7 => ?_) (fun h8 => ?_)
    · refine zRq_rw (zb_111_17 hS) ?_
      refine zRq_g (fun h9 => ?_)
      refine zRq_ite (fun h10 => ?_) (fun h11 => ?_)
      · refine zRq_rw (zb_111_32 hS) ?_
        refine zRq_bdf (f := (fun (xq : Int) (jq : Unit) (Cq : ZC) => zR (d + 3) 111 103 [some (.inr (.inr (some 72))), some (.inl l1), some (.inl l2), some (.inl xq)] [] S Cq)) (zRq_loop (f := (fun (xq : Int) (jq : Unit) (Cq : ZC) => zR (d + 3) 111 34 [some (.inr (.inr (some 72))), some (.inl l1), some (.inl l2), some (.inl xq)] [] S Cq)) (fun x12 j13 C14 => ?_) _ () _) (fun y15 j28 C29 => ?_)
        · unfold d_read_L34
          refine zRq_rw (zb_111_34 hS) ?_
          refine zRq_g (fun h16 => ?_)
          refine zRq_ite (fun h17 => ?_) (fun h18 => ?_)
          · exact zRq_lf fun r h => h ()
          · refine zRq_rw (zb_111_44 hS) ?_
            refine zRq_ite (fun h19 => ?_) (fun h20 => ?_)
            · exact zRq_lf fun r h => h ()
            · refine zRq_rw (zb_111_50 hS) ?_
              refine zRq_g (fun h21 => ?_)
              refine zRq_ci (r_101 hS) (fun v22 C23 => ?_)
              refine zRq_rw (zb_111_67 hS) ?_
              refine zRq_ite (fun h24 => ?_) (fun h25 => ?_)
              · exact zRq_lf fun r h => h ()
              · refine zRq_rw (zb_111_70 hS) ?_
                refine zRq_g (fun h26 => ?_)
                refine zRq_g (fun h27 => ?_)
                exact zRq_lf fun r h => h ()
        · refine zRq_rw (zb_111_103 hS) ?_
          refine zRq_g (fun h30 => ?_)
          exact zRq_rt fun r h => h
      · refine zRq_rw (zb_111_26 hS) ?_
        refine zRq_ci (r_113 hS) (fun v31 C32 => ?_)
        refine zRq_rw (zb_111_31 hS) ?_
        exact zRq_rt fun r h => h
    · refine zRq_rw (zb_111_14 hS) ?_
      exact zRq_rt fun r h => h
-- 117: NewOrBackModel.begins(I)V
noncomputable def d_begins (l1 : Int) (C : ZC) : Option (Int × ZC) :=
  some (0, zup2 (zup2 (zup2 (zup2 (zup2 (zup2 C 72 7 l1) 72 8 0) 72 9 0) 72 11 0) 72 12 (zshl 1 l1)) 72 13 (-1))
set_option maxRecDepth 100000 in
theorem r_117 {d : Nat} {S : ZS} (hS : zShM S) {l1 : Int} {C : ZC} : zRq (zKv S) (d_begins l1 C) (zR (d + 1) 117 0 [some (.inr (.inr (some 72))), some (.inl l1)] [] S C) := by
  unfold d_begins
  refine zRq_rw (zb_117_0 hS) ?_
  exact zRq_rt fun r h => h
-- 119: NewOrBackModel.isIn(II)Z
noncomputable def d_isIn (l0 : Int) (l1 : Int) (C : ZC) : Option (Int × ZC) :=
  if ¬ ((zand (zshr l0 l1) 1)) = 1 then (some (0, C)) else (some (1, C))
set_option maxRecDepth 100000 in
theorem r_119 {d : Nat} {S : ZS} (hS : zShM S) {l0 : Int} {l1 : Int} {C : ZC} : zRq (zKi S) (d_isIn l0 l1 C) (zR (d + 1) 119 0 [some (.inl l0), some (.inl l1)] [] S C) := by
  unfold d_isIn
  refine zRq_rw (zb_119_0 hS) ?_
  refine zRq_ite (fun h1 => ?_) (fun h2 => ?_)
  · refine zRq_rw (zb_119_13 hS) ?_
    refine zRq_rw (zb_119_14 hS) ?_
    exact zRq_rt fun r h => h
  · refine zRq_rw (zb_119_9 hS) ?_
    refine zRq_rw (zb_119_14 hS) ?_
    exact zRq_rt fun r h => h
-- 118: NewOrBackModel.mayBe(I)I
noncomputable def d_mayBe (l1 : Int) (C : ZC) : Option (Int × ZC) :=
  zbs (α := Unit) (zg (0 ≤ l1 ∧ l1 < 13) (if ((C 75 l1.toNat)) = ((C 72 7)) then (some (.inl (), C)) else (zg (0 ≤ l1 ∧ l1 < 13) (if ((C 76 l1.toNat)) = ((C 72 7)) then (some (.inl (), C)) else (some (.inr 0, C)))))) fun y1 C3 => zbd (d_isIn (C3 72 8) l1 C3) fun v10 C11 => if ¬ v10 = 0 then (if ((C11 72 9)) ≤ 0 then (some (0, C11)) else (zg (0 ≤ (zsub (C11 72 9) 1) ∧ (zsub (C11 72 9) 1) < 64) (if ¬ ((C11 79 (zsub (C11 72 9) 1).toNat)) = l1 then (some (0, C11)) else (some (2, C11))))) else (some (1, C11))
set_option maxRecDepth 100000 in
theorem r_118 {d : Nat} {S : ZS} (hS : zShM S) {l1 : Int} {C : ZC} : zRq (zKi S) (d_mayBe l1 C) (zR (d + 2) 118 0 [some (.inr (.inr (some 72))), some (.inl l1)] [] S C) := by
  unfold d_mayBe
  refine zRq_bsf (f := (fun (xq : Unit) (jq : Unit) (Cq : ZC) => zR (d + 2) 118 28 [some (.inr (.inr (some 72))), some (.inl l1)] [] S Cq)) ?_ (fun y1 j2 C3 => ?_)
  · refine zRq_rw (zb_118_0 hS) ?_
    refine zRq_g (fun h4 => ?_)
    refine zRq_ite (fun h5 => ?_) (fun h6 => ?_)
    · exact zRq_lf fun r h => h ()
    · refine zRq_rw (zb_118_13 hS) ?_
      refine zRq_g (fun h7 => ?_)
      refine zRq_ite (fun h8 => ?_) (fun h9 => ?_)
      · exact zRq_lf fun r h => h ()
      · refine zRq_rw (zb_118_26 hS) ?_
        exact zRq_rt fun r h => h
  · refine zRq_rw (zb_118_28 hS) ?_
    refine zRq_ci (r_119 hS) (fun v10 C11 => ?_)
    refine zRq_rw (zb_118_36 hS) ?_
    refine zRq_ite (fun h12 => ?_) (fun h13 => ?_)
    · refine zRq_rw (zb_118_43 hS) ?_
      refine zRq_ite (fun h14 => ?_) (fun h15 => ?_)
      · refine zRq_rw (zb_118_69 hS) ?_
        refine zRq_rw (zb_118_70 hS) ?_
        exact zRq_rt fun r h => h
      · refine zRq_rw (zb_118_50 hS) ?_
        refine zRq_g (fun h16 => ?_)
        refine zRq_ite (fun h17 => ?_) (fun h18 => ?_)
        · refine zRq_rw (zb_118_69 hS) ?_
          refine zRq_rw (zb_118_70 hS) ?_
          exact zRq_rt fun r h => h
        · refine zRq_rw (zb_118_65 hS) ?_
          refine zRq_rw (zb_118_70 hS) ?_
          exact zRq_rt fun r h => h
    · refine zRq_rw (zb_118_39 hS) ?_
      refine zRq_rw (zb_118_70 hS) ?_
      exact zRq_rt fun r h => h
-- 121: NewOrBackModel.beyond(II)I
noncomputable def d_beyond (l1 : Int) (l2 : Int) (C : ZC) : Option (Int × ZC) :=
  zg (0 ≤ l1 ∧ l1 < 13) (if ¬ ((C 75 l1.toNat)) = l2 then (zg (0 ≤ l1 ∧ l1 < 13) (some ((C 75 l1.toNat), C))) else (zg (0 ≤ l1 ∧ l1 < 13) (some ((C 76 l1.toNat), C))))
set_option maxRecDepth 100000 in
theorem r_121 {d : Nat} {S : ZS} (hS : zShM S) {l1 : Int} {l2 : Int} {C : ZC} : zRq (zKi S) (d_beyond l1 l2 C) (zR (d + 1) 121 0 [some (.inr (.inr (some 72))), some (.inl l1), some (.inl l2)] [] S C) := by
  unfold d_beyond
  refine zRq_rw (zb_121_0 hS) ?_
  refine zRq_g (fun h1 => ?_)
  refine zRq_ite (fun h2 => ?_) (fun h3 => ?_)
  · refine zRq_rw (zb_121_19 hS) ?_
    refine zRq_g (fun h4 => ?_)
    refine zRq_rw (zb_121_25 hS) ?_
    exact zRq_rt fun r h => h
  · refine zRq_rw (zb_121_10 hS) ?_
    refine zRq_g (fun h5 => ?_)
    refine zRq_rw (zb_121_25 hS) ?_
    exact zRq_rt fun r h => h
-- 120: NewOrBackModel.steps(II)V
noncomputable def d_steps (l1 : Int) (l2 : Int) (C : ZC) : Option (Int × ZC) :=
  zbd (d_beyond l1 (C 72 7) C) fun v1 C2 => if ¬ l2 = 1 then (some (0, zup2 (zup2 C2 72 7 v1) 72 9 (zsub ((zup2 C2 72 7 v1) 72 9) 1))) else (zg (0 ≤ ((zup2 (zup2 C2 72 7 v1) 72 8 (zor ((zup2 C2 72 7 v1) 72 8) (zshl 1 l1))) 72 9) ∧ ((zup2 (zup2 C2 72 7 v1) 72 8 (zor ((zup2 C2 72 7 v1) 72 8) (zshl 1 l1))) 72 9) < 64) (some (0, zup2 (zup2 (zup2 (zup2 C2 72 7 v1) 72 8 (zor ((zup2 C2 72 7 v1) 72 8) (zshl 1 l1))) 79 ((zup2 (zup2 C2 72 7 v1) 72 8 (zor ((zup2 C2 72 7 v1) 72 8) (zshl 1 l1))) 72 9).toNat l1) 72 9 (zadd ((zup2 (zup2 (zup2 C2 72 7 v1) 72 8 (zor ((zup2 C2 72 7 v1) 72 8) (zshl 1 l1))) 79 ((zup2 (zup2 C2 72 7 v1) 72 8 (zor ((zup2 C2 72 7 v1) 72 8) (zshl 1 l1))) 72 9).toNat l1) 72 9) 1))))
set_option maxRecDepth 100000 in
theorem r_120 {d : Nat} {S : ZS} (hS : zShM S) {l1 : Int} {l2 : Int} {C : ZC} : zRq (zKv S) (d_steps l1 l2 C) (zR (d + 2) 120 0 [some (.inr (.inr (some 72))), some (.inl l1), some (.inl l2)] [] S C) := by
  unfold d_steps
  refine zRq_rw (zb_120_0 hS) ?_
  refine zRq_ci (r_121 hS) (fun v1 C2 => ?_)
  refine zRq_rw (zb_120_10 hS) ?_
  refine zRq_ite (fun h3 => ?_) (fun h4 => ?_)
  · refine zRq_rw (zb_120_53 hS) ?_
    refine zRq_rw (zb_120_63 hS) ?_
    exact zRq_rt fun r h => h
  · refine zRq_rw (zb_120_18 hS) ?_
    refine zRq_g (fun h5 => ?_)
    refine zRq_rw (zb_120_63 hS) ?_
    exact zRq_rt fun r h => h
-- 116: NewOrBackModel.walks(I)V
noncomputable def d_walks_L17 (l1 : Int) (x6 : Int) (C8 : ZC) : Option ((Int ⊕ Unit) × ZC) :=
  zg (0 ≤ (zadd l1 1) ∧ (zadd l1 1) < 5) (if ((C8 73 (zadd l1 1).toNat)) ≤ x6 then (some (.inr (), C8)) else (if ¬ ((C8 72 13)) = ((-1)) then (some (.inr (), C8)) else (zg (0 ≤ (zadd (zmul 60 (zadd l1 1)) x6) ∧ (zadd (zmul 60 (zadd l1 1)) x6) < 300) (zbd (d_in (zsub (C8 74 (zadd (zmul 60 (zadd l1 1)) x6).toNat) 97) 0 (zsub (C8 72 2) 1) C8) fun v16 C17 => zbd (α := Int) (if v16 = 0 then (some (0, C17)) else (zbd (d_mayBe (zsub (C8 74 (zadd (zmul 60 (zadd l1 1)) x6).toNat) 97) C17) fun v23 C24 => some (v23, C24))) fun y18 C20 => if ¬ y18 = 0 then (zbd (d_steps (zsub (C8 74 (zadd (zmul 60 (zadd l1 1)) x6).toNat) 97) y18 C20) fun v27 C28 => zg (0 ≤ (zsub (C8 74 (zadd (zmul 60 (zadd l1 1)) x6).toNat) 97) ∧ (zsub (C8 74 (zadd (zmul 60 (zadd l1 1)) x6).toNat) 97) < 13) (some (.inl (zadd x6 1), zup2 (zup2 C28 72 11 (zadd (C28 72 11) (C28 77 (zsub (C8 74 (zadd (zmul 60 (zadd l1 1)) x6).toNat) 97).toNat))) 72 12 (zor ((zup2 C28 72 11 (zadd (C28 72 11) (C28 77 (zsub (C8 74 (zadd (zmul 60 (zadd l1 1)) x6).toNat) 97).toNat))) 72 12) (zshl 1 ((zup2 C28 72 11 (zadd (C28 72 11) (C28 77 (zsub (C8 74 (zadd (zmul 60 (zadd l1 1)) x6).toNat) 97).toNat))) 72 7)))))) else (some (.inl (zadd x6 1), zup2 C20 72 13 x6))))))
noncomputable def d_walks (l1 : Int) (C : ZC) : Option (Int × ZC) :=
  zbd (d_faultNow C) fun v1 C2 => zg (0 ≤ l1 ∧ l1 < 4) (zbd (d_begins (C2 78 l1.toNat) C2) fun v4 C5 => zbd (zloop (d_walks_L17 l1) 0 C5) fun y9 C31 => some (0, C31))
set_option maxRecDepth 100000 in
theorem r_116 {d : Nat} {S : ZS} (hS : zShM S) {l1 : Int} {C : ZC} : zRq (zKv S) (d_walks l1 C) (zR (d + 4) 116 0 [some (.inr (.inr (some 72))), some (.inl l1), none, none, none, none] [] S C) := by
  unfold d_walks
  refine zRq_rw (zb_116_0 hS) ?_
  refine zRq_ci (r_104 hS) (fun v1 C2 => ?_)
  refine zRq_rw (zb_116_4 hS) ?_
  refine zRq_g (fun h3 => ?_)
  refine zRq_cv (r_117 hS) (fun v4 C5 => ?_)
  refine zRq_rw (zb_116_15 hS) ?_
  refine zRq_bdf (f := (fun (xq : Unit) (jq : (Int × Option ZV × Option ZV)) (Cq : ZC) => zR (d + 4) 116 140 [some (.inr (.inr (some 72))), some (.inl l1), some (.inl v1), some (.inl (jq.1)), (jq.2.1), (jq.2.2)] [] S Cq)) (zRq_loop (f := (fun (xq : Int) (jq : (Option ZV × Option ZV)) (Cq : ZC) => zR (d + 4) 116 17 [some (.inr (.inr (some 72))), some (.inl l1), some (.inl v1), some (.inl xq), (jq.1), (jq.2)] [] S Cq)) (fun x6 j7 C8 => ?_) _ (none, none) _) (fun y9 j30 C31 => ?_)
  · unfold d_walks_L17
    refine zRq_rw (zb_116_17 hS) ?_
    refine zRq_g (fun h10 => ?_)
    refine zRq_ite (fun h11 => ?_) (fun h12 => ?_)
    · exact zRq_lf fun r h => h (x6, (j7.1), (j7.2))
    · refine zRq_rw (zb_116_29 hS) ?_
      refine zRq_ite (fun h13 => ?_) (fun h14 => ?_)
      · exact zRq_lf fun r h => h (x6, (j7.1), (j7.2))
      · refine zRq_rw (zb_116_37 hS) ?_
        refine zRq_g (fun h15 => ?_)
        refine zRq_ci (r_101 hS) (fun v16 C17 => ?_)
        refine zRq_bdf (f := (fun (xq : Int) (jq : Option ZV) (Cq : ZC) => zR (d + 4) 116 80 [some (.inr (.inr (some 72))), some (.inl l1), some (.inl v1), some (.inl x6), some (.inl (zsub (C8 74 (zadd (zmul 60 (zadd l1 1)) x6).toNat) 97)), jq] [.inl xq] S Cq)) ?_ (fun y18 j19 C20 => ?_)
        · refine zRq_rw (zb_116_67 hS) ?_
          refine zRq_ite (fun h21 => ?_) (fun h22 => ?_)
          · refine zRq_rw (zb_116_79 hS) ?_
            exact zRq_lf fun r h => h (j7.2)
          · refine zRq_rw (zb_116_70 hS) ?_
            refine zRq_ci (r_118 hS) (fun v23 C24 => ?_)
            refine zRq_rw (zb_116_76 hS) ?_
            exact zRq_lf fun r h => h (j7.2)
        · refine zRq_rw (zb_116_80 hS) ?_
          refine zRq_ite (fun h25 => ?_) (fun h26 => ?_)
          · refine zRq_rw (zb_116_95 hS) ?_
            refine zRq_cv (r_120 hS) (fun v27 C28 => ?_)
            refine zRq_rw (zb_116_103 hS) ?_
            refine zRq_g (fun h29 => ?_)
            refine zRq_rw (zb_116_134 hS) ?_
            exact zRq_lf fun r h => h (some (.inl (zsub (C8 74 (zadd (zmul 60 (zadd l1 1)) x6).toNat) 97)), some (.inl y18))
          · refine zRq_rw (zb_116_87 hS) ?_
            refine zRq_rw (zb_116_134 hS) ?_
            exact zRq_lf fun r h => h (some (.inl (zsub (C8 74 (zadd (zmul 60 (zadd l1 1)) x6).toNat) 97)), some (.inl y18))
  · refine zRq_rw (zb_116_140 hS) ?_
    exact zRq_rt fun r h => h
-- 115: NewOrBackModel.judgedOf(I)I
noncomputable def d_judgedOf (l1 : Int) (C : ZC) : Option (Int × ZC) :=
  zbd (d_walks l1 C) fun v1 C2 => some ((C2 72 13), C2)
set_option maxRecDepth 100000 in
theorem r_115 {d : Nat} {S : ZS} (hS : zShM S) {l1 : Int} {C : ZC} : zRq (zKi S) (d_judgedOf l1 C) (zR (d + 5) 115 0 [some (.inr (.inr (some 72))), some (.inl l1)] [] S C) := by
  unfold d_judgedOf
  refine zRq_rw (zb_115_0 hS) ?_
  refine zRq_cv (r_116 hS) (fun v1 C2 => ?_)
  refine zRq_rw (zb_115_5 hS) ?_
  exact zRq_rt fun r h => h
-- 114: NewOrBackModel.judged(I)I
noncomputable def d_judged (l1 : Int) (C : ZC) : Option (Int × ZC) :=
  zbd (d_isWalker l1 C) fun v1 C2 => if v1 = 0 then (some ((-2), C2)) else (zbd (d_judgedOf l1 C2) fun v5 C6 => some (v5, C6))
set_option maxRecDepth 100000 in
theorem r_114 {d : Nat} {S : ZS} (hS : zShM S) {l1 : Int} {C : ZC} : zRq (zKi S) (d_judged l1 C) (zR (d + 6) 114 0 [some (.inr (.inr (some 72))), some (.inl l1)] [] S C) := by
  unfold d_judged
  refine zRq_rw (zb_114_0 hS) ?_
  refine zRq_ci (r_109 hS) (fun v1 C2 => ?_)
  refine zRq_rw (zb_114_4 hS) ?_
  refine zRq_ite (fun h3 => ?_) (fun h4 => ?_)
  · refine zRq_rw (zb_114_15 hS) ?_
    refine zRq_rw (zb_114_17 hS) ?_
    exact zRq_rt fun r h => h
  · refine zRq_rw (zb_114_7 hS) ?_
    refine zRq_ci (r_115 hS) (fun v5 C6 => ?_)
    refine zRq_rw (zb_114_12 hS) ?_
    refine zRq_rw (zb_114_17 hS) ?_
    exact zRq_rt fun r h => h
-- 123: NewOrBackModel.placeOf(I)I
noncomputable def d_placeOf (l1 : Int) (C : ZC) : Option (Int × ZC) :=
  zbd (d_walks l1 C) fun v1 C2 => some ((C2 72 7), C2)
set_option maxRecDepth 100000 in
theorem r_123 {d : Nat} {S : ZS} (hS : zShM S) {l1 : Int} {C : ZC} : zRq (zKi S) (d_placeOf l1 C) (zR (d + 5) 123 0 [some (.inr (.inr (some 72))), some (.inl l1)] [] S C) := by
  unfold d_placeOf
  refine zRq_rw (zb_123_0 hS) ?_
  refine zRq_cv (r_116 hS) (fun v1 C2 => ?_)
  refine zRq_rw (zb_123_5 hS) ?_
  exact zRq_rt fun r h => h
-- 122: NewOrBackModel.place(I)I
noncomputable def d_place (l1 : Int) (C : ZC) : Option (Int × ZC) :=
  zbd (d_isWalker l1 C) fun v1 C2 => if v1 = 0 then (some ((-2), C2)) else (zbd (d_placeOf l1 C2) fun v5 C6 => some (v5, C6))
set_option maxRecDepth 100000 in
theorem r_122 {d : Nat} {S : ZS} (hS : zShM S) {l1 : Int} {C : ZC} : zRq (zKi S) (d_place l1 C) (zR (d + 6) 122 0 [some (.inr (.inr (some 72))), some (.inl l1)] [] S C) := by
  unfold d_place
  refine zRq_rw (zb_122_0 hS) ?_
  refine zRq_ci (r_109 hS) (fun v1 C2 => ?_)
  refine zRq_rw (zb_122_4 hS) ?_
  refine zRq_ite (fun h3 => ?_) (fun h4 => ?_)
  · refine zRq_rw (zb_122_15 hS) ?_
    refine zRq_rw (zb_122_17 hS) ?_
    exact zRq_rt fun r h => h
  · refine zRq_rw (zb_122_7 hS) ?_
    refine zRq_ci (r_123 hS) (fun v5 C6 => ?_)
    refine zRq_rw (zb_122_12 hS) ?_
    refine zRq_rw (zb_122_17 hS) ?_
    exact zRq_rt fun r h => h
-- 125: NewOrBackModel.openOf(II)I
noncomputable def d_openOf (l1 : Int) (l2 : Int) (C : ZC) : Option (Int × ZC) :=
  zbd (d_walks l1 C) fun v1 C2 => if ¬ l2 = ((-1)) then (if ((C2 72 9)) ≤ l2 then (some ((-1), C2)) else (zg (0 ≤ l2 ∧ l2 < 64) (some ((C2 79 l2.toNat), C2)))) else (some ((C2 72 9), C2))
set_option maxRecDepth 100000 in
theorem r_125 {d : Nat} {S : ZS} (hS : zShM S) {l1 : Int} {l2 : Int} {C : ZC} : zRq (zKi S) (d_openOf l1 l2 C) (zR (d + 5) 125 0 [some (.inr (.inr (some 72))), some (.inl l1), some (.inl l2)] [] S C) := by
  unfold d_openOf
  refine zRq_rw (zb_125_0 hS) ?_
  refine zRq_cv (r_116 hS) (fun v1 C2 => ?_)
  refine zRq_rw (zb_125_5 hS) ?_
  refine zRq_ite (fun h3 => ?_) (fun h4 => ?_)
  · refine zRq_rw (zb_125_17 hS) ?_
    refine zRq_ite (fun h5 => ?_) (fun h6 => ?_)
    · refine zRq_rw (zb_125_34 hS) ?_
      refine zRq_rw (zb_125_35 hS) ?_
      exact zRq_rt fun r h => h
    · refine zRq_rw (zb_125_25 hS) ?_
      refine zRq_g (fun h7 => ?_)
      refine zRq_rw (zb_125_35 hS) ?_
      exact zRq_rt fun r h => h
  · refine zRq_rw (zb_125_10 hS) ?_
    refine zRq_rw (zb_125_35 hS) ?_
    exact zRq_rt fun r h => h
-- 124: NewOrBackModel.open(II)I
noncomputable def d_open (l1 : Int) (l2 : Int) (C : ZC) : Option (Int × ZC) :=
  zbd (d_isWalker l1 C) fun v1 C2 => if v1 = 0 then (some ((-2), C2)) else (if l2 < ((-1)) then (some ((-2), C2)) else (zbd (d_openOf l1 l2 C2) fun v7 C8 => some (v7, C8)))
set_option maxRecDepth 100000 in
theorem r_124 {d : Nat} {S : ZS} (hS : zShM S) {l1 : Int} {l2 : Int} {C : ZC} : zRq (zKi S) (d_open l1 l2 C) (zR (d + 6) 124 0 [some (.inr (.inr (some 72))), some (.inl l1), some (.inl l2)] [] S C) := by
  unfold d_open
  refine zRq_rw (zb_124_0 hS) ?_
  refine zRq_ci (r_109 hS) (fun v1 C2 => ?_)
  refine zRq_rw (zb_124_4 hS) ?_
  refine zRq_ite (fun h3 => ?_) (fun h4 => ?_)
  · refine zRq_rw (zb_124_21 hS) ?_
    refine zRq_rw (zb_124_23 hS) ?_
    exact zRq_rt fun r h => h
  · refine zRq_rw (zb_124_7 hS) ?_
    refine zRq_ite (fun h5 => ?_) (fun h6 => ?_)
    · refine zRq_rw (zb_124_21 hS) ?_
      refine zRq_rw (zb_124_23 hS) ?_
      exact zRq_rt fun r h => h
    · refine zRq_rw (zb_124_12 hS) ?_
      refine zRq_ci (r_125 hS) (fun v7 C8 => ?_)
      refine zRq_rw (zb_124_18 hS) ?_
      refine zRq_rw (zb_124_23 hS) ?_
      exact zRq_rt fun r h => h
-- 127: NewOrBackModel.goneOf(I)I
noncomputable def d_goneOf (l1 : Int) (C : ZC) : Option (Int × ZC) :=
  zbd (d_walks l1 C) fun v1 C2 => some ((C2 72 8), C2)
set_option maxRecDepth 100000 in
theorem r_127 {d : Nat} {S : ZS} (hS : zShM S) {l1 : Int} {C : ZC} : zRq (zKi S) (d_goneOf l1 C) (zR (d + 5) 127 0 [some (.inr (.inr (some 72))), some (.inl l1)] [] S C) := by
  unfold d_goneOf
  refine zRq_rw (zb_127_0 hS) ?_
  refine zRq_cv (r_116 hS) (fun v1 C2 => ?_)
  refine zRq_rw (zb_127_5 hS) ?_
  exact zRq_rt fun r h => h
-- 126: NewOrBackModel.gone(I)I
noncomputable def d_gone (l1 : Int) (C : ZC) : Option (Int × ZC) :=
  zbd (d_isWalker l1 C) fun v1 C2 => if v1 = 0 then (some ((-2), C2)) else (zbd (d_goneOf l1 C2) fun v5 C6 => some (v5, C6))
set_option maxRecDepth 100000 in
theorem r_126 {d : Nat} {S : ZS} (hS : zShM S) {l1 : Int} {C : ZC} : zRq (zKi S) (d_gone l1 C) (zR (d + 6) 126 0 [some (.inr (.inr (some 72))), some (.inl l1)] [] S C) := by
  unfold d_gone
  refine zRq_rw (zb_126_0 hS) ?_
  refine zRq_ci (r_109 hS) (fun v1 C2 => ?_)
  refine zRq_rw (zb_126_4 hS) ?_
  refine zRq_ite (fun h3 => ?_) (fun h4 => ?_)
  · refine zRq_rw (zb_126_15 hS) ?_
    refine zRq_rw (zb_126_17 hS) ?_
    exact zRq_rt fun r h => h
  · refine zRq_rw (zb_126_7 hS) ?_
    refine zRq_ci (r_127 hS) (fun v5 C6 => ?_)
    refine zRq_rw (zb_126_12 hS) ?_
    refine zRq_rw (zb_126_17 hS) ?_
    exact zRq_rt fun r h => h
-- 129: NewOrBackModel.spentOf(I)I
noncomputable def d_spentOf (l1 : Int) (C : ZC) : Option (Int × ZC) :=
  zbd (d_walks l1 C) fun v1 C2 => some ((C2 72 11), C2)
set_option maxRecDepth 100000 in
theorem r_129 {d : Nat} {S : ZS} (hS : zShM S) {l1 : Int} {C : ZC} : zRq (zKi S) (d_spentOf l1 C) (zR (d + 5) 129 0 [some (.inr (.inr (some 72))), some (.inl l1)] [] S C) := by
  unfold d_spentOf
  refine zRq_rw (zb_129_0 hS) ?_
  refine zRq_cv (r_116 hS) (fun v1 C2 => ?_)
  refine zRq_rw (zb_129_5 hS) ?_
  exact zRq_rt fun r h => h
-- 128: NewOrBackModel.spent(I)I
noncomputable def d_spent (l1 : Int) (C : ZC) : Option (Int × ZC) :=
  zbd (d_isWalker l1 C) fun v1 C2 => if v1 = 0 then (some ((-2), C2)) else (zbd (d_spentOf l1 C2) fun v5 C6 => some (v5, C6))
set_option maxRecDepth 100000 in
theorem r_128 {d : Nat} {S : ZS} (hS : zShM S) {l1 : Int} {C : ZC} : zRq (zKi S) (d_spent l1 C) (zR (d + 6) 128 0 [some (.inr (.inr (some 72))), some (.inl l1)] [] S C) := by
  unfold d_spent
  refine zRq_rw (zb_128_0 hS) ?_
  refine zRq_ci (r_109 hS) (fun v1 C2 => ?_)
  refine zRq_rw (zb_128_4 hS) ?_
  refine zRq_ite (fun h3 => ?_) (fun h4 => ?_)
  · refine zRq_rw (zb_128_15 hS) ?_
    refine zRq_rw (zb_128_17 hS) ?_
    exact zRq_rt fun r h => h
  · refine zRq_rw (zb_128_7 hS) ?_
    refine zRq_ci (r_129 hS) (fun v5 C6 => ?_)
    refine zRq_rw (zb_128_12 hS) ?_
    refine zRq_rw (zb_128_17 hS) ?_
    exact zRq_rt fun r h => h

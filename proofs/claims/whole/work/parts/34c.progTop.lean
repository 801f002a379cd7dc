/-! Layer 2: the methods as programs over the ints (written by wip/whole/gend.py) -/
-- 59: NewOrBack.settle(I)V
noncomputable def c_N_settle_L25 (l1 : Int) (x8 : Int) (C10 : ZC) : Option ((Int ⊕ Unit) × ZC) :=
  if 4 ≤ x8 then (some (.inr (), C10)) else (if l1 = 0 then (zg (0 ≤ x8 ∧ x8 < 4) (zg (0 ≤ (zadd x8 1) ∧ (zadd x8 1) < 5) (zg (0 ≤ (zadd x8 1) ∧ (zadd x8 1) < 5) (zbd (c_Walk_follow (56 + 4 * x8.toNat) (3 + (zadd x8 1).toNat) (C10 8 (zadd x8 1).toNat) C10) fun v19 C20 => some (.inl (zadd x8 1), C20))))) else (if ¬ l1 = ((zadd x8 1)) then (some (.inl (zadd x8 1), C10)) else (zg (0 ≤ x8 ∧ x8 < 4) (zg (0 ≤ (zadd x8 1) ∧ (zadd x8 1) < 5) (zg (0 ≤ (zadd x8 1) ∧ (zadd x8 1) < 5) (zbd (c_Walk_follow (56 + 4 * x8.toNat) (3 + (zadd x8 1).toNat) (C10 8 (zadd x8 1).toNat) C10) fun v26 C27 => some (.inl (zadd x8 1), C27)))))))
noncomputable def c_N_settle (l1 : Int) (C : ZC) : Option (Int × ZC) :=
  zbd (α := Unit) (if ¬ l1 = 0 then (some ((), C)) else (zbd (c_Wood_take 3 (C 8 0) C) fun v6 C7 => some ((), C7))) fun y1 C3 => zbd (zloop (c_N_settle_L25 l1) 0 C3) fun y11 C29 => some (0, C29)
set_option maxRecDepth 100000 in
theorem r_59 {d : Nat} {S : ZS} (hS : zShC S) {l1 : Int} {C : ZC} : zRq (zKv S) (c_N_settle l1 C) (zR (d + 5) 59 0 [some (.inr (.inr (some 1))), some (.inl l1), none] [] S C) := by
  unfold c_N_settle
  refine zRq_bdf (f := (fun (xq : Unit) (jq : Option ZV) (Cq : ZC) => zR (d + 5) 59 23 [some (.inr (.inr (some 1))), some (.inl l1), jq] [] S Cq)) ?_ (fun y1 j2 C3 => ?_)
  · refine zRq_rw (zb_59_0 hS) ?_
    refine zRq_ite (fun h4 => ?_) (fun h5 => ?_)
    · exact zRq_lf fun r h => h none
    · refine zRq_rw (zb_59_4 hS) ?_
      refine zRq_cv (r_3 hS ⟨sk_3 hS, sl_3 hS⟩) (fun v6 C7 => ?_)
      exact zRq_lf fun r h => h none
  · refine zRq_rw (zb_59_23 hS) ?_
    refine zRq_bdf (f := (fun (xq : Unit) (jq : Int) (Cq : ZC) => zR (d + 5) 59 72 [some (.inr (.inr (some 1))), some (.inl l1), some (.inl jq)] [] S Cq)) (zRq_loop (f := (fun (xq : Int) (jq : Unit) (Cq : ZC) => zR (d + 5) 59 25 [some (.inr (.inr (some 1))), some (.inl l1), some (.inl xq)] [] S Cq)) (fun x8 j9 C10 => ?_) _ () _) (fun y11 j28 C29 => ?_)
    · unfold c_N_settle_L25
      refine zRq_rw (zb_59_25 hS) ?_
      refine zRq_ite (fun h12 => ?_) (fun h13 => ?_)
      · exact zRq_lf fun r h => h x8
      · refine zRq_rw (zb_59_30 hS) ?_
        refine zRq_ite (fun h14 => ?_) (fun h15 => ?_)
        · refine zRq_rw (zb_59_41 hS) ?_
          refine zRq_g (fun h16 => ?_)
          refine zRq_g (fun h17 => ?_)
          refine zRq_g (fun h18 => ?_)
          refine zRq_cv (r_10 hS (sa_w h16) (sa_i2 hS h17)) (fun v19 C20 => ?_)
          refine zRq_rw (zb_59_66 hS) ?_
          exact zRq_lf fun r h => h ()
        · refine zRq_rw (zb_59_34 hS) ?_
          refine zRq_ite (fun h21 => ?_) (fun h22 => ?_)
          · refine zRq_rw (zb_59_66 hS) ?_
            exact zRq_lf fun r h => h ()
          · refine zRq_rw (zb_59_41 hS) ?_
            refine zRq_g (fun h23 => ?_)
            refine zRq_g (fun h24 => ?_)
            refine zRq_g (fun h25 => ?_)
            refine zRq_cv (r_10 hS (sa_w h23) (sa_i2 hS h24)) (fun v26 C27 => ?_)
            refine zRq_rw (zb_59_66 hS) ?_
            exact zRq_lf fun r h => h ()
    · refine zRq_rw (zb_59_72 hS) ?_
      exact zRq_rt fun r h => h
-- 63: NewOrBack.roomOf(I)I
noncomputable def c_N_roomOf (l0 : Int) (C : ZC) : Option (Int × ZC) :=
  if ¬ l0 = 0 then (some (24, C)) else (some (60, C))
set_option maxRecDepth 100000 in
theorem r_63 {d : Nat} {S : ZS} (hS : zShC S) {l0 : Int} {C : ZC} : zRq (zKi S) (c_N_roomOf l0 C) (zR (d + 1) 63 0 [some (.inl l0)] [] S C) := by
  unfold c_N_roomOf
  refine zRq_rw (zb_63_0 hS) ?_
  refine zRq_ite (fun h1 => ?_) (fun h2 => ?_)
  · refine zRq_rw (zb_63_9 hS) ?_
    refine zRq_rw (zb_63_11 hS) ?_
    exact zRq_rt fun r h => h
  · refine zRq_rw (zb_63_4 hS) ?_
    refine zRq_rw (zb_63_11 hS) ?_
    exact zRq_rt fun r h => h
-- 62: NewOrBack.type(II)I
noncomputable def c_N_type (l1 : Int) (l2 : Int) (C : ZC) : Option (Int × ZC) :=
  zbd (c_N_within l1 5 C) fun v1 C2 => if v1 = 0 then (some ((-2), C2)) else (if l2 < 0 then (some ((-2), C2)) else (if l2 ≤ 255 then (zg (0 ≤ l1 ∧ l1 < 5) (zbd (c_N_roomOf l1 C2) fun v10 C11 => if ((C2 8 l1.toNat)) < v10 then (zg (0 ≤ l1 ∧ l1 < 5) (zg (0 ≤ (C2 8 l1.toNat) ∧ (C2 8 l1.toNat) < 60) (zg (0 ≤ l1 ∧ l1 < 5) (zbd (c_N_settle l1 (zup2 (zup2 C11 (3 + l1.toNat) (C2 8 l1.toNat).toNat l2) 8 l1.toNat (zadd (C2 8 l1.toNat) 1))) fun v17 C18 => some ((zadd (C2 8 l1.toNat) 1), C18))))) else (some ((-4), C11)))) else (some ((-2), C2))))
set_option maxRecDepth 100000 in
theorem r_62 {d : Nat} {S : ZS} (hS : zShC S) {l1 : Int} {l2 : Int} {C : ZC} : zRq (zKi S) (c_N_type l1 l2 C) (zR (d + 6) 62 0 [some (.inr (.inr (some 1))), some (.inl l1), some (.inl l2), none] [] S C) := by
  unfold c_N_type
  refine zRq_rw (zb_62_0 hS) ?_
  refine zRq_ci (r_60 hS) (fun v1 C2 => ?_)
  refine zRq_rw (zb_62_5 hS) ?_
  refine zRq_ite (fun h3 => ?_) (fun h4 => ?_)
  · refine zRq_rw (zb_62_19 hS) ?_
    exact zRq_rt fun r h => h
  · refine zRq_rw (zb_62_8 hS) ?_
    refine zRq_ite (fun h5 => ?_) (fun h6 => ?_)
    · refine zRq_rw (zb_62_19 hS) ?_
      exact zRq_rt fun r h => h
    · refine zRq_rw (zb_62_12 hS) ?_
      refine zRq_ite (fun h7 => ?_) (fun h8 => ?_)
      · refine zRq_rw (zb_62_22 hS) ?_
        refine zRq_g (fun h9 => ?_)
        refine zRq_ci (r_63 hS) (fun v10 C11 => ?_)
        refine zRq_rw (zb_62_34 hS) ?_
        refine zRq_ite (fun h12 => ?_) (fun h13 => ?_)
        · refine zRq_rw (zb_62_40 hS) ?_
          refine zRq_g (fun h14 => ?_)
          refine zRq_g (fun h15 => ?_)
          refine zRq_g (fun h16 => ?_)
          refine zRq_cv (r_59 hS) (fun v17 C18 => ?_)
          refine zRq_rw (zb_62_63 hS) ?_
          exact zRq_rt fun r h => h
        · refine zRq_rw (zb_62_37 hS) ?_
          exact zRq_rt fun r h => h
      · refine zRq_rw (zb_62_19 hS) ?_
        exact zRq_rt fun r h => h
-- 64: NewOrBack.wipe(I)I
noncomputable def c_N_wipe (l1 : Int) (C : ZC) : Option (Int × ZC) :=
  zbd (c_N_within l1 5 C) fun v1 C2 => if ¬ v1 = 0 then (zg (0 ≤ l1 ∧ l1 < 5) (zg (0 ≤ l1 ∧ l1 < 5) (zbd (c_N_settle l1 (zup2 C2 8 l1.toNat 0)) fun v7 C8 => some ((C2 8 l1.toNat), C8)))) else (some ((-2), C2))
set_option maxRecDepth 100000 in
theorem r_64 {d : Nat} {S : ZS} (hS : zShC S) {l1 : Int} {C : ZC} : zRq (zKi S) (c_N_wipe l1 C) (zR (d + 6) 64 0 [some (.inr (.inr (some 1))), some (.inl l1), none] [] S C) := by
  unfold c_N_wipe
  refine zRq_rw (zb_64_0 hS) ?_
  refine zRq_ci (r_60 hS) (fun v1 C2 => ?_)
  refine zRq_rw (zb_64_5 hS) ?_
  refine zRq_ite (fun h3 => ?_) (fun h4 => ?_)
  · refine zRq_rw (zb_64_11 hS) ?_
    refine zRq_g (fun h5 => ?_)
    refine zRq_g (fun h6 => ?_)
    refine zRq_cv (r_59 hS) (fun v7 C8 => ?_)
    refine zRq_rw (zb_64_30 hS) ?_
    exact zRq_rt fun r h => h
  · refine zRq_rw (zb_64_8 hS) ?_
    exact zRq_rt fun r h => h
-- 65: NewOrBack.fault()I
noncomputable def c_N_fault  (C : ZC) : Option (Int × ZC) :=
  some ((C 9 4), C)
set_option maxRecDepth 100000 in
theorem r_65 {d : Nat} {S : ZS} (hS : zShC S) {C : ZC} : zRq (zKi S) (c_N_fault C) (zR (d + 1) 65 0 [some (.inr (.inr (some 1)))] [] S C) := by
  unfold c_N_fault
  refine zRq_rw (zb_65_0 hS) ?_
  exact zRq_rt fun r h => h
-- 66: NewOrBack.way(II)I
noncomputable def c_N_way (l1 : Int) (l2 : Int) (C : ZC) : Option (Int × ZC) :=
  zbd (c_N_within l1 (C 9 3) C) fun v1 C2 => if v1 = 0 then (some ((-2), C2)) else (zbd (c_N_within l2 3 C2) fun v5 C6 => if ¬ v5 = 0 then (if ¬ l2 = 2 then (if ¬ l2 = 0 then (zg (0 ≤ l1 ∧ l1 < 12) (some ((C6 11 l1.toNat), C6))) else (zg (0 ≤ l1 ∧ l1 < 12) (some ((C6 10 l1.toNat), C6)))) else (zg (0 ≤ l1 ∧ l1 < 12) (some ((C6 12 l1.toNat), C6)))) else (some ((-2), C6)))
set_option maxRecDepth 100000 in
theorem r_66 {d : Nat} {S : ZS} (hS : zShC S) {l1 : Int} {l2 : Int} {C : ZC} : zRq (zKi S) (c_N_way l1 l2 C) (zR (d + 2) 66 0 [some (.inr (.inr (some 1))), some (.inl l1), some (.inl l2)] [] S C) := by
  unfold c_N_way
  refine zRq_rw (zb_66_0 hS) ?_
  refine zRq_ci (r_60 hS) (fun v1 C2 => ?_)
  refine zRq_rw (zb_66_11 hS) ?_
  refine zRq_ite (fun h3 => ?_) (fun h4 => ?_)
  · refine zRq_rw (zb_66_22 hS) ?_
    exact zRq_rt fun r h => h
  · refine zRq_rw (zb_66_14 hS) ?_
    refine zRq_ci (r_60 hS) (fun v5 C6 => ?_)
    refine zRq_rw (zb_66_19 hS) ?_
    refine zRq_ite (fun h7 => ?_) (fun h8 => ?_)
    · refine zRq_rw (zb_66_25 hS) ?_
      refine zRq_ite (fun h9 => ?_) (fun h10 => ?_)
      · refine zRq_rw (zb_66_40 hS) ?_
        refine zRq_ite (fun h11 => ?_) (fun h12 => ?_)
        · refine zRq_rw (zb_66_56 hS) ?_
          refine zRq_g (fun h13 => ?_)
          refine zRq_rw (zb_66_65 hS) ?_
          exact zRq_rt fun r h => h
        · refine zRq_rw (zb_66_44 hS) ?_
          refine zRq_g (fun h14 => ?_)
          refine zRq_rw (zb_66_65 hS) ?_
          exact zRq_rt fun r h => h
      · refine zRq_rw (zb_66_30 hS) ?_
        refine zRq_g (fun h15 => ?_)
        exact zRq_rt fun r h => h
    · refine zRq_rw (zb_66_22 hS) ?_
      exact zRq_rt fun r h => h
-- 67: NewOrBack.home(II)I
noncomputable def c_N_home (l1 : Int) (l2 : Int) (C : ZC) : Option (Int × ZC) :=
  zbd (c_N_within l1 4 C) fun v1 C2 => if v1 = 0 then (some ((-2), C2)) else (zbd (c_N_within l2 8 C2) fun v5 C6 => if ¬ v5 = 0 then (zg (0 ≤ l1 ∧ l1 < 4) (zg (0 ≤ l1 ∧ l1 < 4) (zbd (c_N_settle (zadd l1 1) (zup2 C6 (56 + 4 * l1.toNat) 4 l2)) fun v11 C12 => some ((C6 (56 + 4 * l1.toNat) 4), C12)))) else (some ((-2), C6)))
set_option maxRecDepth 100000 in
theorem r_67 {d : Nat} {S : ZS} (hS : zShC S) {l1 : Int} {l2 : Int} {C : ZC} : zRq (zKi S) (c_N_home l1 l2 C) (zR (d + 6) 67 0 [some (.inr (.inr (some 1))), some (.inl l1), some (.inl l2), none] [] S C) := by
  unfold c_N_home
  refine zRq_rw (zb_67_0 hS) ?_
  refine zRq_ci (r_60 hS) (fun v1 C2 => ?_)
  refine zRq_rw (zb_67_5 hS) ?_
  refine zRq_ite (fun h3 => ?_) (fun h4 => ?_)
  · refine zRq_rw (zb_67_17 hS) ?_
    exact zRq_rt fun r h => h
  · refine zRq_rw (zb_67_8 hS) ?_
    refine zRq_ci (r_60 hS) (fun v5 C6 => ?_)
    refine zRq_rw (zb_67_14 hS) ?_
    refine zRq_ite (fun h7 => ?_) (fun h8 => ?_)
    · refine zRq_rw (zb_67_20 hS) ?_
      refine zRq_g (fun h9 => ?_)
      refine zRq_g (fun h10 => ?_)
      refine zRq_cv (r_59 hS) (fun v11 C12 => ?_)
      refine zRq_rw (zb_67_47 hS) ?_
      exact zRq_rt fun r h => h
    · refine zRq_rw (zb_67_17 hS) ?_
      exact zRq_rt fun r h => h
-- 68: NewOrBack.read(II)I
noncomputable def c_N_read_L49 (l1 : Int) (l3 : Int) (x13 : Int) (C15 : ZC) : Option ((Int ⊕ Int) × ZC) :=
  if 24 ≤ x13 then (some (.inr x13, C15)) else (zg (0 ≤ l1 ∧ l1 < 4) (if ((C15 54 l1.toNat)) ≤ x13 then (some (.inr x13, C15)) else (zg (0 ≤ l1 ∧ l1 < 4) (zg (0 ≤ x13 ∧ x13 < 48) (zbd (c_N_within (C15 (50 + l1.toNat) x13.toNat) 12 C15) fun v24 C25 => if v24 = 0 then (some (.inr x13, C25)) else (zg (0 ≤ l3 ∧ l3 < 5) (zg (0 ≤ l1 ∧ l1 < 4) (zg (0 ≤ x13 ∧ x13 < 48) (zg (0 ≤ x13 ∧ x13 < 60) (some (.inl (zadd x13 1), zup2 C25 (3 + l3.toNat) x13.toNat (zadd 97 (C25 (50 + l1.toNat) x13.toNat)))))))))))))
noncomputable def c_N_read (l1 : Int) (l2 : Int) (C : ZC) : Option (Int × ZC) :=
  zbd (c_Sheets_has l1 C) fun v1 C2 => if v1 = 0 then (some ((-2), C2)) else (zbd (c_N_within l2 4 C2) fun v5 C6 => if ¬ v5 = 0 then (zbd (c_Sheets_isLost l1 C6) fun v9 C10 => if v9 = 0 then (zbd (zloop (c_N_read_L49 l1 (zadd l2 1)) 0 C10) fun y16 C33 => zg (0 ≤ (zadd l2 1) ∧ (zadd l2 1) < 5) (zbd (c_N_settle (zadd l2 1) (zup2 C33 8 (zadd l2 1).toNat y16)) fun v35 C36 => some (y16, C36))) else (zbd (c_Sheets_find 1 C10) fun v37 C38 => some (v37, C38))) else (some ((-2), C6)))
set_option maxRecDepth 100000 in
theorem r_68 {d : Nat} {S : ZS} (hS : zShC S) {l1 : Int} {l2 : Int} {C : ZC} : zRq (zKi S) (c_N_read l1 l2 C) (zR (d + 6) 68 0 [some (.inr (.inr (some 1))), some (.inl l1), some (.inl l2), none, none] [] S C) := by
  unfold c_N_read
  refine zRq_rw (zb_68_0 hS) ?_
  refine zRq_ci (r_50 hS) (fun v1 C2 => ?_)
  refine zRq_rw (zb_68_8 hS) ?_
  refine zRq_ite (fun h3 => ?_) (fun h4 => ?_)
  · refine zRq_rw (zb_68_19 hS) ?_
    exact zRq_rt fun r h => h
  · refine zRq_rw (zb_68_11 hS) ?_
    refine zRq_ci (r_60 hS) (fun v5 C6 => ?_)
    refine zRq_rw (zb_68_16 hS) ?_
    refine zRq_ite (fun h7 => ?_) (fun h8 => ?_)
    · refine zRq_rw (zb_68_22 hS) ?_
      refine zRq_ci (r_51 hS) (fun v9 C10 => ?_)
      refine zRq_rw (zb_68_30 hS) ?_
      refine zRq_ite (fun h11 => ?_) (fun h12 => ?_)
      · refine zRq_rw (zb_68_42 hS) ?_
        refine zRq_bdf (f := (fun (xq : Int) (jq : Unit) (Cq : ZC) => zR (d + 6) 68 120 [some (.inr (.inr (some 1))), some (.inl l1), some (.inl l2), some (.inl (zadd l2 1)), some (.inl xq)] [] S Cq)) (zRq_loop (f := (fun (xq : Int) (jq : Unit) (Cq : ZC) => zR (d + 6) 68 49 [some (.inr (.inr (some 1))), some (.inl l1), some (.inl l2), some (.inl (zadd l2 1)), some (.inl xq)] [] S Cq)) (fun x13 j14 C15 => ?_) _ () _) (fun y16 j32 C33 => ?_)
        · unfold c_N_read_L49
          refine zRq_rw (zb_68_49 hS) ?_
          refine zRq_ite (fun h17 => ?_) (fun h18 => ?_)
          · exact zRq_lf fun r h => h ()
          · refine zRq_rw (zb_68_56 hS) ?_
            refine zRq_g (fun h19 => ?_)
            refine zRq_ite (fun h20 => ?_) (fun h21 => ?_)
            · exact zRq_lf fun r h => h ()
            · refine zRq_rw (zb_68_70 hS) ?_
              refine zRq_g (fun h22 => ?_)
              refine zRq_g (fun h23 => ?_)
              refine zRq_ci (r_60 hS) (fun v24 C25 => ?_)
              refine zRq_rw (zb_68_87 hS) ?_
              refine zRq_ite (fun h26 => ?_) (fun h27 => ?_)
              · exact zRq_lf fun r h => h ()
              · refine zRq_rw (zb_68_90 hS) ?_
                refine zRq_g (fun h28 => ?_)
                refine zRq_g (fun h29 => ?_)
                refine zRq_g (fun h30 => ?_)
                refine zRq_g (fun h31 => ?_)
                exact zRq_lf fun r h => h ()
        · refine zRq_rw (zb_68_120 hS) ?_
          refine zRq_g (fun h34 => ?_)
          refine zRq_cv (r_59 hS) (fun v35 C36 => ?_)
          refine zRq_rw (zb_68_133 hS) ?_
          exact zRq_rt fun r h => h
      · refine zRq_rw (zb_68_33 hS) ?_
        refine zRq_ci (r_52 hS) (fun v37 C38 => ?_)
        refine zRq_rw (zb_68_41 hS) ?_
        exact zRq_rt fun r h => h
    · refine zRq_rw (zb_68_19 hS) ?_
      exact zRq_rt fun r h => h
-- 69: NewOrBack.judged(I)I
noncomputable def c_N_judged (l1 : Int) (C : ZC) : Option (Int × ZC) :=
  zbd (c_N_within l1 4 C) fun v1 C2 => if v1 = 0 then (some ((-2), C2)) else (zg (0 ≤ l1 ∧ l1 < 4) (some ((C2 (56 + 4 * l1.toNat) 10), C2)))
set_option maxRecDepth 100000 in
theorem r_69 {d : Nat} {S : ZS} (hS : zShC S) {l1 : Int} {C : ZC} : zRq (zKi S) (c_N_judged l1 C) (zR (d + 2) 69 0 [some (.inr (.inr (some 1))), some (.inl l1)] [] S C) := by
  unfold c_N_judged
  refine zRq_rw (zb_69_0 hS) ?_
  refine zRq_ci (r_60 hS) (fun v1 C2 => ?_)
  refine zRq_rw (zb_69_5 hS) ?_
  refine zRq_ite (fun h3 => ?_) (fun h4 => ?_)
  · refine zRq_rw (zb_69_20 hS) ?_
    refine zRq_rw (zb_69_22 hS) ?_
    exact zRq_rt fun r h => h
  · refine zRq_rw (zb_69_8 hS) ?_
    refine zRq_g (fun h5 => ?_)
    refine zRq_rw (zb_69_22 hS) ?_
    exact zRq_rt fun r h => h
-- 70: NewOrBack.place(I)I
noncomputable def c_N_place (l1 : Int) (C : ZC) : Option (Int × ZC) :=
  zbd (c_N_within l1 4 C) fun v1 C2 => if v1 = 0 then (some ((-2), C2)) else (zg (0 ≤ l1 ∧ l1 < 4) (some ((C2 (56 + 4 * l1.toNat) 5), C2)))
set_option maxRecDepth 100000 in
theorem r_70 {d : Nat} {S : ZS} (hS : zShC S) {l1 : Int} {C : ZC} : zRq (zKi S) (c_N_place l1 C) (zR (d + 2) 70 0 [some (.inr (.inr (some 1))), some (.inl l1)] [] S C) := by
  unfold c_N_place
  refine zRq_rw (zb_70_0 hS) ?_
  refine zRq_ci (r_60 hS) (fun v1 C2 => ?_)
  refine zRq_rw (zb_70_5 hS) ?_
  refine zRq_ite (fun h3 => ?_) (fun h4 => ?_)
  · refine zRq_rw (zb_70_20 hS) ?_
    refine zRq_rw (zb_70_22 hS) ?_
    exact zRq_rt fun r h => h
  · refine zRq_rw (zb_70_8 hS) ?_
    refine zRq_g (fun h5 => ?_)
    refine zRq_rw (zb_70_22 hS) ?_
    exact zRq_rt fun r h => h
-- 71: NewOrBack.open(II)I
noncomputable def c_N_open (l1 : Int) (l2 : Int) (C : ZC) : Option (Int × ZC) :=
  zbd (c_N_within l1 4 C) fun v1 C2 => if v1 = 0 then (some ((-2), C2)) else (if ((-1)) ≤ l2 then (zg (0 ≤ l1 ∧ l1 < 4) (if ¬ l2 = ((-1)) then (if ((C2 (56 + 4 * l1.toNat) 6)) ≤ l2 then (some ((-1), C2)) else (zg (0 ≤ l2 ∧ l2 < 12) (some ((C2 ((56 + 4 * l1.toNat) + 1) l2.toNat), C2)))) else (some ((C2 (56 + 4 * l1.toNat) 6), C2)))) else (some ((-2), C2)))
set_option maxRecDepth 100000 in
theorem r_71 {d : Nat} {S : ZS} (hS : zShC S) {l1 : Int} {l2 : Int} {C : ZC} : zRq (zKi S) (c_N_open l1 l2 C) (zR (d + 2) 71 0 [some (.inr (.inr (some 1))), some (.inl l1), some (.inl l2), none] [] S C) := by
  unfold c_N_open
  refine zRq_rw (zb_71_0 hS) ?_
  refine zRq_ci (r_60 hS) (fun v1 C2 => ?_)
  refine zRq_rw (zb_71_5 hS) ?_
  refine zRq_ite (fun h3 => ?_) (fun h4 => ?_)
  · refine zRq_rw (zb_71_13 hS) ?_
    exact zRq_rt fun r h => h
  · refine zRq_rw (zb_71_8 hS) ?_
    refine zRq_ite (fun h5 => ?_) (fun h6 => ?_)
    · refine zRq_rw (zb_71_16 hS) ?_
      refine zRq_g (fun h7 => ?_)
      refine zRq_ite (fun h8 => ?_) (fun h9 => ?_)
      · refine zRq_rw (zb_71_33 hS (sa_w h7)) ?_
        refine zRq_ite (fun h10 => ?_) (fun h11 => ?_)
        · refine zRq_rw (zb_71_50 hS (sa_w h7)) ?_
          refine zRq_rw (zb_71_51 hS (sa_w h7)) ?_
          exact zRq_rt fun r h => h
        · refine zRq_rw (zb_71_41 hS (sa_w h7)) ?_
          refine zRq_g (fun h12 => ?_)
          refine zRq_rw (zb_71_51 hS (sa_w h7)) ?_
          exact zRq_rt fun r h => h
      · refine zRq_rw (zb_71_28 hS (sa_w h7)) ?_
        exact zRq_rt fun r h => h
    · refine zRq_rw (zb_71_13 hS) ?_
      exact zRq_rt fun r h => h
-- 72: NewOrBack.gone(I)I
noncomputable def c_N_gone (l1 : Int) (C : ZC) : Option (Int × ZC) :=
  zbd (c_N_within l1 4 C) fun v1 C2 => if v1 = 0 then (some ((-2), C2)) else (zg (0 ≤ l1 ∧ l1 < 4) (some ((C2 (56 + 4 * l1.toNat) 7), C2)))
set_option maxRecDepth 100000 in
theorem r_72 {d : Nat} {S : ZS} (hS : zShC S) {l1 : Int} {C : ZC} : zRq (zKi S) (c_N_gone l1 C) (zR (d + 2) 72 0 [some (.inr (.inr (some 1))), some (.inl l1)] [] S C) := by
  unfold c_N_gone
  refine zRq_rw (zb_72_0 hS) ?_
  refine zRq_ci (r_60 hS) (fun v1 C2 => ?_)
  refine zRq_rw (zb_72_5 hS) ?_
  refine zRq_ite (fun h3 => ?_) (fun h4 => ?_)
  · refine zRq_rw (zb_72_20 hS) ?_
    refine zRq_rw (zb_72_22 hS) ?_
    exact zRq_rt fun r h => h
  · refine zRq_rw (zb_72_8 hS) ?_
    refine zRq_g (fun h5 => ?_)
    refine zRq_rw (zb_72_22 hS) ?_
    exact zRq_rt fun r h => h
-- 73: NewOrBack.spent(I)I
noncomputable def c_N_spent (l1 : Int) (C : ZC) : Option (Int × ZC) :=
  zbd (c_N_within l1 4 C) fun v1 C2 => if v1 = 0 then (some ((-2), C2)) else (zg (0 ≤ l1 ∧ l1 < 4) (some ((C2 (56 + 4 * l1.toNat) 8), C2)))
set_option maxRecDepth 100000 in
theorem r_73 {d : Nat} {S : ZS} (hS : zShC S) {l1 : Int} {C : ZC} : zRq (zKi S) (c_N_spent l1 C) (zR (d + 2) 73 0 [some (.inr (.inr (some 1))), some (.inl l1)] [] S C) := by
  unfold c_N_spent
  refine zRq_rw (zb_73_0 hS) ?_
  refine zRq_ci (r_60 hS) (fun v1 C2 => ?_)
  refine zRq_rw (zb_73_5 hS) ?_
  refine zRq_ite (fun h3 => ?_) (fun h4 => ?_)
  · refine zRq_rw (zb_73_20 hS) ?_
    refine zRq_rw (zb_73_22 hS) ?_
    exact zRq_rt fun r h => h
  · refine zRq_rw (zb_73_8 hS) ?_
    refine zRq_g (fun h5 => ?_)
    refine zRq_rw (zb_73_22 hS) ?_
    exact zRq_rt fun r h => h
-- 74: NewOrBack.may(II)I
noncomputable def c_N_may (l1 : Int) (l2 : Int) (C : ZC) : Option (Int × ZC) :=
  zbd (c_N_within l1 4 C) fun v1 C2 => if v1 = 0 then (some ((-2), C2)) else (zbd (c_N_within l2 (C2 9 3) C2) fun v5 C6 => if ¬ v5 = 0 then (zg (0 ≤ l1 ∧ l1 < 4) (zbd (c_Walk_kindOf (56 + 4 * l1.toNat) l2 C6) fun v10 C11 => some (v10, C11))) else (some ((-2), C6)))
set_option maxRecDepth 100000 in
theorem r_74 {d : Nat} {S : ZS} (hS : zShC S) {l1 : Int} {l2 : Int} {C : ZC} : zRq (zKi S) (c_N_may l1 l2 C) (zR (d + 3) 74 0 [some (.inr (.inr (some 1))), some (.inl l1), some (.inl l2)] [] S C) := by
  unfold c_N_may
  refine zRq_rw (zb_74_0 hS) ?_
  refine zRq_ci (r_60 hS) (fun v1 C2 => ?_)
  refine zRq_rw (zb_74_5 hS) ?_
  refine zRq_ite (fun h3 => ?_) (fun h4 => ?_)
  · refine zRq_rw (zb_74_22 hS) ?_
    exact zRq_rt fun r h => h
  · refine zRq_rw (zb_74_8 hS) ?_
    refine zRq_ci (r_60 hS) (fun v5 C6 => ?_)
    refine zRq_rw (zb_74_19 hS) ?_
    refine zRq_ite (fun h7 => ?_) (fun h8 => ?_)
    · refine zRq_rw (zb_74_25 hS) ?_
      refine zRq_g (fun h9 => ?_)
      refine zRq_ci (r_12 hS (sa_w h9)) (fun v10 C11 => ?_)
      refine zRq_rw (zb_74_35 hS) ?_
      exact zRq_rt fun r h => h
    · refine zRq_rw (zb_74_22 hS) ?_
      exact zRq_rt fun r h => h
-- 75: NewOrBack.soon(II)I
noncomputable def c_N_soon (l1 : Int) (l2 : Int) (C : ZC) : Option (Int × ZC) :=
  zbd (c_N_within l1 4 C) fun v1 C2 => if v1 = 0 then (some ((-2), C2)) else (zbd (c_N_within l2 8 C2) fun v5 C6 => if ¬ v5 = 0 then (zg (0 ≤ l1 ∧ l1 < 4) (zbd (c_Walk_soonTo (56 + 4 * l1.toNat) l2 C6) fun v10 C11 => some (v10, C11))) else (some ((-2), C6)))
set_option maxRecDepth 100000 in
theorem r_75 {d : Nat} {S : ZS} (hS : zShC S) {l1 : Int} {l2 : Int} {C : ZC} : zRq (zKi S) (c_N_soon l1 l2 C) (zR (d + 2) 75 0 [some (.inr (.inr (some 1))), some (.inl l1), some (.inl l2)] [] S C) := by
  unfold c_N_soon
  refine zRq_rw (zb_75_0 hS) ?_
  refine zRq_ci (r_60 hS) (fun v1 C2 => ?_)
  refine zRq_rw (zb_75_5 hS) ?_
  refine zRq_ite (fun h3 => ?_) (fun h4 => ?_)
  · refine zRq_rw (zb_75_17 hS) ?_
    exact zRq_rt fun r h => h
  · refine zRq_rw (zb_75_8 hS) ?_
    refine zRq_ci (r_60 hS) (fun v5 C6 => ?_)
    refine zRq_rw (zb_75_14 hS) ?_
    refine zRq_ite (fun h7 => ?_) (fun h8 => ?_)
    · refine zRq_rw (zb_75_20 hS) ?_
      refine zRq_g (fun h9 => ?_)
      refine zRq_ci (r_18 hS (sa_w h9)) (fun v10 C11 => ?_)
      refine zRq_rw (zb_75_30 hS) ?_
      exact zRq_rt fun r h => h
    · refine zRq_rw (zb_75_17 hS) ?_
      exact zRq_rt fun r h => h
-- 76: NewOrBack.still(I)I
noncomputable def c_N_still (l1 : Int) (C : ZC) : Option (Int × ZC) :=
  zbd (c_N_within l1 4 C) fun v1 C2 => if v1 = 0 then (some ((-2), C2)) else (zg (0 ≤ l1 ∧ l1 < 4) (some ((C2 (56 + 4 * l1.toNat) 11), C2)))
set_option maxRecDepth 100000 in
theorem r_76 {d : Nat} {S : ZS} (hS : zShC S) {l1 : Int} {C : ZC} : zRq (zKi S) (c_N_still l1 C) (zR (d + 2) 76 0 [some (.inr (.inr (some 1))), some (.inl l1)] [] S C) := by
  unfold c_N_still
  refine zRq_rw (zb_76_0 hS) ?_
  refine zRq_ci (r_60 hS) (fun v1 C2 => ?_)
  refine zRq_rw (zb_76_5 hS) ?_
  refine zRq_ite (fun h3 => ?_) (fun h4 => ?_)
  · refine zRq_rw (zb_76_20 hS) ?_
    refine zRq_rw (zb_76_22 hS) ?_
    exact zRq_rt fun r h => h
  · refine zRq_rw (zb_76_8 hS) ?_
    refine zRq_g (fun h5 => ?_)
    refine zRq_rw (zb_76_22 hS) ?_
    exact zRq_rt fun r h => h
-- 77: NewOrBack.never(I)I
noncomputable def c_N_never (l1 : Int) (C : ZC) : Option (Int × ZC) :=
  zbd (c_N_within l1 4 C) fun v1 C2 => if v1 = 0 then (some ((-2), C2)) else (zg (0 ≤ l1 ∧ l1 < 4) (zg (0 ≤ l1 ∧ l1 < 4) (some ((zand (C2 (56 + 4 * l1.toNat) 9) (zxor (C2 (56 + 4 * l1.toNat) 11) (-1))), C2))))
set_option maxRecDepth 100000 in
theorem r_77 {d : Nat} {S : ZS} (hS : zShC S) {l1 : Int} {C : ZC} : zRq (zKi S) (c_N_never l1 C) (zR (d + 2) 77 0 [some (.inr (.inr (some 1))), some (.inl l1)] [] S C) := by
  unfold c_N_never
  refine zRq_rw (zb_77_0 hS) ?_
  refine zRq_ci (r_60 hS) (fun v1 C2 => ?_)
  refine zRq_rw (zb_77_5 hS) ?_
  refine zRq_ite (fun h3 => ?_) (fun h4 => ?_)
  · refine zRq_rw (zb_77_32 hS) ?_
    refine zRq_rw (zb_77_34 hS) ?_
    exact zRq_rt fun r h => h
  · refine zRq_rw (zb_77_8 hS) ?_
    refine zRq_g (fun h5 => ?_)
    refine zRq_g (fun h6 => ?_)
    refine zRq_rw (zb_77_34 hS) ?_
    exact zRq_rt fun r h => h
-- 78: NewOrBack.keeps(III)I
noncomputable def c_N_keeps (l1 : Int) (l2 : Int) (l3 : Int) (C : ZC) : Option (Int × ZC) :=
  zbd (c_N_within l1 4 C) fun v1 C2 => if v1 = 0 then (some ((-2), C2)) else (zbd (c_N_within l2 (C2 9 3) C2) fun v5 C6 => if v5 = 0 then (some ((-2), C6)) else (zbd (c_N_within l3 256 C6) fun v9 C10 => if ¬ v9 = 0 then (zg (0 ≤ l1 ∧ l1 < 4) (zbd (c_Walk_become 14 (56 + 4 * l1.toNat) C10) fun v14 C15 => zbd (c_Walk_kindOf 14 l2 C15) fun v16 C17 => if ¬ v16 = 0 then (zbd (c_Walk_step 14 l2 v16 C17) fun v20 C21 => zbd (c_Walk_look 14 0 C21) fun v22 C23 => if ¬ ((zand l3 (zxor (C23 14 11) (-1)))) = 0 then (some (0, C23)) else (some (1, C23))) else (some ((-3), C17)))) else (some ((-2), C10))))
set_option maxRecDepth 100000 in
theorem r_78 {d : Nat} {S : ZS} (hS : zShC S) {l1 : Int} {l2 : Int} {l3 : Int} {C : ZC} : zRq (zKi S) (c_N_keeps l1 l2 l3 C) (zR (d + 4) 78 0 [some (.inr (.inr (some 1))), some (.inl l1), some (.inl l2), some (.inl l3), none] [] S C) := by
  unfold c_N_keeps
  refine zRq_rw (zb_78_0 hS) ?_
  refine zRq_ci (r_60 hS) (fun v1 C2 => ?_)
  refine zRq_rw (zb_78_5 hS) ?_
  refine zRq_ite (fun h3 => ?_) (fun h4 => ?_)
  · refine zRq_rw (zb_78_32 hS) ?_
    exact zRq_rt fun r h => h
  · refine zRq_rw (zb_78_8 hS) ?_
    refine zRq_ci (r_60 hS) (fun v5 C6 => ?_)
    refine zRq_rw (zb_78_19 hS) ?_
    refine zRq_ite (fun h7 => ?_) (fun h8 => ?_)
    · refine zRq_rw (zb_78_32 hS) ?_
      exact zRq_rt fun r h => h
    · refine zRq_rw (zb_78_22 hS) ?_
      refine zRq_ci (r_60 hS) (fun v9 C10 => ?_)
      refine zRq_rw (zb_78_29 hS) ?_
      refine zRq_ite (fun h11 => ?_) (fun h12 => ?_)
      · refine zRq_rw (zb_78_35 hS) ?_
        refine zRq_g (fun h13 => ?_)
        refine zRq_cv (r_19 hS (by unfold zisW; decide) (sa_w h13)) (fun v14 C15 => ?_)
        refine zRq_rw (zb_78_48 hS) ?_
        refine zRq_ci (r_12 hS (by unfold zisW; decide)) (fun v16 C17 => ?_)
        refine zRq_rw (zb_78_56 hS) ?_
        refine zRq_ite (fun h18 => ?_) (fun h19 => ?_)
        · refine zRq_rw (zb_78_66 hS) ?_
          refine zRq_cv (r_13 hS (by unfold zisW; decide)) (fun v20 C21 => ?_)
          refine zRq_rw (zb_78_76 hS) ?_
          refine zRq_cv (r_16 hS (by unfold zisW; decide)) (fun v22 C23 => ?_)
          refine zRq_rw (zb_78_84 hS) ?_
          refine zRq_ite (fun h24 => ?_) (fun h25 => ?_)
          · refine zRq_rw (zb_78_102 hS) ?_
            refine zRq_rw (zb_78_103 hS) ?_
            exact zRq_rt fun r h => h
          · refine zRq_rw (zb_78_98 hS) ?_
            refine zRq_rw (zb_78_103 hS) ?_
            exact zRq_rt fun r h => h
        · refine zRq_rw (zb_78_63 hS) ?_
          exact zRq_rt fun r h => h
      · refine zRq_rw (zb_78_32 hS) ?_
        exact zRq_rt fun r h => h
-- 79: NewOrBack.errands(III)I
noncomputable def c_N_errands (l1 : Int) (l2 : Int) (l3 : Int) (C : ZC) : Option (Int × ZC) :=
  zbd (c_N_within l1 4 C) fun v1 C2 => if v1 = 0 then (some ((-2), C2)) else (zbd (c_N_within l2 256 C2) fun v5 C6 => if v5 = 0 then (some ((-2), C6)) else (if ((-1)) ≤ l3 then (zg (0 ≤ l1 ∧ l1 < 4) (zbd (c_Integer_bitCount (C6 (56 + 4 * l1.toNat) 7) C6) fun v12 C13 => if ((zsub (C6 9 3) v12)) ≤ 6 then (zbd (c_Round_begin (56 + 4 * l1.toNat) l2 C13) fun v16 C17 => if ¬ l3 = ((-1)) then (zbd (c_Round_wayAt l3 C17) fun v20 C21 => some (v20, C21)) else (zbd (c_Round_minutes C17) fun v22 C23 => some (v22, C23))) else (some ((-4), C13)))) else (some ((-2), C6))))
set_option maxRecDepth 100000 in
theorem r_79 {d : Nat} {S : ZS} (hS : zShC S) {l1 : Int} {l2 : Int} {l3 : Int} {C : ZC} : zRq (zKi S) (c_N_errands l1 l2 l3 C) (zR (d + 7) 79 0 [some (.inr (.inr (some 1))), some (.inl l1), some (.inl l2), some (.inl l3), none] [] S C) := by
  unfold c_N_errands
  refine zRq_rw (zb_79_0 hS) ?_
  refine zRq_ci (r_60 hS) (fun v1 C2 => ?_)
  refine zRq_rw (zb_79_5 hS) ?_
  refine zRq_ite (fun h3 => ?_) (fun h4 => ?_)
  · refine zRq_rw (zb_79_23 hS) ?_
    exact zRq_rt fun r h => h
  · refine zRq_rw (zb_79_8 hS) ?_
    refine zRq_ci (r_60 hS) (fun v5 C6 => ?_)
    refine zRq_rw (zb_79_15 hS) ?_
    refine zRq_ite (fun h7 => ?_) (fun h8 => ?_)
    · refine zRq_rw (zb_79_23 hS) ?_
      exact zRq_rt fun r h => h
    · refine zRq_rw (zb_79_18 hS) ?_
      refine zRq_ite (fun h9 => ?_) (fun h10 => ?_)
      · refine zRq_rw (zb_79_26 hS) ?_
        refine zRq_g (fun h11 => ?_)
        refine zRq_ci (r_0 hS) (fun v12 C13 => ?_)
        refine zRq_rw (zb_79_49 hS (sa_w h11)) ?_
        refine zRq_ite (fun h14 => ?_) (fun h15 => ?_)
        · refine zRq_rw (zb_79_58 hS (sa_w h11)) ?_
          refine zRq_cv (r_24 hS (sa_w h11)) (fun v16 C17 => ?_)
          refine zRq_rw (zb_79_68 hS (sa_w h11)) ?_
          refine zRq_ite (fun h18 => ?_) (fun h19 => ?_)
          · refine zRq_rw (zb_79_83 hS (sa_w h11)) ?_
            refine zRq_ci (r_32 hS) (fun v20 C21 => ?_)
            refine zRq_rw (zb_79_91 hS (sa_w h11)) ?_
            exact zRq_rt fun r h => h
          · refine zRq_rw (zb_79_73 hS (sa_w h11)) ?_
            refine zRq_ci (r_31 hS) (fun v22 C23 => ?_)
            refine zRq_rw (zb_79_80 hS (sa_w h11)) ?_
            refine zRq_rw (zb_79_91 hS (sa_w h11)) ?_
            exact zRq_rt fun r h => h
        · refine zRq_rw (zb_79_55 hS (sa_w h11)) ?_
          exact zRq_rt fun r h => h
      · refine zRq_rw (zb_79_23 hS) ?_
        exact zRq_rt fun r h => h
-- 81: NewOrBack.areTwo(II)Z
noncomputable def c_N_areTwo (l0 : Int) (l1 : Int) (C : ZC) : Option (Int × ZC) :=
  zbd (c_N_within l0 4 C) fun v1 C2 => if v1 = 0 then (some (0, C2)) else (zbd (c_N_within l1 4 C2) fun v5 C6 => if v5 = 0 then (some (0, C6)) else (if l0 = l1 then (some (0, C6)) else (some (1, C6))))
set_option maxRecDepth 100000 in
theorem r_81 {d : Nat} {S : ZS} (hS : zShC S) {l0 : Int} {l1 : Int} {C : ZC} : zRq (zKi S) (c_N_areTwo l0 l1 C) (zR (d + 2) 81 0 [some (.inl l0), some (.inl l1)] [] S C) := by
  unfold c_N_areTwo
  refine zRq_rw (zb_81_0 hS) ?_
  refine zRq_ci (r_60 hS) (fun v1 C2 => ?_)
  refine zRq_rw (zb_81_5 hS) ?_
  refine zRq_ite (fun h3 => ?_) (fun h4 => ?_)
  · refine zRq_rw (zb_81_25 hS) ?_
    refine zRq_rw (zb_81_26 hS) ?_
    exact zRq_rt fun r h => h
  · refine zRq_rw (zb_81_8 hS) ?_
    refine zRq_ci (r_60 hS) (fun v5 C6 => ?_)
    refine zRq_rw (zb_81_13 hS) ?_
    refine zRq_ite (fun h7 => ?_) (fun h8 => ?_)
    · refine zRq_rw (zb_81_25 hS) ?_
      refine zRq_rw (zb_81_26 hS) ?_
      exact zRq_rt fun r h => h
    · refine zRq_rw (zb_81_16 hS) ?_
      refine zRq_ite (fun h9 => ?_) (fun h10 => ?_)
      · refine zRq_rw (zb_81_25 hS) ?_
        refine zRq_rw (zb_81_26 hS) ?_
        exact zRq_rt fun r h => h
      · refine zRq_rw (zb_81_21 hS) ?_
        refine zRq_rw (zb_81_26 hS) ?_
        exact zRq_rt fun r h => h
-- 80: NewOrBack.meeting(III)I
noncomputable def c_N_meeting_L28 (l1 : Int) (l2 : Int) (l3 : Int) (x9 : (Int × Int × Int)) (C11 : ZC) : Option (((Int × Int × Int) ⊕ (Int × Int)) × ZC) :=
  if 8 ≤ ((x9.2.2)) then (some (.inr (((x9.1), (x9.2.1))), C11)) else (zg (0 ≤ l1 ∧ l1 < 4) (zbd (c_Walk_soonTo (56 + 4 * l1.toNat) (x9.2.2) C11) fun v16 C17 => zg (0 ≤ l2 ∧ l2 < 4) (zbd (c_Walk_soonTo (56 + 4 * l2.toNat) (x9.2.2) C17) fun v19 C20 => if v16 = ((-1)) then (some (.inl ((x9.1), (x9.2.1), (zadd (x9.2.2) 1)), C20)) else (if v19 = ((-1)) then (some (.inl ((x9.1), (x9.2.1), (zadd (x9.2.2) 1)), C20)) else (if ((x9.1)) = ((-1)) then (some (.inl ((x9.2.2), (if v16 < v19 then v19 else v16), (zadd (x9.2.2) 1)), C20)) else (if ((x9.2.1)) ≤ ((if v16 < v19 then v19 else v16)) then (some (.inl ((x9.1), (x9.2.1), (zadd (x9.2.2) 1)), C20)) else (some (.inl ((x9.2.2), (if v16 < v19 then v19 else v16), (zadd (x9.2.2) 1)), C20))))))))
noncomputable def c_N_meeting (l1 : Int) (l2 : Int) (l3 : Int) (C : ZC) : Option (Int × ZC) :=
  zbd (c_N_areTwo l1 l2 C) fun v1 C2 => if v1 = 0 then (some ((-2), C2)) else (zbd (c_N_within l3 2 C2) fun v5 C6 => if ¬ v5 = 0 then (zbd (zloop (c_N_meeting_L28 l1 l2 l3) ((-1), (-1), 0) C6) fun y12 C30 => if ¬ l3 = 0 then (some ((y12.2), C30)) else (some ((y12.1), C30))) else (some ((-2), C6)))
set_option maxRecDepth 100000 in
theorem r_80 {d : Nat} {S : ZS} (hS : zShC S) {l1 : Int} {l2 : Int} {l3 : Int} {C : ZC} : zRq (zKi S) (c_N_meeting l1 l2 l3 C) (zR (d + 3) 80 0 [some (.inr (.inr (some 1))), some (.inl l1), some (.inl l2), some (.inl l3), none, none, none, none, none, none] [] S C) := by
  unfold c_N_meeting
  refine zRq_rw (zb_80_0 hS) ?_
  refine zRq_ci (r_81 hS) (fun v1 C2 => ?_)
  refine zRq_rw (zb_80_5 hS) ?_
  refine zRq_ite (fun h3 => ?_) (fun h4 => ?_)
  · refine zRq_rw (zb_80_16 hS) ?_
    exact zRq_rt fun r h => h
  · refine zRq_rw (zb_80_8 hS) ?_
    refine zRq_ci (r_60 hS) (fun v5 C6 => ?_)
    refine zRq_rw (zb_80_13 hS) ?_
    refine zRq_ite (fun h7 => ?_) (fun h8 => ?_)
    · refine zRq_rw (zb_80_19 hS) ?_
      refine zRq_bdf (f := (fun (xq : (Int × Int)) (jq : (Int × Option ZV × Option ZV × Option ZV)) (Cq : ZC) => zR (d + 3) 80 109 [some (.inr (.inr (some 1))), some (.inl l1), some (.inl l2), some (.inl l3), some (.inl (xq.1)), some (.inl (xq.2)), some (.inl (jq.1)), (jq.2.1), (jq.2.2.1), (jq.2.2.2)] [] S Cq)) (zRq_loop (f := (fun (xq : (Int × Int × Int)) (jq : (Option ZV × Option ZV × Option ZV)) (Cq : ZC) => zR (d + 3) 80 28 [some (.inr (.inr (some 1))), some (.inl l1), some (.inl l2), some (.inl l3), some (.inl (xq.1)), some (.inl (xq.2.1)), some (.inl (xq.2.2)), (jq.1), (jq.2.1), (jq.2.2)] [] S Cq)) (fun x9 j10 C11 => ?_) _ (none, none, none) _) (fun y12 j29 C30 => ?_)
      · unfold c_N_meeting_L28
        refine zRq_rw (zb_80_28 hS) ?_
        refine zRq_ite (fun h13 => ?_) (fun h14 => ?_)
        · exact zRq_lf fun r h => h ((x9.2.2), (j10.1), (j10.2.1), (j10.2.2))
        · refine zRq_rw (zb_80_35 hS) ?_
          refine zRq_g (fun h15 => ?_)
          refine zRq_ci (r_18 hS (sa_w h15)) (fun v16 C17 => ?_)
          refine zRq_rw (zb_80_46 hS) ?_
          refine zRq_g (fun h18 => ?_)
          refine zRq_ci (r_18 hS (sa_w h18)) (fun v19 C20 => ?_)
          refine zRq_rw (zb_80_59 hS) ?_
          refine zRq_ite (fun h21 => ?_) (fun h22 => ?_)
          · refine zRq_rw (zb_80_103 hS) ?_
            exact zRq_lf fun r h => h (some (.inl v16), some (.inl v19), some (.inl (if v16 < v19 then v19 else v16)))
          · refine zRq_rw (zb_80_76 hS) ?_
            refine zRq_ite (fun h23 => ?_) (fun h24 => ?_)
            · refine zRq_rw (zb_80_103 hS) ?_
              exact zRq_lf fun r h => h (some (.inl v16), some (.inl v19), some (.inl (if v16 < v19 then v19 else v16)))
            · refine zRq_rw (zb_80_82 hS) ?_
              refine zRq_ite (fun h25 => ?_) (fun h26 => ?_)
              · refine zRq_rw (zb_80_95 hS) ?_
                refine zRq_rw (zb_80_103 hS) ?_
                exact zRq_lf fun r h => h (some (.inl v16), some (.inl v19), some (.inl (if v16 < v19 then v19 else v16)))
              · refine zRq_rw (zb_80_88 hS) ?_
                refine zRq_ite (fun h27 => ?_) (fun h28 => ?_)
                · refine zRq_rw (zb_80_103 hS) ?_
                  exact zRq_lf fun r h => h (some (.inl v16), some (.inl v19), some (.inl (if v16 < v19 then v19 else v16)))
                · refine zRq_rw (zb_80_95 hS) ?_
                  refine zRq_rw (zb_80_103 hS) ?_
                  exact zRq_lf fun r h => h (some (.inl v16), some (.inl v19), some (.inl (if v16 < v19 then v19 else v16)))
      · refine zRq_rw (zb_80_109 hS) ?_
        refine zRq_ite (fun h31 => ?_) (fun h32 => ?_)
        · refine zRq_rw (zb_80_118 hS) ?_
          refine zRq_rw (zb_80_120 hS) ?_
          exact zRq_rt fun r h => h
        · refine zRq_rw (zb_80_113 hS) ?_
          refine zRq_rw (zb_80_120 hS) ?_
          exact zRq_rt fun r h => h
    · refine zRq_rw (zb_80_16 hS) ?_
      exact zRq_rt fun r h => h
-- 82: NewOrBack.lent(II)I
noncomputable def c_N_lent (l1 : Int) (l2 : Int) (C : ZC) : Option (Int × ZC) :=
  zbd (c_N_areTwo l1 l2 C) fun v1 C2 => if ¬ v1 = 0 then (zg (0 ≤ l2 ∧ l2 < 4) (zbd (c_Walk_become 14 (56 + 4 * l2.toNat) C2) fun v6 C7 => zg (0 ≤ l1 ∧ l1 < 4) (zbd (c_Walk_look 14 0 (zup2 C7 14 7 (zor (C7 14 7) (C7 (56 + 4 * l1.toNat) 7)))) fun v9 C10 => some ((C10 14 11), C10)))) else (some ((-2), C2))
set_option maxRecDepth 100000 in
theorem r_82 {d : Nat} {S : ZS} (hS : zShC S) {l1 : Int} {l2 : Int} {C : ZC} : zRq (zKi S) (c_N_lent l1 l2 C) (zR (d + 4) 82 0 [some (.inr (.inr (some 1))), some (.inl l1), some (.inl l2)] [] S C) := by
  unfold c_N_lent
  refine zRq_rw (zb_82_0 hS) ?_
  refine zRq_ci (r_81 hS) (fun v1 C2 => ?_)
  refine zRq_rw (zb_82_5 hS) ?_
  refine zRq_ite (fun h3 => ?_) (fun h4 => ?_)
  · refine zRq_rw (zb_82_11 hS) ?_
    refine zRq_g (fun h5 => ?_)
    refine zRq_cv (r_19 hS (by unfold zisW; decide) (sa_w h5)) (fun v6 C7 => ?_)
    refine zRq_rw (zb_82_24 hS) ?_
    refine zRq_g (fun h8 => ?_)
    refine zRq_cv (r_16 hS (by unfold zisW; decide)) (fun v9 C10 => ?_)
    refine zRq_rw (zb_82_53 hS) ?_
    exact zRq_rt fun r h => h
  · refine zRq_rw (zb_82_8 hS) ?_
    exact zRq_rt fun r h => h
-- 83: NewOrBack.lost(II)I
noncomputable def c_N_lost (l1 : Int) (l2 : Int) (C : ZC) : Option (Int × ZC) :=
  zbd (c_N_within l1 4 C) fun v1 C2 => if v1 = 0 then (some ((-2), C2)) else (zbd (c_N_within l2 (zshl 1 (C2 9 3)) C2) fun v5 C6 => if ¬ v5 = 0 then (zg (0 ≤ l1 ∧ l1 < 4) (zbd (c_Walk_become 14 (56 + 4 * l1.toNat) C6) fun v10 C11 => zbd (c_Walk_look 14 l2 C11) fun v12 C13 => zbd (c_N_has (C13 14 11) (C13 14 4) C13) fun v14 C15 => if v14 = 0 then (some (1, C15)) else (some (0, C15)))) else (some ((-2), C6)))
set_option maxRecDepth 100000 in
theorem r_83 {d : Nat} {S : ZS} (hS : zShC S) {l1 : Int} {l2 : Int} {C : ZC} : zRq (zKi S) (c_N_lost l1 l2 C) (zR (d + 4) 83 0 [some (.inr (.inr (some 1))), some (.inl l1), some (.inl l2)] [] S C) := by
  unfold c_N_lost
  refine zRq_rw (zb_83_0 hS) ?_
  refine zRq_ci (r_60 hS) (fun v1 C2 => ?_)
  refine zRq_rw (zb_83_5 hS) ?_
  refine zRq_ite (fun h3 => ?_) (fun h4 => ?_)
  · refine zRq_rw (zb_83_24 hS) ?_
    exact zRq_rt fun r h => h
  · refine zRq_rw (zb_83_8 hS) ?_
    refine zRq_ci (r_60 hS) (fun v5 C6 => ?_)
    refine zRq_rw (zb_83_21 hS) ?_
    refine zRq_ite (fun h7 => ?_) (fun h8 => ?_)
    · refine zRq_rw (zb_83_27 hS) ?_
      refine zRq_g (fun h9 => ?_)
      refine zRq_cv (r_19 hS (by unfold zisW; decide) (sa_w h9)) (fun v10 C11 => ?_)
      refine zRq_rw (zb_83_40 hS) ?_
      refine zRq_cv (r_16 hS (by unfold zisW; decide)) (fun v12 C13 => ?_)
      refine zRq_rw (zb_83_48 hS) ?_
      refine zRq_ci (r_61 hS) (fun v14 C15 => ?_)
      refine zRq_rw (zb_83_65 hS) ?_
      refine zRq_ite (fun h16 => ?_) (fun h17 => ?_)
      · refine zRq_rw (zb_83_72 hS) ?_
        refine zRq_rw (zb_83_73 hS) ?_
        exact zRq_rt fun r h => h
      · refine zRq_rw (zb_83_68 hS) ?_
        refine zRq_rw (zb_83_73 hS) ?_
        exact zRq_rt fun r h => h
    · refine zRq_rw (zb_83_24 hS) ?_
      exact zRq_rt fun r h => h
-- 86: NewOrBack.isFewer(II)Z
noncomputable def c_N_isFewer (l0 : Int) (l1 : Int) (C : ZC) : Option (Int × ZC) :=
  zbd (c_Integer_bitCount l0 C) fun v1 C2 => zbd (c_Integer_bitCount l1 C2) fun v3 C4 => if ((zsub v1 v3)) < 0 then (some (1, C4)) else (if ¬ ((zsub v1 v3)) = 0 then (some (0, C4)) else (if l1 ≤ l0 then (some (0, C4)) else (some (1, C4))))
set_option maxRecDepth 100000 in
theorem r_86 {d : Nat} {S : ZS} (hS : zShC S) {l0 : Int} {l1 : Int} {C : ZC} : zRq (zKi S) (c_N_isFewer l0 l1 C) (zR (d + 2) 86 0 [some (.inl l0), some (.inl l1), none] [] S C) := by
  unfold c_N_isFewer
  refine zRq_rw (zb_86_0 hS) ?_
  refine zRq_ci (r_0 hS) (fun v1 C2 => ?_)
  refine zRq_rw (zb_86_4 hS) ?_
  refine zRq_ci (r_0 hS) (fun v3 C4 => ?_)
  refine zRq_rw (zb_86_8 hS) ?_
  refine zRq_ite (fun h5 => ?_) (fun h6 => ?_)
  · refine zRq_rw (zb_86_23 hS) ?_
    refine zRq_rw (zb_86_28 hS) ?_
    exact zRq_rt fun r h => h
  · refine zRq_rw (zb_86_14 hS) ?_
    refine zRq_ite (fun h7 => ?_) (fun h8 => ?_)
    · refine zRq_rw (zb_86_27 hS) ?_
      refine zRq_rw (zb_86_28 hS) ?_
      exact zRq_rt fun r h => h
    · refine zRq_rw (zb_86_18 hS) ?_
      refine zRq_ite (fun h9 => ?_) (fun h10 => ?_)
      · refine zRq_rw (zb_86_27 hS) ?_
        refine zRq_rw (zb_86_28 hS) ?_
        exact zRq_rt fun r h => h
      · refine zRq_rw (zb_86_23 hS) ?_
        refine zRq_rw (zb_86_28 hS) ?_
        exact zRq_rt fun r h => h
-- 85: NewOrBack.fewestCut(LNewOrBack$Walk;)I
noncomputable def c_N_fewestCut_L4 (l1 : Nat) (x1 : (Int × Int)) (C3 : ZC) : Option (((Int × Int) ⊕ Int) × ZC) :=
  if 255 < ((x1.2)) then (some (.inr (x1.1), C3)) else (zbd (c_N_has (x1.2) (C3 l1 5) C3) fun v7 C8 => if v7 = 0 then (some (.inl ((x1.1), (zadd (x1.2) 1)), C8)) else (zbd (c_N_has (x1.2) (C8 l1 4) C8) fun v11 C12 => if ¬ v11 = 0 then (some (.inl ((x1.1), (zadd (x1.2) 1)), C12)) else (zbd (c_Wood_leadingOut (x1.2) C12) fun v15 C16 => zbd (c_Walk_leastOpenFrom l1 (x1.2) C16) fun v17 C18 => if ((x1.1)) = ((-1)) then (some (.inl ((zor (zand v15 (zxor (C16 l1 7) (-1))) (zshl 1 v17)), (zadd (x1.2) 1)), C18)) else (zbd (c_N_isFewer (zor (zand v15 (zxor (C16 l1 7) (-1))) (zshl 1 v17)) (x1.1) C18) fun v21 C22 => if v21 = 0 then (some (.inl ((x1.1), (zadd (x1.2) 1)), C22)) else (some (.inl ((zor (zand v15 (zxor (C16 l1 7) (-1))) (zshl 1 v17)), (zadd (x1.2) 1)), C22))))))
noncomputable def c_N_fewestCut (l1 : Nat) (C : ZC) : Option (Int × ZC) :=
  zbd (zloop (c_N_fewestCut_L4 l1) ((-1), 0) C) fun y4 C26 => some (y4, C26)
set_option maxRecDepth 100000 in
theorem r_85 {d : Nat} {S : ZS} (hS : zShC S) {l1 : Nat} (hl1 : zisW l1) {C : ZC} : zRq (zKi S) (c_N_fewestCut l1 C) (zR (d + 3) 85 0 [some (.inr (.inr (some 1))), some (.inr (.inr (some l1))), none, none, none] [] S C) := by
  unfold c_N_fewestCut
  refine zRq_rw (zb_85_0 hS hl1) ?_
  refine zRq_bdf (f := (fun (xq : Int) (jq : (Int × Option ZV)) (Cq : ZC) => zR (d + 3) 85 81 [some (.inr (.inr (some 1))), some (.inr (.inr (some l1))), some (.inl xq), some (.inl (jq.1)), (jq.2)] [] S Cq)) (zRq_loop (f := (fun (xq : (Int × Int)) (jq : Option ZV) (Cq : ZC) => zR (d + 3) 85 4 [some (.inr (.inr (some 1))), some (.inr (.inr (some l1))), some (.inl (xq.1)), some (.inl (xq.2)), jq] [] S Cq)) (fun x1 j2 C3 => ?_) _ none _) (fun y4 j25 C26 => ?_)
  · unfold c_N_fewestCut_L4
    refine zRq_rw (zb_85_4 hS hl1) ?_
    refine zRq_ite (fun h5 => ?_) (fun h6 => ?_)
    · exact zRq_lf fun r h => h ((x1.2), j2)
    · refine zRq_rw (zb_85_11 hS hl1) ?_
      refine zRq_ci (r_61 hS) (fun v7 C8 => ?_)
      refine zRq_rw (zb_85_19 hS hl1) ?_
      refine zRq_ite (fun h9 => ?_) (fun h10 => ?_)
      · refine zRq_rw (zb_85_75 hS hl1) ?_
        exact zRq_lf fun r h => h j2
      · refine zRq_rw (zb_85_22 hS hl1) ?_
        refine zRq_ci (r_61 hS) (fun v11 C12 => ?_)
        refine zRq_rw (zb_85_30 hS hl1) ?_
        refine zRq_ite (fun h13 => ?_) (fun h14 => ?_)
        · refine zRq_rw (zb_85_75 hS hl1) ?_
          exact zRq_lf fun r h => h j2
        · refine zRq_rw (zb_85_33 hS hl1) ?_
          refine zRq_ci (r_7 hS) (fun v15 C16 => ?_)
          refine zRq_rw (zb_85_41 hS hl1) ?_
          refine zRq_ci (r_22 hS hl1) (fun v17 C18 => ?_)
          refine zRq_rw (zb_85_54 hS hl1) ?_
          refine zRq_ite (fun h19 => ?_) (fun h20 => ?_)
          · refine zRq_rw (zb_85_72 hS hl1) ?_
            refine zRq_rw (zb_85_75 hS hl1) ?_
            refine zRq_lf fun r h => ?_
            have h2 := h (some (.inl (zor (zand v15 (zxor (C16 l1 7) (-1))) (zshl 1 v17))))
            dsimp only [zKf, zKs] at h2
            rw [show d + 2 + 1 = d + 3 from rfl]
            exact h2
          · refine zRq_rw (zb_85_63 hS hl1) ?_
            refine zRq_ci (r_86 hS) (fun v21 C22 => ?_)
            refine zRq_rw (zb_85_69 hS hl1) ?_
            refine zRq_ite (fun h23 => ?_) (fun h24 => ?_)
            · refine zRq_rw (zb_85_75 hS hl1) ?_
              exact zRq_lf fun r h => h (some (.inl (zor (zand v15 (zxor (C16 l1 7) (-1))) (zshl 1 v17))))
            · refine zRq_rw (zb_85_72 hS hl1) ?_
              refine zRq_rw (zb_85_75 hS hl1) ?_
              refine zRq_lf fun r h => ?_
              have h2 := h (some (.inl (zor (zand v15 (zxor (C16 l1 7) (-1))) (zshl 1 v17))))
              dsimp only [zKf, zKs] at h2
              rw [show d + 2 + 1 = d + 3 from rfl]
              exact h2
  · refine zRq_rw (zb_85_81 hS hl1) ?_
    exact zRq_rt fun r h => h
-- 84: NewOrBack.thread(II)I
noncomputable def c_N_thread (l1 : Int) (l2 : Int) (C : ZC) : Option (Int × ZC) :=
  zbd (c_N_within l1 4 C) fun v1 C2 => if v1 = 0 then (some ((-2), C2)) else (zbd (c_N_within l2 2 C2) fun v5 C6 => if ¬ v5 = 0 then (zg (0 ≤ l1 ∧ l1 < 4) (zbd (c_N_fewestCut (56 + 4 * l1.toNat) C6) fun v10 C11 => if v10 = ((-1)) then (some (v10, C11)) else (if ¬ l2 = 1 then (zbd (c_Integer_bitCount v10 C11) fun v16 C17 => some (v16, C17)) else (some (v10, C11))))) else (some ((-2), C6)))
set_option maxRecDepth 100000 in
theorem r_84 {d : Nat} {S : ZS} (hS : zShC S) {l1 : Int} {l2 : Int} {C : ZC} : zRq (zKi S) (c_N_thread l1 l2 C) (zR (d + 4) 84 0 [some (.inr (.inr (some 1))), some (.inl l1), some (.inl l2), none] [] S C) := by
  unfold c_N_thread
  refine zRq_rw (zb_84_0 hS) ?_
  refine zRq_ci (r_60 hS) (fun v1 C2 => ?_)
  refine zRq_rw (zb_84_5 hS) ?_
  refine zRq_ite (fun h3 => ?_) (fun h4 => ?_)
  · refine zRq_rw (zb_84_16 hS) ?_
    exact zRq_rt fun r h => h
  · refine zRq_rw (zb_84_8 hS) ?_
    refine zRq_ci (r_60 hS) (fun v5 C6 => ?_)
    refine zRq_rw (zb_84_13 hS) ?_
    refine zRq_ite (fun h7 => ?_) (fun h8 => ?_)
    · refine zRq_rw (zb_84_19 hS) ?_
      refine zRq_g (fun h9 => ?_)
      refine zRq_ci (r_85 hS (sa_w h9)) (fun v10 C11 => ?_)
      refine zRq_rw (zb_84_29 hS) ?_
      refine zRq_ite (fun h12 => ?_) (fun h13 => ?_)
      · refine zRq_rw (zb_84_40 hS) ?_
        refine zRq_rw (zb_84_48 hS) ?_
        exact zRq_rt fun r h => h
      · refine zRq_rw (zb_84_35 hS) ?_
        refine zRq_ite (fun h14 => ?_) (fun h15 => ?_)
        · refine zRq_rw (zb_84_44 hS) ?_
          refine zRq_ci (r_0 hS) (fun v16 C17 => ?_)
          refine zRq_rw (zb_84_48 hS) ?_
          exact zRq_rt fun r h => h
        · refine zRq_rw (zb_84_40 hS) ?_
          refine zRq_rw (zb_84_48 hS) ?_
          exact zRq_rt fun r h => h
    · refine zRq_rw (zb_84_16 hS) ?_
      exact zRq_rt fun r h => h
-- 87: NewOrBack.seen(II)I
noncomputable def c_N_seen (l1 : Int) (l2 : Int) (C : ZC) : Option (Int × ZC) :=
  zbd (c_N_within l1 12 C) fun v1 C2 => if v1 = 0 then (some ((-2), C2)) else (zbd (c_N_within l2 8 C2) fun v5 C6 => if ¬ v5 = 0 then (zbd (c_Sights_add l1 l2 C6) fun v9 C10 => if v9 = 0 then (some ((-4), C10)) else (some ((C10 27 4), C10))) else (some ((-2), C6)))
set_option maxRecDepth 100000 in
theorem r_87 {d : Nat} {S : ZS} (hS : zShC S) {l1 : Int} {l2 : Int} {C : ZC} : zRq (zKi S) (c_N_seen l1 l2 C) (zR (d + 2) 87 0 [some (.inr (.inr (some 1))), some (.inl l1), some (.inl l2)] [] S C) := by
  unfold c_N_seen
  refine zRq_rw (zb_87_0 hS) ?_
  refine zRq_ci (r_60 hS) (fun v1 C2 => ?_)
  refine zRq_rw (zb_87_6 hS) ?_
  refine zRq_ite (fun h3 => ?_) (fun h4 => ?_)
  · refine zRq_rw (zb_87_18 hS) ?_
    exact zRq_rt fun r h => h
  · refine zRq_rw (zb_87_9 hS) ?_
    refine zRq_ci (r_60 hS) (fun v5 C6 => ?_)
    refine zRq_rw (zb_87_15 hS) ?_
    refine zRq_ite (fun h7 => ?_) (fun h8 => ?_)
    · refine zRq_rw (zb_87_21 hS) ?_
      refine zRq_ci (r_35 hS) (fun v9 C10 => ?_)
      refine zRq_rw (zb_87_30 hS) ?_
      refine zRq_ite (fun h11 => ?_) (fun h12 => ?_)
      · refine zRq_rw (zb_87_43 hS) ?_
        refine zRq_rw (zb_87_45 hS) ?_
        exact zRq_rt fun r h => h
      · refine zRq_rw (zb_87_33 hS) ?_
        refine zRq_rw (zb_87_45 hS) ?_
        exact zRq_rt fun r h => h
    · refine zRq_rw (zb_87_18 hS) ?_
      exact zRq_rt fun r h => h
-- 88: NewOrBack.forget()I
noncomputable def c_N_forget  (C : ZC) : Option (Int × ZC) :=
  some ((C 27 4), zup2 C 27 4 0)
set_option maxRecDepth 100000 in
theorem r_88 {d : Nat} {S : ZS} (hS : zShC S) {C : ZC} : zRq (zKi S) (c_N_forget C) (zR (d + 1) 88 0 [some (.inr (.inr (some 1))), none] [] S C) := by
  unfold c_N_forget
  refine zRq_rw (zb_88_0 hS) ?_
  exact zRq_rt fun r h => h
-- 89: NewOrBack.cameIn()I
noncomputable def c_N_cameIn  (C : ZC) : Option (Int × ZC) :=
  if ((C 9 3)) ≤ 6 then (zbd (c_Sights_beginnings C) fun v3 C4 => some (v3, C4)) else (some ((-4), C))
set_option maxRecDepth 100000 in
theorem r_89 {d : Nat} {S : ZS} (hS : zShC S) {C : ZC} : zRq (zKi S) (c_N_cameIn C) (zR (d + 31) 89 0 [some (.inr (.inr (some 1)))] [] S C) := by
  unfold c_N_cameIn
  refine zRq_rw (zb_89_0 hS) ?_
  refine zRq_ite (fun h1 => ?_) (fun h2 => ?_)
  · refine zRq_rw (zb_89_17 hS) ?_
    refine zRq_ci (r_36 hS) (fun v3 C4 => ?_)
    refine zRq_rw (zb_89_24 hS) ?_
    exact zRq_rt fun r h => h
  · refine zRq_rw (zb_89_12 hS) ?_
    refine zRq_rw (zb_89_24 hS) ?_
    exact zRq_rt fun r h => h
-- 90: NewOrBack.safe(II)I
noncomputable def c_N_safe (l1 : Int) (l2 : Int) (C : ZC) : Option (Int × ZC) :=
  zbd (c_N_within l1 4 C) fun v1 C2 => if v1 = 0 then (some ((-2), C2)) else (zbd (c_N_within l2 8 C2) fun v5 C6 => if ¬ v5 = 0 then (if ((C6 9 3)) ≤ 6 then (zg (0 ≤ l1 ∧ l1 < 4) (zbd (c_Hunt_isEscaped (56 + 4 * l1.toNat) l2 C6) fun v12 C13 => if v12 = 0 then (some (0, C13)) else (some (1, C13)))) else (some ((-4), C6))) else (some ((-2), C6)))
set_option maxRecDepth 100000 in
theorem r_90 {d : Nat} {S : ZS} (hS : zShC S) {l1 : Int} {l2 : Int} {C : ZC} : zRq (zKi S) (c_N_safe l1 l2 C) (zR (d + 44) 90 0 [some (.inr (.inr (some 1))), some (.inl l1), some (.inl l2)] [] S C) := by
  unfold c_N_safe
  refine zRq_rw (zb_90_0 hS) ?_
  refine zRq_ci (r_60 hS) (fun v1 C2 => ?_)
  refine zRq_rw (zb_90_5 hS) ?_
  refine zRq_ite (fun h3 => ?_) (fun h4 => ?_)
  · refine zRq_rw (zb_90_17 hS) ?_
    exact zRq_rt fun r h => h
  · refine zRq_rw (zb_90_8 hS) ?_
    refine zRq_ci (r_60 hS) (fun v5 C6 => ?_)
    refine zRq_rw (zb_90_14 hS) ?_
    refine zRq_ite (fun h7 => ?_) (fun h8 => ?_)
    · refine zRq_rw (zb_90_20 hS) ?_
      refine zRq_ite (fun h9 => ?_) (fun h10 => ?_)
      · refine zRq_rw (zb_90_35 hS) ?_
        refine zRq_g (fun h11 => ?_)
        refine zRq_ci (r_42 hS (sa_w h11)) (fun v12 C13 => ?_)
        refine zRq_rw (zb_90_49 hS) ?_
        refine zRq_ite (fun h14 => ?_) (fun h15 => ?_)
        · refine zRq_rw (zb_90_56 hS) ?_
          refine zRq_rw (zb_90_57 hS) ?_
          exact zRq_rt fun r h => h
        · refine zRq_rw (zb_90_52 hS) ?_
          refine zRq_rw (zb_90_57 hS) ?_
          exact zRq_rt fun r h => h
      · refine zRq_rw (zb_90_32 hS) ?_
        exact zRq_rt fun r h => h
    · refine zRq_rw (zb_90_17 hS) ?_
      exact zRq_rt fun r h => h
-- 91: NewOrBack.sheet(III)I
noncomputable def c_N_sheet (l1 : Int) (l2 : Int) (l3 : Int) (C : ZC) : Option (Int × ZC) :=
  zbd (c_Sheets_has l1 C) fun v1 C2 => if v1 = 0 then (some ((-2), C2)) else (zbd (c_Sheets_isForm l2 C2) fun v5 C6 => if v5 = 0 then (some ((-2), C6)) else (if l3 ≤ 48 then (if 0 ≤ l3 then (zbd (c_Sheets_renew l1 l2 l3 C6) fun v13 C14 => some (l3, C14)) else (zbd (c_Sheets_find 5 C6) fun v15 C16 => some (v15, C16))) else (some ((-2), C6))))
set_option maxRecDepth 100000 in
theorem r_91 {d : Nat} {S : ZS} (hS : zShC S) {l1 : Int} {l2 : Int} {l3 : Int} {C : ZC} : zRq (zKi S) (c_N_sheet l1 l2 l3 C) (zR (d + 3) 91 0 [some (.inr (.inr (some 1))), some (.inl l1), some (.inl l2), some (.inl l3)] [] S C) := by
  unfold c_N_sheet
  refine zRq_rw (zb_91_0 hS) ?_
  refine zRq_ci (r_50 hS) (fun v1 C2 => ?_)
  refine zRq_rw (zb_91_8 hS) ?_
  refine zRq_ite (fun h3 => ?_) (fun h4 => ?_)
  · refine zRq_rw (zb_91_28 hS) ?_
    exact zRq_rt fun r h => h
  · refine zRq_rw (zb_91_11 hS) ?_
    refine zRq_ci (r_53 hS) (fun v5 C6 => ?_)
    refine zRq_rw (zb_91_19 hS) ?_
    refine zRq_ite (fun h7 => ?_) (fun h8 => ?_)
    · refine zRq_rw (zb_91_28 hS) ?_
      exact zRq_rt fun r h => h
    · refine zRq_rw (zb_91_22 hS) ?_
      refine zRq_ite (fun h9 => ?_) (fun h10 => ?_)
      · refine zRq_rw (zb_91_31 hS) ?_
        refine zRq_ite (fun h11 => ?_) (fun h12 => ?_)
        · refine zRq_rw (zb_91_44 hS) ?_
          refine zRq_cv (r_54 hS) (fun v13 C14 => ?_)
          refine zRq_rw (zb_91_54 hS) ?_
          exact zRq_rt fun r h => h
        · refine zRq_rw (zb_91_35 hS) ?_
          refine zRq_ci (r_52 hS) (fun v15 C16 => ?_)
          refine zRq_rw (zb_91_43 hS) ?_
          exact zRq_rt fun r h => h
      · refine zRq_rw (zb_91_28 hS) ?_
        exact zRq_rt fun r h => h
-- 92: NewOrBack.lose(I)I
noncomputable def c_N_lose (l1 : Int) (C : ZC) : Option (Int × ZC) :=
  zbd (c_Sheets_has l1 C) fun v1 C2 => if ¬ v1 = 0 then (zbd (c_Sheets_isLost l1 C2) fun v5 C6 => if v5 = 0 then (zg (0 ≤ l1 ∧ l1 < 4) (zg (0 ≤ l1 ∧ l1 < 4) (some (((zup2 C6 55 l1.toNat (-1)) 54 l1.toNat), zup2 C6 55 l1.toNat (-1))))) else (zbd (c_Sheets_find 1 C6) fun v11 C12 => some (v11, C12))) else (some ((-2), C2))
set_option maxRecDepth 100000 in
theorem r_92 {d : Nat} {S : ZS} (hS : zShC S) {l1 : Int} {C : ZC} : zRq (zKi S) (c_N_lose l1 C) (zR (d + 3) 92 0 [some (.inr (.inr (some 1))), some (.inl l1)] [] S C) := by
  unfold c_N_lose
  refine zRq_rw (zb_92_0 hS) ?_
  refine zRq_ci (r_50 hS) (fun v1 C2 => ?_)
  refine zRq_rw (zb_92_8 hS) ?_
  refine zRq_ite (fun h3 => ?_) (fun h4 => ?_)
  · refine zRq_rw (zb_92_14 hS) ?_
    refine zRq_ci (r_51 hS) (fun v5 C6 => ?_)
    refine zRq_rw (zb_92_22 hS) ?_
    refine zRq_ite (fun h7 => ?_) (fun h8 => ?_)
    · refine zRq_rw (zb_92_34 hS) ?_
      refine zRq_g (fun h9 => ?_)
      refine zRq_g (fun h10 => ?_)
      exact zRq_rt fun r h => h
    · refine zRq_rw (zb_92_25 hS) ?_
      refine zRq_ci (r_52 hS) (fun v11 C12 => ?_)
      refine zRq_rw (zb_92_33 hS) ?_
      exact zRq_rt fun r h => h
  · refine zRq_rw (zb_92_11 hS) ?_
    exact zRq_rt fun r h => h
-- 93: NewOrBack.put(IIII)I
noncomputable def c_N_put (l1 : Int) (l2 : Int) (l3 : Int) (l4 : Int) (C : ZC) : Option (Int × ZC) :=
  zbd (c_Sheets_has l1 C) fun v1 C2 => if v1 = 0 then (some ((-2), C2)) else (zbd (c_Sheets_isForm l2 C2) fun v5 C6 => if ¬ v5 = 0 then (zbd (c_Sheets_findingOf l1 l2 l3 C6) fun v9 C10 => if v9 = 0 then (zbd (c_Sheets_set l1 l3 l4 C10) fun v13 C14 => some (1, C14)) else (zbd (c_Sheets_find v9 C10) fun v15 C16 => some (v15, C16))) else (some ((-2), C6)))
set_option maxRecDepth 100000 in
theorem r_93 {d : Nat} {S : ZS} (hS : zShC S) {l1 : Int} {l2 : Int} {l3 : Int} {l4 : Int} {C : ZC} : zRq (zKi S) (c_N_put l1 l2 l3 l4 C) (zR (d + 3) 93 0 [some (.inr (.inr (some 1))), some (.inl l1), some (.inl l2), some (.inl l3), some (.inl l4), none] [] S C) := by
  unfold c_N_put
  refine zRq_rw (zb_93_0 hS) ?_
  refine zRq_ci (r_50 hS) (fun v1 C2 => ?_)
  refine zRq_rw (zb_93_8 hS) ?_
  refine zRq_ite (fun h3 => ?_) (fun h4 => ?_)
  · refine zRq_rw (zb_93_22 hS) ?_
    exact zRq_rt fun r h => h
  · refine zRq_rw (zb_93_11 hS) ?_
    refine zRq_ci (r_53 hS) (fun v5 C6 => ?_)
    refine zRq_rw (zb_93_19 hS) ?_
    refine zRq_ite (fun h7 => ?_) (fun h8 => ?_)
    · refine zRq_rw (zb_93_25 hS) ?_
      refine zRq_ci (r_55 hS) (fun v9 C10 => ?_)
      refine zRq_rw (zb_93_35 hS) ?_
      refine zRq_ite (fun h11 => ?_) (fun h12 => ?_)
      · refine zRq_rw (zb_93_52 hS) ?_
        refine zRq_cv (r_56 hS) (fun v13 C14 => ?_)
        refine zRq_rw (zb_93_63 hS) ?_
        exact zRq_rt fun r h => h
      · refine zRq_rw (zb_93_42 hS) ?_
        refine zRq_ci (r_52 hS) (fun v15 C16 => ?_)
        refine zRq_rw (zb_93_51 hS) ?_
        exact zRq_rt fun r h => h
    · refine zRq_rw (zb_93_22 hS) ?_
      exact zRq_rt fun r h => h
-- 94: NewOrBack.get(III)I
noncomputable def c_N_get (l1 : Int) (l2 : Int) (l3 : Int) (C : ZC) : Option (Int × ZC) :=
  zbd (c_Sheets_has l1 C) fun v1 C2 => if v1 = 0 then (some ((-2147483648), C2)) else (zbd (c_Sheets_isForm l2 C2) fun v5 C6 => if ¬ v5 = 0 then (zbd (c_Sheets_findingOf l1 l2 l3 C6) fun v9 C10 => if v9 = 0 then (zg (0 ≤ l1 ∧ l1 < 4) (zg (0 ≤ l3 ∧ l3 < 48) (some ((C10 (50 + l1.toNat) l3.toNat), C10)))) else (zbd (c_Sheets_find v9 C10) fun v15 C16 => some ((-2147483648), C16))) else (some ((-2147483648), C6)))
set_option maxRecDepth 100000 in
theorem r_94 {d : Nat} {S : ZS} (hS : zShC S) {l1 : Int} {l2 : Int} {l3 : Int} {C : ZC} : zRq (zKi S) (c_N_get l1 l2 l3 C) (zR (d + 3) 94 0 [some (.inr (.inr (some 1))), some (.inl l1), some (.inl l2), some (.inl l3), none] [] S C) := by
  unfold c_N_get
  refine zRq_rw (zb_94_0 hS) ?_
  refine zRq_ci (r_50 hS) (fun v1 C2 => ?_)
  refine zRq_rw (zb_94_8 hS) ?_
  refine zRq_ite (fun h3 => ?_) (fun h4 => ?_)
  · refine zRq_rw (zb_94_22 hS) ?_
    exact zRq_rt fun r h => h
  · refine zRq_rw (zb_94_11 hS) ?_
    refine zRq_ci (r_53 hS) (fun v5 C6 => ?_)
    refine zRq_rw (zb_94_19 hS) ?_
    refine zRq_ite (fun h7 => ?_) (fun h8 => ?_)
    · refine zRq_rw (zb_94_25 hS) ?_
      refine zRq_ci (r_55 hS) (fun v9 C10 => ?_)
      refine zRq_rw (zb_94_35 hS) ?_
      refine zRq_ite (fun h11 => ?_) (fun h12 => ?_)
      · refine zRq_rw (zb_94_55 hS) ?_
        refine zRq_g (fun h13 => ?_)
        refine zRq_g (fun h14 => ?_)
        exact zRq_rt fun r h => h
      · refine zRq_rw (zb_94_42 hS) ?_
        refine zRq_ci (r_52 hS) (fun v15 C16 => ?_)
        refine zRq_rw (zb_94_51 hS) ?_
        exact zRq_rt fun r h => h
    · refine zRq_rw (zb_94_22 hS) ?_
      exact zRq_rt fun r h => h
-- 95: NewOrBack.copy(IIIII)I
noncomputable def c_N_copy (l1 : Int) (l2 : Int) (l3 : Int) (l4 : Int) (l5 : Int) (C : ZC) : Option (Int × ZC) :=
  zbd (c_Sheets_has l1 C) fun v1 C2 => if v1 = 0 then (some ((-2), C2)) else (zbd (c_Sheets_has l3 C2) fun v5 C6 => if ¬ v5 = 0 then (zbd (c_Sheets_isLost l1 C6) fun v9 C10 => if ¬ v9 = 0 then (zbd (c_Sheets_find 1 C10) fun v13 C14 => some (v13, C14)) else (zbd (c_Sheets_isLost l3 C10) fun v15 C16 => if v15 = 0 then (zg (0 ≤ l1 ∧ l1 < 4) (zg (0 ≤ l3 ∧ l3 < 4) (if ((C16 55 l1.toNat)) = ((C16 55 l3.toNat)) then (zbd (c_Sheets_holds l1 l2 l5 C16) fun v23 C24 => if v23 = 0 then (zbd (c_Sheets_find 2 C24) fun v27 C28 => some (v27, C28)) else (zbd (c_Sheets_holds l3 l4 l5 C24) fun v29 C30 => if ¬ v29 = 0 then (zg (0 ≤ l1 ∧ l1 < 4) (zg (0 ≤ l3 ∧ l3 < 4) (zg (0 ≤ l5 ∧ 0 ≤ l4 ∧ 0 ≤ l2 ∧ l2 + l5 ≤ 48 ∧ l4 + l5 ≤ 48) (some (1, zrow C30 (50 + l3.toNat) (zcpy (C30 (50 + l1.toNat)) (C30 (50 + l3.toNat)) l2.toNat l4.toNat l5.toNat)))))) else (zbd (c_Sheets_find 2 C30) fun v36 C37 => some (v36, C37)))) else (zbd (c_Sheets_find 4 C16) fun v38 C39 => some (v38, C39))))) else (zbd (c_Sheets_find 1 C16) fun v40 C41 => some (v40, C41)))) else (some ((-2), C6)))
set_option maxRecDepth 100000 in
theorem r_95 {d : Nat} {S : ZS} (hS : zShC S) {l1 : Int} {l2 : Int} {l3 : Int} {l4 : Int} {l5 : Int} {C : ZC} : zRq (zKi S) (c_N_copy l1 l2 l3 l4 l5 C) (zR (d + 3) 95 0 [some (.inr (.inr (some 1))), some (.inl l1), some (.inl l2), some (.inl l3), some (.inl l4), some (.inl l5)] [] S C) := by
  unfold c_N_copy
  refine zRq_rw (zb_95_0 hS) ?_
  refine zRq_ci (r_50 hS) (fun v1 C2 => ?_)
  refine zRq_rw (zb_95_8 hS) ?_
  refine zRq_ite (fun h3 => ?_) (fun h4 => ?_)
  · refine zRq_rw (zb_95_22 hS) ?_
    exact zRq_rt fun r h => h
  · refine zRq_rw (zb_95_11 hS) ?_
    refine zRq_ci (r_50 hS) (fun v5 C6 => ?_)
    refine zRq_rw (zb_95_19 hS) ?_
    refine zRq_ite (fun h7 => ?_) (fun h8 => ?_)
    · refine zRq_rw (zb_95_25 hS) ?_
      refine zRq_ci (r_51 hS) (fun v9 C10 => ?_)
      refine zRq_rw (zb_95_33 hS) ?_
      refine zRq_ite (fun h11 => ?_) (fun h12 => ?_)
      · refine zRq_rw (zb_95_47 hS) ?_
        refine zRq_ci (r_52 hS) (fun v13 C14 => ?_)
        refine zRq_rw (zb_95_55 hS) ?_
        exact zRq_rt fun r h => h
      · refine zRq_rw (zb_95_36 hS) ?_
        refine zRq_ci (r_51 hS) (fun v15 C16 => ?_)
        refine zRq_rw (zb_95_44 hS) ?_
        refine zRq_ite (fun h17 => ?_) (fun h18 => ?_)
        · refine zRq_rw (zb_95_56 hS) ?_
          refine zRq_g (fun h19 => ?_)
          refine zRq_g (fun h20 => ?_)
          refine zRq_ite (fun h21 => ?_) (fun h22 => ?_)
          · refine zRq_rw (zb_95_86 hS) ?_
            refine zRq_ci (r_57 hS) (fun v23 C24 => ?_)
            refine zRq_rw (zb_95_97 hS) ?_
            refine zRq_ite (fun h25 => ?_) (fun h26 => ?_)
            · refine zRq_rw (zb_95_115 hS) ?_
              refine zRq_ci (r_52 hS) (fun v27 C28 => ?_)
              refine zRq_rw (zb_95_123 hS) ?_
              exact zRq_rt fun r h => h
            · refine zRq_rw (zb_95_100 hS) ?_
              refine zRq_ci (r_57 hS) (fun v29 C30 => ?_)
              refine zRq_rw (zb_95_112 hS) ?_
              refine zRq_ite (fun h31 => ?_) (fun h32 => ?_)
              · refine zRq_rw (zb_95_124 hS) ?_
                refine zRq_g (fun h33 => ?_)
                refine zRq_g (fun h34 => ?_)
                refine zRq_g (fun h35 => ?_)
                exact zRq_rt fun r h => h
              · refine zRq_rw (zb_95_115 hS) ?_
                refine zRq_ci (r_52 hS) (fun v36 C37 => ?_)
                refine zRq_rw (zb_95_123 hS) ?_
                exact zRq_rt fun r h => h
          · refine zRq_rw (zb_95_77 hS) ?_
            refine zRq_ci (r_52 hS) (fun v38 C39 => ?_)
            refine zRq_rw (zb_95_85 hS) ?_
            exact zRq_rt fun r h => h
        · refine zRq_rw (zb_95_47 hS) ?_
          refine zRq_ci (r_52 hS) (fun v40 C41 => ?_)
          refine zRq_rw (zb_95_55 hS) ?_
          exact zRq_rt fun r h => h
    · refine zRq_rw (zb_95_22 hS) ?_
      exact zRq_rt fun r h => h
-- 96: NewOrBack.write(II)I
noncomputable def c_N_write_L60 (l1 : Int) (l2 : Int) (l3 : Int) (x14 : Int) (C16 : ZC) : Option ((Int ⊕ Unit) × ZC) :=
  if l3 ≤ x14 then (some (.inr (), C16)) else (zg (0 ≤ l1 ∧ l1 < 4) (zbd (c_Walk_soonTo (56 + 4 * l1.toNat) x14 C16) fun v21 C22 => zbd (c_Sheets_set l2 x14 v21 C22) fun v23 C24 => some (.inl (zadd x14 1), C24)))
noncomputable def c_N_write (l1 : Int) (l2 : Int) (C : ZC) : Option (Int × ZC) :=
  zbd (c_N_within l1 4 C) fun v1 C2 => if v1 = 0 then (some ((-2), C2)) else (zbd (c_Sheets_has l2 C2) fun v5 C6 => if ¬ v5 = 0 then (zbd (c_Sheets_isLost l2 C6) fun v9 C10 => if v9 = 0 then (zg (0 ≤ l2 ∧ l2 < 4) (zbd (zloop (c_N_write_L60 l1 l2 (if 8 < (C10 54 l2.toNat) then 8 else (C10 54 l2.toNat))) 0 C10) fun y17 C26 => some ((if 8 < (C10 54 l2.toNat) then 8 else (C10 54 l2.toNat)), C26))) else (zbd (c_Sheets_find 1 C10) fun v27 C28 => some (v27, C28))) else (some ((-2), C6)))
set_option maxRecDepth 100000 in
theorem r_96 {d : Nat} {S : ZS} (hS : zShC S) {l1 : Int} {l2 : Int} {C : ZC} : zRq (zKi S) (c_N_write l1 l2 C) (zR (d + 3) 96 0 [some (.inr (.inr (some 1))), some (.inl l1), some (.inl l2), none, none] [] S C) := by
  unfold c_N_write
  refine zRq_rw (zb_96_0 hS) ?_
  refine zRq_ci (r_60 hS) (fun v1 C2 => ?_)
  refine zRq_rw (zb_96_5 hS) ?_
  refine zRq_ite (fun h3 => ?_) (fun h4 => ?_)
  · refine zRq_rw (zb_96_19 hS) ?_
    exact zRq_rt fun r h => h
  · refine zRq_rw (zb_96_8 hS) ?_
    refine zRq_ci (r_50 hS) (fun v5 C6 => ?_)
    refine zRq_rw (zb_96_16 hS) ?_
    refine zRq_ite (fun h7 => ?_) (fun h8 => ?_)
    · refine zRq_rw (zb_96_22 hS) ?_
      refine zRq_ci (r_51 hS) (fun v9 C10 => ?_)
      refine zRq_rw (zb_96_30 hS) ?_
      refine zRq_ite (fun h11 => ?_) (fun h12 => ?_)
      · refine zRq_rw (zb_96_42 hS) ?_
        refine zRq_g (fun h13 => ?_)
        refine zRq_bdf (f := (fun (xq : Unit) (jq : Int) (Cq : ZC) => zR (d + 3) 96 93 [some (.inr (.inr (some 1))), some (.inl l1), some (.inl l2), some (.inl (if 8 < (C10 54 l2.toNat) then 8 else (C10 54 l2.toNat))), some (.inl jq)] [] S Cq)) (zRq_loop (f := (fun (xq : Int) (jq : Unit) (Cq : ZC) => zR (d + 3) 96 60 [some (.inr (.inr (some 1))), some (.inl l1), some (.inl l2), some (.inl (if 8 < (C10 54 l2.toNat) then 8 else (C10 54 l2.toNat))), some (.inl xq)] [] S Cq)) (fun x14 j15 C16 => ?_) _ () _) (fun y17 j25 C26 => ?_)
        · unfold c_N_write_L60
          refine zRq_rw (zb_96_60 hS) ?_
          refine zRq_ite (fun h18 => ?_) (fun h19 => ?_)
          · exact zRq_lf fun r h => h x14
          · refine zRq_rw (zb_96_66 hS) ?_
            refine zRq_g (fun h20 => ?_)
            refine zRq_ci (r_18 hS (sa_w h20)) (fun v21 C22 => ?_)
            refine zRq_rw (zb_96_84 hS) ?_
            refine zRq_cv (r_56 hS) (fun v23 C24 => ?_)
            refine zRq_rw (zb_96_87 hS) ?_
            exact zRq_lf fun r h => h ()
        · refine zRq_rw (zb_96_93 hS) ?_
          exact zRq_rt fun r h => h
      · refine zRq_rw (zb_96_33 hS) ?_
        refine zRq_ci (r_52 hS) (fun v27 C28 => ?_)
        refine zRq_rw (zb_96_41 hS) ?_
        exact zRq_rt fun r h => h
    · refine zRq_rw (zb_96_19 hS) ?_
      exact zRq_rt fun r h => h
-- 97: NewOrBack.count(I)I
noncomputable def c_N_count (l1 : Int) (C : ZC) : Option (Int × ZC) :=
  if ¬ l1 = 0 then (zbs (α := Unit) (if l1 < 1 then (some (.inl (), C)) else (if 5 < l1 then (some (.inl (), C)) else (zg (0 ≤ (zsub l1 1) ∧ (zsub l1 1) < 5) (some (.inr ((C 8 (zsub l1 1).toNat)), C))))) fun y3 C5 => if ¬ l1 = 6 then (if ¬ l1 = 7 then (if ¬ l1 = 8 then (some ((-2), C5)) else (some ((C5 48 3), C5))) else (zbd (c_Wood_allMinutes C5) fun v17 C18 => some (v17, C18))) else (some ((C5 27 4), C5))) else (some ((C 9 3), C))
set_option maxRecDepth 100000 in
theorem r_97 {d : Nat} {S : ZS} (hS : zShC S) {l1 : Int} {C : ZC} : zRq (zKi S) (c_N_count l1 C) (zR (d + 2) 97 0 [some (.inr (.inr (some 1))), some (.inl l1)] [] S C) := by
  unfold c_N_count
  refine zRq_rw (zb_97_0 hS) ?_
  refine zRq_ite (fun h1 => ?_) (fun h2 => ?_)
  · refine zRq_bsf (f := (fun (xq : Unit) (jq : Unit) (Cq : ZC) => zR (d + 2) 97 31 [some (.inr (.inr (some 1))), some (.inl l1)] [] S Cq)) ?_ (fun y3 j4 C5 => ?_)
    · refine zRq_rw (zb_97_12 hS) ?_
      refine zRq_ite (fun h6 => ?_) (fun h7 => ?_)
      · exact zRq_lf fun r h => h ()
      · refine zRq_rw (zb_97_17 hS) ?_
        refine zRq_ite (fun h8 => ?_) (fun h9 => ?_)
        · exact zRq_lf fun r h => h ()
        · refine zRq_rw (zb_97_22 hS) ?_
          refine zRq_g (fun h10 => ?_)
          exact zRq_rt fun r h => h
    · refine zRq_rw (zb_97_31 hS) ?_
      refine zRq_ite (fun h11 => ?_) (fun h12 => ?_)
      · refine zRq_rw (zb_97_45 hS) ?_
        refine zRq_ite (fun h13 => ?_) (fun h14 => ?_)
        · refine zRq_rw (zb_97_59 hS) ?_
          refine zRq_ite (fun h15 => ?_) (fun h16 => ?_)
          · refine zRq_rw (zb_97_75 hS) ?_
            refine zRq_rw (zb_97_77 hS) ?_
            exact zRq_rt fun r h => h
          · refine zRq_rw (zb_97_65 hS) ?_
            refine zRq_rw (zb_97_77 hS) ?_
            exact zRq_rt fun r h => h
        · refine zRq_rw (zb_97_51 hS) ?_
          refine zRq_ci (r_8 hS) (fun v17 C18 => ?_)
          refine zRq_rw (zb_97_58 hS) ?_
          exact zRq_rt fun r h => h
      · refine zRq_rw (zb_97_37 hS) ?_
        exact zRq_rt fun r h => h
  · refine zRq_rw (zb_97_4 hS) ?_
    exact zRq_rt fun r h => h
-- 98: NewOrBack.digest()J
noncomputable def c_N_digest_L6  (x1 : (Int × Int)) (C3 : ZC) : Option (((Int × Int) ⊕ Int) × ZC) :=
  if 8 ≤ ((x1.2)) then (some (.inr (x1.1), C3)) else (zbd (c_N_count (x1.2) C3) fun v7 C8 => some (.inl ((zladd (zlmul 31 (x1.1)) v7), (zadd (x1.2) 1)), C8))
noncomputable def c_N_digest_L59 (l3 : Int) (x19 : (Int × Int)) (C21 : ZC) : Option (((Int × Int) ⊕ Int) × ZC) :=
  if 3 ≤ ((x19.2)) then (some (.inr (x19.1), C21)) else (zbd (c_N_way l3 (x19.2) C21) fun v25 C26 => some (.inl ((zladd (zlmul 31 (x19.1)) v25), (zadd (x19.2) 1)), C26))
noncomputable def c_N_digest_L45  (x13 : (Int × Int)) (C15 : ZC) : Option (((Int × Int) ⊕ Int) × ZC) :=
  if ((C15 9 3)) ≤ ((x13.2)) then (some (.inr (x13.1), C15)) else (zbd (zloop (c_N_digest_L59 (x13.2)) ((x13.1), 0) C15) fun y22 C28 => some (.inl (y22, (zadd (x13.2) 1)), C28))
noncomputable def c_N_digest_L210 (l3 : Int) (l4 : Int) (x56 : (Int × Int)) (C58 : ZC) : Option (((Int × Int) ⊕ Int) × ZC) :=
  if 8 ≤ ((x56.2)) then (some (.inr (x56.1), C58)) else (zbd (c_N_soon l3 (x56.2) C58) fun v62 C63 => some (.inl ((zladd (zlmul 31 (x56.1)) v62), (zadd (x56.2) 1)), C63))
noncomputable def c_N_digest_L94  (x31 : (Int × Int)) (C33 : ZC) : Option (((Int × Int) ⊕ Int) × ZC) :=
  if 4 ≤ ((x31.2)) then (some (.inr (x31.1), C33)) else (zbd (α := Int) (if 4 ≤ ((zadd (x31.2) 1)) then (some (0, C33)) else (some ((zadd (x31.2) 1), C33))) fun y37 C39 => zbd (c_N_judged (x31.2) C39) fun v42 C43 => zbd (c_N_place (x31.2) C43) fun v44 C45 => zbd (c_N_open (x31.2) (-1) C45) fun v46 C47 => zbd (c_N_gone (x31.2) C47) fun v48 C49 => zbd (c_N_spent (x31.2) C49) fun v50 C51 => zbd (c_N_still (x31.2) C51) fun v52 C53 => zbd (c_N_never (x31.2) C53) fun v54 C55 => zbd (zloop (c_N_digest_L210 (x31.2) y37) ((zladd (zlmul 31 (zladd (zlmul 31 (zladd (zlmul 31 (zladd (zlmul 31 (zladd (zlmul 31 (zladd (zlmul 31 (zladd (zlmul 31 (x31.1)) v42)) v44)) v46)) v48)) v50)) v52)) v54), 0) C55) fun y59 C65 => zbd (c_N_thread (x31.2) 0 C65) fun v66 C67 => zbd (c_N_thread (x31.2) 1 C67) fun v68 C69 => zbd (c_N_errands (x31.2) 21 (-1) C69) fun v70 C71 => zbd (c_N_meeting (x31.2) y37 0 C71) fun v72 C73 => zbd (c_N_meeting (x31.2) y37 1 C73) fun v74 C75 => zbd (c_N_lent (x31.2) y37 C75) fun v76 C77 => some (.inl ((zladd (zlmul 31 (zladd (zlmul 31 (zladd (zlmul 31 (zladd (zlmul 31 (zladd (zlmul 31 (zladd (zlmul 31 y59) v66)) v68)) v70)) v72)) v74)) v76), (zadd (x31.2) 1)), C77))
noncomputable def c_N_digest  (C : ZC) : Option (Int × ZC) :=
  zbd (zloop (c_N_digest_L6) (17, 0) C) fun y4 C10 => zbd (c_N_fault C10) fun v11 C12 => zbd (zloop (c_N_digest_L45) ((zladd (zlmul 31 y4) v11), 0) C12) fun y16 C30 => zbd (zloop (c_N_digest_L94) (y16, 0) C30) fun y34 C79 => zbd (c_N_cameIn C79) fun v80 C81 => some ((zladd (zlmul 31 y34) v80), C81)
set_option maxRecDepth 100000 in
theorem r_98 {d : Nat} {S : ZS} (hS : zShC S) {C : ZC} : zRq (zKl S) (c_N_digest C) (zR (d + 32) 98 0 [some (.inr (.inr (some 1))), none, none, none, none, none] [] S C) := by
  unfold c_N_digest
  refine zRq_rw (zb_98_0 hS) ?_
  refine zRq_bdf (f := (fun (xq : Int) (jq : (Option ZV × Int × Option ZV × Option ZV)) (Cq : ZC) => zR (d + 32) 98 31 [some (.inr (.inr (some 1))), some (.inr (.inl xq)), (jq.1), some (.inl (jq.2.1)), (jq.2.2.1), (jq.2.2.2)] [] S Cq)) (zRq_loop (f := (fun (xq : (Int × Int)) (jq : (Option ZV × Option ZV × Option ZV)) (Cq : ZC) => zR (d + 32) 98 6 [some (.inr (.inr (some 1))), some (.inr (.inl (xq.1))), (jq.1), some (.inl (xq.2)), (jq.2.1), (jq.2.2)] [] S Cq)) (fun x1 j2 C3 => ?_) _ (none, none, none) _) (fun y4 j9 C10 => ?_)
  · unfold c_N_digest_L6
    refine zRq_rw (zb_98_6 hS) ?_
    refine zRq_ite (fun h5 => ?_) (fun h6 => ?_)
    · exact zRq_lf fun r h => h ((j2.1), (x1.2), (j2.2.1), (j2.2.2))
    · refine zRq_rw (zb_98_12 hS) ?_
      refine zRq_ci (r_97 hS) (fun v7 C8 => ?_)
      refine zRq_rw (zb_98_22 hS) ?_
      exact zRq_lf fun r h => h (none, (j2.2.1), (j2.2.2))
  · refine zRq_rw (zb_98_31 hS) ?_
    refine zRq_ci (r_65 hS) (fun v11 C12 => ?_)
    refine zRq_rw (zb_98_40 hS) ?_
    refine zRq_bdf (f := (fun (xq : Int) (jq : (Option ZV × Int × Option ZV × Option ZV)) (Cq : ZC) => zR (d + 32) 98 92 [some (.inr (.inr (some 1))), some (.inr (.inl xq)), (jq.1), some (.inl (jq.2.1)), (jq.2.2.1), (jq.2.2.2)] [] S Cq)) (zRq_loop (f := (fun (xq : (Int × Int)) (jq : (Option ZV × Option ZV × Option ZV)) (Cq : ZC) => zR (d + 32) 98 45 [some (.inr (.inr (some 1))), some (.inr (.inl (xq.1))), (jq.1), some (.inl (xq.2)), (jq.2.1), (jq.2.2)] [] S Cq)) (fun x13 j14 C15 => ?_) _ (none, (j9.2.2.1), (j9.2.2.2)) _) (fun y16 j29 C30 => ?_)
    · unfold c_N_digest_L45
      refine zRq_rw (zb_98_45 hS) ?_
      refine zRq_ite (fun h17 => ?_) (fun h18 => ?_)
      · exact zRq_lf fun r h => h ((j14.1), (x13.2), (j14.2.1), (j14.2.2))
      · refine zRq_rw (zb_98_56 hS) ?_
        refine zRq_bdf (f := (fun (xq : Int) (jq : (Option ZV × Int × Option ZV)) (Cq : ZC) => zR (d + 32) 98 86 [some (.inr (.inr (some 1))), some (.inr (.inl xq)), (jq.1), some (.inl (x13.2)), some (.inl (jq.2.1)), (jq.2.2)] [] S Cq)) (zRq_loop (f := (fun (xq : (Int × Int)) (jq : (Option ZV × Option ZV)) (Cq : ZC) => zR (d + 32) 98 59 [some (.inr (.inr (some 1))), some (.inr (.inl (xq.1))), (jq.1), some (.inl (x13.2)), some (.inl (xq.2)), (jq.2)] [] S Cq)) (fun x19 j20 C21 => ?_) _ ((j14.1), (j14.2.2)) _) (fun y22 j27 C28 => ?_)
        · unfold c_N_digest_L59
          refine zRq_rw (zb_98_59 hS) ?_
          refine zRq_ite (fun h23 => ?_) (fun h24 => ?_)
          · exact zRq_lf fun r h => h ((j20.1), (x19.2), (j20.2))
          · refine zRq_rw (zb_98_65 hS) ?_
            refine zRq_ci (r_66 hS) (fun v25 C26 => ?_)
            refine zRq_rw (zb_98_77 hS) ?_
            exact zRq_lf fun r h => h (none, (j20.2))
        · refine zRq_rw (zb_98_86 hS) ?_
          exact zRq_lf fun r h => h ((zcl1 (j27.1)), some (.inl (j27.2.1)), (j27.2.2))
    · refine zRq_rw (zb_98_92 hS) ?_
      refine zRq_bdf (f := (fun (xq : Int) (jq : (Option ZV × Int × Option ZV × Option ZV)) (Cq : ZC) => zR (d + 32) 98 335 [some (.inr (.inr (some 1))), some (.inr (.inl xq)), (jq.1), some (.inl (jq.2.1)), (jq.2.2.1), (jq.2.2.2)] [] S Cq)) (zRq_loop (f := (fun (xq : (Int × Int)) (jq : (Option ZV × Option ZV × Option ZV)) (Cq : ZC) => zR (d + 32) 98 94 [some (.inr (.inr (some 1))), some (.inr (.inl (xq.1))), (jq.1), some (.inl (xq.2)), (jq.2.1), (jq.2.2)] [] S Cq)) (fun x31 j32 C33 => ?_) _ ((zcl1 (j29.1)), (j29.2.2.1), (j29.2.2.2)) _) (fun y34 j78 C79 => ?_)
      · unfold c_N_digest_L94
        refine zRq_rw (zb_98_94 hS) ?_
        refine zRq_ite (fun h35 => ?_) (fun h36 => ?_)
        · exact zRq_lf fun r h => h ((j32.1), (x31.2), (j32.2.1), (j32.2.2))
        · refine zRq_bdf (f := (fun (xq : Int) (jq : (Option ZV × Option ZV × Option ZV)) (Cq : ZC) => zR (d + 32) 98 113 [some (.inr (.inr (some 1))), some (.inr (.inl (x31.1))), (jq.1), some (.inl (x31.2)), (jq.2.1), (jq.2.2)] [.inl xq] S Cq)) ?_ (fun y37 j38 C39 => ?_)
          · refine zRq_rw (zb_98_99 hS) ?_
            refine zRq_ite (fun h40 => ?_) (fun h41 => ?_)
            · refine zRq_rw (zb_98_112 hS) ?_
              exact zRq_lf fun r h => h ((j32.1), (j32.2.1), (j32.2.2))
            · refine zRq_rw (zb_98_106 hS) ?_
              exact zRq_lf fun r h => h ((j32.1), (j32.2.1), (j32.2.2))
          · refine zRq_rw (zb_98_113 hS) ?_
            refine zRq_ci (r_69 hS) (fun v42 C43 => ?_)
            refine zRq_rw (zb_98_125 hS) ?_
            refine zRq_ci (r_70 hS) (fun v44 C45 => ?_)
            refine zRq_rw (zb_98_138 hS) ?_
            refine zRq_ci (r_71 hS) (fun v46 C47 => ?_)
            refine zRq_rw (zb_98_152 hS) ?_
            refine zRq_ci (r_72 hS) (fun v48 C49 => ?_)
            refine zRq_rw (zb_98_165 hS) ?_
            refine zRq_ci (r_73 hS) (fun v50 C51 => ?_)
            refine zRq_rw (zb_98_178 hS) ?_
            refine zRq_ci (r_76 hS) (fun v52 C53 => ?_)
            refine zRq_rw (zb_98_191 hS) ?_
            refine zRq_ci (r_77 hS) (fun v54 C55 => ?_)
            refine zRq_rw (zb_98_204 hS) ?_
            refine zRq_bdf (f := (fun (xq : Int) (jq : (Option ZV × Int)) (Cq : ZC) => zR (d + 32) 98 238 [some (.inr (.inr (some 1))), some (.inr (.inl xq)), (jq.1), some (.inl (x31.2)), some (.inl y37), some (.inl (jq.2))] [] S Cq)) (zRq_loop (f := (fun (xq : (Int × Int)) (jq : Option ZV) (Cq : ZC) => zR (d + 32) 98 210 [some (.inr (.inr (some 1))), some (.inr (.inl (xq.1))), jq, some (.inl (x31.2)), some (.inl y37), some (.inl (xq.2))] [] S Cq)) (fun x56 j57 C58 => ?_) _ none _) (fun y59 j64 C65 => ?_)
            · unfold c_N_digest_L210
              refine zRq_rw (zb_98_210 hS) ?_
              refine zRq_ite (fun h60 => ?_) (fun h61 => ?_)
              · exact zRq_lf fun r h => h (j57, (x56.2))
              · refine zRq_rw (zb_98_217 hS) ?_
                refine zRq_ci (r_75 hS) (fun v62 C63 => ?_)
                refine zRq_rw (zb_98_229 hS) ?_
                exact zRq_lf fun r h => h none
            · refine zRq_rw (zb_98_238 hS) ?_
              refine zRq_ci (r_84 hS) (fun v66 C67 => ?_)
              refine zRq_rw (zb_98_249 hS) ?_
              refine zRq_ci (r_84 hS) (fun v68 C69 => ?_)
              refine zRq_rw (zb_98_263 hS) ?_
              refine zRq_ci (r_79 hS) (fun v70 C71 => ?_)
              refine zRq_rw (zb_98_279 hS) ?_
              refine zRq_ci (r_80 hS) (fun v72 C73 => ?_)
              refine zRq_rw (zb_98_295 hS) ?_
              refine zRq_ci (r_80 hS) (fun v74 C75 => ?_)
              refine zRq_rw (zb_98_311 hS) ?_
              refine zRq_ci (r_82 hS) (fun v76 C77 => ?_)
              refine zRq_rw (zb_98_326 hS) ?_
              exact zRq_lf fun r h => h (none, some (.inl y37), some (.inl (j64.2)))
      · refine zRq_rw (zb_98_335 hS) ?_
        refine zRq_ci (r_89 hS) (fun v80 C81 => ?_)
        refine zRq_rw (zb_98_344 hS) ?_
        exact zRq_rt fun r h => h

/-! Layer 2: the model's count and digest, the law, as programs over the ints (written by wip/whole/genl.py) -/
theorem zRq_its {A : Type} {k : A → ZC → ZRR → Prop} {c : Prop} [Decidable c] {e1 e2 : Option (A × ZC)} {z : Option ZRR} (h1 : c → zRq k e1 z) (h2 : ¬ c → zRq k e2 z) : zRq k (if c then e1 else e2) z := by
  by_cases h : c
  · rw [if_pos h]; exact h1 h
  · rw [if_neg h]; exact h2 h
-- 170: NewOrBackModel.count(I)I
noncomputable def d_count (l1 : Int) (C : ZC) : Option (Int × ZC) :=
  if l1 = 0 then (zbd (d_sumOf l1 C) fun v3 C4 => some (v3, C4)) else (
    if l1 = 1 then (zg (0 ≤ (zsub l1 1) ∧ (zsub l1 1) < 5) (some ((C 73 (zsub l1 1).toNat), C))) else (
    if l1 = 2 then (zg (0 ≤ (zsub l1 1) ∧ (zsub l1 1) < 5) (some ((C 73 (zsub l1 1).toNat), C))) else (
    if l1 = 3 then (zg (0 ≤ (zsub l1 1) ∧ (zsub l1 1) < 5) (some ((C 73 (zsub l1 1).toNat), C))) else (
    if l1 = 4 then (zg (0 ≤ (zsub l1 1) ∧ (zsub l1 1) < 5) (some ((C 73 (zsub l1 1).toNat), C))) else (
    if l1 = 5 then (zg (0 ≤ (zsub l1 1) ∧ (zsub l1 1) < 5) (some ((C 73 (zsub l1 1).toNat), C))) else (
    if l1 = 6 then (some ((C 72 23), C)) else (
    if l1 = 7 then (zbd (d_sumOf l1 C) fun v24 C25 => some (v24, C25)) else (
    if l1 = 8 then (some ((C 72 33), C)) else (
    some ((-2), C))))))))))
set_option maxRecDepth 100000 in
theorem r_170 {d : Nat} {S : ZS} (hS : zShM S) {l1 : Int} {C : ZC} : zRq (zKi S) (d_count l1 C) (zR (d + 5) 170 0 [some (.inr (.inr (some 72))), some (.inl l1)] [] S C) := by
  unfold d_count
  refine zRq_rw (zb_170_0 hS) ?_
  refine zRq_its (fun h1 => ?_) (fun h2 => ?_)
  · refine zRq_rw (zsw_170_1_0 h1) ?_
    refine zRq_rw (zb_170_52 hS) ?_
    refine zRq_ci (r_171 hS) (fun v3 C4 => ?_)
    refine zRq_rw (zb_170_57 hS) ?_
    exact zRq_rt fun r h => h
  refine zRq_its (fun h5 => ?_) (fun h6 => ?_)
  · refine zRq_rw (zsw_170_1_1 h5) ?_
    refine zRq_rw (zb_170_58 hS) ?_
    refine zRq_g (fun h7 => ?_)
    exact zRq_rt fun r h => h
  refine zRq_its (fun h8 => ?_) (fun h9 => ?_)
  · refine zRq_rw (zsw_170_1_2 h8) ?_
    refine zRq_rw (zb_170_58 hS) ?_
    refine zRq_g (fun h10 => ?_)
    exact zRq_rt fun r h => h
  refine zRq_its (fun h11 => ?_) (fun h12 => ?_)
  · refine zRq_rw (zsw_170_1_3 h11) ?_
    refine zRq_rw (zb_170_58 hS) ?_
    refine zRq_g (fun h13 => ?_)
    exact zRq_rt fun r h => h
  refine zRq_its (fun h14 => ?_) (fun h15 => ?_)
  · refine zRq_rw (zsw_170_1_4 h14) ?_
    refine zRq_rw (zb_170_58 hS) ?_
    refine zRq_g (fun h16 => ?_)
    exact zRq_rt fun r h => h
  refine zRq_its (fun h17 => ?_) (fun h18 => ?_)
  · refine zRq_rw (zsw_170_1_5 h17) ?_
    refine zRq_rw (zb_170_58 hS) ?_
    refine zRq_g (fun h19 => ?_)
    exact zRq_rt fun r h => h
  refine zRq_its (fun h20 => ?_) (fun h21 => ?_)
  · refine zRq_rw (zsw_170_1_6 h20) ?_
    refine zRq_rw (zb_170_67 hS) ?_
    exact zRq_rt fun r h => h
  refine zRq_its (fun h22 => ?_) (fun h23 => ?_)
  · refine zRq_rw (zsw_170_1_7 h22) ?_
    refine zRq_rw (zb_170_52 hS) ?_
    refine zRq_ci (r_171 hS) (fun v24 C25 => ?_)
    refine zRq_rw (zb_170_57 hS) ?_
    exact zRq_rt fun r h => h
  refine zRq_its (fun h26 => ?_) (fun h27 => ?_)
  · refine zRq_rw (zsw_170_1_8 h26) ?_
    refine zRq_rw (zb_170_72 hS) ?_
    exact zRq_rt fun r h => h
  refine zRq_rw (zsw_170_1_d (by omega)) ?_
  refine zRq_rw (zb_170_77 hS) ?_
  exact zRq_rt fun r h => h
-- 172: NewOrBackModel.digest()J
noncomputable def d_digest_L6  (x1 : (Int × Int)) (C3 : ZC) : Option (((Int × Int) ⊕ Int) × ZC) :=
  if 8 ≤ ((x1.2)) then (some (.inr (x1.1), C3)) else (zbd (d_count (x1.2) C3) fun v7 C8 => some (.inl ((zladd (zlmul 31 (x1.1)) v7), (zadd (x1.2) 1)), C8))
noncomputable def d_digest_L45  (x13 : (Int × Int)) (C15 : ZC) : Option (((Int × Int) ⊕ Int) × ZC) :=
  if ((C15 72 2)) ≤ ((x13.2)) then (some (.inr (x13.1), C15)) else (zg (0 ≤ (x13.2) ∧ (x13.2) < 13) (zg (0 ≤ (x13.2) ∧ (x13.2) < 13) (zg (0 ≤ (x13.2) ∧ (x13.2) < 13) (some (.inl ((zladd (zlmul 31 (zladd (zlmul 31 (zladd (zlmul 31 (x13.1)) (C15 75 (x13.2).toNat))) (C15 76 (x13.2).toNat))) (C15 77 (x13.2).toNat)), (zadd (x13.2) 1)), C15)))))
noncomputable def d_digest_L203 (l3 : Int) (x44 : (Int × Int)) (C46 : ZC) : Option (((Int × Int) ⊕ Int) × ZC) :=
  if 8 ≤ ((x44.2)) then (some (.inr (x44.1), C46)) else (zbd (d_soonOf l3 (x44.2) C46) fun v50 C51 => some (.inl ((zladd (zlmul 31 (x44.1)) v50), (zadd (x44.2) 1)), C51))
noncomputable def d_digest_L103  (x24 : (Int × Int)) (C26 : ZC) : Option (((Int × Int) ⊕ Int) × ZC) :=
  if 4 ≤ ((x24.2)) then (some (.inr (x24.1), C26)) else (zbd (d_judgedOf (x24.2) C26) fun v30 C31 => zbd (d_placeOf (x24.2) C31) fun v32 C33 => zbd (d_openOf (x24.2) (-1) C33) fun v34 C35 => zbd (d_goneOf (x24.2) C35) fun v36 C37 => zbd (d_spentOf (x24.2) C37) fun v38 C39 => zbd (d_stillOf (x24.2) C39) fun v40 C41 => zbd (d_neverOf (x24.2) C41) fun v42 C43 => zbd (zloop (d_digest_L203 (x24.2)) ((zladd (zlmul 31 (zladd (zlmul 31 (zladd (zlmul 31 (zladd (zlmul 31 (zladd (zlmul 31 (zladd (zlmul 31 (zladd (zlmul 31 (x24.1)) v30)) v32)) v34)) v36)) v38)) v40)) v42), 0) C43) fun y47 C53 => zbd (d_threadOf (x24.2) 0 C53) fun v54 C55 => zbd (d_threadOf (x24.2) 1 C55) fun v56 C57 => zbd (d_errandsOf (x24.2) 21 (-1) C57) fun v58 C59 => zbd (d_meetingOf (x24.2) (zrem (zadd (x24.2) 1) 4) 0 C59) fun v60 C61 => zbd (d_meetingOf (x24.2) (zrem (zadd (x24.2) 1) 4) 1 C61) fun v62 C63 => zbd (d_lentOf (x24.2) (zrem (zadd (x24.2) 1) 4) C63) fun v64 C65 => some (.inl ((zladd (zlmul 31 (zladd (zlmul 31 (zladd (zlmul 31 (zladd (zlmul 31 (zladd (zlmul 31 (zladd (zlmul 31 y47) v54)) v56)) v58)) v60)) v62)) v64), (zadd (x24.2) 1)), C65))
noncomputable def d_digest  (C : ZC) : Option (Int × ZC) :=
  zbd (zloop (d_digest_L6) (17, 0) C) fun y4 C10 => zbd (d_faultNow C10) fun v11 C12 => zbd (zloop (d_digest_L45) ((zladd (zlmul 31 y4) v11), 0) C12) fun y16 C23 => zbd (zloop (d_digest_L103) (y16, 0) C23) fun y27 C67 => zbd (d_cameInNow C67) fun v68 C69 => some ((zladd (zlmul 31 y27) v68), C69)
set_option maxRecDepth 100000 in
theorem r_172 {d : Nat} {S : ZS} (hS : zShM S) {C : ZC} : zRq (zKl S) (d_digest C) (zR (d + 7) 172 0 [some (.inr (.inr (some 72))), none, none, none, none] [] S C) := by
  unfold d_digest
  refine zRq_rw (zb_172_0 hS) ?_
  refine zRq_bdf (f := (fun (xq : Int) (jq : (Option ZV × Int × Option ZV)) (Cq : ZC) => zR (d + 7) 172 31 [some (.inr (.inr (some 72))), some (.inr (.inl xq)), (jq.1), some (.inl (jq.2.1)), (jq.2.2)] [] S Cq)) (zRq_loop (f := (fun (xq : (Int × Int)) (jq : (Option ZV × Option ZV)) (Cq : ZC) => zR (d + 7) 172 6 [some (.inr (.inr (some 72))), some (.inr (.inl (xq.1))), (jq.1), some (.inl (xq.2)), (jq.2)] [] S Cq)) (fun x1 j2 C3 => ?_) _ (none, none) _) (fun y4 j9 C10 => ?_)
  · unfold d_digest_L6
    refine zRq_rw (zb_172_6 hS) ?_
    refine zRq_ite (fun h5 => ?_) (fun h6 => ?_)
    · exact zRq_lf fun r h => h ((j2.1), (x1.2), (j2.2))
    · refine zRq_rw (zb_172_12 hS) ?_
      refine zRq_ci (r_170 hS) (fun v7 C8 => ?_)
      refine zRq_rw (zb_172_22 hS) ?_
      exact zRq_lf fun r h => h (none, (j2.2))
  · refine zRq_rw (zb_172_31 hS) ?_
    refine zRq_ci (r_104 hS) (fun v11 C12 => ?_)
    refine zRq_rw (zb_172_40 hS) ?_
    refine zRq_bdf (f := (fun (xq : Int) (jq : (Option ZV × Int × Option ZV)) (Cq : ZC) => zR (d + 7) 172 101 [some (.inr (.inr (some 72))), some (.inr (.inl xq)), (jq.1), some (.inl (jq.2.1)), (jq.2.2)] [] S Cq)) (zRq_loop (f := (fun (xq : (Int × Int)) (jq : (Option ZV × Option ZV)) (Cq : ZC) => zR (d + 7) 172 45 [some (.inr (.inr (some 72))), some (.inr (.inl (xq.1))), (jq.1), some (.inl (xq.2)), (jq.2)] [] S Cq)) (fun x13 j14 C15 => ?_) _ (none, (j9.2.2)) _) (fun y16 j22 C23 => ?_)
    · unfold d_digest_L45
      refine zRq_rw (zb_172_45 hS) ?_
      refine zRq_ite (fun h17 => ?_) (fun h18 => ?_)
      · exact zRq_lf fun r h => h ((j14.1), (x13.2), (j14.2))
      · refine zRq_rw (zb_172_53 hS) ?_
        refine zRq_g (fun h19 => ?_)
        refine zRq_g (fun h20 => ?_)
        refine zRq_g (fun h21 => ?_)
        exact zRq_lf fun r h => h (none, (j14.2))
    · refine zRq_rw (zb_172_101 hS) ?_
      refine zRq_bdf (f := (fun (xq : Int) (jq : (Option ZV × Int × Option ZV)) (Cq : ZC) => zR (d + 7) 172 335 [some (.inr (.inr (some 72))), some (.inr (.inl xq)), (jq.1), some (.inl (jq.2.1)), (jq.2.2)] [] S Cq)) (zRq_loop (f := (fun (xq : (Int × Int)) (jq : (Option ZV × Option ZV)) (Cq : ZC) => zR (d + 7) 172 103 [some (.inr (.inr (some 72))), some (.inr (.inl (xq.1))), (jq.1), some (.inl (xq.2)), (jq.2)] [] S Cq)) (fun x24 j25 C26 => ?_) _ ((zcl1 (j22.1)), (j22.2.2)) _) (fun y27 j66 C67 => ?_)
      · unfold d_digest_L103
        refine zRq_rw (zb_172_103 hS) ?_
        refine zRq_ite (fun h28 => ?_) (fun h29 => ?_)
        · exact zRq_lf fun r h => h ((j25.1), (x24.2), (j25.2))
        · refine zRq_rw (zb_172_108 hS) ?_
          refine zRq_ci (r_115 hS) (fun v30 C31 => ?_)
          refine zRq_rw (zb_172_118 hS) ?_
          refine zRq_ci (r_123 hS) (fun v32 C33 => ?_)
          refine zRq_rw (zb_172_131 hS) ?_
          refine zRq_ci (r_125 hS) (fun v34 C35 => ?_)
          refine zRq_rw (zb_172_145 hS) ?_
          refine zRq_ci (r_127 hS) (fun v36 C37 => ?_)
          refine zRq_rw (zb_172_158 hS) ?_
          refine zRq_ci (r_129 hS) (fun v38 C39 => ?_)
          refine zRq_rw (zb_172_171 hS) ?_
          refine zRq_ci (r_135 hS) (fun v40 C41 => ?_)
          refine zRq_rw (zb_172_184 hS) ?_
          refine zRq_ci (r_138 hS) (fun v42 C43 => ?_)
          refine zRq_rw (zb_172_197 hS) ?_
          refine zRq_bdf (f := (fun (xq : Int) (jq : (Option ZV × Int)) (Cq : ZC) => zR (d + 7) 172 231 [some (.inr (.inr (some 72))), some (.inr (.inl xq)), (jq.1), some (.inl (x24.2)), some (.inl (jq.2))] [] S Cq)) (zRq_loop (f := (fun (xq : (Int × Int)) (jq : Option ZV) (Cq : ZC) => zR (d + 7) 172 203 [some (.inr (.inr (some 72))), some (.inr (.inl (xq.1))), jq, some (.inl (x24.2)), some (.inl (xq.2))] [] S Cq)) (fun x44 j45 C46 => ?_) _ none _) (fun y47 j52 C53 => ?_)
          · unfold d_digest_L203
            refine zRq_rw (zb_172_203 hS) ?_
            refine zRq_ite (fun h48 => ?_) (fun h49 => ?_)
            · exact zRq_lf fun r h => h (j45, (x44.2))
            · refine zRq_rw (zb_172_210 hS) ?_
              refine zRq_ci (r_132 hS) (fun v50 C51 => ?_)
              refine zRq_rw (zb_172_222 hS) ?_
              exact zRq_lf fun r h => h none
          · refine zRq_rw (zb_172_231 hS) ?_
            refine zRq_ci (r_152 hS) (fun v54 C55 => ?_)
            refine zRq_rw (zb_172_242 hS) ?_
            refine zRq_ci (r_152 hS) (fun v56 C57 => ?_)
            refine zRq_rw (zb_172_256 hS) ?_
            refine zRq_ci (r_141 hS) (fun v58 C59 => ?_)
            refine zRq_rw (zb_172_272 hS) ?_
            refine zRq_ci (r_146 hS) (fun v60 C61 => ?_)
            refine zRq_rw (zb_172_295 hS) ?_
            refine zRq_ci (r_146 hS) (fun v62 C63 => ?_)
            refine zRq_rw (zb_172_311 hS) ?_
            refine zRq_ci (r_148 hS) (fun v64 C65 => ?_)
            refine zRq_rw (zb_172_326 hS) ?_
            exact zRq_lf fun r h => h (none, some (.inl (zrem (zadd (x24.2) 1) 4)))
      · refine zRq_rw (zb_172_335 hS) ?_
        refine zRq_ci (r_156 hS) (fun v68 C69 => ?_)
        refine zRq_rw (zb_172_344 hS) ?_
        exact zRq_rt fun r h => h
noncomputable def c_Law_law_L18 (L : Nat) (l0 : Nat) (x1 : Int) (C3 : ZC) : Option ((Int ⊕ (Unit ⊕ Int)) × ZC) :=
  if ((zsub (L : Int) 6)) < x1 then (some (.inr (.inl ()), C3)) else (zg (0 ≤ x1 ∧ x1 < (L : Int)) (if (zand (C3 l0 x1.toNat) 63) = 0 then (zg (0 ≤ (zadd x1 1) ∧ (zadd x1 1) < (L : Int)) (zg (0 ≤ (zadd x1 2) ∧ (zadd x1 2) < (L : Int)) (zbd (c_N_type (C3 l0 (zadd x1 1).toNat) (C3 l0 (zadd x1 2).toNat) C3) fun v12 C13 => zg (0 ≤ (zadd x1 1) ∧ (zadd x1 1) < (L : Int)) (zg (0 ≤ (zadd x1 2) ∧ (zadd x1 2) < (L : Int)) (zbd (d_type (C13 l0 (zadd x1 1).toNat) (C13 l0 (zadd x1 2).toNat) C13) fun v16 C17 => if v12 = v16 then (some (.inl (zadd x1 6), C17)) else (some (.inr (.inr 0), C17))))))) else (
    if (zand (C3 l0 x1.toNat) 63) = 1 then (zg (0 ≤ (zadd x1 1) ∧ (zadd x1 1) < (L : Int)) (zbd (c_N_wipe (C3 l0 (zadd x1 1).toNat) C3) fun v23 C24 => zg (0 ≤ (zadd x1 1) ∧ (zadd x1 1) < (L : Int)) (zbd (d_wipe (C24 l0 (zadd x1 1).toNat) C24) fun v26 C27 => if v23 = v26 then (some (.inl (zadd x1 6), C27)) else (some (.inr (.inr 0), C27))))) else (
    if (zand (C3 l0 x1.toNat) 63) = 2 then (zbd (c_N_fault C3) fun v32 C33 => zbd (d_fault C33) fun v34 C35 => if v32 = v34 then (some (.inl (zadd x1 6), C35)) else (some (.inr (.inr 0), C35))) else (
    if (zand (C3 l0 x1.toNat) 63) = 3 then (zg (0 ≤ (zadd x1 1) ∧ (zadd x1 1) < (L : Int)) (zg (0 ≤ (zadd x1 2) ∧ (zadd x1 2) < (L : Int)) (zbd (c_N_way (C3 l0 (zadd x1 1).toNat) (C3 l0 (zadd x1 2).toNat) C3) fun v42 C43 => zg (0 ≤ (zadd x1 1) ∧ (zadd x1 1) < (L : Int)) (zg (0 ≤ (zadd x1 2) ∧ (zadd x1 2) < (L : Int)) (zbd (d_way (C43 l0 (zadd x1 1).toNat) (C43 l0 (zadd x1 2).toNat) C43) fun v46 C47 => if v42 = v46 then (some (.inl (zadd x1 6), C47)) else (some (.inr (.inr 0), C47))))))) else (
    if (zand (C3 l0 x1.toNat) 63) = 4 then (zg (0 ≤ (zadd x1 1) ∧ (zadd x1 1) < (L : Int)) (zg (0 ≤ (zadd x1 2) ∧ (zadd x1 2) < (L : Int)) (zbd (c_N_home (C3 l0 (zadd x1 1).toNat) (C3 l0 (zadd x1 2).toNat) C3) fun v54 C55 => zg (0 ≤ (zadd x1 1) ∧ (zadd x1 1) < (L : Int)) (zg (0 ≤ (zadd x1 2) ∧ (zadd x1 2) < (L : Int)) (zbd (d_home (C55 l0 (zadd x1 1).toNat) (C55 l0 (zadd x1 2).toNat) C55) fun v58 C59 => if v54 = v58 then (some (.inl (zadd x1 6), C59)) else (some (.inr (.inr 0), C59))))))) else (
    if (zand (C3 l0 x1.toNat) 63) = 5 then (zg (0 ≤ (zadd x1 1) ∧ (zadd x1 1) < (L : Int)) (zg (0 ≤ (zadd x1 2) ∧ (zadd x1 2) < (L : Int)) (zbd (c_N_read (C3 l0 (zadd x1 1).toNat) (C3 l0 (zadd x1 2).toNat) C3) fun v66 C67 => zg (0 ≤ (zadd x1 1) ∧ (zadd x1 1) < (L : Int)) (zg (0 ≤ (zadd x1 2) ∧ (zadd x1 2) < (L : Int)) (zbd (d_read (C67 l0 (zadd x1 1).toNat) (C67 l0 (zadd x1 2).toNat) C67) fun v70 C71 => if v66 = v70 then (some (.inl (zadd x1 6), C71)) else (some (.inr (.inr 0), C71))))))) else (
    if (zand (C3 l0 x1.toNat) 63) = 6 then (zg (0 ≤ (zadd x1 1) ∧ (zadd x1 1) < (L : Int)) (zbd (c_N_judged (C3 l0 (zadd x1 1).toNat) C3) fun v77 C78 => zg (0 ≤ (zadd x1 1) ∧ (zadd x1 1) < (L : Int)) (zbd (d_judged (C78 l0 (zadd x1 1).toNat) C78) fun v80 C81 => if v77 = v80 then (some (.inl (zadd x1 6), C81)) else (some (.inr (.inr 0), C81))))) else (
    if (zand (C3 l0 x1.toNat) 63) = 7 then (zg (0 ≤ (zadd x1 1) ∧ (zadd x1 1) < (L : Int)) (zbd (c_N_place (C3 l0 (zadd x1 1).toNat) C3) fun v87 C88 => zg (0 ≤ (zadd x1 1) ∧ (zadd x1 1) < (L : Int)) (zbd (d_place (C88 l0 (zadd x1 1).toNat) C88) fun v90 C91 => if v87 = v90 then (some (.inl (zadd x1 6), C91)) else (some (.inr (.inr 0), C91))))) else (
    if (zand (C3 l0 x1.toNat) 63) = 8 then (zg (0 ≤ (zadd x1 1) ∧ (zadd x1 1) < (L : Int)) (zg (0 ≤ (zadd x1 2) ∧ (zadd x1 2) < (L : Int)) (zbd (c_N_open (C3 l0 (zadd x1 1).toNat) (C3 l0 (zadd x1 2).toNat) C3) fun v98 C99 => zg (0 ≤ (zadd x1 1) ∧ (zadd x1 1) < (L : Int)) (zg (0 ≤ (zadd x1 2) ∧ (zadd x1 2) < (L : Int)) (zbd (d_open (C99 l0 (zadd x1 1).toNat) (C99 l0 (zadd x1 2).toNat) C99) fun v102 C103 => if v98 = v102 then (some (.inl (zadd x1 6), C103)) else (some (.inr (.inr 0), C103))))))) else (
    if (zand (C3 l0 x1.toNat) 63) = 9 then (zg (0 ≤ (zadd x1 1) ∧ (zadd x1 1) < (L : Int)) (zbd (c_N_gone (C3 l0 (zadd x1 1).toNat) C3) fun v109 C110 => zg (0 ≤ (zadd x1 1) ∧ (zadd x1 1) < (L : Int)) (zbd (d_gone (C110 l0 (zadd x1 1).toNat) C110) fun v112 C113 => if v109 = v112 then (some (.inl (zadd x1 6), C113)) else (some (.inr (.inr 0), C113))))) else (
    if (zand (C3 l0 x1.toNat) 63) = 10 then (zg (0 ≤ (zadd x1 1) ∧ (zadd x1 1) < (L : Int)) (zbd (c_N_spent (C3 l0 (zadd x1 1).toNat) C3) fun v119 C120 => zg (0 ≤ (zadd x1 1) ∧ (zadd x1 1) < (L : Int)) (zbd (d_spent (C120 l0 (zadd x1 1).toNat) C120) fun v122 C123 => if v119 = v122 then (some (.inl (zadd x1 6), C123)) else (some (.inr (.inr 0), C123))))) else (
    if (zand (C3 l0 x1.toNat) 63) = 11 then (zg (0 ≤ (zadd x1 1) ∧ (zadd x1 1) < (L : Int)) (zg (0 ≤ (zadd x1 2) ∧ (zadd x1 2) < (L : Int)) (zbd (c_N_may (C3 l0 (zadd x1 1).toNat) (C3 l0 (zadd x1 2).toNat) C3) fun v130 C131 => zg (0 ≤ (zadd x1 1) ∧ (zadd x1 1) < (L : Int)) (zg (0 ≤ (zadd x1 2) ∧ (zadd x1 2) < (L : Int)) (zbd (d_may (C131 l0 (zadd x1 1).toNat) (C131 l0 (zadd x1 2).toNat) C131) fun v134 C135 => if v130 = v134 then (some (.inl (zadd x1 6), C135)) else (some (.inr (.inr 0), C135))))))) else (
    if (zand (C3 l0 x1.toNat) 63) = 12 then (zg (0 ≤ (zadd x1 1) ∧ (zadd x1 1) < (L : Int)) (zg (0 ≤ (zadd x1 2) ∧ (zadd x1 2) < (L : Int)) (zbd (c_N_soon (C3 l0 (zadd x1 1).toNat) (C3 l0 (zadd x1 2).toNat) C3) fun v142 C143 => zg (0 ≤ (zadd x1 1) ∧ (zadd x1 1) < (L : Int)) (zg (0 ≤ (zadd x1 2) ∧ (zadd x1 2) < (L : Int)) (zbd (d_soon (C143 l0 (zadd x1 1).toNat) (C143 l0 (zadd x1 2).toNat) C143) fun v146 C147 => if v142 = v146 then (some (.inl (zadd x1 6), C147)) else (some (.inr (.inr 0), C147))))))) else (
    if (zand (C3 l0 x1.toNat) 63) = 13 then (zg (0 ≤ (zadd x1 1) ∧ (zadd x1 1) < (L : Int)) (zbd (c_N_still (C3 l0 (zadd x1 1).toNat) C3) fun v153 C154 => zg (0 ≤ (zadd x1 1) ∧ (zadd x1 1) < (L : Int)) (zbd (d_still (C154 l0 (zadd x1 1).toNat) C154) fun v156 C157 => if v153 = v156 then (some (.inl (zadd x1 6), C157)) else (some (.inr (.inr 0), C157))))) else (
    if (zand (C3 l0 x1.toNat) 63) = 14 then (zg (0 ≤ (zadd x1 1) ∧ (zadd x1 1) < (L : Int)) (zbd (c_N_never (C3 l0 (zadd x1 1).toNat) C3) fun v163 C164 => zg (0 ≤ (zadd x1 1) ∧ (zadd x1 1) < (L : Int)) (zbd (d_never (C164 l0 (zadd x1 1).toNat) C164) fun v166 C167 => if v163 = v166 then (some (.inl (zadd x1 6), C167)) else (some (.inr (.inr 0), C167))))) else (
    if (zand (C3 l0 x1.toNat) 63) = 15 then (zg (0 ≤ (zadd x1 1) ∧ (zadd x1 1) < (L : Int)) (zg (0 ≤ (zadd x1 2) ∧ (zadd x1 2) < (L : Int)) (zg (0 ≤ (zadd x1 3) ∧ (zadd x1 3) < (L : Int)) (zbd (c_N_keeps (C3 l0 (zadd x1 1).toNat) (C3 l0 (zadd x1 2).toNat) (C3 l0 (zadd x1 3).toNat) C3) fun v175 C176 => zg (0 ≤ (zadd x1 1) ∧ (zadd x1 1) < (L : Int)) (zg (0 ≤ (zadd x1 2) ∧ (zadd x1 2) < (L : Int)) (zg (0 ≤ (zadd x1 3) ∧ (zadd x1 3) < (L : Int)) (zbd (d_keeps (C176 l0 (zadd x1 1).toNat) (C176 l0 (zadd x1 2).toNat) (C176 l0 (zadd x1 3).toNat) C176) fun v180 C181 => if v175 = v180 then (some (.inl (zadd x1 6), C181)) else (some (.inr (.inr 0), C181))))))))) else (
    if (zand (C3 l0 x1.toNat) 63) = 16 then (zg (0 ≤ (zadd x1 1) ∧ (zadd x1 1) < (L : Int)) (zg (0 ≤ (zadd x1 2) ∧ (zadd x1 2) < (L : Int)) (zg (0 ≤ (zadd x1 3) ∧ (zadd x1 3) < (L : Int)) (zbd (c_N_errands (C3 l0 (zadd x1 1).toNat) (C3 l0 (zadd x1 2).toNat) (C3 l0 (zadd x1 3).toNat) C3) fun v189 C190 => zg (0 ≤ (zadd x1 1) ∧ (zadd x1 1) < (L : Int)) (zg (0 ≤ (zadd x1 2) ∧ (zadd x1 2) < (L : Int)) (zg (0 ≤ (zadd x1 3) ∧ (zadd x1 3) < (L : Int)) (zbd (d_errands (C190 l0 (zadd x1 1).toNat) (C190 l0 (zadd x1 2).toNat) (C190 l0 (zadd x1 3).toNat) C190) fun v194 C195 => if v189 = v194 then (some (.inl (zadd x1 6), C195)) else (some (.inr (.inr 0), C195))))))))) else (
    if (zand (C3 l0 x1.toNat) 63) = 17 then (zg (0 ≤ (zadd x1 1) ∧ (zadd x1 1) < (L : Int)) (zg (0 ≤ (zadd x1 2) ∧ (zadd x1 2) < (L : Int)) (zg (0 ≤ (zadd x1 3) ∧ (zadd x1 3) < (L : Int)) (zbd (c_N_meeting (C3 l0 (zadd x1 1).toNat) (C3 l0 (zadd x1 2).toNat) (C3 l0 (zadd x1 3).toNat) C3) fun v203 C204 => zg (0 ≤ (zadd x1 1) ∧ (zadd x1 1) < (L : Int)) (zg (0 ≤ (zadd x1 2) ∧ (zadd x1 2) < (L : Int)) (zg (0 ≤ (zadd x1 3) ∧ (zadd x1 3) < (L : Int)) (zbd (d_meeting (C204 l0 (zadd x1 1).toNat) (C204 l0 (zadd x1 2).toNat) (C204 l0 (zadd x1 3).toNat) C204) fun v208 C209 => if v203 = v208 then (some (.inl (zadd x1 6), C209)) else (some (.inr (.inr 0), C209))))))))) else (
    if (zand (C3 l0 x1.toNat) 63) = 18 then (zg (0 ≤ (zadd x1 1) ∧ (zadd x1 1) < (L : Int)) (zg (0 ≤ (zadd x1 2) ∧ (zadd x1 2) < (L : Int)) (zbd (c_N_lent (C3 l0 (zadd x1 1).toNat) (C3 l0 (zadd x1 2).toNat) C3) fun v216 C217 => zg (0 ≤ (zadd x1 1) ∧ (zadd x1 1) < (L : Int)) (zg (0 ≤ (zadd x1 2) ∧ (zadd x1 2) < (L : Int)) (zbd (d_lent (C217 l0 (zadd x1 1).toNat) (C217 l0 (zadd x1 2).toNat) C217) fun v220 C221 => if v216 = v220 then (some (.inl (zadd x1 6), C221)) else (some (.inr (.inr 0), C221))))))) else (
    if (zand (C3 l0 x1.toNat) 63) = 19 then (zg (0 ≤ (zadd x1 1) ∧ (zadd x1 1) < (L : Int)) (zg (0 ≤ (zadd x1 2) ∧ (zadd x1 2) < (L : Int)) (zbd (c_N_lost (C3 l0 (zadd x1 1).toNat) (C3 l0 (zadd x1 2).toNat) C3) fun v228 C229 => zg (0 ≤ (zadd x1 1) ∧ (zadd x1 1) < (L : Int)) (zg (0 ≤ (zadd x1 2) ∧ (zadd x1 2) < (L : Int)) (zbd (d_lost (C229 l0 (zadd x1 1).toNat) (C229 l0 (zadd x1 2).toNat) C229) fun v232 C233 => if v228 = v232 then (some (.inl (zadd x1 6), C233)) else (some (.inr (.inr 0), C233))))))) else (
    if (zand (C3 l0 x1.toNat) 63) = 20 then (zg (0 ≤ (zadd x1 1) ∧ (zadd x1 1) < (L : Int)) (zg (0 ≤ (zadd x1 2) ∧ (zadd x1 2) < (L : Int)) (zbd (c_N_thread (C3 l0 (zadd x1 1).toNat) (C3 l0 (zadd x1 2).toNat) C3) fun v240 C241 => zg (0 ≤ (zadd x1 1) ∧ (zadd x1 1) < (L : Int)) (zg (0 ≤ (zadd x1 2) ∧ (zadd x1 2) < (L : Int)) (zbd (d_thread (C241 l0 (zadd x1 1).toNat) (C241 l0 (zadd x1 2).toNat) C241) fun v244 C245 => if v240 = v244 then (some (.inl (zadd x1 6), C245)) else (some (.inr (.inr 0), C245))))))) else (
    if (zand (C3 l0 x1.toNat) 63) = 21 then (zg (0 ≤ (zadd x1 1) ∧ (zadd x1 1) < (L : Int)) (zg (0 ≤ (zadd x1 2) ∧ (zadd x1 2) < (L : Int)) (zbd (c_N_seen (C3 l0 (zadd x1 1).toNat) (C3 l0 (zadd x1 2).toNat) C3) fun v252 C253 => zg (0 ≤ (zadd x1 1) ∧ (zadd x1 1) < (L : Int)) (zg (0 ≤ (zadd x1 2) ∧ (zadd x1 2) < (L : Int)) (zbd (d_seen (C253 l0 (zadd x1 1).toNat) (C253 l0 (zadd x1 2).toNat) C253) fun v256 C257 => if v252 = v256 then (some (.inl (zadd x1 6), C257)) else (some (.inr (.inr 0), C257))))))) else (
    if (zand (C3 l0 x1.toNat) 63) = 22 then (zbd (c_N_forget C3) fun v262 C263 => zbd (d_forget C263) fun v264 C265 => if v262 = v264 then (some (.inl (zadd x1 6), C265)) else (some (.inr (.inr 0), C265))) else (
    if (zand (C3 l0 x1.toNat) 63) = 23 then (zbd (c_N_cameIn C3) fun v270 C271 => zbd (d_cameIn C271) fun v272 C273 => if v270 = v272 then (some (.inl (zadd x1 6), C273)) else (some (.inr (.inr 0), C273))) else (
    if (zand (C3 l0 x1.toNat) 63) = 24 then (zg (0 ≤ (zadd x1 1) ∧ (zadd x1 1) < (L : Int)) (zg (0 ≤ (zadd x1 2) ∧ (zadd x1 2) < (L : Int)) (zbd (c_N_safe (C3 l0 (zadd x1 1).toNat) (C3 l0 (zadd x1 2).toNat) C3) fun v280 C281 => zg (0 ≤ (zadd x1 1) ∧ (zadd x1 1) < (L : Int)) (zg (0 ≤ (zadd x1 2) ∧ (zadd x1 2) < (L : Int)) (zbd (d_safe (C281 l0 (zadd x1 1).toNat) (C281 l0 (zadd x1 2).toNat) C281) fun v284 C285 => if v280 = v284 then (some (.inl (zadd x1 6), C285)) else (some (.inr (.inr 0), C285))))))) else (
    if (zand (C3 l0 x1.toNat) 63) = 25 then (zg (0 ≤ (zadd x1 1) ∧ (zadd x1 1) < (L : Int)) (zg (0 ≤ (zadd x1 2) ∧ (zadd x1 2) < (L : Int)) (zg (0 ≤ (zadd x1 3) ∧ (zadd x1 3) < (L : Int)) (zbd (c_N_sheet (C3 l0 (zadd x1 1).toNat) (C3 l0 (zadd x1 2).toNat) (C3 l0 (zadd x1 3).toNat) C3) fun v293 C294 => zg (0 ≤ (zadd x1 1) ∧ (zadd x1 1) < (L : Int)) (zg (0 ≤ (zadd x1 2) ∧ (zadd x1 2) < (L : Int)) (zg (0 ≤ (zadd x1 3) ∧ (zadd x1 3) < (L : Int)) (zbd (d_sheet (C294 l0 (zadd x1 1).toNat) (C294 l0 (zadd x1 2).toNat) (C294 l0 (zadd x1 3).toNat) C294) fun v298 C299 => if v293 = v298 then (some (.inl (zadd x1 6), C299)) else (some (.inr (.inr 0), C299))))))))) else (
    if (zand (C3 l0 x1.toNat) 63) = 26 then (zg (0 ≤ (zadd x1 1) ∧ (zadd x1 1) < (L : Int)) (zbd (c_N_lose (C3 l0 (zadd x1 1).toNat) C3) fun v305 C306 => zg (0 ≤ (zadd x1 1) ∧ (zadd x1 1) < (L : Int)) (zbd (d_lose (C306 l0 (zadd x1 1).toNat) C306) fun v308 C309 => if v305 = v308 then (some (.inl (zadd x1 6), C309)) else (some (.inr (.inr 0), C309))))) else (
    if (zand (C3 l0 x1.toNat) 63) = 27 then (zg (0 ≤ (zadd x1 1) ∧ (zadd x1 1) < (L : Int)) (zg (0 ≤ (zadd x1 2) ∧ (zadd x1 2) < (L : Int)) (zg (0 ≤ (zadd x1 3) ∧ (zadd x1 3) < (L : Int)) (zg (0 ≤ (zadd x1 4) ∧ (zadd x1 4) < (L : Int)) (zbd (c_N_put (C3 l0 (zadd x1 1).toNat) (C3 l0 (zadd x1 2).toNat) (C3 l0 (zadd x1 3).toNat) (C3 l0 (zadd x1 4).toNat) C3) fun v318 C319 => zg (0 ≤ (zadd x1 1) ∧ (zadd x1 1) < (L : Int)) (zg (0 ≤ (zadd x1 2) ∧ (zadd x1 2) < (L : Int)) (zg (0 ≤ (zadd x1 3) ∧ (zadd x1 3) < (L : Int)) (zg (0 ≤ (zadd x1 4) ∧ (zadd x1 4) < (L : Int)) (zbd (d_put (C319 l0 (zadd x1 1).toNat) (C319 l0 (zadd x1 2).toNat) (C319 l0 (zadd x1 3).toNat) (C319 l0 (zadd x1 4).toNat) C319) fun v324 C325 => if v318 = v324 then (some (.inl (zadd x1 6), C325)) else (some (.inr (.inr 0), C325))))))))))) else (
    if (zand (C3 l0 x1.toNat) 63) = 28 then (zg (0 ≤ (zadd x1 1) ∧ (zadd x1 1) < (L : Int)) (zg (0 ≤ (zadd x1 2) ∧ (zadd x1 2) < (L : Int)) (zg (0 ≤ (zadd x1 3) ∧ (zadd x1 3) < (L : Int)) (zbd (c_N_get (C3 l0 (zadd x1 1).toNat) (C3 l0 (zadd x1 2).toNat) (C3 l0 (zadd x1 3).toNat) C3) fun v333 C334 => zg (0 ≤ (zadd x1 1) ∧ (zadd x1 1) < (L : Int)) (zg (0 ≤ (zadd x1 2) ∧ (zadd x1 2) < (L : Int)) (zg (0 ≤ (zadd x1 3) ∧ (zadd x1 3) < (L : Int)) (zbd (d_get (C334 l0 (zadd x1 1).toNat) (C334 l0 (zadd x1 2).toNat) (C334 l0 (zadd x1 3).toNat) C334) fun v338 C339 => if v333 = v338 then (some (.inl (zadd x1 6), C339)) else (some (.inr (.inr 0), C339))))))))) else (
    if (zand (C3 l0 x1.toNat) 63) = 29 then (zg (0 ≤ (zadd x1 1) ∧ (zadd x1 1) < (L : Int)) (zg (0 ≤ (zadd x1 2) ∧ (zadd x1 2) < (L : Int)) (zg (0 ≤ (zadd x1 3) ∧ (zadd x1 3) < (L : Int)) (zg (0 ≤ (zadd x1 4) ∧ (zadd x1 4) < (L : Int)) (zg (0 ≤ (zadd x1 5) ∧ (zadd x1 5) < (L : Int)) (zbd (c_N_copy (C3 l0 (zadd x1 1).toNat) (C3 l0 (zadd x1 2).toNat) (C3 l0 (zadd x1 3).toNat) (C3 l0 (zadd x1 4).toNat) (C3 l0 (zadd x1 5).toNat) C3) fun v349 C350 => zg (0 ≤ (zadd x1 1) ∧ (zadd x1 1) < (L : Int)) (zg (0 ≤ (zadd x1 2) ∧ (zadd x1 2) < (L : Int)) (zg (0 ≤ (zadd x1 3) ∧ (zadd x1 3) < (L : Int)) (zg (0 ≤ (zadd x1 4) ∧ (zadd x1 4) < (L : Int)) (zg (0 ≤ (zadd x1 5) ∧ (zadd x1 5) < (L : Int)) (zbd (d_copy (C350 l0 (zadd x1 1).toNat) (C350 l0 (zadd x1 2).toNat) (C350 l0 (zadd x1 3).toNat) (C350 l0 (zadd x1 4).toNat) (C350 l0 (zadd x1 5).toNat) C350) fun v356 C357 => if v349 = v356 then (some (.inl (zadd x1 6), C357)) else (some (.inr (.inr 0), C357))))))))))))) else (
    if (zand (C3 l0 x1.toNat) 63) = 30 then (zg (0 ≤ (zadd x1 1) ∧ (zadd x1 1) < (L : Int)) (zg (0 ≤ (zadd x1 2) ∧ (zadd x1 2) < (L : Int)) (zbd (c_N_write (C3 l0 (zadd x1 1).toNat) (C3 l0 (zadd x1 2).toNat) C3) fun v364 C365 => zg (0 ≤ (zadd x1 1) ∧ (zadd x1 1) < (L : Int)) (zg (0 ≤ (zadd x1 2) ∧ (zadd x1 2) < (L : Int)) (zbd (d_write (C365 l0 (zadd x1 1).toNat) (C365 l0 (zadd x1 2).toNat) C365) fun v368 C369 => if v364 = v368 then (some (.inl (zadd x1 6), C369)) else (some (.inr (.inr 0), C369))))))) else (
    if (zand (C3 l0 x1.toNat) 63) = 31 then (zg (0 ≤ (zadd x1 1) ∧ (zadd x1 1) < (L : Int)) (zbd (c_N_count (C3 l0 (zadd x1 1).toNat) C3) fun v375 C376 => zg (0 ≤ (zadd x1 1) ∧ (zadd x1 1) < (L : Int)) (zbd (d_count (C376 l0 (zadd x1 1).toNat) C376) fun v378 C379 => if v375 = v378 then (some (.inl (zadd x1 6), C379)) else (some (.inr (.inr 0), C379))))) else (
    if (zand (C3 l0 x1.toNat) 63) = 32 then (zbd (c_N_digest C3) fun v384 C385 => zbd (d_digest C385) fun v386 C387 => if ((if v386 < v384 then 1 else if v384 = v386 then 0 else -1)) = 0 then (some (.inl (zadd x1 6), C387)) else (some (.inr (.inr 0), C387))) else (
    some (.inl (zadd x1 6), C3))))))))))))))))))))))))))))))))))))
noncomputable def c_Law_law (L : Nat) (C : ZC) : Option (Int × ZC) :=
  zbs (zloop (c_Law_law_L18 L 0) 0 C) fun y4 C391 => some (1, C391)
set_option maxRecDepth 100000 in
theorem r_law {d : Nat} {S : ZS} (hS : zShC S) (hM : zShM S) {L : Nat} (hL : ((S.2.2.1 0 : Nat) : Int) = (L : Int)) (hlen : (L : Int) < 1000000) {l3 : Option ZV} {C : ZC} : zRq (zKi S) (c_Law_law L C) (zR (d + 45) 173 16 [some (.inr (.inr (some 0))), some (.inr (.inr (some 1))), some (.inr (.inr (some 72))), l3] [] S C) := by
  unfold c_Law_law
  refine zRq_rw (zb_173_16 hS hM hL hlen) ?_
  refine zRq_bsf (f := (fun (xq : Unit) (jq : Int) (Cq : ZC) => zR (d + 45) 173 1206 [some (.inr (.inr (some 0))), some (.inr (.inr (some 1))), some (.inr (.inr (some 72))), some (.inl jq)] [] S Cq)) (zRq_loop (f := (fun (xq : Int) (jq : Unit) (Cq : ZC) => zR (d + 45) 173 18 [some (.inr (.inr (some 0))), some (.inr (.inr (some 1))), some (.inr (.inr (some 72))), some (.inl xq)] [] S Cq)) (fun x1 j2 C3 => ?_) _ () _) (fun y4 j390 C391 => ?_)
  · unfold c_Law_law_L18
    refine zRq_rw (zb_173_18 hS hM hL hlen) ?_
    refine zRq_ite (fun h5 => ?_) (fun h6 => ?_)
    · exact zRq_lf fun r h => h x1
    · refine zRq_rw (zb_173_27 hS hM hL hlen) ?_
      refine zRq_g (fun h7 => ?_)
      refine zRq_its (fun h8 => ?_) (fun h9 => ?_)
      · refine zRq_rw (zsw_173_33_0 h8) ?_
        refine zRq_rw (zb_173_180 hS hM hL hlen) ?_
        refine zRq_g (fun h10 => ?_)
        refine zRq_g (fun h11 => ?_)
        refine zRq_ci (r_62 hS) (fun v12 C13 => ?_)
        refine zRq_rw (zb_173_194 hS hM hL hlen) ?_
        refine zRq_g (fun h14 => ?_)
        refine zRq_g (fun h15 => ?_)
        refine zRq_ci (r_100 hM) (fun v16 C17 => ?_)
        refine zRq_rw (zb_173_208 hS hM hL hlen) ?_
        refine zRq_ite (fun h18 => ?_) (fun h19 => ?_)
        · refine zRq_rw (zb_173_1200 hS hM hL hlen) ?_
          exact zRq_lf fun r h => h ()
        · refine zRq_rw (zb_173_211 hS hM hL hlen) ?_
          exact zRq_rt fun r h => h
      refine zRq_its (fun h20 => ?_) (fun h21 => ?_)
      · refine zRq_rw (zsw_173_33_1 h20) ?_
        refine zRq_rw (zb_173_213 hS hM hL hlen) ?_
        refine zRq_g (fun h22 => ?_)
        refine zRq_ci (r_64 hS) (fun v23 C24 => ?_)
        refine zRq_rw (zb_173_222 hS hM hL hlen) ?_
        refine zRq_g (fun h25 => ?_)
        refine zRq_ci (r_102 hM) (fun v26 C27 => ?_)
        refine zRq_rw (zb_173_231 hS hM hL hlen) ?_
        refine zRq_ite (fun h28 => ?_) (fun h29 => ?_)
        · refine zRq_rw (zb_173_1200 hS hM hL hlen) ?_
          exact zRq_lf fun r h => h ()
        · refine zRq_rw (zb_173_234 hS hM hL hlen) ?_
          exact zRq_rt fun r h => h
      refine zRq_its (fun h30 => ?_) (fun h31 => ?_)
      · refine zRq_rw (zsw_173_33_2 h30) ?_
        refine zRq_rw (zb_173_236 hS hM hL hlen) ?_
        refine zRq_ci (r_65 hS) (fun v32 C33 => ?_)
        refine zRq_rw (zb_173_240 hS hM hL hlen) ?_
        refine zRq_ci (r_103 hM) (fun v34 C35 => ?_)
        refine zRq_rw (zb_173_244 hS hM hL hlen) ?_
        refine zRq_ite (fun h36 => ?_) (fun h37 => ?_)
        · refine zRq_rw (zb_173_1200 hS hM hL hlen) ?_
          exact zRq_lf fun r h => h ()
        · refine zRq_rw (zb_173_247 hS hM hL hlen) ?_
          exact zRq_rt fun r h => h
      refine zRq_its (fun h38 => ?_) (fun h39 => ?_)
      · refine zRq_rw (zsw_173_33_3 h38) ?_
        refine zRq_rw (zb_173_249 hS hM hL hlen) ?_
        refine zRq_g (fun h40 => ?_)
        refine zRq_g (fun h41 => ?_)
        refine zRq_ci (r_66 hS) (fun v42 C43 => ?_)
        refine zRq_rw (zb_173_263 hS hM hL hlen) ?_
        refine zRq_g (fun h44 => ?_)
        refine zRq_g (fun h45 => ?_)
        refine zRq_ci (r_106 hM) (fun v46 C47 => ?_)
        refine zRq_rw (zb_173_277 hS hM hL hlen) ?_
        refine zRq_ite (fun h48 => ?_) (fun h49 => ?_)
        · refine zRq_rw (zb_173_1200 hS hM hL hlen) ?_
          exact zRq_lf fun r h => h ()
        · refine zRq_rw (zb_173_280 hS hM hL hlen) ?_
          exact zRq_rt fun r h => h
      refine zRq_its (fun h50 => ?_) (fun h51 => ?_)
      · refine zRq_rw (zsw_173_33_4 h50) ?_
        refine zRq_rw (zb_173_282 hS hM hL hlen) ?_
        refine zRq_g (fun h52 => ?_)
        refine zRq_g (fun h53 => ?_)
        refine zRq_ci (r_67 hS) (fun v54 C55 => ?_)
        refine zRq_rw (zb_173_296 hS hM hL hlen) ?_
        refine zRq_g (fun h56 => ?_)
        refine zRq_g (fun h57 => ?_)
        refine zRq_ci (r_108 hM) (fun v58 C59 => ?_)
        refine zRq_rw (zb_173_310 hS hM hL hlen) ?_
        refine zRq_ite (fun h60 => ?_) (fun h61 => ?_)
        · refine zRq_rw (zb_173_1200 hS hM hL hlen) ?_
          exact zRq_lf fun r h => h ()
        · refine zRq_rw (zb_173_313 hS hM hL hlen) ?_
          exact zRq_rt fun r h => h
      refine zRq_its (fun h62 => ?_) (fun h63 => ?_)
      · refine zRq_rw (zsw_173_33_5 h62) ?_
        refine zRq_rw (zb_173_315 hS hM hL hlen) ?_
        refine zRq_g (fun h64 => ?_)
        refine zRq_g (fun h65 => ?_)
        refine zRq_ci (r_68 hS) (fun v66 C67 => ?_)
        refine zRq_rw (zb_173_329 hS hM hL hlen) ?_
        refine zRq_g (fun h68 => ?_)
        refine zRq_g (fun h69 => ?_)
        refine zRq_ci (r_111 hM) (fun v70 C71 => ?_)
        refine zRq_rw (zb_173_343 hS hM hL hlen) ?_
        refine zRq_ite (fun h72 => ?_) (fun h73 => ?_)
        · refine zRq_rw (zb_173_1200 hS hM hL hlen) ?_
          exact zRq_lf fun r h => h ()
        · refine zRq_rw (zb_173_346 hS hM hL hlen) ?_
          exact zRq_rt fun r h => h
      refine zRq_its (fun h74 => ?_) (fun h75 => ?_)
      · refine zRq_rw (zsw_173_33_6 h74) ?_
        refine zRq_rw (zb_173_348 hS hM hL hlen) ?_
        refine zRq_g (fun h76 => ?_)
        refine zRq_ci (r_69 hS) (fun v77 C78 => ?_)
        refine zRq_rw (zb_173_357 hS hM hL hlen) ?_
        refine zRq_g (fun h79 => ?_)
        refine zRq_ci (r_114 hM) (fun v80 C81 => ?_)
        refine zRq_rw (zb_173_366 hS hM hL hlen) ?_
        refine zRq_ite (fun h82 => ?_) (fun h83 => ?_)
        · refine zRq_rw (zb_173_1200 hS hM hL hlen) ?_
          exact zRq_lf fun r h => h ()
        · refine zRq_rw (zb_173_369 hS hM hL hlen) ?_
          exact zRq_rt fun r h => h
      refine zRq_its (fun h84 => ?_) (fun h85 => ?_)
      · refine zRq_rw (zsw_173_33_7 h84) ?_
        refine zRq_rw (zb_173_371 hS hM hL hlen) ?_
        refine zRq_g (fun h86 => ?_)
        refine zRq_ci (r_70 hS) (fun v87 C88 => ?_)
        refine zRq_rw (zb_173_380 hS hM hL hlen) ?_
        refine zRq_g (fun h89 => ?_)
        refine zRq_ci (r_122 hM) (fun v90 C91 => ?_)
        refine zRq_rw (zb_173_389 hS hM hL hlen) ?_
        refine zRq_ite (fun h92 => ?_) (fun h93 => ?_)
        · refine zRq_rw (zb_173_1200 hS hM hL hlen) ?_
          exact zRq_lf fun r h => h ()
        · refine zRq_rw (zb_173_392 hS hM hL hlen) ?_
          exact zRq_rt fun r h => h
      refine zRq_its (fun h94 => ?_) (fun h95 => ?_)
      · refine zRq_rw (zsw_173_33_8 h94) ?_
        refine zRq_rw (zb_173_394 hS hM hL hlen) ?_
        refine zRq_g (fun h96 => ?_)
        refine zRq_g (fun h97 => ?_)
        refine zRq_ci (r_71 hS) (fun v98 C99 => ?_)
        refine zRq_rw (zb_173_408 hS hM hL hlen) ?_
        refine zRq_g (fun h100 => ?_)
        refine zRq_g (fun h101 => ?_)
        refine zRq_ci (r_124 hM) (fun v102 C103 => ?_)
        refine zRq_rw (zb_173_422 hS hM hL hlen) ?_
        refine zRq_ite (fun h104 => ?_) (fun h105 => ?_)
        · refine zRq_rw (zb_173_1200 hS hM hL hlen) ?_
          exact zRq_lf fun r h => h ()
        · refine zRq_rw (zb_173_425 hS hM hL hlen) ?_
          exact zRq_rt fun r h => h
      refine zRq_its (fun h106 => ?_) (fun h107 => ?_)
      · refine zRq_rw (zsw_173_33_9 h106) ?_
        refine zRq_rw (zb_173_427 hS hM hL hlen) ?_
        refine zRq_g (fun h108 => ?_)
        refine zRq_ci (r_72 hS) (fun v109 C110 => ?_)
        refine zRq_rw (zb_173_436 hS hM hL hlen) ?_
        refine zRq_g (fun h111 => ?_)
        refine zRq_ci (r_126 hM) (fun v112 C113 => ?_)
        refine zRq_rw (zb_173_445 hS hM hL hlen) ?_
        refine zRq_ite (fun h114 => ?_) (fun h115 => ?_)
        · refine zRq_rw (zb_173_1200 hS hM hL hlen) ?_
          exact zRq_lf fun r h => h ()
        · refine zRq_rw (zb_173_448 hS hM hL hlen) ?_
          exact zRq_rt fun r h => h
      refine zRq_its (fun h116 => ?_) (fun h117 => ?_)
      · refine zRq_rw (zsw_173_33_10 h116) ?_
        refine zRq_rw (zb_173_450 hS hM hL hlen) ?_
        refine zRq_g (fun h118 => ?_)
        refine zRq_ci (r_73 hS) (fun v119 C120 => ?_)
        refine zRq_rw (zb_173_459 hS hM hL hlen) ?_
        refine zRq_g (fun h121 => ?_)
        refine zRq_ci (r_128 hM) (fun v122 C123 => ?_)
        refine zRq_rw (zb_173_468 hS hM hL hlen) ?_
        refine zRq_ite (fun h124 => ?_) (fun h125 => ?_)
        · refine zRq_rw (zb_173_1200 hS hM hL hlen) ?_
          exact zRq_lf fun r h => h ()
        · refine zRq_rw (zb_173_471 hS hM hL hlen) ?_
          exact zRq_rt fun r h => h
      refine zRq_its (fun h126 => ?_) (fun h127 => ?_)
      · refine zRq_rw (zsw_173_33_11 h126) ?_
        refine zRq_rw (zb_173_473 hS hM hL hlen) ?_
        refine zRq_g (fun h128 => ?_)
        refine zRq_g (fun h129 => ?_)
        refine zRq_ci (r_74 hS) (fun v130 C131 => ?_)
        refine zRq_rw (zb_173_487 hS hM hL hlen) ?_
        refine zRq_g (fun h132 => ?_)
        refine zRq_g (fun h133 => ?_)
        refine zRq_ci (r_130 hM) (fun v134 C135 => ?_)
        refine zRq_rw (zb_173_501 hS hM hL hlen) ?_
        refine zRq_ite (fun h136 => ?_) (fun h137 => ?_)
        · refine zRq_rw (zb_173_1200 hS hM hL hlen) ?_
          exact zRq_lf fun r h => h ()
        · refine zRq_rw (zb_173_504 hS hM hL hlen) ?_
          exact zRq_rt fun r h => h
      refine zRq_its (fun h138 => ?_) (fun h139 => ?_)
      · refine zRq_rw (zsw_173_33_12 h138) ?_
        refine zRq_rw (zb_173_506 hS hM hL hlen) ?_
        refine zRq_g (fun h140 => ?_)
        refine zRq_g (fun h141 => ?_)
        refine zRq_ci (r_75 hS) (fun v142 C143 => ?_)
        refine zRq_rw (zb_173_520 hS hM hL hlen) ?_
        refine zRq_g (fun h144 => ?_)
        refine zRq_g (fun h145 => ?_)
        refine zRq_ci (r_131 hM) (fun v146 C147 => ?_)
        refine zRq_rw (zb_173_534 hS hM hL hlen) ?_
        refine zRq_ite (fun h148 => ?_) (fun h149 => ?_)
        · refine zRq_rw (zb_173_1200 hS hM hL hlen) ?_
          exact zRq_lf fun r h => h ()
        · refine zRq_rw (zb_173_537 hS hM hL hlen) ?_
          exact zRq_rt fun r h => h
      refine zRq_its (fun h150 => ?_) (fun h151 => ?_)
      · refine zRq_rw (zsw_173_33_13 h150) ?_
        refine zRq_rw (zb_173_539 hS hM hL hlen) ?_
        refine zRq_g (fun h152 => ?_)
        refine zRq_ci (r_76 hS) (fun v153 C154 => ?_)
        refine zRq_rw (zb_173_548 hS hM hL hlen) ?_
        refine zRq_g (fun h155 => ?_)
        refine zRq_ci (r_134 hM) (fun v156 C157 => ?_)
        refine zRq_rw (zb_173_557 hS hM hL hlen) ?_
        refine zRq_ite (fun h158 => ?_) (fun h159 => ?_)
        · refine zRq_rw (zb_173_1200 hS hM hL hlen) ?_
          exact zRq_lf fun r h => h ()
        · refine zRq_rw (zb_173_560 hS hM hL hlen) ?_
          exact zRq_rt fun r h => h
      refine zRq_its (fun h160 => ?_) (fun h161 => ?_)
      · refine zRq_rw (zsw_173_33_14 h160) ?_
        refine zRq_rw (zb_173_562 hS hM hL hlen) ?_
        refine zRq_g (fun h162 => ?_)
        refine zRq_ci (r_77 hS) (fun v163 C164 => ?_)
        refine zRq_rw (zb_173_571 hS hM hL hlen) ?_
        refine zRq_g (fun h165 => ?_)
        refine zRq_ci (r_137 hM) (fun v166 C167 => ?_)
        refine zRq_rw (zb_173_580 hS hM hL hlen) ?_
        refine zRq_ite (fun h168 => ?_) (fun h169 => ?_)
        · refine zRq_rw (zb_173_1200 hS hM hL hlen) ?_
          exact zRq_lf fun r h => h ()
        · refine zRq_rw (zb_173_583 hS hM hL hlen) ?_
          exact zRq_rt fun r h => h
      refine zRq_its (fun h170 => ?_) (fun h171 => ?_)
      · refine zRq_rw (zsw_173_33_15 h170) ?_
        refine zRq_rw (zb_173_585 hS hM hL hlen) ?_
        refine zRq_g (fun h172 => ?_)
        refine zRq_g (fun h173 => ?_)
        refine zRq_g (fun h174 => ?_)
        refine zRq_ci (r_78 hS) (fun v175 C176 => ?_)
        refine zRq_rw (zb_173_604 hS hM hL hlen) ?_
        refine zRq_g (fun h177 => ?_)
        refine zRq_g (fun h178 => ?_)
        refine zRq_g (fun h179 => ?_)
        refine zRq_ci (r_139 hM) (fun v180 C181 => ?_)
        refine zRq_rw (zb_173_623 hS hM hL hlen) ?_
        refine zRq_ite (fun h182 => ?_) (fun h183 => ?_)
        · refine zRq_rw (zb_173_1200 hS hM hL hlen) ?_
          exact zRq_lf fun r h => h ()
        · refine zRq_rw (zb_173_626 hS hM hL hlen) ?_
          exact zRq_rt fun r h => h
      refine zRq_its (fun h184 => ?_) (fun h185 => ?_)
      · refine zRq_rw (zsw_173_33_16 h184) ?_
        refine zRq_rw (zb_173_628 hS hM hL hlen) ?_
        refine zRq_g (fun h186 => ?_)
        refine zRq_g (fun h187 => ?_)
        refine zRq_g (fun h188 => ?_)
        refine zRq_ci (r_79 hS) (fun v189 C190 => ?_)
        refine zRq_rw (zb_173_647 hS hM hL hlen) ?_
        refine zRq_g (fun h191 => ?_)
        refine zRq_g (fun h192 => ?_)
        refine zRq_g (fun h193 => ?_)
        refine zRq_ci (r_140 hM) (fun v194 C195 => ?_)
        refine zRq_rw (zb_173_666 hS hM hL hlen) ?_
        refine zRq_ite (fun h196 => ?_) (fun h197 => ?_)
        · refine zRq_rw (zb_173_1200 hS hM hL hlen) ?_
          exact zRq_lf fun r h => h ()
        · refine zRq_rw (zb_173_669 hS hM hL hlen) ?_
          exact zRq_rt fun r h => h
      refine zRq_its (fun h198 => ?_) (fun h199 => ?_)
      · refine zRq_rw (zsw_173_33_17 h198) ?_
        refine zRq_rw (zb_173_671 hS hM hL hlen) ?_
        refine zRq_g (fun h200 => ?_)
        refine zRq_g (fun h201 => ?_)
        refine zRq_g (fun h202 => ?_)
        refine zRq_ci (r_80 hS) (fun v203 C204 => ?_)
        refine zRq_rw (zb_173_690 hS hM hL hlen) ?_
        refine zRq_g (fun h205 => ?_)
        refine zRq_g (fun h206 => ?_)
        refine zRq_g (fun h207 => ?_)
        refine zRq_ci (r_145 hM) (fun v208 C209 => ?_)
        refine zRq_rw (zb_173_709 hS hM hL hlen) ?_
        refine zRq_ite (fun h210 => ?_) (fun h211 => ?_)
        · refine zRq_rw (zb_173_1200 hS hM hL hlen) ?_
          exact zRq_lf fun r h => h ()
        · refine zRq_rw (zb_173_712 hS hM hL hlen) ?_
          exact zRq_rt fun r h => h
      refine zRq_its (fun h212 => ?_) (fun h213 => ?_)
      · refine zRq_rw (zsw_173_33_18 h212) ?_
        refine zRq_rw (zb_173_714 hS hM hL hlen) ?_
        refine zRq_g (fun h214 => ?_)
        refine zRq_g (fun h215 => ?_)
        refine zRq_ci (r_82 hS) (fun v216 C217 => ?_)
        refine zRq_rw (zb_173_728 hS hM hL hlen) ?_
        refine zRq_g (fun h218 => ?_)
        refine zRq_g (fun h219 => ?_)
        refine zRq_ci (r_147 hM) (fun v220 C221 => ?_)
        refine zRq_rw (zb_173_742 hS hM hL hlen) ?_
        refine zRq_ite (fun h222 => ?_) (fun h223 => ?_)
        · refine zRq_rw (zb_173_1200 hS hM hL hlen) ?_
          exact zRq_lf fun r h => h ()
        · refine zRq_rw (zb_173_745 hS hM hL hlen) ?_
          exact zRq_rt fun r h => h
      refine zRq_its (fun h224 => ?_) (fun h225 => ?_)
      · refine zRq_rw (zsw_173_33_19 h224) ?_
        refine zRq_rw (zb_173_747 hS hM hL hlen) ?_
        refine zRq_g (fun h226 => ?_)
        refine zRq_g (fun h227 => ?_)
        refine zRq_ci (r_83 hS) (fun v228 C229 => ?_)
        refine zRq_rw (zb_173_761 hS hM hL hlen) ?_
        refine zRq_g (fun h230 => ?_)
        refine zRq_g (fun h231 => ?_)
        refine zRq_ci (r_149 hM) (fun v232 C233 => ?_)
        refine zRq_rw (zb_173_775 hS hM hL hlen) ?_
        refine zRq_ite (fun h234 => ?_) (fun h235 => ?_)
        · refine zRq_rw (zb_173_1200 hS hM hL hlen) ?_
          exact zRq_lf fun r h => h ()
        · refine zRq_rw (zb_173_778 hS hM hL hlen) ?_
          exact zRq_rt fun r h => h
      refine zRq_its (fun h236 => ?_) (fun h237 => ?_)
      · refine zRq_rw (zsw_173_33_20 h236) ?_
        refine zRq_rw (zb_173_780 hS hM hL hlen) ?_
        refine zRq_g (fun h238 => ?_)
        refine zRq_g (fun h239 => ?_)
        refine zRq_ci (r_84 hS) (fun v240 C241 => ?_)
        refine zRq_rw (zb_173_794 hS hM hL hlen) ?_
        refine zRq_g (fun h242 => ?_)
        refine zRq_g (fun h243 => ?_)
        refine zRq_ci (r_151 hM) (fun v244 C245 => ?_)
        refine zRq_rw (zb_173_808 hS hM hL hlen) ?_
        refine zRq_ite (fun h246 => ?_) (fun h247 => ?_)
        · refine zRq_rw (zb_173_1200 hS hM hL hlen) ?_
          exact zRq_lf fun r h => h ()
        · refine zRq_rw (zb_173_811 hS hM hL hlen) ?_
          exact zRq_rt fun r h => h
      refine zRq_its (fun h248 => ?_) (fun h249 => ?_)
      · refine zRq_rw (zsw_173_33_21 h248) ?_
        refine zRq_rw (zb_173_813 hS hM hL hlen) ?_
        refine zRq_g (fun h250 => ?_)
        refine zRq_g (fun h251 => ?_)
        refine zRq_ci (r_87 hS) (fun v252 C253 => ?_)
        refine zRq_rw (zb_173_827 hS hM hL hlen) ?_
        refine zRq_g (fun h254 => ?_)
        refine zRq_g (fun h255 => ?_)
        refine zRq_ci (r_153 hM) (fun v256 C257 => ?_)
        refine zRq_rw (zb_173_841 hS hM hL hlen) ?_
        refine zRq_ite (fun h258 => ?_) (fun h259 => ?_)
        · refine zRq_rw (zb_173_1200 hS hM hL hlen) ?_
          exact zRq_lf fun r h => h ()
        · refine zRq_rw (zb_173_844 hS hM hL hlen) ?_
          exact zRq_rt fun r h => h
      refine zRq_its (fun h260 => ?_) (fun h261 => ?_)
      · refine zRq_rw (zsw_173_33_22 h260) ?_
        refine zRq_rw (zb_173_846 hS hM hL hlen) ?_
        refine zRq_ci (r_88 hS) (fun v262 C263 => ?_)
        refine zRq_rw (zb_173_850 hS hM hL hlen) ?_
        refine zRq_ci (r_154 hM) (fun v264 C265 => ?_)
        refine zRq_rw (zb_173_854 hS hM hL hlen) ?_
        refine zRq_ite (fun h266 => ?_) (fun h267 => ?_)
        · refine zRq_rw (zb_173_1200 hS hM hL hlen) ?_
          exact zRq_lf fun r h => h ()
        · refine zRq_rw (zb_173_857 hS hM hL hlen) ?_
          exact zRq_rt fun r h => h
      refine zRq_its (fun h268 => ?_) (fun h269 => ?_)
      · refine zRq_rw (zsw_173_33_23 h268) ?_
        refine zRq_rw (zb_173_859 hS hM hL hlen) ?_
        refine zRq_ci (r_89 hS) (fun v270 C271 => ?_)
        refine zRq_rw (zb_173_863 hS hM hL hlen) ?_
        refine zRq_ci (r_155 hM) (fun v272 C273 => ?_)
        refine zRq_rw (zb_173_867 hS hM hL hlen) ?_
        refine zRq_ite (fun h274 => ?_) (fun h275 => ?_)
        · refine zRq_rw (zb_173_1200 hS hM hL hlen) ?_
          exact zRq_lf fun r h => h ()
        · refine zRq_rw (zb_173_870 hS hM hL hlen) ?_
          exact zRq_rt fun r h => h
      refine zRq_its (fun h276 => ?_) (fun h277 => ?_)
      · refine zRq_rw (zsw_173_33_24 h276) ?_
        refine zRq_rw (zb_173_872 hS hM hL hlen) ?_
        refine zRq_g (fun h278 => ?_)
        refine zRq_g (fun h279 => ?_)
        refine zRq_ci (r_90 hS) (fun v280 C281 => ?_)
        refine zRq_rw (zb_173_886 hS hM hL hlen) ?_
        refine zRq_g (fun h282 => ?_)
        refine zRq_g (fun h283 => ?_)
        refine zRq_ci (r_158 hM) (fun v284 C285 => ?_)
        refine zRq_rw (zb_173_900 hS hM hL hlen) ?_
        refine zRq_ite (fun h286 => ?_) (fun h287 => ?_)
        · refine zRq_rw (zb_173_1200 hS hM hL hlen) ?_
          exact zRq_lf fun r h => h ()
        · refine zRq_rw (zb_173_903 hS hM hL hlen) ?_
          exact zRq_rt fun r h => h
      refine zRq_its (fun h288 => ?_) (fun h289 => ?_)
      · refine zRq_rw (zsw_173_33_25 h288) ?_
        refine zRq_rw (zb_173_905 hS hM hL hlen) ?_
        refine zRq_g (fun h290 => ?_)
        refine zRq_g (fun h291 => ?_)
        refine zRq_g (fun h292 => ?_)
        refine zRq_ci (r_91 hS) (fun v293 C294 => ?_)
        refine zRq_rw (zb_173_924 hS hM hL hlen) ?_
        refine zRq_g (fun h295 => ?_)
        refine zRq_g (fun h296 => ?_)
        refine zRq_g (fun h297 => ?_)
        refine zRq_ci (r_162 hM) (fun v298 C299 => ?_)
        refine zRq_rw (zb_173_943 hS hM hL hlen) ?_
        refine zRq_ite (fun h300 => ?_) (fun h301 => ?_)
        · refine zRq_rw (zb_173_1200 hS hM hL hlen) ?_
          exact zRq_lf fun r h => h ()
        · refine zRq_rw (zb_173_946 hS hM hL hlen) ?_
          exact zRq_rt fun r h => h
      refine zRq_its (fun h302 => ?_) (fun h303 => ?_)
      · refine zRq_rw (zsw_173_33_26 h302) ?_
        refine zRq_rw (zb_173_948 hS hM hL hlen) ?_
        refine zRq_g (fun h304 => ?_)
        refine zRq_ci (r_92 hS) (fun v305 C306 => ?_)
        refine zRq_rw (zb_173_957 hS hM hL hlen) ?_
        refine zRq_g (fun h307 => ?_)
        refine zRq_ci (r_163 hM) (fun v308 C309 => ?_)
        refine zRq_rw (zb_173_966 hS hM hL hlen) ?_
        refine zRq_ite (fun h310 => ?_) (fun h311 => ?_)
        · refine zRq_rw (zb_173_1200 hS hM hL hlen) ?_
          exact zRq_lf fun r h => h ()
        · refine zRq_rw (zb_173_969 hS hM hL hlen) ?_
          exact zRq_rt fun r h => h
      refine zRq_its (fun h312 => ?_) (fun h313 => ?_)
      · refine zRq_rw (zsw_173_33_27 h312) ?_
        refine zRq_rw (zb_173_971 hS hM hL hlen) ?_
        refine zRq_g (fun h314 => ?_)
        refine zRq_g (fun h315 => ?_)
        refine zRq_g (fun h316 => ?_)
        refine zRq_g (fun h317 => ?_)
        refine zRq_ci (r_93 hS) (fun v318 C319 => ?_)
        refine zRq_rw (zb_173_995 hS hM hL hlen) ?_
        refine zRq_g (fun h320 => ?_)
        refine zRq_g (fun h321 => ?_)
        refine zRq_g (fun h322 => ?_)
        refine zRq_g (fun h323 => ?_)
        refine zRq_ci (r_164 hM) (fun v324 C325 => ?_)
        refine zRq_rw (zb_173_1019 hS hM hL hlen) ?_
        refine zRq_ite (fun h326 => ?_) (fun h327 => ?_)
        · refine zRq_rw (zb_173_1200 hS hM hL hlen) ?_
          exact zRq_lf fun r h => h ()
        · refine zRq_rw (zb_173_1022 hS hM hL hlen) ?_
          exact zRq_rt fun r h => h
      refine zRq_its (fun h328 => ?_) (fun h329 => ?_)
      · refine zRq_rw (zsw_173_33_28 h328) ?_
        refine zRq_rw (zb_173_1024 hS hM hL hlen) ?_
        refine zRq_g (fun h330 => ?_)
        refine zRq_g (fun h331 => ?_)
        refine zRq_g (fun h332 => ?_)
        refine zRq_ci (r_94 hS) (fun v333 C334 => ?_)
        refine zRq_rw (zb_173_1043 hS hM hL hlen) ?_
        refine zRq_g (fun h335 => ?_)
        refine zRq_g (fun h336 => ?_)
        refine zRq_g (fun h337 => ?_)
        refine zRq_ci (r_167 hM) (fun v338 C339 => ?_)
        refine zRq_rw (zb_173_1062 hS hM hL hlen) ?_
        refine zRq_ite (fun h340 => ?_) (fun h341 => ?_)
        · refine zRq_rw (zb_173_1200 hS hM hL hlen) ?_
          exact zRq_lf fun r h => h ()
        · refine zRq_rw (zb_173_1065 hS hM hL hlen) ?_
          exact zRq_rt fun r h => h
      refine zRq_its (fun h342 => ?_) (fun h343 => ?_)
      · refine zRq_rw (zsw_173_33_29 h342) ?_
        refine zRq_rw (zb_173_1067 hS hM hL hlen) ?_
        refine zRq_g (fun h344 => ?_)
        refine zRq_g (fun h345 => ?_)
        refine zRq_g (fun h346 => ?_)
        refine zRq_g (fun h347 => ?_)
        refine zRq_g (fun h348 => ?_)
        refine zRq_ci (r_95 hS) (fun v349 C350 => ?_)
        refine zRq_rw (zb_173_1096 hS hM hL hlen) ?_
        refine zRq_g (fun h351 => ?_)
        refine zRq_g (fun h352 => ?_)
        refine zRq_g (fun h353 => ?_)
        refine zRq_g (fun h354 => ?_)
        refine zRq_g (fun h355 => ?_)
        refine zRq_ci (r_168 hM) (fun v356 C357 => ?_)
        refine zRq_rw (zb_173_1125 hS hM hL hlen) ?_
        refine zRq_ite (fun h358 => ?_) (fun h359 => ?_)
        · refine zRq_rw (zb_173_1200 hS hM hL hlen) ?_
          exact zRq_lf fun r h => h ()
        · refine zRq_rw (zb_173_1128 hS hM hL hlen) ?_
          exact zRq_rt fun r h => h
      refine zRq_its (fun h360 => ?_) (fun h361 => ?_)
      · refine zRq_rw (zsw_173_33_30 h360) ?_
        refine zRq_rw (zb_173_1130 hS hM hL hlen) ?_
        refine zRq_g (fun h362 => ?_)
        refine zRq_g (fun h363 => ?_)
        refine zRq_ci (r_96 hS) (fun v364 C365 => ?_)
        refine zRq_rw (zb_173_1144 hS hM hL hlen) ?_
        refine zRq_g (fun h366 => ?_)
        refine zRq_g (fun h367 => ?_)
        refine zRq_ci (r_169 hM) (fun v368 C369 => ?_)
        refine zRq_rw (zb_173_1158 hS hM hL hlen) ?_
        refine zRq_ite (fun h370 => ?_) (fun h371 => ?_)
        · refine zRq_rw (zb_173_1200 hS hM hL hlen) ?_
          exact zRq_lf fun r h => h ()
        · refine zRq_rw (zb_173_1161 hS hM hL hlen) ?_
          exact zRq_rt fun r h => h
      refine zRq_its (fun h372 => ?_) (fun h373 => ?_)
      · refine zRq_rw (zsw_173_33_31 h372) ?_
        refine zRq_rw (zb_173_1163 hS hM hL hlen) ?_
        refine zRq_g (fun h374 => ?_)
        refine zRq_ci (r_97 hS) (fun v375 C376 => ?_)
        refine zRq_rw (zb_173_1172 hS hM hL hlen) ?_
        refine zRq_g (fun h377 => ?_)
        refine zRq_ci (r_170 hM) (fun v378 C379 => ?_)
        refine zRq_rw (zb_173_1181 hS hM hL hlen) ?_
        refine zRq_ite (fun h380 => ?_) (fun h381 => ?_)
        · refine zRq_rw (zb_173_1200 hS hM hL hlen) ?_
          exact zRq_lf fun r h => h ()
        · refine zRq_rw (zb_173_1184 hS hM hL hlen) ?_
          exact zRq_rt fun r h => h
      refine zRq_its (fun h382 => ?_) (fun h383 => ?_)
      · refine zRq_rw (zsw_173_33_32 h382) ?_
        refine zRq_rw (zb_173_1186 hS hM hL hlen) ?_
        refine zRq_cl (r_98 hS) (fun v384 C385 => ?_)
        refine zRq_rw (zb_173_1190 hS hM hL hlen) ?_
        refine zRq_cl (r_172 hM) (fun v386 C387 => ?_)
        refine zRq_rw (zb_173_1194 hS hM hL hlen) ?_
        refine zRq_ite (fun h388 => ?_) (fun h389 => ?_)
        · refine zRq_rw (zb_173_1200 hS hM hL hlen) ?_
          exact zRq_lf fun r h => h ()
        · refine zRq_rw (zb_173_1198 hS hM hL hlen) ?_
          exact zRq_rt fun r h => h
      refine zRq_rw (zsw_173_33_d (by omega)) ?_
      refine zRq_rw (zb_173_1200 hS hM hL hlen) ?_
      exact zRq_lf fun r h => h ()
  · refine zRq_rw (zb_173_1206 hS hM hL hlen) ?_
    exact zRq_rt fun r h => h

/-! Layer 2: the methods as programs over the ints (written by wip/whole/gend.py) -/
-- 130: NewOrBackModel.may(II)I
noncomputable def d_may (l1 : Int) (l2 : Int) (C : ZC) : Option (Int × ZC) :=
  zbd (d_isWalker l1 C) fun v1 C2 => if v1 = 0 then (some ((-2), C2)) else (zbd (d_isWay l2 C2) fun v5 C6 => if ¬ v5 = 0 then (zbd (d_walks l1 C6) fun v9 C10 => zbd (d_mayBe l2 C10) fun v11 C12 => some (v11, C12)) else (some ((-2), C6)))
set_option maxRecDepth 100000 in
theorem r_130 {d : Nat} {S : ZS} (hS : zShM S) {l1 : Int} {l2 : Int} {C : ZC} : zRq (zKi S) (d_may l1 l2 C) (zR (d + 5) 130 0 [some (.inr (.inr (some 72))), some (.inl l1), some (.inl l2)] [] S C) := by
  unfold d_may
  refine zRq_rw (zb_130_0 hS) ?_
  refine zRq_ci (r_109 hS) (fun v1 C2 => ?_)
  refine zRq_rw (zb_130_4 hS) ?_
  refine zRq_ite (fun h3 => ?_) (fun h4 => ?_)
  · refine zRq_rw (zb_130_15 hS) ?_
    exact zRq_rt fun r h => h
  · refine zRq_rw (zb_130_7 hS) ?_
    refine zRq_ci (r_107 hS) (fun v5 C6 => ?_)
    refine zRq_rw (zb_130_12 hS) ?_
    refine zRq_ite (fun h7 => ?_) (fun h8 => ?_)
    · refine zRq_rw (zb_130_18 hS) ?_
      refine zRq_cv (r_116 hS) (fun v9 C10 => ?_)
      refine zRq_rw (zb_130_23 hS) ?_
      refine zRq_ci (r_118 hS) (fun v11 C12 => ?_)
      refine zRq_rw (zb_130_28 hS) ?_
      exact zRq_rt fun r h => h
    · refine zRq_rw (zb_130_15 hS) ?_
      exact zRq_rt fun r h => h
-- 133: NewOrBackModel.reaches(I)V
noncomputable def d_reaches_L2 (l1 : Int) (x1 : Int) (C3 : ZC) : Option ((Int ⊕ Unit) × ZC) :=
  if 8 ≤ x1 then (some (.inr (), C3)) else (zg (0 ≤ x1 ∧ x1 < 8) (some (.inl (zadd x1 1), zup2 C3 80 x1.toNat 1000000)))
noncomputable def d_reaches_L44 (l1 : Int) (x11 : (Int × Int × Int)) (C13 : ZC) : Option (((Int × Int × Int) ⊕ Unit) × ZC) :=
  if ((x11.2.2)) < 0 then (some (.inr (), C13)) else (zg (0 ≤ (x11.2.2) ∧ (x11.2.2) < 64) (zbd (d_isIn l1 (C13 79 (x11.2.2).toNat) C13) fun v18 C19 => if ¬ v18 = 0 then (some (.inr (), C19)) else (zg (0 ≤ (x11.2.2) ∧ (x11.2.2) < 64) (zbd (d_beyond (C19 79 (x11.2.2).toNat) (x11.1) C19) fun v23 C24 => zg (0 ≤ (x11.2.2) ∧ (x11.2.2) < 64) (zg (0 ≤ (C24 79 (x11.2.2).toNat) ∧ (C24 79 (x11.2.2).toNat) < 13) (zg (0 ≤ v23 ∧ v23 < 8) (if ((C24 80 v23.toNat)) ≤ ((zadd (x11.2.1) (C24 77 (C24 79 (x11.2.2).toNat).toNat))) then (zg (0 ≤ v23 ∧ v23 < 8) (zg (0 ≤ v23 ∧ v23 < 8) (some (.inl (v23, (zadd (x11.2.1) (C24 77 (C24 79 (x11.2.2).toNat).toNat)), (zadd (x11.2.2) (-1))), zup2 C24 80 v23.toNat (C24 80 v23.toNat))))) else (zg (0 ≤ v23 ∧ v23 < 8) (some (.inl (v23, (zadd (x11.2.1) (C24 77 (C24 79 (x11.2.2).toNat).toNat)), (zadd (x11.2.2) (-1))), zup2 C24 80 v23.toNat (zadd (x11.2.1) (C24 77 (C24 79 (x11.2.2).toNat).toNat))))))))))))
noncomputable def d_reaches_L136 (l1 : Int) (l4 : Int) (x41 : Int) (C43 : ZC) : Option ((Int ⊕ Unit) × ZC) :=
  if ((C43 72 2)) ≤ x41 then (some (.inr (), C43)) else (zbd (d_isIn (C43 72 8) x41 C43) fun v47 C48 => if ¬ v47 = 0 then (some (.inl (zadd x41 1), C48)) else (zbd (d_isIn l1 x41 C48) fun v51 C52 => if ¬ v51 = 0 then (some (.inl (zadd x41 1), C52)) else (zbd (α := (Int × Int × Int)) (zg (0 ≤ x41 ∧ x41 < 13) (zg (0 ≤ (C52 75 x41.toNat) ∧ (C52 75 x41.toNat) < 8) (zg (0 ≤ x41 ∧ x41 < 13) (zg (0 ≤ x41 ∧ x41 < 13) (zg (0 ≤ (C52 76 x41.toNat) ∧ (C52 76 x41.toNat) < 8) (zg (0 ≤ x41 ∧ x41 < 13) (zg (0 ≤ x41 ∧ x41 < 13) (zg (0 ≤ x41 ∧ x41 < 13) (zg (0 ≤ (C52 76 x41.toNat) ∧ (C52 76 x41.toNat) < 8) (if ((C52 80 (C52 76 x41.toNat).toNat)) ≤ ((zadd (C52 80 (C52 75 x41.toNat).toNat) (C52 77 x41.toNat))) then (zg (0 ≤ x41 ∧ x41 < 13) (zg (0 ≤ (C52 76 x41.toNat) ∧ (C52 76 x41.toNat) < 8) (some (((zadd (C52 80 (C52 76 x41.toNat).toNat) (C52 77 x41.toNat)), (C52 80 (C52 76 x41.toNat).toNat), (C52 76 x41.toNat)), C52)))) else (some (((zadd (C52 80 (C52 76 x41.toNat).toNat) (C52 77 x41.toNat)), (zadd (C52 80 (C52 75 x41.toNat).toNat) (C52 77 x41.toNat)), (C52 76 x41.toNat)), C52)))))))))))) fun y55 C57 => zg (0 ≤ (y55.2.2) ∧ (y55.2.2) < 8) (zg (0 ≤ x41 ∧ x41 < 13) (zg (0 ≤ x41 ∧ x41 < 13) (zg (0 ≤ ((zup2 C57 80 (y55.2.2).toNat (y55.2.1)) 75 x41.toNat) ∧ ((zup2 C57 80 (y55.2.2).toNat (y55.2.1)) 75 x41.toNat) < 8) (if (((zup2 C57 80 (y55.2.2).toNat (y55.2.1)) 80 ((zup2 C57 80 (y55.2.2).toNat (y55.2.1)) 75 x41.toNat).toNat)) ≤ ((y55.1)) then (zg (0 ≤ x41 ∧ x41 < 13) (zg (0 ≤ ((zup2 C57 80 (y55.2.2).toNat (y55.2.1)) 75 x41.toNat) ∧ ((zup2 C57 80 (y55.2.2).toNat (y55.2.1)) 75 x41.toNat) < 8) (zg (0 ≤ ((zup2 C57 80 (y55.2.2).toNat (y55.2.1)) 75 x41.toNat) ∧ ((zup2 C57 80 (y55.2.2).toNat (y55.2.1)) 75 x41.toNat) < 8) (some (.inl (zadd x41 1), zup2 (zup2 C57 80 (y55.2.2).toNat (y55.2.1)) 80 ((zup2 C57 80 (y55.2.2).toNat (y55.2.1)) 75 x41.toNat).toNat ((zup2 C57 80 (y55.2.2).toNat (y55.2.1)) 80 ((zup2 C57 80 (y55.2.2).toNat (y55.2.1)) 75 x41.toNat).toNat)))))) else (zg (0 ≤ ((zup2 C57 80 (y55.2.2).toNat (y55.2.1)) 75 x41.toNat) ∧ ((zup2 C57 80 (y55.2.2).toNat (y55.2.1)) 75 x41.toNat) < 8) (some (.inl (zadd x41 1), zup2 (zup2 C57 80 (y55.2.2).toNat (y55.2.1)) 80 ((zup2 C57 80 (y55.2.2).toNat (y55.2.1)) 75 x41.toNat).toNat (y55.1)))))))))))
noncomputable def d_reaches_L126 (l1 : Int) (x35 : Int) (C37 : ZC) : Option ((Int ⊕ Unit) × ZC) :=
  if 8 ≤ x35 then (some (.inr (), C37)) else (zbd (zloop (d_reaches_L136 l1 x35) 0 C37) fun y44 C82 => some (.inl (zadd x35 1), C82))
noncomputable def d_reaches (l1 : Int) (C : ZC) : Option (Int × ZC) :=
  zbd (zloop (d_reaches_L2 l1) 0 C) fun y4 C9 => zg (0 ≤ (C9 72 7) ∧ (C9 72 7) < 8) (zbd (zloop (d_reaches_L44 l1) ((C9 72 7), 0, (zsub ((zup2 C9 80 (C9 72 7).toNat 0) 72 9) 1)) (zup2 C9 80 (C9 72 7).toNat 0)) fun y14 C34 => zbd (zloop (d_reaches_L126 l1) 0 C34) fun y38 C84 => some (0, C84))
set_option maxRecDepth 100000 in
theorem r_133 {d : Nat} {S : ZS} (hS : zShM S) {l1 : Int} {C : ZC} : zRq (zKv S) (d_reaches l1 C) (zR (d + 2) 133 0 [some (.inr (.inr (some 72))), some (.inl l1), none, none, none, none, none, none] [] S C) := by
  unfold d_reaches
  refine zRq_rw (zb_133_0 hS) ?_
  refine zRq_bdf (f := (fun (xq : Unit) (jq : (Int × Option ZV × Option ZV × Option ZV × Option ZV × Option ZV)) (Cq : ZC) => zR (d + 2) 133 22 [some (.inr (.inr (some 72))), some (.inl l1), some (.inl (jq.1)), (jq.2.1), (jq.2.2.1), (jq.2.2.2.1), (jq.2.2.2.2.1), (jq.2.2.2.2.2)] [] S Cq)) (zRq_loop (f := (fun (xq : Int) (jq : (Option ZV × Option ZV × Option ZV × Option ZV × Option ZV)) (Cq : ZC) => zR (d + 2) 133 2 [some (.inr (.inr (some 72))), some (.inl l1), some (.inl xq), (jq.1), (jq.2.1), (jq.2.2.1), (jq.2.2.2.1), (jq.2.2.2.2)] [] S Cq)) (fun x1 j2 C3 => ?_) _ (none, none, none, none, none) _) (fun y4 j8 C9 => ?_)
  · unfold d_reaches_L2
    refine zRq_rw (zb_133_2 hS) ?_
    refine zRq_ite (fun h5 => ?_) (fun h6 => ?_)
    · exact zRq_lf fun r h => h (x1, (j2.1), (j2.2.1), (j2.2.2.1), (j2.2.2.2.1), (j2.2.2.2.2))
    · refine zRq_rw (zb_133_8 hS) ?_
      refine zRq_g (fun h7 => ?_)
      exact zRq_lf fun r h => h ((j2.1), (j2.2.1), (j2.2.2.1), (j2.2.2.2.1), (j2.2.2.2.2))
  · refine zRq_rw (zb_133_22 hS) ?_
    refine zRq_g (fun h10 => ?_)
    refine zRq_bdf (f := (fun (xq : Unit) (jq : (Int × Int × Int × Option ZV × Option ZV × Option ZV)) (Cq : ZC) => zR (d + 2) 133 123 [some (.inr (.inr (some 72))), some (.inl l1), some (.inl (jq.1)), some (.inl (jq.2.1)), some (.inl (jq.2.2.1)), (jq.2.2.2.1), (jq.2.2.2.2.1), (jq.2.2.2.2.2)] [] S Cq)) (zRq_loop (f := (fun (xq : (Int × Int × Int)) (jq : (Option ZV × Option ZV × Option ZV)) (Cq : ZC) => zR (d + 2) 133 44 [some (.inr (.inr (some 72))), some (.inl l1), some (.inl (xq.1)), some (.inl (xq.2.1)), some (.inl (xq.2.2)), (jq.1), (jq.2.1), (jq.2.2)] [] S Cq)) (fun x11 j12 C13 => ?_) _ ((j8.2.2.2.1), (j8.2.2.2.2.1), (j8.2.2.2.2.2)) _) (fun y14 j33 C34 => ?_)
    · unfold d_reaches_L44
      refine zRq_rw (zb_133_44 hS) ?_
      refine zRq_ite (fun h15 => ?_) (fun h16 => ?_)
      · exact zRq_lf fun r h => h ((x11.1), (x11.2.1), (x11.2.2), (j12.1), (j12.2.1), (j12.2.2))
      · refine zRq_rw (zb_133_49 hS) ?_
        refine zRq_g (fun h17 => ?_)
        refine zRq_ci (r_119 hS) (fun v18 C19 => ?_)
        refine zRq_rw (zb_133_60 hS) ?_
        refine zRq_ite (fun h20 => ?_) (fun h21 => ?_)
        · exact zRq_lf fun r h => h ((x11.1), (x11.2.1), (x11.2.2), (j12.1), (j12.2.1), (j12.2.2))
        · refine zRq_rw (zb_133_63 hS) ?_
          refine zRq_g (fun h22 => ?_)
          refine zRq_ci (r_121 hS) (fun v23 C24 => ?_)
          refine zRq_rw (zb_133_75 hS) ?_
          refine zRq_g (fun h25 => ?_)
          refine zRq_g (fun h26 => ?_)
          refine zRq_g (fun h27 => ?_)
          refine zRq_ite (fun h28 => ?_) (fun h29 => ?_)
          · refine zRq_rw (zb_133_110 hS) ?_
            refine zRq_g (fun h30 => ?_)
            refine zRq_rw (zb_133_116 hS) ?_
            refine zRq_g (fun h31 => ?_)
            refine zRq_lf fun r h => ?_
            have h2 := h ((j12.1), (j12.2.1), (j12.2.2))
            dsimp only [zKf, zKs] at h2
            rw [show d + 1 + 1 = d + 2 from rfl]
            exact h2
          · refine zRq_rw (zb_133_106 hS) ?_
            refine zRq_rw (zb_133_116 hS) ?_
            refine zRq_g (fun h32 => ?_)
            refine zRq_lf fun r h => ?_
            have h2 := h ((j12.1), (j12.2.1), (j12.2.2))
            dsimp only [zKf, zKs] at h2
            rw [show d + 1 + 1 = d + 2 from rfl]
            exact h2
    · refine zRq_rw (zb_133_123 hS) ?_
      refine zRq_bdf (f := (fun (xq : Unit) (jq : (Int × Option ZV × Option ZV × Option ZV)) (Cq : ZC) => zR (d + 2) 133 314 [some (.inr (.inr (some 72))), some (.inl l1), some (.inl (j33.1)), some (.inl (j33.2.1)), some (.inl (jq.1)), (jq.2.1), (jq.2.2.1), (jq.2.2.2)] [] S Cq)) (zRq_loop (f := (fun (xq : Int) (jq : (Option ZV × Option ZV × Option ZV)) (Cq : ZC) => zR (d + 2) 133 126 [some (.inr (.inr (some 72))), some (.inl l1), some (.inl (j33.1)), some (.inl (j33.2.1)), some (.inl xq), (jq.1), (jq.2.1), (jq.2.2)] [] S Cq)) (fun x35 j36 C37 => ?_) _ ((j33.2.2.2.1), (j33.2.2.2.2.1), (j33.2.2.2.2.2)) _) (fun y38 j83 C84 => ?_)
      · unfold d_reaches_L126
        refine zRq_rw (zb_133_126 hS) ?_
        refine zRq_ite (fun h39 => ?_) (fun h40 => ?_)
        · exact zRq_lf fun r h => h (x35, (j36.1), (j36.2.1), (j36.2.2))
        · refine zRq_rw (zb_133_133 hS) ?_
          refine zRq_bdf (f := (fun (xq : Unit) (jq : (Int × Option ZV × Option ZV)) (Cq : ZC) => zR (d + 2) 133 308 [some (.inr (.inr (some 72))), some (.inl l1), some (.inl (j33.1)), some (.inl (j33.2.1)), some (.inl x35), some (.inl (jq.1)), (jq.2.1), (jq.2.2)] [] S Cq)) (zRq_loop (f := (fun (xq : Int) (jq : (Option ZV × Option ZV)) (Cq : ZC) => zR (d + 2) 133 136 [some (.inr (.inr (some 72))), some (.inl l1), some (.inl (j33.1)), some (.inl (j33.2.1)), some (.inl x35), some (.inl xq), (jq.1), (jq.2)] [] S Cq)) (fun x41 j42 C43 => ?_) _ ((j36.2.1), (j36.2.2)) _) (fun y44 j81 C82 => ?_)
          · unfold d_reaches_L136
            refine zRq_rw (zb_133_136 hS) ?_
            refine zRq_ite (fun h45 => ?_) (fun h46 => ?_)
            · exact zRq_lf fun r h => h (x41, (j42.1), (j42.2))
            · refine zRq_rw (zb_133_145 hS) ?_
              refine zRq_ci (r_119 hS) (fun v47 C48 => ?_)
              refine zRq_rw (zb_133_154 hS) ?_
              refine zRq_ite (fun h49 => ?_) (fun h50 => ?_)
              · refine zRq_rw (zb_133_302 hS) ?_
                exact zRq_lf fun r h => h ((j42.1), (j42.2))
              · refine zRq_rw (zb_133_157 hS) ?_
                refine zRq_ci (r_119 hS) (fun v51 C52 => ?_)
                refine zRq_rw (zb_133_163 hS) ?_
                refine zRq_ite (fun h53 => ?_) (fun h54 => ?_)
                · refine zRq_rw (zb_133_302 hS) ?_
                  exact zRq_lf fun r h => h ((j42.1), (j42.2))
                · refine zRq_bdf (f := (fun (xq : (Int × Int × Int)) (jq : Int) (Cq : ZC) => zR (d + 2) 133 255 [some (.inr (.inr (some 72))), some (.inl l1), some (.inl (j33.1)), some (.inl (j33.2.1)), some (.inl x35), some (.inl x41), some (.inl jq), some (.inl (xq.1))] [.inl (xq.2.1), .inl (xq.2.2), .inr (.inr (some 80))] S Cq)) ?_ (fun y55 j56 C57 => ?_)
                  · refine zRq_rw (zb_133_166 hS) ?_
                    refine zRq_g (fun h58 => ?_)
                    refine zRq_g (fun h59 => ?_)
                    refine zRq_g (fun h60 => ?_)
                    refine zRq_g (fun h61 => ?_)
                    refine zRq_g (fun h62 => ?_)
                    refine zRq_g (fun h63 => ?_)
                    refine zRq_g (fun h64 => ?_)
                    refine zRq_g (fun h65 => ?_)
                    refine zRq_g (fun h66 => ?_)
                    refine zRq_ite (fun h67 => ?_) (fun h68 => ?_)
                    · refine zRq_rw (zb_133_243 hS) ?_
                      refine zRq_g (fun h69 => ?_)
                      refine zRq_g (fun h70 => ?_)
                      exact zRq_lf fun r h => h (zadd (C52 80 (C52 75 x41.toNat).toNat) (C52 77 x41.toNat))
                    · refine zRq_rw (zb_133_238 hS) ?_
                      exact zRq_lf fun r h => h (zadd (C52 80 (C52 75 x41.toNat).toNat) (C52 77 x41.toNat))
                  · refine zRq_rw (zb_133_255 hS) ?_
                    refine zRq_g (fun h71 => ?_)
                    refine zRq_g (fun h72 => ?_)
                    refine zRq_g (fun h73 => ?_)
                    refine zRq_g (fun h74 => ?_)
                    refine zRq_ite (fun h75 => ?_) (fun h76 => ?_)
                    · refine zRq_rw (zb_133_289 hS) ?_
                      refine zRq_g (fun h77 => ?_)
                      refine zRq_g (fun h78 => ?_)
                      refine zRq_rw (zb_133_301 hS) ?_
                      refine zRq_g (fun h79 => ?_)
                      refine zRq_rw (zb_133_302 hS) ?_
                      exact zRq_lf fun r h => h ((some (.inl j56)), (some (.inl (y55.1))))
                    · refine zRq_rw (zb_133_284 hS) ?_
                      refine zRq_rw (zb_133_301 hS) ?_
                      refine zRq_g (fun h80 => ?_)
                      refine zRq_rw (zb_133_302 hS) ?_
                      exact zRq_lf fun r h => h ((some (.inl j56)), (some (.inl (y55.1))))
          · refine zRq_rw (zb_133_308 hS) ?_
            exact zRq_lf fun r h => h (some (.inl (j81.1)), (j81.2.1), (j81.2.2))
      · refine zRq_rw (zb_133_314 hS) ?_
        exact zRq_rt fun r h => h
-- 132: NewOrBackModel.soonOf(II)I
noncomputable def d_soonOf (l1 : Int) (l2 : Int) (C : ZC) : Option (Int × ZC) :=
  zbd (d_walks l1 C) fun v1 C2 => zbd (d_reaches 0 C2) fun v3 C4 => zg (0 ≤ l2 ∧ l2 < 8) (if 1000000 ≤ ((C4 80 l2.toNat)) then (some ((-1), C4)) else (zg (0 ≤ l2 ∧ l2 < 8) (some ((C4 80 l2.toNat), C4))))
set_option maxRecDepth 100000 in
theorem r_132 {d : Nat} {S : ZS} (hS : zShM S) {l1 : Int} {l2 : Int} {C : ZC} : zRq (zKi S) (d_soonOf l1 l2 C) (zR (d + 5) 132 0 [some (.inr (.inr (some 72))), some (.inl l1), some (.inl l2)] [] S C) := by
  unfold d_soonOf
  refine zRq_rw (zb_132_0 hS) ?_
  refine zRq_cv (r_116 hS) (fun v1 C2 => ?_)
  refine zRq_rw (zb_132_5 hS) ?_
  refine zRq_cv (r_133 hS) (fun v3 C4 => ?_)
  refine zRq_rw (zb_132_10 hS) ?_
  refine zRq_g (fun h5 => ?_)
  refine zRq_ite (fun h6 => ?_) (fun h7 => ?_)
  · refine zRq_rw (zb_132_30 hS) ?_
    refine zRq_rw (zb_132_31 hS) ?_
    exact zRq_rt fun r h => h
  · refine zRq_rw (zb_132_21 hS) ?_
    refine zRq_g (fun h8 => ?_)
    refine zRq_rw (zb_132_31 hS) ?_
    exact zRq_rt fun r h => h
-- 131: NewOrBackModel.soon(II)I
noncomputable def d_soon (l1 : Int) (l2 : Int) (C : ZC) : Option (Int × ZC) :=
  zbd (d_isWalker l1 C) fun v1 C2 => if v1 = 0 then (some ((-2), C2)) else (zbd (d_isPlace l2 C2) fun v5 C6 => if v5 = 0 then (some ((-2), C6)) else (zbd (d_soonOf l1 l2 C6) fun v9 C10 => some (v9, C10)))
set_option maxRecDepth 100000 in
theorem r_131 {d : Nat} {S : ZS} (hS : zShM S) {l1 : Int} {l2 : Int} {C : ZC} : zRq (zKi S) (d_soon l1 l2 C) (zR (d + 6) 131 0 [some (.inr (.inr (some 72))), some (.inl l1), some (.inl l2)] [] S C) := by
  unfold d_soon
  refine zRq_rw (zb_131_0 hS) ?_
  refine zRq_ci (r_109 hS) (fun v1 C2 => ?_)
  refine zRq_rw (zb_131_4 hS) ?_
  refine zRq_ite (fun h3 => ?_) (fun h4 => ?_)
  · refine zRq_rw (zb_131_23 hS) ?_
    refine zRq_rw (zb_131_25 hS) ?_
    exact zRq_rt fun r h => h
  · refine zRq_rw (zb_131_7 hS) ?_
    refine zRq_ci (r_110 hS) (fun v5 C6 => ?_)
    refine zRq_rw (zb_131_11 hS) ?_
    refine zRq_ite (fun h7 => ?_) (fun h8 => ?_)
    · refine zRq_rw (zb_131_23 hS) ?_
      refine zRq_rw (zb_131_25 hS) ?_
      exact zRq_rt fun r h => h
    · refine zRq_rw (zb_131_14 hS) ?_
      refine zRq_ci (r_132 hS) (fun v9 C10 => ?_)
      refine zRq_rw (zb_131_20 hS) ?_
      refine zRq_rw (zb_131_25 hS) ?_
      exact zRq_rt fun r h => h
-- 136: NewOrBackModel.reached()I
noncomputable def d_reached_L4  (x1 : (Int × Int)) (C3 : ZC) : Option (((Int × Int) ⊕ Int) × ZC) :=
  if 8 ≤ ((x1.2)) then (some (.inr (x1.1), C3)) else (zg (0 ≤ (x1.2) ∧ (x1.2) < 8) (if 1000000 ≤ ((C3 80 (x1.2).toNat)) then (some (.inl ((zor (x1.1) 0), (zadd (x1.2) 1)), C3)) else (some (.inl ((zor (x1.1) (zshl 1 (x1.2))), (zadd (x1.2) 1)), C3))))
noncomputable def d_reached  (C : ZC) : Option (Int × ZC) :=
  zbd (zloop (d_reached_L4) (0, 0) C) fun y4 C11 => some (y4, C11)
set_option maxRecDepth 100000 in
theorem r_136 {d : Nat} {S : ZS} (hS : zShM S) {C : ZC} : zRq (zKi S) (d_reached C) (zR (d + 1) 136 0 [some (.inr (.inr (some 72))), none, none] [] S C) := by
  unfold d_reached
  refine zRq_rw (zb_136_0 hS) ?_
  refine zRq_bdf (f := (fun (xq : Int) (jq : Int) (Cq : ZC) => zR (d + 1) 136 37 [some (.inr (.inr (some 72))), some (.inl xq), some (.inl jq)] [] S Cq)) (zRq_loop (f := (fun (xq : (Int × Int)) (jq : Unit) (Cq : ZC) => zR (d + 1) 136 4 [some (.inr (.inr (some 72))), some (.inl (xq.1)), some (.inl (xq.2))] [] S Cq)) (fun x1 j2 C3 => ?_) _ () _) (fun y4 j10 C11 => ?_)
  · unfold d_reached_L4
    refine zRq_rw (zb_136_4 hS) ?_
    refine zRq_ite (fun h5 => ?_) (fun h6 => ?_)
    · exact zRq_lf fun r h => h (x1.2)
    · refine zRq_rw (zb_136_10 hS) ?_
      refine zRq_g (fun h7 => ?_)
      refine zRq_ite (fun h8 => ?_) (fun h9 => ?_)
      · refine zRq_rw (zb_136_28 hS) ?_
        refine zRq_rw (zb_136_29 hS) ?_
        exact zRq_lf fun r h => h ()
      · refine zRq_rw (zb_136_22 hS) ?_
        refine zRq_rw (zb_136_29 hS) ?_
        exact zRq_lf fun r h => h ()
  · refine zRq_rw (zb_136_37 hS) ?_
    exact zRq_rt fun r h => h
-- 135: NewOrBackModel.stillOf(I)I
noncomputable def d_stillOf (l1 : Int) (C : ZC) : Option (Int × ZC) :=
  zbd (d_walks l1 C) fun v1 C2 => zbd (d_reaches 0 C2) fun v3 C4 => zbd (d_reached C4) fun v5 C6 => some (v5, C6)
set_option maxRecDepth 100000 in
theorem r_135 {d : Nat} {S : ZS} (hS : zShM S) {l1 : Int} {C : ZC} : zRq (zKi S) (d_stillOf l1 C) (zR (d + 5) 135 0 [some (.inr (.inr (some 72))), some (.inl l1)] [] S C) := by
  unfold d_stillOf
  refine zRq_rw (zb_135_0 hS) ?_
  refine zRq_cv (r_116 hS) (fun v1 C2 => ?_)
  refine zRq_rw (zb_135_5 hS) ?_
  refine zRq_cv (r_133 hS) (fun v3 C4 => ?_)
  refine zRq_rw (zb_135_10 hS) ?_
  refine zRq_ci (r_136 hS) (fun v5 C6 => ?_)
  refine zRq_rw (zb_135_14 hS) ?_
  exact zRq_rt fun r h => h
-- 134: NewOrBackModel.still(I)I
noncomputable def d_still (l1 : Int) (C : ZC) : Option (Int × ZC) :=
  zbd (d_isWalker l1 C) fun v1 C2 => if v1 = 0 then (some ((-2), C2)) else (zbd (d_stillOf l1 C2) fun v5 C6 => some (v5, C6))
set_option maxRecDepth 100000 in
theorem r_134 {d : Nat} {S : ZS} (hS : zShM S) {l1 : Int} {C : ZC} : zRq (zKi S) (d_still l1 C) (zR (d + 6) 134 0 [some (.inr (.inr (some 72))), some (.inl l1)] [] S C) := by
  unfold d_still
  refine zRq_rw (zb_134_0 hS) ?_
  refine zRq_ci (r_109 hS) (fun v1 C2 => ?_)
  refine zRq_rw (zb_134_4 hS) ?_
  refine zRq_ite (fun h3 => ?_) (fun h4 => ?_)
  · refine zRq_rw (zb_134_15 hS) ?_
    refine zRq_rw (zb_134_17 hS) ?_
    exact zRq_rt fun r h => h
  · refine zRq_rw (zb_134_7 hS) ?_
    refine zRq_ci (r_135 hS) (fun v5 C6 => ?_)
    refine zRq_rw (zb_134_12 hS) ?_
    refine zRq_rw (zb_134_17 hS) ?_
    exact zRq_rt fun r h => h
-- 138: NewOrBackModel.neverOf(I)I
noncomputable def d_neverOf (l1 : Int) (C : ZC) : Option (Int × ZC) :=
  zbd (d_stillOf l1 C) fun v1 C2 => some ((zand (C2 72 12) (zxor v1 (-1))), C2)
set_option maxRecDepth 100000 in
theorem r_138 {d : Nat} {S : ZS} (hS : zShM S) {l1 : Int} {C : ZC} : zRq (zKi S) (d_neverOf l1 C) (zR (d + 6) 138 0 [some (.inr (.inr (some 72))), some (.inl l1), none] [] S C) := by
  unfold d_neverOf
  refine zRq_rw (zb_138_0 hS) ?_
  refine zRq_ci (r_135 hS) (fun v1 C2 => ?_)
  refine zRq_rw (zb_138_5 hS) ?_
  exact zRq_rt fun r h => h
-- 137: NewOrBackModel.never(I)I
noncomputable def d_never (l1 : Int) (C : ZC) : Option (Int × ZC) :=
  zbd (d_isWalker l1 C) fun v1 C2 => if v1 = 0 then (some ((-2), C2)) else (zbd (d_neverOf l1 C2) fun v5 C6 => some (v5, C6))
set_option maxRecDepth 100000 in
theorem r_137 {d : Nat} {S : ZS} (hS : zShM S) {l1 : Int} {C : ZC} : zRq (zKi S) (d_never l1 C) (zR (d + 7) 137 0 [some (.inr (.inr (some 72))), some (.inl l1)] [] S C) := by
  unfold d_never
  refine zRq_rw (zb_137_0 hS) ?_
  refine zRq_ci (r_109 hS) (fun v1 C2 => ?_)
  refine zRq_rw (zb_137_4 hS) ?_
  refine zRq_ite (fun h3 => ?_) (fun h4 => ?_)
  · refine zRq_rw (zb_137_15 hS) ?_
    refine zRq_rw (zb_137_17 hS) ?_
    exact zRq_rt fun r h => h
  · refine zRq_rw (zb_137_7 hS) ?_
    refine zRq_ci (r_138 hS) (fun v5 C6 => ?_)
    refine zRq_rw (zb_137_12 hS) ?_
    refine zRq_rw (zb_137_17 hS) ?_
    exact zRq_rt fun r h => h
-- 139: NewOrBackModel.keeps(III)I
noncomputable def d_keeps (l1 : Int) (l2 : Int) (l3 : Int) (C : ZC) : Option (Int × ZC) :=
  zbd (d_isWalker l1 C) fun v1 C2 => if v1 = 0 then (some ((-2), C2)) else (zbd (d_isWay l2 C2) fun v5 C6 => if v5 = 0 then (some ((-2), C6)) else (zbd (d_in l3 0 255 C6) fun v9 C10 => if ¬ v9 = 0 then (zbd (d_walks l1 C10) fun v13 C14 => zbd (d_mayBe l2 C14) fun v15 C16 => if ¬ v15 = 0 then (zbd (d_steps l2 v15 C16) fun v19 C20 => zbd (d_reaches 0 C20) fun v21 C22 => zbd (d_reached C22) fun v23 C24 => if ¬ ((zand l3 (zxor v23 (-1)))) = 0 then (some (0, C24)) else (some (1, C24))) else (some ((-3), C16))) else (some ((-2), C10))))
set_option maxRecDepth 100000 in
theorem r_139 {d : Nat} {S : ZS} (hS : zShM S) {l1 : Int} {l2 : Int} {l3 : Int} {C : ZC} : zRq (zKi S) (d_keeps l1 l2 l3 C) (zR (d + 5) 139 0 [some (.inr (.inr (some 72))), some (.inl l1), some (.inl l2), some (.inl l3), none] [] S C) := by
  unfold d_keeps
  refine zRq_rw (zb_139_0 hS) ?_
  refine zRq_ci (r_109 hS) (fun v1 C2 => ?_)
  refine zRq_rw (zb_139_4 hS) ?_
  refine zRq_ite (fun h3 => ?_) (fun h4 => ?_)
  · refine zRq_rw (zb_139_26 hS) ?_
    exact zRq_rt fun r h => h
  · refine zRq_rw (zb_139_7 hS) ?_
    refine zRq_ci (r_107 hS) (fun v5 C6 => ?_)
    refine zRq_rw (zb_139_12 hS) ?_
    refine zRq_ite (fun h7 => ?_) (fun h8 => ?_)
    · refine zRq_rw (zb_139_26 hS) ?_
      exact zRq_rt fun r h => h
    · refine zRq_rw (zb_139_15 hS) ?_
      refine zRq_ci (r_101 hS) (fun v9 C10 => ?_)
      refine zRq_rw (zb_139_23 hS) ?_
      refine zRq_ite (fun h11 => ?_) (fun h12 => ?_)
      · refine zRq_rw (zb_139_29 hS) ?_
        refine zRq_cv (r_116 hS) (fun v13 C14 => ?_)
        refine zRq_rw (zb_139_34 hS) ?_
        refine zRq_ci (r_118 hS) (fun v15 C16 => ?_)
        refine zRq_rw (zb_139_39 hS) ?_
        refine zRq_ite (fun h17 => ?_) (fun h18 => ?_)
        · refine zRq_rw (zb_139_49 hS) ?_
          refine zRq_cv (r_120 hS) (fun v19 C20 => ?_)
          refine zRq_rw (zb_139_56 hS) ?_
          refine zRq_cv (r_133 hS) (fun v21 C22 => ?_)
          refine zRq_rw (zb_139_61 hS) ?_
          refine zRq_ci (r_136 hS) (fun v23 C24 => ?_)
          refine zRq_rw (zb_139_66 hS) ?_
          refine zRq_ite (fun h25 => ?_) (fun h26 => ?_)
          · refine zRq_rw (zb_139_76 hS) ?_
            refine zRq_rw (zb_139_77 hS) ?_
            exact zRq_rt fun r h => h
          · refine zRq_rw (zb_139_72 hS) ?_
            refine zRq_rw (zb_139_77 hS) ?_
            exact zRq_rt fun r h => h
        · refine zRq_rw (zb_139_46 hS) ?_
          exact zRq_rt fun r h => h
      · refine zRq_rw (zb_139_26 hS) ?_
        exact zRq_rt fun r h => h
-- 142: NewOrBackModel.ones(I)I
noncomputable def d_ones_L4 (l0 : Int) (x1 : (Int × Int)) (C3 : ZC) : Option (((Int × Int) ⊕ Int) × ZC) :=
  if 12 ≤ ((x1.2)) then (some (.inr (x1.1), C3)) else (some (.inl ((zadd (x1.1) (zand (zshr l0 (x1.2)) 1)), (zadd (x1.2) 1)), C3))
noncomputable def d_ones (l0 : Int) (C : ZC) : Option (Int × ZC) :=
  zbd (zloop (d_ones_L4 l0) (0, 0) C) fun y4 C8 => some (y4, C8)
set_option maxRecDepth 100000 in
theorem r_142 {d : Nat} {S : ZS} (hS : zShM S) {l0 : Int} {C : ZC} : zRq (zKi S) (d_ones l0 C) (zR (d + 1) 142 0 [some (.inl l0), none, none] [] S C) := by
  unfold d_ones
  refine zRq_rw (zb_142_0 hS) ?_
  refine zRq_bdf (f := (fun (xq : Int) (jq : Int) (Cq : ZC) => zR (d + 1) 142 24 [some (.inl l0), some (.inl xq), some (.inl jq)] [] S Cq)) (zRq_loop (f := (fun (xq : (Int × Int)) (jq : Unit) (Cq : ZC) => zR (d + 1) 142 4 [some (.inl l0), some (.inl (xq.1)), some (.inl (xq.2))] [] S Cq)) (fun x1 j2 C3 => ?_) _ () _) (fun y4 j7 C8 => ?_)
  · unfold d_ones_L4
    refine zRq_rw (zb_142_4 hS) ?_
    refine zRq_ite (fun h5 => ?_) (fun h6 => ?_)
    · exact zRq_lf fun r h => h (x1.2)
    · refine zRq_rw (zb_142_10 hS) ?_
      exact zRq_lf fun r h => h ()
  · refine zRq_rw (zb_142_24 hS) ?_
    exact zRq_rt fun r h => h
-- 144: NewOrBackModel.unsteps(II)V
noncomputable def d_unsteps (l1 : Int) (l2 : Int) (C : ZC) : Option (Int × ZC) :=
  zbd (d_beyond l1 (C 72 7) C) fun v1 C2 => if ¬ l2 = 1 then (zg (0 ≤ ((zup2 C2 72 7 v1) 72 9) ∧ ((zup2 C2 72 7 v1) 72 9) < 64) (some (0, zup2 (zup2 (zup2 C2 72 7 v1) 79 ((zup2 C2 72 7 v1) 72 9).toNat l1) 72 9 (zadd ((zup2 (zup2 C2 72 7 v1) 79 ((zup2 C2 72 7 v1) 72 9).toNat l1) 72 9) 1)))) else (some (0, zup2 (zup2 (zup2 C2 72 7 v1) 72 8 (zand ((zup2 C2 72 7 v1) 72 8) (zxor (zshl 1 l1) (-1)))) 72 9 (zsub ((zup2 (zup2 C2 72 7 v1) 72 8 (zand ((zup2 C2 72 7 v1) 72 8) (zxor (zshl 1 l1) (-1)))) 72 9) 1)))
set_option maxRecDepth 100000 in
theorem r_144 {d : Nat} {S : ZS} (hS : zShM S) {l1 : Int} {l2 : Int} {C : ZC} : zRq (zKv S) (d_unsteps l1 l2 C) (zR (d + 2) 144 0 [some (.inr (.inr (some 72))), some (.inl l1), some (.inl l2)] [] S C) := by
  unfold d_unsteps
  refine zRq_rw (zb_144_0 hS) ?_
  refine zRq_ci (r_121 hS) (fun v1 C2 => ?_)
  refine zRq_rw (zb_144_10 hS) ?_
  refine zRq_ite (fun h3 => ?_) (fun h4 => ?_)
  · refine zRq_rw (zb_144_45 hS) ?_
    refine zRq_g (fun h5 => ?_)
    refine zRq_rw (zb_144_65 hS) ?_
    exact zRq_rt fun r h => h
  · refine zRq_rw (zb_144_18 hS) ?_
    refine zRq_rw (zb_144_65 hS) ?_
    exact zRq_rt fun r h => h
-- 143: NewOrBackModel.runsErrands(II)I
noncomputable def d_runsErrands_L305 (l1 : Int) (l2 : Int) (l3 : Int) (x54 : Int) (C56 : ZC) : Option ((Int ⊕ Unit) × ZC) :=
  if l3 ≤ x54 then (some (.inr (), C56)) else (zg (0 ≤ x54 ∧ x54 < 64) (zg (0 ≤ x54 ∧ x54 < 64) (some (.inl (zadd x54 1), zup2 C56 85 x54.toNat (C56 81 x54.toNat)))))
noncomputable def d_runsErrands_L76 (l1 : Int) (l2 : Int) (x11 : Int) (C13 : ZC) : Option ((Int ⊕ Unit) × ZC) :=
  if x11 < 0 then (some (.inr (), C13)) else (zg (0 ≤ x11 ∧ x11 < 64) (zg (0 ≤ x11 ∧ x11 < 64) (zg (0 ≤ x11 ∧ x11 < 64) (if (((zup2 C13 81 x11.toNat (zadd (C13 81 x11.toNat) 1)) 81 x11.toNat)) < (((zup2 C13 81 x11.toNat (zadd (C13 81 x11.toNat) 1)) 72 2)) then (zbd (d_mayBe ((zup2 C13 81 x11.toNat (zadd (C13 81 x11.toNat) 1)) 81 x11.toNat) (zup2 C13 81 x11.toNat (zadd (C13 81 x11.toNat) 1))) fun v22 C23 => zbd (α := (Int × Int × Int)) (zg (0 ≤ x11 ∧ x11 < 64) (zg (0 ≤ ((zup2 C13 81 x11.toNat (zadd (C13 81 x11.toNat) 1)) 81 x11.toNat) ∧ ((zup2 C13 81 x11.toNat (zadd (C13 81 x11.toNat) 1)) 81 x11.toNat) < 13) (if ((C23 72 21)) = ((-1)) then (some ((v22, (zadd (C23 84 x11.toNat) (C23 77 ((zup2 C13 81 x11.toNat (zadd (C13 81 x11.toNat) 1)) 81 x11.toNat).toNat)), 1), C23)) else (if ((zadd (C23 84 x11.toNat) (C23 77 ((zup2 C13 81 x11.toNat (zadd (C13 81 x11.toNat) 1)) 81 x11.toNat).toNat))) < ((C23 72 21)) then (some ((v22, (zadd (C23 84 x11.toNat) (C23 77 ((zup2 C13 81 x11.toNat (zadd (C13 81 x11.toNat) 1)) 81 x11.toNat).toNat)), 1), C23)) else (if ¬ ((zadd (C23 84 x11.toNat) (C23 77 ((zup2 C13 81 x11.toNat (zadd (C13 81 x11.toNat) 1)) 81 x11.toNat).toNat))) = ((C23 72 21)) then (some ((v22, (zadd (C23 84 x11.toNat) (C23 77 ((zup2 C13 81 x11.toNat (zadd (C13 81 x11.toNat) 1)) 81 x11.toNat).toNat)), 0), C23)) else (if ((C23 72 20)) ≤ ((zadd x11 1)) then (some ((v22, (zadd (C23 84 x11.toNat) (C23 77 ((zup2 C13 81 x11.toNat (zadd (C13 81 x11.toNat) 1)) 81 x11.toNat).toNat)), 0), C23)) else (some ((v22, (zadd (C23 84 x11.toNat) (C23 77 ((zup2 C13 81 x11.toNat (zadd (C13 81 x11.toNat) 1)) 81 x11.toNat).toNat)), 1), C23)))))))) fun y24 C26 => if ((y24.1)) ≤ 0 then (some (.inl x11, C26)) else (if ((y24.2.2)) = 0 then (some (.inl x11, C26)) else (zbd (d_steps ((zup2 C13 81 x11.toNat (zadd (C13 81 x11.toNat) 1)) 81 x11.toNat) (y24.1) C26) fun v41 C42 => zg (0 ≤ x11 ∧ x11 < 64) (zg (0 ≤ (zsub (zadd x11 1) 1) ∧ (zsub (zadd x11 1) 1) < 64) (zg (0 ≤ (zadd x11 1) ∧ (zadd x11 1) < 64) (zg (0 ≤ (zadd x11 1) ∧ (zadd x11 1) < 64) (zg (0 ≤ (zadd x11 1) ∧ (zadd x11 1) < 64) (zg (0 ≤ (zadd x11 1) ∧ (zadd x11 1) < 64) (if ¬ ((zand l2 (zxor ((zup2 (zup2 (zup2 (zup2 C42 82 x11.toNat (y24.1)) 83 (zadd x11 1).toNat (zor ((zup2 C42 82 x11.toNat (y24.1)) 83 (zsub (zadd x11 1) 1).toNat) (zshl 1 ((zup2 C42 82 x11.toNat (y24.1)) 72 7)))) 84 (zadd x11 1).toNat (y24.2.1)) 81 (zadd x11 1).toNat (-1)) 83 (zadd x11 1).toNat) (-1)))) = 0 then (some (.inl (zadd x11 1), zup2 (zup2 (zup2 (zup2 C42 82 x11.toNat (y24.1)) 83 (zadd x11 1).toNat (zor ((zup2 C42 82 x11.toNat (y24.1)) 83 (zsub (zadd x11 1) 1).toNat) (zshl 1 ((zup2 C42 82 x11.toNat (y24.1)) 72 7)))) 84 (zadd x11 1).toNat (y24.2.1)) 81 (zadd x11 1).toNat (-1))) else (zg (0 ≤ l1 ∧ l1 < 4) (if ¬ (((zup2 (zup2 (zup2 (zup2 C42 82 x11.toNat (y24.1)) 83 (zadd x11 1).toNat (zor ((zup2 C42 82 x11.toNat (y24.1)) 83 (zsub (zadd x11 1) 1).toNat) (zshl 1 ((zup2 C42 82 x11.toNat (y24.1)) 72 7)))) 84 (zadd x11 1).toNat (y24.2.1)) 81 (zadd x11 1).toNat (-1)) 72 7)) = (((zup2 (zup2 (zup2 (zup2 C42 82 x11.toNat (y24.1)) 83 (zadd x11 1).toNat (zor ((zup2 C42 82 x11.toNat (y24.1)) 83 (zsub (zadd x11 1) 1).toNat) (zshl 1 ((zup2 C42 82 x11.toNat (y24.1)) 72 7)))) 84 (zadd x11 1).toNat (y24.2.1)) 81 (zadd x11 1).toNat (-1)) 78 l1.toNat)) then (some (.inl (zadd x11 1), zup2 (zup2 (zup2 (zup2 C42 82 x11.toNat (y24.1)) 83 (zadd x11 1).toNat (zor ((zup2 C42 82 x11.toNat (y24.1)) 83 (zsub (zadd x11 1) 1).toNat) (zshl 1 ((zup2 C42 82 x11.toNat (y24.1)) 72 7)))) 84 (zadd x11 1).toNat (y24.2.1)) 81 (zadd x11 1).toNat (-1))) else (zbd (zloop (d_runsErrands_L305 l1 l2 (zadd x11 1)) 0 (zup2 (zup2 (zup2 (zup2 (zup2 (zup2 C42 82 x11.toNat (y24.1)) 83 (zadd x11 1).toNat (zor ((zup2 C42 82 x11.toNat (y24.1)) 83 (zsub (zadd x11 1) 1).toNat) (zshl 1 ((zup2 C42 82 x11.toNat (y24.1)) 72 7)))) 84 (zadd x11 1).toNat (y24.2.1)) 81 (zadd x11 1).toNat (-1)) 72 21 (y24.2.1)) 72 20 (zadd x11 1))) fun y57 C63 => some (.inl (zadd x11 1), C63))))))))))))) else (if ((zadd x11 (-1))) < 0 then (some (.inl (zadd x11 (-1)), zup2 C13 81 x11.toNat (zadd (C13 81 x11.toNat) 1))) else (zg (0 ≤ (zadd x11 (-1)) ∧ (zadd x11 (-1)) < 64) (zg (0 ≤ (zadd x11 (-1)) ∧ (zadd x11 (-1)) < 64) (zbd (d_unsteps ((zup2 C13 81 x11.toNat (zadd (C13 81 x11.toNat) 1)) 81 (zadd x11 (-1)).toNat) ((zup2 C13 81 x11.toNat (zadd (C13 81 x11.toNat) 1)) 82 (zadd x11 (-1)).toNat) (zup2 C13 81 x11.toNat (zadd (C13 81 x11.toNat) 1))) fun v68 C69 => some (.inl (zadd x11 (-1)), C69)))))))))
noncomputable def d_runsErrands (l1 : Int) (l2 : Int) (C : ZC) : Option (Int × ZC) :=
  zbd (d_walks l1 C) fun v1 C2 => zbs (α := Int) (if ¬ ((zand l2 (zxor ((zup2 (zup2 (zup2 (zup2 (zup2 C2 72 21 (-1)) 72 20 0) 81 0 (-1)) 83 0 (zshl 1 ((zup2 (zup2 (zup2 C2 72 21 (-1)) 72 20 0) 81 0 (-1)) 72 7))) 84 0 0) 83 0) (-1)))) = 0 then (some (.inl 0, zup2 (zup2 (zup2 (zup2 (zup2 C2 72 21 (-1)) 72 20 0) 81 0 (-1)) 83 0 (zshl 1 ((zup2 (zup2 (zup2 C2 72 21 (-1)) 72 20 0) 81 0 (-1)) 72 7))) 84 0 0)) else (zg (0 ≤ l1 ∧ l1 < 4) (if ¬ (((zup2 (zup2 (zup2 (zup2 (zup2 C2 72 21 (-1)) 72 20 0) 81 0 (-1)) 83 0 (zshl 1 ((zup2 (zup2 (zup2 C2 72 21 (-1)) 72 20 0) 81 0 (-1)) 72 7))) 84 0 0) 72 7)) = (((zup2 (zup2 (zup2 (zup2 (zup2 C2 72 21 (-1)) 72 20 0) 81 0 (-1)) 83 0 (zshl 1 ((zup2 (zup2 (zup2 C2 72 21 (-1)) 72 20 0) 81 0 (-1)) 72 7))) 84 0 0) 78 l1.toNat)) then (some (.inl 0, zup2 (zup2 (zup2 (zup2 (zup2 C2 72 21 (-1)) 72 20 0) 81 0 (-1)) 83 0 (zshl 1 ((zup2 (zup2 (zup2 C2 72 21 (-1)) 72 20 0) 81 0 (-1)) 72 7))) 84 0 0)) else (some (.inr 0, zup2 (zup2 (zup2 (zup2 (zup2 (zup2 C2 72 21 (-1)) 72 20 0) 81 0 (-1)) 83 0 (zshl 1 ((zup2 (zup2 (zup2 C2 72 21 (-1)) 72 20 0) 81 0 (-1)) 72 7))) 84 0 0) 72 21 0))))) fun y3 C5 => zbd (zloop (d_runsErrands_L76 l1 l2) y3 C5) fun y14 C71 => some ((C71 72 21), C71)
set_option maxRecDepth 100000 in
theorem r_143 {d : Nat} {S : ZS} (hS : zShM S) {l1 : Int} {l2 : Int} {C : ZC} : zRq (zKi S) (d_runsErrands l1 l2 C) (zR (d + 5) 143 0 [some (.inr (.inr (some 72))), some (.inl l1), some (.inl l2), none, none, none, none, none, none] [] S C) := by
  unfold d_runsErrands
  refine zRq_rw (zb_143_0 hS) ?_
  refine zRq_cv (r_116 hS) (fun v1 C2 => ?_)
  refine zRq_bsf (f := (fun (xq : Int) (jq : (Option ZV × Option ZV × Option ZV × Option ZV × Option ZV)) (Cq : ZC) => zR (d + 5) 143 76 [some (.inr (.inr (some 72))), some (.inl l1), some (.inl l2), some (.inl xq), (jq.1), (jq.2.1), (jq.2.2.1), (jq.2.2.2.1), (jq.2.2.2.2)] [] S Cq)) ?_ (fun y3 j4 C5 => ?_)
  · refine zRq_rw (zb_143_5 hS) ?_
    refine zRq_ite (fun h6 => ?_) (fun h7 => ?_)
    · refine zRq_lf fun r h => ?_
      have h2 := h (none, none, none, none, none)
      dsimp only [zKf, zKs] at h2
      rw [show d + 4 + 1 = d + 5 from rfl]
      exact h2
    · refine zRq_rw (zb_143_56 hS) ?_
      refine zRq_g (fun h8 => ?_)
      refine zRq_ite (fun h9 => ?_) (fun h10 => ?_)
      · refine zRq_lf fun r h => ?_
        have h2 := h (none, none, none, none, none)
        dsimp only [zKf, zKs] at h2
        rw [show d + 4 + 1 = d + 5 from rfl]
        exact h2
      · refine zRq_rw (zb_143_69 hS) ?_
        exact zRq_rt fun r h => h
  · refine zRq_bdf (f := (fun (xq : Unit) (jq : (Int × Option ZV × Option ZV × Option ZV × Option ZV × Option ZV)) (Cq : ZC) => zR (d + 5) 143 334 [some (.inr (.inr (some 72))), some (.inl l1), some (.inl l2), some (.inl (jq.1)), (jq.2.1), (jq.2.2.1), (jq.2.2.2.1), (jq.2.2.2.2.1), (jq.2.2.2.2.2)] [] S Cq)) (zRq_loop (f := (fun (xq : Int) (jq : (Option ZV × Option ZV × Option ZV × Option ZV × Option ZV)) (Cq : ZC) => zR (d + 5) 143 76 [some (.inr (.inr (some 72))), some (.inl l1), some (.inl l2), some (.inl xq), (jq.1), (jq.2.1), (jq.2.2.1), (jq.2.2.2.1), (jq.2.2.2.2)] [] S Cq)) (fun x11 j12 C13 => ?_) _ ((j4.1), (j4.2.1), (j4.2.2.1), (j4.2.2.2.1), (j4.2.2.2.2)) _) (fun y14 j70 C71 => ?_)
    · unfold d_runsErrands_L76
      refine zRq_rw (zb_143_76 hS) ?_
      refine zRq_ite (fun h15 => ?_) (fun h16 => ?_)
      · exact zRq_lf fun r h => h (x11, (j12.1), (j12.2.1), (j12.2.2.1), (j12.2.2.2.1), (j12.2.2.2.2))
      · refine zRq_rw (zb_143_80 hS) ?_
        refine zRq_g (fun h17 => ?_)
        refine zRq_g (fun h18 => ?_)
        refine zRq_g (fun h19 => ?_)
        refine zRq_ite (fun h20 => ?_) (fun h21 => ?_)
        · refine zRq_rw (zb_143_133 hS) ?_
          refine zRq_ci (r_118 hS) (fun v22 C23 => ?_)
          refine zRq_bdf (f := (fun (xq : (Int × Int × Int)) (jq : (Option ZV × Option ZV)) (Cq : ZC) => zR (d + 5) 143 198 [some (.inr (.inr (some 72))), some (.inl l1), some (.inl l2), some (.inl x11), some (.inl ((zup2 C13 81 x11.toNat (zadd (C13 81 x11.toNat) 1)) 81 x11.toNat)), some (.inl (xq.1)), some (.inl (xq.2.1)), (jq.1), (jq.2)] [.inl (xq.2.2)] S Cq)) ?_ (fun y24 j25 C26 => ?_)
          · refine zRq_rw (zb_143_139 hS) ?_
            refine zRq_g (fun h27 => ?_)
            refine zRq_g (fun h28 => ?_)
            refine zRq_ite (fun h29 => ?_) (fun h30 => ?_)
            · refine zRq_rw (zb_143_193 hS) ?_
              exact zRq_lf fun r h => h ((j12.2.2.2.1), (j12.2.2.2.2))
            · refine zRq_rw (zb_143_165 hS) ?_
              refine zRq_ite (fun h31 => ?_) (fun h32 => ?_)
              · refine zRq_rw (zb_143_193 hS) ?_
                exact zRq_lf fun r h => h ((j12.2.2.2.1), (j12.2.2.2.2))
              · refine zRq_rw (zb_143_174 hS) ?_
                refine zRq_ite (fun h33 => ?_) (fun h34 => ?_)
                · refine zRq_rw (zb_143_197 hS) ?_
                  exact zRq_lf fun r h => h ((j12.2.2.2.1), (j12.2.2.2.2))
                · refine zRq_rw (zb_143_183 hS) ?_
                  refine zRq_ite (fun h35 => ?_) (fun h36 => ?_)
                  · refine zRq_rw (zb_143_197 hS) ?_
                    exact zRq_lf fun r h => h ((j12.2.2.2.1), (j12.2.2.2.2))
                  · refine zRq_rw (zb_143_193 hS) ?_
                    exact zRq_lf fun r h => h ((j12.2.2.2.1), (j12.2.2.2.2))
          · refine zRq_rw (zb_143_198 hS) ?_
            refine zRq_ite (fun h37 => ?_) (fun h38 => ?_)
            · refine zRq_rw (zb_143_331 hS) ?_
              exact zRq_lf fun r h => h (some (.inl ((zup2 C13 81 x11.toNat (zadd (C13 81 x11.toNat) 1)) 81 x11.toNat)), some (.inl (y24.1)), some (.inl (y24.2.1)), some (.inl (y24.2.2)), (j25.2))
            · refine zRq_rw (zb_143_205 hS) ?_
              refine zRq_ite (fun h39 => ?_) (fun h40 => ?_)
              · refine zRq_rw (zb_143_331 hS) ?_
                exact zRq_lf fun r h => h (some (.inl ((zup2 C13 81 x11.toNat (zadd (C13 81 x11.toNat) 1)) 81 x11.toNat)), some (.inl (y24.1)), some (.inl (y24.2.1)), some (.inl (y24.2.2)), (j25.2))
              · refine zRq_rw (zb_143_210 hS) ?_
                refine zRq_cv (r_120 hS) (fun v41 C42 => ?_)
                refine zRq_rw (zb_143_218 hS) ?_
                refine zRq_g (fun h43 => ?_)
                refine zRq_g (fun h44 => ?_)
                refine zRq_g (fun h45 => ?_)
                refine zRq_g (fun h46 => ?_)
                refine zRq_g (fun h47 => ?_)
                refine zRq_g (fun h48 => ?_)
                refine zRq_ite (fun h49 => ?_) (fun h50 => ?_)
                · refine zRq_rw (zb_143_331 hS) ?_
                  refine zRq_lf fun r h => ?_
                  have h2 := h (some (.inl ((zup2 C13 81 x11.toNat (zadd (C13 81 x11.toNat) 1)) 81 x11.toNat)), some (.inl (y24.1)), some (.inl (y24.2.1)), some (.inl (y24.2.2)), (j25.2))
                  dsimp only [zKf, zKs] at h2
                  rw [show d + 4 + 1 = d + 5 from rfl]
                  exact h2
                · refine zRq_rw (zb_143_278 hS) ?_
                  refine zRq_g (fun h51 => ?_)
                  refine zRq_ite (fun h52 => ?_) (fun h53 => ?_)
                  · refine zRq_rw (zb_143_331 hS) ?_
                    refine zRq_lf fun r h => ?_
                    have h2 := h (some (.inl ((zup2 C13 81 x11.toNat (zadd (C13 81 x11.toNat) 1)) 81 x11.toNat)), some (.inl (y24.1)), some (.inl (y24.2.1)), some (.inl (y24.2.2)), (j25.2))
                    dsimp only [zKf, zKs] at h2
                    rw [show d + 4 + 1 = d + 5 from rfl]
                    exact h2
                  · refine zRq_rw (zb_143_291 hS) ?_
                    refine zRq_bdf (f := (fun (xq : Unit) (jq : Option ZV) (Cq : ZC) => zR (d + 5) 143 331 [some (.inr (.inr (some 72))), some (.inl l1), some (.inl l2), some (.inl (zadd x11 1)), some (.inl ((zup2 C13 81 x11.toNat (zadd (C13 81 x11.toNat) 1)) 81 x11.toNat)), some (.inl (y24.1)), some (.inl (y24.2.1)), some (.inl (y24.2.2)), jq] [] S Cq)) (zRq_loop (f := (fun (xq : Int) (jq : Unit) (Cq : ZC) => zR (d + 5) 143 305 [some (.inr (.inr (some 72))), some (.inl l1), some (.inl l2), some (.inl (zadd x11 1)), some (.inl ((zup2 C13 81 x11.toNat (zadd (C13 81 x11.toNat) 1)) 81 x11.toNat)), some (.inl (y24.1)), some (.inl (y24.2.1)), some (.inl (y24.2.2)), some (.inl xq)] [] S Cq)) (fun x54 j55 C56 => ?_) _ () _) (fun y57 j62 C63 => ?_)
                    · unfold d_runsErrands_L305
                      refine zRq_rw (zb_143_305 hS) ?_
                      refine zRq_ite (fun h58 => ?_) (fun h59 => ?_)
                      · exact zRq_lf fun r h => h (some (.inl x54))
                      · refine zRq_rw (zb_143_311 hS) ?_
                        refine zRq_g (fun h60 => ?_)
                        refine zRq_g (fun h61 => ?_)
                        exact zRq_lf fun r h => h ()
                    · refine zRq_rw (zb_143_331 hS) ?_
                      exact zRq_lf fun r h => h (some (.inl ((zup2 C13 81 x11.toNat (zadd (C13 81 x11.toNat) 1)) 81 x11.toNat)), some (.inl (y24.1)), some (.inl (y24.2.1)), some (.inl (y24.2.2)), j62)
        · refine zRq_rw (zb_143_107 hS) ?_
          refine zRq_ite (fun h64 => ?_) (fun h65 => ?_)
          · refine zRq_lf fun r h => ?_
            have h2 := h (some (.inl ((zup2 C13 81 x11.toNat (zadd (C13 81 x11.toNat) 1)) 81 x11.toNat)), (j12.2.1), (j12.2.2.1), (j12.2.2.2.1), (j12.2.2.2.2))
            dsimp only [zKf, zKs] at h2
            rw [show d + 4 + 1 = d + 5 from rfl]
            exact h2
          · refine zRq_rw (zb_143_114 hS) ?_
            refine zRq_g (fun h66 => ?_)
            refine zRq_g (fun h67 => ?_)
            refine zRq_cv (r_144 hS) (fun v68 C69 => ?_)
            refine zRq_rw (zb_143_130 hS) ?_
            refine zRq_lf fun r h => ?_
            have h2 := h (some (.inl ((zup2 C13 81 x11.toNat (zadd (C13 81 x11.toNat) 1)) 81 x11.toNat)), (j12.2.1), (j12.2.2.1), (j12.2.2.2.1), (j12.2.2.2.2))
            dsimp only [zKf, zKs] at h2
            rw [show d + 4 + 1 = d + 5 from rfl]
            exact h2
    · refine zRq_rw (zb_143_334 hS) ?_
      exact zRq_rt fun r h => h
-- 141: NewOrBackModel.errandsOf(III)I
noncomputable def d_errandsOf (l1 : Int) (l2 : Int) (l3 : Int) (C : ZC) : Option (Int × ZC) :=
  zbd (d_walks l1 C) fun v1 C2 => zbd (d_ones (C2 72 8) C2) fun v3 C4 => if ((zsub (C2 72 2) v3)) ≤ 6 then (zbd (d_runsErrands l1 l2 C4) fun v7 C8 => if l3 = ((-1)) then (some (v7, C8)) else (if ¬ v7 = ((-1)) then (if ((C8 72 20)) ≤ l3 then (some ((-1), C8)) else (zg (0 ≤ l3 ∧ l3 < 64) (some ((C8 85 l3.toNat), C8)))) else (some (v7, C8)))) else (some ((-4), C4))
set_option maxRecDepth 100000 in
theorem r_141 {d : Nat} {S : ZS} (hS : zShM S) {l1 : Int} {l2 : Int} {l3 : Int} {C : ZC} : zRq (zKi S) (d_errandsOf l1 l2 l3 C) (zR (d + 6) 141 0 [some (.inr (.inr (some 72))), some (.inl l1), some (.inl l2), some (.inl l3), none] [] S C) := by
  unfold d_errandsOf
  refine zRq_rw (zb_141_0 hS) ?_
  refine zRq_cv (r_116 hS) (fun v1 C2 => ?_)
  refine zRq_rw (zb_141_5 hS) ?_
  refine zRq_ci (r_142 hS) (fun v3 C4 => ?_)
  refine zRq_rw (zb_141_16 hS) ?_
  refine zRq_ite (fun h5 => ?_) (fun h6 => ?_)
  · refine zRq_rw (zb_141_25 hS) ?_
    refine zRq_ci (r_143 hS) (fun v7 C8 => ?_)
    refine zRq_rw (zb_141_31 hS) ?_
    refine zRq_ite (fun h9 => ?_) (fun h10 => ?_)
    · refine zRq_rw (zb_141_44 hS) ?_
      refine zRq_rw (zb_141_67 hS) ?_
      exact zRq_rt fun r h => h
    · refine zRq_rw (zb_141_38 hS) ?_
      refine zRq_ite (fun h11 => ?_) (fun h12 => ?_)
      · refine zRq_rw (zb_141_49 hS) ?_
        refine zRq_ite (fun h13 => ?_) (fun h14 => ?_)
        · refine zRq_rw (zb_141_66 hS) ?_
          refine zRq_rw (zb_141_67 hS) ?_
          exact zRq_rt fun r h => h
        · refine zRq_rw (zb_141_57 hS) ?_
          refine zRq_g (fun h15 => ?_)
          refine zRq_rw (zb_141_67 hS) ?_
          exact zRq_rt fun r h => h
      · refine zRq_rw (zb_141_44 hS) ?_
        refine zRq_rw (zb_141_67 hS) ?_
        exact zRq_rt fun r h => h
  · refine zRq_rw (zb_141_22 hS) ?_
    exact zRq_rt fun r h => h
-- 140: NewOrBackModel.errands(III)I
noncomputable def d_errands (l1 : Int) (l2 : Int) (l3 : Int) (C : ZC) : Option (Int × ZC) :=
  zbd (d_isWalker l1 C) fun v1 C2 => if v1 = 0 then (some ((-2), C2)) else (zbd (d_in l2 0 255 C2) fun v5 C6 => if v5 = 0 then (some ((-2), C6)) else (if l3 < ((-1)) then (some ((-2), C6)) else (zbd (d_errandsOf l1 l2 l3 C6) fun v11 C12 => some (v11, C12))))
set_option maxRecDepth 100000 in
theorem r_140 {d : Nat} {S : ZS} (hS : zShM S) {l1 : Int} {l2 : Int} {l3 : Int} {C : ZC} : zRq (zKi S) (d_errands l1 l2 l3 C) (zR (d + 7) 140 0 [some (.inr (.inr (some 72))), some (.inl l1), some (.inl l2), some (.inl l3)] [] S C) := by
  unfold d_errands
  refine zRq_rw (zb_140_0 hS) ?_
  refine zRq_ci (r_109 hS) (fun v1 C2 => ?_)
  refine zRq_rw (zb_140_4 hS) ?_
  refine zRq_ite (fun h3 => ?_) (fun h4 => ?_)
  · refine zRq_rw (zb_140_33 hS) ?_
    refine zRq_rw (zb_140_35 hS) ?_
    exact zRq_rt fun r h => h
  · refine zRq_rw (zb_140_7 hS) ?_
    refine zRq_ci (r_101 hS) (fun v5 C6 => ?_)
    refine zRq_rw (zb_140_15 hS) ?_
    refine zRq_ite (fun h7 => ?_) (fun h8 => ?_)
    · refine zRq_rw (zb_140_33 hS) ?_
      refine zRq_rw (zb_140_35 hS) ?_
      exact zRq_rt fun r h => h
    · refine zRq_rw (zb_140_18 hS) ?_
      refine zRq_ite (fun h9 => ?_) (fun h10 => ?_)
      · refine zRq_rw (zb_140_33 hS) ?_
        refine zRq_rw (zb_140_35 hS) ?_
        exact zRq_rt fun r h => h
      · refine zRq_rw (zb_140_23 hS) ?_
        refine zRq_ci (r_141 hS) (fun v11 C12 => ?_)
        refine zRq_rw (zb_140_30 hS) ?_
        refine zRq_rw (zb_140_35 hS) ?_
        exact zRq_rt fun r h => h
-- 146: NewOrBackModel.meetingOf(III)I
noncomputable def d_meetingOf_L13 (l2 : Int) (l3 : Int) (x5 : Int) (C7 : ZC) : Option ((Int ⊕ Unit) × ZC) :=
  if 8 ≤ x5 then (some (.inr (), C7)) else (zg (0 ≤ x5 ∧ x5 < 8) (zg (0 ≤ x5 ∧ x5 < 8) (some (.inl (zadd x5 1), zup2 C7 86 x5.toNat (C7 80 x5.toNat)))))
noncomputable def d_meetingOf_L60 (l3 : Int) (x19 : (Int × Int × Int)) (C21 : ZC) : Option (((Int × Int × Int) ⊕ (Int × Int)) × ZC) :=
  if 8 ≤ ((x19.2.2)) then (some (.inr (((x19.1), (x19.2.1))), C21)) else (zbd (α := Int) (zg (0 ≤ (x19.2.2) ∧ (x19.2.2) < 8) (zg (0 ≤ (x19.2.2) ∧ (x19.2.2) < 8) (if ((C21 86 (x19.2.2).toNat)) ≤ ((C21 80 (x19.2.2).toNat)) then (zg (0 ≤ (x19.2.2) ∧ (x19.2.2) < 8) (some ((C21 80 (x19.2.2).toNat), C21))) else (zg (0 ≤ (x19.2.2) ∧ (x19.2.2) < 8) (some ((C21 86 (x19.2.2).toNat), C21)))))) fun y25 C27 => zbd (α := (Int × Int)) (if ((x19.2.1)) ≤ y25 then (some ((y25, (x19.1)), C27)) else (some ((y25, (x19.2.2)), C27))) fun y34 C36 => if ((x19.2.1)) ≤ ((y34.1)) then (some (.inl ((y34.2), (x19.2.1), (zadd (x19.2.2) 1)), C36)) else (some (.inl ((y34.2), (y34.1), (zadd (x19.2.2) 1)), C36)))
noncomputable def d_meetingOf (l1 : Int) (l2 : Int) (l3 : Int) (C : ZC) : Option (Int × ZC) :=
  zbd (d_walks l1 C) fun v1 C2 => zbd (d_reaches 0 C2) fun v3 C4 => zbd (zloop (d_meetingOf_L13 l2 l3) 0 C4) fun y8 C14 => zbd (d_walks l2 C14) fun v15 C16 => zbd (d_reaches 0 C16) fun v17 C18 => zbd (zloop (d_meetingOf_L60 l3) ((-1), 1000000, 0) C18) fun y22 C42 => if ((y22.1)) = ((-1)) then (some ((y22.1), C42)) else (if ¬ l3 = 0 then (some ((y22.2), C42)) else (some ((y22.1), C42)))
set_option maxRecDepth 100000 in
theorem r_146 {d : Nat} {S : ZS} (hS : zShM S) {l1 : Int} {l2 : Int} {l3 : Int} {C : ZC} : zRq (zKi S) (d_meetingOf l1 l2 l3 C) (zR (d + 5) 146 0 [some (.inr (.inr (some 72))), some (.inl l1), some (.inl l2), some (.inl l3), none, none, none, none] [] S C) := by
  unfold d_meetingOf
  refine zRq_rw (zb_146_0 hS) ?_
  refine zRq_cv (r_116 hS) (fun v1 C2 => ?_)
  refine zRq_rw (zb_146_5 hS) ?_
  refine zRq_cv (r_133 hS) (fun v3 C4 => ?_)
  refine zRq_rw (zb_146_10 hS) ?_
  refine zRq_bdf (f := (fun (xq : Unit) (jq : (Int × Option ZV × Option ZV × Option ZV)) (Cq : ZC) => zR (d + 5) 146 40 [some (.inr (.inr (some 72))), some (.inl l1), some (.inl l2), some (.inl l3), some (.inl (jq.1)), (jq.2.1), (jq.2.2.1), (jq.2.2.2)] [] S Cq)) (zRq_loop (f := (fun (xq : Int) (jq : (Option ZV × Option ZV × Option ZV)) (Cq : ZC) => zR (d + 5) 146 13 [some (.inr (.inr (some 72))), some (.inl l1), some (.inl l2), some (.inl l3), some (.inl xq), (jq.1), (jq.2.1), (jq.2.2)] [] S Cq)) (fun x5 j6 C7 => ?_) _ (none, none, none) _) (fun y8 j13 C14 => ?_)
  · unfold d_meetingOf_L13
    refine zRq_rw (zb_146_13 hS) ?_
    refine zRq_ite (fun h9 => ?_) (fun h10 => ?_)
    · exact zRq_lf fun r h => h (x5, (j6.1), (j6.2.1), (j6.2.2))
    · refine zRq_rw (zb_146_20 hS) ?_
      refine zRq_g (fun h11 => ?_)
      refine zRq_g (fun h12 => ?_)
      exact zRq_lf fun r h => h ((j6.1), (j6.2.1), (j6.2.2))
  · refine zRq_rw (zb_146_40 hS) ?_
    refine zRq_cv (r_116 hS) (fun v15 C16 => ?_)
    refine zRq_rw (zb_146_45 hS) ?_
    refine zRq_cv (r_133 hS) (fun v17 C18 => ?_)
    refine zRq_rw (zb_146_50 hS) ?_
    refine zRq_bdf (f := (fun (xq : (Int × Int)) (jq : (Int × Option ZV)) (Cq : ZC) => zR (d + 5) 146 141 [some (.inr (.inr (some 72))), some (.inl l1), some (.inl l2), some (.inl l3), some (.inl (xq.1)), some (.inl (xq.2)), some (.inl (jq.1)), (jq.2)] [] S Cq)) (zRq_loop (f := (fun (xq : (Int × Int × Int)) (jq : Option ZV) (Cq : ZC) => zR (d + 5) 146 60 [some (.inr (.inr (some 72))), some (.inl l1), some (.inl l2), some (.inl l3), some (.inl (xq.1)), some (.inl (xq.2.1)), some (.inl (xq.2.2)), jq] [] S Cq)) (fun x19 j20 C21 => ?_) _ (j13.2.2.2) _) (fun y22 j41 C42 => ?_)
    · unfold d_meetingOf_L60
      refine zRq_rw (zb_146_60 hS) ?_
      refine zRq_ite (fun h23 => ?_) (fun h24 => ?_)
      · exact zRq_lf fun r h => h ((x19.2.2), j20)
      · refine zRq_bdf (f := (fun (xq : Int) (jq : Option ZV) (Cq : ZC) => zR (d + 5) 146 101 [some (.inr (.inr (some 72))), some (.inl l1), some (.inl l2), some (.inl l3), some (.inl (x19.1)), some (.inl (x19.2.1)), some (.inl (x19.2.2)), jq] [.inl xq] S Cq)) ?_ (fun y25 j26 C27 => ?_)
        · refine zRq_rw (zb_146_67 hS) ?_
          refine zRq_g (fun h28 => ?_)
          refine zRq_g (fun h29 => ?_)
          refine zRq_ite (fun h30 => ?_) (fun h31 => ?_)
          · refine zRq_rw (zb_146_94 hS) ?_
            refine zRq_g (fun h32 => ?_)
            exact zRq_lf fun r h => h j20
          · refine zRq_rw (zb_146_84 hS) ?_
            refine zRq_g (fun h33 => ?_)
            exact zRq_lf fun r h => h j20
        · refine zRq_bdf (f := (fun (xq : (Int × Int)) (jq : Unit) (Cq : ZC) => zR (d + 5) 146 117 [some (.inr (.inr (some 72))), some (.inl l1), some (.inl l2), some (.inl l3), some (.inl (x19.1)), some (.inl (x19.2.1)), some (.inl (x19.2.2)), some (.inl (xq.1))] [.inl (xq.2)] S Cq)) ?_ (fun y34 j35 C36 => ?_)
          · refine zRq_rw (zb_146_101 hS) ?_
            refine zRq_ite (fun h37 => ?_) (fun h38 => ?_)
            · refine zRq_rw (zb_146_115 hS) ?_
              exact zRq_lf fun r h => h ()
            · refine zRq_rw (zb_146_110 hS) ?_
              exact zRq_lf fun r h => h ()
          · refine zRq_rw (zb_146_117 hS) ?_
            refine zRq_ite (fun h39 => ?_) (fun h40 => ?_)
            · refine zRq_rw (zb_146_131 hS) ?_
              refine zRq_rw (zb_146_133 hS) ?_
              exact zRq_lf fun r h => h (some (.inl (y34.1)))
            · refine zRq_rw (zb_146_126 hS) ?_
              refine zRq_rw (zb_146_133 hS) ?_
              exact zRq_lf fun r h => h (some (.inl (y34.1)))
    · refine zRq_rw (zb_146_141 hS) ?_
      refine zRq_ite (fun h43 => ?_) (fun h44 => ?_)
      · refine zRq_rw (zb_146_151 hS) ?_
        refine zRq_rw (zb_146_158 hS) ?_
        exact zRq_rt fun r h => h
      · refine zRq_rw (zb_146_147 hS) ?_
        refine zRq_ite (fun h45 => ?_) (fun h46 => ?_)
        · refine zRq_rw (zb_146_156 hS) ?_
          refine zRq_rw (zb_146_158 hS) ?_
          exact zRq_rt fun r h => h
        · refine zRq_rw (zb_146_151 hS) ?_
          refine zRq_rw (zb_146_158 hS) ?_
          exact zRq_rt fun r h => h
-- 145: NewOrBackModel.meeting(III)I
noncomputable def d_meeting (l1 : Int) (l2 : Int) (l3 : Int) (C : ZC) : Option (Int × ZC) :=
  zbd (d_isWalker l1 C) fun v1 C2 => if v1 = 0 then (some ((-2), C2)) else (zbd (d_isWalker l2 C2) fun v5 C6 => if v5 = 0 then (some ((-2), C6)) else (if l1 = l2 then (some ((-2), C6)) else (zbd (d_in l3 0 1 C6) fun v11 C12 => if v11 = 0 then (some ((-2), C12)) else (zbd (d_meetingOf l1 l2 l3 C12) fun v15 C16 => some (v15, C16)))))
set_option maxRecDepth 100000 in
theorem r_145 {d : Nat} {S : ZS} (hS : zShM S) {l1 : Int} {l2 : Int} {l3 : Int} {C : ZC} : zRq (zKi S) (d_meeting l1 l2 l3 C) (zR (d + 6) 145 0 [some (.inr (.inr (some 72))), some (.inl l1), some (.inl l2), some (.inl l3)] [] S C) := by
  unfold d_meeting
  refine zRq_rw (zb_145_0 hS) ?_
  refine zRq_ci (r_109 hS) (fun v1 C2 => ?_)
  refine zRq_rw (zb_145_4 hS) ?_
  refine zRq_ite (fun h3 => ?_) (fun h4 => ?_)
  · refine zRq_rw (zb_145_38 hS) ?_
    refine zRq_rw (zb_145_40 hS) ?_
    exact zRq_rt fun r h => h
  · refine zRq_rw (zb_145_7 hS) ?_
    refine zRq_ci (r_109 hS) (fun v5 C6 => ?_)
    refine zRq_rw (zb_145_11 hS) ?_
    refine zRq_ite (fun h7 => ?_) (fun h8 => ?_)
    · refine zRq_rw (zb_145_38 hS) ?_
      refine zRq_rw (zb_145_40 hS) ?_
      exact zRq_rt fun r h => h
    · refine zRq_rw (zb_145_14 hS) ?_
      refine zRq_ite (fun h9 => ?_) (fun h10 => ?_)
      · refine zRq_rw (zb_145_38 hS) ?_
        refine zRq_rw (zb_145_40 hS) ?_
        exact zRq_rt fun r h => h
      · refine zRq_rw (zb_145_19 hS) ?_
        refine zRq_ci (r_101 hS) (fun v11 C12 => ?_)
        refine zRq_rw (zb_145_25 hS) ?_
        refine zRq_ite (fun h13 => ?_) (fun h14 => ?_)
        · refine zRq_rw (zb_145_38 hS) ?_
          refine zRq_rw (zb_145_40 hS) ?_
          exact zRq_rt fun r h => h
        · refine zRq_rw (zb_145_28 hS) ?_
          refine zRq_ci (r_146 hS) (fun v15 C16 => ?_)
          refine zRq_rw (zb_145_35 hS) ?_
          refine zRq_rw (zb_145_40 hS) ?_
          exact zRq_rt fun r h => h
-- 148: NewOrBackModel.lentOf(II)I
noncomputable def d_lentOf (l1 : Int) (l2 : Int) (C : ZC) : Option (Int × ZC) :=
  zbd (d_goneOf l1 C) fun v1 C2 => zbd (d_walks l2 C2) fun v3 C4 => zbd (d_reaches 0 (zup2 C4 72 8 (zor (C4 72 8) v1))) fun v5 C6 => zbd (d_reached C6) fun v7 C8 => some (v7, C8)
set_option maxRecDepth 100000 in
theorem r_148 {d : Nat} {S : ZS} (hS : zShM S) {l1 : Int} {l2 : Int} {C : ZC} : zRq (zKi S) (d_lentOf l1 l2 C) (zR (d + 6) 148 0 [some (.inr (.inr (some 72))), some (.inl l1), some (.inl l2), none] [] S C) := by
  unfold d_lentOf
  refine zRq_rw (zb_148_0 hS) ?_
  refine zRq_ci (r_127 hS) (fun v1 C2 => ?_)
  refine zRq_rw (zb_148_5 hS) ?_
  refine zRq_cv (r_116 hS) (fun v3 C4 => ?_)
  refine zRq_rw (zb_148_11 hS) ?_
  refine zRq_cv (r_133 hS) (fun v5 C6 => ?_)
  refine zRq_rw (zb_148_26 hS) ?_
  refine zRq_ci (r_136 hS) (fun v7 C8 => ?_)
  refine zRq_rw (zb_148_30 hS) ?_
  exact zRq_rt fun r h => h
-- 147: NewOrBackModel.lent(II)I
noncomputable def d_lent (l1 : Int) (l2 : Int) (C : ZC) : Option (Int × ZC) :=
  zbd (d_isWalker l1 C) fun v1 C2 => if v1 = 0 then (some ((-2), C2)) else (zbd (d_isWalker l2 C2) fun v5 C6 => if v5 = 0 then (some ((-2), C6)) else (if l1 = l2 then (some ((-2), C6)) else (zbd (d_lentOf l1 l2 C6) fun v11 C12 => some (v11, C12))))
set_option maxRecDepth 100000 in
theorem r_147 {d : Nat} {S : ZS} (hS : zShM S) {l1 : Int} {l2 : Int} {C : ZC} : zRq (zKi S) (d_lent l1 l2 C) (zR (d + 7) 147 0 [some (.inr (.inr (some 72))), some (.inl l1), some (.inl l2)] [] S C) := by
  unfold d_lent
  refine zRq_rw (zb_147_0 hS) ?_
  refine zRq_ci (r_109 hS) (fun v1 C2 => ?_)
  refine zRq_rw (zb_147_4 hS) ?_
  refine zRq_ite (fun h3 => ?_) (fun h4 => ?_)
  · refine zRq_rw (zb_147_28 hS) ?_
    refine zRq_rw (zb_147_30 hS) ?_
    exact zRq_rt fun r h => h
  · refine zRq_rw (zb_147_7 hS) ?_
    refine zRq_ci (r_109 hS) (fun v5 C6 => ?_)
    refine zRq_rw (zb_147_11 hS) ?_
    refine zRq_ite (fun h7 => ?_) (fun h8 => ?_)
    · refine zRq_rw (zb_147_28 hS) ?_
      refine zRq_rw (zb_147_30 hS) ?_
      exact zRq_rt fun r h => h
    · refine zRq_rw (zb_147_14 hS) ?_
      refine zRq_ite (fun h9 => ?_) (fun h10 => ?_)
      · refine zRq_rw (zb_147_28 hS) ?_
        refine zRq_rw (zb_147_30 hS) ?_
        exact zRq_rt fun r h => h
      · refine zRq_rw (zb_147_19 hS) ?_
        refine zRq_ci (r_148 hS) (fun v11 C12 => ?_)
        refine zRq_rw (zb_147_25 hS) ?_
        refine zRq_rw (zb_147_30 hS) ?_
        exact zRq_rt fun r h => h
-- 150: NewOrBackModel.allWays()I
noncomputable def d_allWays  (C : ZC) : Option (Int × ZC) :=
  zbd (d_faultNow C) fun v1 C2 => some ((zsub (zshl 1 (C2 72 2)) 1), C2)
set_option maxRecDepth 100000 in
theorem r_150 {d : Nat} {S : ZS} (hS : zShM S) {C : ZC} : zRq (zKi S) (d_allWays C) (zR (d + 4) 150 0 [some (.inr (.inr (some 72))), none] [] S C) := by
  unfold d_allWays
  refine zRq_rw (zb_150_0 hS) ?_
  refine zRq_ci (r_104 hS) (fun v1 C2 => ?_)
  refine zRq_rw (zb_150_4 hS) ?_
  exact zRq_rt fun r h => h
-- 149: NewOrBackModel.lost(II)I
noncomputable def d_lost (l1 : Int) (l2 : Int) (C : ZC) : Option (Int × ZC) :=
  zbd (d_isWalker l1 C) fun v1 C2 => if v1 = 0 then (some ((-2), C2)) else (zbd (d_allWays C2) fun v5 C6 => zbd (d_in l2 0 v5 C6) fun v7 C8 => if ¬ v7 = 0 then (zbd (d_walks l1 C8) fun v11 C12 => zbd (d_reaches l2 C12) fun v13 C14 => zg (0 ≤ l1 ∧ l1 < 4) (zg (0 ≤ (C14 78 l1.toNat) ∧ (C14 78 l1.toNat) < 8) (if 1000000 ≤ ((C14 80 (C14 78 l1.toNat).toNat)) then (some (1, C14)) else (some (0, C14))))) else (some ((-2), C8)))
set_option maxRecDepth 100000 in
theorem r_149 {d : Nat} {S : ZS} (hS : zShM S) {l1 : Int} {l2 : Int} {C : ZC} : zRq (zKi S) (d_lost l1 l2 C) (zR (d + 5) 149 0 [some (.inr (.inr (some 72))), some (.inl l1), some (.inl l2)] [] S C) := by
  unfold d_lost
  refine zRq_rw (zb_149_0 hS) ?_
  refine zRq_ci (r_109 hS) (fun v1 C2 => ?_)
  refine zRq_rw (zb_149_4 hS) ?_
  refine zRq_ite (fun h3 => ?_) (fun h4 => ?_)
  · refine zRq_rw (zb_149_19 hS) ?_
    exact zRq_rt fun r h => h
  · refine zRq_rw (zb_149_7 hS) ?_
    refine zRq_ci (r_150 hS) (fun v5 C6 => ?_)
    refine zRq_rw (zb_149_13 hS) ?_
    refine zRq_ci (r_101 hS) (fun v7 C8 => ?_)
    refine zRq_rw (zb_149_16 hS) ?_
    refine zRq_ite (fun h9 => ?_) (fun h10 => ?_)
    · refine zRq_rw (zb_149_22 hS) ?_
      refine zRq_cv (r_116 hS) (fun v11 C12 => ?_)
      refine zRq_rw (zb_149_27 hS) ?_
      refine zRq_cv (r_133 hS) (fun v13 C14 => ?_)
      refine zRq_rw (zb_149_32 hS) ?_
      refine zRq_g (fun h15 => ?_)
      refine zRq_g (fun h16 => ?_)
      refine zRq_ite (fun h17 => ?_) (fun h18 => ?_)
      · refine zRq_rw (zb_149_52 hS) ?_
        refine zRq_rw (zb_149_53 hS) ?_
        exact zRq_rt fun r h => h
      · refine zRq_rw (zb_149_48 hS) ?_
        refine zRq_rw (zb_149_53 hS) ?_
        exact zRq_rt fun r h => h
    · refine zRq_rw (zb_149_19 hS) ?_
      exact zRq_rt fun r h => h
-- 152: NewOrBackModel.threadOf(II)I
noncomputable def d_threadOf_L10 (l1 : Int) (l2 : Int) (x3 : (Int × Int)) (C5 : ZC) : Option (((Int × Int) ⊕ Int) × ZC) :=
  if ((zshl 1 (C5 72 2))) ≤ ((x3.2)) then (some (.inr (x3.1), C5)) else (zg (0 ≤ l1 ∧ l1 < 4) (if ((C5 72 7)) = ((C5 78 l1.toNat)) then (some (.inr (x3.1), C5)) else (zbs (α := Unit) (if ((x3.1)) = ((-1)) then (some (.inl (), C5)) else (zbd (d_ones (x3.2) C5) fun v17 C18 => zbd (d_ones (x3.1) C18) fun v19 C20 => if v19 ≤ v17 then (some (.inr (.inl ((x3.1), (zadd (x3.2) 1))), C20)) else (some (.inl (), C20)))) fun y12 C14 => zbd (d_reaches (x3.2) C14) fun v23 C24 => zg (0 ≤ l1 ∧ l1 < 4) (zg (0 ≤ (C24 78 l1.toNat) ∧ (C24 78 l1.toNat) < 8) (if 1000000 ≤ ((C24 80 (C24 78 l1.toNat).toNat)) then (some (.inl ((x3.2), (zadd (x3.2) 1)), C24)) else (some (.inl ((x3.1), (zadd (x3.2) 1)), C24)))))))
noncomputable def d_threadOf (l1 : Int) (l2 : Int) (C : ZC) : Option (Int × ZC) :=
  zbd (d_walks l1 C) fun v1 C2 => zbd (zloop (d_threadOf_L10 l1 l2) ((-1), 0) C2) fun y6 C30 => if y6 = ((-1)) then (some (y6, C30)) else (if ¬ l2 = 1 then (zbd (d_ones y6 C30) fun v35 C36 => some (v35, C36)) else (some (y6, C30)))
set_option maxRecDepth 100000 in
theorem r_152 {d : Nat} {S : ZS} (hS : zShM S) {l1 : Int} {l2 : Int} {C : ZC} : zRq (zKi S) (d_threadOf l1 l2 C) (zR (d + 5) 152 0 [some (.inr (.inr (some 72))), some (.inl l1), some (.inl l2), none, none] [] S C) := by
  unfold d_threadOf
  refine zRq_rw (zb_152_0 hS) ?_
  refine zRq_cv (r_116 hS) (fun v1 C2 => ?_)
  refine zRq_rw (zb_152_5 hS) ?_
  refine zRq_bdf (f := (fun (xq : Int) (jq : Int) (Cq : ZC) => zR (d + 5) 152 86 [some (.inr (.inr (some 72))), some (.inl l1), some (.inl l2), some (.inl xq), some (.inl jq)] [] S Cq)) (zRq_loop (f := (fun (xq : (Int × Int)) (jq : Unit) (Cq : ZC) => zR (d + 5) 152 10 [some (.inr (.inr (some 72))), some (.inl l1), some (.inl l2), some (.inl (xq.1)), some (.inl (xq.2))] [] S Cq)) (fun x3 j4 C5 => ?_) _ () _) (fun y6 j29 C30 => ?_)
  · unfold d_threadOf_L10
    refine zRq_rw (zb_152_10 hS) ?_
    refine zRq_ite (fun h7 => ?_) (fun h8 => ?_)
    · exact zRq_lf fun r h => h (x3.2)
    · refine zRq_rw (zb_152_21 hS) ?_
      refine zRq_g (fun h9 => ?_)
      refine zRq_ite (fun h10 => ?_) (fun h11 => ?_)
      · exact zRq_lf fun r h => h (x3.2)
      · refine zRq_bsf (f := (fun (xq : Unit) (jq : Unit) (Cq : ZC) => zR (d + 5) 152 51 [some (.inr (.inr (some 72))), some (.inl l1), some (.inl l2), some (.inl (x3.1)), some (.inl (x3.2))] [] S Cq)) ?_ (fun y12 j13 C14 => ?_)
        · refine zRq_rw (zb_152_34 hS) ?_
          refine zRq_ite (fun h15 => ?_) (fun h16 => ?_)
          · exact zRq_lf fun r h => h ()
          · refine zRq_rw (zb_152_39 hS) ?_
            refine zRq_ci (r_142 hS) (fun v17 C18 => ?_)
            refine zRq_rw (zb_152_44 hS) ?_
            refine zRq_ci (r_142 hS) (fun v19 C20 => ?_)
            refine zRq_rw (zb_152_48 hS) ?_
            refine zRq_ite (fun h21 => ?_) (fun h22 => ?_)
            · refine zRq_rw (zb_152_80 hS) ?_
              exact zRq_lf fun r h => h ()
            · exact zRq_lf fun r h => h ()
        · refine zRq_rw (zb_152_51 hS) ?_
          refine zRq_cv (r_133 hS) (fun v23 C24 => ?_)
          refine zRq_rw (zb_152_57 hS) ?_
          refine zRq_g (fun h25 => ?_)
          refine zRq_g (fun h26 => ?_)
          refine zRq_ite (fun h27 => ?_) (fun h28 => ?_)
          · refine zRq_rw (zb_152_77 hS) ?_
            refine zRq_rw (zb_152_79 hS) ?_
            refine zRq_rw (zb_152_80 hS) ?_
            exact zRq_lf fun r h => h ()
          · refine zRq_rw (zb_152_73 hS) ?_
            refine zRq_rw (zb_152_79 hS) ?_
            refine zRq_rw (zb_152_80 hS) ?_
            exact zRq_lf fun r h => h ()
  · refine zRq_rw (zb_152_86 hS) ?_
    refine zRq_ite (fun h31 => ?_) (fun h32 => ?_)
    · refine zRq_rw (zb_152_96 hS) ?_
      refine zRq_rw (zb_152_104 hS) ?_
      exact zRq_rt fun r h => h
    · refine zRq_rw (zb_152_91 hS) ?_
      refine zRq_ite (fun h33 => ?_) (fun h34 => ?_)
      · refine zRq_rw (zb_152_100 hS) ?_
        refine zRq_ci (r_142 hS) (fun v35 C36 => ?_)
        refine zRq_rw (zb_152_104 hS) ?_
        exact zRq_rt fun r h => h
      · refine zRq_rw (zb_152_96 hS) ?_
        refine zRq_rw (zb_152_104 hS) ?_
        exact zRq_rt fun r h => h
-- 151: NewOrBackModel.thread(II)I
noncomputable def d_thread (l1 : Int) (l2 : Int) (C : ZC) : Option (Int × ZC) :=
  zbd (d_isWalker l1 C) fun v1 C2 => if v1 = 0 then (some ((-2), C2)) else (zbd (d_in l2 0 1 C2) fun v5 C6 => if v5 = 0 then (some ((-2), C6)) else (zbd (d_threadOf l1 l2 C6) fun v9 C10 => some (v9, C10)))
set_option maxRecDepth 100000 in
theorem r_151 {d : Nat} {S : ZS} (hS : zShM S) {l1 : Int} {l2 : Int} {C : ZC} : zRq (zKi S) (d_thread l1 l2 C) (zR (d + 6) 151 0 [some (.inr (.inr (some 72))), some (.inl l1), some (.inl l2)] [] S C) := by
  unfold d_thread
  refine zRq_rw (zb_151_0 hS) ?_
  refine zRq_ci (r_109 hS) (fun v1 C2 => ?_)
  refine zRq_rw (zb_151_4 hS) ?_
  refine zRq_ite (fun h3 => ?_) (fun h4 => ?_)
  · refine zRq_rw (zb_151_25 hS) ?_
    refine zRq_rw (zb_151_27 hS) ?_
    exact zRq_rt fun r h => h
  · refine zRq_rw (zb_151_7 hS) ?_
    refine zRq_ci (r_101 hS) (fun v5 C6 => ?_)
    refine zRq_rw (zb_151_13 hS) ?_
    refine zRq_ite (fun h7 => ?_) (fun h8 => ?_)
    · refine zRq_rw (zb_151_25 hS) ?_
      refine zRq_rw (zb_151_27 hS) ?_
      exact zRq_rt fun r h => h
    · refine zRq_rw (zb_151_16 hS) ?_
      refine zRq_ci (r_152 hS) (fun v9 C10 => ?_)
      refine zRq_rw (zb_151_22 hS) ?_
      refine zRq_rw (zb_151_27 hS) ?_
      exact zRq_rt fun r h => h
-- 153: NewOrBackModel.seen(II)I
noncomputable def d_seen (l1 : Int) (l2 : Int) (C : ZC) : Option (Int × ZC) :=
  zbd (d_in l1 0 11 C) fun v1 C2 => if v1 = 0 then (some ((-2), C2)) else (zbd (d_isPlace l2 C2) fun v5 C6 => if ¬ v5 = 0 then (if ¬ ((C6 72 23)) = 4 then (zg (0 ≤ (C6 72 23) ∧ (C6 72 23) < 4) (zg (0 ≤ ((zup2 C6 87 (C6 72 23).toNat l1) 72 23) ∧ ((zup2 C6 87 (C6 72 23).toNat l1) 72 23) < 4) (some (((zup2 (zup2 (zup2 C6 87 (C6 72 23).toNat l1) 88 ((zup2 C6 87 (C6 72 23).toNat l1) 72 23).toNat l2) 72 23 (zadd ((zup2 (zup2 C6 87 (C6 72 23).toNat l1) 88 ((zup2 C6 87 (C6 72 23).toNat l1) 72 23).toNat l2) 72 23) 1)) 72 23), zup2 (zup2 (zup2 C6 87 (C6 72 23).toNat l1) 88 ((zup2 C6 87 (C6 72 23).toNat l1) 72 23).toNat l2) 72 23 (zadd ((zup2 (zup2 C6 87 (C6 72 23).toNat l1) 88 ((zup2 C6 87 (C6 72 23).toNat l1) 72 23).toNat l2) 72 23) 1))))) else (some ((-4), C6))) else (some ((-2), C6)))
set_option maxRecDepth 100000 in
theorem r_153 {d : Nat} {S : ZS} (hS : zShM S) {l1 : Int} {l2 : Int} {C : ZC} : zRq (zKi S) (d_seen l1 l2 C) (zR (d + 3) 153 0 [some (.inr (.inr (some 72))), some (.inl l1), some (.inl l2)] [] S C) := by
  unfold d_seen
  refine zRq_rw (zb_153_0 hS) ?_
  refine zRq_ci (r_101 hS) (fun v1 C2 => ?_)
  refine zRq_rw (zb_153_7 hS) ?_
  refine zRq_ite (fun h3 => ?_) (fun h4 => ?_)
  · refine zRq_rw (zb_153_17 hS) ?_
    exact zRq_rt fun r h => h
  · refine zRq_rw (zb_153_10 hS) ?_
    refine zRq_ci (r_110 hS) (fun v5 C6 => ?_)
    refine zRq_rw (zb_153_14 hS) ?_
    refine zRq_ite (fun h7 => ?_) (fun h8 => ?_)
    · refine zRq_rw (zb_153_20 hS) ?_
      refine zRq_ite (fun h9 => ?_) (fun h10 => ?_)
      · refine zRq_rw (zb_153_31 hS) ?_
        refine zRq_g (fun h11 => ?_)
        refine zRq_g (fun h12 => ?_)
        exact zRq_rt fun r h => h
      · refine zRq_rw (zb_153_28 hS) ?_
        exact zRq_rt fun r h => h
    · refine zRq_rw (zb_153_17 hS) ?_
      exact zRq_rt fun r h => h

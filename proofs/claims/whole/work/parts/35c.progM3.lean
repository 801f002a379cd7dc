/-! Layer 2: the methods as programs over the ints (written by wip/whole/gend.py) -/
-- 160: NewOrBackModel.laysHops()V
noncomputable def d_laysHops_L10 (l1 : Int) (x7 : Int) (C9 : ZC) : Option ((Int ⊕ Unit) × ZC) :=
  if 8 ≤ x7 then (some (.inr (), C9)) else (if ¬ l1 = x7 then (zg (0 ≤ (zadd (zmul 8 l1) x7) ∧ (zadd (zmul 8 l1) x7) < 64) (some (.inl (zadd x7 1), zup2 C9 89 (zadd (zmul 8 l1) x7).toNat 1000000))) else (zg (0 ≤ (zadd (zmul 8 l1) x7) ∧ (zadd (zmul 8 l1) x7) < 64) (some (.inl (zadd x7 1), zup2 C9 89 (zadd (zmul 8 l1) x7).toNat 0))))
noncomputable def d_laysHops_L2  (x1 : Int) (C3 : ZC) : Option ((Int ⊕ Unit) × ZC) :=
  if 8 ≤ x1 then (some (.inr (), C3)) else (zbd (zloop (d_laysHops_L10 x1) 0 C3) fun y10 C18 => some (.inl (zadd x1 1), C18))
noncomputable def d_laysHops_L70 (l1 : Int) (l2 : Int) (x33 : Int) (C35 : ZC) : Option ((Int ⊕ Unit) × ZC) :=
  if 8 ≤ x33 then (some (.inr (), C35)) else (zbd (α := (Int × Int × Int × Int)) (zg (0 ≤ l2 ∧ l2 < 13) (zg (0 ≤ (zadd (zmul 8 (C35 75 l2.toNat)) x33) ∧ (zadd (zmul 8 (C35 75 l2.toNat)) x33) < 64) (zg (0 ≤ l2 ∧ l2 < 13) (zg (0 ≤ (zadd (zmul 8 (C35 76 l2.toNat)) x33) ∧ (zadd (zmul 8 (C35 76 l2.toNat)) x33) < 64) (zg (0 ≤ l2 ∧ l2 < 13) (if ((C35 89 (zadd (zmul 8 (C35 75 l2.toNat)) x33).toNat)) ≤ ((zadd (C35 89 (zadd (zmul 8 (C35 76 l2.toNat)) x33).toNat) 1)) then (some (((C35 89 (zadd (zmul 8 (C35 75 l2.toNat)) x33).toNat), (C35 89 (zadd (zmul 8 (C35 76 l2.toNat)) x33).toNat), (C35 89 (zadd (zmul 8 (C35 75 l2.toNat)) x33).toNat), (zadd (zmul 8 (C35 75 l2.toNat)) x33)), C35)) else (some (((C35 89 (zadd (zmul 8 (C35 75 l2.toNat)) x33).toNat), (C35 89 (zadd (zmul 8 (C35 76 l2.toNat)) x33).toNat), (zadd (C35 89 (zadd (zmul 8 (C35 76 l2.toNat)) x33).toNat) 1), (zadd (zmul 8 (C35 75 l2.toNat)) x33)), C35)))))))) fun y39 C41 => zg (0 ≤ (y39.2.2.2) ∧ (y39.2.2.2) < 64) (zg (0 ≤ l2 ∧ l2 < 13) (if ((y39.2.1)) ≤ ((zadd (y39.1) 1)) then (zg (0 ≤ (zadd (zmul 8 ((zup2 C41 89 (y39.2.2.2).toNat (y39.2.2.1)) 76 l2.toNat)) x33) ∧ (zadd (zmul 8 ((zup2 C41 89 (y39.2.2.2).toNat (y39.2.2.1)) 76 l2.toNat)) x33) < 64) (some (.inl (zadd x33 1), zup2 (zup2 C41 89 (y39.2.2.2).toNat (y39.2.2.1)) 89 (zadd (zmul 8 ((zup2 C41 89 (y39.2.2.2).toNat (y39.2.2.1)) 76 l2.toNat)) x33).toNat (y39.2.1)))) else (zg (0 ≤ (zadd (zmul 8 ((zup2 C41 89 (y39.2.2.2).toNat (y39.2.2.1)) 76 l2.toNat)) x33) ∧ (zadd (zmul 8 ((zup2 C41 89 (y39.2.2.2).toNat (y39.2.2.1)) 76 l2.toNat)) x33) < 64) (some (.inl (zadd x33 1), zup2 (zup2 C41 89 (y39.2.2.2).toNat (y39.2.2.1)) 89 (zadd (zmul 8 ((zup2 C41 89 (y39.2.2.2).toNat (y39.2.2.1)) 76 l2.toNat)) x33).toNat (zadd (y39.1) 1)))))))
noncomputable def d_laysHops_L60 (l1 : Int) (x27 : Int) (C29 : ZC) : Option ((Int ⊕ Unit) × ZC) :=
  if ((C29 72 2)) ≤ x27 then (some (.inr (), C29)) else (zbd (zloop (d_laysHops_L70 l1 x27) 0 C29) fun y36 C56 => some (.inl (zadd x27 1), C56))
noncomputable def d_laysHops_L52  (x21 : Int) (C23 : ZC) : Option ((Int ⊕ Unit) × ZC) :=
  if 8 ≤ x21 then (some (.inr (), C23)) else (zbd (zloop (d_laysHops_L60 x21) 0 C23) fun y30 C58 => some (.inl (zadd x21 1), C58))
noncomputable def d_laysHops  (C : ZC) : Option (Int × ZC) :=
  zbd (zloop (d_laysHops_L2) 0 C) fun y4 C20 => zbd (zloop (d_laysHops_L52) 0 C20) fun y24 C60 => some (0, C60)
set_option maxRecDepth 100000 in
theorem r_160 {d : Nat} {S : ZS} (hS : zShM S) {C : ZC} : zRq (zKv S) (d_laysHops C) (zR (d + 1) 160 0 [some (.inr (.inr (some 72))), none, none, none, none, none] [] S C) := by
  unfold d_laysHops
  refine zRq_rw (zb_160_0 hS) ?_
  refine zRq_bdf (f := (fun (xq : Unit) (jq : (Int × Option ZV × Option ZV × Option ZV × Option ZV)) (Cq : ZC) => zR (d + 1) 160 50 [some (.inr (.inr (some 72))), some (.inl (jq.1)), (jq.2.1), (jq.2.2.1), (jq.2.2.2.1), (jq.2.2.2.2)] [] S Cq)) (zRq_loop (f := (fun (xq : Int) (jq : (Option ZV × Option ZV × Option ZV × Option ZV)) (Cq : ZC) => zR (d + 1) 160 2 [some (.inr (.inr (some 72))), some (.inl xq), (jq.1), (jq.2.1), (jq.2.2.1), (jq.2.2.2)] [] S Cq)) (fun x1 j2 C3 => ?_) _ (none, none, none, none) _) (fun y4 j19 C20 => ?_)
  · unfold d_laysHops_L2
    refine zRq_rw (zb_160_2 hS) ?_
    refine zRq_ite (fun h5 => ?_) (fun h6 => ?_)
    · exact zRq_lf fun r h => h (x1, (j2.1), (j2.2.1), (j2.2.2.1), (j2.2.2.2))
    · refine zRq_rw (zb_160_8 hS) ?_
      refine zRq_bdf (f := (fun (xq : Unit) (jq : (Int × Option ZV × Option ZV × Option ZV)) (Cq : ZC) => zR (d + 1) 160 44 [some (.inr (.inr (some 72))), some (.inl x1), some (.inl (jq.1)), (jq.2.1), (jq.2.2.1), (jq.2.2.2)] [] S Cq)) (zRq_loop (f := (fun (xq : Int) (jq : (Option ZV × Option ZV × Option ZV)) (Cq : ZC) => zR (d + 1) 160 10 [some (.inr (.inr (some 72))), some (.inl x1), some (.inl xq), (jq.1), (jq.2.1), (jq.2.2)] [] S Cq)) (fun x7 j8 C9 => ?_) _ ((j2.2.1), (j2.2.2.1), (j2.2.2.2)) _) (fun y10 j17 C18 => ?_)
      · unfold d_laysHops_L10
        refine zRq_rw (zb_160_10 hS) ?_
        refine zRq_ite (fun h11 => ?_) (fun h12 => ?_)
        · exact zRq_lf fun r h => h (x7, (j8.1), (j8.2.1), (j8.2.2))
        · refine zRq_rw (zb_160_16 hS) ?_
          refine zRq_ite (fun h13 => ?_) (fun h14 => ?_)
          · refine zRq_rw (zb_160_35 hS) ?_
            refine zRq_rw (zb_160_37 hS) ?_
            refine zRq_g (fun h15 => ?_)
            exact zRq_lf fun r h => h ((j8.1), (j8.2.1), (j8.2.2))
          · refine zRq_rw (zb_160_31 hS) ?_
            refine zRq_rw (zb_160_37 hS) ?_
            refine zRq_g (fun h16 => ?_)
            exact zRq_lf fun r h => h ((j8.1), (j8.2.1), (j8.2.2))
      · refine zRq_rw (zb_160_44 hS) ?_
        exact zRq_lf fun r h => h (some (.inl (j17.1)), (j17.2.1), (j17.2.2.1), (j17.2.2.2))
  · refine zRq_rw (zb_160_50 hS) ?_
    refine zRq_bdf (f := (fun (xq : Unit) (jq : (Int × Option ZV × Option ZV × Option ZV × Option ZV)) (Cq : ZC) => zR (d + 1) 160 198 [some (.inr (.inr (some 72))), some (.inl (jq.1)), (jq.2.1), (jq.2.2.1), (jq.2.2.2.1), (jq.2.2.2.2)] [] S Cq)) (zRq_loop (f := (fun (xq : Int) (jq : (Option ZV × Option ZV × Option ZV × Option ZV)) (Cq : ZC) => zR (d + 1) 160 52 [some (.inr (.inr (some 72))), some (.inl xq), (jq.1), (jq.2.1), (jq.2.2.1), (jq.2.2.2)] [] S Cq)) (fun x21 j22 C23 => ?_) _ ((j19.2.1), (j19.2.2.1), (j19.2.2.2.1), (j19.2.2.2.2)) _) (fun y24 j59 C60 => ?_)
    · unfold d_laysHops_L52
      refine zRq_rw (zb_160_52 hS) ?_
      refine zRq_ite (fun h25 => ?_) (fun h26 => ?_)
      · exact zRq_lf fun r h => h (x21, (j22.1), (j22.2.1), (j22.2.2.1), (j22.2.2.2))
      · refine zRq_rw (zb_160_58 hS) ?_
        refine zRq_bdf (f := (fun (xq : Unit) (jq : (Int × Option ZV × Option ZV × Option ZV)) (Cq : ZC) => zR (d + 1) 160 192 [some (.inr (.inr (some 72))), some (.inl x21), some (.inl (jq.1)), (jq.2.1), (jq.2.2.1), (jq.2.2.2)] [] S Cq)) (zRq_loop (f := (fun (xq : Int) (jq : (Option ZV × Option ZV × Option ZV)) (Cq : ZC) => zR (d + 1) 160 60 [some (.inr (.inr (some 72))), some (.inl x21), some (.inl xq), (jq.1), (jq.2.1), (jq.2.2)] [] S Cq)) (fun x27 j28 C29 => ?_) _ ((j22.2.1), (j22.2.2.1), (j22.2.2.2)) _) (fun y30 j57 C58 => ?_)
        · unfold d_laysHops_L60
          refine zRq_rw (zb_160_60 hS) ?_
          refine zRq_ite (fun h31 => ?_) (fun h32 => ?_)
          · exact zRq_lf fun r h => h (x27, (j28.1), (j28.2.1), (j28.2.2))
          · refine zRq_rw (zb_160_68 hS) ?_
            refine zRq_bdf (f := (fun (xq : Unit) (jq : (Int × Option ZV × Option ZV)) (Cq : ZC) => zR (d + 1) 160 186 [some (.inr (.inr (some 72))), some (.inl x21), some (.inl x27), some (.inl (jq.1)), (jq.2.1), (jq.2.2)] [] S Cq)) (zRq_loop (f := (fun (xq : Int) (jq : (Option ZV × Option ZV)) (Cq : ZC) => zR (d + 1) 160 70 [some (.inr (.inr (some 72))), some (.inl x21), some (.inl x27), some (.inl xq), (jq.1), (jq.2)] [] S Cq)) (fun x33 j34 C35 => ?_) _ ((j28.2.1), (j28.2.2)) _) (fun y36 j55 C56 => ?_)
            · unfold d_laysHops_L70
              refine zRq_rw (zb_160_70 hS) ?_
              refine zRq_ite (fun h37 => ?_) (fun h38 => ?_)
              · exact zRq_lf fun r h => h (x33, (j34.1), (j34.2))
              · refine zRq_bdf (f := (fun (xq : (Int × Int × Int × Int)) (jq : Unit) (Cq : ZC) => zR (d + 1) 160 145 [some (.inr (.inr (some 72))), some (.inl x21), some (.inl x27), some (.inl x33), some (.inl (xq.1)), some (.inl (xq.2.1))] [.inl (xq.2.2.1), .inl (xq.2.2.2), .inr (.inr (some 89))] S Cq)) ?_ (fun y39 j40 C41 => ?_)
                · refine zRq_rw (zb_160_76 hS) ?_
                  refine zRq_g (fun h42 => ?_)
                  refine zRq_g (fun h43 => ?_)
                  refine zRq_g (fun h44 => ?_)
                  refine zRq_g (fun h45 => ?_)
                  refine zRq_g (fun h46 => ?_)
                  refine zRq_ite (fun h47 => ?_) (fun h48 => ?_)
                  · refine zRq_rw (zb_160_143 hS) ?_
                    exact zRq_lf fun r h => h ()
                  · refine zRq_rw (zb_160_136 hS) ?_
                    exact zRq_lf fun r h => h ()
                · refine zRq_rw (zb_160_145 hS) ?_
                  refine zRq_g (fun h49 => ?_)
                  refine zRq_g (fun h50 => ?_)
                  refine zRq_ite (fun h51 => ?_) (fun h52 => ?_)
                  · refine zRq_rw (zb_160_177 hS) ?_
                    refine zRq_rw (zb_160_179 hS) ?_
                    refine zRq_g (fun h53 => ?_)
                    exact zRq_lf fun r h => h (some (.inl (y39.1)), some (.inl (y39.2.1)))
                  · refine zRq_rw (zb_160_170 hS) ?_
                    refine zRq_rw (zb_160_179 hS) ?_
                    refine zRq_g (fun h54 => ?_)
                    exact zRq_lf fun r h => h (some (.inl (y39.1)), some (.inl (y39.2.1)))
            · refine zRq_rw (zb_160_186 hS) ?_
              exact zRq_lf fun r h => h (some (.inl (j55.1)), (j55.2.1), (j55.2.2))
        · refine zRq_rw (zb_160_192 hS) ?_
          exact zRq_lf fun r h => h (some (.inl (j57.1)), (j57.2.1), (j57.2.2.1), (j57.2.2.2))
    · refine zRq_rw (zb_160_198 hS) ?_
      exact zRq_rt fun r h => h
-- 161: NewOrBackModel.wolfGoes(II)I
noncomputable def d_wolfGoes_L2 (l1 : Int) (l2 : Int) (x1 : Int) (C3 : ZC) : Option ((Int ⊕ (Unit ⊕ Int)) × ZC) :=
  if ((C3 72 2)) ≤ x1 then (some (.inr (.inl ()), C3)) else (zbs (α := Unit) (zg (0 ≤ x1 ∧ x1 < 13) (if ((C3 75 x1.toNat)) = l1 then (some (.inl (), C3)) else (zg (0 ≤ x1 ∧ x1 < 13) (if ¬ ((C3 76 x1.toNat)) = l1 then (some (.inr (.inl (zadd x1 1)), C3)) else (some (.inl (), C3)))))) fun y7 C9 => zbd (d_beyond x1 l1 C9) fun v16 C17 => zg (0 ≤ (zadd (zmul 8 v16) l2) ∧ (zadd (zmul 8 v16) l2) < 64) (zg (0 ≤ (zadd (zmul 8 l1) l2) ∧ (zadd (zmul 8 l1) l2) < 64) (if ((C17 89 (zadd (zmul 8 l1) l2).toNat)) ≤ ((C17 89 (zadd (zmul 8 v16) l2).toNat)) then (some (.inl (zadd x1 1), C17)) else (some (.inr (.inr v16), C17)))))
noncomputable def d_wolfGoes (l1 : Int) (l2 : Int) (C : ZC) : Option (Int × ZC) :=
  zbs (zloop (d_wolfGoes_L2 l1 l2) 0 C) fun y4 C23 => some (l1, C23)
set_option maxRecDepth 100000 in
theorem r_161 {d : Nat} {S : ZS} (hS : zShM S) {l1 : Int} {l2 : Int} {C : ZC} : zRq (zKi S) (d_wolfGoes l1 l2 C) (zR (d + 2) 161 0 [some (.inr (.inr (some 72))), some (.inl l1), some (.inl l2), none, none] [] S C) := by
  unfold d_wolfGoes
  refine zRq_rw (zb_161_0 hS) ?_
  refine zRq_bsf (f := (fun (xq : Unit) (jq : (Int × Option ZV)) (Cq : ZC) => zR (d + 2) 161 73 [some (.inr (.inr (some 72))), some (.inl l1), some (.inl l2), some (.inl (jq.1)), (jq.2)] [] S Cq)) (zRq_loop (f := (fun (xq : Int) (jq : Option ZV) (Cq : ZC) => zR (d + 2) 161 2 [some (.inr (.inr (some 72))), some (.inl l1), some (.inl l2), some (.inl xq), jq] [] S Cq)) (fun x1 j2 C3 => ?_) _ none _) (fun y4 j22 C23 => ?_)
  · unfold d_wolfGoes_L2
    refine zRq_rw (zb_161_2 hS) ?_
    refine zRq_ite (fun h5 => ?_) (fun h6 => ?_)
    · exact zRq_lf fun r h => h (x1, j2)
    · refine zRq_bsf (f := (fun (xq : Unit) (jq : Option ZV) (Cq : ZC) => zR (d + 2) 161 30 [some (.inr (.inr (some 72))), some (.inl l1), some (.inl l2), some (.inl x1), jq] [] S Cq)) ?_ (fun y7 j8 C9 => ?_)
      · refine zRq_rw (zb_161_10 hS) ?_
        refine zRq_g (fun h10 => ?_)
        refine zRq_ite (fun h11 => ?_) (fun h12 => ?_)
        · exact zRq_lf fun r h => h j2
        · refine zRq_rw (zb_161_20 hS) ?_
          refine zRq_g (fun h13 => ?_)
          refine zRq_ite (fun h14 => ?_) (fun h15 => ?_)
          · refine zRq_rw (zb_161_67 hS) ?_
            exact zRq_lf fun r h => h j2
          · exact zRq_lf fun r h => h j2
      · refine zRq_rw (zb_161_30 hS) ?_
        refine zRq_ci (r_121 hS) (fun v16 C17 => ?_)
        refine zRq_rw (zb_161_36 hS) ?_
        refine zRq_g (fun h18 => ?_)
        refine zRq_g (fun h19 => ?_)
        refine zRq_ite (fun h20 => ?_) (fun h21 => ?_)
        · refine zRq_rw (zb_161_67 hS) ?_
          exact zRq_lf fun r h => h (some (.inl v16))
        · refine zRq_rw (zb_161_64 hS) ?_
          exact zRq_rt fun r h => h
  · refine zRq_rw (zb_161_73 hS) ?_
    exact zRq_rt fun r h => h
-- 162: NewOrBackModel.sheet(III)I
noncomputable def d_sheet_L59 (l1 : Int) (l3 : Int) (x16 : Int) (C18 : ZC) : Option ((Int ⊕ Unit) × ZC) :=
  if 48 ≤ x16 then (some (.inr (), C18)) else (zg (0 ≤ (zadd (zmul 48 l1) x16) ∧ (zadd (zmul 48 l1) x16) < 192) (some (.inl (zadd x16 1), zup2 C18 94 (zadd (zmul 48 l1) x16).toNat 0)))
noncomputable def d_sheet (l1 : Int) (l2 : Int) (l3 : Int) (C : ZC) : Option (Int × ZC) :=
  zbd (d_isSheet l1 C) fun v1 C2 => if v1 = 0 then (some ((-2), C2)) else (zbd (d_in l2 0 2 C2) fun v5 C6 => if v5 = 0 then (some ((-2), C6)) else (if l3 ≤ 48 then (if 0 ≤ l3 then (zg (0 ≤ l1 ∧ l1 < 4) (zg (0 ≤ l1 ∧ l1 < 4) (zg (0 ≤ l1 ∧ l1 < 4) (zbd (zloop (d_sheet_L59 l1 l3) 0 (zup2 (zup2 (zup2 C6 91 l1.toNat 1) 92 l1.toNat l2) 93 l1.toNat l3)) fun y19 C24 => some (l3, C24))))) else (zbd (d_meets 5 C6) fun v25 C26 => some (v25, C26))) else (some ((-2), C6))))
set_option maxRecDepth 100000 in
theorem r_162 {d : Nat} {S : ZS} (hS : zShM S) {l1 : Int} {l2 : Int} {l3 : Int} {C : ZC} : zRq (zKi S) (d_sheet l1 l2 l3 C) (zR (d + 3) 162 0 [some (.inr (.inr (some 72))), some (.inl l1), some (.inl l2), some (.inl l3), none] [] S C) := by
  unfold d_sheet
  refine zRq_rw (zb_162_0 hS) ?_
  refine zRq_ci (r_112 hS) (fun v1 C2 => ?_)
  refine zRq_rw (zb_162_4 hS) ?_
  refine zRq_ite (fun h3 => ?_) (fun h4 => ?_)
  · refine zRq_rw (zb_162_22 hS) ?_
    exact zRq_rt fun r h => h
  · refine zRq_rw (zb_162_7 hS) ?_
    refine zRq_ci (r_101 hS) (fun v5 C6 => ?_)
    refine zRq_rw (zb_162_13 hS) ?_
    refine zRq_ite (fun h7 => ?_) (fun h8 => ?_)
    · refine zRq_rw (zb_162_22 hS) ?_
      exact zRq_rt fun r h => h
    · refine zRq_rw (zb_162_16 hS) ?_
      refine zRq_ite (fun h9 => ?_) (fun h10 => ?_)
      · refine zRq_rw (zb_162_25 hS) ?_
        refine zRq_ite (fun h11 => ?_) (fun h12 => ?_)
        · refine zRq_rw (zb_162_35 hS) ?_
          refine zRq_g (fun h13 => ?_)
          refine zRq_g (fun h14 => ?_)
          refine zRq_g (fun h15 => ?_)
          refine zRq_bdf (f := (fun (xq : Unit) (jq : Int) (Cq : ZC) => zR (d + 3) 162 85 [some (.inr (.inr (some 72))), some (.inl l1), some (.inl l2), some (.inl l3), some (.inl jq)] [] S Cq)) (zRq_loop (f := (fun (xq : Int) (jq : Unit) (Cq : ZC) => zR (d + 3) 162 59 [some (.inr (.inr (some 72))), some (.inl l1), some (.inl l2), some (.inl l3), some (.inl xq)] [] S Cq)) (fun x16 j17 C18 => ?_) _ () _) (fun y19 j23 C24 => ?_)
          · unfold d_sheet_L59
            refine zRq_rw (zb_162_59 hS) ?_
            refine zRq_ite (fun h20 => ?_) (fun h21 => ?_)
            · exact zRq_lf fun r h => h x16
            · refine zRq_rw (zb_162_66 hS) ?_
              refine zRq_g (fun h22 => ?_)
              exact zRq_lf fun r h => h ()
          · refine zRq_rw (zb_162_85 hS) ?_
            exact zRq_rt fun r h => h
        · refine zRq_rw (zb_162_29 hS) ?_
          refine zRq_ci (r_113 hS) (fun v25 C26 => ?_)
          refine zRq_rw (zb_162_34 hS) ?_
          exact zRq_rt fun r h => h
      · refine zRq_rw (zb_162_22 hS) ?_
        exact zRq_rt fun r h => h
-- 163: NewOrBackModel.lose(I)I
noncomputable def d_lose (l1 : Int) (C : ZC) : Option (Int × ZC) :=
  zbd (d_isSheet l1 C) fun v1 C2 => if ¬ v1 = 0 then (zg (0 ≤ l1 ∧ l1 < 4) (if ¬ ((C2 91 l1.toNat)) = 0 then (zg (0 ≤ l1 ∧ l1 < 4) (zg (0 ≤ l1 ∧ l1 < 4) (some (((zup2 C2 91 l1.toNat 0) 93 l1.toNat), zup2 C2 91 l1.toNat 0)))) else (zbd (d_meets 1 C2) fun v10 C11 => some (v10, C11)))) else (some ((-2), C2))
set_option maxRecDepth 100000 in
theorem r_163 {d : Nat} {S : ZS} (hS : zShM S) {l1 : Int} {C : ZC} : zRq (zKi S) (d_lose l1 C) (zR (d + 3) 163 0 [some (.inr (.inr (some 72))), some (.inl l1)] [] S C) := by
  unfold d_lose
  refine zRq_rw (zb_163_0 hS) ?_
  refine zRq_ci (r_112 hS) (fun v1 C2 => ?_)
  refine zRq_rw (zb_163_4 hS) ?_
  refine zRq_ite (fun h3 => ?_) (fun h4 => ?_)
  · refine zRq_rw (zb_163_10 hS) ?_
    refine zRq_g (fun h5 => ?_)
    refine zRq_ite (fun h6 => ?_) (fun h7 => ?_)
    · refine zRq_rw (zb_163_25 hS) ?_
      refine zRq_g (fun h8 => ?_)
      refine zRq_g (fun h9 => ?_)
      exact zRq_rt fun r h => h
    · refine zRq_rw (zb_163_19 hS) ?_
      refine zRq_ci (r_113 hS) (fun v10 C11 => ?_)
      refine zRq_rw (zb_163_24 hS) ?_
      exact zRq_rt fun r h => h
  · refine zRq_rw (zb_163_7 hS) ?_
    exact zRq_rt fun r h => h
-- 165: NewOrBackModel.lacks(III)I
noncomputable def d_lacks (l1 : Int) (l2 : Int) (l3 : Int) (C : ZC) : Option (Int × ZC) :=
  zg (0 ≤ l1 ∧ l1 < 4) (if ¬ ((C 91 l1.toNat)) = 0 then (zg (0 ≤ l1 ∧ l1 < 4) (if ((C 92 l1.toNat)) = l2 then (zg (0 ≤ l1 ∧ l1 < 4) (zbd (d_in l3 0 (zsub (C 93 l1.toNat) 1) C) fun v8 C9 => if v8 = 0 then (some (2, C9)) else (some (0, C9)))) else (some (3, C)))) else (some (1, C)))
set_option maxRecDepth 100000 in
theorem r_165 {d : Nat} {S : ZS} (hS : zShM S) {l1 : Int} {l2 : Int} {l3 : Int} {C : ZC} : zRq (zKi S) (d_lacks l1 l2 l3 C) (zR (d + 2) 165 0 [some (.inr (.inr (some 72))), some (.inl l1), some (.inl l2), some (.inl l3)] [] S C) := by
  unfold d_lacks
  refine zRq_rw (zb_165_0 hS) ?_
  refine zRq_g (fun h1 => ?_)
  refine zRq_ite (fun h2 => ?_) (fun h3 => ?_)
  · refine zRq_rw (zb_165_13 hS) ?_
    refine zRq_g (fun h4 => ?_)
    refine zRq_ite (fun h5 => ?_) (fun h6 => ?_)
    · refine zRq_rw (zb_165_27 hS) ?_
      refine zRq_g (fun h7 => ?_)
      refine zRq_ci (r_101 hS) (fun v8 C9 => ?_)
      refine zRq_rw (zb_165_40 hS) ?_
      refine zRq_ite (fun h10 => ?_) (fun h11 => ?_)
      · refine zRq_rw (zb_165_47 hS) ?_
        refine zRq_rw (zb_165_48 hS) ?_
        exact zRq_rt fun r h => h
      · refine zRq_rw (zb_165_43 hS) ?_
        refine zRq_rw (zb_165_48 hS) ?_
        exact zRq_rt fun r h => h
    · refine zRq_rw (zb_165_23 hS) ?_
      refine zRq_rw (zb_165_48 hS) ?_
      exact zRq_rt fun r h => h
  · refine zRq_rw (zb_165_9 hS) ?_
    refine zRq_rw (zb_165_48 hS) ?_
    exact zRq_rt fun r h => h
-- 166: NewOrBackModel.keep(III)V
noncomputable def d_keep (l1 : Int) (l2 : Int) (l3 : Int) (C : ZC) : Option (Int × ZC) :=
  zg (0 ≤ l1 ∧ l1 < 4) (if ¬ ((C 92 l1.toNat)) = 0 then (zg (0 ≤ l1 ∧ l1 < 4) (if ¬ ((C 92 l1.toNat)) = 1 then (zg (0 ≤ (zadd (zmul 48 l1) l2) ∧ (zadd (zmul 48 l1) l2) < 192) (some (0, zup2 C 94 (zadd (zmul 48 l1) l2).toNat l3))) else (zg (0 ≤ (zadd (zmul 48 l1) l2) ∧ (zadd (zmul 48 l1) l2) < 192) (some (0, zup2 C 94 (zadd (zmul 48 l1) l2).toNat (zi2s l3)))))) else (zg (0 ≤ (zadd (zmul 48 l1) l2) ∧ (zadd (zmul 48 l1) l2) < 192) (some (0, zup2 C 94 (zadd (zmul 48 l1) l2).toNat (zi2b l3)))))
set_option maxRecDepth 100000 in
theorem r_166 {d : Nat} {S : ZS} (hS : zShM S) {l1 : Int} {l2 : Int} {l3 : Int} {C : ZC} : zRq (zKv S) (d_keep l1 l2 l3 C) (zR (d + 1) 166 0 [some (.inr (.inr (some 72))), some (.inl l1), some (.inl l2), some (.inl l3)] [] S C) := by
  unfold d_keep
  refine zRq_rw (zb_166_0 hS) ?_
  refine zRq_g (fun h1 => ?_)
  refine zRq_ite (fun h2 => ?_) (fun h3 => ?_)
  · refine zRq_rw (zb_166_24 hS) ?_
    refine zRq_g (fun h4 => ?_)
    refine zRq_ite (fun h5 => ?_) (fun h6 => ?_)
    · refine zRq_rw (zb_166_39 hS) ?_
      refine zRq_rw (zb_166_40 hS) ?_
      refine zRq_g (fun h7 => ?_)
      exact zRq_rt fun r h => h
    · refine zRq_rw (zb_166_34 hS) ?_
      refine zRq_rw (zb_166_40 hS) ?_
      refine zRq_g (fun h8 => ?_)
      exact zRq_rt fun r h => h
  · refine zRq_rw (zb_166_19 hS) ?_
    refine zRq_rw (zb_166_40 hS) ?_
    refine zRq_g (fun h9 => ?_)
    exact zRq_rt fun r h => h
-- 164: NewOrBackModel.put(IIII)I
noncomputable def d_put (l1 : Int) (l2 : Int) (l3 : Int) (l4 : Int) (C : ZC) : Option (Int × ZC) :=
  zbd (d_isSheet l1 C) fun v1 C2 => if v1 = 0 then (some ((-2), C2)) else (zbd (d_in l2 0 2 C2) fun v5 C6 => if ¬ v5 = 0 then (zbd (d_lacks l1 l2 l3 C6) fun v9 C10 => if v9 ≤ 0 then (zbd (d_keep l1 l3 l4 C10) fun v13 C14 => some (1, C14)) else (zbd (d_meets v9 C10) fun v15 C16 => some (v15, C16))) else (some ((-2), C6)))
set_option maxRecDepth 100000 in
theorem r_164 {d : Nat} {S : ZS} (hS : zShM S) {l1 : Int} {l2 : Int} {l3 : Int} {l4 : Int} {C : ZC} : zRq (zKi S) (d_put l1 l2 l3 l4 C) (zR (d + 3) 164 0 [some (.inr (.inr (some 72))), some (.inl l1), some (.inl l2), some (.inl l3), some (.inl l4), none] [] S C) := by
  unfold d_put
  refine zRq_rw (zb_164_0 hS) ?_
  refine zRq_ci (r_112 hS) (fun v1 C2 => ?_)
  refine zRq_rw (zb_164_4 hS) ?_
  refine zRq_ite (fun h3 => ?_) (fun h4 => ?_)
  · refine zRq_rw (zb_164_16 hS) ?_
    exact zRq_rt fun r h => h
  · refine zRq_rw (zb_164_7 hS) ?_
    refine zRq_ci (r_101 hS) (fun v5 C6 => ?_)
    refine zRq_rw (zb_164_13 hS) ?_
    refine zRq_ite (fun h7 => ?_) (fun h8 => ?_)
    · refine zRq_rw (zb_164_19 hS) ?_
      refine zRq_ci (r_165 hS) (fun v9 C10 => ?_)
      refine zRq_rw (zb_164_26 hS) ?_
      refine zRq_ite (fun h11 => ?_) (fun h12 => ?_)
      · refine zRq_rw (zb_164_40 hS) ?_
        refine zRq_cv (r_166 hS) (fun v13 C14 => ?_)
        refine zRq_rw (zb_164_48 hS) ?_
        exact zRq_rt fun r h => h
      · refine zRq_rw (zb_164_33 hS) ?_
        refine zRq_ci (r_113 hS) (fun v15 C16 => ?_)
        refine zRq_rw (zb_164_39 hS) ?_
        exact zRq_rt fun r h => h
    · refine zRq_rw (zb_164_16 hS) ?_
      exact zRq_rt fun r h => h
-- 167: NewOrBackModel.get(III)I
noncomputable def d_get (l1 : Int) (l2 : Int) (l3 : Int) (C : ZC) : Option (Int × ZC) :=
  zbd (d_isSheet l1 C) fun v1 C2 => if v1 = 0 then (some ((-2147483648), C2)) else (zbd (d_in l2 0 2 C2) fun v5 C6 => if ¬ v5 = 0 then (zbd (d_lacks l1 l2 l3 C6) fun v9 C10 => if v9 ≤ 0 then (zg (0 ≤ (zadd (zmul 48 l1) l3) ∧ (zadd (zmul 48 l1) l3) < 192) (some ((C10 94 (zadd (zmul 48 l1) l3).toNat), C10))) else (some ((-2147483648), zup2 C10 72 33 v9))) else (some ((-2147483648), C6)))
set_option maxRecDepth 100000 in
theorem r_167 {d : Nat} {S : ZS} (hS : zShM S) {l1 : Int} {l2 : Int} {l3 : Int} {C : ZC} : zRq (zKi S) (d_get l1 l2 l3 C) (zR (d + 3) 167 0 [some (.inr (.inr (some 72))), some (.inl l1), some (.inl l2), some (.inl l3), none] [] S C) := by
  unfold d_get
  refine zRq_rw (zb_167_0 hS) ?_
  refine zRq_ci (r_112 hS) (fun v1 C2 => ?_)
  refine zRq_rw (zb_167_4 hS) ?_
  refine zRq_ite (fun h3 => ?_) (fun h4 => ?_)
  · refine zRq_rw (zb_167_16 hS) ?_
    exact zRq_rt fun r h => h
  · refine zRq_rw (zb_167_7 hS) ?_
    refine zRq_ci (r_101 hS) (fun v5 C6 => ?_)
    refine zRq_rw (zb_167_13 hS) ?_
    refine zRq_ite (fun h7 => ?_) (fun h8 => ?_)
    · refine zRq_rw (zb_167_19 hS) ?_
      refine zRq_ci (r_165 hS) (fun v9 C10 => ?_)
      refine zRq_rw (zb_167_26 hS) ?_
      refine zRq_ite (fun h11 => ?_) (fun h12 => ?_)
      · refine zRq_rw (zb_167_42 hS) ?_
        refine zRq_g (fun h13 => ?_)
        exact zRq_rt fun r h => h
      · refine zRq_rw (zb_167_33 hS) ?_
        exact zRq_rt fun r h => h
    · refine zRq_rw (zb_167_16 hS) ?_
      exact zRq_rt fun r h => h
-- 168: NewOrBackModel.copy(IIIII)I
noncomputable def d_copy_L120 (l1 : Int) (l2 : Int) (l3 : Int) (l4 : Int) (l5 : Int) (x41 : Int) (C43 : ZC) : Option ((Int ⊕ Unit) × ZC) :=
  if l5 ≤ x41 then (some (.inr (), C43)) else (zg (0 ≤ (zadd (zadd (zmul 48 l1) l2) x41) ∧ (zadd (zadd (zmul 48 l1) l2) x41) < 192) (zg (0 ≤ x41 ∧ x41 < 48) (some (.inl (zadd x41 1), zup2 C43 95 x41.toNat (C43 94 (zadd (zadd (zmul 48 l1) l2) x41).toNat)))))
noncomputable def d_copy_L157 (l3 : Int) (l4 : Int) (l5 : Int) (x51 : Int) (C53 : ZC) : Option ((Int ⊕ Unit) × ZC) :=
  if l5 ≤ x51 then (some (.inr (), C53)) else (zg (0 ≤ x51 ∧ x51 < 48) (zg (0 ≤ (zadd (zadd (zmul 48 l3) l4) x51) ∧ (zadd (zadd (zmul 48 l3) l4) x51) < 192) (some (.inl (zadd x51 1), zup2 C53 94 (zadd (zadd (zmul 48 l3) l4) x51).toNat (C53 95 x51.toNat)))))
noncomputable def d_copy (l1 : Int) (l2 : Int) (l3 : Int) (l4 : Int) (l5 : Int) (C : ZC) : Option (Int × ZC) :=
  zbd (d_isSheet l1 C) fun v1 C2 => if v1 = 0 then (some ((-2), C2)) else (zbd (d_isSheet l3 C2) fun v5 C6 => if ¬ v5 = 0 then (zg (0 ≤ l1 ∧ l1 < 4) (if ((C6 91 l1.toNat)) = 0 then (zbd (d_meets 1 C6) fun v12 C13 => some (v12, C13)) else (zg (0 ≤ l3 ∧ l3 < 4) (if ¬ ((C6 91 l3.toNat)) = 0 then (zg (0 ≤ l1 ∧ l1 < 4) (zg (0 ≤ l3 ∧ l3 < 4) (if ((C6 92 l1.toNat)) = ((C6 92 l3.toNat)) then (if l2 < 0 then (zbd (d_meets 2 C6) fun v23 C24 => some (v23, C24)) else (if l4 < 0 then (zbd (d_meets 2 C6) fun v27 C28 => some (v27, C28)) else (if l5 < 0 then (zbd (d_meets 2 C6) fun v31 C32 => some (v31, C32)) else (zg (0 ≤ l1 ∧ l1 < 4) (if 0 < ((if (C6 93 l1.toNat) < (zladd l2 l5) then 1 else if (zladd l2 l5) = (C6 93 l1.toNat) then 0 else -1)) then (zbd (d_meets 2 C6) fun v36 C37 => some (v36, C37)) else (zg (0 ≤ l3 ∧ l3 < 4) (if ((if (C6 93 l3.toNat) < (zladd l4 l5) then 1 else if (zladd l4 l5) = (C6 93 l3.toNat) then 0 else -1)) ≤ 0 then (zbd (zloop (d_copy_L120 l1 l2 l3 l4 l5) 0 C6) fun y44 C50 => zbd (zloop (d_copy_L157 l3 l4 l5) 0 C50) fun y54 C60 => some (1, C60)) else (zbd (d_meets 2 C6) fun v61 C62 => some (v61, C62))))))))) else (zbd (d_meets 4 C6) fun v63 C64 => some (v63, C64))))) else (zbd (d_meets 1 C6) fun v65 C66 => some (v65, C66)))))) else (some ((-2), C6)))
set_option maxRecDepth 100000 in
theorem r_168 {d : Nat} {S : ZS} (hS : zShM S) {l1 : Int} {l2 : Int} {l3 : Int} {l4 : Int} {l5 : Int} {C : ZC} : zRq (zKi S) (d_copy l1 l2 l3 l4 l5 C) (zR (d + 3) 168 0 [some (.inr (.inr (some 72))), some (.inl l1), some (.inl l2), some (.inl l3), some (.inl l4), some (.inl l5), none] [] S C) := by
  unfold d_copy
  refine zRq_rw (zb_168_0 hS) ?_
  refine zRq_ci (r_112 hS) (fun v1 C2 => ?_)
  refine zRq_rw (zb_168_4 hS) ?_
  refine zRq_ite (fun h3 => ?_) (fun h4 => ?_)
  · refine zRq_rw (zb_168_14 hS) ?_
    exact zRq_rt fun r h => h
  · refine zRq_rw (zb_168_7 hS) ?_
    refine zRq_ci (r_112 hS) (fun v5 C6 => ?_)
    refine zRq_rw (zb_168_11 hS) ?_
    refine zRq_ite (fun h7 => ?_) (fun h8 => ?_)
    · refine zRq_rw (zb_168_17 hS) ?_
      refine zRq_g (fun h9 => ?_)
      refine zRq_ite (fun h10 => ?_) (fun h11 => ?_)
      · refine zRq_rw (zb_168_35 hS) ?_
        refine zRq_ci (r_113 hS) (fun v12 C13 => ?_)
        refine zRq_rw (zb_168_40 hS) ?_
        exact zRq_rt fun r h => h
      · refine zRq_rw (zb_168_26 hS) ?_
        refine zRq_g (fun h14 => ?_)
        refine zRq_ite (fun h15 => ?_) (fun h16 => ?_)
        · refine zRq_rw (zb_168_41 hS) ?_
          refine zRq_g (fun h17 => ?_)
          refine zRq_g (fun h18 => ?_)
          refine zRq_ite (fun h19 => ?_) (fun h20 => ?_)
          · refine zRq_rw (zb_168_62 hS) ?_
            refine zRq_ite (fun h21 => ?_) (fun h22 => ?_)
            · refine zRq_rw (zb_168_111 hS) ?_
              refine zRq_ci (r_113 hS) (fun v23 C24 => ?_)
              refine zRq_rw (zb_168_116 hS) ?_
              exact zRq_rt fun r h => h
            · refine zRq_rw (zb_168_66 hS) ?_
              refine zRq_ite (fun h25 => ?_) (fun h26 => ?_)
              · refine zRq_rw (zb_168_111 hS) ?_
                refine zRq_ci (r_113 hS) (fun v27 C28 => ?_)
                refine zRq_rw (zb_168_116 hS) ?_
                exact zRq_rt fun r h => h
              · refine zRq_rw (zb_168_71 hS) ?_
                refine zRq_ite (fun h29 => ?_) (fun h30 => ?_)
                · refine zRq_rw (zb_168_111 hS) ?_
                  refine zRq_ci (r_113 hS) (fun v31 C32 => ?_)
                  refine zRq_rw (zb_168_116 hS) ?_
                  exact zRq_rt fun r h => h
                · refine zRq_rw (zb_168_76 hS) ?_
                  refine zRq_g (fun h33 => ?_)
                  refine zRq_ite (fun h34 => ?_) (fun h35 => ?_)
                  · refine zRq_rw (zb_168_111 hS) ?_
                    refine zRq_ci (r_113 hS) (fun v36 C37 => ?_)
                    refine zRq_rw (zb_168_116 hS) ?_
                    exact zRq_rt fun r h => h
                  · refine zRq_rw (zb_168_93 hS) ?_
                    refine zRq_g (fun h38 => ?_)
                    refine zRq_ite (fun h39 => ?_) (fun h40 => ?_)
                    · refine zRq_rw (zb_168_117 hS) ?_
                      refine zRq_bdf (f := (fun (xq : Unit) (jq : Int) (Cq : ZC) => zR (d + 3) 168 154 [some (.inr (.inr (some 72))), some (.inl l1), some (.inl l2), some (.inl l3), some (.inl l4), some (.inl l5), some (.inl jq)] [] S Cq)) (zRq_loop (f := (fun (xq : Int) (jq : Unit) (Cq : ZC) => zR (d + 3) 168 120 [some (.inr (.inr (some 72))), some (.inl l1), some (.inl l2), some (.inl l3), some (.inl l4), some (.inl l5), some (.inl xq)] [] S Cq)) (fun x41 j42 C43 => ?_) _ () _) (fun y44 j49 C50 => ?_)
                      · unfold d_copy_L120
                        refine zRq_rw (zb_168_120 hS) ?_
                        refine zRq_ite (fun h45 => ?_) (fun h46 => ?_)
                        · exact zRq_lf fun r h => h x41
                        · refine zRq_rw (zb_168_127 hS) ?_
                          refine zRq_g (fun h47 => ?_)
                          refine zRq_g (fun h48 => ?_)
                          exact zRq_lf fun r h => h ()
                      · refine zRq_rw (zb_168_154 hS) ?_
                        refine zRq_bdf (f := (fun (xq : Unit) (jq : Int) (Cq : ZC) => zR (d + 3) 168 192 [some (.inr (.inr (some 72))), some (.inl l1), some (.inl l2), some (.inl l3), some (.inl l4), some (.inl l5), some (.inl jq)] [] S Cq)) (zRq_loop (f := (fun (xq : Int) (jq : Unit) (Cq : ZC) => zR (d + 3) 168 157 [some (.inr (.inr (some 72))), some (.inl l1), some (.inl l2), some (.inl l3), some (.inl l4), some (.inl l5), some (.inl xq)] [] S Cq)) (fun x51 j52 C53 => ?_) _ () _) (fun y54 j59 C60 => ?_)
                        · unfold d_copy_L157
                          refine zRq_rw (zb_168_157 hS) ?_
                          refine zRq_ite (fun h55 => ?_) (fun h56 => ?_)
                          · exact zRq_lf fun r h => h x51
                          · refine zRq_rw (zb_168_164 hS) ?_
                            refine zRq_g (fun h57 => ?_)
                            refine zRq_g (fun h58 => ?_)
                            exact zRq_lf fun r h => h ()
                        · refine zRq_rw (zb_168_192 hS) ?_
                          exact zRq_rt fun r h => h
                    · refine zRq_rw (zb_168_111 hS) ?_
                      refine zRq_ci (r_113 hS) (fun v61 C62 => ?_)
                      refine zRq_rw (zb_168_116 hS) ?_
                      exact zRq_rt fun r h => h
          · refine zRq_rw (zb_168_56 hS) ?_
            refine zRq_ci (r_113 hS) (fun v63 C64 => ?_)
            refine zRq_rw (zb_168_61 hS) ?_
            exact zRq_rt fun r h => h
        · refine zRq_rw (zb_168_35 hS) ?_
          refine zRq_ci (r_113 hS) (fun v65 C66 => ?_)
          refine zRq_rw (zb_168_40 hS) ?_
          exact zRq_rt fun r h => h
    · refine zRq_rw (zb_168_14 hS) ?_
      exact zRq_rt fun r h => h
-- 169: NewOrBackModel.write(II)I
noncomputable def d_write_L34 (l1 : Int) (l2 : Int) (x12 : Int) (C14 : ZC) : Option ((Int ⊕ Int) × ZC) :=
  zg (0 ≤ l2 ∧ l2 < 4) (if ((C14 93 l2.toNat)) ≤ x12 then (some (.inr x12, C14)) else (if 8 ≤ x12 then (some (.inr x12, C14)) else (zbd (d_soonOf l1 x12 C14) fun v21 C22 => zbd (d_keep l2 x12 v21 C22) fun v23 C24 => some (.inl (zadd x12 1), C24))))
noncomputable def d_write (l1 : Int) (l2 : Int) (C : ZC) : Option (Int × ZC) :=
  zbd (d_isWalker l1 C) fun v1 C2 => if v1 = 0 then (some ((-2), C2)) else (zbd (d_isSheet l2 C2) fun v5 C6 => if ¬ v5 = 0 then (zg (0 ≤ l2 ∧ l2 < 4) (if ¬ ((C6 91 l2.toNat)) = 0 then (zbd (zloop (d_write_L34 l1 l2) 0 C6) fun y15 C26 => some (y15, C26)) else (zbd (d_meets 1 C6) fun v27 C28 => some (v27, C28)))) else (some ((-2), C6)))
set_option maxRecDepth 100000 in
theorem r_169 {d : Nat} {S : ZS} (hS : zShM S) {l1 : Int} {l2 : Int} {C : ZC} : zRq (zKi S) (d_write l1 l2 C) (zR (d + 6) 169 0 [some (.inr (.inr (some 72))), some (.inl l1), some (.inl l2), none] [] S C) := by
  unfold d_write
  refine zRq_rw (zb_169_0 hS) ?_
  refine zRq_ci (r_109 hS) (fun v1 C2 => ?_)
  refine zRq_rw (zb_169_4 hS) ?_
  refine zRq_ite (fun h3 => ?_) (fun h4 => ?_)
  · refine zRq_rw (zb_169_14 hS) ?_
    exact zRq_rt fun r h => h
  · refine zRq_rw (zb_169_7 hS) ?_
    refine zRq_ci (r_112 hS) (fun v5 C6 => ?_)
    refine zRq_rw (zb_169_11 hS) ?_
    refine zRq_ite (fun h7 => ?_) (fun h8 => ?_)
    · refine zRq_rw (zb_169_17 hS) ?_
      refine zRq_g (fun h9 => ?_)
      refine zRq_ite (fun h10 => ?_) (fun h11 => ?_)
      · refine zRq_rw (zb_169_32 hS) ?_
        refine zRq_bdf (f := (fun (xq : Int) (jq : Unit) (Cq : ZC) => zR (d + 6) 169 68 [some (.inr (.inr (some 72))), some (.inl l1), some (.inl l2), some (.inl xq)] [] S Cq)) (zRq_loop (f := (fun (xq : Int) (jq : Unit) (Cq : ZC) => zR (d + 6) 169 34 [some (.inr (.inr (some 72))), some (.inl l1), some (.inl l2), some (.inl xq)] [] S Cq)) (fun x12 j13 C14 => ?_) _ () _) (fun y15 j25 C26 => ?_)
        · unfold d_write_L34
          refine zRq_rw (zb_169_34 hS) ?_
          refine zRq_g (fun h16 => ?_)
          refine zRq_ite (fun h17 => ?_) (fun h18 => ?_)
          · exact zRq_lf fun r h => h ()
          · refine zRq_rw (zb_169_44 hS) ?_
            refine zRq_ite (fun h19 => ?_) (fun h20 => ?_)
            · exact zRq_lf fun r h => h ()
            · refine zRq_rw (zb_169_50 hS) ?_
              refine zRq_ci (r_132 hS) (fun v21 C22 => ?_)
              refine zRq_rw (zb_169_59 hS) ?_
              refine zRq_cv (r_166 hS) (fun v23 C24 => ?_)
              refine zRq_rw (zb_169_62 hS) ?_
              exact zRq_lf fun r h => h ()
        · refine zRq_rw (zb_169_68 hS) ?_
          exact zRq_rt fun r h => h
      · refine zRq_rw (zb_169_26 hS) ?_
        refine zRq_ci (r_113 hS) (fun v27 C28 => ?_)
        refine zRq_rw (zb_169_31 hS) ?_
        exact zRq_rt fun r h => h
    · refine zRq_rw (zb_169_14 hS) ?_
      exact zRq_rt fun r h => h
-- 171: NewOrBackModel.sumOf(I)I
noncomputable def d_sumOf_L10 (l1 : Int) (x3 : (Int × Int)) (C5 : ZC) : Option (((Int × Int) ⊕ Int) × ZC) :=
  if ((C5 72 2)) ≤ ((x3.2)) then (some (.inr (x3.1), C5)) else (zg (0 ≤ (x3.2) ∧ (x3.2) < 13) (some (.inl ((zadd (x3.1) (C5 77 (x3.2).toNat)), (zadd (x3.2) 1)), C5)))
noncomputable def d_sumOf (l1 : Int) (C : ZC) : Option (Int × ZC) :=
  zbd (d_faultNow C) fun v1 C2 => zbd (zloop (d_sumOf_L10 l1) (0, 0) C2) fun y6 C11 => if ¬ l1 = 0 then (some (y6, C11)) else (some ((C11 72 2), C11))
set_option maxRecDepth 100000 in
theorem r_171 {d : Nat} {S : ZS} (hS : zShM S) {l1 : Int} {C : ZC} : zRq (zKi S) (d_sumOf l1 C) (zR (d + 4) 171 0 [some (.inr (.inr (some 72))), some (.inl l1), none, none, none] [] S C) := by
  unfold d_sumOf
  refine zRq_rw (zb_171_0 hS) ?_
  refine zRq_ci (r_104 hS) (fun v1 C2 => ?_)
  refine zRq_rw (zb_171_4 hS) ?_
  refine zRq_bdf (f := (fun (xq : Int) (jq : Int) (Cq : ZC) => zR (d + 4) 171 35 [some (.inr (.inr (some 72))), some (.inl l1), some (.inl v1), some (.inl xq), some (.inl jq)] [] S Cq)) (zRq_loop (f := (fun (xq : (Int × Int)) (jq : Unit) (Cq : ZC) => zR (d + 4) 171 10 [some (.inr (.inr (some 72))), some (.inl l1), some (.inl v1), some (.inl (xq.1)), some (.inl (xq.2))] [] S Cq)) (fun x3 j4 C5 => ?_) _ () _) (fun y6 j10 C11 => ?_)
  · unfold d_sumOf_L10
    refine zRq_rw (zb_171_10 hS) ?_
    refine zRq_ite (fun h7 => ?_) (fun h8 => ?_)
    · exact zRq_lf fun r h => h (x3.2)
    · refine zRq_rw (zb_171_19 hS) ?_
      refine zRq_g (fun h9 => ?_)
      exact zRq_lf fun r h => h ()
  · refine zRq_rw (zb_171_35 hS) ?_
    refine zRq_ite (fun h12 => ?_) (fun h13 => ?_)
    · refine zRq_rw (zb_171_46 hS) ?_
      refine zRq_rw (zb_171_47 hS) ?_
      exact zRq_rt fun r h => h
    · refine zRq_rw (zb_171_39 hS) ?_
      refine zRq_rw (zb_171_47 hS) ?_
      exact zRq_rt fun r h => h

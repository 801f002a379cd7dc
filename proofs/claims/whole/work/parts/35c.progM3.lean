/-! Layer 2: the methods as programs over the ints (written by wip/whole/gend.py) -/
-- 154: NewOrBackModel.forget()I
noncomputable def d_forget  (C : ZC) : Option (Int × ZC) :=
  some ((C 72 23), zup2 C 72 23 0)
set_option maxRecDepth 100000 in
theorem r_154 {d : Nat} {S : ZS} (hS : zShM S) {C : ZC} : zRq (zKi S) (d_forget C) (zR (d + 1) 154 0 [some (.inr (.inr (some 72))), none] [] S C) := by
  unfold d_forget
  refine zRq_rw (zb_154_0 hS) ?_
  exact zRq_rt fun r h => h
-- 157: NewOrBackModel.couldBegin(I)Z
noncomputable def d_couldBegin_L34  (x8 : (Int × Int)) (C10 : ZC) : Option (((Int × Int) ⊕ Int) × ZC) :=
  if ((x8.1)) < 0 then (some (.inr (x8.2), C10)) else (if ¬ ((x8.2)) = 0 then (some (.inr (x8.2), C10)) else (zg (0 ≤ (x8.1) ∧ (x8.1) < 64) (zg (0 ≤ (x8.1) ∧ (x8.1) < 64) (zg (0 ≤ (x8.1) ∧ (x8.1) < 64) (if (((zup2 C10 81 (x8.1).toNat (zadd (C10 81 (x8.1).toNat) 1)) 81 (x8.1).toNat)) < (((zup2 C10 81 (x8.1).toNat (zadd (C10 81 (x8.1).toNat) 1)) 72 2)) then (zbd (d_mayBe ((zup2 C10 81 (x8.1).toNat (zadd (C10 81 (x8.1).toNat) 1)) 81 (x8.1).toNat) (zup2 C10 81 (x8.1).toNat (zadd (C10 81 (x8.1).toNat) 1))) fun v21 C22 => if v21 ≤ 0 then (some (.inl ((x8.1), (x8.2)), C22)) else (zbd (d_steps ((zup2 C10 81 (x8.1).toNat (zadd (C10 81 (x8.1).toNat) 1)) 81 (x8.1).toNat) v21 C22) fun v25 C26 => zbd (α := (Int × Int × Int)) (zg (0 ≤ (x8.1) ∧ (x8.1) < 64) (zg (0 ≤ (zsub (zadd (x8.1) 1) 1) ∧ (zsub (zadd (x8.1) 1) 1) < 64) (zg (0 ≤ ((zup2 C26 82 (x8.1).toNat v21) 83 (zsub (zadd (x8.1) 1) 1).toNat) ∧ ((zup2 C26 82 (x8.1).toNat v21) 83 (zsub (zadd (x8.1) 1) 1).toNat) < 4) (if ¬ (((zup2 C26 82 (x8.1).toNat v21) 87 ((zup2 C26 82 (x8.1).toNat v21) 83 (zsub (zadd (x8.1) 1) 1).toNat).toNat)) = (((zup2 C10 81 (x8.1).toNat (zadd (C10 81 (x8.1).toNat) 1)) 81 (x8.1).toNat)) then (some (((zadd (x8.1) 1), ((zup2 C26 82 (x8.1).toNat v21) 83 (zsub (zadd (x8.1) 1) 1).toNat), (zadd (x8.1) 1)), zup2 C26 82 (x8.1).toNat v21)) else (zg (0 ≤ ((zup2 C26 82 (x8.1).toNat v21) 83 (zsub (zadd (x8.1) 1) 1).toNat) ∧ ((zup2 C26 82 (x8.1).toNat v21) 83 (zsub (zadd (x8.1) 1) 1).toNat) < 4) (if ¬ (((zup2 C26 82 (x8.1).toNat v21) 88 ((zup2 C26 82 (x8.1).toNat v21) 83 (zsub (zadd (x8.1) 1) 1).toNat).toNat)) = (((zup2 C26 82 (x8.1).toNat v21) 72 7)) then (some (((zadd (x8.1) 1), ((zup2 C26 82 (x8.1).toNat v21) 83 (zsub (zadd (x8.1) 1) 1).toNat), (zadd (x8.1) 1)), zup2 C26 82 (x8.1).toNat v21)) else (some (((zadd (x8.1) 1), (zadd ((zup2 C26 82 (x8.1).toNat v21) 83 (zsub (zadd (x8.1) 1) 1).toNat) 1), (zadd (x8.1) 1)), zup2 C26 82 (x8.1).toNat v21)))))))) fun y27 C29 => zg (0 ≤ (y27.2.2) ∧ (y27.2.2) < 64) (zg (0 ≤ (y27.1) ∧ (y27.1) < 64) (zg (0 ≤ (y27.1) ∧ (y27.1) < 64) (if ¬ (((zup2 (zup2 C29 83 (y27.2.2).toNat (y27.2.1)) 81 (y27.1).toNat (-1)) 83 (y27.1).toNat)) = (((zup2 (zup2 C29 83 (y27.2.2).toNat (y27.2.1)) 81 (y27.1).toNat (-1)) 72 23)) then (some (.inl ((y27.1), 0), zup2 (zup2 C29 83 (y27.2.2).toNat (y27.2.1)) 81 (y27.1).toNat (-1))) else (some (.inl ((y27.1), 1), zup2 (zup2 C29 83 (y27.2.2).toNat (y27.2.1)) 81 (y27.1).toNat (-1)))))))) else (if ((zadd (x8.1) (-1))) < 0 then (some (.inl ((zadd (x8.1) (-1)), (x8.2)), zup2 C10 81 (x8.1).toNat (zadd (C10 81 (x8.1).toNat) 1))) else (zg (0 ≤ (zadd (x8.1) (-1)) ∧ (zadd (x8.1) (-1)) < 64) (zg (0 ≤ (zadd (x8.1) (-1)) ∧ (zadd (x8.1) (-1)) < 64) (zbd (d_unsteps ((zup2 C10 81 (x8.1).toNat (zadd (C10 81 (x8.1).toNat) 1)) 81 (zadd (x8.1) (-1)).toNat) ((zup2 C10 81 (x8.1).toNat (zadd (C10 81 (x8.1).toNat) 1)) 82 (zadd (x8.1) (-1)).toNat) (zup2 C10 81 (x8.1).toNat (zadd (C10 81 (x8.1).toNat) 1))) fun v47 C48 => some (.inl ((zadd (x8.1) (-1)), (x8.2)), C48))))))))))
noncomputable def d_couldBegin (l1 : Int) (C : ZC) : Option (Int × ZC) :=
  zbd (d_begins l1 C) fun v1 C2 => zbd (α := (Int × Int)) (if ¬ (((zup2 (zup2 C2 81 0 (-1)) 83 0 0) 72 23)) = 0 then (some ((0, 0), zup2 (zup2 C2 81 0 (-1)) 83 0 0)) else (some ((0, 1), zup2 (zup2 C2 81 0 (-1)) 83 0 0))) fun y3 C5 => zbd (zloop (d_couldBegin_L34) ((y3.1), (y3.2)) C5) fun y11 C50 => zg (y11 = 0 ∨ y11 = 1) (some (y11, C50))
set_option maxRecDepth 100000 in
theorem r_157 {d : Nat} {S : ZS} (hS : zShM S) {l1 : Int} {C : ZC} : zRq (zKi S) (d_couldBegin l1 C) (zR (d + 3) 157 0 [some (.inr (.inr (some 72))), some (.inl l1), none, none, none, none, none] [] S C) := by
  unfold d_couldBegin
  refine zRq_rw (zb_157_0 hS) ?_
  refine zRq_cv (r_117 hS) (fun v1 C2 => ?_)
  refine zRq_bdf (f := (fun (xq : (Int × Int)) (jq : (Option ZV × Option ZV × Option ZV × Option ZV)) (Cq : ZC) => zR (d + 3) 157 33 [some (.inr (.inr (some 72))), some (.inl l1), some (.inl (xq.1)), (jq.1), (jq.2.1), (jq.2.2.1), (jq.2.2.2)] [.inl (xq.2)] S Cq)) ?_ (fun y3 j4 C5 => ?_)
  · refine zRq_rw (zb_157_5 hS) ?_
    refine zRq_ite (fun h6 => ?_) (fun h7 => ?_)
    · refine zRq_rw (zb_157_32 hS) ?_
      refine zRq_lf fun r h => ?_
      have h2 := h (none, none, none, none)
      dsimp only [zKf, zKs] at h2
      rw [show d + 2 + 1 = d + 3 from rfl]
      exact h2
    · refine zRq_rw (zb_157_28 hS) ?_
      refine zRq_lf fun r h => ?_
      have h2 := h (none, none, none, none)
      dsimp only [zKf, zKs] at h2
      rw [show d + 2 + 1 = d + 3 from rfl]
      exact h2
  · refine zRq_rw (zb_157_33 hS) ?_
    refine zRq_bdf (f := (fun (xq : Int) (jq : (Int × Option ZV × Option ZV × Option ZV)) (Cq : ZC) => zR (d + 3) 157 207 [some (.inr (.inr (some 72))), some (.inl l1), some (.inl (jq.1)), some (.inl xq), (jq.2.1), (jq.2.2.1), (jq.2.2.2)] [] S Cq)) (zRq_loop (f := (fun (xq : (Int × Int)) (jq : (Option ZV × Option ZV × Option ZV)) (Cq : ZC) => zR (d + 3) 157 34 [some (.inr (.inr (some 72))), some (.inl l1), some (.inl (xq.1)), some (.inl (xq.2)), (jq.1), (jq.2.1), (jq.2.2)] [] S Cq)) (fun x8 j9 C10 => ?_) _ ((j4.2.1), (j4.2.2.1), (j4.2.2.2)) _) (fun y11 j49 C50 => ?_)
    · unfold d_couldBegin_L34
      refine zRq_rw (zb_157_34 hS) ?_
      refine zRq_ite (fun h12 => ?_) (fun h13 => ?_)
      · exact zRq_lf fun r h => h ((x8.1), (j9.1), (j9.2.1), (j9.2.2))
      · refine zRq_rw (zb_157_38 hS) ?_
        refine zRq_ite (fun h14 => ?_) (fun h15 => ?_)
        · exact zRq_lf fun r h => h ((x8.1), (j9.1), (j9.2.1), (j9.2.2))
        · refine zRq_rw (zb_157_42 hS) ?_
          refine zRq_g (fun h16 => ?_)
          refine zRq_g (fun h17 => ?_)
          refine zRq_g (fun h18 => ?_)
          refine zRq_ite (fun h19 => ?_) (fun h20 => ?_)
          · refine zRq_rw (zb_157_95 hS) ?_
            refine zRq_ci (r_118 hS) (fun v21 C22 => ?_)
            refine zRq_rw (zb_157_101 hS) ?_
            refine zRq_ite (fun h23 => ?_) (fun h24 => ?_)
            · refine zRq_rw (zb_157_204 hS) ?_
              exact zRq_lf fun r h => h (some (.inl ((zup2 C10 81 (x8.1).toNat (zadd (C10 81 (x8.1).toNat) 1)) 81 (x8.1).toNat)), some (.inl v21), (j9.2.2))
            · refine zRq_rw (zb_157_108 hS) ?_
              refine zRq_cv (r_120 hS) (fun v25 C26 => ?_)
              refine zRq_bdf (f := (fun (xq : (Int × Int × Int)) (jq : Int) (Cq : ZC) => zR (d + 3) 157 177 [some (.inr (.inr (some 72))), some (.inl l1), some (.inl (xq.1)), some (.inl (x8.2)), some (.inl ((zup2 C10 81 (x8.1).toNat (zadd (C10 81 (x8.1).toNat) 1)) 81 (x8.1).toNat)), some (.inl v21), some (.inl jq)] [.inl (xq.2.1), .inl (xq.2.2), .inr (.inr (some 83))] S Cq)) ?_ (fun y27 j28 C29 => ?_)
              · refine zRq_rw (zb_157_116 hS) ?_
                refine zRq_g (fun h30 => ?_)
                refine zRq_g (fun h31 => ?_)
                refine zRq_g (fun h32 => ?_)
                refine zRq_ite (fun h33 => ?_) (fun h34 => ?_)
                · refine zRq_rw (zb_157_175 hS) ?_
                  exact zRq_lf fun r h => h ((zup2 C26 82 (x8.1).toNat v21) 83 (zsub (zadd (x8.1) 1) 1).toNat)
                · refine zRq_rw (zb_157_154 hS) ?_
                  refine zRq_g (fun h35 => ?_)
                  refine zRq_ite (fun h36 => ?_) (fun h37 => ?_)
                  · refine zRq_rw (zb_157_175 hS) ?_
                    exact zRq_lf fun r h => h ((zup2 C26 82 (x8.1).toNat v21) 83 (zsub (zadd (x8.1) 1) 1).toNat)
                  · refine zRq_rw (zb_157_168 hS) ?_
                    exact zRq_lf fun r h => h ((zup2 C26 82 (x8.1).toNat v21) 83 (zsub (zadd (x8.1) 1) 1).toNat)
              · refine zRq_rw (zb_157_177 hS) ?_
                refine zRq_g (fun h38 => ?_)
                refine zRq_g (fun h39 => ?_)
                refine zRq_g (fun h40 => ?_)
                refine zRq_ite (fun h41 => ?_) (fun h42 => ?_)
                · refine zRq_rw (zb_157_202 hS) ?_
                  refine zRq_rw (zb_157_203 hS) ?_
                  refine zRq_rw (zb_157_204 hS) ?_
                  refine zRq_lf fun r h => ?_
                  have h2 := h (some (.inl ((zup2 C10 81 (x8.1).toNat (zadd (C10 81 (x8.1).toNat) 1)) 81 (x8.1).toNat)), some (.inl v21), (some (.inl j28)))
                  dsimp only [zKf, zKs] at h2
                  rw [show d + 2 + 1 = d + 3 from rfl]
                  exact h2
                · refine zRq_rw (zb_157_198 hS) ?_
                  refine zRq_rw (zb_157_203 hS) ?_
                  refine zRq_rw (zb_157_204 hS) ?_
                  refine zRq_lf fun r h => ?_
                  have h2 := h (some (.inl ((zup2 C10 81 (x8.1).toNat (zadd (C10 81 (x8.1).toNat) 1)) 81 (x8.1).toNat)), some (.inl v21), (some (.inl j28)))
                  dsimp only [zKf, zKs] at h2
                  rw [show d + 2 + 1 = d + 3 from rfl]
                  exact h2
          · refine zRq_rw (zb_157_69 hS) ?_
            refine zRq_ite (fun h43 => ?_) (fun h44 => ?_)
            · refine zRq_lf fun r h => ?_
              have h2 := h (some (.inl ((zup2 C10 81 (x8.1).toNat (zadd (C10 81 (x8.1).toNat) 1)) 81 (x8.1).toNat)), (j9.2.1), (j9.2.2))
              dsimp only [zKf, zKs] at h2
              rw [show d + 2 + 1 = d + 3 from rfl]
              exact h2
            · refine zRq_rw (zb_157_76 hS) ?_
              refine zRq_g (fun h45 => ?_)
              refine zRq_g (fun h46 => ?_)
              refine zRq_cv (r_144 hS) (fun v47 C48 => ?_)
              refine zRq_rw (zb_157_92 hS) ?_
              refine zRq_lf fun r h => ?_
              have h2 := h (some (.inl ((zup2 C10 81 (x8.1).toNat (zadd (C10 81 (x8.1).toNat) 1)) 81 (x8.1).toNat)), (j9.2.1), (j9.2.2))
              dsimp only [zKf, zKs] at h2
              rw [show d + 2 + 1 = d + 3 from rfl]
              exact h2
    · refine zRq_rw (zb_157_207 hS) ?_
      refine zRq_g (fun h => ?_)
      exact zRq_rt fun r h => h
-- 156: NewOrBackModel.cameInNow()I
noncomputable def d_cameInNow_L19  (x5 : Int) (C7 : ZC) : Option ((Int ⊕ (Unit ⊕ Int)) × ZC) :=
  if ((C7 72 23)) ≤ x5 then (some (.inr (.inl ()), C7)) else (zbd (α := Int) (zg (0 ≤ x5 ∧ x5 < 4) (if ((C7 72 2)) ≤ ((C7 87 x5.toNat)) then (some (0, C7)) else (zg (0 ≤ x5 ∧ x5 < 4) (zg (0 ≤ (C7 87 x5.toNat) ∧ (C7 87 x5.toNat) < 13) (zg (0 ≤ x5 ∧ x5 < 4) (if ((C7 75 (C7 87 x5.toNat).toNat)) = ((C7 88 x5.toNat)) then (some (1, C7)) else (zg (0 ≤ x5 ∧ x5 < 4) (zg (0 ≤ (C7 87 x5.toNat) ∧ (C7 87 x5.toNat) < 13) (zg (0 ≤ x5 ∧ x5 < 4) (if ¬ ((C7 76 (C7 87 x5.toNat).toNat)) = ((C7 88 x5.toNat)) then (some (0, C7)) else (some (1, C7)))))))))))) fun y11 C13 => if ¬ y11 = 0 then (some (.inl (zadd x5 1), C13)) else (some (.inr (.inr 0), C13)))
noncomputable def d_cameInNow_L102  (x31 : (Int × Int)) (C33 : ZC) : Option (((Int × Int) ⊕ Int) × ZC) :=
  if 8 ≤ ((x31.2)) then (some (.inr (x31.1), C33)) else (zbd (d_couldBegin (x31.2) C33) fun v37 C38 => if v37 = 0 then (some (.inl ((zor (x31.1) 0), (zadd (x31.2) 1)), C38)) else (some (.inl ((zor (x31.1) (zshl 1 (x31.2))), (zadd (x31.2) 1)), C38)))
noncomputable def d_cameInNow  (C : ZC) : Option (Int × ZC) :=
  zbd (d_faultNow C) fun v1 C2 => if ((C2 72 2)) ≤ 6 then (zbs (zloop (d_cameInNow_L19) 0 C2) fun y8 C30 => zbd (zloop (d_cameInNow_L102) (0, 0) C30) fun y34 C42 => some (y34, C42)) else (some ((-4), C2))
set_option maxRecDepth 100000 in
theorem r_156 {d : Nat} {S : ZS} (hS : zShM S) {C : ZC} : zRq (zKi S) (d_cameInNow C) (zR (d + 4) 156 0 [some (.inr (.inr (some 72))), none, none, none] [] S C) := by
  unfold d_cameInNow
  refine zRq_rw (zb_156_0 hS) ?_
  refine zRq_ci (r_104 hS) (fun v1 C2 => ?_)
  refine zRq_rw (zb_156_4 hS) ?_
  refine zRq_ite (fun h3 => ?_) (fun h4 => ?_)
  · refine zRq_rw (zb_156_17 hS) ?_
    refine zRq_bsf (f := (fun (xq : Unit) (jq : (Int × Option ZV)) (Cq : ZC) => zR (d + 4) 156 98 [some (.inr (.inr (some 72))), some (.inl v1), some (.inl (jq.1)), (jq.2)] [] S Cq)) (zRq_loop (f := (fun (xq : Int) (jq : Option ZV) (Cq : ZC) => zR (d + 4) 156 19 [some (.inr (.inr (some 72))), some (.inl v1), some (.inl xq), jq] [] S Cq)) (fun x5 j6 C7 => ?_) _ none _) (fun y8 j29 C30 => ?_)
    · unfold d_cameInNow_L19
      refine zRq_rw (zb_156_19 hS) ?_
      refine zRq_ite (fun h9 => ?_) (fun h10 => ?_)
      · exact zRq_lf fun r h => h (x5, j6)
      · refine zRq_bdf (f := (fun (xq : Int) (jq : Option ZV) (Cq : ZC) => zR (d + 4) 156 85 [some (.inr (.inr (some 72))), some (.inl v1), some (.inl x5), jq] [.inl xq] S Cq)) ?_ (fun y11 j12 C13 => ?_)
        · refine zRq_rw (zb_156_27 hS) ?_
          refine zRq_g (fun h14 => ?_)
          refine zRq_ite (fun h15 => ?_) (fun h16 => ?_)
          · refine zRq_rw (zb_156_84 hS) ?_
            exact zRq_lf fun r h => h j6
          · refine zRq_rw (zb_156_40 hS) ?_
            refine zRq_g (fun h17 => ?_)
            refine zRq_g (fun h18 => ?_)
            refine zRq_g (fun h19 => ?_)
            refine zRq_ite (fun h20 => ?_) (fun h21 => ?_)
            · refine zRq_rw (zb_156_80 hS) ?_
              exact zRq_lf fun r h => h j6
            · refine zRq_rw (zb_156_60 hS) ?_
              refine zRq_g (fun h22 => ?_)
              refine zRq_g (fun h23 => ?_)
              refine zRq_g (fun h24 => ?_)
              refine zRq_ite (fun h25 => ?_) (fun h26 => ?_)
              · refine zRq_rw (zb_156_84 hS) ?_
                exact zRq_lf fun r h => h j6
              · refine zRq_rw (zb_156_80 hS) ?_
                exact zRq_lf fun r h => h j6
        · refine zRq_rw (zb_156_85 hS) ?_
          refine zRq_ite (fun h27 => ?_) (fun h28 => ?_)
          · refine zRq_rw (zb_156_92 hS) ?_
            exact zRq_lf fun r h => h (some (.inl y11))
          · refine zRq_rw (zb_156_90 hS) ?_
            exact zRq_rt fun r h => h
    · refine zRq_rw (zb_156_98 hS) ?_
      refine zRq_bdf (f := (fun (xq : Int) (jq : Int) (Cq : ZC) => zR (d + 4) 156 132 [some (.inr (.inr (some 72))), some (.inl v1), some (.inl xq), some (.inl jq)] [] S Cq)) (zRq_loop (f := (fun (xq : (Int × Int)) (jq : Unit) (Cq : ZC) => zR (d + 4) 156 102 [some (.inr (.inr (some 72))), some (.inl v1), some (.inl (xq.1)), some (.inl (xq.2))] [] S Cq)) (fun x31 j32 C33 => ?_) _ () _) (fun y34 j41 C42 => ?_)
      · unfold d_cameInNow_L102
        refine zRq_rw (zb_156_102 hS) ?_
        refine zRq_ite (fun h35 => ?_) (fun h36 => ?_)
        · exact zRq_lf fun r h => h (x31.2)
        · refine zRq_rw (zb_156_108 hS) ?_
          refine zRq_ci (r_157 hS) (fun v37 C38 => ?_)
          refine zRq_rw (zb_156_114 hS) ?_
          refine zRq_ite (fun h39 => ?_) (fun h40 => ?_)
          · refine zRq_rw (zb_156_123 hS) ?_
            refine zRq_rw (zb_156_124 hS) ?_
            exact zRq_lf fun r h => h ()
          · refine zRq_rw (zb_156_117 hS) ?_
            refine zRq_rw (zb_156_124 hS) ?_
            exact zRq_lf fun r h => h ()
      · refine zRq_rw (zb_156_132 hS) ?_
        exact zRq_rt fun r h => h
  · refine zRq_rw (zb_156_14 hS) ?_
    exact zRq_rt fun r h => h
-- 155: NewOrBackModel.cameIn()I
noncomputable def d_cameIn  (C : ZC) : Option (Int × ZC) :=
  zbd (d_cameInNow C) fun v1 C2 => some (v1, C2)
set_option maxRecDepth 100000 in
theorem r_155 {d : Nat} {S : ZS} (hS : zShM S) {C : ZC} : zRq (zKi S) (d_cameIn C) (zR (d + 5) 155 0 [some (.inr (.inr (some 72)))] [] S C) := by
  unfold d_cameIn
  refine zRq_rw (zb_155_0 hS) ?_
  refine zRq_ci (r_156 hS) (fun v1 C2 => ?_)
  refine zRq_rw (zb_155_4 hS) ?_
  exact zRq_rt fun r h => h
-- 160: NewOrBackModel.laysHops()V
noncomputable def d_laysHops_L10 (l1 : Int) (x7 : Int) (C9 : ZC) : Option ((Int ⊕ Unit) × ZC) :=
  if 8 ≤ x7 then (some (.inr (), C9)) else (if ¬ l1 = x7 then (zg (0 ≤ (zadd (zmul 8 l1) x7) ∧ (zadd (zmul 8 l1) x7) < 64) (some (.inl (zadd x7 1), zup2 C9 89 (zadd (zmul 8 l1) x7).toNat 1000000))) else (zg (0 ≤ (zadd (zmul 8 l1) x7) ∧ (zadd (zmul 8 l1) x7) < 64) (some (.inl (zadd x7 1), zup2 C9 89 (zadd (zmul 8 l1) x7).toNat 0))))
noncomputable def d_laysHops_L2  (x1 : Int) (C3 : ZC) : Option ((Int ⊕ Unit) × ZC) :=
  if 8 ≤ x1 then (some (.inr (), C3)) else (zbd (zloop (d_laysHops_L10 x1) 0 C3) fun y10 C18 => some (.inl (zadd x1 1), C18))
noncomputable def d_laysHops_L70 (l1 : Int) (l2 : Int) (x33 : Int) (C35 : ZC) : Option ((Int ⊕ Unit) × ZC) :=
  if 8 ≤ x33 then (some (.inr (), C35)) else (zbd (α := (Int × Int × Int × Int)) (zg (0 ≤ l2 ∧ l2 < 13) (zg (0 ≤ (zadd (zmul 8 (C35 75 l2.toNat)) x33) ∧ (zadd (zmul 8 (C35 75 l2.toNat)) x33) < 64) (zg (0 ≤ l2 ∧ l2 < 13) (zg (0 ≤ (zadd (zmul 8 (C35 76 l2.toNat)) x33) ∧ (zadd (zmul 8 (C35 76 l2.toNat)) x33) < 64) (zg (0 ≤ l2 ∧ l2 < 13) (if ((C35 89 (zadd (zmul 8 (C35 75 l2.toNat)) x33).toNat)) ≤ ((zadd (C35 89 (zadd (zmul 8 (C35 76 l2.toNat)) x33).toNat) 1)) then (some (((C35 89 (zadd (zmul 8 (C35 75 l2.toNat)) x33).toNat), (C35 89 (zadd (zmul 8 (C35 76 l2.toNat)) x33).toNat), (C35 89 (zadd (zmul 8 (C35 75 l2.toNat)) x33).toNat), (zadd (zmul 8 (C35 75 l2.toNat)) x33)), C35)) else (some (((C35 89 (zadd (zmul 8 (C35 75 l2.toNat)) x33).toNat), (C35 89 (zadd (zmul 8 (C35 76 l2.toNat)) x33).toNat), (zadd (C35 89 (zadd (zmul 8 (C35 76 l2.toNat)) x33).toNat) 1), (zadd (zmul 8 (C35 75 l2.toNat)) x33)), C35)))))))) fun y39 C41 => zg (0 ≤ (y39.2.2.2) ∧ (y39.2.2.2) < 64) (zg (0 ≤ l2 ∧ l2 < 13) (if ((y39.2.1)) ≤ ((zadd (y39.1) 1)) then (zg (0 ≤ (zadd (zmul 8 ((zup2 C41 89 (y39.2.2.2).toNat (y39.2.2.1)) 76 l2.toNat)) x33) ∧ (zadd (zmul 8 ((zup2 C41 89 (y39.2.2.2).toNat (y39.2.2.1)) 76 l2.toNat)) x33) < 64) (some (.inl (zadd x33 1), zup2 (zup2 C41 89 (y39.2.2.2).toNat (y39.2.2.1)) 89 (zadd (zmul 8 ((zup2 C41 89 (y39.2.2.2).toNat (y39.2.2.1)) 76 l2.toNat)) x33).toNat (y39.2.1)))) else (zg (0 ≤ (zadd (zmul 8 ((zup2 C41 89 (y39.2.2.2).toNat (y39.2.2.1)) 76 l2.toNat)) x33) ∧ (zadd (zmul 8 ((zup2 C41 89 (y39.2.2.2).toNat (y39.2.2.1)) 76 l2.toNat)) x33) < 64) (some (.inl (zadd x33 1), zup2 (zup2 C41 89 (y39.2.2.2).toNat (y39.2.2.1)) 89 (zadd (zmul 8 ((zup2 C41 89 (y39.2.2.2).toNat (y39.2.2.1)) 76 l2.toNat)) x33).toNat (zadd (y39.1) 1)))))))
noncomputable def d_laysHops_L60 (l1 : Int) (x27 : Int) (C29 : ZC) : Option ((Int ⊕ Unit) × ZC) :=
  if ((C29 72 2)) ≤ x27 then (some (.inr (), C29)) else (zbd (zloop (d_laysHops_L70 l1 x27) 0 C29) fun y36 C56 => some (.inl (zadd x27 1), C56))
noncomputable def d_laysHops_L52  (x21 : Int) (C23 : ZC) : Option ((Int ⊕ Unit) × ZC) :=
  if 8 ≤ x21 then (some (.inr (), C23)) else (zbd (zloop (d_laysHops_L60 x21) 0 C23) fun y30 C58 => some (.inl (zadd x21 1), C58))
noncomputable def d_laysHops  (C : ZC) : Option (Int × ZC) :=
  zbd (zloop (d_laysHops_L2) 0 C) fun y4 C20 => zbd (zloop (d_laysHops_L52) 0 C20) fun y24 C60 => some (0, C60)
set_option maxRecDepth 100000 in
theorem r_160 {d : Nat} {S : ZS} (hS : zShM S) {C : ZC} : zRq (zKv S) (d_laysHops C) (zR (d + 1) 160 0 [some (.inr (.inr (some 72))), none, none, none, none, none] [] S C) := by
  unfold d_laysHops
  refine zRq_rw (zb_160_0 hS) ?_
  refine zRq_bdf (f := (fun (xq : Unit) (jq : (Int × Option ZV × Option ZV × Option ZV × Option ZV)) (Cq : ZC) => zR (d + 1) 160 50 [some (.inr (.inr (some 72))), some (.inl (jq.1)), (jq.2.1), (jq.2.2.1), (jq.2.2.2.1), (jq.2.2.2.2)] [] S Cq)) (zRq_loop (f := (fun (xq : Int) (jq : (Option ZV × Option ZV × Option ZV × Option ZV)) (Cq : ZC) => zR (d + 1) 160 2 [some (.inr (.inr (some 72))), some (.inl xq), (jq.1), (jq.2.1), (jq.2.2.1), (jq.2.2.2)] [] S Cq)) (fun x1 j2 C3 => ?_) _ (none, none, none, none) _) (fun y4 j19 C20 => ?_)
  · unfold d_laysHops_L2
    refine zRq_rw (zb_160_2 hS) ?_
    refine zRq_ite (fun h5 => ?_) (fun h6 => ?_)
    · exact zRq_lf fun r h => h (x1, (j2.1), (j2.2.1), (j2.2.2.1), (j2.2.2.2))
    · refine zRq_rw (zb_160_8 hS) ?_
      refine zRq_bdf (f := (fun (xq : Unit) (jq : (Int × Option ZV × Option ZV × Option ZV)) (Cq : ZC) => zR (d + 1) 160 44 [some (.inr (.inr (some 72))), some (.inl x1), some (.inl (jq.1)), (jq.2.1), (jq.2.2.1), (jq.2.2.2)] [] S Cq)) (zRq_loop (f := (fun (xq : Int) (jq : (Option ZV × Option ZV × Option ZV)) (Cq : ZC) => zR (d + 1) 160 10 [some (.inr (.inr (some 72))), some (.inl x1), some (.inl xq), (jq.1), (jq.2.1), (jq.2.2)] [] S Cq)) (fun x7 j8 C9 => ?_) _ ((j2.2.1), (j2.2.2.1), (j2.2.2.2)) _) (fun y10 j17 C18 => ?_)
      · unfold d_laysHops_L10
        refine zRq_rw (zb_160_10 hS) ?_
        refine zRq_ite (fun h11 => ?_) (fun h12 => ?_)
        · exact zRq_lf fun r h => h (x7, (j8.1), (j8.2.1), (j8.2.2))
        · refine zRq_rw (zb_160_16 hS) ?_
          refine zRq_ite (fun h13 => ?_) (fun h14 => ?_)
          · refine zRq_rw (zb_160_35 hS) ?_
            refine zRq_rw (zb_160_37 hS) ?_
            refine zRq_g (fun h15 => ?_)
            exact zRq_lf fun r h => h ((j8.1), (j8.2.1), (j8.2.2))
          · refine zRq_rw (zb_160_31 hS) ?_
            refine zRq_rw (zb_160_37 hS) ?_
            refine zRq_g (fun h16 => ?_)
            exact zRq_lf fun r h => h ((j8.1), (j8.2.1), (j8.2.2))
      · refine zRq_rw (zb_160_44 hS) ?_
        exact zRq_lf fun r h => h (some (.inl (j17.1)), (j17.2.1), (j17.2.2.1), (j17.2.2.2))
  · refine zRq_rw (zb_160_50 hS) ?_
    refine zRq_bdf (f := (fun (xq : Unit) (jq : (Int × Option ZV × Option ZV × Option ZV × Option ZV)) (Cq : ZC) => zR (d + 1) 160 198 [some (.inr (.inr (some 72))), some (.inl (jq.1)), (jq.2.1), (jq.2.2.1), (jq.2.2.2.1), (jq.2.2.2.2)] [] S Cq)) (zRq_loop (f := (fun (xq : Int) (jq : (Option ZV × Option ZV × Option ZV × Option ZV)) (Cq : ZC) => zR (d + 1) 160 52 [some (.inr (.inr (some 72))), some (.inl xq), (jq.1), (jq.2.1), (jq.2.2.1), (jq.2.2.2)] [] S Cq)) (fun x21 j22 C23 => ?_) _ ((j19.2.1), (j19.2.2.1), (j19.2.2.2.1), (j19.2.2.2.2)) _) (fun y24 j59 C60 => ?_)
    · unfold d_laysHops_L52
      refine zRq_rw (zb_160_52 hS) ?_
      refine zRq_ite (fun h25 => ?_) (fun h26 => ?_)
      · exact zRq_lf fun r h => h (x21, (j22.1), (j22.2.1), (j22.2.2.1), (j22.2.2.2))
      · refine zRq_rw (zb_160_58 hS) ?_
        refine zRq_bdf (f := (fun (xq : Unit) (jq : (Int × Option ZV × Option ZV × Option ZV)) (Cq : ZC) => zR (d + 1) 160 192 [some (.inr (.inr (some 72))), some (.inl x21), some (.inl (jq.1)), (jq.2.1), (jq.2.2.1), (jq.2.2.2)] [] S Cq)) (zRq_loop (f := (fun (xq : Int) (jq : (Option ZV × Option ZV × Option ZV)) (Cq : ZC) => zR (d + 1) 160 60 [some (.inr (.inr (some 72))), some (.inl x21), some (.inl xq), (jq.1), (jq.2.1), (jq.2.2)] [] S Cq)) (fun x27 j28 C29 => ?_) _ ((j22.2.1), (j22.2.2.1), (j22.2.2.2)) _) (fun y30 j57 C58 => ?_)
        · unfold d_laysHops_L60
          refine zRq_rw (zb_160_60 hS) ?_
          refine zRq_ite (fun h31 => ?_) (fun h32 => ?_)
          · exact zRq_lf fun r h => h (x27, (j28.1), (j28.2.1), (j28.2.2))
          · refine zRq_rw (zb_160_68 hS) ?_
            refine zRq_bdf (f := (fun (xq : Unit) (jq : (Int × Option ZV × Option ZV)) (Cq : ZC) => zR (d + 1) 160 186 [some (.inr (.inr (some 72))), some (.inl x21), some (.inl x27), some (.inl (jq.1)), (jq.2.1), (jq.2.2)] [] S Cq)) (zRq_loop (f := (fun (xq : Int) (jq : (Option ZV × Option ZV)) (Cq : ZC) => zR (d + 1) 160 70 [some (.inr (.inr (some 72))), some (.inl x21), some (.inl x27), some (.inl xq), (jq.1), (jq.2)] [] S Cq)) (fun x33 j34 C35 => ?_) _ ((j28.2.1), (j28.2.2)) _) (fun y36 j55 C56 => ?_)
            · unfold d_laysHops_L70
              refine zRq_rw (zb_160_70 hS) ?_
              refine zRq_ite (fun h37 => ?_) (fun h38 => ?_)
              · exact zRq_lf fun r h => h (x33, (j34.1), (j34.2))
              · refine zRq_bdf (f := (fun (xq : (Int × Int × Int × Int)) (jq : Unit) (Cq : ZC) => zR (d + 1) 160 145 [some (.inr (.inr (some 72))), some (.inl x21), some (.inl x27), some (.inl x33), some (.inl (xq.1)), some (.inl (xq.2.1))] [.inl (xq.2.2.1), .inl (xq.2.2.2), .inr (.inr (some 89))] S Cq)) ?_ (fun y39 j40 C41 => ?_)
                · refine zRq_rw (zb_160_76 hS) ?_
                  refine zRq_g (fun h42 => ?_)
                  refine zRq_g (fun h43 => ?_)
                  refine zRq_g (fun h44 => ?_)
                  refine zRq_g (fun h45 => ?_)
                  refine zRq_g (fun h46 => ?_)
                  refine zRq_ite (fun h47 => ?_) (fun h48 => ?_)
                  · refine zRq_rw (zb_160_143 hS) ?_
                    exact zRq_lf fun r h => h ()
                  · refine zRq_rw (zb_160_136 hS) ?_
                    exact zRq_lf fun r h => h ()
                · refine zRq_rw (zb_160_145 hS) ?_
                  refine zRq_g (fun h49 => ?_)
                  refine zRq_g (fun h50 => ?_)
                  refine zRq_ite (fun h51 => ?_) (fun h52 => ?_)
                  · refine zRq_rw (zb_160_177 hS) ?_
                    refine zRq_rw (zb_160_179 hS) ?_
                    refine zRq_g (fun h53 => ?_)
                    exact zRq_lf fun r h => h (some (.inl (y39.1)), some (.inl (y39.2.1)))
                  · refine zRq_rw (zb_160_170 hS) ?_
                    refine zRq_rw (zb_160_179 hS) ?_
                    refine zRq_g (fun h54 => ?_)
                    exact zRq_lf fun r h => h (some (.inl (y39.1)), some (.inl (y39.2.1)))
            · refine zRq_rw (zb_160_186 hS) ?_
              exact zRq_lf fun r h => h (some (.inl (j55.1)), (j55.2.1), (j55.2.2))
        · refine zRq_rw (zb_160_192 hS) ?_
          exact zRq_lf fun r h => h (some (.inl (j57.1)), (j57.2.1), (j57.2.2.1), (j57.2.2.2))
    · refine zRq_rw (zb_160_198 hS) ?_
      exact zRq_rt fun r h => h
-- 161: NewOrBackModel.wolfGoes(II)I
noncomputable def d_wolfGoes_L2 (l1 : Int) (l2 : Int) (x1 : Int) (C3 : ZC) : Option ((Int ⊕ (Unit ⊕ Int)) × ZC) :=
  if ((C3 72 2)) ≤ x1 then (some (.inr (.inl ()), C3)) else (zbs (α := Unit) (zg (0 ≤ x1 ∧ x1 < 13) (if ((C3 75 x1.toNat)) = l1 then (some (.inl (), C3)) else (zg (0 ≤ x1 ∧ x1 < 13) (if ¬ ((C3 76 x1.toNat)) = l1 then (some (.inr (.inl (zadd x1 1)), C3)) else (some (.inl (), C3)))))) fun y7 C9 => zbd (d_beyond x1 l1 C9) fun v16 C17 => zg (0 ≤ (zadd (zmul 8 v16) l2) ∧ (zadd (zmul 8 v16) l2) < 64) (zg (0 ≤ (zadd (zmul 8 l1) l2) ∧ (zadd (zmul 8 l1) l2) < 64) (if ((C17 89 (zadd (zmul 8 l1) l2).toNat)) ≤ ((C17 89 (zadd (zmul 8 v16) l2).toNat)) then (some (.inl (zadd x1 1), C17)) else (some (.inr (.inr v16), C17)))))
noncomputable def d_wolfGoes (l1 : Int) (l2 : Int) (C : ZC) : Option (Int × ZC) :=
  zbs (zloop (d_wolfGoes_L2 l1 l2) 0 C) fun y4 C23 => some (l1, C23)
set_option maxRecDepth 100000 in
theorem r_161 {d : Nat} {S : ZS} (hS : zShM S) {l1 : Int} {l2 : Int} {C : ZC} : zRq (zKi S) (d_wolfGoes l1 l2 C) (zR (d + 2) 161 0 [some (.inr (.inr (some 72))), some (.inl l1), some (.inl l2), none, none] [] S C) := by
  unfold d_wolfGoes
  refine zRq_rw (zb_161_0 hS) ?_
  refine zRq_bsf (f := (fun (xq : Unit) (jq : (Int × Option ZV)) (Cq : ZC) => zR (d + 2) 161 73 [some (.inr (.inr (some 72))), some (.inl l1), some (.inl l2), some (.inl (jq.1)), (jq.2)] [] S Cq)) (zRq_loop (f := (fun (xq : Int) (jq : Option ZV) (Cq : ZC) => zR (d + 2) 161 2 [some (.inr (.inr (some 72))), some (.inl l1), some (.inl l2), some (.inl xq), jq] [] S Cq)) (fun x1 j2 C3 => ?_) _ none _) (fun y4 j22 C23 => ?_)
  · unfold d_wolfGoes_L2
    refine zRq_rw (zb_161_2 hS) ?_
    refine zRq_ite (fun h5 => ?_) (fun h6 => ?_)
    · exact zRq_lf fun r h => h (x1, j2)
    · refine zRq_bsf (f := (fun (xq : Unit) (jq : Option ZV) (Cq : ZC) => zR (d + 2) 161 30 [some (.inr (.inr (some 72))), some (.inl l1), some (.inl l2), some (.inl x1), jq] [] S Cq)) ?_ (fun y7 j8 C9 => ?_)
      · refine zRq_rw (zb_161_10 hS) ?_
        refine zRq_g (fun h10 => ?_)
        refine zRq_ite (fun h11 => ?_) (fun h12 => ?_)
        · exact zRq_lf fun r h => h j2
        · refine zRq_rw (zb_161_20 hS) ?_
          refine zRq_g (fun h13 => ?_)
          refine zRq_ite (fun h14 => ?_) (fun h15 => ?_)
          · refine zRq_rw (zb_161_67 hS) ?_
            exact zRq_lf fun r h => h j2
          · exact zRq_lf fun r h => h j2
      · refine zRq_rw (zb_161_30 hS) ?_
        refine zRq_ci (r_121 hS) (fun v16 C17 => ?_)
        refine zRq_rw (zb_161_36 hS) ?_
        refine zRq_g (fun h18 => ?_)
        refine zRq_g (fun h19 => ?_)
        refine zRq_ite (fun h20 => ?_) (fun h21 => ?_)
        · refine zRq_rw (zb_161_67 hS) ?_
          exact zRq_lf fun r h => h (some (.inl v16))
        · refine zRq_rw (zb_161_64 hS) ?_
          exact zRq_rt fun r h => h
  · refine zRq_rw (zb_161_73 hS) ?_
    exact zRq_rt fun r h => h
-- 159: NewOrBackModel.safeOf(II)I
noncomputable def d_safeOf_L72 (l1 : Int) (x15 : Int) (C17 : ZC) : Option ((Int ⊕ (Unit ⊕ (Unit ⊕ Int))) × ZC) :=
  if x15 < 0 then (some (.inr (.inl ()), C17)) else (zg (0 ≤ x15 ∧ x15 < 64) (zg (0 ≤ x15 ∧ x15 < 64) (zg (0 ≤ x15 ∧ x15 < 64) (if (((zup2 C17 81 x15.toNat (zadd (C17 81 x15.toNat) 1)) 81 x15.toNat)) < (((zup2 C17 81 x15.toNat (zadd (C17 81 x15.toNat) 1)) 72 2)) then (zbd (d_mayBe ((zup2 C17 81 x15.toNat (zadd (C17 81 x15.toNat) 1)) 81 x15.toNat) (zup2 C17 81 x15.toNat (zadd (C17 81 x15.toNat) 1))) fun v26 C27 => if v26 ≤ 0 then (some (.inl x15, C27)) else (zbd (d_beyond ((zup2 C17 81 x15.toNat (zadd (C17 81 x15.toNat) 1)) 81 x15.toNat) (C27 72 7) C27) fun v30 C31 => zg (0 ≤ x15 ∧ x15 < 64) (if v30 = ((C31 90 x15.toNat)) then (some (.inl x15, C31)) else (zbd (d_beyond ((zup2 C17 81 x15.toNat (zadd (C17 81 x15.toNat) 1)) 81 x15.toNat) (C31 72 7) C31) fun v35 C36 => zg (0 ≤ l1 ∧ l1 < 4) (if ¬ v35 = ((C36 78 l1.toNat)) then (zg (0 ≤ x15 ∧ x15 < 64) (zbd (d_wolfGoes (C36 90 x15.toNat) v35 C36) fun v41 C42 => if v41 = v35 then (some (.inl x15, C42)) else (zbd (d_steps ((zup2 C17 81 x15.toNat (zadd (C17 81 x15.toNat) 1)) 81 x15.toNat) v26 C42) fun v45 C46 => zg (0 ≤ x15 ∧ x15 < 64) (zg (0 ≤ (zadd x15 1) ∧ (zadd x15 1) < 64) (zg (0 ≤ (zadd x15 1) ∧ (zadd x15 1) < 64) (some (.inl (zadd x15 1), zup2 (zup2 (zup2 C46 82 x15.toNat v26) 90 (zadd x15 1).toNat v41) 81 (zadd x15 1).toNat (-1)))))))) else (some (.inr (.inr (.inr 1)), C36))))))) else (if ((zadd x15 (-1))) < 0 then (some (.inl (zadd x15 (-1)), zup2 C17 81 x15.toNat (zadd (C17 81 x15.toNat) 1))) else (zg (0 ≤ (zadd x15 (-1)) ∧ (zadd x15 (-1)) < 64) (zg (0 ≤ (zadd x15 (-1)) ∧ (zadd x15 (-1)) < 64) (zbd (d_unsteps ((zup2 C17 81 x15.toNat (zadd (C17 81 x15.toNat) 1)) 81 (zadd x15 (-1)).toNat) ((zup2 C17 81 x15.toNat (zadd (C17 81 x15.toNat) 1)) 82 (zadd x15 (-1)).toNat) (zup2 C17 81 x15.toNat (zadd (C17 81 x15.toNat) 1))) fun v54 C55 => some (.inl (zadd x15 (-1)), C55)))))))))
noncomputable def d_safeOf (l1 : Int) (l2 : Int) (C : ZC) : Option (Int × ZC) :=
  zbd (d_walks l1 C) fun v1 C2 => if ((C2 72 2)) ≤ 6 then (zbd (d_laysHops C2) fun v5 C6 => zbs (α := Unit) (if ((C6 72 7)) = l2 then (some (.inl (), C6)) else (zg (0 ≤ l1 ∧ l1 < 4) (if ¬ ((C6 72 7)) = ((C6 78 l1.toNat)) then (zbs (zloop (d_safeOf_L72 l1) 0 (zup2 (zup2 C6 81 0 (-1)) 90 0 l2)) fun y18 C57 => some (.inr 0, C57)) else (some (.inl (), C6))))) fun y7 C9 => if ¬ ((C9 72 7)) = l2 then (some (1, C9)) else (some (0, C9))) else (some ((-4), C2))
set_option maxRecDepth 100000 in
theorem r_159 {d : Nat} {S : ZS} (hS : zShM S) {l1 : Int} {l2 : Int} {C : ZC} : zRq (zKi S) (d_safeOf l1 l2 C) (zR (d + 5) 159 0 [some (.inr (.inr (some 72))), some (.inl l1), some (.inl l2), none, none, none, none, none] [] S C) := by
  unfold d_safeOf
  refine zRq_rw (zb_159_0 hS) ?_
  refine zRq_cv (r_116 hS) (fun v1 C2 => ?_)
  refine zRq_rw (zb_159_5 hS) ?_
  refine zRq_ite (fun h3 => ?_) (fun h4 => ?_)
  · refine zRq_rw (zb_159_17 hS) ?_
    refine zRq_cv (r_160 hS) (fun v5 C6 => ?_)
    refine zRq_bsf (f := (fun (xq : Unit) (jq : (Option ZV × Option ZV × Option ZV × Option ZV × Option ZV)) (Cq : ZC) => zR (d + 5) 159 42 [some (.inr (.inr (some 72))), some (.inl l1), some (.inl l2), (jq.1), (jq.2.1), (jq.2.2.1), (jq.2.2.2.1), (jq.2.2.2.2)] [] S Cq)) ?_ (fun y7 j8 C9 => ?_)
    · refine zRq_rw (zb_159_21 hS) ?_
      refine zRq_ite (fun h10 => ?_) (fun h11 => ?_)
      · exact zRq_lf fun r h => h (none, none, none, none, none)
      · refine zRq_rw (zb_159_29 hS) ?_
        refine zRq_g (fun h12 => ?_)
        refine zRq_ite (fun h13 => ?_) (fun h14 => ?_)
        · refine zRq_rw (zb_159_56 hS) ?_
          refine zRq_bsf (f := (fun (xq : Unit) (jq : (Int × Option ZV × Option ZV × Option ZV × Option ZV)) (Cq : ZC) => zR (d + 5) 159 244 [some (.inr (.inr (some 72))), some (.inl l1), some (.inl l2), some (.inl (jq.1)), (jq.2.1), (jq.2.2.1), (jq.2.2.2.1), (jq.2.2.2.2)] [] S Cq)) (zRq_loop (f := (fun (xq : Int) (jq : (Option ZV × Option ZV × Option ZV × Option ZV)) (Cq : ZC) => zR (d + 5) 159 72 [some (.inr (.inr (some 72))), some (.inl l1), some (.inl l2), some (.inl xq), (jq.1), (jq.2.1), (jq.2.2.1), (jq.2.2.2)] [] S Cq)) (fun x15 j16 C17 => ?_) _ (none, none, none, none) _) (fun y18 j56 C57 => ?_)
          · unfold d_safeOf_L72
            refine zRq_rw (zb_159_72 hS) ?_
            refine zRq_ite (fun h19 => ?_) (fun h20 => ?_)
            · exact zRq_lf fun r h => h (x15, (j16.1), (j16.2.1), (j16.2.2.1), (j16.2.2.2))
            · refine zRq_rw (zb_159_76 hS) ?_
              refine zRq_g (fun h21 => ?_)
              refine zRq_g (fun h22 => ?_)
              refine zRq_g (fun h23 => ?_)
              refine zRq_ite (fun h24 => ?_) (fun h25 => ?_)
              · refine zRq_rw (zb_159_129 hS) ?_
                refine zRq_ci (r_118 hS) (fun v26 C27 => ?_)
                refine zRq_rw (zb_159_135 hS) ?_
                refine zRq_ite (fun h28 => ?_) (fun h29 => ?_)
                · refine zRq_rw (zb_159_241 hS) ?_
                  exact zRq_lf fun r h => h (some (.inl ((zup2 C17 81 x15.toNat (zadd (C17 81 x15.toNat) 1)) 81 x15.toNat)), some (.inl v26), (j16.2.2.1), (j16.2.2.2))
                · refine zRq_rw (zb_159_142 hS) ?_
                  refine zRq_ci (r_121 hS) (fun v30 C31 => ?_)
                  refine zRq_rw (zb_159_152 hS) ?_
                  refine zRq_g (fun h32 => ?_)
                  refine zRq_ite (fun h33 => ?_) (fun h34 => ?_)
                  · refine zRq_rw (zb_159_241 hS) ?_
                    exact zRq_lf fun r h => h (some (.inl ((zup2 C17 81 x15.toNat (zadd (C17 81 x15.toNat) 1)) 81 x15.toNat)), some (.inl v26), (j16.2.2.1), (j16.2.2.2))
                  · refine zRq_rw (zb_159_161 hS) ?_
                    refine zRq_ci (r_121 hS) (fun v35 C36 => ?_)
                    refine zRq_rw (zb_159_171 hS) ?_
                    refine zRq_g (fun h37 => ?_)
                    refine zRq_ite (fun h38 => ?_) (fun h39 => ?_)
                    · refine zRq_rw (zb_159_186 hS) ?_
                      refine zRq_g (fun h40 => ?_)
                      refine zRq_ci (r_161 hS) (fun v41 C42 => ?_)
                      refine zRq_rw (zb_159_198 hS) ?_
                      refine zRq_ite (fun h43 => ?_) (fun h44 => ?_)
                      · refine zRq_rw (zb_159_241 hS) ?_
                        exact zRq_lf fun r h => h (some (.inl ((zup2 C17 81 x15.toNat (zadd (C17 81 x15.toNat) 1)) 81 x15.toNat)), some (.inl v26), (some (.inl v35)), (some (.inl v41)))
                      · refine zRq_rw (zb_159_207 hS) ?_
                        refine zRq_cv (r_120 hS) (fun v45 C46 => ?_)
                        refine zRq_rw (zb_159_215 hS) ?_
                        refine zRq_g (fun h47 => ?_)
                        refine zRq_g (fun h48 => ?_)
                        refine zRq_g (fun h49 => ?_)
                        refine zRq_rw (zb_159_241 hS) ?_
                        refine zRq_lf fun r h => ?_
                        have h2 := h (some (.inl ((zup2 C17 81 x15.toNat (zadd (C17 81 x15.toNat) 1)) 81 x15.toNat)), some (.inl v26), (some (.inl v35)), (some (.inl v41)))
                        dsimp only [zKf, zKs] at h2
                        rw [show d + 4 + 1 = d + 5 from rfl]
                        exact h2
                    · refine zRq_rw (zb_159_184 hS) ?_
                      exact zRq_rt fun r h => h
              · refine zRq_rw (zb_159_103 hS) ?_
                refine zRq_ite (fun h50 => ?_) (fun h51 => ?_)
                · refine zRq_lf fun r h => ?_
                  have h2 := h (some (.inl ((zup2 C17 81 x15.toNat (zadd (C17 81 x15.toNat) 1)) 81 x15.toNat)), (j16.2.1), (j16.2.2.1), (j16.2.2.2))
                  dsimp only [zKf, zKs] at h2
                  rw [show d + 4 + 1 = d + 5 from rfl]
                  exact h2
                · refine zRq_rw (zb_159_110 hS) ?_
                  refine zRq_g (fun h52 => ?_)
                  refine zRq_g (fun h53 => ?_)
                  refine zRq_cv (r_144 hS) (fun v54 C55 => ?_)
                  refine zRq_rw (zb_159_126 hS) ?_
                  refine zRq_lf fun r h => ?_
                  have h2 := h (some (.inl ((zup2 C17 81 x15.toNat (zadd (C17 81 x15.toNat) 1)) 81 x15.toNat)), (j16.2.1), (j16.2.2.1), (j16.2.2.2))
                  dsimp only [zKf, zKs] at h2
                  rw [show d + 4 + 1 = d + 5 from rfl]
                  exact h2
          · refine zRq_rw (zb_159_244 hS) ?_
            exact zRq_rt fun r h => h
        · exact zRq_lf fun r h => h (none, none, none, none, none)
    · refine zRq_rw (zb_159_42 hS) ?_
      refine zRq_ite (fun h58 => ?_) (fun h59 => ?_)
      · refine zRq_rw (zb_159_54 hS) ?_
        refine zRq_rw (zb_159_55 hS) ?_
        exact zRq_rt fun r h => h
      · refine zRq_rw (zb_159_50 hS) ?_
        refine zRq_rw (zb_159_55 hS) ?_
        exact zRq_rt fun r h => h
  · refine zRq_rw (zb_159_14 hS) ?_
    exact zRq_rt fun r h => h
-- 158: NewOrBackModel.safe(II)I
noncomputable def d_safe (l1 : Int) (l2 : Int) (C : ZC) : Option (Int × ZC) :=
  zbd (d_isWalker l1 C) fun v1 C2 => if v1 = 0 then (some ((-2), C2)) else (zbd (d_isPlace l2 C2) fun v5 C6 => if v5 = 0 then (some ((-2), C6)) else (zbd (d_safeOf l1 l2 C6) fun v9 C10 => some (v9, C10)))
set_option maxRecDepth 100000 in
theorem r_158 {d : Nat} {S : ZS} (hS : zShM S) {l1 : Int} {l2 : Int} {C : ZC} : zRq (zKi S) (d_safe l1 l2 C) (zR (d + 6) 158 0 [some (.inr (.inr (some 72))), some (.inl l1), some (.inl l2)] [] S C) := by
  unfold d_safe
  refine zRq_rw (zb_158_0 hS) ?_
  refine zRq_ci (r_109 hS) (fun v1 C2 => ?_)
  refine zRq_rw (zb_158_4 hS) ?_
  refine zRq_ite (fun h3 => ?_) (fun h4 => ?_)
  · refine zRq_rw (zb_158_23 hS) ?_
    refine zRq_rw (zb_158_25 hS) ?_
    exact zRq_rt fun r h => h
  · refine zRq_rw (zb_158_7 hS) ?_
    refine zRq_ci (r_110 hS) (fun v5 C6 => ?_)
    refine zRq_rw (zb_158_11 hS) ?_
    refine zRq_ite (fun h7 => ?_) (fun h8 => ?_)
    · refine zRq_rw (zb_158_23 hS) ?_
      refine zRq_rw (zb_158_25 hS) ?_
      exact zRq_rt fun r h => h
    · refine zRq_rw (zb_158_14 hS) ?_
      refine zRq_ci (r_159 hS) (fun v9 C10 => ?_)
      refine zRq_rw (zb_158_20 hS) ?_
      refine zRq_rw (zb_158_25 hS) ?_
      exact zRq_rt fun r h => h
-- 162: NewOrBackModel.sheet(III)I
noncomputable def d_sheet_L59 (l1 : Int) (l3 : Int) (x16 : Int) (C18 : ZC) : Option ((Int ⊕ Unit) × ZC) :=
  if 48 ≤ x16 then (some (.inr (), C18)) else (zg (0 ≤ (zadd (zmul 48 l1) x16) ∧ (zadd (zmul 48 l1) x16) < 192) (some (.inl (zadd x16 1), zup2 C18 94 (zadd (zmul 48 l1) x16).toNat 0)))
noncomputable def d_sheet (l1 : Int) (l2 : Int) (l3 : Int) (C : ZC) : Option (Int × ZC) :=
  zbd (d_isSheet l1 C) fun v1 C2 => if v1 = 0 then (some ((-2), C2)) else (zbd (d_in l2 0 2 C2) fun v5 C6 => if v5 = 0 then (some ((-2), C6)) else (if l3 ≤ 48 then (if 0 ≤ l3 then (zg (0 ≤ l1 ∧ l1 < 4) (zg (0 ≤ l1 ∧ l1 < 4) (zg (0 ≤ l1 ∧ l1 < 4) (zbd (zloop (d_sheet_L59 l1 l3) 0 (zup2 (zup2 (zup2 C6 91 l1.toNat 1) 92 l1.toNat l2) 93 l1.toNat l3)) fun y19 C24 => some (l3, C24))))) else (zbd (d_meets 5 C6) fun v25 C26 => some (v25, C26))) else (some ((-2), C6))))
set_option maxRecDepth 100000 in
theorem r_162 {d : Nat} {S : ZS} (hS : zShM S) {l1 : Int} {l2 : Int} {l3 : Int} {C : ZC} : zRq (zKi S) (d_sheet l1 l2 l3 C) (zR (d + 3) 162 0 [some (.inr (.inr (some 72))), some (.inl l1), some (.inl l2), some (.inl l3), none] [] S C) := by
  unfold d_sheet
  refine zRq_rw (zb_162_0 hS) ?_
  refine zRq_ci (r_112 hS) (fun v1 C2 => ?_)
  refine zRq_rw (zb_162_4 hS) ?_
  refine zRq_ite (fun h3 => ?_) (fun h4 => ?_)
  · refine zRq_rw (zb_162_22 hS) ?_
    exact zRq_rt fun r h => h
  · refine zRq_rw (zb_162_7 hS) ?_
    refine zRq_ci (r_101 hS) (fun v5 C6 => ?_)
    refine zRq_rw (zb_162_13 hS) ?_
    refine zRq_ite (fun h7 => ?_) (fun h8 => ?_)
    · refine zRq_rw (zb_162_22 hS) ?_
      exact zRq_rt fun r h => h
    · refine zRq_rw (zb_162_16 hS) ?_
      refine zRq_ite (fun h9 => ?_) (fun h10 => ?_)
      · refine zRq_rw (zb_162_25 hS) ?_
        refine zRq_ite (fun h11 => ?_) (fun h12 => ?_)
        · refine zRq_rw (zb_162_35 hS) ?_
          refine zRq_g (fun h13 => ?_)
          refine zRq_g (fun h14 => ?_)
          refine zRq_g (fun h15 => ?_)
          refine zRq_bdf (f := (fun (xq : Unit) (jq : Int) (Cq : ZC) => zR (d + 3) 162 85 [some (.inr (.inr (some 72))), some (.inl l1), some (.inl l2), some (.inl l3), some (.inl jq)] [] S Cq)) (zRq_loop (f := (fun (xq : Int) (jq : Unit) (Cq : ZC) => zR (d + 3) 162 59 [some (.inr (.inr (some 72))), some (.inl l1), some (.inl l2), some (.inl l3), some (.inl xq)] [] S Cq)) (fun x16 j17 C18 => ?_) _ () _) (fun y19 j23 C24 => ?_)
          · unfold d_sheet_L59
            refine zRq_rw (zb_162_59 hS) ?_
            refine zRq_ite (fun h20 => ?_) (fun h21 => ?_)
            · exact zRq_lf fun r h => h x16
            · refine zRq_rw (zb_162_66 hS) ?_
              refine zRq_g (fun h22 => ?_)
              exact zRq_lf fun r h => h ()
          · refine zRq_rw (zb_162_85 hS) ?_
            exact zRq_rt fun r h => h
        · refine zRq_rw (zb_162_29 hS) ?_
          refine zRq_ci (r_113 hS) (fun v25 C26 => ?_)
          refine zRq_rw (zb_162_34 hS) ?_
          exact zRq_rt fun r h => h
      · refine zRq_rw (zb_162_22 hS) ?_
        exact zRq_rt fun r h => h
-- 163: NewOrBackModel.lose(I)I
noncomputable def d_lose (l1 : Int) (C : ZC) : Option (Int × ZC) :=
  zbd (d_isSheet l1 C) fun v1 C2 => if ¬ v1 = 0 then (zg (0 ≤ l1 ∧ l1 < 4) (if ¬ ((C2 91 l1.toNat)) = 0 then (zg (0 ≤ l1 ∧ l1 < 4) (zg (0 ≤ l1 ∧ l1 < 4) (some (((zup2 C2 91 l1.toNat 0) 93 l1.toNat), zup2 C2 91 l1.toNat 0)))) else (zbd (d_meets 1 C2) fun v10 C11 => some (v10, C11)))) else (some ((-2), C2))
set_option maxRecDepth 100000 in
theorem r_163 {d : Nat} {S : ZS} (hS : zShM S) {l1 : Int} {C : ZC} : zRq (zKi S) (d_lose l1 C) (zR (d + 3) 163 0 [some (.inr (.inr (some 72))), some (.inl l1)] [] S C) := by
  unfold d_lose
  refine zRq_rw (zb_163_0 hS) ?_
  refine zRq_ci (r_112 hS) (fun v1 C2 => ?_)
  refine zRq_rw (zb_163_4 hS) ?_
  refine zRq_ite (fun h3 => ?_) (fun h4 => ?_)
  · refine zRq_rw (zb_163_10 hS) ?_
    refine zRq_g (fun h5 => ?_)
    refine zRq_ite (fun h6 => ?_) (fun h7 => ?_)
    · refine zRq_rw (zb_163_25 hS) ?_
      refine zRq_g (fun h8 => ?_)
      refine zRq_g (fun h9 => ?_)
      exact zRq_rt fun r h => h
    · refine zRq_rw (zb_163_19 hS) ?_
      refine zRq_ci (r_113 hS) (fun v10 C11 => ?_)
      refine zRq_rw (zb_163_24 hS) ?_
      exact zRq_rt fun r h => h
  · refine zRq_rw (zb_163_7 hS) ?_
    exact zRq_rt fun r h => h
-- 165: NewOrBackModel.lacks(III)I
noncomputable def d_lacks (l1 : Int) (l2 : Int) (l3 : Int) (C : ZC) : Option (Int × ZC) :=
  zg (0 ≤ l1 ∧ l1 < 4) (if ¬ ((C 91 l1.toNat)) = 0 then (zg (0 ≤ l1 ∧ l1 < 4) (if ((C 92 l1.toNat)) = l2 then (zg (0 ≤ l1 ∧ l1 < 4) (zbd (d_in l3 0 (zsub (C 93 l1.toNat) 1) C) fun v8 C9 => if v8 = 0 then (some (2, C9)) else (some (0, C9)))) else (some (3, C)))) else (some (1, C)))
set_option maxRecDepth 100000 in
theorem r_165 {d : Nat} {S : ZS} (hS : zShM S) {l1 : Int} {l2 : Int} {l3 : Int} {C : ZC} : zRq (zKi S) (d_lacks l1 l2 l3 C) (zR (d + 2) 165 0 [some (.inr (.inr (some 72))), some (.inl l1), some (.inl l2), some (.inl l3)] [] S C) := by
  unfold d_lacks
  refine zRq_rw (zb_165_0 hS) ?_
  refine zRq_g (fun h1 => ?_)
  refine zRq_ite (fun h2 => ?_) (fun h3 => ?_)
  · refine zRq_rw (zb_165_13 hS) ?_
    refine zRq_g (fun h4 => ?_)
    refine zRq_ite (fun h5 => ?_) (fun h6 => ?_)
    · refine zRq_rw (zb_165_27 hS) ?_
      refine zRq_g (fun h7 => ?_)
      refine zRq_ci (r_101 hS) (fun v8 C9 => ?_)
      refine zRq_rw (zb_165_40 hS) ?_
      refine zRq_ite (fun h10 => ?_) (fun h11 => ?_)
      · refine zRq_rw (zb_165_47 hS) ?_
        refine zRq_rw (zb_165_48 hS) ?_
        exact zRq_rt fun r h => h
      · refine zRq_rw (zb_165_43 hS) ?_
        refine zRq_rw (zb_165_48 hS) ?_
        exact zRq_rt fun r h => h
    · refine zRq_rw (zb_165_23 hS) ?_
      refine zRq_rw (zb_165_48 hS) ?_
      exact zRq_rt fun r h => h
  · refine zRq_rw (zb_165_9 hS) ?_
    refine zRq_rw (zb_165_48 hS) ?_
    exact zRq_rt fun r h => h
-- 166: NewOrBackModel.keep(III)V
noncomputable def d_keep (l1 : Int) (l2 : Int) (l3 : Int) (C : ZC) : Option (Int × ZC) :=
  zg (0 ≤ l1 ∧ l1 < 4) (if ¬ ((C 92 l1.toNat)) = 0 then (zg (0 ≤ l1 ∧ l1 < 4) (if ¬ ((C 92 l1.toNat)) = 1 then (zg (0 ≤ (zadd (zmul 48 l1) l2) ∧ (zadd (zmul 48 l1) l2) < 192) (some (0, zup2 C 94 (zadd (zmul 48 l1) l2).toNat l3))) else (zg (0 ≤ (zadd (zmul 48 l1) l2) ∧ (zadd (zmul 48 l1) l2) < 192) (some (0, zup2 C 94 (zadd (zmul 48 l1) l2).toNat (zi2s l3)))))) else (zg (0 ≤ (zadd (zmul 48 l1) l2) ∧ (zadd (zmul 48 l1) l2) < 192) (some (0, zup2 C 94 (zadd (zmul 48 l1) l2).toNat (zi2b l3)))))
set_option maxRecDepth 100000 in
theorem r_166 {d : Nat} {S : ZS} (hS : zShM S) {l1 : Int} {l2 : Int} {l3 : Int} {C : ZC} : zRq (zKv S) (d_keep l1 l2 l3 C) (zR (d + 1) 166 0 [some (.inr (.inr (some 72))), some (.inl l1), some (.inl l2), some (.inl l3)] [] S C) := by
  unfold d_keep
  refine zRq_rw (zb_166_0 hS) ?_
  refine zRq_g (fun h1 => ?_)
  refine zRq_ite (fun h2 => ?_) (fun h3 => ?_)
  · refine zRq_rw (zb_166_24 hS) ?_
    refine zRq_g (fun h4 => ?_)
    refine zRq_ite (fun h5 => ?_) (fun h6 => ?_)
    · refine zRq_rw (zb_166_39 hS) ?_
      refine zRq_rw (zb_166_40 hS) ?_
      refine zRq_g (fun h7 => ?_)
      exact zRq_rt fun r h => h
    · refine zRq_rw (zb_166_34 hS) ?_
      refine zRq_rw (zb_166_40 hS) ?_
      refine zRq_g (fun h8 => ?_)
      exact zRq_rt fun r h => h
  · refine zRq_rw (zb_166_19 hS) ?_
    refine zRq_rw (zb_166_40 hS) ?_
    refine zRq_g (fun h9 => ?_)
    exact zRq_rt fun r h => h
-- 164: NewOrBackModel.put(IIII)I
noncomputable def d_put (l1 : Int) (l2 : Int) (l3 : Int) (l4 : Int) (C : ZC) : Option (Int × ZC) :=
  zbd (d_isSheet l1 C) fun v1 C2 => if v1 = 0 then (some ((-2), C2)) else (zbd (d_in l2 0 2 C2) fun v5 C6 => if ¬ v5 = 0 then (zbd (d_lacks l1 l2 l3 C6) fun v9 C10 => if v9 ≤ 0 then (zbd (d_keep l1 l3 l4 C10) fun v13 C14 => some (1, C14)) else (zbd (d_meets v9 C10) fun v15 C16 => some (v15, C16))) else (some ((-2), C6)))
set_option maxRecDepth 100000 in
theorem r_164 {d : Nat} {S : ZS} (hS : zShM S) {l1 : Int} {l2 : Int} {l3 : Int} {l4 : Int} {C : ZC} : zRq (zKi S) (d_put l1 l2 l3 l4 C) (zR (d + 3) 164 0 [some (.inr (.inr (some 72))), some (.inl l1), some (.inl l2), some (.inl l3), some (.inl l4), none] [] S C) := by
  unfold d_put
  refine zRq_rw (zb_164_0 hS) ?_
  refine zRq_ci (r_112 hS) (fun v1 C2 => ?_)
  refine zRq_rw (zb_164_4 hS) ?_
  refine zRq_ite (fun h3 => ?_) (fun h4 => ?_)
  · refine zRq_rw (zb_164_16 hS) ?_
    exact zRq_rt fun r h => h
  · refine zRq_rw (zb_164_7 hS) ?_
    refine zRq_ci (r_101 hS) (fun v5 C6 => ?_)
    refine zRq_rw (zb_164_13 hS) ?_
    refine zRq_ite (fun h7 => ?_) (fun h8 => ?_)
    · refine zRq_rw (zb_164_19 hS) ?_
      refine zRq_ci (r_165 hS) (fun v9 C10 => ?_)
      refine zRq_rw (zb_164_26 hS) ?_
      refine zRq_ite (fun h11 => ?_) (fun h12 => ?_)
      · refine zRq_rw (zb_164_40 hS) ?_
        refine zRq_cv (r_166 hS) (fun v13 C14 => ?_)
        refine zRq_rw (zb_164_48 hS) ?_
        exact zRq_rt fun r h => h
      · refine zRq_rw (zb_164_33 hS) ?_
        refine zRq_ci (r_113 hS) (fun v15 C16 => ?_)
        refine zRq_rw (zb_164_39 hS) ?_
        exact zRq_rt fun r h => h
    · refine zRq_rw (zb_164_16 hS) ?_
      exact zRq_rt fun r h => h
-- 167: NewOrBackModel.get(III)I
noncomputable def d_get (l1 : Int) (l2 : Int) (l3 : Int) (C : ZC) : Option (Int × ZC) :=
  zbd (d_isSheet l1 C) fun v1 C2 => if v1 = 0 then (some ((-2147483648), C2)) else (zbd (d_in l2 0 2 C2) fun v5 C6 => if ¬ v5 = 0 then (zbd (d_lacks l1 l2 l3 C6) fun v9 C10 => if v9 ≤ 0 then (zg (0 ≤ (zadd (zmul 48 l1) l3) ∧ (zadd (zmul 48 l1) l3) < 192) (some ((C10 94 (zadd (zmul 48 l1) l3).toNat), C10))) else (some ((-2147483648), zup2 C10 72 33 v9))) else (some ((-2147483648), C6)))
set_option maxRecDepth 100000 in
theorem r_167 {d : Nat} {S : ZS} (hS : zShM S) {l1 : Int} {l2 : Int} {l3 : Int} {C : ZC} : zRq (zKi S) (d_get l1 l2 l3 C) (zR (d + 3) 167 0 [some (.inr (.inr (some 72))), some (.inl l1), some (.inl l2), some (.inl l3), none] [] S C) := by
  unfold d_get
  refine zRq_rw (zb_167_0 hS) ?_
  refine zRq_ci (r_112 hS) (fun v1 C2 => ?_)
  refine zRq_rw (zb_167_4 hS) ?_
  refine zRq_ite (fun h3 => ?_) (fun h4 => ?_)
  · refine zRq_rw (zb_167_16 hS) ?_
    exact zRq_rt fun r h => h
  · refine zRq_rw (zb_167_7 hS) ?_
    refine zRq_ci (r_101 hS) (fun v5 C6 => ?_)
    refine zRq_rw (zb_167_13 hS) ?_
    refine zRq_ite (fun h7 => ?_) (fun h8 => ?_)
    · refine zRq_rw (zb_167_19 hS) ?_
      refine zRq_ci (r_165 hS) (fun v9 C10 => ?_)
      refine zRq_rw (zb_167_26 hS) ?_
      refine zRq_ite (fun h11 => ?_) (fun h12 => ?_)
      · refine zRq_rw (zb_167_42 hS) ?_
        refine zRq_g (fun h13 => ?_)
        exact zRq_rt fun r h => h
      · refine zRq_rw (zb_167_33 hS) ?_
        exact zRq_rt fun r h => h
    · refine zRq_rw (zb_167_16 hS) ?_
      exact zRq_rt fun r h => h
-- 168: NewOrBackModel.copy(IIIII)I
noncomputable def d_copy_L120 (l1 : Int) (l2 : Int) (l3 : Int) (l4 : Int) (l5 : Int) (x41 : Int) (C43 : ZC) : Option ((Int ⊕ Unit) × ZC) :=
  if l5 ≤ x41 then (some (.inr (), C43)) else (zg (0 ≤ (zadd (zadd (zmul 48 l1) l2) x41) ∧ (zadd (zadd (zmul 48 l1) l2) x41) < 192) (zg (0 ≤ x41 ∧ x41 < 48) (some (.inl (zadd x41 1), zup2 C43 95 x41.toNat (C43 94 (zadd (zadd (zmul 48 l1) l2) x41).toNat)))))
noncomputable def d_copy_L157 (l3 : Int) (l4 : Int) (l5 : Int) (x51 : Int) (C53 : ZC) : Option ((Int ⊕ Unit) × ZC) :=
  if l5 ≤ x51 then (some (.inr (), C53)) else (zg (0 ≤ x51 ∧ x51 < 48) (zg (0 ≤ (zadd (zadd (zmul 48 l3) l4) x51) ∧ (zadd (zadd (zmul 48 l3) l4) x51) < 192) (some (.inl (zadd x51 1), zup2 C53 94 (zadd (zadd (zmul 48 l3) l4) x51).toNat (C53 95 x51.toNat)))))
noncomputable def d_copy (l1 : Int) (l2 : Int) (l3 : Int) (l4 : Int) (l5 : Int) (C : ZC) : Option (Int × ZC) :=
  zbd (d_isSheet l1 C) fun v1 C2 => if v1 = 0 then (some ((-2), C2)) else (zbd (d_isSheet l3 C2) fun v5 C6 => if ¬ v5 = 0 then (zg (0 ≤ l1 ∧ l1 < 4) (if ((C6 91 l1.toNat)) = 0 then (zbd (d_meets 1 C6) fun v12 C13 => some (v12, C13)) else (zg (0 ≤ l3 ∧ l3 < 4) (if ¬ ((C6 91 l3.toNat)) = 0 then (zg (0 ≤ l1 ∧ l1 < 4) (zg (0 ≤ l3 ∧ l3 < 4) (if ((C6 92 l1.toNat)) = ((C6 92 l3.toNat)) then (if l2 < 0 then (zbd (d_meets 2 C6) fun v23 C24 => some (v23, C24)) else (if l4 < 0 then (zbd (d_meets 2 C6) fun v27 C28 => some (v27, C28)) else (if l5 < 0 then (zbd (d_meets 2 C6) fun v31 C32 => some (v31, C32)) else (zg (0 ≤ l1 ∧ l1 < 4) (if 0 < ((if (C6 93 l1.toNat) < (zladd l2 l5) then 1 else if (zladd l2 l5) = (C6 93 l1.toNat) then 0 else -1)) then (zbd (d_meets 2 C6) fun v36 C37 => some (v36, C37)) else (zg (0 ≤ l3 ∧ l3 < 4) (if ((if (C6 93 l3.toNat) < (zladd l4 l5) then 1 else if (zladd l4 l5) = (C6 93 l3.toNat) then 0 else -1)) ≤ 0 then (zbd (zloop (d_copy_L120 l1 l2 l3 l4 l5) 0 C6) fun y44 C50 => zbd (zloop (d_copy_L157 l3 l4 l5) 0 C50) fun y54 C60 => some (1, C60)) else (zbd (d_meets 2 C6) fun v61 C62 => some (v61, C62))))))))) else (zbd (d_meets 4 C6) fun v63 C64 => some (v63, C64))))) else (zbd (d_meets 1 C6) fun v65 C66 => some (v65, C66)))))) else (some ((-2), C6)))
set_option maxRecDepth 100000 in
theorem r_168 {d : Nat} {S : ZS} (hS : zShM S) {l1 : Int} {l2 : Int} {l3 : Int} {l4 : Int} {l5 : Int} {C : ZC} : zRq (zKi S) (d_copy l1 l2 l3 l4 l5 C) (zR (d + 3) 168 0 [some (.inr (.inr (some 72))), some (.inl l1), some (.inl l2), some (.inl l3), some (.inl l4), some (.inl l5), none] [] S C) := by
  unfold d_copy
  refine zRq_rw (zb_168_0 hS) ?_
  refine zRq_ci (r_112 hS) (fun v1 C2 => ?_)
  refine zRq_rw (zb_168_4 hS) ?_
  refine zRq_ite (fun h3 => ?_) (fun h4 => ?_)
  · refine zRq_rw (zb_168_14 hS) ?_
    exact zRq_rt fun r h => h
  · refine zRq_rw (zb_168_7 hS) ?_
    refine zRq_ci (r_112 hS) (fun v5 C6 => ?_)
    refine zRq_rw (zb_168_11 hS) ?_
    refine zRq_ite (fun h7 => ?_) (fun h8 => ?_)
    · refine zRq_rw (zb_168_17 hS) ?_
      refine zRq_g (fun h9 => ?_)
      refine zRq_ite (fun h10 => ?_) (fun h11 => ?_)
      · refine zRq_rw (zb_168_35 hS) ?_
        refine zRq_ci (r_113 hS) (fun v12 C13 => ?_)
        refine zRq_rw (zb_168_40 hS) ?_
        exact zRq_rt fun r h => h
      · refine zRq_rw (zb_168_26 hS) ?_
        refine zRq_g (fun h14 => ?_)
        refine zRq_ite (fun h15 => ?_) (fun h16 => ?_)
        · refine zRq_rw (zb_168_41 hS) ?_
          refine zRq_g (fun h17 => ?_)
          refine zRq_g (fun h18 => ?_)
          refine zRq_ite (fun h19 => ?_) (fun h20 => ?_)
          · refine zRq_rw (zb_168_62 hS) ?_
            refine zRq_ite (fun h21 => ?_) (fun h22 => ?_)
            · refine zRq_rw (zb_168_111 hS) ?_
              refine zRq_ci (r_113 hS) (fun v23 C24 => ?_)
              refine zRq_rw (zb_168_116 hS) ?_
              exact zRq_rt fun r h => h
            · refine zRq_rw (zb_168_66 hS) ?_
              refine zRq_ite (fun h25 => ?_) (fun h26 => ?_)
              · refine zRq_rw (zb_168_111 hS) ?_
                refine zRq_ci (r_113 hS) (fun v27 C28 => ?_)
                refine zRq_rw (zb_168_116 hS) ?_
                exact zRq_rt fun r h => h
              · refine zRq_rw (zb_168_71 hS) ?_
                refine zRq_ite (fun h29 => ?_) (fun h30 => ?_)
                · refine zRq_rw (zb_168_111 hS) ?_
                  refine zRq_ci (r_113 hS) (fun v31 C32 => ?_)
                  refine zRq_rw (zb_168_116 hS) ?_
                  exact zRq_rt fun r h => h
                · refine zRq_rw (zb_168_76 hS) ?_
                  refine zRq_g (fun h33 => ?_)
                  refine zRq_ite (fun h34 => ?_) (fun h35 => ?_)
                  · refine zRq_rw (zb_168_111 hS) ?_
                    refine zRq_ci (r_113 hS) (fun v36 C37 => ?_)
                    refine zRq_rw (zb_168_116 hS) ?_
                    exact zRq_rt fun r h => h
                  · refine zRq_rw (zb_168_93 hS) ?_
                    refine zRq_g (fun h38 => ?_)
                    refine zRq_ite (fun h39 => ?_) (fun h40 => ?_)
                    · refine zRq_rw (zb_168_117 hS) ?_
                      refine zRq_bdf (f := (fun (xq : Unit) (jq : Int) (Cq : ZC) => zR (d + 3) 168 154 [some (.inr (.inr (some 72))), some (.inl l1), some (.inl l2), some (.inl l3), some (.inl l4), some (.inl l5), some (.inl jq)] [] S Cq)) (zRq_loop (f := (fun (xq : Int) (jq : Unit) (Cq : ZC) => zR (d + 3) 168 120 [some (.inr (.inr (some 72))), some (.inl l1), some (.inl l2), some (.inl l3), some (.inl l4), some (.inl l5), some (.inl xq)] [] S Cq)) (fun x41 j42 C43 => ?_) _ () _) (fun y44 j49 C50 => ?_)
                      · unfold d_copy_L120
                        refine zRq_rw (zb_168_120 hS) ?_
                        refine zRq_ite (fun h45 => ?_) (fun h46 => ?_)
                        · exact zRq_lf fun r h => h x41
                        · refine zRq_rw (zb_168_127 hS) ?_
                          refine zRq_g (fun h47 => ?_)
                          refine zRq_g (fun h48 => ?_)
                          exact zRq_lf fun r h => h ()
                      · refine zRq_rw (zb_168_154 hS) ?_
                        refine zRq_bdf (f := (fun (xq : Unit) (jq : Int) (Cq : ZC) => zR (d + 3) 168 192 [some (.inr (.inr (some 72))), some (.inl l1), some (.inl l2), some (.inl l3), some (.inl l4), some (.inl l5), some (.inl jq)] [] S Cq)) (zRq_loop (f := (fun (xq : Int) (jq : Unit) (Cq : ZC) => zR (d + 3) 168 157 [some (.inr (.inr (some 72))), some (.inl l1), some (.inl l2), some (.inl l3), some (.inl l4), some (.inl l5), some (.inl xq)] [] S Cq)) (fun x51 j52 C53 => ?_) _ () _) (fun y54 j59 C60 => ?_)
                        · unfold d_copy_L157
                          refine zRq_rw (zb_168_157 hS) ?_
                          refine zRq_ite (fun h55 => ?_) (fun h56 => ?_)
                          · exact zRq_lf fun r h => h x51
                          · refine zRq_rw (zb_168_164 hS) ?_
                            refine zRq_g (fun h57 => ?_)
                            refine zRq_g (fun h58 => ?_)
                            exact zRq_lf fun r h => h ()
                        · refine zRq_rw (zb_168_192 hS) ?_
                          exact zRq_rt fun r h => h
                    · refine zRq_rw (zb_168_111 hS) ?_
                      refine zRq_ci (r_113 hS) (fun v61 C62 => ?_)
                      refine zRq_rw (zb_168_116 hS) ?_
                      exact zRq_rt fun r h => h
          · refine zRq_rw (zb_168_56 hS) ?_
            refine zRq_ci (r_113 hS) (fun v63 C64 => ?_)
            refine zRq_rw (zb_168_61 hS) ?_
            exact zRq_rt fun r h => h
        · refine zRq_rw (zb_168_35 hS) ?_
          refine zRq_ci (r_113 hS) (fun v65 C66 => ?_)
          refine zRq_rw (zb_168_40 hS) ?_
          exact zRq_rt fun r h => h
    · refine zRq_rw (zb_168_14 hS) ?_
      exact zRq_rt fun r h => h
-- 169: NewOrBackModel.write(II)I
noncomputable def d_write_L34 (l1 : Int) (l2 : Int) (x12 : Int) (C14 : ZC) : Option ((Int ⊕ Int) × ZC) :=
  zg (0 ≤ l2 ∧ l2 < 4) (if ((C14 93 l2.toNat)) ≤ x12 then (some (.inr x12, C14)) else (if 8 ≤ x12 then (some (.inr x12, C14)) else (zbd (d_soonOf l1 x12 C14) fun v21 C22 => zbd (d_keep l2 x12 v21 C22) fun v23 C24 => some (.inl (zadd x12 1), C24))))
noncomputable def d_write (l1 : Int) (l2 : Int) (C : ZC) : Option (Int × ZC) :=
  zbd (d_isWalker l1 C) fun v1 C2 => if v1 = 0 then (some ((-2), C2)) else (zbd (d_isSheet l2 C2) fun v5 C6 => if ¬ v5 = 0 then (zg (0 ≤ l2 ∧ l2 < 4) (if ¬ ((C6 91 l2.toNat)) = 0 then (zbd (zloop (d_write_L34 l1 l2) 0 C6) fun y15 C26 => some (y15, C26)) else (zbd (d_meets 1 C6) fun v27 C28 => some (v27, C28)))) else (some ((-2), C6)))
set_option maxRecDepth 100000 in
theorem r_169 {d : Nat} {S : ZS} (hS : zShM S) {l1 : Int} {l2 : Int} {C : ZC} : zRq (zKi S) (d_write l1 l2 C) (zR (d + 6) 169 0 [some (.inr (.inr (some 72))), some (.inl l1), some (.inl l2), none] [] S C) := by
  unfold d_write
  refine zRq_rw (zb_169_0 hS) ?_
  refine zRq_ci (r_109 hS) (fun v1 C2 => ?_)
  refine zRq_rw (zb_169_4 hS) ?_
  refine zRq_ite (fun h3 => ?_) (fun h4 => ?_)
  · refine zRq_rw (zb_169_14 hS) ?_
    exact zRq_rt fun r h => h
  · refine zRq_rw (zb_169_7 hS) ?_
    refine zRq_ci (r_112 hS) (fun v5 C6 => ?_)
    refine zRq_rw (zb_169_11 hS) ?_
    refine zRq_ite (fun h7 => ?_) (fun h8 => ?_)
    · refine zRq_rw (zb_169_17 hS) ?_
      refine zRq_g (fun h9 => ?_)
      refine zRq_ite (fun h10 => ?_) (fun h11 => ?_)
      · refine zRq_rw (zb_169_32 hS) ?_
        refine zRq_bdf (f := (fun (xq : Int) (jq : Unit) (Cq : ZC) => zR (d + 6) 169 68 [some (.inr (.inr (some 72))), some (.inl l1), some (.inl l2), some (.inl xq)] [] S Cq)) (zRq_loop (f := (fun (xq : Int) (jq : Unit) (Cq : ZC) => zR (d + 6) 169 34 [some (.inr (.inr (some 72))), some (.inl l1), some (.inl l2), some (.inl xq)] [] S Cq)) (fun x12 j13 C14 => ?_) _ () _) (fun y15 j25 C26 => ?_)
        · unfold d_write_L34
          refine zRq_rw (zb_169_34 hS) ?_
          refine zRq_g (fun h16 => ?_)
          refine zRq_ite (fun h17 => ?_) (fun h18 => ?_)
          · exact zRq_lf fun r h => h ()
          · refine zRq_rw (zb_169_44 hS) ?_
            refine zRq_ite (fun h19 => ?_) (fun h20 => ?_)
            · exact zRq_lf fun r h => h ()
            · refine zRq_rw (zb_169_50 hS) ?_
              refine zRq_ci (r_132 hS) (fun v21 C22 => ?_)
              refine zRq_rw (zb_169_59 hS) ?_
              refine zRq_cv (r_166 hS) (fun v23 C24 => ?_)
              refine zRq_rw (zb_169_62 hS) ?_
              exact zRq_lf fun r h => h ()
        · refine zRq_rw (zb_169_68 hS) ?_
          exact zRq_rt fun r h => h
      · refine zRq_rw (zb_169_26 hS) ?_
        refine zRq_ci (r_113 hS) (fun v27 C28 => ?_)
        refine zRq_rw (zb_169_31 hS) ?_
        exact zRq_rt fun r h => h
    · refine zRq_rw (zb_169_14 hS) ?_
      exact zRq_rt fun r h => h
-- 171: NewOrBackModel.sumOf(I)I
noncomputable def d_sumOf_L10 (l1 : Int) (x3 : (Int × Int)) (C5 : ZC) : Option (((Int × Int) ⊕ Int) × ZC) :=
  if ((C5 72 2)) ≤ ((x3.2)) then (some (.inr (x3.1), C5)) else (zg (0 ≤ (x3.2) ∧ (x3.2) < 13) (some (.inl ((zadd (x3.1) (C5 77 (x3.2).toNat)), (zadd (x3.2) 1)), C5)))
noncomputable def d_sumOf (l1 : Int) (C : ZC) : Option (Int × ZC) :=
  zbd (d_faultNow C) fun v1 C2 => zbd (zloop (d_sumOf_L10 l1) (0, 0) C2) fun y6 C11 => if ¬ l1 = 0 then (some (y6, C11)) else (some ((C11 72 2), C11))
set_option maxRecDepth 100000 in
theorem r_171 {d : Nat} {S : ZS} (hS : zShM S) {l1 : Int} {C : ZC} : zRq (zKi S) (d_sumOf l1 C) (zR (d + 4) 171 0 [some (.inr (.inr (some 72))), some (.inl l1), none, none, none] [] S C) := by
  unfold d_sumOf
  refine zRq_rw (zb_171_0 hS) ?_
  refine zRq_ci (r_104 hS) (fun v1 C2 => ?_)
  refine zRq_rw (zb_171_4 hS) ?_
  refine zRq_bdf (f := (fun (xq : Int) (jq : Int) (Cq : ZC) => zR (d + 4) 171 35 [some (.inr (.inr (some 72))), some (.inl l1), some (.inl v1), some (.inl xq), some (.inl jq)] [] S Cq)) (zRq_loop (f := (fun (xq : (Int × Int)) (jq : Unit) (Cq : ZC) => zR (d + 4) 171 10 [some (.inr (.inr (some 72))), some (.inl l1), some (.inl v1), some (.inl (xq.1)), some (.inl (xq.2))] [] S Cq)) (fun x3 j4 C5 => ?_) _ () _) (fun y6 j10 C11 => ?_)
  · unfold d_sumOf_L10
    refine zRq_rw (zb_171_10 hS) ?_
    refine zRq_ite (fun h7 => ?_) (fun h8 => ?_)
    · exact zRq_lf fun r h => h (x3.2)
    · refine zRq_rw (zb_171_19 hS) ?_
      refine zRq_g (fun h9 => ?_)
      exact zRq_lf fun r h => h ()
  · refine zRq_rw (zb_171_35 hS) ?_
    refine zRq_ite (fun h12 => ?_) (fun h13 => ?_)
    · refine zRq_rw (zb_171_46 hS) ?_
      refine zRq_rw (zb_171_47 hS) ?_
      exact zRq_rt fun r h => h
    · refine zRq_rw (zb_171_39 hS) ?_
      refine zRq_rw (zb_171_47 hS) ?_
      exact zRq_rt fun r h => h

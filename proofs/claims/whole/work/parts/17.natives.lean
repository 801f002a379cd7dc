/-! The natives -/
theorem zcat_sum : ∀ l : List Value, (l.map fun v => v.category).sum ≤ 2 * l.length
  | [] => Nat.le_refl _
  | v :: l => by
    have h := zcat_sum l
    have h1 : v.category ≤ 2 := by rcases lv_cat v with h | h <;> omega
    show v.category + (l.map fun v => v.category).sum ≤ 2 * (l.length + 1)
    omega
theorem zcat_map {b base : Nat} {r : List ZV} (h : r.length ≤ 4) : ((r.map (ztr b base)).map fun v => v.category).sum ≤ 8 := by
  have h1 := zcat_sum (r.map (ztr b base))
  rw [List.length_map] at h1
  omega
section ZNAT
variable {p : Program} {l : Launch} {e : Env} {R : Room} {s : State} {m : MethodId} {args : Array Value} {below : List Frame} {meth : Method} {c : Code} {H : Heap} {locs : List Loc} {cells slots : Nat} {Q : State → Prop}
theorem W_copy {cc : ByteArray} {pc : Nat} {ls : Array Slot} {rest : List Value} (hexec : p.tables.exec = Jvm.exec) (hb : c.code = cc) (hml : c.maxLocals = ls.size) {own : String} {index : Nat} (hown : s.vm.findClass own = some m.cls) (hlink : (Cond.methodLink own index arraycopyName).before args s = true) (hnat : (Cond.native arraycopyName).before args s = true) (hstat : (Cond.static arraycopyName).before args s = true) (hini : (Cond.initialized "java/lang/System").before args s = true)
    {a a0 : Nat} {cI : ClassId} {n0 n1 : Nat} {f g : Nat → Int32} (hA : ArrOfT s cI .int) (hc0 : H[a0]? = some (arrV cI n0 (fun j => .int (f j)))) (hc1 : H[a]? = some (arrV cI n1 (fun j => .int (g j))))
    {sp dp n : Int32} (h1 : ¬ sp < 0) (h2 : ¬ dp < 0) (h3 : ¬ n < 0) (h4 : sp.toNatClampNeg + n.toNatClampNeg ≤ n0) (h5 : dp.toNatClampNeg + n.toNatClampNeg ≤ n1)
    (hframes : 1 ≤ R.frames) (hlocals : (rest.map fun v => v.category).sum + (nativeFrameWords "java/lang/System" "arraycopy" 5 + 11) ≤ R.locals) (hdg : decode cc pc = .ok (.invokestatic index, 3))
    (kk : ∀ (H1 : Heap) (locs1 : List Loc), H1.size = H.size → (∀ q : Nat, q ≠ a → H1[q]? = H[q]?) → H1[a]? = some (arrV cI n1 (fun j => .int (va_cpy f g sp.toNatClampNeg dp.toNatClampNeg n.toNatClampNeg j))) → (∀ x ∈ locs1, x ∈ locs ∨ x.base = a) → W p l e R s m args below meth c H1 locs1 cells slots Q (F0 m (pc + 3) ls rest)) : W p l e R s m args below meth c H locs cells slots Q (F0 m pc ls (.int n :: .int dp :: .ref a :: .int sp :: .ref a0 :: rest)) := by
  have nn : ∀ z : Int32, ¬ z < 0 → z.toInt = (z.toNatClampNeg : Int) := by
    intro z hz
    have hz0 : (0 : Int) ≤ z.toInt := by
      have := Int32.not_lt.mp hz
      simpa using Int32.le_iff_toInt_le.mp this
    show z.toInt = ((z.toInt.toNat : Nat) : Int)
    omega
  intro T hT X
  obtain ⟨-, k0, hk0, cm0, hkk0⟩ := hA n0 (fun j => .int (f j))
  obtain ⟨-, k1, hk1, cm1, hkk1⟩ := hA n1 (fun j => .int (g j))
  obtain ⟨vm', X', step⟩ := X.arraycopy hexec hown hlink hnat hstat hini (src := a0) (dst := a) (cs := arrV cI n0 (fun j => .int (f j))) (cd := arrV cI n1 (fun j => .int (g j))) (srcPos := sp) (destPos := dp) (n := n) (by rw [hT]; exact hc0) (by rw [hT]; exact hc1)
    (fun _ h => by cases h) (fun _ h => by cases h) (fun h => by cases h) (fun h => by cases h) hk0 hk1 hkk0 hkk1 (by decide) h1 h2 h3
    (by rw [nn sp h1, nn n h3, arrV_size]; omega)
    (by rw [nn dp h2, nn n h3, arrV_size]; omega)
    (fun vm₁ _ i hi => by
      have e : (arrV cI n0 (fun j => .int (f j))).slots.getD (sp.toNatClampNeg + i) .null = .int (f (sp.toNatClampNeg + i)) := by
        rw [Array.getD_eq_getD_getElem?, arrV_read _ _ (by omega)]
        rfl
      exact ⟨by rw [e]; rfl, by rw [e]; exact trivial⟩)
    (g := F0 m pc ls (.int n :: .int dp :: .ref a :: .int sp :: .ref a0 :: rest)) rfl (by rw [hml]) (rest := rest) rfl (by rw [hb]; exact hdg) hframes (by show 2 * 0 + _ + _ ≤ _; omega)
  have e1 : copied (arrV cI n0 (fun j => .int (f j))) (arrV cI n1 (fun j => .int (g j))) sp dp n = arrV cI n1 (fun j => .int (va_cpy f g sp.toNatClampNeg dp.toNatClampNeg n.toNatClampNeg j)) := va_copied (fun z => .int z) cI cI f g h4
  rw [e1] at X' step
  have hl : a < H.size := (Array.getElem?_eq_some_iff.mp hc1).1
  generalize hcell : arrV cI n1 (fun j => Value.int (va_cpy f g sp.toNatClampNeg dp.toNatClampNeg n.toNatClampNeg j)) = cell at X' step kk
  have hheap : ((T.setVm vm').setCell a cell).heap = H.setIfInBounds a cell := by rw [← hT]; rfl
  obtain ⟨t, a1, b1⟩ := kk _ _ (by simp) (fun q hq => by simp [Array.getElem?_setIfInBounds, Ne.symm hq]) (by simp [Array.getElem?_setIfInBounds, hl]) (fun x hx => by
    rcases List.mem_append.mp hx with h | h
    · exact Or.inl h
    · obtain ⟨z, -, hz⟩ := List.mem_map.mp h
      exact Or.inr (by rw [← hz])) _ hheap X'
  exact ⟨t, step t a1, b1⟩
variable {q : ZM} {D : va_G} {K : ZK} {b base pc len x y pl : Nat} {z : Int} {ins : Instr} {lsA : Array Slot} {ls : ZL} {st : List ZV} {S : ZS} {C : ZC} {o : ZO}
theorem zn_words : nativeFrameWords "java/lang/System" "arraycopy" 5 ≤ 20 := by decide +kernel
theorem z32_ite {f : Prop} [Decidable f] {a b : Int} (ha : z32 a = a) (hb : z32 b = b) : z32 (if f then a else b) = if f then a else b := by
  split
  · exact ha
  · exact hb
set_option maxHeartbeats 2000000 in
theorem znat_sound (h : znat ins x pc ls st S C = some o) (hc : zctx p s m args meth c q D K) (hk : zchk q (pc, ins, len, (x, y, z), pl) = true) (hx : 1000 ≤ x) (hx2 : x ≤ 1002) (hx3 : ∀ i, ins = .invokespecial i → x = 1000) (hR1 : 1 ≤ R.frames) (hR2 : 100 ≤ R.locals) (hcells : cells ≤ R.cells) (hslots : slots ≤ R.slots)
    (hr : zrel D K b base s S C H) (hl : zloc b base q.2.2.1 lsA ls) (hok : ∀ v ∈ st, zok v) (hS : va_S (fun q : Nat => base ≤ q) s.heap H locs) (kk : zkk p l e R s m args below meth c cells slots Q D K b base q.2.2.1 S o) : W p l e R s m args below meth c H locs cells slots Q (F0 m pc lsA (st.map (ztr b base))) := by
  obtain ⟨hex, hb, hml, hown, hts, hnw, hK, hname⟩ := id hc
  have hlsz : c.maxLocals = lsA.size := by rw [hml]; exact hl.1.1.symm
  obtain ⟨hd, hn, hz⟩ := zchk_at hk
  have hwn := zn_words
  unfold znat at h
  by_cases x1 : x = 1001
  · rw [if_pos x1] at h
    split at h
    · next i bb a r =>
      split at h
      · next hr4 =>
        have hd := zdec hd hn
        have hz : (if x = 1000 then decide (lw_tbl[pl]? = some (.methodLink q.1.cls i arraycopyName)) else if x = 1001 then decide (lw_tbl[pl]? = some (.methodLink q.1.cls i Lib.Math.min.name)) else if x = 1002 then decide (lw_tbl[pl]? = some (.methodLink q.1.cls i Lib.Math.max.name)) else decide (x < zM.length ∧ lw_tbl[pl]? = some (zmk_ q.1.cls i (zMn x) z)) && zpn (zMn x) y) = true := hz
        rw [if_neg (by omega), if_pos x1] at hz
        have hz := of_decide_eq_true hz
        have hb0 : z32 bb = bb := hok (.inl bb) List.mem_cons_self
        have ha0 : z32 a = a := hok (.inl a) (List.mem_cons_of_mem _ List.mem_cons_self)
        have hsum := zcat_map (b := b) (base := base) hr4
        refine va_mmin hex hb hlsz hown (hts _ (zW_of pl hz rfl)) (hts _ (zW_of _ zw_mins rfl)) (hts _ (zW_of _ zw_math rfl)) (hts _ (zW_of _ zw_minc rfl)) hR1 (by omega) hcells hslots hd ?_
        have e1 : (if Int32.ofInt bb < Int32.ofInt a then Int32.ofInt bb else Int32.ofInt a) = Int32.ofInt (if bb < a then bb else a) := by
          simp only [z32_lt hb0 ha0]
          split <;> rfl
        rw [e1]
        cases h
        refine kk.same (st' := .inl _ :: r) rfl hr hl (fun w hw => ?_) hS
        rcases List.mem_cons.mp hw with rfl | hw
        · exact z32_ite hb0 ha0
        · exact hok w (List.mem_cons_of_mem _ (List.mem_cons_of_mem _ hw))
      · cases h
    · cases h
  · rw [if_neg x1] at h
    by_cases x2 : x = 1002
    · rw [if_pos x2] at h
      split at h
      · next i bb a r =>
        split at h
        · next hr4 =>
          have hd := zdec hd hn
          have hz : (if x = 1000 then decide (lw_tbl[pl]? = some (.methodLink q.1.cls i arraycopyName)) else if x = 1001 then decide (lw_tbl[pl]? = some (.methodLink q.1.cls i Lib.Math.min.name)) else if x = 1002 then decide (lw_tbl[pl]? = some (.methodLink q.1.cls i Lib.Math.max.name)) else decide (x < zM.length ∧ lw_tbl[pl]? = some (zmk_ q.1.cls i (zMn x) z)) && zpn (zMn x) y) = true := hz
          rw [if_neg (by omega), if_neg (by omega), if_pos x2] at hz
          have hz := of_decide_eq_true hz
          have hb0 : z32 bb = bb := hok (.inl bb) List.mem_cons_self
          have ha0 : z32 a = a := hok (.inl a) (List.mem_cons_of_mem _ List.mem_cons_self)
          have hsum := zcat_map (b := b) (base := base) hr4
          refine va_mmax hex hb hlsz hown (hts _ (zW_of pl hz rfl)) (hts _ (zW_of _ zw_maxs rfl)) (hts _ (zW_of _ zw_math rfl)) (hts _ (zW_of _ zw_maxc rfl)) hR1 (by omega) hcells hslots hd ?_
          have e1 : (if Int32.ofInt a < Int32.ofInt bb then Int32.ofInt bb else Int32.ofInt a) = Int32.ofInt (if a < bb then bb else a) := by
            simp only [z32_lt ha0 hb0]
            split <;> rfl
          rw [e1]
          cases h
          refine kk.same (st' := .inl _ :: r) rfl hr hl (fun w hw => ?_) hS
          rcases List.mem_cons.mp hw with rfl | hw
          · exact z32_ite hb0 ha0
          · exact hok w (List.mem_cons_of_mem _ (List.mem_cons_of_mem _ hw))
        · cases h
      · cases h
    · rw [if_neg x2] at h
      have x0 : x = 1000 := by omega
      split at h
      · next i n dp a sp a0 r =>
        split at h
        · next hg =>
          obtain ⟨han, ha0n, hak, ha0k, n0, dp0, sp0, hs1, hs2, hr4⟩ := hg
          have hd := zdec hd hn
          have hz : (if x = 1000 then decide (lw_tbl[pl]? = some (.methodLink q.1.cls i arraycopyName)) else if x = 1001 then decide (lw_tbl[pl]? = some (.methodLink q.1.cls i Lib.Math.min.name)) else if x = 1002 then decide (lw_tbl[pl]? = some (.methodLink q.1.cls i Lib.Math.max.name)) else decide (x < zM.length ∧ lw_tbl[pl]? = some (zmk_ q.1.cls i (zMn x) z)) && zpn (zMn x) y) = true := hz
          rw [if_pos x0] at hz
          have hz := of_decide_eq_true hz
          have hn0 : z32 n = n := hok (.inl n) List.mem_cons_self
          have hdp0 : z32 dp = dp := hok (.inl dp) (List.mem_cons_of_mem _ List.mem_cons_self)
          have hsp0 : z32 sp = sp := hok (.inl sp) (List.mem_cons_of_mem _ (List.mem_cons_of_mem _ (List.mem_cons_of_mem _ List.mem_cons_self)))
          have ha1 := hr.n1 hak (by omega)
          have ha01 := hr.n1 ha0k (by omega)
          have hsum := zcat_map (b := b) (base := base) hr4
          have hc0 : H[zad b base a0]? = some (arrV K.1 (S.2.2.1 a0) (fun j => .int (Int32.ofInt (C a0 j)))) := zcell_arr (hr.2.2.2.2.1 a0 ha01 ha0n) ha0k (by omega)
          have hc1 : H[zad b base a]? = some (arrV K.1 (S.2.2.1 a) (fun j => .int (Int32.ofInt (C a j)))) := zcell_arr (hr.2.2.2.2.1 a ha1 han) hak (by omega)
          refine W_copy (f := fun j => Int32.ofInt (C a0 j)) (g := fun j => Int32.ofInt (C a j)) hex hb hlsz hown (hts _ (zW_of pl hz rfl)) (hts _ (zW_of _ zw_native rfl)) (hts _ (zW_of _ zw_cstat rfl)) (hts _ (zW_of _ zw_csys rfl)) (hK.2 0 _ rfl).1 hc0 hc1 (z32_nn hsp0 sp0) (z32_nn hdp0 dp0) (z32_nn hn0 n0) (by rw [z32_cl hsp0, z32_cl hn0]; omega) (by rw [z32_cl hdp0, z32_cl hn0]; omega) hR1 (by omega) hd (fun H1 locs1 e2 e3 e1 hloc => ?_)
          rw [z32_cl hsp0, z32_cl hdp0, z32_cl hn0] at e1
          cases h
          refine kk.same rfl (hr.upd ha1 han rfl rfl rfl (fun i hi j => ⟨rfl, if_neg hi⟩) (fun j => ?_) e2 e3 (zcell_of_arr hak (by omega) ?_)) hl (fun w hw => hok w (List.mem_cons_of_mem _ (List.mem_cons_of_mem _ (List.mem_cons_of_mem _ (List.mem_cons_of_mem _ (List.mem_cons_of_mem _ hw)))))) ⟨by rw [e2]; exact hS.1, fun q g1 g2 => by
            rw [e3 q (fun e => g2 (by rw [e, zad_pos ha1]; exact Nat.le_add_right _ _))]
            exact hS.2.1 q g1 g2, fun q hq => by
            rcases hloc q hq with h | h
            · exact hS.2.2 q h
            · rw [h, zad_pos ha1]; exact Nat.le_add_right _ _⟩
          · show z32 (zrow C a _ a j) = zrow C a _ a j
            unfold zrow zcpy
            rw [if_pos rfl]
            exact z32_ite (hr.2.2.2.2.2.1 a0 _) (hr.2.2.2.2.2.1 a j)
          · rw [e1]
            congr 2
            funext j
            show Value.int _ = Value.int (Int32.ofInt (zrow C a _ a j))
            unfold va_cpy zrow zcpy
            rw [if_pos rfl]
            split <;> rfl
        · cases h
      · next i a r =>
        split at h
        · next hr4 =>
          have hd := zdec hd hn
          have hz : (if x = 1000 then decide (lw_tbl[pl]? = some (.methodLink q.1.cls i objectInit)) && decide (y = 0) else decide (x < zM.length ∧ (zMn x).name = "<init>" ∧ lw_tbl[pl]? = some (zmk_ q.1.cls i (zMn x) z)) && zpn (zMn x) y) = true := hz
          rw [if_pos x0, Bool.and_eq_true] at hz
          have hz := of_decide_eq_true hz.1
          have hsum := zcat_map (b := b) (base := base) hr4
          refine W.objInit hex hb hown (hts _ (zW_of pl hz rfl)) (hts _ (zW_of _ zw_oinst rfl)) (hts _ (zW_of _ zw_ocode rfl)) rfl hlsz.symm rfl hd hR1 (by show 2 * 0 + _ + 12 ≤ _; omega) ?_
          cases h
          exact kk.same rfl hr hl (fun w hw => hok w (List.mem_cons_of_mem _ hw)) hS
        · cases h
      · cases h
end ZNAT

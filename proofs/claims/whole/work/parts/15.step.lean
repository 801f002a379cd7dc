/-! ANY INSTRUCTION THAT IS NO CALL AND NO RETURN -/
def zlc (ins : Instr) (len : Nat) : Bool := match ins with
  | .tableswitch _ _ _ _ => true
  | ins => decide (len = zlen ins)
theorem zchk_at {q : ZM} {pc len x y pl : Nat} {z : Int} {ins : Instr} (h : zchk q (pc, ins, len, (x, y, z), pl) = true) : decode q.2.1 pc = .ok (ins, len) ∧ zlc ins len = true ∧ zin1 q (pc, ins, len, (x, y, z), pl) = true := by
  unfold zchk at h
  rw [Bool.and_eq_true, Bool.and_eq_true] at h
  refine ⟨of_decide_eq_true h.1.1, ?_, h.2⟩
  cases ins <;> exact h.1.2
theorem zdec {b : ByteArray} {pc len n : Nat} {ins : Instr} (h : decode b pc = .ok (ins, len)) (hl : decide (len = n) = true) : decode b pc = .ok (ins, n) := by
  rw [← of_decide_eq_true hl]
  exact h
section ZSTEP
variable {p : Program} {l : Launch} {e : Env} {R : Room} {s : State} {m : MethodId} {args : Array Value} {below : List Frame} {meth : Method} {c : Code} {H : Heap} {locs : List Loc} {cells slots : Nat} {Q : State → Prop}
variable {q : ZM} {D : va_G} {K : ZK} {b base nL pc len x y pl : Nat} {z : Int} {ins : Instr} {lsA : Array Slot} {ls : ZL} {st : List ZV} {S : ZS} {C : ZC} {o : ZO}
/-- two inner rows and an outer one: the machine's own row of rows, proved in the part behind -/
def zMulti : Prop := ∀ {p : Program} {l : Launch} {e : Env} {R : Room} {s : State} {m : MethodId} {args : Array Value} {below : List Frame} {meth : Method} {c : Code} {H : Heap} {locs : List Loc} {cells slots : Nat} {Q : State → Prop} {q : ZM} {D : va_G} {K : ZK} {b base nL pc pl : Nat} {lsA : Array Slot} {ls : ZL} {st : List ZV} {S : ZS} {C : ZC} {o : ZO} {i : Nat},
  zmulti pc ls st S C = some o → zctx p s m args meth c q D K → decode q.2.1 pc = .ok (.multianewarray i 2, 4) → lw_tbl[pl]? = some (.classLink q.1.cls i "[[I") →
  cells + (o.2.2.2.1.1.1 - S.1.1) ≤ R.cells → slots + (o.2.2.2.1.1.2 - S.1.2) ≤ R.slots → zrel D K b base s S C H → zloc b base nL lsA ls → (∀ v ∈ st, zok v) → va_S (fun q : Nat => base ≤ q) s.heap H locs → zkk p l e R s m args below meth c cells slots Q D K b base nL S o → W p l e R s m args below meth c H locs cells slots Q (F0 m pc lsA (st.map (ztr b base)))
set_option maxHeartbeats 4000000 in
theorem zst_sound (HM : zMulti) (h : zst ins x y z pc ls st S C = some o) (hc : zctx p s m args meth c q D K) (hk : zchk q (pc, ins, len, (x, y, z), pl) = true)
    (hcells : cells + (o.2.2.2.1.1.1 - S.1.1) ≤ R.cells) (hslots : slots + (o.2.2.2.1.1.2 - S.1.2) ≤ R.slots)
    (hr : zrel D K b base s S C H) (hl : zloc b base nL lsA ls) (hok : ∀ v ∈ st, zok v) (hS : va_S (fun q : Nat => base ≤ q) s.heap H locs) (kk : zkk p l e R s m args below meth c cells slots Q D K b base nL S o) : W p l e R s m args below meth c H locs cells slots Q (F0 m pc lsA (st.map (ztr b base))) := by
  obtain ⟨hex, hb, hml, hown, hts, hnw, hK, hname⟩ := id hc
  obtain ⟨hd, hn, hz⟩ := zchk_at hk
  cases ins with
  | iconst k => 
    have hd := zdec hd hn
    have hz : Int32.ofInt k = Int32.ofInt z ∧ z32 z = z := of_decide_eq_true hz
    exact zs_const h hz.2 (fun k' => lv_iconst hex hb hd hz.1 k') hr hl hok hS kk
  | bipush k => 
    have hd := zdec hd hn
    have hz : (Int8.ofInt k).toInt32 = Int32.ofInt z ∧ z32 z = z := of_decide_eq_true hz
    exact zs_const h hz.2 (fun k' => lv_bipush hex hb hd hz.1 k') hr hl hok hS kk
  | sipush k => 
    have hd := zdec hd hn
    have hz : (Int16.ofInt k).toInt32 = Int32.ofInt z ∧ z32 z = z := of_decide_eq_true hz
    exact zs_const h hz.2 (fun k' => lv_sipush hex hb hd hz.1 k') hr hl hok hS kk
  | ldc k => 
    have hd := zdec hd hn
    have hz : lw_tbl[pl]? = some (.constant q.1.cls k (Int32.ofInt z)) ∧ z32 z = z := of_decide_eq_true hz
    exact zs_const h hz.2 (fun k' => lv_ldc hex hb hown (hts _ (zW_of pl hz.1 rfl)) hd k') hr hl hok hS kk
  | ldc_w k => 
    have hd := zdec hd hn
    have hz : lw_tbl[pl]? = some (.constant q.1.cls k (Int32.ofInt z)) ∧ z32 z = z := of_decide_eq_true hz
    exact zs_const h hz.2 (fun k' => lv_ldcw hex hb hown (hts _ (zW_of pl hz.1 rfl)) hd k') hr hl hok hS kk
  | ldc2_w k => 
    have hd := zdec hd hn
    have hz : lw_tbl[pl]? = some (.constantLong q.1.cls k (Int64.ofInt z)) ∧ z64 z = z := of_decide_eq_true hz
    exact zs_const (v := .inr (.inl z)) h hz.2 (fun k' => lv_ldc2 hex hb hown (hts _ (zW_of pl hz.1 rfl)) hd k') hr hl hok hS kk
  | iload_n k => exact zs_ldi h (fun x hx k' => lv_iload_n hex hb (zdec hd hn) rfl hx k') hr hl hok hS kk
  | iload k => exact zs_ldi h (fun x hx k' => lv_iload hex hb (zdec hd hn) hx k') hr hl hok hS kk
  | lload_n k => exact zs_ldl h (fun x hx k' => lv_lload_n hex hb (zdec hd hn) rfl hx k') hr hl hok hS kk
  | lload k => exact zs_ldl h (fun x hx k' => lv_lload hex hb (zdec hd hn) hx k') hr hl hok hS kk
  | aload_n k => exact zs_lda h (fun x hx k' => lv_aload_n hex hb (zdec hd hn) rfl hx k') hr hl hok hS kk
  | aload k => exact zs_lda h (fun x hx k' => lv_aload hex hb (zdec hd hn) hx k') hr hl hok hS kk
  | istore_n k => exact zs_sti h (fun x rest hlt kk' => lv_istore_n hex hb (zdec hd hn) rfl hl.1 hlt rfl kk') hr hl hok hS kk
  | istore k => exact zs_sti h (fun x rest hlt kk' => lv_istore hex hb (zdec hd hn) hl.1 hlt rfl kk') hr hl hok hS kk
  | lstore_n k => exact zs_stl h (fun x rest hlt kk' => lv_lstore_n hex hb (zdec hd hn) rfl hl.1 hlt rfl kk') hr hl hok hS kk
  | lstore k => exact zs_stl h (fun x rest hlt kk' => lv_lstore hex hb (zdec hd hn) hl.1 hlt rfl kk') hr hl hok hS kk
  | astore_n k => exact zs_sta h (fun x rest hlt kk' => lv_astore_n hex hb (zdec hd hn) rfl hl.1 hlt rfl kk') hr hl hok hS kk
  | astore k => exact zs_sta h (fun x rest hlt kk' => lv_astore hex hb (zdec hd hn) hl.1 hlt rfl kk') hr hl hok hS kk
  | iinc k n => exact zs_inc h hex hb (zdec hd hn) hr hl hok hS kk
  | iadd => exact zs_o2 h (fun x y rest k' => lv_iadd hex hb (zdec hd hn) k') hr hl hok hS kk
  | isub => exact zs_o2 h (fun x y rest k' => lv_isub hex hb (zdec hd hn) k') hr hl hok hS kk
  | imul => exact zs_o2 h (fun x y rest k' => lv_imul hex hb (zdec hd hn) k') hr hl hok hS kk
  | iand => exact zs_o2 h (fun x y rest k' => lv_iand hex hb (zdec hd hn) k') hr hl hok hS kk
  | ior => exact zs_o2 h (fun x y rest k' => lv_ior hex hb (zdec hd hn) k') hr hl hok hS kk
  | ixor => exact zs_o2 h (fun x y rest k' => lv_ixor hex hb (zdec hd hn) k') hr hl hok hS kk
  | ishl => exact zs_o2 h (fun x y rest k' => lv_ishl hex hb (zdec hd hn) k') hr hl hok hS kk
  | ishr => exact zs_o2 h (fun x y rest k' => lv_ishr hex hb (zdec hd hn) k') hr hl hok hS kk
  | iushr => exact zs_o2 h (fun x y rest k' => lv_iushr hex hb (zdec hd hn) rfl k') hr hl hok hS kk
  | idiv => exact zs_o2d h (fun x y rest hne k' => lv_idiv hex hb (zdec hd hn) hne k') hr hl hok hS kk
  | irem => exact zs_o2d h (fun x y rest hne k' => lv_irem hex hb (zdec hd hn) hne k') hr hl hok hS kk
  | i2b => exact zs_o1 h (fun x rest k' => lv_i2b hex hb (zdec hd hn) rfl k') hr hl hok hS kk
  | i2s => exact zs_o1 h (fun x rest k' => lv_i2s hex hb (zdec hd hn) rfl k') hr hl hok hS kk
  | i2l => exact zs_i2l h hex hb (zdec hd hn) hr hl hok hS kk
  | ladd => exact zs_o2l h (fun x y rest k' => lv_ladd hex hb (zdec hd hn) k') hr hl hok hS kk
  | lmul => exact zs_o2l h (fun x y rest k' => lv_lmul hex hb (zdec hd hn) k') hr hl hok hS kk
  | lcmp => exact zs_lcmp h hex hb (zdec hd hn) hr hl hok hS kk
  | dup => exact zs_dup h hex hb (zdec hd hn) hr hl hok hS kk
  | dup2 => exact zs_dup2 h hex hb (zdec hd hn) hr hl hok hS kk
  | pop => exact zs_pop h hex hb (zdec hd hn) hr hl hok hS kk
  | ifCond op off =>
    have hd := zdec hd hn
    have ht : (pc : Int) + off = (x : Int) := of_decide_eq_true hz
    cases op with
    | eq => exact zs_if1 (F := fun x : Int32 => x = 0) h (fun a ha => z32_eq ha z32_0) (fun x rest kt kf => lv_if_eq hex hb hd ht kt kf) hr hl hok hS kk
    | ne => exact zs_if1 (F := fun x : Int32 => ¬ x = 0) h (fun a ha => not_congr (z32_eq ha z32_0)) (fun x rest kt kf => lv_if_ne hex hb hd ht kt (fun e => kf (fun g => g e))) hr hl hok hS kk
    | lt => exact zs_if1 (F := fun x : Int32 => x < 0) h (fun a ha => z32_lt ha z32_0) (fun x rest kt kf => lv_if_lt hex hb hd ht kt kf) hr hl hok hS kk
    | ge => exact zs_if1 (F := fun x : Int32 => 0 ≤ x) h (fun a ha => z32_le z32_0 ha) (fun x rest kt kf => lv_if_ge hex hb hd ht kt kf) hr hl hok hS kk
    | gt => exact zs_if1 (F := fun x : Int32 => 0 < x) h (fun a ha => z32_lt z32_0 ha) (fun x rest kt kf => lv_if_gt hex hb hd ht kt kf) hr hl hok hS kk
    | le => exact zs_if1 (F := fun x : Int32 => x ≤ 0) h (fun a ha => z32_le ha z32_0) (fun x rest kt kf => lv_if_le hex hb hd ht kt kf) hr hl hok hS kk
  | if_icmp op off =>
    have hd := zdec hd hn
    have ht : (pc : Int) + off = (x : Int) := of_decide_eq_true hz
    cases op with
    | eq => exact zs_if2 (F := fun x y : Int32 => x = y) h (fun a b2 ha hb2 => z32_eq ha hb2) (fun x y rest kt kf => lv_icmp_eq hex hb hd ht kt kf) hr hl hok hS kk
    | ne => exact zs_if2 (F := fun x y : Int32 => ¬ x = y) h (fun a b2 ha hb2 => not_congr (z32_eq ha hb2)) (fun x y rest kt kf => lv_icmp_ne hex hb hd ht kt (fun e => kf (fun g => g e))) hr hl hok hS kk
    | lt => exact zs_if2 (F := fun x y : Int32 => x < y) h (fun a b2 ha hb2 => z32_lt ha hb2) (fun x y rest kt kf => lv_icmp_lt hex hb hd ht kt kf) hr hl hok hS kk
    | ge => exact zs_if2 (F := fun x y : Int32 => y ≤ x) h (fun a b2 ha hb2 => z32_le hb2 ha) (fun x y rest kt kf => lv_icmp_ge hex hb hd ht kt kf) hr hl hok hS kk
    | gt => exact zs_if2 (F := fun x y : Int32 => y < x) h (fun a b2 ha hb2 => z32_lt hb2 ha) (fun x y rest kt kf => lv_icmp_gt hex hb hd ht kt kf) hr hl hok hS kk
    | le => exact zs_if2 (F := fun x y : Int32 => x ≤ y) h (fun a b2 ha hb2 => z32_le ha hb2) (fun x y rest kt kf => lv_icmp_le hex hb hd ht kt kf) hr hl hok hS kk
  | goto off =>
    have hd := zdec hd hn
    have ht : (pc : Int) + off = (x : Int) := of_decide_eq_true hz
    have h : some (x, ls, st, S, C) = some o := h
    refine lv_goto hex hb hd ht ?_
    cases h
    exact kk.same rfl hr hl hok hS
  | tableswitch d lo hi offs => exact zs_sw h hex hb hd hr hl hok hS kk
  | getfield i =>
    have hz : x < 8 ∧ y < (zKd x).2.2 ∧ lw_tbl[pl]? = some (zlk q.1.cls i x y z) := of_decide_eq_true hz
    exact zs_getf h hc (zdec hd hn) hz.1 hz.2.1 hz.2.2 hr hl hok hS kk
  | putfield i =>
    have hz : (decide (x < 8 ∧ y < (zKd x).2.2 ∧ lw_tbl[pl]? = some (zlk q.1.cls i x y z)) && (!zFn x y || decide (q.1.name = "<init>" ∧ z ≠ 1 ∧ (zKd x).1 = q.1.cls))) = true := hz
    rw [Bool.and_eq_true] at hz
    have h1 := of_decide_eq_true hz.1
    refine zs_putf h hc (zdec hd hn) h1.1 h1.2.1 h1.2.2 (fun hf => ?_) hr hl hok hS kk
    have h2 := hz.2
    rw [hf] at h2
    exact of_decide_eq_true h2
  | iaload => exact zs_iald h hc (zdec hd hn) hr hl hok hS kk
  | baload => exact zs_bald h hc (zdec hd hn) hr hl hok hS kk
  | aaload => exact zs_aald h hc (zdec hd hn) hr hl hok hS kk
  | iastore => exact zs_iast h hc (zdec hd hn) hr hl hok hS kk
  | bastore => exact zs_bast h hc (zdec hd hn) hr hl hok hS kk
  | aastore => exact zs_aast h hc (zdec hd hn) hr hl hok hS kk
  | arraylength => exact zs_alen h hc (zdec hd hn) hr hl hok hS kk
  | new i =>
    have hz : x < 8 ∧ lw_tbl[pl]? = some (.classLink q.1.cls i (zKd x).1) ∧ lw_tbl[y]? = some (.instantiable (zKd x).1 (zKd x).2.2) ∧ lw_tbl[z.toNat]? = some (.initialized (zKd x).1) := of_decide_eq_true hz
    exact zs_new h hc (zdec hd hn) hz.1 hz.2.1 hz.2.2.1 hz.2.2.2 hcells hslots hr hl hok hS kk
  | newarray t =>
    have hz : (x = 8 ∧ t = .int) ∨ (x = 9 ∧ t = .boolean) := of_decide_eq_true hz
    exact zs_newa h hc (zdec hd hn) hz (hts _ (zW_of _ zw_ai rfl)) (hts _ (zW_of _ zw_az rfl)) hcells hslots hr hl hok hS kk
  | anewarray i =>
    have hz : lw_tbl[pl]? = some (.classLink q.1.cls i "NewOrBack$Walk") := of_decide_eq_true hz
    exact zs_anew h hc (zdec hd hn) hz (va_AO.use (hnw _ (List.mem_of_getElem? zw_ow) rfl)) hcells hslots hr hl hok hS kk
  | multianewarray i d =>
    have hz : d = 2 ∧ lw_tbl[pl]? = some (.classLink q.1.cls i "[[I") := of_decide_eq_true hz
    obtain ⟨rfl, hz2⟩ := hz
    exact HM h hc (zdec hd hn) hz2 hcells hslots hr hl hok hS kk
  | _ => exact nomatch (show (none : Option ZO) = some o from h)
end ZSTEP

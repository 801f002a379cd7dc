/-! THE RUN OF THE SMALL MACHINE IS THE MACHINE'S -/
theorem zAO_moved {t : FieldType} {u U : State} (hvm : u.vm.Alike U.vm) (h : va_Nw (.arrayOver (.array t)) u) : va_Nw (.arrayOver (.array t)) U := by
  obtain ⟨comp, c, k, h1, h2, h3, h4, h5⟩ := arrayOverA_spec h
  obtain ⟨k', hk', he⟩ := hvm.2.2 _ _ h3
  have hi : (U.vm.classes.findIdx? fun (x : Class) => match x.kind with | .array component _ => component == comp | _ => false) = some c := by
    have e1 := va_idx_bare U.vm comp
    have e2 := va_idx_bare u.vm comp
    rw [hvm.bare_eq] at e1
    exact (e1.symm.trans e2).trans h2
  have hkind : k'.kind = .array comp (.array t) := by rw [he]; exact h4
  have f1 : U.vm.findClass (FieldType.array t).toString = some comp := by rw [hvm.findClass]; exact h1
  have f2 : U.vm.findClass ("[" ++ (FieldType.array t).toString) = some c := by rw [hvm.findClass]; exact h5
  unfold va_Nw Cond.before Cond.holds
  simp only [Cond.value]
  rw [f1, Option.bind_some]
  refine (congrArg (fun o : Option Nat => (o.bind (fun c => (U.vm.classes[c]?).map fun (k : Class) => match k.kind with | .array _ ty => decide (ty = FieldType.array t) && decide (U.vm.findClass ("[" ++ (FieldType.array t).toString) = some c) | _ => false) == some true)) hi).trans ?_
  simp [hk', hkind, f2]
theorem zNW.warm {s U : State} (hW : s.WarmedH U.vm) (h : zNW s) : zNW U := by
  intro w hw hn
  have h0 := h w hw hn
  unfold zNest at hn
  split at hn
  · exact va_Nw.warmF hW h0
  · exact va_Nw.warmM hW h0
  · exact va_AO.moved hW.alike h0
  · exact zAO_moved hW.alike h0
  · cases hn
theorem zrel.moved {D : va_G} {K : ZK} {b base : Nat} {s t : State} {S : ZS} {C : ZC} {H : Heap} (hvm : s.vm.Alike t.vm) (h : zrel D K b base s S C H) : zrel D K b base t S C H := by
  obtain ⟨r1, r2, r3, r4, r5, r6, scr, g1, g2, g3⟩ := h
  exact ⟨r1, r2, r3, r4, r5, r6, scr, g1, State.isArrayOf_alike hvm g2, g3⟩
def zfin (p : Program) (l : Launch) (e : Env) (R : Room) (s : State) (m : MethodId) (args : Array Value) (below : List Frame) (meth : Method) (c : Code) (cells slots : Nat) (Q : State → Prop) (D : va_G) (K : ZK) (b base : Nat) (q : ZM) (v : Option ZV) (S' : ZS) (C' : ZC) : Prop :=
  ∀ (H' : Heap) (locs' : List Loc) (lsA' : Array Slot) (pc' : Nat) (ins : Instr), decode q.2.1 pc' = .ok (ins, 1) → zret ins (decide (q.2.2.2.1 = some .boolean)) v.toList = some v → zrw q ins = true → (∀ w, v = some w → zok w) → zrel D K b base s S' C' H' → va_S (fun q : Nat => base ≤ q) s.heap H' locs' →
    W p l e R s m args below meth c H' locs' cells slots Q (F0 m pc' lsA' (v.toList.map (ztr b base)))
def zSnd (l : Launch) (d M pc : Nat) (ls : ZL) (st : List ZV) (S : ZS) (C : ZC) (v : Option ZV) (S' : ZS) (C' : ZC) : Prop :=
  ∀ (p : Program) (e : Env) (R : Room) (s : State) (m : MethodId) (args : Array Value) (below : List Frame) (meth : Method) (c : Code) (H : Heap) (locs : List Loc) (cells slots : Nat) (Q : State → Prop) (D : va_G) (K : ZK) (b base : Nat) (lsA : Array Slot),
    zctx p s m args meth c (zM.getD M zM0) D K → zrel D K b base s S C H → zloc b base (zM.getD M zM0).2.2.1 lsA ls → (∀ v ∈ st, zok v) → va_S (fun q : Nat => base ≤ q) s.heap H locs → d ≤ R.frames → 100 * d ≤ R.locals →
    cells + (S'.1.1 - S.1.1) ≤ R.cells → slots + (S'.1.2 - S.1.2) ≤ R.slots → zfin p l e R s m args below meth c (cells + (S'.1.1 - S.1.1)) (slots + (S'.1.2 - S.1.2)) Q D K b base (zM.getD M zM0) v S' C' →
    W p l e R s m args below meth c H locs cells slots Q (F0 m pc lsA (st.map (ztr b base)))
def zPc (D : va_G) (K : ZK) (b base : Nat) (S : ZS) (C : ZC) (as : List ZV) : Array Value → State → Prop := fun v U => v = (as.map (ztr b base)).toArray ∧ zrel D K b base U S C U.heap ∧ va_K D zCl (zTys K) U ∧ zNW U
def zQc (D : va_G) (K : ZK) (b base : Nat) (v : Option ZV) (S' : ZS) (C' : ZC) : Array Value → State → Outcome → State → Prop := fun _ st oc t => oc = .returned (v.map (ztr b base)) ∧ (∀ w, v = some w → zok w) ∧ zrel D K b base t S' C' t.heap ∧ va_F (fun q : Nat => base ≤ q) st t
theorem zblind {D : va_G} {K : ZK} {b base : Nat} {S : ZS} {C : ZC} {as : List ZV} : FrameBlind (zPc D K b base S C as) := by
  intro a U g mk h
  obtain ⟨h1, h2, h3, h4⟩ := h
  exact ⟨h1, zrel.moved (s := U) (t := U.calling g mk a) (Vm.Alike.refl U.vm) h2, va_K.moved (u := U) (U := U.calling g mk a) (Vm.Alike.refl U.vm) h3, fun w hw hn => by
    have h0 := h4 w hw hn
    unfold zNest at hn
    split at hn
    · exact va_Nw.same rfl (u := U) (U := U.calling g mk a) rfl h0
    · exact va_Nw.same rfl (u := U) (U := U.calling g mk a) rfl h0
    · exact va_AO.moved (u := U) (U := U.calling g mk a) (Vm.Alike.refl U.vm) h0
    · exact zAO_moved (u := U) (U := U.calling g mk a) (Vm.Alike.refl U.vm) h0
    · cases hn⟩
theorem zent_get {n : Nat} {as : List ZV} {i : Nat} {v : ZV} (h : zget (zent n as) i = some v) : as[i]? = some v := by
  have h1 := (zget_lt h).2
  unfold zent at h1
  by_cases hi : i < as.length
  · rw [List.getElem?_append_left (by rw [List.length_map]; exact hi), List.getElem?_map] at h1
    cases ha : as[i]? with
    | none => rw [ha] at h1; cases h1
    | some w => rw [ha] at h1; cases h1; rfl
  · rw [List.getElem?_append_right (by rw [List.length_map]; omega)] at h1
    have h2 := List.mem_of_getElem? h1
    have h3 := (List.mem_replicate.mp h2).2
    cases h3
theorem zargs_cat {b base : Nat} : ∀ (as : List ZV) (k : Nat), as.all zcat1 = true → ∀ (i : Nat) (v : ZV), as[i]? = some v → (k + i, ztr b base v) ∈ lv_args k (as.map (ztr b base))
  | [], _, _, i, v, h => by simp at h
  | a :: as, k, hc, i, v, h => by
    rw [List.all_cons, Bool.and_eq_true] at hc
    cases i with
    | zero =>
      rw [List.getElem?_cons_zero] at h
      cases h
      exact List.mem_cons_self
    | succ i =>
      rw [List.getElem?_cons_succ] at h
      have h1 := zargs_cat (b := b) (base := base) as (k + 1) hc.2 i v h
      rw [show k + (i + 1) = k + 1 + i by omega]
      refine List.mem_cons_of_mem _ ?_
      rw [if_neg (by rw [ztr_cat1 hc.1]; decide)]
      exact h1
theorem zsl_len {b base : Nat} : ∀ as : List ZV, as.all zcat1 = true → (lg_sl (as.map (ztr b base))).length = as.length
  | [], _ => rfl
  | a :: as, hc => by
    rw [List.all_cons, Bool.and_eq_true] at hc
    have h1 := zsl_len (b := b) (base := base) as hc.2
    unfold lg_sl at h1 ⊢
    rw [List.map_cons, List.flatMap_cons, if_neg (by rw [ztr_cat1 hc.1]; decide), List.length_append, h1]
    show 1 + _ = _
    rw [List.length_cons]
    omega
theorem zM_at {M : Nat} (h : M < 174) : zM[M]? = some (zM.getD M zM0) := by
  rw [List.getD_eq_getElem?_getD, List.getElem?_eq_getElem (by rw [zM_len]; exact h)]
  rfl
theorem zml_eq {M : Nat} (h : M < 174) : zml M = (zM.getD M zM0).2.2.1 := by
  unfold zml
  rw [zM_at h]
theorem zbool_eq {M : Nat} (h : M < 174) : zbool M = decide ((zM.getD M zM0).2.2.2.1 = some .boolean) := by
  unfold zbool
  rw [zM_at h]
theorem zMn_eq {M : Nat} (h : M < 174) : zMn M = (zM.getD M zM0).1 := by
  unfold zMn
  rw [zM_at h]
theorem zmq_use {q : ZM} (h : zmwQ q = true) : (lw_tbl[q.2.2.2.2.2.1]? = some (.initialized q.1.cls) ∧ plainName q.1.cls = true ∧ q.1.cls ≠ "java/lang/invoke/MethodHandle" ∧ q.1.cls ≠ "java/lang/invoke/VarHandle" ∧ q.2.2.1 ≤ 60) ∧
    (q.2.2.2.2.2.2.1 = 5000 ∨ lw_tbl[q.2.2.2.2.2.2.1]? = some (.instanceMethod q.1)) ∧ (q.2.2.2.2.2.2.2.1 = 5000 ∨ lw_tbl[q.2.2.2.2.2.2.2.1]? = some (.selects q.1.cls q.1 q.1)) ∧ (q.2.2.2.2.2.2.2.2 = 5000 ∨ lw_tbl[q.2.2.2.2.2.2.2.2]? = some (.static q.1)) := by
  unfold zmwQ at h
  simp only [Bool.and_eq_true] at h
  exact ⟨of_decide_eq_true h.1.1.1, of_decide_eq_true h.1.1.2, of_decide_eq_true h.1.2, of_decide_eq_true h.2⟩
/-- a method's contract out of its run -/
theorem zmet {l : Launch} {d M : Nat} {as : List ZV} {S S' : ZS} {C C' : ZC} {v : Option ZV} (D : va_G) (K : ZK) (b base : Nat) (hM : M < 173) (hsnd : zSnd l d M 0 (zent (zml M) as) [] S C v S' C') (hcat : as.all zcat1 = true) (hlen : as.length ≤ zml M) (hok : ∀ a ∈ as, zok a) :
    Met l (zM.getD M zM0).1 (Cond.code (zM.getD M zM0).1 (zM.getD M zM0).2.1 (zM.getD M zM0).2.2.1 (zM.getD M zM0).2.2.2.1 :: zW) { frames := d, cells := S'.1.1 - S.1.1, slots := S'.1.2 - S.1.2, locals := 100 * d }
      (zPc D K b base S C as) (zQc D K b base v S' C') (S'.1.1 - S.1.1) (S'.1.2 - S.1.2) (fun q : Nat => base ≤ q) := by
  have hq := zmq_use (zmq M hM)
  refine Met.ofW (cc := (zM.getD M zM0).2.1) (maxL := (zM.getD M zM0).2.2.1) (ret := (zM.getD M zM0).2.2.2.1) hq.1.2.1 rfl ?_
  intro p e s m args below meth c s₁ B hml hv
  obtain ⟨rfl, hr, hK, hnw⟩ := hv
  have hx := B.exec
  have hb := B.bytes
  have hret := B.returns
  have hts := atoms_spec (ws := (Cond.code (zM.getD M zM0).1 (zM.getD M zM0).2.1 (zM.getD M zM0).2.2.1 (zM.getD M zM0).2.2.2.1 :: zW)) B.pre
  have hown : s.vm.findClass (zM.getD M zM0).1.cls = some m.cls := findClass_of_methodNamed B.named
  have hlocks := B.notSynchronized
  have hname : meth.name = (zM.getD M zM0).1.name := (name_of_methodNamed B.named B.method).1
  have hlen2 : (lg_sl (as.map (ztr b base))).length ≤ (zM.getD M zM0).2.2.1 := by
    rw [zsl_len as hcat, ← zml_eq (by omega)]
    exact hlen
  have hl := lv_entry (as.map (ztr b base)) (n := (zM.getD M zM0).2.2.1) hlen2
  rw [lg_entry_eq]
  generalize (lg_sl (as.map (ztr b base)) ++ List.replicate ((zM.getD M zM0).2.2.1 - (lg_sl (as.map (ztr b base))).length) Slot.unset).toArray = lsA at hl ⊢
  have hloc : zloc b base (zM.getD M zM0).2.2.1 lsA (zent (zml M) as) := by
    refine ⟨hl.mono (fun q hq => ?_), ?_, fun i w hg => hok w (List.mem_of_getElem? (zent_get hg))⟩
    · obtain ⟨w, h1, h2⟩ := zas_mem.mp hq
      obtain ⟨i, x⟩ := q
      dsimp only at h1 h2
      subst h2
      have := zargs_cat (b := b) (base := base) as 0 hcat i w (zent_get h1)
      rw [Nat.zero_add] at this
      exact this
    · unfold zent
      rw [List.length_append, List.length_map, List.length_replicate, ← zml_eq (by omega)]
      omega
  have key := hsnd p e (headSpec (Cond.code (zM.getD M zM0).1 (zM.getD M zM0).2.1 (zM.getD M zM0).2.2.1 (zM.getD M zM0).2.2.2.1 :: zW) { frames := d, cells := S'.1.1 - S.1.1, slots := S'.1.2 - S.1.2, locals := 100 * d }).room s m (as.map (ztr b base)).toArray below meth c s.heap [] 0 0
    (MQ below (zQc D K b base v S' C') (as.map (ztr b base)).toArray s (S'.1.1 - S.1.1) (S'.1.2 - S.1.2) (fun q : Nat => base ≤ q)) D K b base lsA ⟨hx, hb, hml, hown, fun w hw => hts w (List.mem_cons_of_mem _ hw), hnw, hK, fun h => hname.trans h⟩ hr hloc (fun w hw => by cases hw) va_S.rf
    (Nat.le_refl _) (Nat.le_refl _) (by rw [Nat.zero_add]; exact Nat.le_refl _) (by rw [Nat.zero_add]; exact Nat.le_refl _)
  refine key ?_
  intro H' locs' lsA' pc' ins hdec hre hrw hok' hr' hS'
  rw [Nat.zero_add, Nat.zero_add]
  have hq0 : ∀ t : State, t.heap = H' → s.WarmedH t.vm → zQc D K b base v S' C' (as.map (ztr b base)).toArray s (.returned (v.map (ztr b base))) t := fun t ht hW => ⟨rfl, hok', by rw [ht]; exact hr'.moved hW.alike, hS'.F ht⟩
  have hS3 : ∀ q ∈ locs', base ≤ q.base := hS'.2.2
  unfold zret at hre
  split at hre
  · next ins w hst =>
    have hv : v = some (.inl w) := by
      split at hre
      · cases hre
      · exact (Option.some.inj hre).symm
    subst hv
    rcases (of_decide_eq_true hrw : (zM.getD M zM0).2.2.2.1 = some .int ∨ (zM.getD M zM0).2.2.2.1 = some .boolean) with hr1 | hr1
    · exact W.iret (v := Int32.ofInt w) hx hb (hret.trans hr1) hq0 hS3 hdec hlocks
    · have hw01 : w = 0 ∨ w = 1 := by
        rw [hr1] at hre
        by_cases h01 : w = 0 ∨ w = 1
        · exact h01
        · rw [if_pos ⟨by decide, h01⟩] at hre
          cases hre
      exact W.zret (ty := .boolean) (v := Int32.ofInt w) hx hb (hret.trans hr1) (by rcases hw01 with rfl | rfl <;> rfl) hq0 hS3 hdec hlocks
  · next ins w hst =>
    have hv : v = some (.inr (.inl w)) := (Option.some.inj hre).symm
    subst hv
    exact W.lret (v := Int64.ofInt w) hx hb (hret.trans (of_decide_eq_true hrw : (zM.getD M zM0).2.2.2.1 = some .long)) hq0 hS3 hdec hlocks
  · next ins hst =>
    have hv : v = none := (Option.some.inj hre).symm
    subst hv
    exact W.vret hx hb (hret.trans (of_decide_eq_true hrw : (zM.getD M zM0).2.2.2.1 = none)) hq0 hS3 hdec hlocks
  · cases hre

/-! ONE INSTRUCTION OF THE SMALL MACHINE IS ONE OF THE MACHINE -/
def zNest (w : Cond) : Bool := match w with
  | .fieldLinkNest _ _ _ _ _ _ => true
  | .methodLinkNest _ _ _ _ => true
  | .arrayOver (.object _) => true
  | .arrayOver (.array _) => true
  | _ => false
def zNW (U : State) : Prop := ∀ w ∈ lw_tbl, zNest w = true → va_Nw w U
abbrev zTys (K : ZK) : List (ClassId × FieldType) := [(K.1, .int), (K.2.1, .boolean), (K.2.2.1, .object "NewOrBack$Walk"), (K.2.2.2, .array .int)]
def zctx (p : Program) (s : State) (m : MethodId) (args : Array Value) (meth : Method) (c : Code) (q : ZM) (D : va_G) (K : ZK) : Prop :=
  p.tables.exec = Jvm.exec ∧ c.code = q.2.1 ∧ c.maxLocals = q.2.2.1 ∧ s.vm.findClass q.1.cls = some m.cls ∧ (∀ w ∈ zW, w.before args s = true) ∧ zNW s ∧ va_K D zCl (zTys K) s ∧ (q.1.name = "<init>" → meth.name = "<init>")
section ZSND
variable {p : Program} {l : Launch} {e : Env} {R : Room} {s : State} {m : MethodId} {args : Array Value} {below : List Frame} {meth : Method} {c : Code} {H : Heap} {locs : List Loc} {cells slots : Nat} {Q : State → Prop}
variable {q : ZM} {D : va_G} {K : ZK} {b base nL pc : Nat} {lsA : Array Slot} {ls : ZL} {st : List ZV} {S : ZS} {C : ZC} {o : ZO}
/-- what must hold behind the instruction -/
def zkk (p : Program) (l : Launch) (e : Env) (R : Room) (s : State) (m : MethodId) (args : Array Value) (below : List Frame) (meth : Method) (c : Code) (cells slots : Nat) (Q : State → Prop) (D : va_G) (K : ZK) (b base nL : Nat) (S : ZS) (o : ZO) : Prop :=
  ∀ (H' : Heap) (locs' : List Loc) (lsA' : Array Slot), zrel D K b base s o.2.2.2.1 o.2.2.2.2 H' → zloc b base nL lsA' o.2.1 → (∀ v ∈ o.2.2.1, zok v) → va_S (fun q : Nat => base ≤ q) s.heap H' locs' →
    W p l e R s m args below meth c H' locs' (cells + (o.2.2.2.1.1.1 - S.1.1)) (slots + (o.2.2.2.1.1.2 - S.1.2)) Q (F0 m o.1 lsA' (o.2.2.1.map (ztr b base)))
/-- nothing but the place, the stack and the locals changes -/
theorem zkk.same {pc' : Nat} {st' : List ZV} {ls' : ZL} {lsA' : Array Slot} {C' : ZC} {S' : ZS} {H' : Heap} {locs' : List Loc} (kk : zkk p l e R s m args below meth c cells slots Q D K b base nL S (pc', ls', st', S', C')) (hS' : S'.1 = S.1)
    (hr : zrel D K b base s S' C' H') (hl : zloc b base nL lsA' ls') (hok : ∀ v ∈ st', zok v) (hS : va_S (fun q : Nat => base ≤ q) s.heap H' locs') : W p l e R s m args below meth c H' locs' cells slots Q (F0 m pc' lsA' (st'.map (ztr b base))) := by
  have h := kk H' locs' lsA' hr hl hok hS
  dsimp only at h
  rw [hS', Nat.sub_self, Nat.sub_self] at h
  exact h
theorem zs_const {v : ZV} {pc' : Nat} (h : some (pc', ls, v :: st, S, C) = some o) (hv : zok v)
    (row : W p l e R s m args below meth c H locs cells slots Q (F0 m pc' lsA (ztr b base v :: st.map (ztr b base))) → W p l e R s m args below meth c H locs cells slots Q (F0 m pc lsA (st.map (ztr b base))))
    (hr : zrel D K b base s S C H) (hl : zloc b base nL lsA ls) (hok : ∀ v ∈ st, zok v) (hS : va_S (fun q : Nat => base ≤ q) s.heap H locs) (kk : zkk p l e R s m args below meth c cells slots Q D K b base nL S o) : W p l e R s m args below meth c H locs cells slots Q (F0 m pc lsA (st.map (ztr b base))) := by
  cases h
  refine row (kk.same rfl hr hl (fun w hw => ?_) hS)
  rcases List.mem_cons.mp hw with rfl | hw
  · exact hv
  · exact hok w hw
theorem zs_ldi {k n : Nat} (h : zldi k n pc ls st S C = some o)
    (row : ∀ x : Int32, lsA[k]? = some (.val (.int x)) → W p l e R s m args below meth c H locs cells slots Q (F0 m (pc + n) lsA (.int x :: st.map (ztr b base))) → W p l e R s m args below meth c H locs cells slots Q (F0 m pc lsA (st.map (ztr b base))))
    (hr : zrel D K b base s S C H) (hl : zloc b base nL lsA ls) (hok : ∀ v ∈ st, zok v) (hS : va_S (fun q : Nat => base ≤ q) s.heap H locs) (kk : zkk p l e R s m args below meth c cells slots Q D K b base nL S o) : W p l e R s m args below meth c H locs cells slots Q (F0 m pc lsA (st.map (ztr b base))) := by
  unfold zldi at h
  split at h
  · next x hx =>
    have hg := hl.get hx
    exact zs_const h hg.2 (row _ hg.1) hr hl hok hS kk
  · cases h
theorem zs_ldl {k n : Nat} (h : zldl k n pc ls st S C = some o)
    (row : ∀ x : Int64, lsA[k]? = some (.val (.long x)) → W p l e R s m args below meth c H locs cells slots Q (F0 m (pc + n) lsA (.long x :: st.map (ztr b base))) → W p l e R s m args below meth c H locs cells slots Q (F0 m pc lsA (st.map (ztr b base))))
    (hr : zrel D K b base s S C H) (hl : zloc b base nL lsA ls) (hok : ∀ v ∈ st, zok v) (hS : va_S (fun q : Nat => base ≤ q) s.heap H locs) (kk : zkk p l e R s m args below meth c cells slots Q D K b base nL S o) : W p l e R s m args below meth c H locs cells slots Q (F0 m pc lsA (st.map (ztr b base))) := by
  unfold zldl at h
  split at h
  · next x hx =>
    have hg := hl.get hx
    exact zs_const h hg.2 (row _ hg.1) hr hl hok hS kk
  · cases h
theorem zs_lda {k n : Nat} (h : zlda k n pc ls st S C = some o)
    (row : ∀ x : Nat, lsA[k]? = some (.val (.ref x)) → W p l e R s m args below meth c H locs cells slots Q (F0 m (pc + n) lsA (.ref x :: st.map (ztr b base))) → W p l e R s m args below meth c H locs cells slots Q (F0 m pc lsA (st.map (ztr b base))))
    (hr : zrel D K b base s S C H) (hl : zloc b base nL lsA ls) (hok : ∀ v ∈ st, zok v) (hS : va_S (fun q : Nat => base ≤ q) s.heap H locs) (kk : zkk p l e R s m args below meth c cells slots Q D K b base nL S o) : W p l e R s m args below meth c H locs cells slots Q (F0 m pc lsA (st.map (ztr b base))) := by
  unfold zlda at h
  split at h
  · next x hx =>
    have hg := hl.get hx
    exact zs_const h hg.2 (row _ hg.1) hr hl hok hS kk
  · cases h
theorem zset_lt {k : Nat} {v : ZV} {ls' : ZL} (h : zset ls k v = some ls') : k < ls.length := by
  unfold zset at h
  split at h
  · next hk => exact hk
  · cases h
theorem zset2_lt {k : Nat} {v : ZV} {ls' : ZL} (h : zset2 ls k v = some ls') : k + 1 < ls.length := by
  unfold zset2 at h
  split at h
  · next hk => exact hk
  · cases h
abbrev zF1 (b base : Nat) (ls : ZL) (k : Nat) : List (Nat × Value) := (zas b base ls).filter (fun q => !(q.1 == k) && !(q.1 + 1 == k && q.2.category == 2))
abbrev zF2 (b base : Nat) (ls : ZL) (k : Nat) : List (Nat × Value) := (zas b base ls).filter (fun q => !(q.1 == k) && (!(q.1 == k + 1) && !(q.1 + 1 == k && q.2.category == 2)))
theorem zs_sti {k n : Nat} (h : zsti k n pc ls st S C = some o)
    (row : ∀ (x : Int32) (rest : List Value), k < nL → (∀ ls' : Array Slot, lv_has ls' nL ((k, .int x) :: zF1 b base ls k) → W p l e R s m args below meth c H locs cells slots Q (F0 m (pc + n) ls' rest)) → W p l e R s m args below meth c H locs cells slots Q (F0 m pc lsA (.int x :: rest)))
    (hr : zrel D K b base s S C H) (hl : zloc b base nL lsA ls) (hok : ∀ v ∈ st, zok v) (hS : va_S (fun q : Nat => base ≤ q) s.heap H locs) (kk : zkk p l e R s m args below meth c cells slots Q D K b base nL S o) : W p l e R s m args below meth c H locs cells slots Q (F0 m pc lsA (st.map (ztr b base))) := by
  unfold zsti at h
  split at h
  · next x r =>
    obtain ⟨ls', hs, ho⟩ := Option.map_eq_some_iff.mp h
    subst ho
    have hx : zok (.inl x) := hok _ List.mem_cons_self
    refine row (Int32.ofInt x) (r.map (ztr b base)) (by have := zset_lt hs; rw [hl.2.1] at this; exact this) (fun lsA' hA => ?_)
    exact kk.same rfl hr (hl.set1 hs hx hA) (fun w hw => hok w (List.mem_cons_of_mem _ hw)) hS
  · cases h
theorem zs_stl {k n : Nat} (h : zstl k n pc ls st S C = some o)
    (row : ∀ (x : Int64) (rest : List Value), k + 1 < nL → (∀ ls' : Array Slot, lv_has ls' nL ((k, .long x) :: zF2 b base ls k) → W p l e R s m args below meth c H locs cells slots Q (F0 m (pc + n) ls' rest)) → W p l e R s m args below meth c H locs cells slots Q (F0 m pc lsA (.long x :: rest)))
    (hr : zrel D K b base s S C H) (hl : zloc b base nL lsA ls) (hok : ∀ v ∈ st, zok v) (hS : va_S (fun q : Nat => base ≤ q) s.heap H locs) (kk : zkk p l e R s m args below meth c cells slots Q D K b base nL S o) : W p l e R s m args below meth c H locs cells slots Q (F0 m pc lsA (st.map (ztr b base))) := by
  unfold zstl at h
  split at h
  · next x r =>
    obtain ⟨ls', hs, ho⟩ := Option.map_eq_some_iff.mp h
    subst ho
    have hx : zok (.inr (.inl x)) := hok _ List.mem_cons_self
    refine row (Int64.ofInt x) (r.map (ztr b base)) (by have := zset2_lt hs; rw [hl.2.1] at this; exact this) (fun lsA' hA => ?_)
    exact kk.same rfl hr (hl.set2 hs hx hA) (fun w hw => hok w (List.mem_cons_of_mem _ hw)) hS
  · cases h
theorem zs_sta {k n : Nat} (h : zsta k n pc ls st S C = some o)
    (row : ∀ (x : Nat) (rest : List Value), k < nL → (∀ ls' : Array Slot, lv_has ls' nL ((k, .ref x) :: zF1 b base ls k) → W p l e R s m args below meth c H locs cells slots Q (F0 m (pc + n) ls' rest)) → W p l e R s m args below meth c H locs cells slots Q (F0 m pc lsA (.ref x :: rest)))
    (hr : zrel D K b base s S C H) (hl : zloc b base nL lsA ls) (hok : ∀ v ∈ st, zok v) (hS : va_S (fun q : Nat => base ≤ q) s.heap H locs) (kk : zkk p l e R s m args below meth c cells slots Q D K b base nL S o) : W p l e R s m args below meth c H locs cells slots Q (F0 m pc lsA (st.map (ztr b base))) := by
  unfold zsta at h
  split at h
  · next x r =>
    obtain ⟨ls', hs, ho⟩ := Option.map_eq_some_iff.mp h
    subst ho
    have hx : zok (.inr (.inr (some x))) := trivial
    refine row (zad b base x) (r.map (ztr b base)) (by have := zset_lt hs; rw [hl.2.1] at this; exact this) (fun lsA' hA => ?_)
    exact kk.same rfl hr (hl.set1 hs hx hA) (fun w hw => hok w (List.mem_cons_of_mem _ hw)) hS
  · cases h
theorem zs_inc {k : Nat} {n : Int} (h : zinc k n pc ls st S C = some o) (hx : p.tables.exec = Jvm.exec) (hb : c.code = q.2.1) (hdg : decode q.2.1 pc = .ok (.iinc k n, 3))
    (hr : zrel D K b base s S C H) (hl : zloc b base nL lsA ls) (hok : ∀ v ∈ st, zok v) (hS : va_S (fun q : Nat => base ≤ q) s.heap H locs) (kk : zkk p l e R s m args below meth c cells slots Q D K b base nL S o) : W p l e R s m args below meth c H locs cells slots Q (F0 m pc lsA (st.map (ztr b base))) := by
  unfold zinc at h
  split at h
  · next x hg =>
    obtain ⟨ls', hs, ho⟩ := Option.map_eq_some_iff.mp h
    subst ho
    have hm : (k, Value.int (Int32.ofInt x)) ∈ zas b base ls := zas_mem.mpr ⟨_, hg, rfl⟩
    obtain ⟨i, hi⟩ := List.getElem?_of_mem hm
    refine lv_iinc (k := i) (v := Int32.ofInt (zb (· + ·) x n)) hx hb hdg hl.1 hi (zb_of _ _ _).symm (by have := zset_lt hs; rw [hl.2.1] at this; exact this) rfl (fun lsA' hA => ?_)
    exact kk.same rfl hr (hl.set1 hs (show zok (.inl _) from z32_zb _ _ _) hA) hok hS
  · cases h
theorem zs_o2 {g : Int32 → Int32 → Int32} (h : zo2 g pc ls st S C = some o)
    (row : ∀ (x y : Int32) (rest : List Value), W p l e R s m args below meth c H locs cells slots Q (F0 m (pc + 1) lsA (.int (g x y) :: rest)) → W p l e R s m args below meth c H locs cells slots Q (F0 m pc lsA (.int y :: .int x :: rest)))
    (hr : zrel D K b base s S C H) (hl : zloc b base nL lsA ls) (hok : ∀ v ∈ st, zok v) (hS : va_S (fun q : Nat => base ≤ q) s.heap H locs) (kk : zkk p l e R s m args below meth c cells slots Q D K b base nL S o) : W p l e R s m args below meth c H locs cells slots Q (F0 m pc lsA (st.map (ztr b base))) := by
  unfold zo2 at h
  split at h
  · next y x r =>
    refine row (Int32.ofInt x) (Int32.ofInt y) (r.map (ztr b base)) ?_
    rw [← zb_of g x y]
    cases h
    refine kk.same (st' := .inl (zb g x y) :: r) rfl hr hl (fun w hw => ?_) hS
    rcases List.mem_cons.mp hw with rfl | hw
    · exact z32_zb _ _ _
    · exact hok w (List.mem_cons_of_mem _ (List.mem_cons_of_mem _ hw))
  · cases h
theorem zs_o2d {g : Int32 → Int32 → Int32} (h : zo2d g pc ls st S C = some o)
    (row : ∀ (x y : Int32) (rest : List Value), ¬ y = 0 → W p l e R s m args below meth c H locs cells slots Q (F0 m (pc + 1) lsA (.int (g x y) :: rest)) → W p l e R s m args below meth c H locs cells slots Q (F0 m pc lsA (.int y :: .int x :: rest)))
    (hr : zrel D K b base s S C H) (hl : zloc b base nL lsA ls) (hok : ∀ v ∈ st, zok v) (hS : va_S (fun q : Nat => base ≤ q) s.heap H locs) (kk : zkk p l e R s m args below meth c cells slots Q D K b base nL S o) : W p l e R s m args below meth c H locs cells slots Q (F0 m pc lsA (st.map (ztr b base))) := by
  unfold zo2d at h
  split at h
  · next y x r =>
    split at h
    · cases h
    · next hy =>
      have hyo : z32 y = y := hok (.inl y) List.mem_cons_self
      refine row (Int32.ofInt x) (Int32.ofInt y) (r.map (ztr b base)) (fun h0 => hy ((z32_eq hyo z32_0).mp h0)) ?_
      rw [← zb_of g x y]
      cases h
      refine kk.same (st' := .inl (zb g x y) :: r) rfl hr hl (fun w hw => ?_) hS
      rcases List.mem_cons.mp hw with rfl | hw
      · exact z32_zb _ _ _
      · exact hok w (List.mem_cons_of_mem _ (List.mem_cons_of_mem _ hw))
  · cases h
theorem zs_o1 {g : Int32 → Int32} (h : zo1 g pc ls st S C = some o)
    (row : ∀ (x : Int32) (rest : List Value), W p l e R s m args below meth c H locs cells slots Q (F0 m (pc + 1) lsA (.int (g x) :: rest)) → W p l e R s m args below meth c H locs cells slots Q (F0 m pc lsA (.int x :: rest)))
    (hr : zrel D K b base s S C H) (hl : zloc b base nL lsA ls) (hok : ∀ v ∈ st, zok v) (hS : va_S (fun q : Nat => base ≤ q) s.heap H locs) (kk : zkk p l e R s m args below meth c cells slots Q D K b base nL S o) : W p l e R s m args below meth c H locs cells slots Q (F0 m pc lsA (st.map (ztr b base))) := by
  unfold zo1 at h
  split at h
  · next x r =>
    refine row (Int32.ofInt x) (r.map (ztr b base)) ?_
    rw [← zu_of g x]
    cases h
    refine kk.same (st' := .inl (zu g x) :: r) rfl hr hl (fun w hw => ?_) hS
    rcases List.mem_cons.mp hw with rfl | hw
    · exact z32_zu _ _
    · exact hok w (List.mem_cons_of_mem _ hw)
  · cases h
theorem zs_o2l {g : Int64 → Int64 → Int64} (h : zo2l g pc ls st S C = some o)
    (row : ∀ (x y : Int64) (rest : List Value), W p l e R s m args below meth c H locs cells slots Q (F0 m (pc + 1) lsA (.long (g x y) :: rest)) → W p l e R s m args below meth c H locs cells slots Q (F0 m pc lsA (.long y :: .long x :: rest)))
    (hr : zrel D K b base s S C H) (hl : zloc b base nL lsA ls) (hok : ∀ v ∈ st, zok v) (hS : va_S (fun q : Nat => base ≤ q) s.heap H locs) (kk : zkk p l e R s m args below meth c cells slots Q D K b base nL S o) : W p l e R s m args below meth c H locs cells slots Q (F0 m pc lsA (st.map (ztr b base))) := by
  unfold zo2l at h
  split at h
  · next y x r =>
    refine row (Int64.ofInt x) (Int64.ofInt y) (r.map (ztr b base)) ?_
    rw [← zlb_of g x y]
    cases h
    refine kk.same (st' := .inr (.inl (zlb g x y)) :: r) rfl hr hl (fun w hw => ?_) hS
    rcases List.mem_cons.mp hw with rfl | hw
    · exact z64_zlb _ _ _
    · exact hok w (List.mem_cons_of_mem _ (List.mem_cons_of_mem _ hw))
  · cases h
theorem z64_of32 {x : Int} (h : z32 x = x) : z64 x = x := by
  have := z32_range x
  rw [h] at this
  unfold z64
  rw [Int64.toInt_ofInt]
  have hs : (Int64.size : Int) = 18446744073709551616 := rfl
  exact Int.bmod_eq_of_le (by rw [hs]; omega) (by rw [hs]; omega)
theorem zs_i2l (h : zi2l pc ls st S C = some o) (hx : p.tables.exec = Jvm.exec) (hb : c.code = q.2.1) (hdg : decode q.2.1 pc = .ok (.i2l, 1))
    (hr : zrel D K b base s S C H) (hl : zloc b base nL lsA ls) (hok : ∀ v ∈ st, zok v) (hS : va_S (fun q : Nat => base ≤ q) s.heap H locs) (kk : zkk p l e R s m args below meth c cells slots Q D K b base nL S o) : W p l e R s m args below meth c H locs cells slots Q (F0 m pc lsA (st.map (ztr b base))) := by
  unfold zi2l at h
  split at h
  · next x r =>
    have hx0 : z32 x = x := hok (.inl x) List.mem_cons_self
    have e1 : (Int32.ofInt x).toInt64 = Int64.ofInt x := by
      rw [← Int64.toInt_inj, Int32.toInt_toInt64]
      show z32 x = z64 x
      rw [hx0, z64_of32 hx0]
    refine lv_i2l hx hb hdg e1 ?_
    cases h
    refine kk.same (st' := .inr (.inl x) :: r) rfl hr hl (fun w hw => ?_) hS
    rcases List.mem_cons.mp hw with rfl | hw
    · exact z64_of32 hx0
    · exact hok w (List.mem_cons_of_mem _ hw)
  · cases h
theorem zs_lcmp (h : zlcmp pc ls st S C = some o) (hx : p.tables.exec = Jvm.exec) (hb : c.code = q.2.1) (hdg : decode q.2.1 pc = .ok (.lcmp, 1))
    (hr : zrel D K b base s S C H) (hl : zloc b base nL lsA ls) (hok : ∀ v ∈ st, zok v) (hS : va_S (fun q : Nat => base ≤ q) s.heap H locs) (kk : zkk p l e R s m args below meth c cells slots Q D K b base nL S o) : W p l e R s m args below meth c H locs cells slots Q (F0 m pc lsA (st.map (ztr b base))) := by
  unfold zlcmp at h
  split at h
  · next y x r =>
    have hy0 : z64 y = y := hok (.inr (.inl y)) List.mem_cons_self
    have hx0 : z64 x = x := hok (.inr (.inl x)) (List.mem_cons_of_mem _ List.mem_cons_self)
    have e1 : lg_cmp (Int64.ofInt x) (Int64.ofInt y) = Int32.ofInt (if y < x then 1 else if x = y then 0 else -1) := by
      unfold lg_cmp
      simp only [z64_lt hy0 hx0, z64_eq hx0 hy0, gt_iff_lt]
      split
      · rfl
      · split <;> rfl
    refine W.lcmp hx hb hdg ?_
    rw [e1]
    cases h
    refine kk.same (st' := .inl (if y < x then 1 else if x = y then 0 else -1) :: r) rfl hr hl (fun w hw => ?_) hS
    rcases List.mem_cons.mp hw with rfl | hw
    · show z32 _ = _
      split
      · decide
      · split <;> decide
    · exact hok w (List.mem_cons_of_mem _ (List.mem_cons_of_mem _ hw))
  · cases h
theorem zs_dup (h : zdup pc ls st S C = some o) (hx : p.tables.exec = Jvm.exec) (hb : c.code = q.2.1) (hdg : decode q.2.1 pc = .ok (.dup, 1))
    (hr : zrel D K b base s S C H) (hl : zloc b base nL lsA ls) (hok : ∀ v ∈ st, zok v) (hS : va_S (fun q : Nat => base ≤ q) s.heap H locs) (kk : zkk p l e R s m args below meth c cells slots Q D K b base nL S o) : W p l e R s m args below meth c H locs cells slots Q (F0 m pc lsA (st.map (ztr b base))) := by
  unfold zdup at h
  split at h
  · next x r =>
    refine lv_dup hx hb hdg rfl ?_
    cases h
    refine kk.same (st' := .inl x :: .inl x :: r) rfl hr hl (fun w hw => ?_) hS
    rcases List.mem_cons.mp hw with rfl | hw
    · exact hok _ List.mem_cons_self
    · exact hok w hw
  · next x r =>
    refine lv_dup hx hb hdg (ztr_cat1 (v := .inr (.inr x)) rfl) ?_
    cases h
    refine kk.same (st' := .inr (.inr x) :: .inr (.inr x) :: r) rfl hr hl (fun w hw => ?_) hS
    rcases List.mem_cons.mp hw with rfl | hw
    · exact hok _ List.mem_cons_self
    · exact hok w hw
  · cases h
theorem zs_dup2 (h : zdup2 pc ls st S C = some o) (hx : p.tables.exec = Jvm.exec) (hb : c.code = q.2.1) (hdg : decode q.2.1 pc = .ok (.dup2, 1))
    (hr : zrel D K b base s S C H) (hl : zloc b base nL lsA ls) (hok : ∀ v ∈ st, zok v) (hS : va_S (fun q : Nat => base ≤ q) s.heap H locs) (kk : zkk p l e R s m args below meth c cells slots Q D K b base nL S o) : W p l e R s m args below meth c H locs cells slots Q (F0 m pc lsA (st.map (ztr b base))) := by
  unfold zdup2 at h
  split at h
  · next x y r =>
    refine lv_dup2_11 hx hb hdg rfl (ztr_cat1 (v := .inr (.inr y)) rfl) ?_
    cases h
    refine kk.same (st' := .inl x :: .inr (.inr y) :: .inl x :: .inr (.inr y) :: r) rfl hr hl (fun w hw => ?_) hS
    rcases List.mem_cons.mp hw with rfl | hw
    · exact hok _ List.mem_cons_self
    · rcases List.mem_cons.mp hw with rfl | hw
      · exact trivial
      · exact hok w hw
  · cases h
theorem zs_pop (h : zpop pc ls st S C = some o) (hx : p.tables.exec = Jvm.exec) (hb : c.code = q.2.1) (hdg : decode q.2.1 pc = .ok (.pop, 1))
    (hr : zrel D K b base s S C H) (hl : zloc b base nL lsA ls) (hok : ∀ v ∈ st, zok v) (hS : va_S (fun q : Nat => base ≤ q) s.heap H locs) (kk : zkk p l e R s m args below meth c cells slots Q D K b base nL S o) : W p l e R s m args below meth c H locs cells slots Q (F0 m pc lsA (st.map (ztr b base))) := by
  unfold zpop at h
  split at h
  · next x r =>
    refine lv_pop hx hb hdg rfl ?_
    cases h
    exact kk.same (st' := r) rfl hr hl (fun w hw => hok w (List.mem_cons_of_mem _ hw)) hS
  · cases h
theorem zs_if1 {f : Int → Prop} [DecidablePred f] {F : Int32 → Prop} {tgt : Nat} (h : zif1 f tgt pc ls st S C = some o) (hf : ∀ a, z32 a = a → (F (Int32.ofInt a) ↔ f a))
    (row : ∀ (x : Int32) (rest : List Value), (F x → W p l e R s m args below meth c H locs cells slots Q (F0 m tgt lsA rest)) → (¬ F x → W p l e R s m args below meth c H locs cells slots Q (F0 m (pc + 3) lsA rest)) → W p l e R s m args below meth c H locs cells slots Q (F0 m pc lsA (.int x :: rest)))
    (hr : zrel D K b base s S C H) (hl : zloc b base nL lsA ls) (hok : ∀ v ∈ st, zok v) (hS : va_S (fun q : Nat => base ≤ q) s.heap H locs) (kk : zkk p l e R s m args below meth c cells slots Q D K b base nL S o) : W p l e R s m args below meth c H locs cells slots Q (F0 m pc lsA (st.map (ztr b base))) := by
  unfold zif1 at h
  split at h
  · next x r =>
    have hx0 : z32 x = x := hok (.inl x) List.mem_cons_self
    have hok' : ∀ v ∈ r, zok v := fun w hw => hok w (List.mem_cons_of_mem _ hw)
    refine row (Int32.ofInt x) (r.map (ztr b base)) (fun hc => ?_) (fun hc => ?_)
    · rw [if_pos ((hf x hx0).mp hc)] at h
      cases h
      exact kk.same (st' := r) rfl hr hl hok' hS
    · rw [if_neg (fun z => hc ((hf x hx0).mpr z))] at h
      cases h
      exact kk.same (st' := r) rfl hr hl hok' hS
  · cases h
theorem zs_if2 {f : Int → Int → Prop} [∀ a b, Decidable (f a b)] {F : Int32 → Int32 → Prop} {tgt : Nat} (h : zif2 f tgt pc ls st S C = some o) (hf : ∀ a b, z32 a = a → z32 b = b → (F (Int32.ofInt a) (Int32.ofInt b) ↔ f a b))
    (row : ∀ (x y : Int32) (rest : List Value), (F x y → W p l e R s m args below meth c H locs cells slots Q (F0 m tgt lsA rest)) → (¬ F x y → W p l e R s m args below meth c H locs cells slots Q (F0 m (pc + 3) lsA rest)) → W p l e R s m args below meth c H locs cells slots Q (F0 m pc lsA (.int y :: .int x :: rest)))
    (hr : zrel D K b base s S C H) (hl : zloc b base nL lsA ls) (hok : ∀ v ∈ st, zok v) (hS : va_S (fun q : Nat => base ≤ q) s.heap H locs) (kk : zkk p l e R s m args below meth c cells slots Q D K b base nL S o) : W p l e R s m args below meth c H locs cells slots Q (F0 m pc lsA (st.map (ztr b base))) := by
  unfold zif2 at h
  split at h
  · next y x r =>
    have hy0 : z32 y = y := hok (.inl y) List.mem_cons_self
    have hx0 : z32 x = x := hok (.inl x) (List.mem_cons_of_mem _ List.mem_cons_self)
    have hok' : ∀ v ∈ r, zok v := fun w hw => hok w (List.mem_cons_of_mem _ (List.mem_cons_of_mem _ hw))
    refine row (Int32.ofInt x) (Int32.ofInt y) (r.map (ztr b base)) (fun hc => ?_) (fun hc => ?_)
    · rw [if_pos ((hf x y hx0 hy0).mp hc)] at h
      cases h
      exact kk.same (st' := r) rfl hr hl hok' hS
    · rw [if_neg (fun z => hc ((hf x y hx0 hy0).mpr z))] at h
      cases h
      exact kk.same (st' := r) rfl hr hl hok' hS
  · cases h
theorem zs_sw {d lo hi : Int} {offs : Array Int} {len : Nat} (h : zsw d lo hi offs pc ls st S C = some o) (hx : p.tables.exec = Jvm.exec) (hb : c.code = q.2.1) (hdg : decode q.2.1 pc = .ok (.tableswitch d lo hi offs, len))
    (hr : zrel D K b base s S C H) (hl : zloc b base nL lsA ls) (hok : ∀ v ∈ st, zok v) (hS : va_S (fun q : Nat => base ≤ q) s.heap H locs) (kk : zkk p l e R s m args below meth c cells slots Q D K b base nL S o) : W p l e R s m args below meth c H locs cells slots Q (F0 m pc lsA (st.map (ztr b base))) := by
  unfold zsw at h
  split at h
  · next x r =>
    have hx0 : z32 x = x := hok (.inl x) List.mem_cons_self
    have hx1 : (Int32.ofInt x).toInt = x := hx0
    have hok' : ∀ v ∈ r, zok v := fun w hw => hok w (List.mem_cons_of_mem _ hw)
    split at h
    · next ho =>
      split at h
      · next h0 =>
        refine lv_tableOut (tgt := ((pc : Int) + d).toNat) hx hb hdg (by rw [hx1]; exact ho) (by omega) ?_
        cases h
        exact kk.same (st' := r) rfl hr hl hok' hS
      · cases h
    · next ho =>
      have h1 : ¬ x < lo := fun z => ho (Or.inl z)
      have h2 : ¬ hi < x := fun z => ho (Or.inr z)
      split at h
      · next off hoff =>
        split at h
        · next h0 =>
          refine lv_tableIn (tgt := ((pc : Int) + off).toNat) (off := off) hx hb hdg (by rw [hx1]; exact h1) (by rw [hx1]; exact h2) (by rw [hx1]; exact hoff) (by omega) ?_
          cases h
          exact kk.same (st' := r) rfl hr hl hok' hS
        · cases h
      · cases h
  · cases h
end ZSND

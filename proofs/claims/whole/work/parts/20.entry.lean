/-! THE CLAIM OUT OF ONE WALK OF THE LAW'S BODY. Your part is whole_start (and what it stands on); all else here is the same for every law, but numbers. -/
def R_law : String := "NewOrBackLaw"
def lw_P (b : Addr) (xs : List Int32) (args : Array Value) (s : State) : Prop := args = #[.ref b] ∧ s.IntsAt b xs ∧ xs.length ≤ 3072 ∧ (Jvm.Cond.and given_1 narrow_1).before args s = true
def lw_Q (_ : Array Value) (s : State) (o : Outcome) (t : State) : Prop := o = .returned (some (.int 1)) ∧ Framed s o t [] 600000 7302250
def lw_Z (below : List Frame) (a : Array Value) (s : State) : State → Prop := fun t => ∃ o, t.status = .running ∧ Ended t below o ∧ lw_Q a s o t
/-- the law's own end, with 1 on the stack, nothing written that was there before, its room as the claim has it -/
theorem lw_ret {p : Program} {l : Launch} {e : Env} {s : State} {m : MethodId} {below : List Frame} {meth : Method} {c : Code} {b : Nat} (hx : p.tables.exec = Jvm.exec) (hb : c.code = code) (hr : meth.sig.returnType = ret) (hlocks : meth.locks = false) {pc : Nat} {H : Heap} {ls : Array Slot} (hdg : decode code pc = .ok (.ireturn, 1)) : W p l e room_1 s m #[Value.ref b] below meth c H [] 600000 7302250 (lw_Z below #[Value.ref b] s) (F0 m pc ls [.int 1]) := by
  intro T hT X
  obtain ⟨fs, hret, hrun, hended, hW, hframe⟩ := X.leave (v := some (.int 1)) (hlocks := hlocks) (fun h => by rw [hr] at h; cases h)
  have hmeth' : T.vm.method? m = some meth := X.method'
  refine ⟨T.setFrames fs, ?_, .returned (some (.int 1)), hrun, hended, rfl, ⟨_, rfl⟩, hW, hframe⟩
  jvm_step X.here [X.here.top, hx, hb, hdg, hmeth', hr, ret, narrow_b1]
  (try refine ⟨rfl, ?_⟩); (try refine ⟨rfl, ?_⟩)
  first | (intro acts; rw [hret _ acts rfl rfl rfl]) | rw [hret _ _ rfl rfl rfl]
  exact Steps.refl _
/-- what holds at the law's entry: the machine, the code, the tables' words (any of lw_tbl by 'hts w (by decide +kernel)'), the script of L ints xs at the cell b, what the Statement gives of the start (any of its parts by flat_of_before) -/
def lw_At (p : Program) (s : State) (m : MethodId) (meth : Method) (c : Code) (b L : Nat) (xs : Nat → Int32) : Prop :=
  p.tables.exec = Jvm.exec ∧ c.code = code ∧ meth.sig.returnType = ret ∧ c.maxLocals = 4 ∧ s.vm.findClass R_law = some m.cls ∧ (∀ w ∈ lw_tbl, w.before #[Value.ref b] s = true) ∧ va_X b L xs s s.heap ∧ b < s.heap.size ∧ meth.locks = false ∧ (Jvm.Cond.and given_1 narrow_1).before #[Value.ref b] s = true
/-- what is left to prove: the small machine's run of the law answers 1, within the room -/
def zS0 (L : Nat) : ZS := ((1, 0), fun _ => 12, fun _ => L, fun _ _ => none)
def zC0 (xs : Nat → Int) : ZC := fun a j => if a = 0 then xs j else 0
def zGoal : Prop := ∀ (L : Nat) (xs : Nat → Int), L ≤ 3072 → (∀ j, z32 (xs j) = xs j) → ∃ (n : Nat) (S' : ZS) (C' : ZC), zrun n 800 173 0 [some (.inr (.inr (some 0))), none, none, none] [] (zS0 L) (zC0 xs) = some (some (.inl 1), S', C') ∧ S'.1.1 ≤ 600001 ∧ S'.1.2 ≤ 7302250
theorem zM_law : (zM.getD 173 zM0).1.cls = "NewOrBackLaw" ∧ (zM.getD 173 zM0).1.name = "law" ∧ (zM.getD 173 zM0).2.1 = code ∧ (zM.getD 173 zM0).2.2.1 = 4 := ⟨rfl, rfl, rfl, rfl⟩
theorem zKn_all {args : Array Value} {s : State} (hts : ∀ w ∈ zW, w.before args s = true) (hins : ∀ x, x < 8 → ∃ n, (Cond.instantiable (zKd x).1 n).before args s = true) : ∃ (D : va_G), ∀ (x : Nat) (q : vw_C), zCl[x]? = some q → u_Kn s q.1 q.2.1 q.2.2 (D.1 x) (D.2 x) := by
  have h : ∀ x, ∃ r : ClassId × (Nat → Nat), x < 8 → u_Kn s (zKd x).1 (zKd x).2.1 (zKd x).2.2 r.1 r.2 := by
    intro x
    by_cases hx : x < 8
    · obtain ⟨n, hn⟩ := hins x hx
      obtain ⟨cC, iS, hK⟩ := u_known hts (zuw x hx) hn
      exact ⟨(cC, iS), fun _ => hK⟩
    · exact ⟨(0, fun _ => 0), fun h => absurd h hx⟩
  refine ⟨(fun x => (Classical.choose (h x)).1, fun x => (Classical.choose (h x)).2), fun x q hq => ?_⟩
  have hx : x < 8 := (List.getElem?_eq_some_iff.mp hq).1
  have e : q = zKd x := Option.some.inj (hq.symm.trans (zKd_at x hx))
  subst e
  exact Classical.choose_spec (h x) hx
theorem zinst_at : ∀ x, x < 8 → ∃ i : Nat, lw_tbl[i]? = some (Cond.instantiable (zKd x).1 (zKd x).2.2) := lt_s (lt_s (lt_s (lt_s (lt_s (lt_s (lt_s (lt_s (lt_0) ⟨246, by decide +kernel⟩) ⟨185, by decide +kernel⟩) ⟨265, by decide +kernel⟩) ⟨221, by decide +kernel⟩) ⟨117, by decide +kernel⟩) ⟨78, by decide +kernel⟩) ⟨68, by decide +kernel⟩) ⟨742, by decide +kernel⟩
theorem znest_of {args : Array Value} {s : State} (hts : ∀ w ∈ lw_tbl, w.before args s = true) : zNW s := by
  intro w hw hn
  have h0 := hts w hw
  unfold zNest at hn
  split at hn
  · exact va_Nw.of rfl h0
  · exact va_Nw.of rfl h0
  · exact va_AO.of h0
  · exact h0
  · cases hn
theorem zarr_of {args : Array Value} {s : State} {ty : FieldType} (hp : ∀ C, ty ≠ .object C) (h : (Cond.arrayClass ty).before args s = true) : ∃ cA : ClassId, ArrOfT s cA ty ∧ va_RA s cA ty := by
  obtain ⟨c, k, comp, h1, h2, h3⟩ := Cond.arrayClass_spec h
  refine ⟨c, fun n z => ⟨fun k h => (by cases h), k, h2, comp, h3⟩, ?_⟩
  cases ty with
  | object C => exact absurd rfl (hp C)
  | _ => exact h1
/-- THE LAW, from its entry -/
theorem whole_of (HM : zMulti) (HG : zGoal) {p : Program} {e : Env} {s : State} {m : MethodId} {below : List Frame} {meth : Method} {c : Code} (l : Launch) {b L : Nat} {xs : Nat → Int32} (hL : L ≤ 3072) (C0 : lw_At p s m meth c b L xs) : W p l e room_1 s m #[Value.ref b] below meth c s.heap [] 0 0 (lw_Z below #[Value.ref b] s) (entryFrame m ([Value.ref b] : List Value).toArray 4) := by
  obtain ⟨hex, hb, hret, hml, hown, hts, hX, hbl, hlocks, hgv⟩ := C0
  have htsW : ∀ w ∈ zW, w.before #[Value.ref b] s = true := fun w hw => hts w (zW_tbl hw)
  obtain ⟨D, hD⟩ := zKn_all htsW (fun x hx => by
    obtain ⟨i, hi⟩ := zinst_at x hx
    exact ⟨_, hts _ (List.mem_of_getElem? hi)⟩)
  obtain ⟨cI, hI1, hI2⟩ := zarr_of (ty := .int) (fun C h => by cases h) (hts _ (List.mem_of_getElem? zw_ai))
  obtain ⟨cZ, hZ1, hZ2⟩ := zarr_of (ty := .boolean) (fun C h => by cases h) (hts _ (List.mem_of_getElem? zw_az))
  obtain ⟨compW, cW, kW, w1, -, w3, w4, w5⟩ := Cond.arrayOver_spec (hts _ (List.mem_of_getElem? zw_ow))
  obtain ⟨compA, cA, kA, a1, -, a3, a4, a5⟩ := arrayOverA_spec (hts _ (List.mem_of_getElem? zw_oi))
  have hK : va_K D zCl (zTys (cI, cZ, cW, cA)) s := by
    refine ⟨hD, fun k q hk => ?_⟩
    match k, hk with
    | 0, hk => cases hk; exact ⟨hI1, hI2⟩
    | 1, hk => cases hk; exact ⟨hZ1, hZ2⟩
    | 2, hk => cases hk; exact ⟨fun n z => ⟨fun k h => (by cases h), kW, w3, compW, w4⟩, kW, compW, w3, w4, w1, w5⟩
    | 3, hk => cases hk; exact ⟨fun n z => ⟨fun k h => (by cases h), kA, a3, compA, a4⟩, a5⟩
    | k + 4, hk => simp at hk
  obtain ⟨n, S', C', hrun, hcells, hslots⟩ := HG L (fun j => (xs j).toInt) hL (fun j => z32_32 _)
  obtain ⟨⟨m1, m2⟩, hsnd⟩ := zrun_sound HM l n 800 173 0 _ _ _ _ _ _ _ hrun (by omega)
  have hl := lv_entry ([.ref b]) (n := 4) (Nat.le_of_ble_eq_true rfl)
  rw [lg_entry_eq]
  generalize (lg_sl ([.ref b]) ++ List.replicate (4 - (lg_sl ([.ref b])).length) Slot.unset).toArray = lsA at hl ⊢
  have hl : lv_has lsA 4 [(0, .ref b)] := hl
  have hS0 : (zS0 L).1.1 = 1 := rfl
  have hS1 : (zS0 L).1.2 = 0 := rfl
  refine hsnd p e room_1 s m #[Value.ref b] below meth c s.heap [] 0 0 (lw_Z below #[Value.ref b] s) D (cI, cZ, cW, cA) b s.heap.size lsA ⟨hex, hb, hml, hown, htsW, znest_of hts, hK, fun h => absurd (zM_law.2.1.symm.trans h) (by decide)⟩ ?_ ?_ (fun w hw => by cases hw) va_S.rf
    (Nat.le_of_ble_eq_true rfl) (Nat.le_of_ble_eq_true rfl) (by rw [hS0]; show _ ≤ 600000; omega) (by rw [hS1]; show _ ≤ 7302250; omega) ?_
  · obtain ⟨scr, x1, x2, x3, x4, x5⟩ := hX
    refine ⟨rfl, Nat.le_refl _, rfl, hbl, fun a ha1 ha2 => absurd ha2 (by rw [hS0]; omega), fun a j => ?_, scr, x1, x2, x3, x4, fun j hj => ?_⟩
    · unfold zC0
      split
      · exact z32_32 _
      · exact z32_0
    · rw [x5 j hj]
      show _ = some (Value.int (Int32.ofInt (xs j).toInt))
      rw [Int32.ofInt_toInt]
  · refine ⟨hl.mono (fun q hq => ?_), rfl, fun i v hg => ?_⟩
    · obtain ⟨w, h1, h2⟩ := zas_mem.mp hq
      obtain ⟨i, x⟩ := q
      dsimp only at h1 h2
      subst h2
      have h3 := (zget_lt h1).2
      match i, h3 with
      | 0, h3 => cases h3; exact List.mem_cons_self
      | 1, h3 => cases h3
      | 2, h3 => cases h3
      | 3, h3 => cases h3
      | i + 4, h3 => simp at h3
    · have h3 := (zget_lt hg).2
      match i, h3 with
      | 0, h3 => cases h3; trivial
      | 1, h3 => cases h3
      | 2, h3 => cases h3
      | 3, h3 => cases h3
      | i + 4, h3 => simp at h3
  · intro H' locs' lsA' pc' ins hdec hre hrw hok' hr' hS'
    unfold zret at hre
    split at hre
    · next ins w hst =>
      cases hst
      refine W.widen (k := 600000) (n := 7302250) (by rw [hS0]; omega) (by rw [hS1]; omega) ?_
      exact va_forget hS'.2.2 (lw_ret hex hb hret hlocks hdec)
    · next ins w hst => cases hst
    · next ins hst => cases hst
    · cases hre

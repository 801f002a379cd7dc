section ZCALL
variable {p : Program} {l : Launch} {e : Env} {R : Room} {s : State} {m : MethodId} {args : Array Value} {below : List Frame} {meth : Method} {c : Code} {H : Heap} {locs : List Loc} {cells slots mc ms : Nat} {Q : State → Prop}
variable {q : ZM} {D : va_G} {K : ZK} {b base pc len d x y pl : Nat} {z : Int} {ins : Instr} {lsA : Array Slot} {ls : ZL} {st as r : List ZV} {S S1 : ZS} {C C1 : ZC} {v1 : Option ZV}
theorem zcont {rest st0 : List Value} {a : Array Value} (hr0 : va_Run p l e R s m args below meth c H locs cells slots mc ms (F0 m pc lsA st0) rest (zQc D K b base v1 S1 C1 a) (fun q : Nat => base ≤ q)) (hS : va_S (fun q : Nat => base ≤ q) s.heap H locs)
    (kk : ∀ (H' : Heap) (locs' : List Loc), zrel D K b base s S1 C1 H' → va_S (fun q : Nat => base ≤ q) s.heap H' locs' → (∀ w, v1 = some w → zok w) → W p l e R s m args below meth c H' locs' (cells + mc) (slots + ms) Q (F0 m (pc + 3) lsA ((v1.map (ztr b base)).toList ++ rest))) : W p l e R s m args below meth c H locs cells slots Q (F0 m pc lsA st0) := by
  intro T hT X
  obtain ⟨v, st₀, t, T', L, h0, X', hL, e1, e2, ⟨hv, hok1, hrel, hF⟩, st⟩ := hr0 T hT X
  cases hv
  obtain ⟨hz, hk⟩ := hF
  rw [h0] at hz hk
  have hal : t.vm.Alike s.vm := by rw [← e2]; exact X'.warmed.alike.symm
  obtain ⟨t2, a1, b1⟩ := kk T'.heap (locs ++ L) (by rw [e1]; exact hrel.moved hal) ⟨Nat.le_trans hS.1 (by rw [e1]; exact hz), fun q h1 h2 => by rw [e1, hk q (Nat.lt_of_lt_of_le h1 hS.1) h2]; exact hS.2.1 q h1 h2, fun q hq => by
      rcases List.mem_append.mp hq with h | h
      · exact hS.2.2 q h
      · exact hL q h⟩ hok1 T' rfl X'
  exact ⟨t2, st t2 a1, b1⟩
theorem zgood {w0 : Cond} (h0 : w0 ∈ zW) : GoodIn zW (w0 :: zW) := fun w hw => by
  rcases List.mem_cons.mp hw with rfl | hw
  · exact ⟨h0, zW_good h0⟩
  · exact ⟨hw, zW_good hw⟩
theorem ztake {n : Nat} : st.map (ztr b base) = (((st.take n).reverse).map (ztr b base)).reverse ++ (st.drop n).map (ztr b base) := by
  rw [← List.map_reverse, List.reverse_reverse, ← List.map_append, List.take_append_drop]
set_option maxHeartbeats 2000000 in
theorem zcall_sound (hcl : zcall ins x y st S = some (as, r)) (hx : x < 173) (hM1 : Met l (zM.getD x zM0).1 (Cond.code (zM.getD x zM0).1 (zM.getD x zM0).2.1 (zM.getD x zM0).2.2.1 (zM.getD x zM0).2.2.2.1 :: zW) { frames := d, cells := mc, slots := ms, locals := 100 * d } (zPc D K b base S C as) (zQc D K b base v1 S1 C1) mc ms (fun q : Nat => base ≤ q))
    (hc : zctx p s m args meth c q D K) (hk : zchk q (pc, ins, len, (x, y, z), pl) = true) (hcw : zcw (pc, ins, len, (x, y, z), pl) = true) (hr : zrel D K b base s S C H) (hl : zloc b base q.2.2.1 lsA ls) (hS : va_S (fun q : Nat => base ≤ q) s.heap H locs)
    (hd1 : d + 1 ≤ R.frames) (hd2 : 100 * (d + 1) ≤ R.locals) (hcells : cells + mc ≤ R.cells) (hslots : slots + ms ≤ R.slots)
    (kk : ∀ (H' : Heap) (locs' : List Loc), zrel D K b base s S1 C1 H' → va_S (fun q : Nat => base ≤ q) s.heap H' locs' → (∀ w, v1 = some w → zok w) → W p l e R s m args below meth c H' locs' (cells + mc) (slots + ms) Q (F0 m (pc + 3) lsA ((v1.map (ztr b base)).toList ++ r.map (ztr b base)))) : W p l e R s m args below meth c H locs cells slots Q (F0 m pc lsA (st.map (ztr b base))) := by
  obtain ⟨hex, hb, hml, hown, hts, hnw, hK, hname⟩ := id hc
  obtain ⟨hd, hn, hz⟩ := zchk_at hk
  have hq := zmq_use (zmq x hx)
  have hcode : Cond.code (zM.getD x zM0).1 (zM.getD x zM0).2.1 (zM.getD x zM0).2.2.1 (zM.getD x zM0).2.2.2.1 ∈ zW := zW_of _ (zmw x hx) rfl
  have hini : (Cond.initialized (zM.getD x zM0).1.cls).before args s = true := hts _ (zW_of _ hq.1.1 rfl)
  have hR : d + 1 ≤ R.frames ∧ 8 + ((zM.getD x zM0).2.2.1 + 11) + 100 * d ≤ R.locals := ⟨hd1, by have := hq.1.2.2.2.2; omega⟩
  have hfx : CallFix p m c q.2.1 q.2.2.1 s args zW q.1.cls := ⟨hex, hb, hml, hown, hts⟩
  have hPc : ∀ U : State, U.heap = H → s.WarmedH U.vm → zPc D K b base S C as (as.map (ztr b base)).toArray U := fun U hU hW => ⟨rfl, by rw [hU]; exact hr.moved hW.alike, va_K.moved hW.alike hK, hnw.warm hW⟩
  unfold zcall at hcl
  cases hga : zargs ins y st with
  | none => rw [hga] at hcl; cases hcl
  | some ar =>
    obtain ⟨as0, r0⟩ := ar
    rw [hga] at hcl
    dsimp only at hcl
    split at hcl
    · next hcond =>
      obtain ⟨hcat, hlen, hrecv, hr4⟩ := hcond
      cases hcl
      have hroom := lv_room (m := m) (pc := pc) (ls := lsA) (rest := st.map (ztr b base)) (zcat_map (b := b) (base := base) hr4)
      cases ins with
      | invokestatic i =>
        replace hga : (if y ≤ st.length then some ((st.take y).reverse, st.drop y) else none) = some (as, r) := hga
        split at hga
        · next hy =>
          cases hga
          have hd := zdec hd hn
          have hz : (if x = 1000 then decide (lw_tbl[pl]? = some (.methodLink q.1.cls i arraycopyName)) else if x = 1001 then decide (lw_tbl[pl]? = some (.methodLink q.1.cls i Lib.Math.min.name)) else if x = 1002 then decide (lw_tbl[pl]? = some (.methodLink q.1.cls i Lib.Math.max.name)) else decide (x < zM.length ∧ lw_tbl[pl]? = some (zmk_ q.1.cls i (zMn x) z)) && zpn (zMn x) y) = true := hz
          rw [if_neg (by omega), if_neg (by omega), if_neg (by omega), Bool.and_eq_true, zMn_eq (by omega)] at hz
          have hlk := (of_decide_eq_true hz.1).2
          have hpn : (parseMethodDescriptor (zM.getD x zM0).1.desc).map (fun d => d.parameters.length) = some y := of_decide_eq_true hz.2
          have hcw : 1000 ≤ x ∨ (x < 173 ∧ (zM.getD x zM0).2.2.2.2.2.2.2.2 ≠ 5000) := of_decide_eq_true hcw
          have hst : (Cond.static (zM.getD x zM0).1).before args s = true := hts _ (zW_of _ (hq.2.2.2.resolve_left (hcw.resolve_left (by omega)).2) rfl)
          have hln : (((st.take y).reverse).map (ztr b base)).length = y := by rw [List.length_map, List.length_reverse, List.length_take]; omega
          unfold zmk_ at hlk
          by_cases hz1 : z = 1
          · rw [if_pos hz1] at hlk
            have hnl : va_Nw (.methodLinkNest q.1.cls i (zM.getD x zM0).1 "NewOrBack") s := hnw _ (List.mem_of_getElem? hlk) rfl
            exact zcont (va_runSN hfx hM1 ⟨va_cnB y hts (zgood hcode) rfl rfl rfl hnl hini ⟨hq.1.2.2.1, hq.1.2.2.2.1, hpn⟩ hR, hst, trivial⟩ ⟨zblind, hPc⟩ rfl hln hl.1.1 ztake hroom hd ⟨hcells, hslots⟩) hS kk
          · rw [if_neg hz1] at hlk
            exact zcont (va_runS hfx hM1 ⟨callB_of y hts (zgood hcode) rfl rfl rfl hini (hts _ (zW_of pl hlk rfl)) ⟨hq.1.2.2.1, hq.1.2.2.2.1, hpn⟩ hR, hst⟩ ⟨zblind, hPc⟩ rfl hln hl.1.1 ztake hroom hd ⟨hcells, hslots⟩) hS kk
        · cases hga
      | invokevirtual i =>
        replace hga : (if y + 1 ≤ st.length then some ((st.take (y + 1)).reverse, st.drop (y + 1)) else none) = some (as, r) := hga
        split at hga
        · next hy =>
          cases hga
          have hd := zdec hd hn
          have hz : (decide (x < zM.length ∧ (zMn x).cls ≠ "java/lang/Object" ∧ lw_tbl[pl]? = some (zmk_ q.1.cls i (zMn x) z)) && zpn (zMn x) y) = true := hz
          rw [Bool.and_eq_true, zMn_eq (by omega)] at hz
          have hlk := (of_decide_eq_true hz.1).2.2
          have hpn : (parseMethodDescriptor (zM.getD x zM0).1.desc).map (fun d => d.parameters.length) = some y := of_decide_eq_true hz.2
          have hcw : x < 173 ∧ (zM.getD x zM0).2.2.2.2.2.2.1 ≠ 5000 ∧ (zM.getD x zM0).2.2.2.2.2.2.2.1 ≠ 5000 := of_decide_eq_true hcw
          have him : (Cond.instanceMethod (zM.getD x zM0).1).before args s = true := hts _ (zW_of _ (hq.2.1.resolve_left hcw.2.1) rfl)
          have hse : (Cond.selects (zM.getD x zM0).1.cls (zM.getD x zM0).1 (zM.getD x zM0).1).before args s = true := hts _ (zW_of _ (hq.2.2.1.resolve_left hcw.2.2) rfl)
          have hln0 : ((st.take (y + 1)).reverse).length = y + 1 := by rw [List.length_reverse, List.length_take]; omega
          have htk := ztake (b := b) (base := base) (st := st) (n := y + 1)
          generalize (st.take (y + 1)).reverse = as at *
          unfold zrecv at hrecv
          split at hrecv
          · next heq => cases heq
          · next a as' heq =>
            obtain ⟨han, hake, hak⟩ := of_decide_eq_true hrecv
            rw [← hake] at hak
            have hcl : (zM.getD x zM0).1.cls = (zKd (S.2.1 a)).1 := by
              rw [hake]
              exact zmkd_at x hx (by rw [← hake]; exact hak)
            have ha1 := hr.n1 (a := a) rfl (by omega)
            have hcell := hr.2.2.2.2.1 a ha1 han
            unfold zcell at hcell
            rw [if_pos hak] at hcell
            obtain ⟨cell, q1, q2, q3, q4⟩ := hcell
            have hrc : ∃ cellB : Cell, H[zad b base a]? = some cellB ∧ cellB.vm.isStatics = false ∧ s.vm.findClass (zM.getD x zM0).1.cls = some cellB.cls := ⟨cell, q1, by rw [q3]; rfl, by rw [hcl, q2]; exact (hK.1 _ _ (zKd_at _ hak)).2.1⟩
            have hln : (as'.map (ztr b base)).length = y := by rw [List.length_map]; rw [List.length_cons] at hln0; omega
            have hstk : st.map (ztr b base) = (as'.map (ztr b base)).reverse ++ .ref (zad b base a) :: (st.drop (y + 1)).map (ztr b base) := by
              rw [htk, List.map_cons, List.reverse_cons, List.append_assoc]
              rfl
            unfold zmk_ at hlk
            by_cases hz1 : z = 1
            · rw [if_pos hz1] at hlk
              have hnl : va_Nw (.methodLinkNest q.1.cls i (zM.getD x zM0).1 "NewOrBack") s := hnw _ (List.mem_of_getElem? hlk) rfl
              exact zcont (va_runVN hfx hM1 ⟨va_cnB y hts (zgood hcode) rfl rfl rfl hnl hini ⟨hq.1.2.2.1, hq.1.2.2.2.1, hpn⟩ hR, him, hse⟩ ⟨zblind, hrc, hPc⟩ rfl hln hl.1.1 hstk hroom hd ⟨hcells, hslots⟩) hS kk
            · rw [if_neg hz1] at hlk
              exact zcont (va_runV hfx hM1 ⟨callB_of y hts (zgood hcode) rfl rfl rfl hini (hts _ (zW_of pl hlk rfl)) ⟨hq.1.2.2.1, hq.1.2.2.2.1, hpn⟩ hR, him, hse⟩ ⟨zblind, hrc, hPc⟩ rfl hln hl.1.1 hstk hroom hd ⟨hcells, hslots⟩) hS kk
          · cases hrecv
        · cases hga
      | invokespecial i =>
        replace hga : (if y + 1 ≤ st.length then some ((st.take (y + 1)).reverse, st.drop (y + 1)) else none) = some (as, r) := hga
        split at hga
        · next hy =>
          cases hga
          have hd := zdec hd hn
          have hz : (if x = 1000 then decide (lw_tbl[pl]? = some (.methodLink q.1.cls i objectInit)) && decide (y = 0) else decide (x < zM.length ∧ (zMn x).name = "<init>" ∧ lw_tbl[pl]? = some (zmk_ q.1.cls i (zMn x) z)) && zpn (zMn x) y) = true := hz
          rw [if_neg (by omega), Bool.and_eq_true, zMn_eq (by omega)] at hz
          obtain ⟨-, hnm, hlk⟩ := of_decide_eq_true hz.1
          have hpn : (parseMethodDescriptor (zM.getD x zM0).1.desc).map (fun d => d.parameters.length) = some y := of_decide_eq_true hz.2
          have hcw : 1000 ≤ x ∨ (x < 173 ∧ (zM.getD x zM0).2.2.2.2.2.2.1 ≠ 5000 ∧ (zM.getD x zM0).2.2.2.1 = none) := of_decide_eq_true hcw
          have hcw := hcw.resolve_left (by omega)
          have him : (Cond.instanceMethod (zM.getD x zM0).1).before args s = true := hts _ (zW_of _ (hq.2.1.resolve_left hcw.2.1) rfl)
          rw [hcw.2.2] at hM1 hcode
          have hln0 : ((st.take (y + 1)).reverse).length = y + 1 := by rw [List.length_reverse, List.length_take]; omega
          have htk := ztake (b := b) (base := base) (st := st) (n := y + 1)
          generalize (st.take (y + 1)).reverse = as at *
          unfold zrecv at hrecv
          split at hrecv
          · next heq => cases heq
          · next a as' heq =>
            have hln : (as'.map (ztr b base)).length = y := by rw [List.length_map]; rw [List.length_cons] at hln0; omega
            have hstk : st.map (ztr b base) = (as'.map (ztr b base)).reverse ++ .ref (zad b base a) :: (st.drop (y + 1)).map (ztr b base) := by
              rw [htk, List.map_cons, List.reverse_cons, List.append_assoc]
              rfl
            unfold zmk_ at hlk
            by_cases hz1 : z = 1
            · rw [if_pos hz1] at hlk
              have hnl : va_Nw (.methodLinkNest q.1.cls i (zM.getD x zM0).1 "NewOrBack") s := hnw _ (List.mem_of_getElem? hlk) rfl
              exact zcont (va_runIN hfx hM1 ⟨va_cnB y hts (zgood hcode) rfl rfl rfl hnl hini ⟨hq.1.2.2.1, hq.1.2.2.2.1, hpn⟩ hR, hnm, him⟩ ⟨zblind, hPc⟩ rfl hln hl.1.1 hstk hroom hd ⟨hcells, hslots⟩) hS kk
            · rw [if_neg hz1] at hlk
              exact zcont (va_runI hfx hM1 ⟨callB_of y hts (zgood hcode) rfl rfl rfl hini (hts _ (zW_of pl hlk rfl)) ⟨hq.1.2.2.1, hq.1.2.2.2.1, hpn⟩ hR, hnm, him⟩ ⟨zblind, hPc⟩ rfl hln hl.1.1 hstk hroom hd ⟨hcells, hslots⟩) hS kk
          · cases hrecv
        · cases hga
      | _ => exact nomatch (show (none : Option (List ZV × List ZV)) = some _ from hga)
    · cases hcl
theorem zin_x (h : zin1 q (pc, ins, len, (x, y, z), pl) = true) (hx : 1000 ≤ x) : (∀ i, ins = .invokestatic i → x ≤ 1002) ∧ ∀ i, ins = .invokespecial i → x = 1000 := by
  refine ⟨fun i hi => ?_, fun i hi => ?_⟩
  · subst hi
    have hz : (if x = 1000 then decide (lw_tbl[pl]? = some (.methodLink q.1.cls i arraycopyName)) else if x = 1001 then decide (lw_tbl[pl]? = some (.methodLink q.1.cls i Lib.Math.min.name)) else if x = 1002 then decide (lw_tbl[pl]? = some (.methodLink q.1.cls i Lib.Math.max.name)) else decide (x < zM.length ∧ lw_tbl[pl]? = some (zmk_ q.1.cls i (zMn x) z)) && zpn (zMn x) y) = true := h
    by_cases h1 : x ≤ 1002
    · exact h1
    · rw [if_neg (by omega), if_neg (by omega), if_neg (by omega), Bool.and_eq_true] at hz
      have := (of_decide_eq_true hz.1).1
      rw [zM_len] at this
      omega
  · subst hi
    have hz : (if x = 1000 then decide (lw_tbl[pl]? = some (.methodLink q.1.cls i objectInit)) && decide (y = 0) else decide (x < zM.length ∧ (zMn x).name = "<init>" ∧ lw_tbl[pl]? = some (zmk_ q.1.cls i (zMn x) z)) && zpn (zMn x) y) = true := h
    by_cases h1 : x = 1000
    · exact h1
    · rw [if_neg h1, Bool.and_eq_true] at hz
      have := (of_decide_eq_true hz.1).1
      rw [zM_len] at this
      omega
theorem znat_ins {o : ZO} (h : znat ins x pc ls st S C = some o) : (∃ i, ins = .invokestatic i) ∨ ∃ i, ins = .invokespecial i := by
  unfold znat at h
  repeat' split at h
  all_goals first
    | (cases h; done)
    | exact Or.inl ⟨_, rfl⟩
    | exact Or.inr ⟨_, rfl⟩
theorem zcall_ins (h : zcall ins x y st S = some (as, r)) : ((∃ i, ins = .invokestatic i) ∨ (∃ i, ins = .invokespecial i) ∨ ∃ i, ins = .invokevirtual i) ∧ as.all zcat1 = true ∧ as.length ≤ zml x ∧ (∀ v ∈ as, v ∈ st) ∧ ∀ v ∈ r, v ∈ st := by
  unfold zcall at h
  cases hga : zargs ins y st with
  | none => rw [hga] at h; cases h
  | some ar =>
    obtain ⟨as0, r0⟩ := ar
    rw [hga] at h
    dsimp only at h
    split at h
    · next hcond =>
      cases h
      have hmem : ((∃ i, ins = .invokestatic i) ∨ (∃ i, ins = .invokespecial i) ∨ ∃ i, ins = .invokevirtual i) ∧ ∃ n, as = (st.take n).reverse ∧ r = st.drop n := by
        unfold zargs at hga
        split at hga
        · split at hga
          · cases hga; exact ⟨Or.inl ⟨_, rfl⟩, _, rfl, rfl⟩
          · cases hga
        · split at hga
          · cases hga; exact ⟨Or.inr (Or.inr ⟨_, rfl⟩), _, rfl, rfl⟩
          · cases hga
        · split at hga
          · cases hga; exact ⟨Or.inr (Or.inl ⟨_, rfl⟩), _, rfl, rfl⟩
          · cases hga
        · cases hga
      obtain ⟨h1, n, rfl, rfl⟩ := hmem
      exact ⟨h1, hcond.1, hcond.2.1, fun v hv => List.mem_of_mem_take (List.mem_reverse.mp hv), fun v hv => List.mem_of_mem_drop hv⟩
    · cases h
theorem zcw_x (h : zcw (pc, ins, len, (x, y, z), pl) = true) (hi : (∃ i, ins = .invokestatic i) ∨ (∃ i, ins = .invokespecial i) ∨ ∃ i, ins = .invokevirtual i) (hx : ¬ 1000 ≤ x) : x < 173 := by
  rcases hi with ⟨i, rfl⟩ | ⟨i, rfl⟩ | ⟨i, rfl⟩
  · have h : 1000 ≤ x ∨ (x < 173 ∧ (zM.getD x zM0).2.2.2.2.2.2.2.2 ≠ 5000) := of_decide_eq_true h
    exact (h.resolve_left hx).1
  · have h : 1000 ≤ x ∨ (x < 173 ∧ (zM.getD x zM0).2.2.2.2.2.2.1 ≠ 5000 ∧ (zM.getD x zM0).2.2.2.1 = none) := of_decide_eq_true h
    exact (h.resolve_left hx).1
  · have h : x < 173 ∧ (zM.getD x zM0).2.2.2.2.2.2.1 ≠ 5000 ∧ (zM.getD x zM0).2.2.2.2.2.2.2.1 ≠ 5000 := of_decide_eq_true h
    exact h.1
end ZCALL
theorem zfetch_mem {M pc pc0 len x y pl : Nat} {z : Int} {ins : Instr} (h : zfetch M pc = some (pc0, ins, len, (x, y, z), pl)) : pc0 = pc ∧ (pc0, ins, len, (x, y, z), pl) ∈ zCode.getD M [] := by
  unfold zfetch at h
  have h1 := List.find?_some h
  exact ⟨by simpa using h1, List.mem_of_find?_eq_some h⟩
theorem zrun_sound (HM : zMulti) (l : Launch) : ∀ (n d M pc : Nat) (ls : ZL) (st : List ZV) (S : ZS) (C : ZC) (v : Option ZV) (S' : ZS) (C' : ZC), zrun n d M pc ls st S C = some (v, S', C') → M < 174 →
    (S.1.1 ≤ S'.1.1 ∧ S.1.2 ≤ S'.1.2) ∧ zSnd l d M pc ls st S C v S' C' := by
  intro n
  induction n with
  | zero => intro d M pc ls st S C v S' C' h; exact nomatch (show (none : Option (Option ZV × ZS × ZC)) = some _ from h)
  | succ n ih =>
    intro d M pc ls st S C v S' C' h hM
    unfold zrun at h
    cases hf : zfetch M pc with
    | none => rw [hf] at h; cases h
    | some ent =>
      obtain ⟨pc0, ins, len, ⟨x, y, z⟩, pl⟩ := ent
      rw [hf] at h
      dsimp only at h
      obtain ⟨hpc, hmem⟩ := zfetch_mem hf
      subst hpc
      have hk : zchk (zM.getD M zM0) (pc0, ins, len, (x, y, z), pl) = true := List.all_eq_true.mp (zck M hM) _ hmem
      have hcw : zcw (pc0, ins, len, (x, y, z), pl) = true := zcw_at M _ hmem
      have hrw : zrw (zM.getD M zM0) ins = true := zrw_at M hM _ hmem
      cases hz : zst ins x y z pc0 ls st S C with
      | some o =>
        obtain ⟨pc', ls', st', S1, C1⟩ := o
        rw [hz] at h
        dsimp only at h
        obtain ⟨⟨m1, m2⟩, hs⟩ := ih d M pc' ls' st' S1 C1 v S' C' h hM
        have hmono := zst_mono _ hz
        dsimp only at hmono
        refine ⟨⟨by omega, by omega⟩, ?_⟩
        intro p e R s m args below meth c H locs cells slots Q D K b base lsA hc hr hl hok hS hd1 hd2 hc1 hc2 hfin
        refine zst_sound HM hz hc hk (by dsimp only; omega) (by dsimp only; omega) hr hl hok hS ?_
        intro H' locs' lsA' hr' hl' hok' hS'
        refine hs p e R s m args below meth c H' locs' _ _ Q D K b base lsA' hc hr' hl' hok' hS' hd1 hd2 (by dsimp only; omega) (by dsimp only; omega) ?_
        dsimp only
        rw [show cells + (S1.1.1 - S.1.1) + (S'.1.1 - S1.1.1) = cells + (S'.1.1 - S.1.1) by omega, show slots + (S1.1.2 - S.1.2) + (S'.1.2 - S1.1.2) = slots + (S'.1.2 - S.1.2) by omega]
        exact hfin
      | none =>
        rw [hz] at h
        dsimp only at h
        cases hre : zret ins (zbool M) st with
        | some v0 =>
          rw [hre] at h
          dsimp only at h
          cases h
          refine ⟨⟨Nat.le_refl _, Nat.le_refl _⟩, ?_⟩
          intro p e R s m args below meth c H locs cells slots Q D K b base lsA hc hr hl hok hS hd1 hd2 hc1 hc2 hfin
          obtain ⟨hst, hln, hnsw⟩ := zret_st hre
          obtain ⟨hd, hn, -⟩ := zchk_at hk
          have hdec : decode (zM.getD M zM0).2.1 pc0 = .ok (ins, 1) := by
            rw [← hln]
            refine zdec hd ?_
            unfold zlc at hn
            split at hn
            · next d lo hi o => exact absurd rfl (hnsw d lo hi o)
            · exact hn
          rw [Nat.sub_self, Nat.sub_self, Nat.add_zero, Nat.add_zero] at hfin
          rw [hst]
          exact hfin H locs lsA pc0 ins hdec (by rw [← hst, ← zbool_eq hM]; exact hre) hrw (fun w hw => hok w (by rw [hst, hw]; exact List.mem_cons_self)) hr hS
        | none =>
          rw [hre] at h
          dsimp only at h
          cases d with
          | zero => cases h
          | succ d =>
            dsimp only at h
            by_cases hx : 1000 ≤ x
            · rw [if_pos hx] at h
              cases hn : znat ins x pc0 ls st S C with
              | none => rw [hn] at h; cases h
              | some o =>
                have hsame := znat_same hn
                obtain ⟨pc', ls', st', S1, C1⟩ := o
                rw [hn] at h
                dsimp only at h hsame
                subst hsame
                obtain ⟨⟨m1, m2⟩, hs⟩ := ih (d + 1) M pc' ls' st' S1 C1 v S' C' h hM
                refine ⟨⟨m1, m2⟩, ?_⟩
                intro p e R s m args below meth c H locs cells slots Q D K b base lsA hc hr hl hok hS hd1 hd2 hc1 hc2 hfin
                have hzx := zin_x (zchk_at hk).2.2 hx
                have hx2 : x ≤ 1002 := by
                  rcases znat_ins hn with ⟨i, hi⟩ | ⟨i, hi⟩
                  · exact hzx.1 i hi
                  · have := hzx.2 i hi; omega
                refine znat_sound hn hc hk hx hx2 hzx.2 (by omega) (by omega) (by omega) (by omega) hr hl hok hS ?_
                intro H' locs' lsA' hr' hl' hok' hS'
                refine hs p e R s m args below meth c H' locs' _ _ Q D K b base lsA' hc hr' hl' hok' hS' hd1 hd2 (by dsimp only; omega) (by dsimp only; omega) ?_
                dsimp only
                rw [Nat.sub_self, Nat.sub_self, Nat.add_zero, Nat.add_zero]
                exact hfin
            · rw [if_neg hx] at h
              cases hcl : zcall ins x y st S with
              | none => rw [hcl] at h; cases h
              | some ar =>
                obtain ⟨as, r⟩ := ar
                rw [hcl] at h
                dsimp only at h
                cases hru : zrun n d x 0 (zent (zml x) as) [] S C with
                | none => rw [hru] at h; cases h
                | some res =>
                  obtain ⟨v1, S1, C1⟩ := res
                  rw [hru] at h
                  dsimp only at h
                  obtain ⟨hi, hcat, hlen, hsub1, hsub2⟩ := zcall_ins hcl
                  have hx173 := zcw_x hcw hi hx
                  obtain ⟨⟨m1, m2⟩, hs1⟩ := ih d x 0 _ _ S C v1 S1 C1 hru (by omega)
                  obtain ⟨⟨m3, m4⟩, hs2⟩ := ih (d + 1) M (pc0 + 3) ls (v1.toList ++ r) S1 C1 v S' C' h hM
                  refine ⟨⟨by omega, by omega⟩, ?_⟩
                  intro p e R s m args below meth c H locs cells slots Q D K b base lsA hc hr hl hok hS hd1 hd2 hc1 hc2 hfin
                  have hM1 := zmet D K b base hx173 hs1 hcat hlen (fun a ha => hok a (hsub1 a ha))
                  refine zcall_sound hcl hx173 hM1 hc hk hcw hr hl hS hd1 hd2 (by omega) (by omega) ?_
                  intro H' locs' hr' hS' hok1
                  have key := hs2 p e R s m args below meth c H' locs' (cells + (S1.1.1 - S.1.1)) (slots + (S1.1.2 - S.1.2)) Q D K b base lsA hc hr' hl (fun w hw => by
                    rcases List.mem_append.mp hw with hw | hw
                    · cases v1 with
                      | none => cases hw
                      | some w1 =>
                        rcases List.mem_cons.mp hw with rfl | hw
                        · exact hok1 _ rfl
                        · cases hw
                    · exact hok w (hsub2 w hw)) hS' hd1 hd2 (by omega) (by omega) (by
                    rw [show cells + (S1.1.1 - S.1.1) + (S'.1.1 - S1.1.1) = cells + (S'.1.1 - S.1.1) by omega, show slots + (S1.1.2 - S.1.2) + (S'.1.2 - S1.1.2) = slots + (S'.1.2 - S.1.2) by omega]
                    exact hfin)
                  rw [List.map_append] at key
                  cases v1 with
                  | none => exact key
                  | some w1 => exact key

/-! Instructions on arrays -/
theorem zcell_arr {D : va_G} {K : ZK} {b base : Nat} {S : ZS} {C : ZC} {H : Heap} {a k : Nat} (h : zcell D K b base S C H a) (hk : S.2.1 a = k) (h8 : 8 ≤ k) : H[zad b base a]? = some (arrV (zcid K k) (S.2.2.1 a) (fun j => zval (decide (10 ≤ k)) b base (S.2.2.2 a j) (C a j))) := by
  unfold zcell at h
  rw [hk, if_neg (by omega)] at h
  exact h
theorem zcell_of_arr {D : va_G} {K : ZK} {b base : Nat} {S : ZS} {C : ZC} {H : Heap} {a k : Nat} (hk : S.2.1 a = k) (h8 : 8 ≤ k) (h : H[zad b base a]? = some (arrV (zcid K k) (S.2.2.1 a) (fun j => zval (decide (10 ≤ k)) b base (S.2.2.2 a j) (C a j)))) : zcell D K b base S C H a := by
  unfold zcell
  rw [hk, if_neg (by omega)]
  exact h
section ZSNDA
variable {p : Program} {l : Launch} {e : Env} {R : Room} {s : State} {m : MethodId} {args : Array Value} {below : List Frame} {meth : Method} {c : Code} {H : Heap} {locs : List Loc} {cells slots : Nat} {Q : State → Prop}
variable {q : ZM} {D : va_G} {K : ZK} {b base nL pc x y pl : Nat} {z : Int} {lsA : Array Slot} {ls : ZL} {st : List ZV} {S : ZS} {C : ZC} {o : ZO}
theorem zs_iald (h : ziald pc ls st S C = some o) (hc : zctx p s m args meth c q D K) (hdg : decode q.2.1 pc = .ok (.iaload, 1))
    (hr : zrel D K b base s S C H) (hl : zloc b base nL lsA ls) (hok : ∀ v ∈ st, zok v) (hS : va_S (fun q : Nat => base ≤ q) s.heap H locs) (kk : zkk p l e R s m args below meth c cells slots Q D K b base nL S o) : W p l e R s m args below meth c H locs cells slots Q (F0 m pc lsA (st.map (ztr b base))) := by
  obtain ⟨hex, hb, -, hown, hts, hnw, hK, -⟩ := hc
  unfold ziald at h
  split at h
  · next i a r =>
    split at h
    · next hg =>
      obtain ⟨han, hak, h0, hn⟩ := hg
      have hi0 : z32 i = i := hok (.inl i) List.mem_cons_self
      have hin := z32_in hi0 h0 hn
      have hlt : i.toNat < S.2.2.1 a := by omega
      have hgoal : W p l e R s m args below meth c H locs cells slots Q (F0 m (pc + 1) lsA (.int (Int32.ofInt (C a i.toNat)) :: r.map (ztr b base))) := by
        cases h
        refine kk.same (st' := .inl (C a i.toNat) :: r) rfl hr hl (fun w hw => ?_) hS
        rcases List.mem_cons.mp hw with rfl | hw
        · exact hr.2.2.2.2.2.1 a _
        · exact hok w (List.mem_cons_of_mem _ (List.mem_cons_of_mem _ hw))
      by_cases ha : a = 0
      · subst ha
        obtain ⟨-, -, -, -, -, -, scr, g1, g2, g3, g4, g5⟩ := hr
        exact W.iald (v := .int (Int32.ofInt (C 0 i.toNat))) hex hb (a := b) g1 g2 g3 (by rw [g4]; exact hin) (by rw [z32_cl hi0]; exact g5 _ hlt) rfl rfl hdg hgoal
      · have hk8 : S.2.1 a = 8 := hak.resolve_right ha
        have hcell := zcell_arr (hr.2.2.2.2.1 a (by omega) han) hk8 (by omega)
        exact W.iald (v := .int (Int32.ofInt (C a i.toNat))) hex hb hcell ((hK.2 0 _ rfl).1 _ _) (fun q => by cases q) (by rw [arrV_size]; exact hin) (by rw [z32_cl hi0, arrV_read _ _ hlt]; rfl) rfl rfl hdg hgoal
    · cases h
  · cases h
theorem zs_bald (h : zbald pc ls st S C = some o) (hc : zctx p s m args meth c q D K) (hdg : decode q.2.1 pc = .ok (.baload, 1))
    (hr : zrel D K b base s S C H) (hl : zloc b base nL lsA ls) (hok : ∀ v ∈ st, zok v) (hS : va_S (fun q : Nat => base ≤ q) s.heap H locs) (kk : zkk p l e R s m args below meth c cells slots Q D K b base nL S o) : W p l e R s m args below meth c H locs cells slots Q (F0 m pc lsA (st.map (ztr b base))) := by
  obtain ⟨hex, hb, -, hown, hts, hnw, hK, -⟩ := hc
  unfold zbald at h
  split at h
  · next i a r =>
    split at h
    · next hg =>
      obtain ⟨han, hak, h0, hn⟩ := hg
      have hi0 : z32 i = i := hok (.inl i) List.mem_cons_self
      have hin := z32_in hi0 h0 hn
      have hlt : i.toNat < S.2.2.1 a := by omega
      have hgoal : W p l e R s m args below meth c H locs cells slots Q (F0 m (pc + 1) lsA (.int (Int32.ofInt (C a i.toNat)) :: r.map (ztr b base))) := by
        cases h
        refine kk.same (st' := .inl (C a i.toNat) :: r) rfl hr hl (fun w hw => ?_) hS
        rcases List.mem_cons.mp hw with rfl | hw
        · exact hr.2.2.2.2.2.1 a _
        · exact hok w (List.mem_cons_of_mem _ (List.mem_cons_of_mem _ hw))
      have hcell := zcell_arr (hr.2.2.2.2.1 a (hr.n1 hak (by omega)) han) hak (by omega)
      exact W.zald (v := .int (Int32.ofInt (C a i.toNat))) hex hb hcell ((hK.2 1 _ rfl).1 _ _) (fun q => by cases q) (by rw [arrV_size]; exact hin) (by rw [z32_cl hi0, arrV_read _ _ hlt]; rfl) rfl rfl hdg hgoal
    · cases h
  · cases h
theorem zs_aald (h : zaald pc ls st S C = some o) (hc : zctx p s m args meth c q D K) (hdg : decode q.2.1 pc = .ok (.aaload, 1))
    (hr : zrel D K b base s S C H) (hl : zloc b base nL lsA ls) (hok : ∀ v ∈ st, zok v) (hS : va_S (fun q : Nat => base ≤ q) s.heap H locs) (kk : zkk p l e R s m args below meth c cells slots Q D K b base nL S o) : W p l e R s m args below meth c H locs cells slots Q (F0 m pc lsA (st.map (ztr b base))) := by
  obtain ⟨hex, hb, -, hown, hts, hnw, hK, -⟩ := hc
  unfold zaald at h
  split at h
  · next i a r =>
    split at h
    · next hg =>
      obtain ⟨han, hak, h0, hn⟩ := hg
      have hi0 : z32 i = i := hok (.inl i) List.mem_cons_self
      have hin := z32_in hi0 h0 hn
      have hlt : i.toNat < S.2.2.1 a := by omega
      have hgoal : W p l e R s m args below meth c H locs cells slots Q (F0 m (pc + 1) lsA (va_rf ((S.2.2.2 a i.toNat).map (zad b base)) :: r.map (ztr b base))) := by
        cases h
        refine kk.same (st' := .inr (.inr (S.2.2.2 a i.toNat)) :: r) rfl hr hl (fun w hw => ?_) hS
        rcases List.mem_cons.mp hw with rfl | hw
        · trivial
        · exact hok w (List.mem_cons_of_mem _ (List.mem_cons_of_mem _ hw))
      rcases hak with hak | hak
      · have hcell := zcell_arr (hr.2.2.2.2.1 a (hr.n1 hak (by omega)) han) hak (by omega)
        exact W.aald (ty := .object "NewOrBack$Walk") hex hb hcell ((hK.2 2 _ rfl).1 _ _) rfl (fun q => by cases q) (by rw [arrV_size]; exact hin) (by rw [z32_cl hi0, arrV_read _ _ hlt]; rfl) rfl rfl hdg hgoal
      · have hcell := zcell_arr (hr.2.2.2.2.1 a (hr.n1 hak (by omega)) han) hak (by omega)
        exact W.aald (ty := .array .int) hex hb hcell ((hK.2 3 _ rfl).1 _ _) rfl (fun q => by cases q) (by rw [arrV_size]; exact hin) (by rw [z32_cl hi0, arrV_read _ _ hlt]; rfl) rfl rfl hdg hgoal
    · cases h
  · cases h
/-- an int comes into a row of ints or booleans -/
theorem zrel.arr {H' : Heap} {a j k : Nat} {v : Int} (hr : zrel D K b base s S C H) (hak : S.2.1 a = k) (hk : k = 8 ∨ k = 9) (han : a < S.1.1) (hv : z32 v = v) (hz : H'.size = H.size) (oq : ∀ q : Nat, q ≠ zad b base a → H'[q]? = H[q]?)
    (he : H'[zad b base a]? = some ((arrV (zcid K k) (S.2.2.1 a) (fun j => zval (decide (10 ≤ k)) b base (S.2.2.2 a j) (C a j))).setSlot j (.int (Int32.ofInt v)))) : zrel D K b base s S (zup2 C a j v) H' := by
  refine hr.upd (hr.n1 hak (by omega)) han rfl rfl rfl (fun i hi j => ⟨rfl, if_neg (fun e => hi e.1)⟩) (fun i => ?_) hz oq (zcell_of_arr hak (by omega) ?_)
  · unfold zup2
    by_cases hi : a = a ∧ i = j
    · rw [if_pos hi]; exact hv
    · rw [if_neg hi]; exact hr.2.2.2.2.2.1 a i
  · rw [he, arrV_store]
    congr 2
    funext i
    have hd : decide (10 ≤ k) = false := by rcases hk with rfl | rfl <;> rfl
    unfold updV zup2 zval
    rw [hd]
    by_cases hi : i = j
    · subst hi
      simp
    · simp [hi]
theorem zs_iast (h : ziast pc ls st S C = some o) (hc : zctx p s m args meth c q D K) (hdg : decode q.2.1 pc = .ok (.iastore, 1))
    (hr : zrel D K b base s S C H) (hl : zloc b base nL lsA ls) (hok : ∀ v ∈ st, zok v) (hS : va_S (fun q : Nat => base ≤ q) s.heap H locs) (kk : zkk p l e R s m args below meth c cells slots Q D K b base nL S o) : W p l e R s m args below meth c H locs cells slots Q (F0 m pc lsA (st.map (ztr b base))) := by
  obtain ⟨hex, hb, -, hown, hts, hnw, hK, -⟩ := hc
  unfold ziast at h
  split at h
  · next v i a r =>
    split at h
    · next hg =>
      obtain ⟨han, hak, h0, hn⟩ := hg
      have hv0 : z32 v = v := hok (.inl v) List.mem_cons_self
      have hi0 : z32 i = i := hok (.inl i) (List.mem_cons_of_mem _ List.mem_cons_self)
      have hin := z32_in hi0 h0 hn
      have ha1 := hr.n1 hak (by omega)
      have hcell := zcell_arr (hr.2.2.2.2.1 a ha1 han) hak (by omega)
      refine W.iast (x := Int32.ofInt v) hex hb hcell ((hK.2 0 _ rfl).1 _ _) (fun q => by cases q) (by rw [arrV_size]; exact hin) rfl rfl hdg (fun H1 e1 e2 e3 => ?_)
      rw [z32_cl hi0] at e1 ⊢
      cases h
      exact kk.same rfl (hr.arr hak (Or.inl rfl) han hv0 e2 e3 e1) hl (fun w hw => hok w (List.mem_cons_of_mem _ (List.mem_cons_of_mem _ (List.mem_cons_of_mem _ hw)))) (hS.put e2 e3 (by rw [zad_pos ha1]; exact Nat.le_add_right _ _))
    · cases h
  · cases h
theorem zs_bast (h : zbast pc ls st S C = some o) (hc : zctx p s m args meth c q D K) (hdg : decode q.2.1 pc = .ok (.bastore, 1))
    (hr : zrel D K b base s S C H) (hl : zloc b base nL lsA ls) (hok : ∀ v ∈ st, zok v) (hS : va_S (fun q : Nat => base ≤ q) s.heap H locs) (kk : zkk p l e R s m args below meth c cells slots Q D K b base nL S o) : W p l e R s m args below meth c H locs cells slots Q (F0 m pc lsA (st.map (ztr b base))) := by
  obtain ⟨hex, hb, -, hown, hts, hnw, hK, -⟩ := hc
  unfold zbast at h
  split at h
  · next v i a r =>
    split at h
    · next hg =>
      obtain ⟨han, hak, h0, hn, hv⟩ := hg
      have hv0 : z32 v = v := hok (.inl v) List.mem_cons_self
      have hi0 : z32 i = i := hok (.inl i) (List.mem_cons_of_mem _ List.mem_cons_self)
      have hin := z32_in hi0 h0 hn
      have ha1 := hr.n1 hak (by omega)
      have hcell := zcell_arr (hr.2.2.2.2.1 a ha1 han) hak (by omega)
      refine W.zast (x := Int32.ofInt v) hex hb hcell ((hK.2 1 _ rfl).1 _ _) (fun q => by cases q) (by rw [arrV_size]; exact hin) rfl rfl hdg (fun H1 e1 e2 e3 => ?_)
      rw [z32_cl hi0] at e1 ⊢
      have hnar : narrow .boolean (.int (Int32.ofInt v)) = .int (Int32.ofInt v) := by rcases hv with rfl | rfl <;> rfl
      rw [hnar] at e1
      cases h
      exact kk.same rfl (hr.arr hak (Or.inr rfl) han hv0 e2 e3 e1) hl (fun w hw => hok w (List.mem_cons_of_mem _ (List.mem_cons_of_mem _ (List.mem_cons_of_mem _ hw)))) (hS.put e2 e3 (by rw [zad_pos ha1]; exact Nat.le_add_right _ _))
    · cases h
  · cases h
theorem zs_aast (h : zaast pc ls st S C = some o) (hc : zctx p s m args meth c q D K) (hdg : decode q.2.1 pc = .ok (.aastore, 1))
    (hr : zrel D K b base s S C H) (hl : zloc b base nL lsA ls) (hok : ∀ v ∈ st, zok v) (hS : va_S (fun q : Nat => base ≤ q) s.heap H locs) (kk : zkk p l e R s m args below meth c cells slots Q D K b base nL S o) : W p l e R s m args below meth c H locs cells slots Q (F0 m pc lsA (st.map (ztr b base))) := by
  obtain ⟨hex, hb, -, hown, hts, hnw, hK, -⟩ := hc
  unfold zaast at h
  split at h
  · next v i a r =>
    split at h
    · next hg =>
      obtain ⟨han, hak, h0, hn, hvn, hvk⟩ := hg
      have hi0 : z32 i = i := hok (.inl i) (List.mem_cons_of_mem _ List.mem_cons_self)
      have hin := z32_in hi0 h0 hn
      have hlt : i.toNat < S.2.2.1 a := by omega
      have ha1 := hr.n1 hak (by omega)
      have hv1 := hr.n1 hvk (by omega)
      have hcell := zcell_arr (hr.2.2.2.2.1 a ha1 han) hak (by omega)
      have hcv := hr.2.2.2.2.1 v hv1 hvn
      unfold zcell at hcv
      rw [hvk, if_pos (by omega)] at hcv
      obtain ⟨cellV, g1, g2, g3, -⟩ := hcv
      have hcls := (hK.1 4 _ (zKd_at 4 (by omega))).2
      obtain ⟨kA, comp, k1, k2, k3, -⟩ := (hK.2 2 _ rfl).2
      have hcomp : comp = D.1 4 := Option.some.inj (k3.symm.trans hcls.1)
      subst hcomp
      obtain ⟨kC, hkC, -⟩ := hcls.2
      refine W.aast hex hb hcell (fun q h => by cases h) (fun h => by cases h) k1 k2 rfl hkC ⟨fun q => hin (Or.inl q), by rw [arrV_size, z32_cl hi0]; exact hlt⟩ g1 (fun q h => by rw [g3] at h; cases h) (by rw [g2]; exact hkC) (by rw [g2]; exact va_assign hcls) rfl rfl hdg (fun H1 e1 e2 e3 => ?_)
      rw [z32_cl hi0] at e1 ⊢
      cases h
      refine kk.same rfl (hr.upd ha1 han rfl rfl rfl (fun i hi j => ⟨if_neg (fun e => hi e.1), rfl⟩) (fun j => hr.2.2.2.2.2.1 a j) e2 e3 (zcell_of_arr hak (by omega) ?_)) hl (fun w hw => hok w (List.mem_cons_of_mem _ (List.mem_cons_of_mem _ (List.mem_cons_of_mem _ hw)))) (hS.put e2 e3 (by rw [zad_pos ha1]; exact Nat.le_add_right _ _))
      rw [e1, arrV_store]
      congr 2
      funext j
      unfold updV zup2 zval
      by_cases hj : j = i.toNat
      · subst hj
        simp [va_rf]
      · simp [hj]
    · cases h
  · cases h
theorem zs_alen (h : zalen pc ls st S C = some o) (hc : zctx p s m args meth c q D K) (hdg : decode q.2.1 pc = .ok (.arraylength, 1))
    (hr : zrel D K b base s S C H) (hl : zloc b base nL lsA ls) (hok : ∀ v ∈ st, zok v) (hS : va_S (fun q : Nat => base ≤ q) s.heap H locs) (kk : zkk p l e R s m args below meth c cells slots Q D K b base nL S o) : W p l e R s m args below meth c H locs cells slots Q (F0 m pc lsA (st.map (ztr b base))) := by
  obtain ⟨hex, hb, -, hown, hts, hnw, hK, -⟩ := hc
  unfold zalen at h
  split at h
  · next a r =>
    split at h
    · next hg =>
      obtain ⟨han, hak, hsm⟩ := hg
      have hgoal : W p l e R s m args below meth c H locs cells slots Q (F0 m (pc + 1) lsA (.int (Int32.ofInt (S.2.2.1 a)) :: r.map (ztr b base))) := by
        cases h
        refine kk.same (st' := .inl (S.2.2.1 a) :: r) rfl hr hl (fun w hw => ?_) hS
        rcases List.mem_cons.mp hw with rfl | hw
        · show z32 _ = _
          unfold z32
          rw [Int32.toInt_ofInt]
          have hs : (Int32.size : Int) = 4294967296 := rfl
          exact Int.bmod_eq_of_le (by rw [hs]; omega) (by rw [hs]; omega)
        · exact hok w (List.mem_cons_of_mem _ hw)
      by_cases ha : a = 0
      · subst ha
        obtain ⟨-, -, -, -, -, -, scr, g1, g2, g3, g4, g5⟩ := hr
        exact W.alen (n := Int32.ofInt (S.2.2.1 0)) hex hb (a := b) g1 g2 (by rw [g4]; rfl) rfl rfl hdg hgoal
      · have hk8 : S.2.1 a = 8 := hak.resolve_right ha
        have hcell := zcell_arr (hr.2.2.2.2.1 a (by omega) han) hk8 (by omega)
        exact W.alen (n := Int32.ofInt (S.2.2.1 a)) hex hb hcell ((hK.2 0 _ rfl).1 _ _) (by rw [arrV_size]; rfl) rfl rfl hdg hgoal
    · cases h
  · cases h
end ZSNDA

/-! Instructions that read or write cells -/
theorem zad_ne {b base i j : Nat} (hb : b < base) (h : i ≠ j) : zad b base i ≠ zad b base j := by
  cases i with
  | zero =>
    cases j with
    | zero => exact absurd rfl h
    | succ j => show b ≠ base + j; omega
  | succ i =>
    cases j with
    | zero => show base + i ≠ b; omega
    | succ j => show base + i ≠ base + j; omega
theorem zad_pos {b base a : Nat} (h : 1 ≤ a) : zad b base a = base + (a - 1) := by
  cases a with
  | zero => omega
  | succ a => rfl
theorem zcell_congr {D : va_G} {K : ZK} {b base : Nat} {S S' : ZS} {C C' : ZC} {H H' : Heap} {a : Nat} (h : zcell D K b base S C H a) (h2 : S'.2.1 a = S.2.1 a) (h3 : S'.2.2.1 a = S.2.2.1 a) (hf : ∀ j, S'.2.2.2 a j = S.2.2.2 a j) (hc : ∀ j, C' a j = C a j)
    (hH : H'[zad b base a]? = H[zad b base a]?) : zcell D K b base S' C' H' a := by
  unfold zcell at h ⊢
  simp only [h2, h3, hf, hc]
  by_cases hk : S.2.1 a < 8
  · rw [if_pos hk] at h ⊢
    exact h.kept hH
  · rw [if_neg hk] at h ⊢
    rw [hH]
    exact h
theorem zrel.n1 {D : va_G} {K : ZK} {b base : Nat} {s : State} {S : ZS} {C : ZC} {H : Heap} (h : zrel D K b base s S C H) {a k : Nat} (ha : S.2.1 a = k) (hk : k ≠ 12) : 1 ≤ a := by
  rcases Nat.eq_zero_or_pos a with h0 | h0
  · subst h0
    exact absurd (ha.symm.trans h.2.2.1) hk
  · exact h0
theorem zrel.upd {D : va_G} {K : ZK} {b base : Nat} {s : State} {S S' : ZS} {C C' : ZC} {H H' : Heap} {a : Nat} (hr : zrel D K b base s S C H) (ha : 1 ≤ a) (han : a < S.1.1) (h1 : S'.1 = S.1) (h2 : S'.2.1 = S.2.1) (h3 : S'.2.2.1 = S.2.2.1)
    (ho : ∀ i, i ≠ a → ∀ j, S'.2.2.2 i j = S.2.2.2 i j ∧ C' i j = C i j) (hok : ∀ j, z32 (C' a j) = C' a j) (hz : H'.size = H.size) (oq : ∀ q : Nat, q ≠ zad b base a → H'[q]? = H[q]?) (hc : zcell D K b base S' C' H' a) : zrel D K b base s S' C' H' := by
  obtain ⟨r1, r2, r3, r4, r5, r6, scr, g1, g2, g3, g4, g5⟩ := hr
  refine ⟨by rw [hz, h1]; exact r1, by rw [h1]; exact r2, by rw [h2]; exact r3, r4, fun i hi hin => ?_, fun i j => ?_, scr, ?_, g2, g3, by rw [h3]; exact g4, fun j hj => ?_⟩
  · by_cases he : i = a
    · subst he; exact hc
    · exact zcell_congr (r5 i hi (by rw [h1] at hin; exact hin)) (by rw [h2]) (by rw [h3]) (fun j => (ho i he j).1) (fun j => (ho i he j).2) (oq _ (zad_ne r4 he))
  · by_cases he : i = a
    · subst he; exact hok j
    · rw [(ho i he j).2]; exact r6 i j
  · rw [oq b (zad_ne (i := 0) r4 (by omega))]
    exact g1
  · rw [(ho 0 (by omega) j).2]
    rw [h3] at hj
    exact g5 j hj
section ZSNDH
variable {p : Program} {l : Launch} {e : Env} {R : Room} {s : State} {m : MethodId} {args : Array Value} {below : List Frame} {meth : Method} {c : Code} {H : Heap} {locs : List Loc} {cells slots : Nat} {Q : State → Prop}
variable {q : ZM} {D : va_G} {K : ZK} {b base nL pc x y pl : Nat} {z : Int} {lsA : Array Slot} {ls : ZL} {st : List ZV} {S : ZS} {C : ZC} {o : ZO}
/-- a link word of a field -/
theorem zlk_use {own : String} {i : Nat} (hw : lw_tbl[pl]? = some (zlk own i x y z)) (hts : ∀ w ∈ zW, w.before args s = true) (hnw : zNW s) :
    (z = 1 ∧ (Cond.fieldLinkNest own i (zKd x).1 ((zKd x).2.1 y).2.1 ((zKd x).2.1 y).2.2.1 "NewOrBack").before args s = true) ∨ (z ≠ 1 ∧ (Cond.fieldLink own i (zKd x).1 ((zKd x).2.1 y).2.1 ((zKd x).2.1 y).2.2.1).before args s = true) := by
  unfold zlk at hw
  by_cases hz : z = 1
  · rw [if_pos hz] at hw
    exact Or.inl ⟨hz, va_Nw.use rfl (hnw _ (List.mem_of_getElem? hw) rfl)⟩
  · rw [if_neg hz] at hw
    exact Or.inr ⟨hz, hts _ (zW_of pl hw rfl)⟩
theorem zs_getf {i : Nat} (h : zgetf x y pc ls st S C = some o) (hc : zctx p s m args meth c q D K) (hdg : decode q.2.1 pc = .ok (.getfield i, 3)) (hx : x < 8) (hy : y < (zKd x).2.2) (hw : lw_tbl[pl]? = some (zlk q.1.cls i x y z))
    (hr : zrel D K b base s S C H) (hl : zloc b base nL lsA ls) (hok : ∀ v ∈ st, zok v) (hS : va_S (fun q : Nat => base ≤ q) s.heap H locs) (kk : zkk p l e R s m args below meth c cells slots Q D K b base nL S o) : W p l e R s m args below meth c H locs cells slots Q (F0 m pc lsA (st.map (ztr b base))) := by
  obtain ⟨hex, hb, -, hown, hts, hnw, hK, -⟩ := hc
  unfold zgetf at h
  split at h
  · next a r =>
    split at h
    · next hg =>
      obtain ⟨han, hak⟩ := hg
      have ha1 : 1 ≤ a := hr.n1 hak (by omega)
      have hcell := hr.2.2.2.2.1 a ha1 han
      unfold zcell at hcell
      rw [hak, if_pos hx] at hcell
      obtain ⟨cell, q1, q2, q3, q4⟩ := hcell
      obtain ⟨hSl, hfc, kC, hkC, hkind⟩ := hK.1 x _ (zKd_at x hx)
      obtain ⟨cf, kf, fi, f, hi, hsl⟩ := hSl y hy
      have hst := (u_facts hfc hkC (u_lays hts (zuw x hx) hy) hi).1
      rw [zTo x hx y hy] at hi
      have hv : ztr b base (if zRf x y = true then .inr (.inr (S.2.2.2 a y)) else .inl (C a y)) = zval (zRf x y) b base (S.2.2.2 a y) (C a y) := by
        unfold zval
        by_cases hz : zRf x y = true
        · rw [if_pos hz, if_pos hz]; rfl
        · rw [if_neg hz, if_neg hz]; rfl
      have hgoal : W p l e R s m args below meth c H locs cells slots Q (F0 m (pc + 3) lsA (zval (zRf x y) b base (S.2.2.2 a y) (C a y) :: r.map (ztr b base))) := by
        rw [← hv]
        cases h
        refine kk.same (st' := _ :: r) rfl hr hl (fun w hw => ?_) hS
        rcases List.mem_cons.mp hw with rfl | hw
        · by_cases hz : zRf x y = true
          · rw [if_pos hz]; trivial
          · rw [if_neg hz]; exact hr.2.2.2.2.2.1 a y
        · exact hok w (List.mem_cons_of_mem _ hw)
      have hkn : cell.vm ≠ .unknown := by rw [q3]; exact fun h => by cases h
      rcases zlk_use (args := args) hw hts hnw with ⟨-, hlk⟩ | ⟨-, hlk⟩
      · exact va_Wgetf hex hb hown hlk hi hst q1 hkn (by rw [hsl]; exact q4 y hy) rfl rfl hdg hgoal
      · exact W.getf hex hb hown hlk hi hst q1 hkn (by rw [hsl]; exact q4 y hy) rfl rfl hdg hgoal
    · cases h
  · cases h
theorem zt_ref {t : FieldType} (h : t.isReference = true) (a : Nat) : narrow t (.ref a) = .ref a ∧ fits t (.ref a) = true := by
  cases t <;> first | (exact absurd h (by decide)) | exact ⟨rfl, rfl⟩
/-- a value comes into a field -/
theorem zs_put {i a : Nat} {v : Value} {st' : List ZV} {S' : ZS} {C' : ZC} (hc : zctx p s m args meth c q D K) (hdg : decode q.2.1 pc = .ok (.putfield i, 3)) (hx : x < 8) (hy : y < (zKd x).2.2) (hw : lw_tbl[pl]? = some (zlk q.1.cls i x y z))
    (hfin : zFn x y = true → q.1.name = "<init>" ∧ z ≠ 1 ∧ (zKd x).1 = q.1.cls) (han : a < S.1.1) (hak : S.2.1 a = x) (hnar : narrow (zTyp x y) v = v) (hfit : fits (zTyp x y) v = true)
    (h1 : S'.1 = S.1) (h2 : S'.2.1 = S.2.1) (h3 : S'.2.2.1 = S.2.2.1) (ho : ∀ i, i ≠ a → ∀ j, S'.2.2.2 i j = S.2.2.2 i j ∧ C' i j = C i j) (hok2 : ∀ j, z32 (C' a j) = C' a j)
    (hv : ∀ j, zval (zRf x j) b base (S'.2.2.2 a j) (C' a j) = if j = y then v else zval (zRf x j) b base (S.2.2.2 a j) (C a j))
    (hr : zrel D K b base s S C H) (hl : zloc b base nL lsA ls) (hok : ∀ v ∈ st', zok v) (hS : va_S (fun q : Nat => base ≤ q) s.heap H locs) (kk : zkk p l e R s m args below meth c cells slots Q D K b base nL S (pc + 3, ls, st', S', C')) : W p l e R s m args below meth c H locs cells slots Q (F0 m pc lsA (v :: .ref (zad b base a) :: st'.map (ztr b base))) := by
  obtain ⟨hex, hb, -, hown, hts, hnw, hK, hname⟩ := hc
  have ha1 : 1 ≤ a := hr.n1 hak (by omega)
  have hcell := hr.2.2.2.2.1 a ha1 han
  unfold zcell at hcell
  rw [hak, if_pos hx] at hcell
  obtain ⟨cell, q1, q2, q3, q4⟩ := hcell
  have hap := va_apart (own := q.1.cls) hts (zuw x hx) (zTyp x) (zTp x hx) (zTn x hx) hK (zKd_at x hx)
  obtain ⟨hSl, hfc, kC, hkC, hkind⟩ := hK.1 x _ (zKd_at x hx)
  obtain ⟨cf, kf, fi, f, hi, hsl⟩ := hSl y hy
  have hlay := hts _ (zuw x hx _ (u_in_lay hy))
  unfold u_lay at hlay
  have hst := (u_facts hfc hkC (u_lays hts (zuw x hx) hy) hi).1
  have hi' := hi
  rw [zTo x hx y hy] at hi'
  have key : ∀ H' : Heap, H'[zad b base a]? = some (cell.setSlot f.slot v) → H'.size = H.size → (∀ q : Nat, q ≠ zad b base a → H'[q]? = H[q]?) → W p l e R s m args below meth c H' (locs ++ [⟨zad b base a, f.slot⟩]) cells slots Q { F0 m pc lsA (v :: .ref (zad b base a) :: st'.map (ztr b base)) with pc := pc + 3, stack := st'.map (ztr b base) } := by
    intro H' e1 e2 e3
    rw [hsl] at e1
    refine kk.same h1 (hr.upd ha1 han h1 h2 h3 ho hok2 e2 e3 ?_) hl hok (hS.put e2 e3 (by rw [zad_pos ha1]; exact Nat.le_add_right _ _))
    unfold zcell
    rw [h2, hak, if_pos hx]
    refine ⟨_, e1, q2, q3, fun j hj => ?_⟩
    rw [t_set q4 hap hy v j hj]
    show some _ = some (zval (zRf x j) b base (S'.2.2.2 a j) (C' a j))
    rw [hv j]
    rfl
  by_cases hf : zFn x y = true
  · rw [if_pos (by rw [zTf x hx y hy]; exact hf)] at hlay
    obtain ⟨hn, hz, hcl⟩ := hfin hf
    have hcf : m.cls = cf := by
      obtain ⟨_, _, c', _, _, _, -, -, hf', -, -, -, hown2, -⟩ := Cond.laysFinal_spec hlay
      have e1 : c' = cf := by have := hi.symm.trans hf'; simp at this; exact this.1.symm
      rw [zTo x hx y hy, hcl] at hown2
      rw [← e1]; exact Option.some.inj (hown.symm.trans hown2)
    have h6 := u_fits hfc hkC hkind (Or.inr hlay) hi (zTp x hx y hy) hnar hfit
    rcases zlk_use (args := args) hw hts hnw with ⟨hz1, -⟩ | ⟨-, hlk⟩
    · exact absurd hz1 hz
    · exact W.putFinK hex hb hown hlk hi' hst hcf (hname hn) (by rw [q2]; exact h6) q1 q3 (by rw [hsl]; exact k2_hasslot (q4 y hy)) rfl rfl hdg key
  · rw [if_neg (by rw [zTf x hx y hy]; exact hf)] at hlay
    have h6 := u_store hfc hkC hkind hlay hi (zTp x hx y hy) hnar hfit
    rcases zlk_use (args := args) hw hts hnw with ⟨-, hlk⟩ | ⟨-, hlk⟩
    · exact va_WputK hex hb hown hlk hi' hst (by rw [q2]; exact h6) q1 q3 (by rw [hsl]; exact k2_hasslot (q4 y hy)) rfl rfl hdg key
    · exact W.putK hex hb (f := f) ⟨hown, hlk, ⟨_, _, _, hi'⟩, hst⟩ (by rw [q2]; exact h6) q1 q3 (by rw [hsl]; exact k2_hasslot (q4 y hy)) rfl rfl hdg key
theorem zs_putf {i : Nat} (h : zputf x y pc ls st S C = some o) (hc : zctx p s m args meth c q D K) (hdg : decode q.2.1 pc = .ok (.putfield i, 3)) (hx : x < 8) (hy : y < (zKd x).2.2) (hw : lw_tbl[pl]? = some (zlk q.1.cls i x y z))
    (hfin : zFn x y = true → q.1.name = "<init>" ∧ z ≠ 1 ∧ (zKd x).1 = q.1.cls)
    (hr : zrel D K b base s S C H) (hl : zloc b base nL lsA ls) (hok : ∀ v ∈ st, zok v) (hS : va_S (fun q : Nat => base ≤ q) s.heap H locs) (kk : zkk p l e R s m args below meth c cells slots Q D K b base nL S o) : W p l e R s m args below meth c H locs cells slots Q (F0 m pc lsA (st.map (ztr b base))) := by
  unfold zputf at h
  split at h
  · next v a r =>
    split at h
    · next hg =>
      obtain ⟨han, hak, hz⟩ := hg
      cases h
      refine zs_put (a := a) (v := .int (Int32.ofInt v)) (st' := r) hc hdg hx hy hw hfin han hak ?_ ?_ rfl rfl rfl (fun i hi j => ⟨rfl, ?_⟩) (fun j => ?_) (fun j => ?_) hr hl (fun w hw => hok w (List.mem_cons_of_mem _ (List.mem_cons_of_mem _ hw))) hS kk
      · rw [zTi x hx y hy hz]; rfl
      · rw [zTi x hx y hy hz]; rfl
      · exact if_neg (fun e => hi e.1)
      · unfold zup2
        by_cases hj : a = a ∧ j = y
        · rw [if_pos hj]; exact hok (.inl v) List.mem_cons_self
        · rw [if_neg hj]; exact hr.2.2.2.2.2.1 a j
      · unfold zup2
        by_cases hj : j = y
        · subst hj
          rw [if_pos ⟨rfl, rfl⟩, if_pos rfl, hz]
          rfl
        · rw [if_neg (fun e => hj e.2), if_neg hj]
    · cases h
  · next v a r =>
    split at h
    · next hg =>
      obtain ⟨han, hak, hz⟩ := hg
      cases h
      have ht := zt_ref (zTr x hx y hy hz) (zad b base v)
      refine zs_put (a := a) (v := .ref (zad b base v)) (st' := r) (S' := (S.1, S.2.1, S.2.2.1, zup2 S.2.2.2 a y (some v))) (C' := C) hc hdg hx hy hw hfin han hak ht.1 ht.2 rfl rfl rfl (fun i hi j => ⟨?_, rfl⟩) (fun j => hr.2.2.2.2.2.1 a j) (fun j => ?_) hr hl (fun w hw => hok w (List.mem_cons_of_mem _ (List.mem_cons_of_mem _ hw))) hS kk
      · exact if_neg (fun e => hi e.1)
      · show zval _ b base (zup2 S.2.2.2 a y (some v) a j) (C a j) = _
        unfold zup2
        by_cases hj : j = y
        · subst hj
          rw [if_pos ⟨rfl, rfl⟩, if_pos rfl, hz]
          rfl
        · rw [if_neg (fun e => hj e.2), if_neg hj]
    · cases h
  · cases h
end ZSNDH

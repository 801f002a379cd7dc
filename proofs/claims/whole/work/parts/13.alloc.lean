/-! Instructions that make cells, and the two natives -/
theorem z32_small {x : Int} (h0 : -2147483648 ≤ x) (h1 : x < 2147483648) : z32 x = x := by
  unfold z32
  rw [Int32.toInt_ofInt]
  have hs : (Int32.size : Int) = 4294967296 := rfl
  exact Int.bmod_eq_of_le (by rw [hs]; omega) (by rw [hs]; omega)
theorem z32_nn {x : Int} (hx : z32 x = x) (h0 : 0 ≤ x) : ¬ Int32.ofInt x < 0 := by
  intro h
  have := (z32_lt hx z32_0).mp h
  omega
theorem zrel.push {D : va_G} {K : ZK} {b base : Nat} {s : State} {S S' : ZS} {C C' : ZC} {H H' : Heap} (hr : zrel D K b base s S C H) (h1 : S'.1.1 = S.1.1 + 1) (hk : ∀ a, a < S.1.1 → S'.2.1 a = S.2.1 a ∧ S'.2.2.1 a = S.2.2.1 a ∧ ∀ j, S'.2.2.2 a j = S.2.2.2 a j ∧ C' a j = C a j)
    (hok : ∀ j, z32 (C' S.1.1 j) = C' S.1.1 j) (hok2 : ∀ a j, S.1.1 < a → C' a j = C a j) (hz : H'.size = H.size + 1) (oq : ∀ q : Nat, q < H.size → H'[q]? = H[q]?) (hc : zcell D K b base S' C' H' S.1.1) : zrel D K b base s S' C' H' := by
  obtain ⟨r1, r2, r3, r4, r5, r6, scr, g1, g2, g3, g4, g5⟩ := hr
  refine ⟨by rw [hz, h1]; omega, by omega, by rw [(hk 0 (by omega)).1]; exact r3, r4, fun i hi hin => ?_, fun i j => ?_, scr, ?_, g2, g3, by rw [(hk 0 (by omega)).2.1]; exact g4, fun j hj => ?_⟩
  · rw [h1] at hin
    by_cases he : i = S.1.1
    · subst he; exact hc
    · obtain ⟨k1, k2, k3⟩ := hk i (by omega)
      exact zcell_congr (r5 i hi (by omega)) k1 k2 (fun j => (k3 j).1) (fun j => (k3 j).2) (oq _ (by rw [zad_pos hi]; omega))
  · rcases Nat.lt_trichotomy i S.1.1 with he | he | he
    · rw [((hk i he).2.2 j).2]; exact r6 i j
    · subst he; exact hok j
    · rw [hok2 i j he]; exact r6 i j
  · rw [oq b (by omega)]
    exact g1
  · rw [((hk 0 (by omega)).2.2 j).2]
    rw [(hk 0 (by omega)).2.1] at hj
    exact g5 j hj
theorem zmk_old {S : ZS} {C : ZC} {k n w : Nat} : ∀ a, a < S.1.1 → (zmk S k n w).2.1 a = S.2.1 a ∧ (zmk S k n w).2.2.1 a = S.2.2.1 a ∧ ∀ j, (zmk S k n w).2.2.2 a j = S.2.2.2 a j ∧ zmkC S C a j = C a j := by
  intro a ha
  have hne : ¬ a = S.1.1 := Nat.ne_of_lt ha
  exact ⟨if_neg hne, if_neg hne, fun j => ⟨if_neg hne, if_neg hne⟩⟩
theorem zrel.mk {D : va_G} {K : ZK} {b base : Nat} {s : State} {S : ZS} {C : ZC} {H H' : Heap} {k n w : Nat} (hr : zrel D K b base s S C H) (hz : H'.size = H.size + 1) (oq : ∀ q : Nat, q < H.size → H'[q]? = H[q]?) (hc : zcell D K b base (zmk S k n w) (zmkC S C) H' S.1.1) : zrel D K b base s (zmk S k n w) (zmkC S C) H' :=
  hr.push rfl zmk_old (fun j => by
    show z32 (zrow C S.1.1 (fun _ => 0) S.1.1 j) = zrow C S.1.1 (fun _ => 0) S.1.1 j
    unfold zrow
    rw [if_pos rfl]
    exact z32_0) (fun a j h => if_neg (Nat.ne_of_gt h)) hz oq hc
theorem va_S.old {A : Nat → Prop} {H0 H H' : Heap} {locs : List Loc} (h : va_S A H0 H locs) (hz : H.size ≤ H'.size) (oq : ∀ q : Nat, q < H.size → H'[q]? = H[q]?) : va_S A H0 H' locs := ⟨Nat.le_trans h.1 hz, fun q h1 h2 => (oq q (Nat.lt_of_lt_of_le h1 h.1)).trans (h.2.1 q h1 h2), h.2.2⟩
theorem zrel.at {D : va_G} {K : ZK} {b base : Nat} {s : State} {S : ZS} {C : ZC} {H : Heap} (hr : zrel D K b base s S C H) : zad b base S.1.1 = H.size := by
  rw [zad_pos hr.2.1]
  have := hr.1
  have := hr.2.1
  omega
theorem zKd_def : ∀ x, x < 8 → ∀ j, j < (zKd x).2.2 → defaultValue (zTyp x j) = if zRf x j = true then Value.null else .int 0 := by decide +kernel
section ZSNDN
variable {p : Program} {l : Launch} {e : Env} {R : Room} {s : State} {m : MethodId} {args : Array Value} {below : List Frame} {meth : Method} {c : Code} {H : Heap} {locs : List Loc} {cells slots : Nat} {Q : State → Prop}
variable {q : ZM} {D : va_G} {K : ZK} {b base nL pc x y pl : Nat} {z : Int} {lsA : Array Slot} {ls : ZL} {st : List ZV} {S : ZS} {C : ZC} {o : ZO}
theorem zkk.made {pc' k n w : Nat} {st' : List ZV} {S' : ZS} {C' : ZC} {H' : Heap} (kk : zkk p l e R s m args below meth c cells slots Q D K b base nL S (pc', ls, .inr (.inr (some S.1.1)) :: st', S', C')) (hS' : S'.1 = (S.1.1 + n, S.1.2 + w))
    (hr : zrel D K b base s S' C' H') (hat : zad b base S.1.1 = k) (hl : zloc b base nL lsA ls) (hok : ∀ v ∈ st', zok v) (hS : va_S (fun q : Nat => base ≤ q) s.heap H' locs) : W p l e R s m args below meth c H' locs (cells + n) (slots + w) Q (F0 m pc' lsA (.ref k :: st'.map (ztr b base))) := by
  have h := kk H' locs lsA hr hl (fun v hv => by
    rcases List.mem_cons.mp hv with rfl | hv
    · trivial
    · exact hok v hv) hS
  dsimp only at h
  rw [hS'] at h
  dsimp only at h
  rw [Nat.add_sub_cancel_left, Nat.add_sub_cancel_left] at h
  subst hat
  exact h
theorem zs_new {i : Nat} (h : znew x pc ls st S C = some o) (hc : zctx p s m args meth c q D K) (hdg : decode q.2.1 pc = .ok (.new i, 3)) (hx : x < 8) (w1 : lw_tbl[pl]? = some (.classLink q.1.cls i (zKd x).1)) (w2 : lw_tbl[y]? = some (.instantiable (zKd x).1 (zKd x).2.2)) (w3 : lw_tbl[z.toNat]? = some (.initialized (zKd x).1))
    (hcells : cells + (o.2.2.2.1.1.1 - S.1.1) ≤ R.cells) (hslots : slots + (o.2.2.2.1.1.2 - S.1.2) ≤ R.slots)
    (hr : zrel D K b base s S C H) (hl : zloc b base nL lsA ls) (hok : ∀ v ∈ st, zok v) (hS : va_S (fun q : Nat => base ≤ q) s.heap H locs) (kk : zkk p l e R s m args below meth c cells slots Q D K b base nL S o) : W p l e R s m args below meth c H locs cells slots Q (F0 m pc lsA (st.map (ztr b base))) := by
  obtain ⟨hex, hb, -, hown, hts, hnw, hK, -⟩ := hc
  unfold znew at h
  rw [if_pos hx] at h
  cases h
  have e1 : (zmk S x 0 (zKd x).2.2).1.1 - S.1.1 = 1 := Nat.add_sub_cancel_left _ _
  have e2 : (zmk S x 0 (zKd x).2.2).1.2 - S.1.2 = (zKd x).2.2 := Nat.add_sub_cancel_left _ _
  dsimp only at hcells hslots
  rw [e1] at hcells
  rw [e2] at hslots
  have hKn := hK.1 x _ (zKd_at x hx)
  refine W.newcK hex hb hown (hts _ (zW_of pl w1 rfl)) (hts _ (zW_of y w2 rfl)) (hts _ (zW_of z.toNat w3 rfl)) rfl hdg hcells hslots hKn.2.1 rfl (fun H1 kC hkC f1 z1 o1 => ?_)
  refine kk.made (k := H.size) (n := 1) (w := (zKd x).2.2) rfl (hr.mk z1 o1 ?_) hr.at hl hok (hS.old (by omega) o1)
  have hkd : (zmk S x 0 (zKd x).2.2).2.1 S.1.1 = x := if_pos rfl
  have hrf : ∀ j, (zmk S x 0 (zKd x).2.2).2.2.2 S.1.1 j = none := fun j => if_pos rfl
  have hci : ∀ j, zmkC S C S.1.1 j = 0 := fun j => if_pos rfl
  unfold zcell
  rw [hkd, if_pos hx, hr.at]
  refine (u_born (zTyp x) hts (zuw x hx) hKn hkC f1 (zTp x hx)).to (fun j hj => ?_)
  rw [hrf, hci, zKd_def x hx j hj]
  rfl
theorem zint_at {H' : Heap} {k n w : Nat} {ty : FieldType} {dv : Value} (hk : 8 ≤ k) (hr : zrel D K b base s S C H) (he : H'[H.size]? = some (arrV (zcid K k) n (fun _ => dv))) (hdv : dv = zval (decide (10 ≤ k)) b base none 0) : zcell D K b base (zmk S k n w) (zmkC S C) H' S.1.1 := by
  have hkd : (zmk S k n w).2.1 S.1.1 = k := if_pos rfl
  have hln : (zmk S k n w).2.2.1 S.1.1 = n := if_pos rfl
  have hrf : ∀ j, (zmk S k n w).2.2.2 S.1.1 j = none := fun j => if_pos rfl
  have hci : ∀ j, zmkC S C S.1.1 j = 0 := fun j => if_pos rfl
  refine zcell_of_arr hkd hk ?_
  rw [hr.at, hln, he]
  simp only [hrf, hci, hdv]
theorem zs_newa {t : ArrayType} (h : znewa x pc ls st S C = some o) (hc : zctx p s m args meth c q D K) (hdg : decode q.2.1 pc = .ok (.newarray t, 2)) (ht : (x = 8 ∧ t = .int) ∨ (x = 9 ∧ t = .boolean))
    (w8 : (Cond.arrayClass .int).before args s = true) (w9 : (Cond.arrayClass .boolean).before args s = true)
    (hcells : cells + (o.2.2.2.1.1.1 - S.1.1) ≤ R.cells) (hslots : slots + (o.2.2.2.1.1.2 - S.1.2) ≤ R.slots)
    (hr : zrel D K b base s S C H) (hl : zloc b base nL lsA ls) (hok : ∀ v ∈ st, zok v) (hS : va_S (fun q : Nat => base ≤ q) s.heap H locs) (kk : zkk p l e R s m args below meth c cells slots Q D K b base nL S o) : W p l e R s m args below meth c H locs cells slots Q (F0 m pc lsA (st.map (ztr b base))) := by
  obtain ⟨hex, hb, -, hown, hts, hnw, hK, -⟩ := hc
  unfold znewa at h
  split at h
  · next n r =>
    split at h
    · next hg =>
      obtain ⟨-, h0, hn⟩ := hg
      have hn0 : z32 n = n := hok (.inl n) List.mem_cons_self
      cases h
      have e1 : (zmk S x n.toNat n.toNat).1.1 - S.1.1 = 1 := Nat.add_sub_cancel_left _ _
      have e2 : (zmk S x n.toNat n.toNat).1.2 - S.1.2 = n.toNat := Nat.add_sub_cancel_left _ _
      dsimp only at hcells hslots
      rw [e1] at hcells
      rw [e2] at hslots
      have hok' : ∀ v ∈ r, zok v := fun w hw => hok w (List.mem_cons_of_mem _ hw)
      rcases ht with ⟨rfl, rfl⟩ | ⟨rfl, rfl⟩
      · refine va_newaK (atype := .int) hex hb w8 rfl hdg rfl (z32_nn hn0 h0) (z32_cl hn0) (by show n.toNat * 4 ≤ _; omega) hcells hslots rfl (fun H1 cA f1 z1 o1 hA hN => ?_)
        have hcA : cA = K.1 := Option.some.inj (hN.symm.trans (hK.2 0 _ rfl).2)
        subst hcA
        exact kk.made (n := 1) (w := n.toNat) rfl (hr.mk z1 o1 (zint_at (ty := .int) (by omega) hr f1 rfl)) hr.at hl hok' (hS.old (by omega) o1)
      · refine va_newaK (atype := .boolean) hex hb w9 rfl hdg rfl (z32_nn hn0 h0) (z32_cl hn0) (by show n.toNat * 1 ≤ _; omega) hcells hslots rfl (fun H1 cA f1 z1 o1 hA hN => ?_)
        have hcA : cA = K.2.1 := Option.some.inj (hN.symm.trans (hK.2 1 _ rfl).2)
        subst hcA
        exact kk.made (n := 1) (w := n.toNat) rfl (hr.mk z1 o1 (zint_at (ty := .int) (by omega) hr f1 rfl)) hr.at hl hok' (hS.old (by omega) o1)
    · cases h
  · cases h
theorem zs_anew {i : Nat} (h : zanew pc ls st S C = some o) (hc : zctx p s m args meth c q D K) (hdg : decode q.2.1 pc = .ok (.anewarray i, 3)) (w1 : lw_tbl[pl]? = some (.classLink q.1.cls i "NewOrBack$Walk")) (w2 : (Cond.arrayOver (.object "NewOrBack$Walk")).before args s = true)
    (hcells : cells + (o.2.2.2.1.1.1 - S.1.1) ≤ R.cells) (hslots : slots + (o.2.2.2.1.1.2 - S.1.2) ≤ R.slots)
    (hr : zrel D K b base s S C H) (hl : zloc b base nL lsA ls) (hok : ∀ v ∈ st, zok v) (hS : va_S (fun q : Nat => base ≤ q) s.heap H locs) (kk : zkk p l e R s m args below meth c cells slots Q D K b base nL S o) : W p l e R s m args below meth c H locs cells slots Q (F0 m pc lsA (st.map (ztr b base))) := by
  obtain ⟨hex, hb, -, hown, hts, hnw, hK, -⟩ := hc
  unfold zanew at h
  split at h
  · next n r =>
    split at h
    · next hg =>
      obtain ⟨h0, hn⟩ := hg
      have hn0 : z32 n = n := hok (.inl n) List.mem_cons_self
      cases h
      have e1 : (zmk S 10 n.toNat n.toNat).1.1 - S.1.1 = 1 := Nat.add_sub_cancel_left _ _
      have e2 : (zmk S 10 n.toNat n.toNat).1.2 - S.1.2 = n.toNat := Nat.add_sub_cancel_left _ _
      dsimp only at hcells hslots
      rw [e1] at hcells
      rw [e2] at hslots
      have hok' : ∀ v ∈ r, zok v := fun w hw => hok w (List.mem_cons_of_mem _ hw)
      refine W.anew hex hb hown (hts _ (zW_of pl w1 rfl)) w2 rfl hdg rfl (z32_nn hn0 h0) (by rw [z32_cl hn0]; omega) hcells (by rw [z32_cl hn0]; exact hslots) (fun cA kA comp f1 f2 f3 f4 => ?_)
      rw [z32_cl hn0]
      have hcA : cA = K.2.2.1 := Option.some.inj (f1.symm.trans (hK.2 2 _ rfl).2.choose_spec.choose_spec.2.2.2)
      subst hcA
      generalize hH1 : H.push ({ cls := K.2.2.1, slots := Array.replicate n.toNat .null, vm := .none } : Cell) = H1
      have z1 : H1.size = H.size + 1 := by rw [← hH1, Array.size_push]
      have g1 : H1[H.size]? = some (arrV K.2.2.1 n.toNat (fun _ => .null)) := by rw [← hH1, Array.getElem?_push_size, ← arrV_new]
      have o1 : ∀ q : Nat, q < H.size → H1[q]? = H[q]? := fun q hq => by rw [← hH1, Array.getElem?_push, if_neg (Nat.ne_of_lt hq)]
      exact kk.made (n := 1) (w := n.toNat) rfl (hr.mk z1 o1 (zint_at (ty := .int) (by omega) hr g1 rfl)) hr.at hl hok' (hS.old (by omega) o1)
    · cases h
  · cases h
end ZSNDN

/-! A row of rows: out of what the library says of the machine's multianewarray -/
def zM2 : Prop := ∀ {p : Program} {l : Launch} {e : Env} {R : Room} {s : State} {m : MethodId} {args : Array Value} {below : List Frame} {meth : Method} {c : Code} {T : State} {locs : List Loc} {cells slots : Nat} (_ : Stand p l e R s m args below meth c T locs cells slots) (_ : p.tables.exec = Jvm.exec) {own : String} {index : Nat}
  (_ : s.vm.findClass own = some m.cls) (_ : (Cond.classLink own index "[[I").before args s = true) (_ : (Cond.arrayOver (.array .int)).before args s = true) (_ : (Cond.arrayClass .int).before args s = true)
  {g : JFrame} (_ : g.method = m) (_ : decode c.code g.pc = .ok (.multianewarray index 2, 4)) {n k : Int32} {rest : List Value} (_ : g.stack = .int k :: .int n :: rest)
  (_ : ¬ n < 0) (_ : ¬ k < 0) (_ : n.toNatClampNeg < 1000) (_ : k.toNatClampNeg < 1000) (_ : cells + (1 + n.toNatClampNeg) ≤ R.cells) (_ : slots + (n.toNatClampNeg + n.toNatClampNeg * k.toNatClampNeg) ≤ R.slots),
  ∃ (cA comp : ClassId) (F : State), s.vm.findClass ("[" ++ (FieldType.array .int).toString) = some cA ∧ s.vm.findClass (FieldType.array .int).toString = some comp ∧
    Stand p l e R s m args below meth c F locs (cells + 1 + n.toNatClampNeg) (slots + n.toNatClampNeg + n.toNatClampNeg * k.toNatClampNeg) ∧ F.heap.size = T.heap.size + 1 + n.toNatClampNeg ∧
    F.heap[T.heap.size]? = some (arrV cA n.toNatClampNeg (fun j => va_rf (if j < n.toNatClampNeg then some (T.heap.size + 1 + j) else none))) ∧
    (∀ j, j < n.toNatClampNeg → F.heap[T.heap.size + 1 + j]? = some (arrV comp k.toNatClampNeg (fun _ => .int 0))) ∧ (∀ x : Nat, x < T.heap.size → F.heap[x]? = T.heap[x]?) ∧
    ∀ target, Steps p.tables e below (F.setTop { g with pc := g.pc + 4, stack := .ref T.heap.size :: rest }) target → Steps p.tables e below (T.setTop g) target
theorem zin_spec (k : Nat) : ∀ (m : Nat) (S : ZS) (C : ZC), (zin k m S C).1.1 = (S.1.1 + m, S.1.2 + m * k) ∧
    (∀ a, a < S.1.1 ∨ S.1.1 + m ≤ a → (zin k m S C).1.2.1 a = S.2.1 a ∧ (zin k m S C).1.2.2.1 a = S.2.2.1 a ∧ ∀ j, (zin k m S C).1.2.2.2 a j = S.2.2.2 a j ∧ (zin k m S C).2 a j = C a j) ∧
    (∀ a, S.1.1 ≤ a → a < S.1.1 + m → (zin k m S C).1.2.1 a = 8 ∧ (zin k m S C).1.2.2.1 a = k ∧ ∀ j, (zin k m S C).1.2.2.2 a j = none ∧ (zin k m S C).2 a j = 0)
  | 0, S, C => ⟨by show S.1 = _; rw [Nat.zero_mul]; rfl, fun a _ => ⟨rfl, rfl, fun _ => ⟨rfl, rfl⟩⟩, fun a h1 h2 => absurd h2 (by omega)⟩
  | m + 1, S, C => by
    obtain ⟨h1, h2, h3⟩ := zin_spec k m (zmk S 8 k k) (zmkC S C)
    have e1 : (zmk S 8 k k).1 = (S.1.1 + 1, S.1.2 + k) := rfl
    rw [e1] at h1 h2 h3
    dsimp only at h1 h2 h3
    refine ⟨?_, fun a ha => ?_, fun a ha1 ha2 => ?_⟩
    · show (zin k m (zmk S 8 k k) (zmkC S C)).1.1 = _
      rw [h1, Nat.succ_mul]
      congr 1 <;> omega
    · have hne : ¬ a = S.1.1 := by omega
      obtain ⟨g1, g2, g3⟩ := h2 a (by omega)
      exact ⟨g1.trans (if_neg hne), g2.trans (if_neg hne), fun j => ⟨(g3 j).1.trans (if_neg hne), (g3 j).2.trans (if_neg hne)⟩⟩
    · by_cases he : a = S.1.1
      · obtain ⟨g1, g2, g3⟩ := h2 a (by omega)
        exact ⟨g1.trans (if_pos he), g2.trans (if_pos he), fun j => ⟨(g3 j).1.trans (if_pos he), (g3 j).2.trans (if_pos he)⟩⟩
      · exact h3 a (by omega) (by omega)
theorem zmulti_of (H2 : zM2) : zMulti := by
  intro p l e R s m args below meth c H locs cells slots Q q D K b base nL pc pl lsA ls st S C o i h hc hdg hw hcells hslots hr hl hok hS kk
  obtain ⟨hex, hb, -, hown, hts, hnw, hK, -⟩ := hc
  unfold zmulti at h
  split at h
  · next k n r =>
    split at h
    · next hg =>
      obtain ⟨n0, n1, k0, k1⟩ := hg
      have hk0 : z32 k = k := hok (.inl k) List.mem_cons_self
      have hn0 : z32 n = n := hok (.inl n) (List.mem_cons_of_mem _ List.mem_cons_self)
      obtain ⟨i1, i2, i3⟩ := zin_spec k.toNat n.toNat (zmk S 11 n.toNat n.toNat) (zmkC S C)
      have e1 : (zmk S 11 n.toNat n.toNat).1 = (S.1.1 + 1, S.1.2 + n.toNat) := rfl
      rw [e1] at i1 i2 i3
      dsimp only at i1 i2 i3
      cases h
      generalize hZ : zin k.toNat n.toNat (zmk S 11 n.toNat n.toNat) (zmkC S C) = Z at *
      have s1 : (zouter Z.1 S.1.1 n.toNat).1 = (S.1.1 + 1 + n.toNat, S.1.2 + n.toNat + n.toNat * k.toNat) := i1
      dsimp only at hcells hslots
      rw [s1] at hcells hslots
      dsimp only at hcells hslots
      intro T hT X
      obtain ⟨cA, comp, F, fA, fC, X', f1, f2, f3, f4, step⟩ := H2 X hex hown (hts _ (zW_of pl hw rfl)) (hnw _ (List.mem_of_getElem? zw_oi) rfl) (hts _ (zW_of _ zw_ai rfl)) (g := F0 m pc lsA (.int (Int32.ofInt k) :: .int (Int32.ofInt n) :: r.map (ztr b base))) rfl (by rw [hb]; exact hdg) rfl (z32_nn hn0 n0) (z32_nn hk0 k0) (by rw [z32_cl hn0]; omega) (by rw [z32_cl hk0]; omega) (by rw [z32_cl hn0]; omega) (by rw [z32_cl hn0, z32_cl hk0]; omega)
      rw [z32_cl hn0, z32_cl hk0] at X'
      rw [z32_cl hn0] at f1 f2 f3
      rw [z32_cl hk0] at f3
      rw [hT] at f1 f2 f3 f4 step
      have hcA : cA = K.2.2.2 := Option.some.inj (fA.symm.trans (hK.2 3 _ rfl).2)
      have hcC : comp = K.1 := Option.some.inj (fC.symm.trans (hK.2 0 _ rfl).2)
      subst hcA
      subst hcC
      have hat := hr.at
      obtain ⟨r1, r2, r3, r4, r5, r6, scr, g1, g2, g3, g4, g5⟩ := hr
      have old : ∀ a, a < S.1.1 → (zouter Z.1 S.1.1 n.toNat).2.1 a = S.2.1 a ∧ (zouter Z.1 S.1.1 n.toNat).2.2.1 a = S.2.2.1 a ∧ ∀ j, (zouter Z.1 S.1.1 n.toNat).2.2.2 a j = S.2.2.2 a j ∧ Z.2 a j = C a j := by
        intro a ha
        have hne : ¬ a = S.1.1 := by omega
        obtain ⟨x1, x2, x3⟩ := i2 a (by omega)
        obtain ⟨y1, y2, y3⟩ := zmk_old (S := S) (C := C) (k := 11) (n := n.toNat) (w := n.toNat) a ha
        exact ⟨x1.trans y1, x2.trans y2, fun j => ⟨(show zrow Z.1.2.2.2 S.1.1 (fun i => if i < n.toNat then some (S.1.1 + 1 + i) else none) a j = Z.1.2.2.2 a j from if_neg hne).trans ((x3 j).1.trans (y3 j).1), (x3 j).2.trans (y3 j).2⟩⟩
      have hnew : zrel D K b base s (zouter Z.1 S.1.1 n.toNat) Z.2 F.heap := by
        refine ⟨by rw [f1, s1]; omega, by rw [s1]; omega, by rw [(old 0 (by omega)).1]; exact r3, r4, fun a ha1 ha2 => ?_, fun a j => ?_, scr, by rw [f4 b (by omega)]; exact g1, g2, g3, by rw [(old 0 (by omega)).2.1]; exact g4, fun j hj => ?_⟩
        · rw [s1] at ha2
          dsimp only at ha2
          rcases Nat.lt_trichotomy a S.1.1 with h1 | h1 | h1
          · obtain ⟨x1, x2, x3⟩ := old a h1
            exact zcell_congr (r5 a ha1 h1) x1 x2 (fun j => (x3 j).1) (fun j => (x3 j).2) (f4 _ (by rw [zad_pos ha1]; omega))
          · subst h1
            obtain ⟨x1, x2, x3⟩ := i2 S.1.1 (by omega)
            refine zcell_of_arr (k := 11) (x1.trans (if_pos rfl)) (by omega) ?_
            have hln : (zouter Z.1 S.1.1 n.toNat).2.2.1 S.1.1 = n.toNat := x2.trans (if_pos rfl)
            rw [hat, hln, f2]
            congr 2
            funext j
            have hrf : (zouter Z.1 S.1.1 n.toNat).2.2.2 S.1.1 j = if j < n.toNat then some (S.1.1 + 1 + j) else none := if_pos rfl
            rw [hrf]
            by_cases hj : j < n.toNat
            · rw [if_pos hj, if_pos hj]
              show Value.ref (H.size + 1 + j) = Value.ref (zad b base (S.1.1 + 1 + j))
              rw [zad_pos (by omega)]
              have e9 : H.size + 1 + j = base + (S.1.1 + 1 + j - 1) := by omega
              rw [e9]
            · rw [if_neg hj, if_neg hj]
              rfl
          · obtain ⟨x1, x2, x3⟩ := i3 a (by omega) (by omega)
            have hne : ¬ a = S.1.1 := by omega
            refine zcell_of_arr (k := 8) x1 (by omega) ?_
            have hln : (zouter Z.1 S.1.1 n.toNat).2.2.1 a = k.toNat := x2
            have hf := f3 (a - (S.1.1 + 1)) (by omega)
            rw [zad_pos ha1, hln, show base + (a - 1) = H.size + 1 + (a - (S.1.1 + 1)) by omega, hf]
            congr 2
            funext j
            rw [(x3 j).2]
            rfl
        · by_cases h1 : a < S.1.1
          · rw [((old a h1).2.2 j).2]; exact r6 a j
          · by_cases h2 : S.1.1 + 1 ≤ a ∧ a < S.1.1 + 1 + n.toNat
            · rw [((i3 a h2.1 h2.2).2.2 j).2]; exact z32_0
            · rw [((i2 a (by omega)).2.2 j).2]
              show z32 (zrow C S.1.1 (fun _ => 0) a j) = zrow C S.1.1 (fun _ => 0) a j
              unfold zrow
              split
              · exact z32_0
              · exact r6 a j
        · rw [((old 0 (by omega)).2.2 j).2]
          rw [(old 0 (by omega)).2.1] at hj
          exact g5 j hj
      have key := kk.made (k := H.size) (n := 1 + n.toNat) (w := n.toNat + n.toNat * k.toNat) (by rw [s1]; congr 1 <;> omega) hnew hat hl (fun w hw => hok w (List.mem_cons_of_mem _ (List.mem_cons_of_mem _ hw))) (hS.old (by rw [f1]; omega) f4)
      obtain ⟨t, a1, b1⟩ := key F rfl (by rw [show cells + (1 + n.toNat) = cells + 1 + n.toNat by omega, show slots + (n.toNat + n.toNat * k.toNat) = slots + n.toNat + n.toNat * k.toNat by omega]; exact X')
      exact ⟨t, step t a1, b1⟩
    · cases h
  · cases h

/-! How the small machine's cells, locals and stack stand in the machine. -/
def zad (b base i : Nat) : Nat := match i with
  | 0 => b
  | k + 1 => base + k
def zval (isR : Bool) (b base : Nat) (r : Option Nat) (x : Int) : Value := if isR = true then va_rf (r.map (zad b base)) else .int (Int32.ofInt x)
abbrev ZK : Type := ClassId × ClassId × ClassId × ClassId
def zcid (K : ZK) (k : Nat) : ClassId := if k = 8 then K.1 else if k = 9 then K.2.1 else if k = 10 then K.2.2.1 else K.2.2.2
def zcell (D : va_G) (K : ZK) (b base : Nat) (S : ZS) (C : ZC) (H : Heap) (a : Nat) : Prop :=
  if S.2.1 a < 8 then t_OB (zad b base a) (D.1 (S.2.1 a)) (zKd (S.2.1 a)).2.2 (D.2 (S.2.1 a)) H (fun j => zval (zRf (S.2.1 a) j) b base (S.2.2.2 a j) (C a j))
  else H[zad b base a]? = some (arrV (zcid K (S.2.1 a)) (S.2.2.1 a) (fun j => zval (decide (10 ≤ S.2.1 a)) b base (S.2.2.2 a j) (C a j)))
def zrel (D : va_G) (K : ZK) (b base : Nat) (s : State) (S : ZS) (C : ZC) (H : Heap) : Prop :=
  H.size + 1 = base + S.1.1 ∧ 1 ≤ S.1.1 ∧ S.2.1 0 = 12 ∧ b < base ∧ (∀ a, 1 ≤ a → a < S.1.1 → zcell D K b base S C H a) ∧ (∀ a j, z32 (C a j) = C a j) ∧
    ∃ scr : Cell, H[b]? = some scr ∧ s.isArrayOf scr .int ∧ scr.vm ≠ .unknown ∧ scr.slots.size = S.2.2.1 0 ∧ ∀ j, j < S.2.2.1 0 → scr.slots[j]? = some (.int (Int32.ofInt (C 0 j)))
def ztr (b base : Nat) (v : ZV) : Value := match v with
  | .inl x => .int (Int32.ofInt x)
  | .inr (.inl x) => .long (Int64.ofInt x)
  | .inr (.inr r) => va_rf (r.map (zad b base))
def zok (v : ZV) : Prop := match v with
  | .inl x => z32 x = x
  | .inr (.inl x) => z64 x = x
  | .inr (.inr _) => True
def zas (b base : Nat) (ls : ZL) : List (Nat × Value) := (List.range ls.length).filterMap (fun i => (zget ls i).map (fun v => (i, ztr b base v)))
def zloc (b base nL : Nat) (lsA : Array Slot) (ls : ZL) : Prop := lv_has lsA nL (zas b base ls) ∧ ls.length = nL ∧ ∀ i v, zget ls i = some v → zok v
theorem zget_lt {ls : ZL} {i : Nat} {v : ZV} (h : zget ls i = some v) : i < ls.length ∧ ls[i]? = some (some v) := by
  unfold zget at h
  split at h
  · next w hw =>
    cases h
    exact ⟨(List.getElem?_eq_some_iff.mp hw).1, hw⟩
  · cases h
theorem zget_of {ls : ZL} {i : Nat} {v : ZV} (h : ls[i]? = some (some v)) : zget ls i = some v := by
  unfold zget
  rw [h]
theorem zas_mem {b base : Nat} {ls : ZL} {q : Nat × Value} : q ∈ zas b base ls ↔ ∃ v, zget ls q.1 = some v ∧ q.2 = ztr b base v := by
  unfold zas
  rw [List.mem_filterMap]
  constructor
  · rintro ⟨i, -, h⟩
    cases hg : zget ls i with
    | none => rw [hg] at h; cases h
    | some v =>
      rw [hg] at h
      cases h
      exact ⟨v, hg, rfl⟩
  · rintro ⟨v, h1, h2⟩
    refine ⟨q.1, List.mem_range.mpr (zget_lt h1).1, ?_⟩
    rw [h1]
    obtain ⟨a, e⟩ := q
    cases h2
    rfl
theorem zloc.get {b base nL : Nat} {lsA : Array Slot} {ls : ZL} (h : zloc b base nL lsA ls) {i : Nat} {v : ZV} (hg : zget ls i = some v) : lsA[i]? = some (.val (ztr b base v)) ∧ zok v :=
  ⟨h.1.2.2 (i, ztr b base v) (zas_mem.mpr ⟨v, hg, rfl⟩), h.2.2 i v hg⟩
theorem lv_has.mono {ls : Array Slot} {nL : Nat} {l l' : List (Nat × Value)} (h : lv_has ls nL l) (hm : ∀ q ∈ l', q ∈ l) : lv_has ls nL l' := ⟨h.1, h.2.1, fun q hq => h.2.2 q (hm q hq)⟩
theorem ztr_cat1 {b base : Nat} {v : ZV} (h : zcat1 v = true) : (ztr b base v).category = 1 := by
  rcases v with x | x | r
  · rfl
  · cases h
  · cases r <;> rfl
theorem ztr_cat2 {b base : Nat} {v : ZV} (h : (ztr b base v).category = 2) : ∃ x, v = .inr (.inl x) := by
  rcases v with x | x | r
  · cases h
  · exact ⟨x, rfl⟩
  · cases r <;> cases h
theorem zclr_len {ls : ZL} {k : Nat} : (zclr ls k).length = ls.length := by
  cases k with
  | zero => rfl
  | succ j => exact List.length_set
theorem zclr_get {ls : ZL} {k i : Nat} {w : ZV} (h : zget (zclr ls k) i = some w) : zget ls i = some w ∧ ¬ (i + 1 = k ∧ ∃ x, w = .inr (.inl x)) := by
  cases k with
  | zero => exact ⟨h, fun e => by cases e.1⟩
  | succ j =>
    have h1 := (zget_lt h).2
    have hl := (zget_lt h).1
    rw [zclr_len] at hl
    have h1 : (ls.set j (zcl1 (ls.getD j none)))[i]? = some (some w) := h1
    by_cases hij : i = j
    · subst hij
      rw [List.getElem?_set_self hl, List.getD_eq_getElem?_getD, List.getElem?_eq_getElem hl, Option.getD_some] at h1
      have h2 : zcl1 ls[i] = some w := Option.some.inj h1
      unfold zcl1 at h2
      split at h2
      · cases h2
      · next o ho =>
        refine ⟨zget_of (by rw [List.getElem?_eq_getElem hl, h2]), ?_⟩
        rintro ⟨-, x, rfl⟩
        exact ho x h2
    · rw [List.getElem?_set_ne (Ne.symm hij)] at h1
      exact ⟨zget_of h1, fun e => hij (Nat.succ.inj e.1)⟩
theorem zloc.set1 {b base nL : Nat} {lsA lsA' : Array Slot} {ls ls' : ZL} {k : Nat} {v : ZV} (h : zloc b base nL lsA ls) (hs : zset ls k v = some ls') (hv : zok v)
    (hA : lv_has lsA' nL ((k, ztr b base v) :: (zas b base ls).filter (fun q => !(q.1 == k) && !(q.1 + 1 == k && q.2.category == 2)))) : zloc b base nL lsA' ls' := by
  unfold zset at hs
  split at hs
  · next hk =>
    cases hs
    have key : ∀ i w, zget ((zclr ls k).set k (some v)) i = some w → (i = k ∧ w = v) ∨ (i ≠ k ∧ zget ls i = some w ∧ ¬ (i + 1 = k ∧ ∃ x, w = .inr (.inl x))) := by
      intro i w hg
      have := (zget_lt hg).2
      by_cases hi : i = k
      · subst hi
        rw [List.getElem?_set_self (by rw [zclr_len]; exact hk)] at this
        cases this
        exact Or.inl ⟨rfl, rfl⟩
      · rw [List.getElem?_set_ne (Ne.symm hi)] at this
        exact Or.inr ⟨hi, zclr_get (zget_of this)⟩
    refine ⟨hA.mono (fun q hq => ?_), by rw [List.length_set, zclr_len]; exact h.2.1, fun i w hg => ?_⟩
    · obtain ⟨w, h1, h2⟩ := zas_mem.mp hq
      obtain ⟨i, e⟩ := q
      dsimp only at h1 h2
      subst h2
      rcases key i w h1 with ⟨rfl, rfl⟩ | ⟨hne, hg, hlg⟩
      · exact List.mem_cons_self
      · refine List.mem_cons_of_mem _ (List.mem_filter.mpr ⟨zas_mem.mpr ⟨w, hg, rfl⟩, ?_⟩)
        simp only [Bool.and_eq_true, Bool.not_eq_true', beq_eq_false_iff_ne, Bool.and_eq_false_iff]
        refine ⟨hne, ?_⟩
        by_cases e1 : i + 1 = k
        · exact Or.inr (fun e2 => hlg ⟨e1, ztr_cat2 e2⟩)
        · exact Or.inl e1
    · rcases key i w hg with ⟨-, rfl⟩ | ⟨-, hg, -⟩
      · exact hv
      · exact h.2.2 i w hg
  · cases hs
theorem zloc.set2 {b base nL : Nat} {lsA lsA' : Array Slot} {ls ls' : ZL} {k : Nat} {v : ZV} (h : zloc b base nL lsA ls) (hs : zset2 ls k v = some ls') (hv : zok v)
    (hA : lv_has lsA' nL ((k, ztr b base v) :: (zas b base ls).filter (fun q => !(q.1 == k) && (!(q.1 == k + 1) && !(q.1 + 1 == k && q.2.category == 2))))) : zloc b base nL lsA' ls' := by
  unfold zset2 at hs
  split at hs
  · next hk =>
    cases hs
    have key : ∀ i w, zget (((zclr ls k).set k (some v)).set (k + 1) none) i = some w → (i = k ∧ w = v) ∨ (i ≠ k ∧ i ≠ k + 1 ∧ zget ls i = some w ∧ ¬ (i + 1 = k ∧ ∃ x, w = .inr (.inl x))) := by
      intro i w hg
      have := (zget_lt hg).2
      by_cases hi2 : i = k + 1
      · subst hi2
        rw [List.getElem?_set_self (by rw [List.length_set, zclr_len]; exact hk)] at this
        cases this
      · rw [List.getElem?_set_ne (Ne.symm hi2)] at this
        by_cases hi : i = k
        · subst hi
          rw [List.getElem?_set_self (by rw [zclr_len]; omega)] at this
          cases this
          exact Or.inl ⟨rfl, rfl⟩
        · rw [List.getElem?_set_ne (Ne.symm hi)] at this
          exact Or.inr ⟨hi, hi2, zclr_get (zget_of this)⟩
    refine ⟨hA.mono (fun q hq => ?_), by rw [List.length_set, List.length_set, zclr_len]; exact h.2.1, fun i w hg => ?_⟩
    · obtain ⟨w, h1, h2⟩ := zas_mem.mp hq
      obtain ⟨i, e⟩ := q
      dsimp only at h1 h2
      subst h2
      rcases key i w h1 with ⟨rfl, rfl⟩ | ⟨hne, hne2, hg, hlg⟩
      · exact List.mem_cons_self
      · refine List.mem_cons_of_mem _ (List.mem_filter.mpr ⟨zas_mem.mpr ⟨w, hg, rfl⟩, ?_⟩)
        simp only [Bool.and_eq_true, Bool.not_eq_true', beq_eq_false_iff_ne, Bool.and_eq_false_iff]
        refine ⟨hne, hne2, ?_⟩
        by_cases e1 : i + 1 = k
        · exact Or.inr (fun e2 => hlg ⟨e1, ztr_cat2 e2⟩)
        · exact Or.inl e1
    · rcases key i w hg with ⟨-, rfl⟩ | ⟨-, -, hg, -⟩
      · exact hv
      · exact h.2.2 i w hg
  · cases hs
theorem z32_32 (x : Int32) : z32 x.toInt = x.toInt := by
  unfold z32
  rw [Int32.ofInt_toInt]
theorem z32_zb (g : Int32 → Int32 → Int32) (a b : Int) : z32 (zb g a b) = zb g a b := z32_32 _
theorem z32_zu (g : Int32 → Int32) (a : Int) : z32 (zu g a) = zu g a := z32_32 _
theorem z64_zlb (g : Int64 → Int64 → Int64) (a b : Int) : z64 (zlb g a b) = zlb g a b := by
  unfold z64 zlb
  rw [Int64.ofInt_toInt]
theorem zb_of (g : Int32 → Int32 → Int32) (a b : Int) : Int32.ofInt (zb g a b) = g (Int32.ofInt a) (Int32.ofInt b) := Int32.ofInt_toInt _
theorem zu_of (g : Int32 → Int32) (a : Int) : Int32.ofInt (zu g a) = g (Int32.ofInt a) := Int32.ofInt_toInt _
theorem zlb_of (g : Int64 → Int64 → Int64) (a b : Int) : Int64.ofInt (zlb g a b) = g (Int64.ofInt a) (Int64.ofInt b) := Int64.ofInt_toInt _
theorem z32_lt {a b : Int} (ha : z32 a = a) (hb : z32 b = b) : Int32.ofInt a < Int32.ofInt b ↔ a < b := by
  rw [Int32.lt_iff_toInt_lt]
  show z32 a < z32 b ↔ _
  rw [ha, hb]
theorem z32_le {a b : Int} (ha : z32 a = a) (hb : z32 b = b) : Int32.ofInt a ≤ Int32.ofInt b ↔ a ≤ b := by
  rw [Int32.le_iff_toInt_le]
  show z32 a ≤ z32 b ↔ _
  rw [ha, hb]
theorem z32_eq {a b : Int} (ha : z32 a = a) (hb : z32 b = b) : Int32.ofInt a = Int32.ofInt b ↔ a = b := by
  rw [← Int32.toInt_inj]
  show z32 a = z32 b ↔ _
  rw [ha, hb]
theorem z64_eq {a b : Int} (ha : z64 a = a) (hb : z64 b = b) : Int64.ofInt a = Int64.ofInt b ↔ a = b := by
  rw [← Int64.toInt_inj]
  show z64 a = z64 b ↔ _
  rw [ha, hb]
theorem z64_lt {a b : Int} (ha : z64 a = a) (hb : z64 b = b) : Int64.ofInt a < Int64.ofInt b ↔ a < b := by
  rw [Int64.lt_iff_toInt_lt]
  show z64 a < z64 b ↔ _
  rw [ha, hb]
theorem z32_0 : z32 0 = 0 := by decide
theorem z32_in {a : Int} (ha : z32 a = a) {n : Nat} (h0 : 0 ≤ a) (hn : a < n) : vp_in (Int32.ofInt a) n := by
  rw [vp_in_iff]
  show 0 ≤ z32 a ∧ z32 a < n
  rw [ha]
  exact ⟨h0, hn⟩
theorem z32_cl {a : Int} (ha : z32 a = a) : (Int32.ofInt a).toNatClampNeg = a.toNat := by
  show (z32 a).toNat = a.toNat
  rw [ha]
theorem z32_range (a : Int) : -2147483648 ≤ z32 a ∧ z32 a < 2147483648 := ⟨Int32.le_toInt _, Int32.toInt_lt _⟩

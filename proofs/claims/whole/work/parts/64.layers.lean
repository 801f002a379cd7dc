/-! SUMS AND LAYERS: sets of ways, what hangs together by them -/
/-- the sum of weights over a set of numbers below k -/
def bs (g : Nat → Nat) (f : Nat → Bool) : Nat → Nat
  | 0 => 0
  | k + 1 => bs g f k + (if f k = true then g k else 0)
section ZSUMS
variable {g : Nat → Nat} {f f' : Nat → Bool}
theorem bs_cg : ∀ {k : Nat}, (∀ i, i < k → f i = f' i) → bs g f k = bs g f' k
  | 0, _ => rfl
  | k + 1, h => by
    unfold bs
    rw [bs_cg (fun i hi => h i (by omega)), h k (Nat.lt_succ_self k)]
theorem bs_mono : ∀ {k : Nat}, (∀ i, i < k → f i = true → f' i = true) → bs g f k ≤ bs g f' k
  | 0, _ => Nat.le_refl _
  | k + 1, h => by
    unfold bs
    have h1 := bs_mono (k := k) (fun i hi => h i (by omega))
    have h2 := h k (Nat.lt_succ_self k)
    by_cases e : f k = true
    · rw [if_pos e, if_pos (h2 e)]; omega
    · rw [if_neg e]; omega
theorem bs_add {j : Nat} (hj : f j = false) : ∀ {k : Nat}, j < k → bs g (fun i => f i || decide (i = j)) k = bs g f k + g j
  | 0, h => absurd h (Nat.not_lt_zero _)
  | k + 1, h => by
    show bs g (fun i => f i || decide (i = j)) k + (if (f k || decide (k = j)) = true then g k else 0) = bs g f k + (if f k = true then g k else 0) + g j
    by_cases e : k = j
    · subst e
      rw [hj, decide_eq_true rfl, Bool.false_or, if_pos rfl, if_neg (by decide), bs_cg (f' := f) (fun i hi => ?_)]
      · omega
      · show (f i || decide (i = k)) = f i
        rw [decide_eq_false (by omega), Bool.or_false]
    · rw [decide_eq_false e, Bool.or_false, bs_add hj (by omega)]
      omega
theorem bs_eq : ∀ {k : Nat}, (∀ i, i < k → f i = true → f' i = true) → bs (fun _ => 1) f k = bs (fun _ => 1) f' k → ∀ i, i < k → f i = f' i
  | 0, _, _, i, hi => absurd hi (Nat.not_lt_zero _)
  | k + 1, h, he, i, hi => by
    have h1 := bs_mono (g := fun _ => 1) (k := k) (fun i hi => h i (by omega))
    have h2 := h k (Nat.lt_succ_self k)
    unfold bs at he
    have key : f k = f' k ∧ bs (fun _ => 1) f k = bs (fun _ => 1) f' k := by
      cases hf : f k with
      | true =>
        rw [hf] at h2 he
        rw [h2 rfl] at he ⊢
        exact ⟨rfl, by simpa using he⟩
      | false =>
        rw [hf] at he
        cases hf' : f' k with
        | true => rw [hf'] at he; simp at he; omega
        | false => rw [hf'] at he; exact ⟨rfl, by simpa using he⟩
    by_cases e : i = k
    · rw [e]; exact key.1
    · exact bs_eq (fun i hi => h i (by omega)) key.2 i (by omega)
theorem nat_bs (n : Nat) : ∀ k, n % 2 ^ k = bs (fun i => 2 ^ i) (fun i => n.testBit i) k
  | 0 => by rw [Nat.pow_zero, Nat.mod_one]; rfl
  | k + 1 => by
    unfold bs
    rw [← nat_bs n k, Nat.pow_succ, Nat.mod_mul, Nat.testBit_eq_decide_div_mod_eq]
    have h : n / 2 ^ k % 2 < 2 := Nat.mod_lt _ (by decide)
    by_cases e : n / 2 ^ k % 2 = 1
    · rw [e, if_pos (decide_eq_true rfl), Nat.mul_one]
    · have e0 : n / 2 ^ k % 2 = 0 := by omega
      rw [e0, if_neg (by decide), Nat.mul_zero]
end ZSUMS
/-! bits of small numbers -/
section ZSMALL
theorem zbit_nat {n k : Nat} (hk : k < 32) : zbit (n : Int) k = n.testBit k := by
  unfold zbit
  rw [Int32.toBitVec_ofInt, BitVec.ofInt_natCast, BitVec.getLsbD_ofNat, decide_eq_true hk, Bool.true_and]
/-- how many of the ways are in a set -/
def ones (x : Int) : Nat := bs (fun _ => 1) (zbit x) 12
theorem val_bs {x : Int} (h0 : 0 ≤ x) (h1 : x < 4096) : x = (bs (fun i => 2 ^ i) (zbit x) 12 : Int) := by
  obtain ⟨n, rfl⟩ : ∃ n : Nat, x = (n : Int) := ⟨x.toNat, by omega⟩
  rw [bs_cg (f' := fun i => n.testBit i) (fun i hi => zbit_nat (by omega)), ← nat_bs, Nat.mod_eq_of_lt (by omega)]
theorem rng12 {x : Int} (hx : z32 x = x) (h : ∀ k, k < 32 → zbit x k = true → k < 12) : 0 ≤ x ∧ x < 4096 := by
  have e : zand x 4095 = x := by
    refine zbit_ext (z32_zb _ _ _) hx fun k hk => ?_
    rw [zbit_and, show (4095 : Int) = ((4095 : Nat) : Int) from rfl, zbit_nat hk]
    have h4 : ∀ k : Fin 32, k.val < 12 → (4095 : Nat).testBit k.val = true := by decide
    cases hb : zbit x k with
    | false => rfl
    | true => rw [h4 ⟨k, hk⟩ (h k hk hb)]; rfl
  have e2 : (zb (· &&& ·) x 4095) = x := e
  unfold zb at e2
  have h3 : (Int32.ofInt x &&& Int32.ofInt 4095).toBitVec.toNat ≤ 4095 := by
    rw [Int32.toBitVec_and, BitVec.toNat_and]
    exact Nat.and_le_right
  have h5 : (Int32.ofInt x &&& Int32.ofInt 4095).toInt = ((Int32.ofInt x &&& Int32.ofInt 4095).toBitVec.toNat : Int) := BitVec.toInt_eq_toNat_of_lt (by omega)
  rw [h5] at e2
  omega
end ZSMALL
/-- what hangs together with the places S after k steps by ways i < n of X -/
def ly (n : Nat) (a b : Nat → Nat) (X S : Nat → Prop) : Nat → Nat → Prop
  | 0, p => S p
  | k + 1, p => ly n a b X S k p ∨ ∃ i, i < n ∧ X i ∧ ((a i = p ∧ ly n a b X S k (b i)) ∨ (b i = p ∧ ly n a b X S k (a i)))
section ZLAYERS
variable {n : Nat} {a b : Nat → Nat} {X S : Nat → Prop}
theorem ly_le {p k : Nat} (h : ly n a b X S k p) : ∀ j, ly n a b X S (k + j) p
  | 0 => h
  | j + 1 => Or.inl (ly_le h j)
theorem ly_mono {p k j : Nat} (hk : k ≤ j) (h : ly n a b X S k p) : ly n a b X S j p := by
  have := ly_le h (j - k)
  rwa [show k + (j - k) = j by omega] at this
theorem ly_in {C : Nat → Prop} (h0 : ∀ p, S p → C p) (h1 : ∀ i, i < n → X i → (C (a i) ↔ C (b i))) : ∀ k p, ly n a b X S k p → C p
  | 0, p, h => h0 p h
  | k + 1, p, h => by
    rcases h with h | ⟨i, hi, hx, ⟨e, h⟩ | ⟨e, h⟩⟩
    · exact ly_in h0 h1 k p h
    · rw [← e]; exact (h1 i hi hx).mpr (ly_in h0 h1 k _ h)
    · rw [← e]; exact (h1 i hi hx).mp (ly_in h0 h1 k _ h)
theorem ly_ways : ∀ k p, ly n a b X S (k + 1) p → ¬ ly n a b X S k p → ∃ ws : List Nat, ws.Nodup ∧ ws.length = k + 1 ∧ ∀ i, i ∈ ws → i < n ∧ ly n a b X S (k + 1) (a i) ∧ ly n a b X S (k + 1) (b i)
  | 0, p, h, h0 => by
    obtain ⟨i, hi, hx, h⟩ := h.resolve_left h0
    refine ⟨[i], List.nodup_cons.mpr ⟨List.not_mem_nil, List.nodup_nil⟩, rfl, fun j hj => ?_⟩
    rw [List.mem_singleton.mp hj]
    rcases h with ⟨e, h⟩ | ⟨e, h⟩
    · exact ⟨hi, Or.inr ⟨i, hi, hx, Or.inl ⟨rfl, h⟩⟩, Or.inl h⟩
    · exact ⟨hi, Or.inl h, Or.inr ⟨i, hi, hx, Or.inr ⟨rfl, h⟩⟩⟩
  | k + 1, p, h, h0 => by
    obtain ⟨i, hi, hx, h⟩ := h.resolve_left h0
    rcases h with ⟨e, h⟩ | ⟨e, h⟩
    · have hn : ¬ ly n a b X S k (b i) := fun q => h0 (Or.inr ⟨i, hi, hx, Or.inl ⟨e, q⟩⟩)
      obtain ⟨ws, w1, w2, w3⟩ := ly_ways k (b i) h hn
      refine ⟨i :: ws, List.nodup_cons.mpr ⟨fun q => h0 (by rw [← e]; exact (w3 i q).2.1), w1⟩, by rw [List.length_cons, w2], fun j hj => ?_⟩
      rcases List.mem_cons.mp hj with q | q
      · rw [q]; exact ⟨hi, Or.inr ⟨i, hi, hx, Or.inl ⟨rfl, h⟩⟩, Or.inl h⟩
      · have := w3 j q; exact ⟨this.1, Or.inl this.2.1, Or.inl this.2.2⟩
    · have hn : ¬ ly n a b X S k (a i) := fun q => h0 (Or.inr ⟨i, hi, hx, Or.inr ⟨e, q⟩⟩)
      obtain ⟨ws, w1, w2, w3⟩ := ly_ways k (a i) h hn
      refine ⟨i :: ws, List.nodup_cons.mpr ⟨fun q => h0 (by rw [← e]; exact (w3 i q).2.2), w1⟩, by rw [List.length_cons, w2], fun j hj => ?_⟩
      rcases List.mem_cons.mp hj with q | q
      · rw [q]; exact ⟨hi, Or.inl h, Or.inr ⟨i, hi, hx, Or.inr ⟨rfl, h⟩⟩⟩
      · have := w3 j q; exact ⟨this.1, Or.inl this.2.1, Or.inl this.2.2⟩
theorem ly_places : ∀ k p, ly n a b X S (k + 1) p → ¬ ly n a b X S k p → ∃ ws : List Nat, ws.Nodup ∧ ws.length = k + 2 ∧ ∀ q, q ∈ ws → ly n a b X S (k + 1) q
  | 0, p, h, h0 => by
    obtain ⟨i, hi, hx, h1⟩ := h.resolve_left h0
    have key : ∃ y, ly n a b X S 0 y := by
      rcases h1 with ⟨_, h1⟩ | ⟨_, h1⟩
      · exact ⟨_, h1⟩
      · exact ⟨_, h1⟩
    obtain ⟨y, hy⟩ := key
    refine ⟨[p, y], List.nodup_cons.mpr ⟨fun q => h0 (by rw [List.mem_singleton.mp q]; exact hy), List.nodup_cons.mpr ⟨List.not_mem_nil, List.nodup_nil⟩⟩, rfl, fun q hq => ?_⟩
    rcases List.mem_cons.mp hq with e | hq
    · rw [e]; exact h
    · rw [List.mem_singleton.mp hq]; exact Or.inl hy
  | k + 1, p, h, h0 => by
    obtain ⟨i, hi, hx, h1⟩ := h.resolve_left h0
    have key : ∃ y, ly n a b X S (k + 1) y ∧ ¬ ly n a b X S k y := by
      rcases h1 with ⟨e, h1⟩ | ⟨e, h1⟩
      · exact ⟨_, h1, fun q => h0 (Or.inr ⟨i, hi, hx, Or.inl ⟨e, q⟩⟩)⟩
      · exact ⟨_, h1, fun q => h0 (Or.inr ⟨i, hi, hx, Or.inr ⟨e, q⟩⟩)⟩
    obtain ⟨y, hy, hy0⟩ := key
    obtain ⟨ws, w1, w2, w3⟩ := ly_places k y hy hy0
    refine ⟨p :: ws, List.nodup_cons.mpr ⟨fun q => h0 (w3 p q), w1⟩, by rw [List.length_cons, w2], fun q hq => ?_⟩
    rcases List.mem_cons.mp hq with e | hq
    · rw [e]; exact h
    · exact Or.inl (w3 q hq)
/-- after as many steps as there are ways nothing new comes -/
theorem ly_stopW {m : Nat} (hm : n ≤ m) {p : Nat} : ∀ k, ly n a b X S k p → ly n a b X S m p := by
  have h1 : ∀ p, ly n a b X S (n + 1) p → ly n a b X S n p := by
    intro p h
    apply Classical.byContradiction
    intro h0
    obtain ⟨ws, w1, w2, w3⟩ := ly_ways n p h h0
    have := nodup_le n ws w1 (fun w hw => (w3 w hw).1)
    omega
  have h2 : ∀ k p, ly n a b X S k p → ly n a b X S n p := fun k p h => by
    refine ly_in (n := n) (a := a) (b := b) (X := X) (S := S) (C := ly n a b X S n) (fun p h => ly_mono (Nat.zero_le _) h) (fun i hi hx => ⟨fun q => h1 _ (Or.inr ⟨i, hi, hx, Or.inr ⟨rfl, q⟩⟩), fun q => h1 _ (Or.inr ⟨i, hi, hx, Or.inl ⟨rfl, q⟩⟩)⟩) k p h
  exact fun k h => ly_mono hm (h2 k p h)
theorem ly_stopP (h8 : ∀ p, S p → p < 8) (ha : ∀ i, i < n → a i < 8 ∧ b i < 8) {p : Nat} : ∀ k, ly n a b X S k p → ly n a b X S 8 p := by
  have hl : ∀ k p, ly n a b X S k p → p < 8 := by
    intro k
    induction k with
    | zero => exact h8
    | succ k ih =>
      intro p h
      rcases h with h | ⟨i, hi, hx, ⟨e, h⟩ | ⟨e, h⟩⟩
      · exact ih p h
      · rw [← e]; exact (ha i hi).1
      · rw [← e]; exact (ha i hi).2
  have h1 : ∀ p, ly n a b X S 8 p → ly n a b X S 7 p := by
    intro p h
    apply Classical.byContradiction
    intro h0
    obtain ⟨ws, w1, w2, w3⟩ := ly_places 7 p h h0
    have := nodup_le 8 ws w1 (fun w hw => hl _ _ (w3 w hw))
    omega
  intro k h
  refine ly_mono (show 7 ≤ 8 by decide) (ly_in (n := n) (a := a) (b := b) (X := X) (S := S) (C := ly n a b X S 7) (fun p h => ly_mono (Nat.zero_le _) h) (fun i hi hx => ⟨fun q => h1 _ (Or.inr ⟨i, hi, hx, Or.inr ⟨rfl, q⟩⟩), fun q => h1 _ (Or.inr ⟨i, hi, hx, Or.inl ⟨rfl, q⟩⟩)⟩) k p h)
end ZLAYERS

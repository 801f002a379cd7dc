/-! Layer 2: what a program answers (zH), and the ints' arithmetic and bits -/
def zH {A : Type} (e : Option (A × ZC)) (Q : A → ZC → Prop) : Prop := ∃ a C, e = some (a, C) ∧ Q a C
section ZHOARE
variable {A B X Y : Type} {Q : A → ZC → Prop} {e : Option (A × ZC)}
theorem zbd_some {α β : Type} {a : α} {C : ZC} {k : α → ZC → Option (β × ZC)} : zbd (some (a, C)) k = k a C := rfl
theorem zbs_inl {α β : Type} {a : α} {C : ZC} {k : α → ZC → Option (β × ZC)} : zbs (some (Sum.inl a, C)) k = k a C := rfl
theorem zbs_inr {α β : Type} {b : β} {C : ZC} {k : α → ZC → Option (β × ZC)} : zbs (some (Sum.inr b, C)) k = some (b, C) := rfl
theorem zg_t {c : Prop} [Decidable c] {x : Option A} (h : c) : zg c x = x := if_pos h
theorem zH_some {a : A} {C : ZC} (h : Q a C) : zH (some (a, C)) Q := ⟨a, C, rfl, h⟩
theorem zH_of {a : A} {C : ZC} (he : e = some (a, C)) (h : Q a C) : zH e Q := ⟨a, C, he, h⟩
theorem zH_mono {Q' : A → ZC → Prop} (h : zH e Q) (h2 : ∀ a C, Q a C → Q' a C) : zH e Q' := by
  obtain ⟨a, C, h1, h3⟩ := h
  exact ⟨a, C, h1, h2 a C h3⟩
theorem zH_bd {e1 : Option (X × ZC)} {e2 : X → ZC → Option (A × ZC)} (h : zH e1 (fun a C => zH (e2 a C) Q)) : zH (zbd e1 e2) Q := by
  obtain ⟨a, C, h1, h2⟩ := h
  rw [h1]
  exact h2
theorem zH_bd2 {e1 : Option (X × ZC)} {e2 : X → ZC → Option (A × ZC)} {P : X → ZC → Prop} (h : zH e1 P) (h2 : ∀ a C, P a C → zH (e2 a C) Q) : zH (zbd e1 e2) Q := zH_bd (zH_mono h h2)
theorem zH_bs {e1 : Option ((X ⊕ A) × ZC)} {e2 : X → ZC → Option (A × ZC)} {P : X ⊕ A → ZC → Prop} (h : zH e1 P) (h1 : ∀ a C, P (.inl a) C → zH (e2 a C) Q) (h2 : ∀ b C, P (.inr b) C → Q b C) : zH (zbs e1 e2) Q := by
  obtain ⟨o, C, h3, h4⟩ := h
  rw [h3]
  cases o with
  | inl a => exact h1 a C h4
  | inr b => exact ⟨b, C, rfl, h2 b C h4⟩
theorem zH_g {c : Prop} [Decidable c] (hc : c) (h : zH e Q) : zH (zg c e) Q := by rw [zg_t hc]; exact h
theorem zH_if {c : Prop} [Decidable c] {e' : Option (A × ZC)} (h1 : c → zH e Q) (h2 : ¬ c → zH e' Q) : zH (if c then e else e') Q := by
  by_cases h : c
  · rw [if_pos h]; exact h1 h
  · rw [if_neg h]; exact h2 h
/-- a loop under an invariant, with a measure -/
theorem zH_loop {body : X → ZC → Option ((X ⊕ A) × ZC)} (I : X → ZC → Prop) (mu : X → ZC → Nat) {x : X} {C : ZC} (h0 : I x C)
    (hs : ∀ x C, I x C → zH (body x C) (fun o C' => match o with | .inl x' => I x' C' ∧ mu x' C' < mu x C | .inr y => Q y C')) : zH (zloop body x C) Q := by
  have key : ∀ n x C, mu x C < n → I x C → zH (zloop body x C) Q := by
    intro n
    induction n with
    | zero => intro x C h; exact absurd h (Nat.not_lt_zero _)
    | succ n ih =>
      intro x C hn hI
      obtain ⟨o, C', h1, h2⟩ := hs x C hI
      rw [zloop_eq, h1]
      cases o with
      | inl x' =>
        obtain ⟨h3, h4⟩ := h2
        exact ih x' C' (by omega) h3
      | inr y => exact ⟨y, C', rfl, h2⟩
  exact key _ x C (Nat.lt_succ_self _) h0
/-- a loop that counts from i up to n -/
theorem zH_for {body : X → ZC → Option ((X ⊕ A) × ZC)} (I : Nat → X → ZC → Prop) (n : Nat) {x : X} {C : ZC} (i0 : Nat) (hi : i0 ≤ n) (h0 : I i0 x C)
    (hs : ∀ i x C, i < n → I i x C → zH (body x C) (fun o C' => match o with | .inl x' => I (i + 1) x' C' | .inr y => Q y C'))
    (he : ∀ x C, I n x C → zH (body x C) (fun o C' => match o with | .inl _ => False | .inr y => Q y C')) : zH (zloop body x C) Q := by
  have key : ∀ k i x C, i + k = n → I i x C → zH (zloop body x C) Q := by
    intro k
    induction k with
    | zero =>
      intro i x C hk hI
      have e1 : i = n := by omega
      subst e1
      obtain ⟨o, C', h1, h2⟩ := he x C hI
      rw [zloop_eq, h1]
      cases o with
      | inl x' => exact h2.elim
      | inr y => exact ⟨y, C', rfl, h2⟩
    | succ k ih =>
      intro i x C hk hI
      obtain ⟨o, C', h1, h2⟩ := hs i x C (by omega) hI
      rw [zloop_eq, h1]
      cases o with
      | inl x' => exact ih (i + 1) x' C' (by omega) h2
      | inr y => exact ⟨y, C', rfl, h2⟩
  exact key (n - i0) i0 x C (by omega) h0
end ZHOARE
section ZARITH
theorem zbm {x : Int} (h1 : -2147483648 ≤ x) (h2 : x < 2147483648) : x.bmod (2 ^ 32) = x := Int.bmod_eq_of_le (by show -(((2:Nat) ^ 32 : Nat) : Int) / 2 ≤ x; omega) (by show x < ((((2:Nat) ^ 32 : Nat) : Int) + 1) / 2; omega)
theorem z32_e {x : Int} (h1 : -2147483648 ≤ x) (h2 : x < 2147483648) : z32 x = x := by
  unfold z32
  rw [Int32.toInt_ofInt]
  exact zbm h1 h2
theorem z32_lo (x : Int) : -2147483648 ≤ z32 x ∧ z32 x < 2147483648 := by
  unfold z32
  have h1 := Int32.le_toInt (Int32.ofInt x)
  have h2 := Int32.toInt_lt (Int32.ofInt x)
  omega
theorem zadd_e {a b : Int} (h1 : -2147483648 ≤ a + b) (h2 : a + b < 2147483648) : zadd a b = a + b := by
  unfold zadd zb
  rw [Int32.toInt_add, Int32.toInt_ofInt, Int32.toInt_ofInt]
  rw [show (Int32.size : Nat) = 2 ^ 32 from rfl, Int.bmod_add_bmod, Int.add_bmod_bmod]
  exact zbm h1 h2
theorem zsub_e {a b : Int} (h1 : -2147483648 ≤ a - b) (h2 : a - b < 2147483648) : zsub a b = a - b := by
  unfold zsub zb
  rw [Int32.toInt_sub, Int32.toInt_ofInt, Int32.toInt_ofInt]
  rw [show (Int32.size : Nat) = 2 ^ 32 from rfl, Int.bmod_sub_bmod, Int.sub_bmod_bmod]
  exact zbm h1 h2
theorem zmul_e {a b : Int} (h1 : -2147483648 ≤ a * b) (h2 : a * b < 2147483648) : zmul a b = a * b := by
  unfold zmul zb
  rw [Int32.toInt_mul, Int32.toInt_ofInt, Int32.toInt_ofInt]
  rw [show (Int32.size : Nat) = 2 ^ 32 from rfl, Int.bmod_mul_bmod, Int.mul_bmod_bmod]
  exact zbm h1 h2
theorem zinc1 {a : Int} (h0 : 0 ≤ a) (h1 : a < 1000000) : zadd a 1 = a + 1 := zadd_e (by omega) (by omega)
theorem zdec1 {a : Int} (h0 : 0 ≤ a) (h1 : a < 1000000) : zadd a (-1) = a - 1 := by rw [zadd_e (by omega) (by omega)]; omega
/-- bit k of an int of 32 bits -/
def zbit (x : Int) (k : Nat) : Bool := (Int32.ofInt x).toBitVec.getLsbD k
theorem zof (g : Int32) : Int32.ofInt g.toInt = g := Int32.ofInt_toInt g
theorem zbit_and (a b : Int) (k : Nat) : zbit (zand a b) k = (zbit a k && zbit b k) := by
  unfold zbit zand zb
  rw [zof, Int32.toBitVec_and, BitVec.getLsbD_and]
theorem zbit_or (a b : Int) (k : Nat) : zbit (zor a b) k = (zbit a k || zbit b k) := by
  unfold zbit zor zb
  rw [zof, Int32.toBitVec_or, BitVec.getLsbD_or]
theorem zbit_xor (a b : Int) (k : Nat) : zbit (zxor a b) k = (zbit a k ^^ zbit b k) := by
  unfold zbit zxor zb
  rw [zof, Int32.toBitVec_xor, BitVec.getLsbD_xor]
theorem zbit_m1 (k : Nat) (hk : k < 32) : zbit (-1) k = true := by
  have h : ∀ k : Fin 32, zbit (-1) k.val = true := by decide
  exact h ⟨k, hk⟩
theorem zbit_not (a : Int) (k : Nat) (hk : k < 32) : zbit (zxor a (-1)) k = !zbit a k := by
  rw [zbit_xor, zbit_m1 k hk, Bool.xor_true]
theorem zbit_0 (k : Nat) : zbit 0 k = false := by
  unfold zbit
  show (0#32).getLsbD k = false
  exact BitVec.getLsbD_zero
theorem zbit_hi (x : Int) (k : Nat) (hk : 32 ≤ k) : zbit x k = false := by
  unfold zbit
  exact BitVec.getLsbD_of_ge _ _ hk
theorem zbit_sh1 (m : Nat) (hm : m < 32) (k : Nat) (hk : k < 32) : zbit (zshl 1 (m : Int)) k = decide (k = m) := by
  have h : ∀ m k : Fin 32, zbit (zshl 1 ((m.val : Nat) : Int)) k.val = decide (k.val = m.val) := by decide +kernel
  exact h ⟨m, hm⟩ ⟨k, hk⟩
/-- two ints of 32 bits with the same bits are the same -/
theorem zbit_ext {a b : Int} (ha : z32 a = a) (hb : z32 b = b) (h : ∀ k, k < 32 → zbit a k = zbit b k) : a = b := by
  rw [← ha, ← hb]
  unfold z32
  congr 1
  apply Int32.toBitVec_inj.mp
  apply BitVec.eq_of_getLsbD_eq
  intro i hi
  exact h i hi
end ZARITH

/-! ERRANDS in the class: sets of free ways as numbers, their tables, what hangs together -/
abbrev tb (x : Nat) : Nat → Bool := fun i => x.testBit i
/-- the number of a set -/
def ofB (X : Nat → Bool) (f : Nat) : Nat := bs (fun i => 2 ^ i) X f
/-- an entry of the tables, told of the first k free ways -/
def en (W : ZWd) (fr : Nat → Nat) (C : ZC) (k x : Nat) : Prop := C 20 x = ((bs (fc W fr) (tb x) k : Nat) : Int) ∧ (∀ q, q < 32 → (zbit (C 21 x) q = true ↔ ∃ j, j < k ∧ tb x j = true ∧ (fa W fr j = q ∨ fb W fr j = q))) ∧ (∀ q, q < 32 → zbit (C 22 x) q = px W fr (tb x) q k) ∧ z32 (C 22 x) = C 22 x
def TB (W : ZWd) (f : Nat) (fr : Nat → Nat) (C : ZC) : Prop := f ≤ 6 ∧ (∀ i, i < f → fr i < wN W) ∧ C 18 6 = (f : Int) ∧ (∀ i, i < f → C 19 i = (fr i : Int)) ∧ ∀ x, x < 2 ^ f → en W fr C f x
section ZTABLES
variable {W : ZWd} {f : Nat} {fr : Nat → Nat} {C : ZC}
theorem tb_hi {x f i : Nat} (hx : x < 2 ^ f) (hi : f ≤ i) : tb x i = false := Nat.testBit_lt_two_pow (Nat.lt_of_lt_of_le hx (Nat.pow_le_pow_right (by decide) hi))
theorem ofB_lt {X : Nat → Bool} : ∀ k, ofB X k < 2 ^ k
  | 0 => (by decide : (0 : Nat) < 1)
  | k + 1 => by
    have ih := ofB_lt (X := X) k
    show ofB X k + (if X k = true then 2 ^ k else 0) < 2 ^ (k + 1)
    rw [Nat.pow_succ]
    split <;> omega
theorem tb_add {x k i : Nat} (hx : x < 2 ^ k) : tb (2 ^ k + x) i = (tb x i || decide (i = k)) := by
  show (2 ^ k + x).testBit i = _
  by_cases e : i = k
  · subst e
    rw [Nat.testBit_two_pow_add_eq, decide_eq_true rfl, Bool.or_true]
    have : x.testBit i = false := tb_hi hx (Nat.le_refl _)
    rw [this]; rfl
  · rw [decide_eq_false e, Bool.or_false]
    by_cases hl : i < k
    · rw [Nat.testBit_two_pow_add_gt hl]
    · have h1 : 2 ^ k + x < 2 ^ (k + 1) := by rw [Nat.pow_succ]; omega
      have h2 : (2 ^ k + x).testBit i = false := tb_hi h1 (by omega)
      have h3 : tb x i = false := tb_hi hx (by omega)
      rw [h2, h3]
theorem tb_ofB {X : Nat → Bool} {i : Nat} : ∀ k, tb (ofB X k) i = (decide (i < k) && X i)
  | 0 => by rw [decide_eq_false (Nat.not_lt_zero i)]; exact Nat.zero_testBit i
  | k + 1 => by
    have ih := tb_ofB (X := X) (i := i) k
    have hl := ofB_lt (X := X) k
    have e : ofB X (k + 1) = ofB X k + (if X k = true then 2 ^ k else 0) := rfl
    by_cases hx : X k = true
    · have e' : ofB X (k + 1) = 2 ^ k + ofB X k := by rw [e, if_pos hx, Nat.add_comm]
      rw [e', tb_add hl, ih]
      by_cases q : i = k
      · subst q; rw [hx]; simp
      · rw [decide_eq_false q, Bool.or_false]
        congr 1
        by_cases z : i < k
        · rw [decide_eq_true z, decide_eq_true (by omega)]
        · rw [decide_eq_false z, decide_eq_false (by omega)]
    · have e' : ofB X (k + 1) = ofB X k := by rw [e, if_neg hx]; rfl
      rw [e', ih]
      by_cases q : i = k
      · subst q
        have : X i = false := Bool.eq_false_iff.mpr hx
        rw [this]; simp
      · congr 1
        by_cases z : i < k
        · rw [decide_eq_true z, decide_eq_true (by omega)]
        · rw [decide_eq_false z, decide_eq_false (by omega)]
theorem ofB_fun {X : Nat → Bool} (h : ∀ i, X i = true → i < f) : tb (ofB X f) = X := funext fun i => by
  rw [tb_ofB]
  cases hx : X i with
  | false => rw [Bool.and_false]
  | true => rw [decide_eq_true (h i hx)]; rfl
theorem ofB_tb {x : Nat} (hx : x < 2 ^ f) : ofB (tb x) f = x := by
  unfold ofB
  rw [← nat_bs, Nat.mod_eq_of_lt hx]
theorem tb_le {a b : Nat} (ha : a < 2 ^ f) (hb : b < 2 ^ f) (h : ∀ i, tb a i = true → tb b i = true) : a ≤ b := by
  rw [← ofB_tb ha, ← ofB_tb hb]
  exact bs_mono fun i _ => h i
theorem dec_sy (a q : Nat) : decide (a = q) = decide (q = a) := by
  by_cases e : a = q
  · rw [decide_eq_true e, decide_eq_true e.symm]
  · rw [decide_eq_false e, decide_eq_false (fun z => e z.symm)]
theorem zb_tb {x i : Nat} (hi : i < 32) : zbit (x : Int) i = tb x i := zbit_nat hi
/-- one set within another, by their bits -/
theorem sub0 {a b : Int} : zand a (zxor b (-1)) = 0 ↔ ∀ q, q < 32 → zbit a q = true → zbit b q = true := by
  constructor
  · intro h q hq ha
    have := zbit_and a (zxor b (-1)) q
    rw [h, zbit_0, zbit_not _ _ hq, ha] at this
    cases hb : zbit b q with
    | true => rfl
    | false => rw [hb] at this; cases this
  · intro h
    refine zbit_ext (z32_zb _ _ _) (z32_e (by decide) (by decide)) fun q hq => ?_
    rw [zbit_and, zbit_not _ _ hq, zbit_0]
    cases ha : zbit a q with
    | false => rfl
    | true => rw [h q hq ha]; rfl
theorem sub_tb {a b : Nat} (ha : a < 2 ^ f) (hf : f ≤ 6) : zand (a : Int) (zxor (b : Int) (-1)) = 0 ↔ ∀ i, tb a i = true → tb b i = true := by
  rw [sub0]
  constructor
  · intro h i hi
    have h32 : i < 32 := by
      by_cases e : i < f
      · omega
      · rw [tb_hi ha (by omega)] at hi; cases hi
    have := h i h32 (by rw [zb_tb h32]; exact hi)
    rwa [zb_tb h32] at this
  · intro h q hq ha
    rw [zb_tb hq] at ha ⊢
    exact h q ha
theorem minus_tb {a b : Nat} (ha : a < 2 ^ f) (hf : f ≤ 6) : zand (a : Int) (zxor (b : Int) (-1)) = ((ofB (fun i => tb a i && !tb b i) f : Nat) : Int) := by
  have hl := ofB_lt (X := fun i => tb a i && !tb b i) f
  have h6 : 2 ^ f ≤ 2 ^ 6 := Nat.pow_le_pow_right (by decide) hf
  refine zbit_ext (z32_zb _ _ _) (z32_e (by omega) (by omega)) fun q hq => ?_
  rw [zbit_and, zbit_not _ _ hq, zb_tb hq, zb_tb hq, zb_tb hq, tb_ofB]
  by_cases e : q < f
  · rw [decide_eq_true e, Bool.true_and]
  · rw [decide_eq_false e, Bool.false_and, tb_hi ha (by omega), Bool.false_and]
theorem zor_2 : ∀ i : Fin 6, ∀ r : Fin 64, r.val < 2 ^ i.val → zor (zshl 1 ((i.val : Nat) : Int)) ((r.val : Nat) : Int) = ((2 ^ i.val + r.val : Nat) : Int) ∧ zor ((r.val : Nat) : Int) (zshl 1 ((i.val : Nat) : Int)) = ((2 ^ i.val + r.val : Nat) : Int) := by decide +kernel
theorem zor2 {i r : Nat} (hi : i < 6) (hr : r < 2 ^ i) : zor (zshl 1 (i : Int)) (r : Int) = ((2 ^ i + r : Nat) : Int) ∧ zor (r : Int) (zshl 1 (i : Int)) = ((2 ^ i + r : Nat) : Int) := by
  have h6 : 2 ^ i ≤ 2 ^ 6 := Nat.pow_le_pow_right (by decide) (by omega)
  exact zor_2 ⟨i, hi⟩ ⟨r, by omega⟩ hr
theorem e_costOf (hW : wOK W) (hR : RWd W C) {w : Nat} (hw : w < wN W) : c_Round_costOf (w : Int) C = some (((wc W w : Nat) : Int), C) := by
  have hW1 := hW.1
  have hm := hW.2 w hw
  unfold c_Round_costOf wc
  rw [zg_t (by omega), Int.toNat_natCast, (hR.2 w hw).2.2, zmul_e (by omega) (by omega), zadd_e (by omega) (by omega)]
  rfl
theorem fc_le (hW : wOK W) (hfr : ∀ i, i < f → fr i < wN W) {X : Nat → Bool} : ∀ k, k ≤ f → bs (fc W fr) X k ≤ 577 * k
  | 0, _ => Nat.zero_le _
  | k + 1, hk => by
    have ih := fc_le hW hfr (X := X) k (by omega)
    have hm := hW.2 _ (hfr k (by omega))
    have e : fc W fr k ≤ 577 := by unfold fc; omega
    unfold bs
    split <;> omega
theorem en_fr {C' : ZC} {k x : Nat} (h : C' 20 x = C 20 x) (h1 : C' 21 x = C 21 x) (h2 : C' 22 x = C 22 x) (he : en W fr C k x) : en W fr C' k x := by
  unfold en
  rw [h, h1, h2]; exact he
theorem en_up {k x : Nat} (hx : x < 2 ^ k) (he : en W fr C k x) : en W fr C (k + 1) x := by
  have hb : tb x k = false := tb_hi hx (Nat.le_refl _)
  obtain ⟨e1, e2, e3, e4⟩ := he
  refine ⟨?_, fun q hq => ?_, fun q hq => ?_, e4⟩
  · rw [e1]
    show _ = ((bs (fc W fr) (tb x) k + (if tb x k = true then fc W fr k else 0) : Nat) : Int)
    rw [hb]; rfl
  · rw [e2 q hq]
    constructor
    · rintro ⟨j, j1, j2⟩; exact ⟨j, by omega, j2⟩
    · rintro ⟨j, j1, j2, j3⟩
      by_cases e : j = k
      · rw [e, hb] at j2; cases j2
      · exact ⟨j, by omega, j2, j3⟩
  · rw [e3 q hq]
    show _ = (px W fr (tb x) q k ^^ (tb x k && _))
    rw [hb, Bool.false_and, Bool.xor_false]
theorem tb_add_lt {x k j : Nat} (hx : x < 2 ^ k) (hj : j < k) : tb (2 ^ k + x) j = tb x j := by
  rw [tb_add hx, decide_eq_false (by omega), Bool.or_false]
theorem h_tellSets (hW : wOK W) (hR : RWd W C) (hf : f ≤ 6) (hfr : ∀ i, i < f → fr i < wN W) (h6 : C 18 6 = (f : Int)) (h19 : ∀ i, i < f → C 19 i = (fr i : Int)) : zH (c_Round_tellSets C) (fun _ C' => TB W f fr C' ∧ ∀ a, a ≠ 20 → a ≠ 21 → a ≠ 22 → C' a = C a) := by
  have hW1 := hW.1
  unfold c_Round_tellSets
  have base : ∀ C' : ZC, (∀ a, a ≠ 20 → a ≠ 21 → a ≠ 22 → C' a = C a) → RWd W C' ∧ C' 18 6 = (f : Int) ∧ ∀ i, i < f → C' 19 i = (fr i : Int) := by
    intro C' h
    unfold RWd
    rw [h 9 (by decide) (by decide) (by decide), h 10 (by decide) (by decide) (by decide), h 11 (by decide) (by decide) (by decide), h 12 (by decide) (by decide) (by decide), h 18 (by decide) (by decide) (by decide), h 19 (by decide) (by decide) (by decide)]
    exact ⟨hR, h6, h19⟩
  refine zH_bd2 (P := fun _ C' => (∀ x, x < 2 ^ f → en W fr C' f x) ∧ ∀ a, a ≠ 20 → a ≠ 21 → a ≠ 22 → C' a = C a) ?_ (fun _ C1 h1 => ?_)
  · refine zH_for (fun i x C' => x = (i : Int) ∧ (∀ x, x < 2 ^ i → en W fr C' i x) ∧ ∀ a, a ≠ 20 → a ≠ 21 → a ≠ 22 → C' a = C a) f 0 (Nat.zero_le _) ⟨rfl, fun x hx => ?_, fun a a1 a2 a3 => by rw [zu_nb a3, zu_nb a2, zu_nb a1]⟩ ?_ ?_
    · have hx : x = 0 := by
        have : x < 2 ^ 0 := hx
        omega
      subst hx
      refine ⟨?_, fun q hq => ?_, fun q hq => ?_, ?_⟩
      · rw [zu_ne (by decide), zu_ne (by decide), zu_eq]; rfl
      · rw [zu_ne (by decide), zu_eq, zbit_0]
        exact ⟨fun z => (by cases z), fun ⟨j, j1, _⟩ => absurd j1 (Nat.not_lt_zero _)⟩
      · rw [zu_eq, zbit_0]; rfl
      · rw [zu_eq]; exact z32_e (by decide) (by decide)
    · rintro i x C1 hi ⟨rfl, i1, i2⟩
      obtain ⟨b1, b2, b3⟩ := base C1 i2
      have hwi := hfr i hi
      obtain ⟨w1, w2, w3⟩ := b1.2 _ hwi
      have hm := hW.2 _ hwi
      have g6 : 0 ≤ (i : Int) ∧ (i : Int) < 6 := by omega
      have h2i : 2 ^ i ≤ 2 ^ 5 := Nat.pow_le_pow_right (by decide) (by omega)
      have zs : zshl 1 (i : Int) = ((2 ^ i : Nat) : Int) := zshl_n (by omega)
      unfold c_Round_tellSets_L23
      rw [b2, if_neg (by omega), zg_t g6, Int.toNat_natCast, b3 i hi]
      have ee : c_Wood_endsOf (fr i : Int) C1 = some (zor (zshl 1 (wA W (fr i) : Int)) (zshl 1 (wB W (fr i) : Int)), C1) := by
        unfold c_Wood_endsOf
        rw [zg_t (by omega), zg_t (by omega), Int.toNat_natCast, w1, w2]
      rw [ee, zbd_some]
      have hboth : ∀ q, q < 32 → zbit (zor (zshl 1 (wA W (fr i) : Int)) (zshl 1 (wB W (fr i) : Int))) q = (decide (q = wA W (fr i)) || decide (q = wB W (fr i))) := fun q hq => by
        rw [zbit_or, zbit_sh1 _ (by omega) q hq, zbit_sh1 _ (by omega) q hq]
      generalize zor (zshl 1 (wA W (fr i) : Int)) (zshl 1 (wB W (fr i) : Int)) = both at hboth
      refine zH_bd2 (P := fun _ C' => (∀ x, x < 2 ^ (i + 1) → en W fr C' (i + 1) x) ∧ ∀ a, a ≠ 20 → a ≠ 21 → a ≠ 22 → C' a = C a) ?_ (fun _ C2 h2 => zH_some ⟨zinN (by omega), h2⟩)
      refine zH_for (fun r x C' => x = (r : Int) ∧ (∀ x, x < 2 ^ i → en W fr C' i x) ∧ (∀ r', r' < r → en W fr C' (i + 1) (2 ^ i + r')) ∧ ∀ a, a ≠ 20 → a ≠ 21 → a ≠ 22 → C' a = C a) (2 ^ i) 0 (Nat.zero_le _) ⟨rfl, i1, fun r' hr => absurd hr (Nat.not_lt_zero _), i2⟩ ?_ ?_
      · rintro r x C2 hr ⟨rfl, r1, r2, r3⟩
        obtain ⟨b1, b2, b3⟩ := base C2 r3
        obtain ⟨e1, e2, e3, e4⟩ := r1 r hr
        have hle := fc_le hW hfr (X := tb r) i (by omega)
        have hwc : wc W (fr i) ≤ 577 := by unfold wc; omega
        have gr : 0 ≤ (r : Int) ∧ (r : Int) < 64 := by omega
        have gx : 0 ≤ ((2 ^ i + r : Nat) : Int) ∧ ((2 ^ i + r : Nat) : Int) < 64 := by omega
        have zo := (zor2 (show i < 6 by omega) hr).1
        have hne : ∀ x, x < 2 ^ i → x ≠ 2 ^ i + r := fun x hx => by omega
        have hne2 : ∀ r', r' < r → 2 ^ i + r' ≠ 2 ^ i + r := fun r' hx => by omega
        have hrx : r ≠ 2 ^ i + r := hne r hr
        unfold c_Round_tellSets_L52
        rw [zs, if_neg (by omega), ← zs]
        simp only [zo, zg_t gr, zg_t g6, zg_t gx, Int.toNat_natCast, b3 i hi]
        rw [e_costOf hW b1 hwi, zbd_some]
        simp only [zu_ne (show (21 : Nat) ≠ 20 by decide), zu_ne (show (22 : Nat) ≠ 21 by decide), zu_ne (show (22 : Nat) ≠ 20 by decide), e1]
        rw [zinN (show r < 1000000 by omega), zadd_e (by omega) (by omega)]
        have frx : ∀ x, x ≠ 2 ^ i + r → ∀ u v z : Int, zup2 (zup2 (zup2 C2 20 (2 ^ i + r) u) 21 (2 ^ i + r) v) 22 (2 ^ i + r) z 20 x = C2 20 x ∧ zup2 (zup2 (zup2 C2 20 (2 ^ i + r) u) 21 (2 ^ i + r) v) 22 (2 ^ i + r) z 21 x = C2 21 x ∧ zup2 (zup2 (zup2 C2 20 (2 ^ i + r) u) 21 (2 ^ i + r) v) 22 (2 ^ i + r) z 22 x = C2 22 x := fun x hx u v z => by
          refine ⟨?_, ?_, ?_⟩
          · rw [zu_ne (by decide), zu_ne (by decide), zu_nj hx]
          · rw [zu_ne (by decide), zu_nj hx, zu_ne (by decide)]
          · rw [zu_nj hx, zu_ne (by decide), zu_ne (by decide)]
        refine zH_some ⟨rfl, fun x hx => ?_, fun r' hr' => ?_, fun a a1 a2 a3 => by rw [zu_nb a3, zu_nb a2, zu_nb a1]; exact r3 a a1 a2 a3⟩
        · obtain ⟨f1, f2, f3⟩ := frx x (hne x hx) _ _ _
          exact en_fr f1 f2 f3 (r1 x hx)
        · by_cases e : r' = r
          · subst e
            refine ⟨?_, fun q hq => ?_, fun q hq => ?_, ?_⟩
            · rw [zu_ne (by decide), zu_ne (by decide), zu_eq]
              show _ = ((bs (fc W fr) (tb (2 ^ i + r')) i + (if tb (2 ^ i + r') i = true then fc W fr i else 0) : Nat) : Int)
              rw [bs_cg (f' := tb r') (fun j hj => tb_add_lt hr hj), tb_add hr, decide_eq_true rfl, Bool.or_true, if_pos rfl]
              rfl
            · rw [zu_ne (by decide), zu_eq, zbit_or, Bool.or_eq_true, e2 q hq, hboth q hq]
              constructor
              · rintro (⟨j, j1, j2, j3⟩ | hb)
                · exact ⟨j, by omega, by rw [tb_add_lt hr j1]; exact j2, j3⟩
                · refine ⟨i, by omega, by rw [tb_add hr, decide_eq_true rfl, Bool.or_true], ?_⟩
                  rcases Bool.or_eq_true_iff.mp hb with z | z
                  · exact Or.inl (of_decide_eq_true z).symm
                  · exact Or.inr (of_decide_eq_true z).symm
              · rintro ⟨j, j1, j2, j3⟩
                by_cases ej : j = i
                · subst ej
                  refine Or.inr (Bool.or_eq_true_iff.mpr ?_)
                  rcases j3 with z | z
                  · exact Or.inl (decide_eq_true z.symm)
                  · exact Or.inr (decide_eq_true z.symm)
                · exact Or.inl ⟨j, by omega, by rw [tb_add_lt hr (by omega)] at j2; exact j2, j3⟩
            · rw [zu_eq, zbit_xor, e3 q hq, hboth q hq]
              show _ = (px W fr (tb (2 ^ i + r')) q i ^^ (tb (2 ^ i + r') i && (decide (fa W fr i = q) ^^ decide (fb W fr i = q))))
              rw [px_cg (X' := tb r') (fun j hj => tb_add_lt hr hj), tb_add hr, decide_eq_true rfl, Bool.or_true, Bool.true_and]
              congr 1
              show (decide (q = wA W (fr i)) || decide (q = wB W (fr i))) = (decide (wA W (fr i) = q) ^^ decide (wB W (fr i) = q))
              rw [dec_sy (wA W (fr i)) q, dec_sy (wB W (fr i)) q]
              by_cases q1 : q = wA W (fr i)
              · have q2 : ¬ q = wB W (fr i) := fun z => hm.2.2.1 (q1.symm.trans z)
                rw [decide_eq_true q1, decide_eq_false q2]; rfl
              · rw [decide_eq_false q1]
                cases decide (q = wB W (fr i)) <;> rfl
            · rw [zu_eq]; exact z32_zb _ _ _
          · obtain ⟨f1, f2, f3⟩ := frx _ (hne2 r' (by omega)) _ _ _
            exact en_fr f1 f2 f3 (r2 r' (by omega))
      · rintro x C2 ⟨rfl, r1, r2, r3⟩
        unfold c_Round_tellSets_L52
        rw [zs, if_pos (by omega)]
        refine zH_some ⟨fun x hx => ?_, r3⟩
        by_cases e : x < 2 ^ i
        · exact en_up e (r1 x e)
        · have h3 : 2 ^ (i + 1) = 2 ^ i * 2 := Nat.pow_succ ..
          have := r2 (x - 2 ^ i) (by omega)
          rw [show 2 ^ i + (x - 2 ^ i) = x by omega] at this
          exact this
    · rintro x C1 ⟨rfl, i1, i2⟩
      obtain ⟨b1, b2, b3⟩ := base C1 i2
      unfold c_Round_tellSets_L23
      rw [b2, if_pos (by omega)]
      exact zH_some ⟨i1, i2⟩
  · obtain ⟨b1, b2, b3⟩ := base C1 h1.2
    exact zH_some ⟨⟨hf, hfr, b2, b3, h1.1⟩, h1.2⟩
end ZTABLES

/-! ERRANDS in the class: what hangs together, asides, roads, the least cost -/
/-- the least of a bound and of some costs -/
def LQ (b : Nat) (P : Nat → Prop) (v : Int) : Prop := ∃ n : Nat, v = (n : Int) ∧ n ≤ b ∧ (n < b → P n) ∧ ∀ c, P c → n ≤ c
def AS (W : ZWd) (f : Nat) (fr : Nat → Nat) (E B : Int) (On : Nat → Prop) (a : Nat) : Prop := ∀ q, q < 8 → mis E B q → cn W f fr (tb a) (fun q => q < 8 ∧ On q) q
/-- a road r and asides a -/
def RDs (W : ZWd) (f : Nat) (fr : Nat → Nat) (h : Nat) (E B : Int) (lx here : Nat) (On : Nat → Prop) (r a : Nat) : Prop :=
  (∀ i, tb r i = true → tb lx i = true) ∧ (∀ i, tb a i = true → tb lx i = true ∧ tb r i = false) ∧ (∀ q, q < 8 → px W fr (tb r) q f = (decide (q = here) ^^ decide (q = h))) ∧
  (∀ i, tb r i = true → cn W f fr (tb r) (fun q => q = here) (fa W fr i)) ∧ AS W f fr E B (fun q => On q ∨ eR W fr (tb r) q) a
section ZLEAST
variable {W : ZWd} {f : Nat} {fr : Nat → Nat} {C : ZC} {s : ZWk} {h : Nat} {E B : Int}
theorem LQ_or {b n : Nat} {P P' : Nat → Prop} {v : Int} (h1 : LQ b P (n : Int)) (h2 : LQ n P' v) : LQ b (fun c => P c ∨ P' c) v := by
  obtain ⟨n', e, a1, a2, a3⟩ := h1
  have e : n = n' := by omega
  subst e
  obtain ⟨m, rfl, b1, b2, b3⟩ := h2
  refine ⟨m, rfl, by omega, fun hm => ?_, fun c hc => ?_⟩
  · by_cases q : m < n
    · exact Or.inr (b2 q)
    · have : m = n := by omega
      rw [this] at hm ⊢
      exact Or.inl (a2 hm)
  · rcases hc with hc | hc
    · have := a3 c hc; omega
    · exact b3 c hc
theorem LQ_ex {b n : Nat} {P P' : Nat → Prop} (h1 : LQ b P (n : Int)) (h2 : ∀ c, P c → P' c) (h3 : ∀ c, P' c → P c ∨ n ≤ c) : LQ b P' (n : Int) := by
  obtain ⟨n', e, a1, a2, a3⟩ := h1
  have e : n = n' := by omega
  subst e
  exact ⟨n, rfl, a1, fun hm => h2 _ (a2 hm), fun c hc => (h3 c hc).elim (a3 c) id⟩
theorem LQ_cg {b : Nat} {P P' : Nat → Prop} {v : Int} (h1 : LQ b P v) (h2 : ∀ c, P c ↔ P' c) : LQ b P' v := by
  obtain ⟨n, e, a1, a2, a3⟩ := h1
  exact ⟨n, e, a1, fun hm => (h2 _).mp (a2 hm), fun c hc => a3 c ((h2 c).mpr hc)⟩
theorem LQ_nat {b : Nat} {P : Nat → Prop} {v : Int} (h : LQ b P v) : ∃ n : Nat, v = (n : Int) ∧ n ≤ b := by
  obtain ⟨n, e, a1, _⟩ := h
  exact ⟨n, e, a1⟩
theorem LQ_0 {b : Nat} {P : Nat → Prop} (h : ∀ c, P c → b ≤ c) : LQ b P (b : Int) := ⟨b, rfl, Nat.le_refl _, fun z => absurd z (Nat.lt_irrefl _), h⟩
theorem and0 {a b : Int} : zand a b = 0 ↔ ∀ q, q < 32 → ¬ (zbit a q = true ∧ zbit b q = true) := by
  constructor
  · rintro h q hq ⟨h1, h2⟩
    have := zbit_and a b q
    rw [h, zbit_0, h1, h2] at this; cases this
  · intro h
    refine zbit_ext (z32_zb _ _ _) (z32_e (by decide) (by decide)) fun q hq => ?_
    rw [zbit_and, zbit_0]
    cases h1 : zbit a q with
    | false => rfl
    | true =>
      cases h2 : zbit b q with
      | false => rfl
      | true => exact absurd ⟨h1, h2⟩ (h q hq)
theorem ends_tb (hT : TB W f fr C) {x : Nat} (hx : x < 2 ^ f) {q : Nat} (hq : q < 32) : zbit (C 21 x) q = true ↔ eR W fr (tb x) q := by
  rw [(hT.2.2.2.2 x hx).2.1 q hq]
  constructor
  · rintro ⟨j, _, j2⟩; exact ⟨j, j2⟩
  · rintro ⟨j, j1, j2⟩
    refine ⟨j, ?_, j1, j2⟩
    by_cases e : j < f
    · exact e
    · rw [tb_hi hx (by omega)] at j1; cases j1
theorem eR_8 (hW : wOK W) (hT : TB W f fr C) {x : Nat} (hx : x < 2 ^ f) {q : Nat} (h : eR W fr (tb x) q) : q < 8 := by
  obtain ⟨j, j1, j2⟩ := h
  have hj : j < f := by
    by_cases e : j < f
    · exact e
    · rw [tb_hi hx (by omega)] at j1; cases j1
  have := hW.2 _ (hT.2.1 j hj)
  rcases j2 with e | e
  · rw [← e]; exact this.1
  · rw [← e]; exact this.2.1
theorem h_spread (hW : wOK W) (hT : TB W f fr C) {x : Nat} (hx : x < 2 ^ f) {fm : Int} : zH (c_Round_spread fm (x : Int) C) (fun r C' => (∀ q, q < 8 → (zbit r q = true ↔ cn W f fr (tb x) (fun q => q < 8 ∧ zbit fm q = true) q)) ∧ C' = C) := by
  have hf := hT.1
  have h6 : 2 ^ f ≤ 2 ^ 6 := Nat.pow_le_pow_right (by decide) hf
  have hl8 : ∀ k q, ly f (fa W fr) (fb W fr) (fun i => tb x i = true) (fun q => q < 8 ∧ zbit fm q = true) k q → q < 8 := by
    intro k
    induction k with
    | zero => intro q hq; exact hq.1
    | succ k ih =>
      intro q hq
      rcases hq with hq | ⟨i, hi, _, ⟨e, _⟩ | ⟨e, _⟩⟩
      · exact ih q hq
      · rw [← e]; exact (hW.2 _ (hT.2.1 i hi)).1
      · rw [← e]; exact (hW.2 _ (hT.2.1 i hi)).2.1
  unfold c_Round_spread
  refine zH_bd2 (P := fun r C' => (∀ q, q < 8 → (zbit r q = true ↔ cn W f fr (tb x) (fun q => q < 8 ∧ zbit fm q = true) q)) ∧ C' = C) ?_ (fun r C' h1 => zH_some h1)
  refine zH_for (fun k y C' => (∃ r, y = (r, (k : Int)) ∧ (∀ q, q < 8 → zbit r q = true → cn W f fr (tb x) (fun q => q < 8 ∧ zbit fm q = true) q) ∧ ∀ q, ly f (fa W fr) (fb W fr) (fun i => tb x i = true) (fun q => q < 8 ∧ zbit fm q = true) k q → zbit r q = true) ∧ C' = C) f 0 (Nat.zero_le _) ⟨⟨fm, rfl, fun q hq hz => cn_0 ⟨hq, hz⟩, fun q hq => hq.2⟩, rfl⟩ ?_ ?_
  · rintro k y C' hk ⟨⟨r, rfl, r1, r2⟩, rfl⟩
    unfold c_Round_spread_L5
    dsimp only
    rw [hT.2.2.1, if_neg (by omega), zg_t (by omega), Int.toNat_natCast]
    by_cases hs : zand (C' 21 x) (zxor r (-1)) = 0
    · rw [if_pos hs]
      refine zH_some ⟨fun q hq => ⟨r1 q hq, fun hc => ?_⟩, rfl⟩
      have hs2 := sub0.mp hs
      refine cn_in (C := fun q => zbit r q = true) (fun q hq => r2 q (ly_mono (Nat.zero_le k) hq)) (fun i hi hxi => ?_) hc
      have hm := hW.2 _ (hT.2.1 i hi)
      have ha : zbit r (fa W fr i) = true := hs2 _ (by show wA W (fr i) < 32; omega) ((ends_tb hT hx (by show wA W (fr i) < 32; omega)).mpr ⟨i, hxi, Or.inl rfl⟩)
      have hb : zbit r (fb W fr i) = true := hs2 _ (by show wB W (fr i) < 32; omega) ((ends_tb hT hx (by show wB W (fr i) < 32; omega)).mpr ⟨i, hxi, Or.inr rfl⟩)
      exact ⟨fun _ => hb, fun _ => ha⟩
    · rw [if_neg hs]
      refine zH_bd2 (P := fun r' C'' => ((∀ q, q < 8 → zbit r' q = true → cn W f fr (tb x) (fun q => q < 8 ∧ zbit fm q = true) q) ∧ ∀ q, ly f (fa W fr) (fb W fr) (fun i => tb x i = true) (fun q => q < 8 ∧ zbit fm q = true) (k + 1) q → zbit r' q = true) ∧ C'' = C') ?_ (fun r' C'' h1 => ?_)
      · refine zH_for (fun i y C'' => (∃ r, y = (r, (i : Int)) ∧ (∀ q, q < 8 → zbit r q = true → cn W f fr (tb x) (fun q => q < 8 ∧ zbit fm q = true) q) ∧ (∀ q, ly f (fa W fr) (fb W fr) (fun i => tb x i = true) (fun q => q < 8 ∧ zbit fm q = true) k q → zbit r q = true) ∧
          ∀ j, j < i → tb x j = true → (ly f (fa W fr) (fb W fr) (fun i => tb x i = true) (fun q => q < 8 ∧ zbit fm q = true) k (fa W fr j) ∨ ly f (fa W fr) (fb W fr) (fun i => tb x i = true) (fun q => q < 8 ∧ zbit fm q = true) k (fb W fr j)) → zbit r (fa W fr j) = true ∧ zbit r (fb W fr j) = true) ∧ C'' = C') f 0 (Nat.zero_le _) ⟨⟨r, rfl, r1, r2, fun j hj => absurd hj (Nat.not_lt_zero _)⟩, rfl⟩ ?_ ?_
        · rintro i y C'' hi ⟨⟨r, rfl, q1, q2, q3⟩, rfl⟩
          have h2i : 2 ^ i < 2 ^ f := Nat.pow_lt_pow_right (by decide) hi
          have hm := hW.2 _ (hT.2.1 i hi)
          have zs : zshl 1 (i : Int) = ((2 ^ i : Nat) : Int) := zshl_n (by omega)
          have hent : ∀ q, q < 32 → (zbit (C'' 21 (2 ^ i)) q = true ↔ (fa W fr i = q ∨ fb W fr i = q)) := fun q hq => by
            rw [ends_tb hT h2i hq]
            constructor
            · rintro ⟨j, j1, j2⟩
              have e : i = j := by
                have : decide (i = j) = true := by rw [← Nat.testBit_two_pow]; exact j1
                exact of_decide_eq_true this
              rw [e]; exact j2
            · intro z
              exact ⟨i, Nat.testBit_two_pow_self, z⟩
          have a32 : fa W fr i < 32 := by show wA W (fr i) < 32; omega
          have b32 : fb W fr i < 32 := by show wB W (fr i) < 32; omega
          unfold c_Round_spread_L30
          dsimp only
          have g2 : 0 ≤ ((2 ^ i : Nat) : Int) ∧ ((2 ^ i : Nat) : Int) < 64 := ⟨Int.natCast_nonneg _, show ((2 ^ i : Nat) : Int) < ((64 : Nat) : Int) from Int.ofNat_lt.mpr (Nat.lt_of_lt_of_le h2i h6)⟩
          have hx0 : zand (x : Int) ((2 ^ i : Nat) : Int) = 0 ↔ ¬ tb x i = true := by
            rw [and0]
            constructor
            · intro h z
              exact h i (by omega) ⟨by rw [zb_tb (by omega)]; exact z, by rw [zb_tb (by omega)]; exact Nat.testBit_two_pow_self⟩
            · rintro h q hq ⟨z1, z2⟩
              rw [zb_tb hq] at z1 z2
              have e : i = q := by
                have : decide (i = q) = true := by rw [← Nat.testBit_two_pow]; exact z2
                exact of_decide_eq_true this
              exact h (by rw [e]; exact z1)
          rw [hT.2.2.1, if_neg (by omega), zs, Int.toNat_natCast, zinN (by omega)]
          have keep : (tb x i = true → ¬ (ly f (fa W fr) (fb W fr) (fun i => tb x i = true) (fun q => q < 8 ∧ zbit fm q = true) k (fa W fr i) ∨ ly f (fa W fr) (fb W fr) (fun i => tb x i = true) (fun q => q < 8 ∧ zbit fm q = true) k (fb W fr i))) → ∀ j, j < i + 1 → tb x j = true → (ly f (fa W fr) (fb W fr) (fun i => tb x i = true) (fun q => q < 8 ∧ zbit fm q = true) k (fa W fr j) ∨ ly f (fa W fr) (fb W fr) (fun i => tb x i = true) (fun q => q < 8 ∧ zbit fm q = true) k (fb W fr j)) → zbit r (fa W fr j) = true ∧ zbit r (fb W fr j) = true := by
            intro hn j hj hxj hl
            by_cases e : j = i
            · subst e; exact absurd hl (hn hxj)
            · exact q3 j (by omega) hxj hl
          by_cases hxi : tb x i = true
          · rw [if_neg (fun z => hx0.mp z hxi), zg_t g2]
            by_cases hz : zand (C'' 21 (2 ^ i)) r = 0
            · rw [if_pos hz]
              refine zH_some ⟨⟨r, rfl, q1, q2, keep fun _ hl => ?_⟩, rfl⟩
              have hz2 := and0.mp hz
              rcases hl with hl | hl
              · exact hz2 _ a32 ⟨(hent _ a32).mpr (Or.inl rfl), q2 _ hl⟩
              · exact hz2 _ b32 ⟨(hent _ b32).mpr (Or.inr rfl), q2 _ hl⟩
            · rw [if_neg hz, zg_t g2]
              have hst := cn_st (W := W) (fr := fr) (S := fun q => q < 8 ∧ zbit fm q = true) hi hxi
              have hcn : cn W f fr (tb x) (fun q => q < 8 ∧ zbit fm q = true) (fa W fr i) := by
                apply Classical.byContradiction
                intro hn
                apply hz
                refine and0.mpr fun q hq z => ?_
                rcases (hent q hq).mp z.1 with e | e
                · exact hn (by rw [e]; exact q1 q (by rw [← e]; exact hm.1) z.2)
                · exact hn (hst.mpr (by rw [e]; exact q1 q (by rw [← e]; exact hm.2.1) z.2))
              refine zH_some ⟨⟨_, rfl, fun q hq z => ?_, fun q hq => ?_, fun j hj hxj hl => ?_⟩, rfl⟩
              · rw [zbit_or] at z
                rcases Bool.or_eq_true_iff.mp z with z | z
                · exact q1 q hq z
                · rcases (hent q (by omega)).mp z with e | e
                  · rw [← e]; exact hcn
                  · rw [← e]; exact hst.mp hcn
              · rw [zbit_or, q2 q hq]; rfl
              · rw [zbit_or, zbit_or]
                by_cases e : j = i
                · subst e
                  rw [(hent _ a32).mpr (Or.inl rfl), (hent _ b32).mpr (Or.inr rfl), Bool.or_true, Bool.or_true]
                  exact ⟨rfl, rfl⟩
                · obtain ⟨z1, z2⟩ := q3 j (by omega) hxj hl
                  rw [z1, z2]; exact ⟨rfl, rfl⟩
          · rw [if_pos (hx0.mpr hxi)]
            exact zH_some ⟨⟨r, rfl, q1, q2, keep fun z => absurd z hxi⟩, rfl⟩
        · rintro y C'' ⟨⟨r, rfl, q1, q2, q3⟩, rfl⟩
          unfold c_Round_spread_L30
          dsimp only
          rw [hT.2.2.1, if_pos (by omega)]
          refine zH_some ⟨⟨q1, fun q hq => ?_⟩, rfl⟩
          rcases hq with hq | ⟨j, hj, hxj, ⟨e, hq⟩ | ⟨e, hq⟩⟩
          · exact q2 q hq
          · rw [← e]; exact (q3 j hj hxj (Or.inr hq)).1
          · rw [← e]; exact (q3 j hj hxj (Or.inl hq)).2
      · obtain ⟨⟨z1, z2⟩, rfl⟩ := h1
        rw [zinN (by omega)]
        exact zH_some ⟨⟨r', rfl, z1, z2⟩, rfl⟩
  · rintro y C' ⟨⟨r, rfl, r1, r2⟩, rfl⟩
    unfold c_Round_spread_L5
    dsimp only
    rw [hT.2.2.1, if_pos (by omega)]
    exact zH_some ⟨fun q hq => ⟨r1 q hq, fun ⟨k, hk⟩ => r2 q (ly_stopW (Nat.le_refl _) k hk)⟩, rfl⟩
theorem cost_tb (hW : wOK W) (hT : TB W f fr C) {x : Nat} (hx : x < 2 ^ f) : C 20 x = ((bs (fc W fr) (tb x) f : Nat) : Int) ∧ bs (fc W fr) (tb x) f ≤ 3462 := by
  have := fc_le hW hT.2.1 (X := tb x) f (Nat.le_refl _)
  have := hT.1
  exact ⟨(hT.2.2.2.2 x hx).1, by omega⟩
/-- the asides -/
theorem h_asides (hW : wOK W) (hT : TB W f fr C) (hE7 : C 18 7 = E) (hB9 : C 23 9 = B) (hE : ∀ q, q < 32 → zbit E q = true → q < 8) {on : Int} {On : Nat → Prop} (hon : ∀ q, q < 8 → (zbit on q = true ↔ On q)) {bf lx bd : Nat} (hlx : lx < 2 ^ f) (hbf : bf ≤ 100000) (hbd : bd ≤ 2000000) :
    zH (c_Round_withAsides on (bf : Int) (lx : Int) (bd : Int) C) (fun v C' => LQ bd (fun c => ∃ a, a < 2 ^ f ∧ (∀ i, tb a i = true → tb lx i = true) ∧ AS W f fr E B On a ∧ c = bf + 2 * bs (fc W fr) (tb a) f) v ∧ C' = C) := by
  have hf := hT.1
  have h6 : 2 ^ f ≤ 2 ^ 6 := Nat.pow_le_pow_right (by decide) hf
  have hmis : ∀ q, q < 32 → (zbit (zand (zand E (zxor B (-1))) (zxor on (-1))) q = true ↔ (q < 8 ∧ mis E B q ∧ ¬ On q)) := by
    intro q hq
    rw [zbit_and, zbit_and, zbit_not _ _ hq, zbit_not _ _ hq, Bool.and_eq_true, Bool.and_eq_true]
    constructor
    · rintro ⟨⟨h1, h2⟩, h3⟩
      have h8 := hE q hq h1
      refine ⟨h8, ⟨h1, by simpa using h2⟩, fun z => ?_⟩
      rw [(hon q h8).mpr z] at h3; cases h3
    · rintro ⟨h8, ⟨h1, h2⟩, h3⟩
      refine ⟨⟨h1, by rw [h2]; rfl⟩, ?_⟩
      cases hz : zbit on q with
      | false => rfl
      | true => exact absurd ((hon q h8).mp hz) h3
  have hcn0 : ∀ (X : Nat → Bool) q, (q < 8 ∧ zbit on q = true) ↔ (q < 8 ∧ On q) := fun X q => ⟨fun z => ⟨z.1, (hon q z.1).mp z.2⟩, fun z => ⟨z.1, (hon q z.1).mpr z.2⟩⟩
  unfold c_Round_withAsides
  rw [hE7, hB9]
  by_cases hm : zand (zand E (zxor B (-1))) (zxor on (-1)) = 0
  · rw [if_neg (fun z => z hm)]
    have none : ∀ q, q < 8 → mis E B q → On q := by
      intro q hq hz
      apply Classical.byContradiction
      intro hn
      have := (hmis q (by omega)).mpr ⟨hq, hz, hn⟩
      rw [hm, zbit_0] at this; cases this
    have hbs0 : ∀ k, bs (fc W fr) (tb 0) k = 0 := by
      intro k
      induction k with
      | zero => rfl
      | succ k ih =>
        unfold bs
        rw [ih, show tb 0 k = false from Nat.zero_testBit k]; rfl
    refine zH_some ⟨⟨if bd < bf then bd else bf, ?_, ?_, fun hn => ?_, ?_⟩, rfl⟩
    · by_cases q : bd < bf
      · rw [if_pos (by omega), if_pos q]
      · rw [if_neg (by omega), if_neg q]
    · split <;> omega
    · refine ⟨0, Nat.two_pow_pos f, fun i hi => ?_, fun q hq hz => cn_0 ⟨hq, none q hq hz⟩, ?_⟩
      · rw [show tb 0 i = false from Nat.zero_testBit i] at hi; cases hi
      · rw [hbs0]
        split at hn
        · omega
        · next z => rw [if_neg z]; omega
    · rintro c ⟨a, _, _, _, rfl⟩
      split <;> omega
  · rw [if_pos hm]
    have some1 : ∃ q, q < 8 ∧ mis E B q ∧ ¬ On q := by
      apply Classical.byContradiction
      intro hn
      apply hm
      refine zbit_ext (z32_zb _ _ _) (z32_e (by decide) (by decide)) fun q hq => ?_
      rw [zbit_0]
      cases hz : zbit (zand (zand E (zxor B (-1))) (zxor on (-1))) q with
      | false => rfl
      | true => exact absurd ⟨q, (hmis q hq).mp hz⟩ hn
    obtain ⟨q0, q8, qm, qn⟩ := some1
    refine zH_bd2 (P := fun v C' => LQ bd (fun c => ∃ a, a < 2 ^ f ∧ (∀ i, tb a i = true → tb lx i = true) ∧ AS W f fr E B On a ∧ c = bf + 2 * bs (fc W fr) (tb a) f) v ∧ C' = C) ?_ (fun v C' h1 => zH_some h1)
    refine zH_for (fun k y C' => (∃ n : Nat, y = ((n : Int), (k : Int)) ∧ n ≤ bd ∧ LQ bd (fun c => ∃ a, a < k ∧ 1 ≤ a ∧ a < 2 ^ f ∧ (∀ i, tb a i = true → tb lx i = true) ∧ AS W f fr E B On a ∧ c = bf + 2 * bs (fc W fr) (tb a) f) (n : Int)) ∧ C' = C) (lx + 1) 1 (by omega) ⟨⟨bd, rfl, Nat.le_refl _, LQ_0 fun c ⟨a, a1, a2, _⟩ => by omega⟩, rfl⟩ ?_ ?_
    · rintro k y C' hk ⟨⟨n, rfl, nb, hn⟩, rfl⟩
      have hkf : k < 2 ^ f := by omega
      obtain ⟨ck, ckl⟩ := cost_tb hW hT hkf
      have g64 : 0 ≤ (k : Int) ∧ (k : Int) < 64 := by omega
      have zk : zadd (k : Int) 1 = ((k + 1 : Nat) : Int) := zinN (by omega)
      have zsum : zadd (bf : Int) (zmul 2 ((bs (fc W fr) (tb k) f : Nat) : Int)) = ((bf + 2 * bs (fc W fr) (tb k) f : Nat) : Int) := by
        rw [zmul_e (by omega) (by omega), zadd_e (by omega) (by omega)]; omega
      have skip : (∀ c, ((∀ i, tb k i = true → tb lx i = true) ∧ AS W f fr E B On k ∧ c = bf + 2 * bs (fc W fr) (tb k) f) → 1 ≤ k → n ≤ c) → LQ bd (fun c => ∃ a, a < k + 1 ∧ 1 ≤ a ∧ a < 2 ^ f ∧ (∀ i, tb a i = true → tb lx i = true) ∧ AS W f fr E B On a ∧ c = bf + 2 * bs (fc W fr) (tb a) f) (n : Int) := by
        intro hs
        refine LQ_ex hn (fun c ⟨a, a1, a2⟩ => ⟨a, by omega, a2⟩) (fun c ⟨a, a1, a2, a3, a4⟩ => ?_)
        by_cases e : a = k
        · subst e; exact Or.inr (hs c a4 a2)
        · exact Or.inl ⟨a, by omega, a2, a3, a4⟩
      unfold c_Round_withAsides_L39
      dsimp only
      rw [if_neg (by omega), zg_t g64]
      by_cases h1 : zand (k : Int) (zxor (lx : Int) (-1)) = 0
      · have h1s := (sub_tb hkf hf).mp h1
        rw [if_neg (fun z => z h1), Int.toNat_natCast, ck, zsum]
        by_cases h2 : n ≤ bf + 2 * bs (fc W fr) (tb k) f
        · rw [if_pos (by omega), zk]
          exact zH_some ⟨⟨n, rfl, nb, skip fun c ⟨_, _, e⟩ _ => by omega⟩, rfl⟩
        · rw [if_neg (by omega), zg_t g64]
          -- the missing are among its ends and hang together with it, if it serves
          have serves : AS W f fr E B On k ↔ (zand (zand (zand E (zxor B (-1))) (zxor on (-1))) (zxor (C' 21 k) (-1)) = 0 ∧ ∀ q, q < 32 → zbit (zand (zand E (zxor B (-1))) (zxor on (-1))) q = true → cn W f fr (tb k) (fun q => q < 8 ∧ zbit on q = true) q) := by
            constructor
            · intro ha
              have hc : ∀ q, q < 32 → zbit (zand (zand E (zxor B (-1))) (zxor on (-1))) q = true → cn W f fr (tb k) (fun q => q < 8 ∧ zbit on q = true) q := fun q hq hz => by
                obtain ⟨z1, z2, z3⟩ := (hmis q hq).mp hz
                exact cn_mono (fun q hq => cn_0 ((hcn0 (tb k) q).mpr hq)) (fun _ _ hx => hx) (ha q z1 z2)
              refine ⟨sub0.mpr fun q hq hz => ?_, hc⟩
              obtain ⟨z1, z2, z3⟩ := (hmis q hq).mp hz
              have h3 : On q ∨ eR W fr (tb k) q := by
                have : (q < 8 ∧ On q) ∨ eR W fr (tb k) q := by
                  refine cn_in (C := fun q => (q < 8 ∧ On q) ∨ eR W fr (tb k) q) (fun q hq => Or.inl hq) (fun i hi hx => ?_) (ha q z1 z2)
                  exact ⟨fun _ => Or.inr ⟨i, hx, Or.inr rfl⟩, fun _ => Or.inr ⟨i, hx, Or.inl rfl⟩⟩
                exact this.imp (fun z => z.2) id
              exact (ends_tb hT hkf hq).mpr (h3.resolve_left z3)
            · rintro ⟨_, ha⟩ q hq hz
              by_cases ho : On q
              · exact cn_0 ⟨hq, ho⟩
              · exact cn_mono (fun q hq => cn_0 ((hcn0 (tb k) q).mp hq)) (fun _ _ hx => hx) (ha q (by omega) ((hmis q (by omega)).mpr ⟨hq, hz, ho⟩))
          by_cases h3 : zand (zand (zand E (zxor B (-1))) (zxor on (-1))) (zxor (C' 21 k) (-1)) = 0
          · rw [if_neg (fun z => z h3)]
            refine zH_bd2 (h_spread hW hT hkf) (fun sp C1 h4 => ?_)
            obtain ⟨hsp, rfl⟩ := h4
            by_cases h5 : zand (zand (zand E (zxor B (-1))) (zxor on (-1))) (zxor sp (-1)) = 0
            · rw [if_neg (fun z => z h5), zk]
              have h5s := sub0.mp h5
              have hok : AS W f fr E B On k := serves.mpr ⟨h3, fun q hq hz => (hsp q ((hmis q hq).mp hz).1).mp (h5s q hq hz)⟩
              refine zH_some ⟨⟨bf + 2 * bs (fc W fr) (tb k) f, rfl, by omega, ?_⟩, rfl⟩
              refine LQ_cg (LQ_or hn (P' := fun c => c = bf + 2 * bs (fc W fr) (tb k) f) ⟨_, rfl, by omega, fun _ => rfl, fun c hc => by omega⟩) fun c => ?_
              constructor
              · rintro (⟨a, a1, a2⟩ | e)
                · exact ⟨a, by omega, a2⟩
                · exact ⟨k, by omega, by
                    by_cases k0 : k = 0
                    · subst k0
                      exfalso
                      have := hok q0 q8 qm
                      have := cn_in (C := fun q => On q) (fun q hq => hq.2) (fun i hi hx => by rw [show tb 0 i = false from Nat.zero_testBit i] at hx; cases hx) this
                      exact qn this
                    · omega, hkf, h1s, hok, e⟩
              · rintro ⟨a, a1, a2, a3, a4, a5, a6⟩
                by_cases e : a = k
                · subst e; exact Or.inr a6
                · exact Or.inl ⟨a, by omega, a2, a3, a4, a5, a6⟩
            · rw [if_pos h5, zk]
              refine zH_some ⟨⟨n, rfl, nb, skip fun c ⟨_, z, _⟩ _ => absurd ?_ h5⟩, rfl⟩
              refine sub0.mpr fun q hq hz => (hsp q ((hmis q hq).mp hz).1).mpr ((serves.mp z).2 q hq hz)
          · rw [if_pos h3, zk]
            exact zH_some ⟨⟨n, rfl, nb, skip fun c ⟨_, z, _⟩ _ => absurd (serves.mp z).1 h3⟩, rfl⟩
      · rw [if_pos h1, zk]
        exact zH_some ⟨⟨n, rfl, nb, skip fun c ⟨z, _⟩ _ => absurd ((sub_tb hkf hf).mpr z) h1⟩, rfl⟩
    · rintro y C' ⟨⟨n, rfl, nb, hn⟩, rfl⟩
      unfold c_Round_withAsides_L39
      dsimp only
      rw [if_pos (by omega)]
      refine zH_some ⟨LQ_cg hn fun c => ?_, rfl⟩
      constructor
      · rintro ⟨a, a1, a2, a3⟩; exact ⟨a, a3⟩
      · rintro ⟨a, a1, a2, a3, a4⟩
        refine ⟨a, Nat.lt_succ_of_le (tb_le a1 hlx a2), ?_, a1, a2, a3, a4⟩
        by_cases k0 : a = 0
        · subst k0
          exfalso
          have := cn_in (C := fun q => On q) (fun q hq => hq.2) (fun i hi hx => by rw [show tb 0 i = false from Nat.zero_testBit i] at hx; cases hx) (a3 q0 q8 qm)
          exact qn this
        · omega
end ZLEAST

/-! ERRANDS: rows of steps, and what their cost is made of: open ways taken back, a road, asides -/
def FR (W : ZWd) (f : Nat) (fr : Nat → Nat) (s : ZWk) : Prop := f ≤ 6 ∧ (∀ i, i < f → fr i < wN W) ∧ (∀ i j, i < f → j < f → fr i = fr j → i = j) ∧ ∀ w, w < wN W → zbit (kG s) w = false → ∃ i, i < f ∧ fr i = w
def wc (W : ZWd) (w : Nat) : Nat := wM W w * 64 + 1
def cw (W : ZWd) : List Nat → Nat
  | [] => 0
  | w :: ws => wc W w + cw W ws
def onC (W : ZWd) : Nat → List Nat → Nat → Prop
  | p, [], q => q = p
  | p, w :: os, q => q = p ∨ onC W (wO W w p) os q
/-- steps that come home, all errands done -/
def gdR (W : ZWd) (h : Nat) (E : Int) : List Nat → ZWk → Int → Prop
  | [], s, B => kP s = h ∧ zand E (zxor B (-1)) = 0
  | w :: ws, s, B => kK W s w ≠ 0 ∧ gdR W h E ws (kT W s w) (zor B (zshl 1 (kP (kT W s w) : Int)))
def mis (E B : Int) (q : Nat) : Prop := zbit E q = true ∧ zbit B q = false
def eR (W : ZWd) (fr : Nat → Nat) (R : Nat → Bool) (q : Nat) : Prop := ∃ i, R i = true ∧ (fa W fr i = q ∨ fb W fr i = q)
/-- what makes a cost: os1 taken back, R the road, A the asides -/
def CTo (W : ZWd) (f : Nat) (fr : Nat → Nat) (h : Nat) (E : Int) (s : ZWk) (B : Int) (os1 os2 : List Nat) (R A : Nat → Bool) : Prop :=
  kO s = os1 ++ os2 ∧ (∀ i, R i = true → i < f ∧ zbit (kG s) (fr i) = false) ∧ (∀ i, A i = true → i < f ∧ zbit (kG s) (fr i) = false ∧ R i = false) ∧
  (∀ q, q < 8 → px W fr R q f = (decide (q = kE W (kP s) os1) ^^ decide (q = h))) ∧ (∀ i, R i = true → cn W f fr R (fun q => q = kE W (kP s) os1) (fa W fr i)) ∧
  (∀ q, q < 8 → mis E B q → cn W f fr A (fun q => onC W (kP s) os1 q ∨ eR W fr R q) q)
def CT (W : ZWd) (f : Nat) (fr : Nat → Nat) (h : Nat) (E : Int) (s : ZWk) (B : Int) (cost : Nat) : Prop := ∃ os1 os2 R A, CTo W f fr h E s B os1 os2 R A ∧ cost = cw W os1 + bs (fc W fr) R f + 2 * bs (fc W fr) A f
section ZCERT
variable {W : ZWd} {f : Nat} {fr : Nat → Nat} {s : ZWk} {h : Nat} {E B : Int}
theorem FR_T (hW : wOK W) (hk : kOK W s) (hF : FR W f fr s) {w : Nat} (h : kK W s w ≠ 0) : FR W f fr (kT W s w) := by
  have hW1 := hW.1
  have hwn := kK_lt h
  refine ⟨hF.1, hF.2.1, hF.2.2.1, fun v hv hz => hF.2.2.2 v hv ?_⟩
  rcases kK_or hk h with ⟨_, e, _⟩ | ⟨_, e, _, os, ho⟩
  · rw [e, zbit_N (by omega)] at hz
    cases hb : zbit (kG s) v with
    | false => rfl
    | true => rw [hb] at hz; cases hz
  · have hb : kB W s = (wO W w (kP s), os, kG s) := by unfold kB; rw [ho]
    rw [e, hb] at hz; exact hz
theorem bs_del {g : Nat → Nat} {X : Nat → Bool} {i : Nat} (hx : X i = true) (hi : i < f) : bs g X f = bs g (del X i) f + g i := by
  have e : bs g X f = bs g (fun j => del X i j || decide (j = i)) f := bs_cg fun j _ => by
    unfold del
    by_cases q : j = i
    · subst q; rw [hx, decide_eq_true rfl]; rfl
    · rw [decide_eq_false q]; simp
  rw [e, bs_add (by unfold del; rw [decide_eq_true rfl]; simp) hi]
theorem onC_0 : ∀ (os : List Nat) (p : Nat), onC W p os p
  | [], _ => rfl
  | _ :: _, _ => Or.inl rfl
theorem mis_up {q p : Nat} (hq : q < 8) (hp : p < 8) (h : mis E (zor B (zshl 1 (p : Int))) q) : mis E B q ∧ q ≠ p := by
  obtain ⟨h1, h2⟩ := h
  rw [zbit_or, zbit_sh1 p (by omega) q (by omega)] at h2
  refine ⟨⟨h1, ?_⟩, fun e => ?_⟩
  · cases hb : zbit B q with
    | false => rfl
    | true => rw [hb] at h2; cases h2
  · rw [decide_eq_true e, Bool.or_true] at h2; cases h2
theorem mis_dn {q p : Nat} (hq : q < 8) (hp : p < 8) (h : mis E B q) : q = p ∨ mis E (zor B (zshl 1 (p : Int))) q := by
  by_cases e : q = p
  · exact Or.inl e
  · refine Or.inr ⟨h.1, ?_⟩
    rw [zbit_or, zbit_sh1 p (by omega) q (by omega), h.2, decide_eq_false e]; rfl
theorem mis_0 (hE : ∀ q, q < 32 → zbit E q = true → q < 8) (h : ∀ q, q < 8 → ¬ mis E B q) : zand E (zxor B (-1)) = 0 := by
  refine zbit_ext (z32_zb _ _ _) (z32_e (by decide) (by decide)) fun q hq => ?_
  rw [zbit_and, zbit_not _ _ hq, zbit_0]
  cases h1 : zbit E q with
  | false => rfl
  | true =>
    cases h2 : zbit B q with
    | true => rfl
    | false => exact absurd ⟨h1, h2⟩ (h q (hE q hq h1))
theorem mis_no (h : zand E (zxor B (-1)) = 0) {q : Nat} (hq : q < 8) : ¬ mis E B q := by
  rintro ⟨h1, h2⟩
  have := zbit_and E (zxor B (-1)) q
  rw [h, zbit_0, zbit_not _ _ (by omega), h1, h2] at this
  cases this
/-- what its parts cost some steps cost -/
theorem ct_row (hW : wOK W) (hh : h < 8) (hE : ∀ q, q < 32 → zbit E q = true → q < 8) : ∀ (m : Nat) (s : ZWk), mu W s = m → kOK W s → FR W f fr s → ∀ (B : Int), zbit B (kP s) = true → ∀ os1 os2 R A, CTo W f fr h E s B os1 os2 R A →
    ∃ ws, gdR W h E ws s B ∧ cw W ws ≤ cw W os1 + bs (fc W fr) R f + 2 * bs (fc W fr) A f := by
  intro m
  induction m using Nat.strongRecOn with
  | _ m ihm =>
  intro s hm hk hF B hB os1 os2 R A hc
  have hW1 := hW.1
  have hp8 := hk.1
  obtain ⟨c1, c2, c3, c4, c5, c6⟩ := hc
  obtain ⟨F1, F2, F3, F4⟩ := hF
  -- a step, and what is left behind it
  have step : ∀ (w : Nat) (os1' os2' : List Nat) (R' A' : Nat → Bool), kK W s w ≠ 0 → CTo W f fr h E (kT W s w) (zor B (zshl 1 (kP (kT W s w) : Int))) os1' os2' R' A' → cw W os1' + bs (fc W fr) R' f + 2 * bs (fc W fr) A' f + wc W w ≤ cw W os1 + bs (fc W fr) R f + 2 * bs (fc W fr) A f →
      ∃ ws, gdR W h E ws s B ∧ cw W ws ≤ cw W os1 + bs (fc W fr) R f + 2 * bs (fc W fr) A f := by
    intro w os1' os2' R' A' hw hc' hle
    have hmu := mu_T hW hk hw
    have hkT := kOK_T hW hk hw
    obtain ⟨ws, g1, g2⟩ := ihm (mu W (kT W s w)) (by omega) (kT W s w) rfl hkT (FR_T hW hk ⟨F1, F2, F3, F4⟩ hw) (zor B (zshl 1 (kP (kT W s w) : Int))) (by rw [zbit_or, zbit_sh1 _ (by have := hkT.1; omega) _ (by have := hkT.1; omega), decide_eq_true rfl, Bool.or_true]) os1' os2' R' A' hc'
    refine ⟨w :: ws, ⟨hw, g1⟩, ?_⟩
    show wc W w + cw W ws ≤ _
    omega
  -- a free way not gone
  have free : ∀ i, i < f → zbit (kG s) (fr i) = false → wI W (fr i) (kP s) = true → kK W s (fr i) = 1 ∧ kT W s (fr i) = kN W s (fr i) ∧ ∀ j, j < f → j ≠ i → zbit (kG s) (fr j) = false → zbit (kG (kT W s (fr i))) (fr j) = false := by
    intro i hi hg hw
    have k1 := kK_1' hw hg
    refine ⟨k1, kT_N k1, fun j hj hji hgj => ?_⟩
    have := F2 i hi
    rw [kT_N k1, zbit_N (by omega), hgj, decide_eq_false (fun e => hji (F3 j i hj hi e))]
    rfl
  by_cases hA : ∃ i, A i = true ∧ wI W (fr i) (kP s) = true
  · obtain ⟨i, ai, wi⟩ := hA
    obtain ⟨a1, a2, a3⟩ := c3 i ai
    obtain ⟨k1, t1, t2⟩ := free i a1 a2 wi
    have hto := wO_lt hW (p := kP s) (F2 i a1)
    have hP : kP (kT W s (fr i)) = wO W (fr i) (kP s) := by rw [t1]; rfl
    have hoo := wO_O hW wi
    refine step (fr i) (fr i :: os1) os2 R (del A i) (by rw [k1]; decide) ⟨?_, fun j hj => ?_, fun j hj => ?_, ?_, ?_, ?_⟩ ?_
    · rw [t1]; show fr i :: kO s = _; rw [c1]; rfl
    · have := c2 j hj
      refine ⟨this.1, t2 j this.1 (fun e => by rw [e, a3] at hj; cases hj) this.2⟩
    · obtain ⟨d1, d2⟩ := del_1.mp hj
      obtain ⟨b1, b2, b3⟩ := c3 j d1
      exact ⟨b1, t2 j b1 d2 b2, b3⟩
    · rw [hP]
      show ∀ q, q < 8 → px W fr R q f = (decide (q = kE W (wO W (fr i) (wO W (fr i) (kP s))) os1) ^^ decide (q = h))
      rw [hoo]; exact c4
    · rw [hP]
      show ∀ j, R j = true → cn W f fr R (fun q => q = kE W (wO W (fr i) (wO W (fr i) (kP s))) os1) (fa W fr j)
      rw [hoo]; exact c5
    · intro q hq hm2
      have hm3 := mis_up hq (kOK_T hW hk (by rw [k1]; decide)).1 hm2
      rw [hP] at hm3
      have h1 := c6 q hq hm3.1
      rw [hP]
      have sp : onC W (wO W (fr i) (kP s)) (fr i :: os1) (kP s) := by
        refine Or.inr ?_
        rw [hoo]; exact onC_0 os1 _
      refine cn_in (C := cn W f fr (del A i) (fun q => onC W (wO W (fr i) (kP s)) (fr i :: os1) q ∨ eR W fr R q)) (fun q hq => cn_0 ?_) (fun j hj hx => ?_) h1
      · rcases hq with e | e
        · refine Or.inl (Or.inr ?_)
          rw [hoo]; exact e
        · exact Or.inr e
      · by_cases e : j = i
        · subst e
          have q1 : cn W f fr (del A j) (fun q => onC W (wO W (fr j) (kP s)) (fr j :: os1) q ∨ eR W fr R q) (kP s) := cn_0 (Or.inl sp)
          have q2 : cn W f fr (del A j) (fun q => onC W (wO W (fr j) (kP s)) (fr j :: os1) q ∨ eR W fr R q) (wO W (fr j) (kP s)) := cn_0 (Or.inl (Or.inl rfl))
          rcases wI_ends hW wi with ⟨e1, e2⟩ | ⟨e1, e2⟩
          · unfold fa fb; rw [e1, e2]; exact ⟨fun _ => q2, fun _ => q1⟩
          · unfold fa fb; rw [e1, e2]; exact ⟨fun _ => q1, fun _ => q2⟩
        · exact cn_st hj (del_1.mpr ⟨hx, e⟩)
    · have e1 := bs_del (g := fc W fr) (f := f) ai a1
      show wc W (fr i) + cw W os1 + _ + _ + wc W (fr i) ≤ _
      have e2 : fc W fr i = wc W (fr i) := rfl
      omega
  · -- no aside here
    have noA : ∀ (S S' : Nat → Prop), (∀ q, S q → q = kP s ∨ cn W f fr A S' q) → ∀ q, cn W f fr A S q → q = kP s ∨ cn W f fr A S' q := by
      intro S S' hS q hq
      refine cn_in (C := fun q => q = kP s ∨ cn W f fr A S' q) hS (fun j hj hx => ?_) hq
      have na : fa W fr j ≠ kP s := fun z => hA ⟨j, hx, wI_iff.mpr ⟨F2 j hj, Or.inl z⟩⟩
      have nb : fb W fr j ≠ kP s := fun z => hA ⟨j, hx, wI_iff.mpr ⟨F2 j hj, Or.inr z⟩⟩
      have hst := cn_st (W := W) (fr := fr) (S := S') hj hx
      exact ⟨fun z => Or.inr (hst.mp (z.resolve_left na)), fun z => Or.inr (hst.mpr (z.resolve_left nb))⟩
    cases os1 with
    | cons w os1 =>
      have ho : kO s = w :: (os1 ++ os2) := c1
      have kb := kK_B hk ho
      have hb : kB W s = (wO W w (kP s), os1 ++ os2, kG s) := by unfold kB; rw [ho]
      have tb : kT W s w = (wO W w (kP s), os1 ++ os2, kG s) := (kT_B kb).trans hb
      refine step w os1 os2 R A (by rw [kb]; decide) ⟨?_, ?_, ?_, ?_, ?_, ?_⟩ ?_
      · rw [tb]; rfl
      · rw [tb]; exact c2
      · rw [tb]; exact c3
      · rw [tb]; exact c4
      · rw [tb]; exact c5
      · intro q hq hm2
        have hm3 := mis_up hq (kOK_T hW hk (by rw [kb]; decide)).1 hm2
        have h1 := c6 q hq hm3.1
        rw [tb]
        refine (noA _ (fun q => onC W (wO W w (kP s)) os1 q ∨ eR W fr R q) (fun q hq => ?_) q h1).resolve_left (fun e => ?_)
        · rcases hq with e | e
          · rcases e with e | e
            · exact Or.inl e
            · exact Or.inr (cn_0 (Or.inl e))
          · exact Or.inr (cn_0 (Or.inr e))
        · have := hm3.1.2
          rw [e, hB] at this; cases this
      · show cw W os1 + _ + _ + wc W w ≤ wc W w + cw W os1 + _ + _
        omega
    | nil =>
      by_cases hR : ∃ i, R i = true
      · obtain ⟨i, ri, wi, o1, o2⟩ := fleury hW F2 hp8 hh (fun i hi => (c2 i hi).1) c4 c5 hR
        obtain ⟨a1, a2⟩ := c2 i ri
        obtain ⟨k1, t1, t2⟩ := free i a1 a2 wi
        have hP : kP (kT W s (fr i)) = wO W (fr i) (kP s) := by rw [t1]; rfl
        refine step (fr i) [] (fr i :: kO s) (del R i) A (by rw [k1]; decide) ⟨?_, fun j hj => ?_, fun j hj => ?_, ?_, ?_, ?_⟩ ?_
        · rw [t1]; rfl
        · obtain ⟨d1, d2⟩ := del_1.mp hj
          have := c2 j d1
          exact ⟨this.1, t2 j this.1 d2 this.2⟩
        · obtain ⟨b1, b2, b3⟩ := c3 j hj
          refine ⟨b1, t2 j b1 (fun e => by rw [e, ri] at b3; cases b3) b2, ?_⟩
          unfold del; rw [b3]; rfl
        · rw [hP]; exact o1
        · rw [hP]; exact o2
        · intro q hq hm2
          have hm3 := mis_up hq (kOK_T hW hk (by rw [k1]; decide)).1 hm2
          have h1 := c6 q hq hm3.1
          rw [hP]
          refine (noA _ (fun q => onC W (wO W (fr i) (kP s)) [] q ∨ eR W fr (del R i) q) (fun q hq => ?_) q h1).resolve_left (fun e => ?_)
          · rcases hq with e | ⟨j, rj, e⟩
            · exact Or.inl e
            · by_cases eji : j = i
              · subst eji
                rcases wI_ends hW wi with ⟨e1, e2⟩ | ⟨e1, e2⟩
                · rcases e with e | e
                  · exact Or.inl (e.symm.trans e1)
                  · exact Or.inr (cn_0 (Or.inl (e.symm.trans e2)))
                · rcases e with e | e
                  · exact Or.inr (cn_0 (Or.inl (e.symm.trans e2)))
                  · exact Or.inl (e.symm.trans e1)
              · exact Or.inr (cn_0 (Or.inr ⟨j, del_1.mpr ⟨rj, eji⟩, e⟩))
          · have := hm3.1.2
            rw [e, hB] at this; cases this
        · have e1 := bs_del (g := fc W fr) (f := f) ri a1
          have e2 : fc W fr i = wc W (fr i) := rfl
          show 0 + _ + _ + _ ≤ 0 + _ + _
          omega
      · refine ⟨[], ⟨?_, mis_0 hE fun q hq hm2 => ?_⟩, Nat.zero_le _⟩
        · have h1 := c4 (kP s) hp8
          have h2 : px W fr R (kP s) f = false := by
            have : ∀ k, px W fr R (kP s) k = false := by
              intro k
              induction k with
              | zero => rfl
              | succ k ih =>
                unfold px
                have hr : R k = false := by
                  cases hz : R k with
                  | false => rfl
                  | true => exact absurd ⟨k, hz⟩ hR
                rw [ih, hr]; rfl
            exact this f
          rw [h2] at h1
          by_cases e : kP s = h
          · exact e
          · rw [show kE W (kP s) [] = kP s from rfl, decide_eq_true rfl, decide_eq_false e] at h1
            cases h1
        · have h1 := c6 q hq hm2
          have h2 := noA _ (fun _ => False) (fun q hq => ?_) q h1
          · rcases h2 with e | e
            · have := hm2.2
              rw [e, hB] at this; cases this
            · have : False := cn_in (C := fun _ => False) (fun q hq => hq) (fun _ _ _ => Iff.rfl) e
              exact this
          · rcases hq with e | ⟨j, rj, _⟩
            · exact Or.inl e
            · exact absurd ⟨j, rj⟩ hR
/-- what some steps cost its parts cost, or less -/
theorem row_ct (hW : wOK W) (hh : h < 8) : ∀ (ws : List Nat) (s : ZWk), kOK W s → FR W f fr s → ∀ (B : Int), gdR W h E ws s B → ∃ cost, CT W f fr h E s B cost ∧ cost ≤ cw W ws
  | [], s, hk, hF, B, hg => by
    refine ⟨0, ⟨[], kO s, fun _ => false, fun _ => false, ⟨rfl, fun i hi => (by cases hi), fun i hi => (by cases hi), fun q hq => ?_, fun i hi => (by cases hi), fun q hq hm => absurd hm (mis_no hg.2 hq)⟩, ?_⟩, Nat.le_refl _⟩
    · have : ∀ k, px W fr (fun _ => false) q k = false := by
        intro k
        induction k with
        | zero => rfl
        | succ k ih => unfold px; rw [ih]; rfl
      rw [this, show kE W (kP s) [] = kP s from rfl, hg.1, Bool.xor_self]
    · have : ∀ k, bs (fc W fr) (fun _ => false) k = 0 := by
        intro k
        induction k with
        | zero => rfl
        | succ k ih => unfold bs; rw [ih]; rfl
      rw [this]; rfl
  | w :: ws, s, hk, hF, B, hg => by
    have hW1 := hW.1
    obtain ⟨hw, hg⟩ := hg
    have hkT := kOK_T hW hk hw
    obtain ⟨F1, F2, F3, F4⟩ := hF
    obtain ⟨cost, ⟨os1, os2, R, A, ⟨c1, c2, c3, c4, c5, c6⟩, ce⟩, hle⟩ := row_ct hW hh ws (kT W s w) hkT (FR_T hW hk ⟨F1, F2, F3, F4⟩ hw) _ hg
    rcases kK_or hk hw with ⟨k1, t1, i1, z1⟩ | ⟨k2, t2, i2, os, ho⟩
    · obtain ⟨i, hi, rfl⟩ := F4 w (kK_lt hw) z1
      have hP : kP (kT W s (fr i)) = wO W (fr i) (kP s) := by rw [t1]; rfl
      have hoo := wO_O hW i1
      have hO : kO (kT W s (fr i)) = fr i :: kO s := by rw [t1]; rfl
      have hgn : ∀ j, zbit (kG (kT W s (fr i))) (fr j) = false → zbit (kG s) (fr j) = false ∧ j ≠ i := by
        intro j hj
        have := F2 i hi
        rw [t1, zbit_N (by omega)] at hj
        refine ⟨?_, fun e => ?_⟩
        · cases hb : zbit (kG s) (fr j) with
          | false => rfl
          | true => rw [hb] at hj; cases hj
        · rw [e, decide_eq_true rfl, Bool.or_true] at hj; cases hj
      have hRi : R i = false := by
        cases hz : R i with
        | false => rfl
        | true => exact absurd rfl (hgn i (c2 i hz).2).2
      have hAi : A i = false := by
        cases hz : A i with
        | false => rfl
        | true => exact absurd rfl (hgn i (c3 i hz).2.1).2
      have hfc : fc W fr i = wc W (fr i) := rfl
      rw [hP] at c4 c5 c6
      cases os1 with
      | cons w1 os1 =>
        rw [hO] at c1
        have e1 : fr i = w1 := (List.cons.inj c1).1
        have e2 : kO s = os1 ++ os2 := (List.cons.inj c1).2
        subst e1
        have hE1 : kE W (wO W (fr i) (kP s)) (fr i :: os1) = kE W (kP s) os1 := by
          show kE W (wO W (fr i) (wO W (fr i) (kP s))) os1 = _
          rw [hoo]
        rw [hE1] at c4 c5
        refine ⟨_, ⟨os1, os2, R, fun j => A j || decide (j = i), ⟨e2, fun j hj => ⟨(c2 j hj).1, (hgn j (c2 j hj).2).1⟩, fun j hj => ?_, c4, c5, fun q hq hm => ?_⟩, rfl⟩, ?_⟩
        · rcases Bool.or_eq_true_iff.mp hj with e | e
          · exact ⟨(c3 j e).1, (hgn j (c3 j e).2.1).1, (c3 j e).2.2⟩
          · have e := of_decide_eq_true e
            subst e
            exact ⟨hi, z1, hRi⟩
        · have hAs : (fun j => A j || decide (j = i)) i = true := by show (A i || decide (i = i)) = true; rw [decide_eq_true rfl, Bool.or_true]
          have hst := cn_st (W := W) (fr := fr) (X := fun j => A j || decide (j = i)) (S := fun q => onC W (kP s) os1 q ∨ eR W fr R q) hi hAs
          have sp : cn W f fr (fun j => A j || decide (j = i)) (fun q => onC W (kP s) os1 q ∨ eR W fr R q) (kP s) := cn_0 (Or.inl (onC_0 os1 _))
          have st : cn W f fr (fun j => A j || decide (j = i)) (fun q => onC W (kP s) os1 q ∨ eR W fr R q) (wO W (fr i) (kP s)) := by
            rcases wI_ends hW i1 with ⟨x1, x2⟩ | ⟨x1, x2⟩
            · unfold fa fb at hst; rw [x1, x2] at hst; exact hst.mp sp
            · unfold fa fb at hst; rw [x1, x2] at hst; exact hst.mpr sp
          have hto : wO W (fr i) (kP s) < 8 := wO_lt hW (F2 i hi)
          rcases mis_dn hq hto hm with e | e
          · rw [e]; exact st
          · refine cn_mono (fun q hq => ?_) (fun j hj hx => ?_) (c6 q hq e)
            · rcases hq with e | e
              · rcases e with e | e
                · rw [e]; exact st
                · rw [hoo] at e; exact cn_0 (Or.inl e)
              · exact cn_0 (Or.inr e)
            · show (A j || decide (j = i)) = true
              rw [hx]; rfl
        · rw [bs_add hAi hi]
          have : cw W (fr i :: os1) = wc W (fr i) + cw W os1 := rfl
          rw [this] at ce
          show _ ≤ wc W (fr i) + cw W ws
          omega
      | nil =>
        refine ⟨_, ⟨[], kO s, fun j => R j || decide (j = i), A, ⟨rfl, fun j hj => ?_, fun j hj => ?_, fun q hq => ?_, fun j hj => ?_, fun q hq hm => ?_⟩, rfl⟩, ?_⟩
        · rcases Bool.or_eq_true_iff.mp hj with e | e
          · exact ⟨(c2 j e).1, (hgn j (c2 j e).2).1⟩
          · rw [of_decide_eq_true e]; exact ⟨hi, z1⟩
        · obtain ⟨b1, b2, b3⟩ := c3 j hj
          refine ⟨b1, (hgn j b2).1, ?_⟩
          show (R j || decide (j = i)) = false
          rw [b3, decide_eq_false (hgn j b2).2]; rfl
        · have h1 := px_del (W := W) (fr := fr) (X := fun j => R j || decide (j = i)) (i := i) (q := q) (by show (R i || decide (i = i)) = true; rw [decide_eq_true rfl, Bool.or_true]) f hi
          have h2 : px W fr (del (fun j => R j || decide (j = i)) i) q f = px W fr R q f := px_cg fun j _ => by
            show ((R j || decide (j = i)) && !decide (j = i)) = R j
            by_cases e : j = i
            · rw [e, hRi, decide_eq_true rfl]; rfl
            · rw [decide_eq_false e]; simp
          rw [h1, h2, c4 q hq]
          have cc : ∀ a : Nat, decide (a = q) = decide (q = a) := fun a => by
            by_cases e : a = q
            · rw [decide_eq_true e, decide_eq_true e.symm]
            · rw [decide_eq_false e, decide_eq_false (fun z => e z.symm)]
          show ((decide (q = wO W (fr i) (kP s)) ^^ decide (q = h)) ^^ (decide (wA W (fr i) = q) ^^ decide (wB W (fr i) = q))) = (decide (q = kP s) ^^ decide (q = h))
          rcases wI_ends hW i1 with ⟨x1, x2⟩ | ⟨x1, x2⟩
          · rw [x1, x2, cc, cc]
            cases decide (q = wO W (fr i) (kP s)) <;> cases decide (q = h) <;> cases decide (q = kP s) <;> rfl
          · rw [x1, x2, cc, cc]
            cases decide (q = wO W (fr i) (kP s)) <;> cases decide (q = h) <;> cases decide (q = kP s) <;> rfl
        · have hX : (fun j => R j || decide (j = i)) i = true := by show (R i || decide (i = i)) = true; rw [decide_eq_true rfl, Bool.or_true]
          have hst := cn_st (W := W) (fr := fr) (X := fun j => R j || decide (j = i)) (S := fun q => q = kE W (kP s) []) hi hX
          have sp : cn W f fr (fun j => R j || decide (j = i)) (fun q => q = kE W (kP s) []) (kP s) := cn_0 rfl
          have st : cn W f fr (fun j => R j || decide (j = i)) (fun q => q = kE W (kP s) []) (wO W (fr i) (kP s)) ∧ cn W f fr (fun j => R j || decide (j = i)) (fun q => q = kE W (kP s) []) (fa W fr i) := by
            rcases wI_ends hW i1 with ⟨x1, x2⟩ | ⟨x1, x2⟩
            · unfold fa fb at hst; unfold fa; rw [x1, x2] at hst; rw [x1]; exact ⟨hst.mp sp, sp⟩
            · unfold fa fb at hst; unfold fa; rw [x1, x2] at hst; rw [x2]; exact ⟨hst.mpr sp, hst.mpr sp⟩
          rcases Bool.or_eq_true_iff.mp hj with e | e
          · refine cn_mono (fun q hq => ?_) (fun j hj hx => ?_) (c5 j e)
            · have hq : q = wO W (fr i) (kP s) := hq
              rw [hq]; exact st.1
            · show (R j || decide (j = i)) = true
              rw [hx]; rfl
          · rw [of_decide_eq_true e]; exact st.2
        · have hends : eR W fr (fun j => R j || decide (j = i)) (wO W (fr i) (kP s)) := by
            refine ⟨i, by show (R i || decide (i = i)) = true; rw [decide_eq_true rfl, Bool.or_true], ?_⟩
            rcases wI_ends hW i1 with ⟨x1, x2⟩ | ⟨x1, x2⟩
            · exact Or.inr x2
            · exact Or.inl x2
          have hto : wO W (fr i) (kP s) < 8 := wO_lt hW (F2 i hi)
          rcases mis_dn hq hto hm with e | e
          · rw [e]; exact cn_0 (Or.inr hends)
          · refine cn_mono (fun q hq => cn_0 ?_) (fun j _ hx => hx) (c6 q hq e)
            rcases hq with e | ⟨j, rj, e⟩
            · have e : q = wO W (fr i) (kP s) := e
              rw [e]; exact Or.inr hends
            · exact Or.inr ⟨j, by show (R j || decide (j = i)) = true; rw [rj]; rfl, e⟩
        · rw [bs_add hRi hi]
          have : cw W [] = 0 := rfl
          rw [this] at ce ⊢
          show _ ≤ wc W (fr i) + cw W ws
          omega
    · have hb : kB W s = (wO W w (kP s), os, kG s) := by unfold kB; rw [ho]
      have tb : kT W s w = (wO W w (kP s), os, kG s) := t2.trans hb
      rw [tb] at c1 c2 c3 c4 c5 c6
      have c1 : os = os1 ++ os2 := c1
      refine ⟨_, ⟨w :: os1, os2, R, A, ⟨by rw [ho, c1]; rfl, c2, c3, c4, c5, fun q hq hm => ?_⟩, rfl⟩, ?_⟩
      · have hto : wO W w (kP s) < 8 := wO_lt hW (kK_lt hw)
        rcases mis_dn hq hto hm with e | e
        · rw [e]; exact cn_0 (Or.inl (Or.inr (onC_0 os1 _)))
        · refine cn_mono (fun q hq => cn_0 ?_) (fun j _ hx => hx) (c6 q hq e)
          rcases hq with e | e
          · exact Or.inl (Or.inr e)
          · exact Or.inr e
      · show wc W w + cw W os1 + _ + _ ≤ wc W w + cw W ws
        omega
end ZCERT

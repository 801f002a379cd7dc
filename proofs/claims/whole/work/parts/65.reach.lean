/-! REACH: where one can still come, as layers; the fewest ways cut -/
/-- the places that one comes to by going back, until a way is cut -/
def chR (W : ZWd) (cut : Int) : Nat → List Nat → Nat → Prop
  | _, [], _ => False
  | p, w :: os, q => zbit cut w = false ∧ (wO W w p = q ∨ chR W cut (wO W w p) os q)
def rS (W : ZWd) (s : ZWk) (cut : Int) : Nat → Prop := fun q => q = kP s ∨ chR W cut (kP s) (kO s) q
def rX (g cut : Int) : Nat → Prop := fun i => zbit g i = false ∧ zbit cut i = false
def rL (W : ZWd) (s : ZWk) (cut : Int) : Nat → Nat → Prop := ly (wN W) (wA W) (wB W) (rX (kG s) cut) (rS W s cut)
section ZREACH
variable {W : ZWd} {s : ZWk} {g cut : Int}
theorem fin_W (hW : wOK W) {r : ZRw} {B w p : Nat} (hw : w < wN W) (hB : B < 900000) (hb : bnd r B) :
    snW W g cut r w p < 1000000 ↔ r p < 1000000 ∨ (rX g cut w ∧ ((wA W w = p ∧ r (wB W w) < 1000000) ∨ (wB W w = p ∧ r (wA W w) < 1000000))) := by
  have hm := hW.2 w hw
  have h1 := hb (wA W w)
  have h2 := hb (wB W w)
  have h3 := hb p
  unfold snW rX
  by_cases hg : zbit g w = true ∨ zbit cut w = true
  · rw [if_pos hg]
    refine ⟨Or.inl, fun q => q.elim id fun z => ?_⟩
    rcases hg with e | e
    · rw [z.1.1] at e; cases e
    · rw [z.1.2] at e; cases e
  · rw [if_neg hg]
    have hx : zbit g w = false ∧ zbit cut w = false := ⟨Bool.eq_false_iff.mpr fun q => hg (Or.inl q), Bool.eq_false_iff.mpr fun q => hg (Or.inr q)⟩
    by_cases ea : p = wA W w
    · subst ea
      rw [zp_eq]
      refine ⟨fun q => ?_, fun q => ?_⟩
      · by_cases e : r (wA W w) < 1000000
        · exact Or.inl e
        · refine Or.inr ⟨hx, Or.inl ⟨rfl, ?_⟩⟩
          split at q <;> omega
      · rcases q with q | ⟨_, ⟨_, q⟩ | ⟨_, q⟩⟩
        · split <;> omega
        · split <;> omega
        · split <;> omega
    · rw [zp_ne ea]
      by_cases eb : p = wB W w
      · subst eb
        rw [zp_eq]
        refine ⟨fun q => ?_, fun q => ?_⟩
        · by_cases e : r (wB W w) < 1000000
          · exact Or.inl e
          · refine Or.inr ⟨hx, Or.inr ⟨rfl, ?_⟩⟩
            split at q <;> omega
        · rcases q with q | ⟨_, ⟨_, q⟩ | ⟨_, q⟩⟩
          · split <;> omega
          · split <;> omega
          · split <;> omega
      · rw [zp_ne eb]
        exact ⟨Or.inl, fun q => q.elim id fun z => z.2.elim (fun y => absurd y.1.symm ea) (fun y => absurd y.1.symm eb)⟩
theorem fin_Pm (hW : wOK W) {r : ZRw} {B p : Nat} (hB : B < 100000) (hb : bnd r B) (h : r p < 1000000) : ∀ k, k ≤ wN W → snP W g cut k r p < 1000000
  | 0, _ => h
  | k + 1, hk => by
    have hW1 := hW.1
    exact (fin_W hW (by omega) (by omega) (bnd_P hW hB hb k (by omega))).mpr (Or.inl (fin_Pm hW hB hb h k (by omega)))
theorem fin_P1 (hW : wOK W) {r : ZRw} {B i p : Nat} (hB : B < 100000) (hb : bnd r B) (hx : rX g cut i) (h : (wA W i = p ∧ r (wB W i) < 1000000) ∨ (wB W i = p ∧ r (wA W i) < 1000000)) : ∀ k, k ≤ wN W → i < k → snP W g cut k r p < 1000000
  | 0, _, hi => absurd hi (Nat.not_lt_zero _)
  | k + 1, hk, hi => by
    have hW1 := hW.1
    refine (fin_W hW (by omega) (by omega) (bnd_P hW hB hb k (by omega))).mpr ?_
    by_cases e : i = k
    · subst e
      refine Or.inr ⟨hx, h.imp (fun q => ⟨q.1, fin_Pm hW hB hb q.2 i (by omega)⟩) (fun q => ⟨q.1, fin_Pm hW hB hb q.2 i (by omega)⟩)⟩
    · exact Or.inl (fin_P1 hW hB hb hx h k (by omega) (by omega))
theorem fin_C (hW : wOK W) {q : Nat} : ∀ (os : List Nat) (p t : Nat) (r : ZRw), kC W p os → t + 9 * os.length ≤ 108 → (snC W cut p t os r q < 1000000 ↔ r q < 1000000 ∨ chR W cut p os q)
  | [], p, t, r, _, _ => ⟨Or.inl, fun h => h.elim id False.elim⟩
  | w :: os, p, t, r, hk, ht => by
    have hm := hW.2 w (wI_iff.mp hk.1).1
    simp only [List.length_cons] at ht
    unfold snC chR
    by_cases hc : zbit cut w = true
    · rw [if_pos hc]
      exact ⟨Or.inl, fun h => h.elim id fun z => by rw [hc] at z; cases z.1⟩
    · rw [if_neg hc, fin_C hW os _ _ _ hk.2 (by omega)]
      have hcf : zbit cut w = false := Bool.eq_false_iff.mpr hc
      have e : zup r (wO W w p) (if t + wM W w < r (wO W w p) then t + wM W w else r (wO W w p)) q < 1000000 ↔ r q < 1000000 ∨ wO W w p = q := by
        by_cases eq : q = wO W w p
        · subst eq
          rw [zp_eq]
          refine ⟨fun _ => Or.inr rfl, fun _ => ?_⟩
          split <;> omega
        · rw [zp_ne eq]
          exact ⟨Or.inl, fun h => h.elim id fun z => absurd z.symm eq⟩
      rw [e]
      constructor
      · rintro ((h | h) | h)
        · exact Or.inl h
        · exact Or.inr ⟨hcf, Or.inl h⟩
        · exact Or.inr ⟨hcf, Or.inr h⟩
      · rintro (h | ⟨_, h | h⟩)
        · exact Or.inl (Or.inl h)
        · exact Or.inl (Or.inr h)
        · exact Or.inr h
/-- one can still come to a place, just if it hangs together with those behind one -/
theorem sn_iff (hW : wOK W) (hk : kOK W s) {p : Nat} : sn W s cut p < 1000000 ↔ ∃ j, rL W s cut j p := by
  have hW1 := hW.1
  have hb0 := bnd_C (cut := cut) hW (kO s) (kP s) 0 (sn0 (kP s)) hk.2.1 (kOK_sum hW hk) (bnd_0 _)
  have h0 : ∀ q, snC W cut (kP s) 0 (kO s) (sn0 (kP s)) q < 1000000 ↔ rS W s cut q := by
    intro q
    rw [fin_C hW _ _ _ _ hk.2.1 (kOK_sum hW hk)]
    unfold rS sn0
    by_cases e : q = kP s
    · subst e
      rw [zp_eq]
      exact ⟨fun _ => Or.inl rfl, fun _ => Or.inl (by decide)⟩
    · rw [zp_ne e]
      exact ⟨fun h => h.elim (fun z => absurd z (by decide)) Or.inr, fun h => h.elim (fun z => absurd z e) Or.inr⟩
  have hA : ∀ k, k ≤ 8 → ∀ q, rL W s cut k q → snI W (kG s) cut k (snC W cut (kP s) 0 (kO s) (sn0 (kP s))) q < 1000000 := by
    intro k
    induction k with
    | zero => intro _ q h; exact (h0 q).mpr h
    | succ k ih =>
      intro hk8 q h
      have hb := bnd_I (g := kG s) (cut := cut) hW (by decide) hb0 k (by omega)
      rcases h with h | ⟨i, hi, hx, h⟩
      · exact fin_Pm hW (by omega) hb (ih (by omega) q h) _ (Nat.le_refl _)
      · exact fin_P1 hW (by omega) hb hx (h.imp (fun z => ⟨z.1, ih (by omega) _ z.2⟩) (fun z => ⟨z.1, ih (by omega) _ z.2⟩)) _ (Nat.le_refl _) hi
  have hP : ∀ (r : ZRw) (B : Nat), B < 100000 → bnd r B → (∀ q, r q < 1000000 → ∃ j, rL W s cut j q) → ∀ k, k ≤ wN W → ∀ q, snP W (kG s) cut k r q < 1000000 → ∃ j, rL W s cut j q := by
    intro r B hB hb hr k
    induction k with
    | zero => intro _ q h; exact hr q h
    | succ k ih =>
      intro hkn q h
      rcases (fin_W hW (by omega) (by omega) (bnd_P hW hB hb k (by omega))).mp h with h | ⟨hx, ⟨e, h⟩ | ⟨e, h⟩⟩
      · exact ih (by omega) q h
      · obtain ⟨j, hj⟩ := ih (by omega) _ h
        exact ⟨j + 1, Or.inr ⟨k, by omega, hx, Or.inl ⟨e, hj⟩⟩⟩
      · obtain ⟨j, hj⟩ := ih (by omega) _ h
        exact ⟨j + 1, Or.inr ⟨k, by omega, hx, Or.inr ⟨e, hj⟩⟩⟩
  have hB : ∀ k, k ≤ 8 → ∀ q, snI W (kG s) cut k (snC W cut (kP s) 0 (kO s) (sn0 (kP s))) q < 1000000 → ∃ j, rL W s cut j q := by
    intro k
    induction k with
    | zero => intro _ q h; exact ⟨0, (h0 q).mp h⟩
    | succ k ih =>
      intro hk8 q h
      exact hP _ (108 + 108 * k) (by omega) (bnd_I (g := kG s) (cut := cut) hW (by decide) hb0 k (by omega)) (ih (by omega)) _ (Nat.le_refl _) q h
  constructor
  · exact hB 8 (Nat.le_refl _) p
  · rintro ⟨j, hj⟩
    refine hA 8 (Nat.le_refl _) p (ly_stopP (fun q hq => ?_) (fun i hi => ⟨(hW.2 i hi).1, (hW.2 i hi).2.1⟩) j hj)
    have hch : ∀ (os : List Nat) (p : Nat), kC W p os → ∀ q, chR W cut p os q → q < 8 := by
      intro os
      induction os with
      | nil => intro p _ q h; exact h.elim
      | cons w os ih =>
        intro p hk q h
        rcases h.2 with h | h
        · rw [← h]; exact wO_lt hW (wI_iff.mp hk.1).1
        · exact ih _ hk.2 q h
    rcases hq with h | h
    · rw [h]; exact hk.1
    · exact hch _ _ hk.2.1 q h
end ZREACH
/-- where going back leads -/
def kE (W : ZWd) : Nat → List Nat → Nat
  | p, [] => p
  | p, w :: os => kE W (wO W w p) os
def ldN (W : ZWd) (side : Int) : Nat → Int
  | 0 => 0
  | k + 1 => if zbit side (wA W k) = zbit side (wB W k) then ldN W side k else zor (ldN W side k) (zshl 1 (k : Int))
def lfo (W : ZWd) (side : Int) : Nat → List Nat → Nat → Nat
  | _, [], m => m
  | p, w :: os, m => if zbit side p = true then lfo W side (wO W w p) os (if w < m then w else m) else m
def cutS (W : ZWd) (s : ZWk) (side : Int) : Int := zor (zand (ldN W side (wN W)) (zxor (kG s) (-1))) (zshl 1 (lfo W side (kP s) (kO s) 12 : Int))
/-- by a cut one is lost -/
def lo (W : ZWd) (s : ZWk) (h : Nat) (c : Int) : Prop := ¬ sn W s c h < 1000000
def lek (a b : Int) : Prop := ones a < ones b ∨ (ones a = ones b ∧ a ≤ b)
/-- what a thread must be -/
def isT (W : ZWd) (s : ZWk) (h : Nat) (v : Int) : Prop := (v = -1 ∧ kP s = h) ∨ (kP s ≠ h ∧ (0 ≤ v ∧ v < ((2 ^ wN W : Nat) : Int)) ∧ lo W s h v ∧ ∀ c : Int, 0 ≤ c → c < ((2 ^ wN W : Nat) : Int) → lo W s h c → lek v c)
section ZTHREAD
variable {W : ZWd} {s : ZWk}
theorem lek_anti {a b : Int} (h1 : lek a b) (h2 : lek b a) : a = b := by
  unfold lek at h1 h2
  omega
theorem lek_tr {a b c : Int} (h1 : lek a b) (h2 : lek b c) : lek a c := by
  unfold lek at *
  omega
theorem isT_one {h : Nat} {v v' : Int} (h1 : isT W s h v) (h2 : isT W s h v') : v = v' := by
  rcases h1 with ⟨e, p⟩ | ⟨p, r, l, m⟩
  · rcases h2 with ⟨e', _⟩ | ⟨p', _⟩
    · rw [e, e']
    · exact absurd p p'
  · rcases h2 with ⟨_, p'⟩ | ⟨_, r', l', m'⟩
    · exact absurd p' p
    · exact lek_anti (m v' r'.1 r'.2 l') (m' v r.1 r.2 l)
theorem kE_S (hW : wOK W) {w : Nat} (hk : kK W s w ≠ 0) : kE W (kP (kS W s w (kK W s w))) (kO (kS W s w (kK W s w))) = kE W (kP s) (kO s) := by
  unfold kS
  by_cases e : kK W s w = 1
  · rw [if_pos e]
    show kE W (wO W w (wO W w (kP s))) (kO s) = _
    rw [wO_O hW (kK_in hk)]
  · rw [if_neg e]
    unfold kB
    cases ho : kO s with
    | nil => show kE W (kP s) (kO s) = _; rw [ho]
    | cons v os => rfl
theorem kE_R (hW : wOK W) {t : Nat → Int} {h : Nat} : ∀ i, kE W (kP (tR W t h i).1) (kO (tR W t h i).1) = h
  | 0 => rfl
  | i + 1 => by
    have ih := kE_R hW (t := t) (h := h) i
    show kE W (kP (tS W t i (tR W t h i)).1) (kO (tS W t i (tR W t h i)).1) = h
    unfold tS
    split
    · split
      · exact ih
      · next hk =>
        obtain ⟨k1, k2⟩ := kKi_nat hk
        rw [k2] at hk ⊢
        exact (kE_S hW hk).trans ih
    · exact ih
theorem zbit_ld {side : Int} {i : Nat} : ∀ k, k ≤ 12 → zbit (ldN W side k) i = (decide (i < k) && !(zbit side (wA W i) == zbit side (wB W i)))
  | 0, _ => by show zbit 0 i = _; rw [zbit_0]; simp
  | k + 1, hk => by
    have ih := zbit_ld (side := side) (i := i) k (by omega)
    unfold ldN
    by_cases e : i = k
    · subst e
      split
      · next h => rw [ih, h]; simp
      · next h =>
        rw [zbit_or, ih, zbit_sh1 i (by omega) i (by omega)]
        simp [h]
    · have e1 : decide (i < k + 1) = decide (i < k) := by
        by_cases q : i < k
        · rw [decide_eq_true q, decide_eq_true (by omega)]
        · rw [decide_eq_false q, decide_eq_false (by omega)]
      rw [e1, ← ih]
      split
      · rfl
      · rw [zbit_or]
        by_cases hi : i < 32
        · rw [zbit_sh1 k (by omega) i hi, decide_eq_false e, Bool.or_false]
        · rw [zbit_hi _ i (by omega), zbit_hi _ i (by omega)]; rfl
theorem lfo_le {side : Int} : ∀ (os : List Nat) (p m : Nat), lfo W side p os m ≤ m
  | [], _, _ => Nat.le_refl _
  | w :: os, p, m => by
    unfold lfo
    split
    · have := lfo_le (side := side) os (wO W w p) (if w < m then w else m)
      split at this <;> split <;> omega
    · exact Nat.le_refl _
theorem lfo_mem {side : Int} : ∀ (os : List Nat) (p m : Nat), lfo W side p os m = m ∨ lfo W side p os m ∈ os
  | [], _, _ => Or.inl rfl
  | w :: os, p, m => by
    unfold lfo
    split
    · rcases lfo_mem (side := side) os (wO W w p) (if w < m then w else m) with h | h
      · rw [h]
        split
        · exact Or.inr List.mem_cons_self
        · exact Or.inl rfl
      · exact Or.inr (List.mem_cons_of_mem _ h)
    · exact Or.inl rfl
theorem lfo_stop {side cut : Int} : ∀ (os : List Nat) (p m : Nat), zbit side p = true → zbit cut (lfo W side p os m) = true → lfo W side p os m = m ∨ ∀ q, chR W cut p os q → zbit side q = true
  | [], _, _, _, _ => Or.inl rfl
  | w :: os, p, m, hp, hc => by
    have e : lfo W side p (w :: os) m = lfo W side (wO W w p) os (if w < m then w else m) := by
      conv => lhs; unfold lfo
      rw [if_pos hp]
    rw [e] at hc ⊢
    have fin : lfo W side (wO W w p) os (if w < m then w else m) = (if w < m then w else m) → lfo W side (wO W w p) os (if w < m then w else m) = m ∨ ∀ q, chR W cut p (w :: os) q → zbit side q = true := by
      intro h
      rw [h] at hc ⊢
      by_cases q : w < m
      · rw [if_pos q] at hc
        exact Or.inr fun z hz => by have h2 := hz.1; rw [hc] at h2; cases h2
      · rw [if_neg q]; exact Or.inl rfl
    by_cases hs : zbit side (wO W w p) = true
    · rcases lfo_stop os (wO W w p) (if w < m then w else m) hs hc with h | h
      · exact fin h
      · refine Or.inr fun q hq => ?_
        rcases hq.2 with z | z
        · rw [← z]; exact hs
        · exact h q z
    · refine fin ?_
      cases os with
      | nil => rfl
      | cons v os => unfold lfo; rw [if_neg hs]
theorem lfo_low {side c : Int} : ∀ (os : List Nat) (p m : Nat), zbit side p = true → (∀ q, chR W c p os q → zbit side q = true) → ¬ zbit side (kE W p os) = true → ∃ w, w ∈ os ∧ zbit c w = true ∧ lfo W side p os m ≤ w
  | [], _, _, hp, _, hn => absurd hp hn
  | w :: os, p, m, hp, hr, hn => by
    have e : lfo W side p (w :: os) m = lfo W side (wO W w p) os (if w < m then w else m) := by
      conv => lhs; unfold lfo
      rw [if_pos hp]
    rw [e]
    by_cases hc : zbit c w = true
    · refine ⟨w, List.mem_cons_self, hc, ?_⟩
      have := lfo_le (W := W) (side := side) os (wO W w p) (if w < m then w else m)
      split at this <;> split <;> omega
    · have hcf : zbit c w = false := Bool.eq_false_iff.mpr hc
      obtain ⟨v, h1, h2, h3⟩ := lfo_low os (wO W w p) (if w < m then w else m) (hr _ ⟨hcf, Or.inl rfl⟩) (fun q hq => hr q ⟨hcf, Or.inr hq⟩) hn
      exact ⟨v, List.mem_cons_of_mem _ h1, h2, h3⟩
theorem zbit_cut (hW : wOK W) {side : Int} (hl : lfo W side (kP s) (kO s) 12 < 12) {i : Nat} (hi : i < 32) : zbit (cutS W s side) i = ((decide (i < wN W) && !(zbit side (wA W i) == zbit side (wB W i))) && !zbit (kG s) i || decide (i = lfo W side (kP s) (kO s) 12)) := by
  unfold cutS
  rw [zbit_or, zbit_and, zbit_ld _ hW.1, zbit_not _ _ hi, zbit_sh1 _ (by omega) i hi]
theorem lfo_12 (hW : wOK W) (hk : kOK W s) {side : Int} (hp : zbit side (kP s) = true) (hn : ¬ zbit side (kE W (kP s) (kO s)) = true) : lfo W side (kP s) (kO s) 12 < wN W ∧ lfo W side (kP s) (kO s) 12 ∈ kO s := by
  have hW1 := hW.1
  rcases lfo_mem (W := W) (side := side) (kO s) (kP s) 12 with h | h
  · cases ho : kO s with
    | nil => rw [ho] at hn; exact absurd hp hn
    | cons w os =>
      have hw := kC_lt hk.2.1 w (by rw [ho]; exact List.mem_cons_self)
      rw [ho] at h
      have h2 := lfo_le (W := W) (side := side) os (wO W w (kP s)) (if w < 12 then w else 12)
      have e : lfo W side (kP s) (w :: os) 12 = lfo W side (wO W w (kP s)) os (if w < 12 then w else 12) := by
        conv => lhs; unfold lfo
        rw [if_pos hp]
      rw [e, if_pos (show w < 12 by omega)] at h
      rw [if_pos (show w < 12 by omega)] at h2
      omega
  · exact ⟨kC_lt hk.2.1 _ h, h⟩
/-- a cut by a side loses -/
theorem cut_lo (hW : wOK W) (hk : kOK W s) {side : Int} (hp : zbit side (kP s) = true) (hn : ¬ zbit side (kE W (kP s) (kO s)) = true) : lo W s (kE W (kP s) (kO s)) (cutS W s side) ∧ (0 ≤ cutS W s side ∧ cutS W s side < ((2 ^ wN W : Nat) : Int)) := by
  have hW1 := hW.1
  obtain ⟨hl, hm⟩ := lfo_12 hW hk hp hn
  have hbit := fun (i : Nat) (hi : i < 32) => zbit_cut (s := s) hW (side := side) (by omega) hi
  constructor
  · intro h
    obtain ⟨j, hj⟩ := (sn_iff hW hk).mp h
    refine hn (ly_in (C := fun q => zbit side q = true) (fun q hq => ?_) (fun i hi hx => ?_) j _ hj)
    · rcases hq with e | e
      · rw [e]; exact hp
      · have hb : zbit (cutS W s side) (lfo W side (kP s) (kO s) 12) = true := by
          rw [hbit _ (by omega), decide_eq_true rfl, Bool.or_true]
        exact (lfo_stop (kO s) (kP s) 12 hp hb).elim (fun z => by omega) (fun z => z q e)
    · have h1 := hx.2
      rw [hbit i (by omega), hx.1, decide_eq_true hi] at h1
      have h2 : (zbit side (wA W i) == zbit side (wB W i)) = true := by
        cases hq : (zbit side (wA W i) == zbit side (wB W i)) with
        | true => rfl
        | false => rw [hq] at h1; simp at h1
      have h3 : zbit side (wA W i) = zbit side (wB W i) := eq_of_beq h2
      rw [h3]
  · have hlt : ∀ k, k < 32 → zbit (cutS W s side) k = true → k < wN W := by
      intro k hk h
      rw [hbit k hk] at h
      rcases Bool.or_eq_true_iff.mp h with h | h
      · exact of_decide_eq_true (Bool.and_eq_true_iff.mp (Bool.and_eq_true_iff.mp h).1).1
      · rw [of_decide_eq_true h]; exact hl
    obtain ⟨r1, r2⟩ := rng12 (x := cutS W s side) (z32_zb _ _ _) (fun k hk h => by have := hlt k hk h; omega)
    refine ⟨r1, ?_⟩
    obtain ⟨n, hn2⟩ : ∃ n : Nat, cutS W s side = (n : Int) := ⟨(cutS W s side).toNat, by omega⟩
    rw [hn2] at r2 hlt ⊢
    have : n < 2 ^ wN W := Nat.lt_pow_two_of_testBit n (fun i hi => by
      by_cases h32 : i < 32
      · rw [← zbit_nat h32]
        cases hb : zbit (n : Int) i with
        | false => rfl
        | true => have := hlt i h32 hb; omega
      · refine Nat.testBit_lt_two_pow ?_
        have : 2 ^ 12 ≤ 2 ^ i := Nat.pow_le_pow_right (by decide) (by omega)
        omega)
    omega
/-- a cut that loses is no better than that of the side one is held on -/
theorem cut_le (hW : wOK W) (hk : kOK W s) {c : Int} (h0 : 0 ≤ c) (h1 : c < 4096) (hlo : lo W s (kE W (kP s) (kO s)) c) (hh : kE W (kP s) (kO s) < 8) :
    zbit (rc (sn W s c)) (kP s) = true ∧ ¬ zbit (rc (sn W s c)) (kE W (kP s) (kO s)) = true ∧ lek (cutS W s (rc (sn W s c))) c := by
  have hW1 := hW.1
  have hb : ∀ q, q < 8 → (zbit (rc (sn W s c)) q = true ↔ ∃ j, rL W s c j q) := fun q hq => by
    rw [zbit_rc hq, decide_eq_true_iff, sn_iff hW hk]
  have hp : zbit (rc (sn W s c)) (kP s) = true := (hb _ hk.1).mpr ⟨0, Or.inl rfl⟩
  have hn : ¬ zbit (rc (sn W s c)) (kE W (kP s) (kO s)) = true := by
    rw [zbit_rc hh, decide_eq_true_iff]; exact hlo
  refine ⟨hp, hn, ?_⟩
  obtain ⟨hl, hm⟩ := lfo_12 hW hk hp hn
  have hch : ∀ (os : List Nat) (p : Nat), kC W p os → ∀ q, chR W c p os q → q < 8 := by
    intro os
    induction os with
    | nil => intro p _ q h; exact h.elim
    | cons w os ih =>
      intro p hk q h
      rcases h.2 with h | h
      · rw [← h]; exact wO_lt hW (wI_iff.mp hk.1).1
      · exact ih _ hk.2 q h
  obtain ⟨wj, j1, j2, j3⟩ := lfo_low (W := W) (c := c) (kO s) (kP s) 12 hp (fun q hq => (hb q (hch _ _ hk.2.1 q hq)).mpr ⟨0, Or.inr hq⟩) hn
  have hwj := kC_lt hk.2.1 wj j1
  -- the ways not gone that lead out
  let f : Nat → Bool := fun i => (decide (i < wN W) && !(zbit (rc (sn W s c)) (wA W i) == zbit (rc (sn W s c)) (wB W i))) && !zbit (kG s) i
  have hf : ∀ i, i ∈ kO s → f i = false := fun i hi => by
    show (_ && !zbit (kG s) i) = false
    rw [hk.2.2.2.1 i hi]; simp
  have hcut : ∀ i, i < 12 → zbit (cutS W s (rc (sn W s c))) i = (f i || decide (i = lfo W (rc (sn W s c)) (kP s) (kO s) 12)) := fun i hi => zbit_cut hW (by omega) (by omega)
  have hsub : ∀ i, i < 12 → (f i || decide (i = wj)) = true → zbit c i = true := by
    intro i hi h
    rcases Bool.or_eq_true_iff.mp h with h | h
    · have h2 := Bool.and_eq_true_iff.mp h
      have h3 := Bool.and_eq_true_iff.mp h2.1
      have hin : i < wN W := of_decide_eq_true h3.1
      have hg : zbit (kG s) i = false := by simpa using h2.2
      cases hci : zbit c i with
      | true => rfl
      | false =>
        have hm := hW.2 i hin
        have e : zbit (rc (sn W s c)) (wA W i) = zbit (rc (sn W s c)) (wB W i) := by
          have : (zbit (rc (sn W s c)) (wA W i) = true) ↔ (zbit (rc (sn W s c)) (wB W i) = true) := by
            rw [hb _ hm.1, hb _ hm.2.1]
            exact ⟨fun ⟨j, hj⟩ => ⟨j + 1, Or.inr ⟨i, hin, ⟨hg, hci⟩, Or.inr ⟨rfl, hj⟩⟩⟩, fun ⟨j, hj⟩ => ⟨j + 1, Or.inr ⟨i, hin, ⟨hg, hci⟩, Or.inl ⟨rfl, hj⟩⟩⟩⟩
          exact Bool.eq_iff_iff.mpr this
        rw [e] at h3
        simp at h3
    · rw [of_decide_eq_true h]; exact j2
  have o1 : ones (cutS W s (rc (sn W s c))) = bs (fun _ => 1) f 12 + 1 := by
    unfold ones
    rw [bs_cg hcut]
    exact bs_add (g := fun _ => 1) (hf _ hm) (by omega)
  have o2 : bs (fun _ => 1) (fun i => f i || decide (i = wj)) 12 = bs (fun _ => 1) f 12 + 1 := bs_add (g := fun _ => 1) (hf _ j1) (by omega)
  have o3 : bs (fun _ => 1) (fun i => f i || decide (i = wj)) 12 ≤ ones c := bs_mono hsub
  unfold lek
  by_cases e : ones (cutS W s (rc (sn W s c))) = ones c
  · refine Or.inr ⟨e, ?_⟩
    have e2 := bs_eq hsub (by rw [o2, ← o1, e]; rfl)
    have v1 := val_bs h0 h1
    obtain ⟨r1, r2⟩ := (cut_lo hW hk hp hn).2
    have h12 : ((2 ^ wN W : Nat) : Int) ≤ 4096 := by
      have : 2 ^ wN W ≤ 2 ^ 12 := Nat.pow_le_pow_right (by decide) hW1
      omega
    have v2 := val_bs r1 (by omega)
    rw [bs_cg hcut, bs_add (g := fun i => 2 ^ i) (hf _ hm) (by omega)] at v2
    rw [← bs_cg e2, bs_add (g := fun i => 2 ^ i) (hf _ j1) (by omega)] at v1
    have : 2 ^ lfo W (rc (sn W s c)) (kP s) (kO s) 12 ≤ 2 ^ wj := Nat.pow_le_pow_right (by decide) j3
    rw [v2]
    refine Int.le_trans (Int.ofNat_le.mpr ?_) (Int.le_of_eq v1.symm)
    omega
  · exact Or.inl (by omega)
end ZTHREAD

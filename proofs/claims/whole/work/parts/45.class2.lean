/-! What the class's calls answer of walks -/
section ZCLASS2
variable {A : ZA} {C : ZC}
theorem c_judged (h : RC A C) {k : Int} : zH (c_N_judged k C) (QC C (s_of A k fun j => (aR A j).2.2.2) A) := by
  unfold c_N_judged s_of
  rw [e_within, zbd_some]
  by_cases h1 : 0 ≤ k ∧ k < 4
  · rw [if_pos h1, if_neg (by decide), zg_t h1, if_pos h1, (h.2.2 k.toNat (by omega)).1.1.2.2.2]
    exact zH_some (QC_same h)
  · rw [if_neg h1, if_pos rfl, if_neg h1]
    exact zH_some (QC_same h)
theorem c_place (h : RC A C) {k : Int} : zH (c_N_place k C) (QC C (s_of A k fun j => (kP (aK A j) : Int)) A) := by
  unfold c_N_place s_of
  rw [e_within, zbd_some]
  by_cases h1 : 0 ≤ k ∧ k < 4
  · rw [if_pos h1, if_neg (by decide), zg_t h1, if_pos h1, (h.2.2 k.toNat (by omega)).1.1.1.1]
    exact zH_some (QC_same h)
  · rw [if_neg h1, if_pos rfl, if_neg h1]
    exact zH_some (QC_same h)
theorem c_gone (h : RC A C) {k : Int} : zH (c_N_gone k C) (QC C (s_of A k fun j => kG (aK A j)) A) := by
  unfold c_N_gone s_of
  rw [e_within, zbd_some]
  by_cases h1 : 0 ≤ k ∧ k < 4
  · rw [if_pos h1, if_neg (by decide), zg_t h1, if_pos h1, (h.2.2 k.toNat (by omega)).1.1.1.2.2.1]
    exact zH_some (QC_same h)
  · rw [if_neg h1, if_pos rfl, if_neg h1]
    exact zH_some (QC_same h)
theorem c_spent (h : RC A C) {k : Int} : zH (c_N_spent k C) (QC C (s_of A k fun j => (aR A j).2.1) A) := by
  unfold c_N_spent s_of
  rw [e_within, zbd_some]
  by_cases h1 : 0 ≤ k ∧ k < 4
  · rw [if_pos h1, if_neg (by decide), zg_t h1, if_pos h1, (h.2.2 k.toNat (by omega)).1.1.2.1]
    exact zH_some (QC_same h)
  · rw [if_neg h1, if_pos rfl, if_neg h1]
    exact zH_some (QC_same h)
/-- how soon a walker comes to the places -/
def aSn (A : ZA) (k : Nat) : ZRw := sn (aW A) (aK A k) 0
theorem c_still (h : RC A C) {k : Int} : zH (c_N_still k C) (QC C (s_of A k fun j => rc (aSn A j)) A) := by
  unfold c_N_still s_of
  rw [e_within, zbd_some]
  by_cases h1 : 0 ≤ k ∧ k < 4
  · rw [if_pos h1, if_neg (by decide), zg_t h1, if_pos h1, (h.2.2 k.toNat (by omega)).1.2.2]
    exact zH_some (QC_same h)
  · rw [if_neg h1, if_pos rfl, if_neg h1]
    exact zH_some (QC_same h)
theorem c_never (h : RC A C) {k : Int} : zH (c_N_never k C) (QC C (s_of A k fun j => zand (aR A j).2.2.1 (zxor (rc (aSn A j)) (-1))) A) := by
  unfold c_N_never s_of
  rw [e_within, zbd_some]
  by_cases h1 : 0 ≤ k ∧ k < 4
  · rw [if_pos h1, if_neg (by decide), zg_t h1, zg_t h1, if_pos h1, (h.2.2 k.toNat (by omega)).1.2.2, (h.2.2 k.toNat (by omega)).1.1.2.2.1]
    exact zH_some (QC_same h)
  · rw [if_neg h1, if_pos rfl, if_neg h1]
    exact zH_some (QC_same h)
def og : List Nat → Nat → Int
  | [], _ => -1
  | w :: os, i => if i = os.length then (w : Int) else og os i
theorem og_RL {row : Nat → Int} : ∀ {os : List Nat}, RL row os → ∀ i, i < os.length → row i = og os i
  | [], _, i, hi => absurd hi (Nat.not_lt_zero _)
  | w :: os, h, i, hi => by
    have hi2 : i < os.length + 1 := hi
    unfold og
    by_cases e : i = os.length
    · rw [if_pos e, e]; exact h.1
    · rw [if_neg e]; exact og_RL h.2 i (by omega)
def s_open (A : ZA) (k i : Int) : Int := if (0 ≤ k ∧ k < 4) ∧ -1 ≤ i then (if i = -1 then ((kO (aK A k.toNat)).length : Int) else if i < ((kO (aK A k.toNat)).length : Int) then og (kO (aK A k.toNat)) i.toNat else -1) else -2
theorem c_open (hA : aOK A) (h : RC A C) {k i : Int} : zH (c_N_open k i C) (QC C (s_open A k i) A) := by
  unfold c_N_open
  rw [e_within, zbd_some]
  by_cases h1 : 0 ≤ k ∧ k < 4
  · rw [if_pos h1, if_neg (by decide)]
    by_cases h2 : -1 ≤ i
    · have hr := (h.2.2 k.toNat (by omega)).1.1.1
      have hk := kOK_len (aK_OK hA (show k.toNat < 4 by omega))
      have hW := (aW_OK (A := A)).1
      have e6 : C (56 + 4 * k.toNat) 6 = ((kO (aK A k.toNat)).length : Int) := hr.2.1
      have hs : s_open A k i = (if i = -1 then ((kO (aK A k.toNat)).length : Int) else if i < ((kO (aK A k.toNat)).length : Int) then og (kO (aK A k.toNat)) i.toNat else -1) := if_pos ⟨h1, h2⟩
      rw [if_pos h2, zg_t h1, e6]
      by_cases e : i = -1
      · rw [if_neg (fun q => q e), hs, if_pos e]
        exact zH_some (QC_same h)
      · rw [if_pos e, hs, if_neg e]
        by_cases h3 : i < ((kO (aK A k.toNat)).length : Int)
        · rw [if_neg (by omega), if_pos h3, zg_t (by omega), og_RL (show RL (C (56 + 4 * k.toNat + 1)) (kO (aK A k.toNat)) from hr.2.2.2.1) i.toNat (by omega)]
          exact zH_some (QC_same h)
        · rw [if_pos (by omega), if_neg h3]
          exact zH_some (QC_same h)
    · rw [if_neg h2, show s_open A k i = -2 from if_neg fun q => h2 q.2]
      exact zH_some (QC_same h)
  · rw [if_neg h1, if_pos rfl, show s_open A k i = -2 from if_neg fun q => h1 q.1]
    exact zH_some (QC_same h)
def s_may (A : ZA) (k w : Int) : Int := if (0 ≤ k ∧ k < 4) ∧ 0 ≤ w ∧ w < (wN (aW A) : Int) then (kK (aW A) (aK A k.toNat) w.toNat : Int) else -2
theorem c_may (hA : aOK A) (h : RC A C) {k w : Int} : zH (c_N_may k w C) (QC C (s_may A k w) A) := by
  unfold c_N_may
  rw [e_within, zbd_some]
  by_cases h1 : 0 ≤ k ∧ k < 4
  · rw [if_pos h1, if_neg (by decide), e_within, zbd_some, h.2.1.2.1]
    by_cases h2 : 0 ≤ w ∧ w < (wN (aW A) : Int)
    · rw [if_pos h2, if_pos (by decide), zg_t h1, e_kindOf aW_OK h.2.1.2 (aK_OK hA (show k.toNat < 4 by omega)) (h.2.2 k.toNat (by omega)).1.1.1, zbd_some, show s_may A k w = (kK (aW A) (aK A k.toNat) w.toNat : Int) from if_pos ⟨h1, h2⟩]
      have e : kKi (aW A) (aK A k.toNat) w = kK (aW A) (aK A k.toNat) w.toNat := if_pos h2.1
      rw [e]
      exact zH_some (QC_same h)
    · rw [if_neg h2, if_neg (by decide), show s_may A k w = -2 from if_neg fun q => h2 q.2]
      exact zH_some (QC_same h)
  · rw [if_neg h1, if_pos rfl, show s_may A k w = -2 from if_neg fun q => h1 q.1]
    exact zH_some (QC_same h)
def s_soon (A : ZA) (k p : Int) : Int := if (0 ≤ k ∧ k < 4) ∧ 0 ≤ p ∧ p < 8 then snT (aSn A k.toNat) p.toNat else -2
theorem e_soonA (hA : aOK A) (h : RC A C) {k p : Nat} (hk : k < 4) (hp : p < 8) : c_Walk_soonTo (56 + 4 * k) (p : Int) C = some (snT (aSn A k) p, C) := e_soonTo aW_OK (aK_OK hA hk) (h.2.2 k hk).1.2.1 hp
theorem c_soon (hA : aOK A) (h : RC A C) {k p : Int} : zH (c_N_soon k p C) (QC C (s_soon A k p) A) := by
  unfold c_N_soon
  rw [e_within, zbd_some]
  by_cases h1 : 0 ≤ k ∧ k < 4
  · rw [if_pos h1, if_neg (by decide), e_within, zbd_some]
    by_cases h2 : 0 ≤ p ∧ p < 8
    · obtain ⟨q, rfl⟩ : ∃ q : Nat, p = (q : Int) := ⟨p.toNat, by omega⟩
      rw [if_pos h2, if_pos (by decide), zg_t h1, e_soonA hA h (show k.toNat < 4 by omega) (show q < 8 by omega), zbd_some, show s_soon A k (q : Int) = snT (aSn A k.toNat) q from if_pos ⟨h1, h2⟩]
      exact zH_some (QC_same h)
    · rw [if_neg h2, if_neg (by decide), show s_soon A k p = -2 from if_neg fun q => h2 q.2]
      exact zH_some (QC_same h)
  · rw [if_neg h1, if_pos rfl, show s_soon A k p = -2 from if_neg fun q => h1 q.1]
    exact zH_some (QC_same h)
/-- the spare walk (cells 14 to 17) becomes like a walker's -/
theorem h_spare (hA : aOK A) (h : RC A C) {k : Nat} (hk : k < 4) : ∃ C', c_Walk_become 14 (56 + 4 * k) C = some (0, C') ∧ RWk (aW A) (aK A k) 14 C' ∧ (∀ a, a ≠ 14 → a ≠ 15 → a ≠ 16 → C' a = C a) ∧ C' 14 4 = (aH A k : Int) ∧ RC A C' ∧ Frc C C' := by
  obtain ⟨C1, e1, t1, t2, t3⟩ := h_become aW_OK (aK_OK hA hk) (c := 14) (c1 := 56 + 4 * k) (by omega) (h.2.2 k hk).1.1.1
  refine ⟨C1, e1, t1, t2, t3.trans (h.2.2 k hk).2, RC_fr (fun a ha h0 h7 => ?_) h, fun a ha => t2 a (by omega) (by omega) (by omega)⟩
  unfold scr at ha
  exact t2 a (by omega) (by omega) (by omega)
theorem RC_14 {C' : ZC} (h : RC A C) (hf : ∀ a, a ≠ 14 → a ≠ 15 → a ≠ 16 → a ≠ 17 → C' a = C a) : RC A C' ∧ Frc C C' := by
  refine ⟨RC_fr (fun a ha h0 h7 => ?_) h, fun a ha => hf a (by omega) (by omega) (by omega) (by omega)⟩
  unfold scr at ha
  exact hf a (by omega) (by omega) (by omega) (by omega)
def s_keeps (A : ZA) (k w ps : Int) : Int := if (0 ≤ k ∧ k < 4) ∧ (0 ≤ w ∧ w < (wN (aW A) : Int)) ∧ 0 ≤ ps ∧ ps < 256 then (if kK (aW A) (aK A k.toNat) w.toNat = 0 then -3 else if zand ps (zxor (rc (sn (aW A) (kS (aW A) (aK A k.toNat) w.toNat (kK (aW A) (aK A k.toNat) w.toNat)) 0)) (-1)) = 0 then 1 else 0) else -2
theorem c_keeps (hA : aOK A) (h : RC A C) {k w ps : Int} : zH (c_N_keeps k w ps C) (QC C (s_keeps A k w ps) A) := by
  unfold c_N_keeps
  rw [e_within, zbd_some]
  by_cases h1 : 0 ≤ k ∧ k < 4
  · rw [if_pos h1, if_neg (by decide), e_within, zbd_some, h.2.1.2.1]
    by_cases h2 : 0 ≤ w ∧ w < (wN (aW A) : Int)
    · rw [if_pos h2, if_neg (by decide), e_within, zbd_some]
      by_cases h3 : 0 ≤ ps ∧ ps < 256
      · obtain ⟨j, rfl⟩ : ∃ j : Nat, k = (j : Int) := ⟨k.toNat, by omega⟩
        obtain ⟨v, rfl⟩ : ∃ v : Nat, w = (v : Int) := ⟨w.toNat, by omega⟩
        have hj : j < 4 := by omega
        have hk := aK_OK hA hj
        have hs : s_keeps A (j : Int) (v : Int) ps = (if kK (aW A) (aK A j) v = 0 then -3 else if zand ps (zxor (rc (sn (aW A) (kS (aW A) (aK A j) v (kK (aW A) (aK A j) v)) 0)) (-1)) = 0 then 1 else 0) := if_pos ⟨h1, h2, h3⟩
        rw [hs, if_pos h3, if_pos (by decide), zg_t h1, Int.toNat_natCast]
        obtain ⟨C1, e1, t1, t2, t3, t5, t6⟩ := h_spare hA h hj
        have hR1 := t5.2.1.2
        rw [e1, zbd_some, e_kindOf aW_OK hR1 hk t1, zbd_some]
        have e : kKi (aW A) (aK A j) (v : Int) = kK (aW A) (aK A j) v := if_pos h2.1
        rw [e]
        by_cases h4 : kK (aW A) (aK A j) v = 0
        · rw [h4, if_neg (by decide), if_pos rfl]
          exact zH_some ⟨rfl, t5, t6⟩
        · rw [if_pos (by omega), if_neg h4]
          obtain ⟨C2, e2, u1, u2, u3, u4, u5, u6, u7⟩ := h_stepZ aW_OK hR1 (by decide) hk t1 (w := v) rfl h4
          rw [e2, zbd_some]
          have hR2 : RWd (aW A) C2 := by
            unfold RWd
            rw [u2 9 (by decide) (by decide) (by decide), u2 10 (by decide) (by decide) (by decide), u2 11 (by decide) (by decide) (by decide), u2 12 (by decide) (by decide) (by decide)]
            exact hR1
          refine zH_bd2 (h_look (cut := 0) aW_OK hR2 (by decide) (kOK_S aW_OK hk h4) u1) (fun _ C3 h5 => ?_)
          obtain ⟨v1, v2, v3, v4⟩ := h5
          have hfin := RC_14 h (C' := C3) (fun a a1 a2 a3 a4 => ((v3 a a1 a4).trans (u2 a a1 a2 a3)).trans (t2 a a1 a2 a3))
          rw [v2]
          by_cases h6 : zand ps (zxor (rc (sn (aW A) (kS (aW A) (aK A j) v (kK (aW A) (aK A j) v)) 0)) (-1)) = 0
          · rw [if_neg (fun q => q h6), if_pos h6]
            exact zH_some ⟨rfl, hfin⟩
          · rw [if_pos h6, if_neg h6]
            exact zH_some ⟨rfl, hfin⟩
      · rw [if_neg h3, if_neg (by decide), show s_keeps A k w ps = -2 from if_neg fun q => h3 q.2.2]
        exact zH_some (QC_same h)
    · rw [if_neg h2, if_pos rfl, show s_keeps A k w ps = -2 from if_neg fun q => h2 q.2.1]
      exact zH_some (QC_same h)
  · rw [if_neg h1, if_pos rfl, show s_keeps A k w ps = -2 from if_neg fun q => h1 q.1]
    exact zH_some (QC_same h)
theorem e_areTwo {a b : Int} : c_N_areTwo a b C = some ((if (0 ≤ a ∧ a < 4) ∧ (0 ≤ b ∧ b < 4) ∧ a ≠ b then 1 else 0), C) := by
  unfold c_N_areTwo
  rw [e_within, zbd_some]
  by_cases h1 : 0 ≤ a ∧ a < 4
  · rw [if_pos h1, if_neg (by decide), e_within, zbd_some]
    by_cases h2 : 0 ≤ b ∧ b < 4
    · rw [if_pos h2, if_neg (by decide)]
      by_cases h3 : a = b
      · rw [if_pos h3, if_neg (fun q => q.2.2 h3)]
      · rw [if_neg h3, if_pos ⟨h1, h2, h3⟩]
    · rw [if_neg h2, if_pos rfl, if_neg (fun q => h2 q.2.1)]
  · rw [if_neg h1, if_pos rfl, if_neg (fun q => h1 q.1)]
/-- the meeting: places gone through one by one -/
def mtN (r1 r2 : ZRw) : Nat → Int × Int
  | 0 => (-1, -1)
  | p + 1 => if (r1 p < 1000000 ∧ r2 p < 1000000) ∧ ((mtN r1 r2 p).1 = -1 ∨ ((if r1 p < r2 p then r2 p else r1 p : Nat) : Int) < (mtN r1 r2 p).2) then ((p : Int), ((if r1 p < r2 p then r2 p else r1 p : Nat) : Int)) else mtN r1 r2 p
def s_meeting (A : ZA) (a b x : Int) : Int := if ((0 ≤ a ∧ a < 4) ∧ (0 ≤ b ∧ b < 4) ∧ a ≠ b) ∧ 0 ≤ x ∧ x < 2 then (if x = 0 then (mtN (aSn A a.toNat) (aSn A b.toNat) 8).1 else (mtN (aSn A a.toNat) (aSn A b.toNat) 8).2) else -2
theorem c_meeting (hA : aOK A) (h : RC A C) {a b x : Int} : zH (c_N_meeting a b x C) (QC C (s_meeting A a b x) A) := by
  unfold c_N_meeting
  rw [e_areTwo, zbd_some]
  by_cases h1 : (0 ≤ a ∧ a < 4) ∧ (0 ≤ b ∧ b < 4) ∧ a ≠ b
  · rw [if_pos h1, if_neg (by decide), e_within, zbd_some]
    by_cases h2 : 0 ≤ x ∧ x < 2
    · have hs : s_meeting A a b x = (if x = 0 then (mtN (aSn A a.toNat) (aSn A b.toNat) 8).1 else (mtN (aSn A a.toNat) (aSn A b.toNat) 8).2) := if_pos ⟨h1, h2⟩
      rw [if_pos h2, if_pos (by decide), hs]
      refine zH_bd2 (P := fun y C' => y = mtN (aSn A a.toNat) (aSn A b.toNat) 8 ∧ C' = C) ?_ (fun y C' h3 => ?_)
      · refine zH_for (fun i y C' => y = ((mtN (aSn A a.toNat) (aSn A b.toNat) i).1, (mtN (aSn A a.toNat) (aSn A b.toNat) i).2, (i : Int)) ∧ C' = C) 8 0 (by decide) ⟨rfl, rfl⟩ ?_ ?_
        · rintro i y C' hi ⟨rfl, rfl⟩
          unfold c_N_meeting_L28
          dsimp only
          rw [if_neg (by omega), zg_t h1.1, e_soonA hA h (show a.toNat < 4 by omega) hi, zbd_some, zg_t h1.2.1, e_soonA hA h (show b.toNat < 4 by omega) hi, zbd_some]
          have e : mtN (aSn A a.toNat) (aSn A b.toNat) (i + 1) = if (aSn A a.toNat i < 1000000 ∧ aSn A b.toNat i < 1000000) ∧ ((mtN (aSn A a.toNat) (aSn A b.toNat) i).1 = -1 ∨ ((if aSn A a.toNat i < aSn A b.toNat i then aSn A b.toNat i else aSn A a.toNat i : Nat) : Int) < (mtN (aSn A a.toNat) (aSn A b.toNat) i).2) then ((i : Int), ((if aSn A a.toNat i < aSn A b.toNat i then aSn A b.toNat i else aSn A a.toNat i : Nat) : Int)) else mtN (aSn A a.toNat) (aSn A b.toNat) i := rfl
          unfold snT
          by_cases h3 : aSn A a.toNat i < 1000000
          · rw [if_pos h3, if_neg (by omega)]
            by_cases h4 : aSn A b.toNat i < 1000000
            · rw [if_pos h4, if_neg (by omega)]
              have em : (if (aSn A a.toNat i : Int) < (aSn A b.toNat i : Int) then (aSn A b.toNat i : Int) else (aSn A a.toNat i : Int)) = ((if aSn A a.toNat i < aSn A b.toNat i then aSn A b.toNat i else aSn A a.toNat i : Nat) : Int) := by
                split <;> split <;> omega
              rw [em]
              by_cases h5 : (mtN (aSn A a.toNat) (aSn A b.toNat) i).1 = -1
              · rw [if_pos h5]
                rw [if_pos ⟨⟨h3, h4⟩, Or.inl h5⟩] at e
                rw [e]
                exact zH_some ⟨by rw [zinN (by omega)], rfl⟩
              · rw [if_neg h5]
                by_cases h6 : ((if aSn A a.toNat i < aSn A b.toNat i then aSn A b.toNat i else aSn A a.toNat i : Nat) : Int) < (mtN (aSn A a.toNat) (aSn A b.toNat) i).2
                · rw [if_neg (by omega)]
                  rw [if_pos ⟨⟨h3, h4⟩, Or.inr h6⟩] at e
                  rw [e]
                  exact zH_some ⟨by rw [zinN (by omega)], rfl⟩
                · rw [if_pos (by omega)]
                  rw [if_neg (fun q => q.2.elim h5 h6)] at e
                  rw [e]
                  exact zH_some ⟨by rw [zinN (by omega)], rfl⟩
            · rw [if_neg h4, if_pos rfl]
              rw [if_neg (fun q => h4 q.1.2)] at e
              rw [e]
              exact zH_some ⟨by rw [zinN (by omega)], rfl⟩
          · rw [if_neg h3, if_pos rfl]
            rw [if_neg (fun q => h3 q.1.1)] at e
            rw [e]
            exact zH_some ⟨by rw [zinN (by omega)], rfl⟩
        · rintro y C' ⟨rfl, rfl⟩
          unfold c_N_meeting_L28
          dsimp only
          rw [if_pos (by omega)]
          exact zH_some ⟨rfl, rfl⟩
      · obtain ⟨rfl, rfl⟩ := h3
        by_cases e : x = 0
        · rw [if_neg (fun q => q e), if_pos e]
          exact zH_some (QC_same h)
        · rw [if_pos e, if_neg e]
          exact zH_some (QC_same h)
    · rw [if_neg h2, if_neg (by decide), show s_meeting A a b x = -2 from if_neg fun q => h2 q.2]
      exact zH_some (QC_same h)
  · rw [if_neg h1, if_pos rfl, show s_meeting A a b x = -2 from if_neg fun q => h1 q.1]
    exact zH_some (QC_same h)
/-- who stands as one does, with more gone -/
def kA (s : ZWk) (g : Int) : ZWk := (kP s, kO s, zor (kG s) g)
theorem kOK_A {W : ZWd} {s s' : ZWk} (h : kOK W s) (h' : kOK W s') : kOK W (kA s (kG s')) := by
  refine ⟨h.1, h.2.1, h.2.2.1, fun w hw => ?_, z32_zb _ _ _, fun k hk => ?_⟩
  · show zbit (zor (kG s) (kG s')) w = true
    rw [zbit_or, h.2.2.2.1 w hw]; rfl
  · have hk : zbit (zor (kG s) (kG s')) k = true := hk
    rw [zbit_or] at hk
    rcases Bool.or_eq_true_iff.mp hk with q | q
    · exact h.2.2.2.2.2 k q
    · exact h'.2.2.2.2.2 k q
def s_lent (A : ZA) (a b : Int) : Int := if (0 ≤ a ∧ a < 4) ∧ (0 ≤ b ∧ b < 4) ∧ a ≠ b then rc (sn (aW A) (kA (aK A b.toNat) (kG (aK A a.toNat))) 0) else -2
theorem c_lent (hA : aOK A) (h : RC A C) {a b : Int} : zH (c_N_lent a b C) (QC C (s_lent A a b) A) := by
  unfold c_N_lent
  rw [e_areTwo, zbd_some]
  by_cases h1 : (0 ≤ a ∧ a < 4) ∧ (0 ≤ b ∧ b < 4) ∧ a ≠ b
  · have hs : s_lent A a b = rc (sn (aW A) (kA (aK A b.toNat) (kG (aK A a.toNat))) 0) := if_pos h1
    have ha : a.toNat < 4 := by omega
    have hb : b.toNat < 4 := by omega
    rw [if_pos h1, if_pos (by decide), zg_t h1.2.1, hs]
    obtain ⟨C1, e1, t1, t2, t3, t5, t6⟩ := h_spare hA h hb
    have e7 : C1 (56 + 4 * a.toNat) 7 = kG (aK A a.toNat) := (t5.2.2 a.toNat ha).1.1.1.2.2.1
    rw [e1, zbd_some, zg_t h1.1, e7, t1.2.2.1]
    have hR : RWd (aW A) (zup2 C1 14 7 (zor (kG (aK A b.toNat)) (kG (aK A a.toNat)))) := by
      unfold RWd
      rw [zu_nb (by decide), zu_nb (by decide), zu_nb (by decide), zu_nb (by decide)]
      exact t5.2.1.2
    refine zH_bd2 (h_look (cut := 0) (s := kA (aK A b.toNat) (kG (aK A a.toNat))) aW_OK hR (by decide) (kOK_A (aK_OK hA hb) (aK_OK hA ha)) ⟨(zu_nj (by decide)).trans t1.1, (zu_nj (by decide)).trans t1.2.1, zu_eq, by rw [zu_nb (by decide)]; exact t1.2.2.2.1, by rw [zu_nb (by decide)]; exact t1.2.2.2.2⟩) (fun _ C2 h2 => ?_)
    obtain ⟨v1, v2, v3, v4⟩ := h2
    refine zH_some ⟨v2, RC_14 h (fun a a1 a2 a3 a4 => ((v3 a a1 a4).trans (zu_nb a1)).trans (t2 a a1 a2 a3))⟩
  · rw [if_neg h1, if_neg (by decide), show s_lent A a b = -2 from if_neg h1]
    exact zH_some (QC_same h)
theorem zshl_n {n : Nat} (hn : n ≤ 12) : zshl 1 (n : Int) = ((2 ^ n : Nat) : Int) := by
  have e : ∀ n : Fin 13, zshl 1 ((n.val : Nat) : Int) = ((2 ^ n.val : Nat) : Int) := by decide +kernel
  exact e ⟨n, by omega⟩
theorem zbit_rcN {r : ZRw} {p : Nat} : ∀ n, n ≤ 8 → zbit (rcN r n) p = (decide (p < n) && decide (r p < 1000000))
  | 0, _ => by show zbit 0 p = _; rw [zbit_0]; simp
  | n + 1, hn => by
    show zbit (zor (rcN r n) _) p = _
    rw [zbit_or, zbit_rcN n (by omega)]
    by_cases e : p = n
    · subst e
      by_cases h : r p < 1000000
      · rw [if_pos h, zbit_sh1 p (by omega) p (by omega)]; simp [h]
      · rw [if_neg h, zbit_0]; simp [h]
    · have e1 : decide (p < n + 1) = decide (p < n) := by
        by_cases q : p < n
        · rw [decide_eq_true q, decide_eq_true (by omega)]
        · rw [decide_eq_false q, decide_eq_false (by omega)]
      rw [e1]
      by_cases h : r n < 1000000
      · rw [if_pos h]
        by_cases hp : p < 32
        · rw [zbit_sh1 n (by omega) p hp]; simp [e]
        · rw [zbit_hi _ p (by omega)]; simp
      · rw [if_neg h, zbit_0]; simp
theorem zbit_rc {r : ZRw} {p : Nat} (hp : p < 8) : zbit (rc r) p = decide (r p < 1000000) := by
  unfold rc
  rw [zbit_rcN 8 (Nat.le_refl _), decide_eq_true hp, Bool.true_and]
def s_lost (A : ZA) (k ws : Int) : Int := if (0 ≤ k ∧ k < 4) ∧ 0 ≤ ws ∧ ws < ((2 ^ wN (aW A) : Nat) : Int) then (if sn (aW A) (aK A k.toNat) ws (aH A k.toNat) < 1000000 then 0 else 1) else -2
theorem c_lost (hA : aOK A) (h : RC A C) {k ws : Int} : zH (c_N_lost k ws C) (QC C (s_lost A k ws) A) := by
  have hW := (aW_OK (A := A)).1
  unfold c_N_lost
  rw [e_within, zbd_some]
  by_cases h1 : 0 ≤ k ∧ k < 4
  · rw [if_pos h1, if_neg (by decide), e_within, zbd_some, h.2.1.2.1, zshl_n hW]
    by_cases h2 : 0 ≤ ws ∧ ws < ((2 ^ wN (aW A) : Nat) : Int)
    · have hs : s_lost A k ws = (if sn (aW A) (aK A k.toNat) ws (aH A k.toNat) < 1000000 then 0 else 1) := if_pos ⟨h1, h2⟩
      have hk : k.toNat < 4 := by omega
      rw [if_pos h2, if_pos (by decide), zg_t h1, hs]
      obtain ⟨C1, e1, t1, t2, t3, t5, t6⟩ := h_spare hA h hk
      rw [e1, zbd_some]
      refine zH_bd2 (h_look (cut := ws) aW_OK t5.2.1.2 (by decide) (aK_OK hA hk) t1) (fun _ C2 h3 => ?_)
      obtain ⟨v1, v2, v3, v4⟩ := h3
      have hfin := RC_14 h (C' := C2) (fun a a1 a2 a3 a4 => (v3 a a1 a4).trans (t2 a a1 a2 a3))
      have hh := hA.2.1 k.toNat hk
      rw [v2, v4 4 (by decide), t3, e_has (by omega), zbd_some, zbit_rc hh]
      by_cases h4 : sn (aW A) (aK A k.toNat) ws (aH A k.toNat) < 1000000
      · rw [decide_eq_true h4, if_pos rfl, if_neg (by decide), if_pos h4]
        exact zH_some ⟨rfl, hfin⟩
      · rw [decide_eq_false h4, if_pos (by decide), if_neg h4]
        exact zH_some ⟨rfl, hfin⟩
    · rw [if_neg h2, if_neg (by decide), show s_lost A k ws = -2 from if_neg fun q => h2 q.2]
      exact zH_some (QC_same h)
  · rw [if_neg h1, if_pos rfl, show s_lost A k ws = -2 from if_neg fun q => h1 q.1]
    exact zH_some (QC_same h)
end ZCLASS2

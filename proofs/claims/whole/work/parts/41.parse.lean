/-! The text of the wood, and told walks: the class's take() and follow() -/
def pOk (t : Nat → Int) (i : Nat) : Bool := if i % 4 = 3 then decide (t i = 59) else if i % 4 = 2 then decide (49 ≤ t i ∧ t i ≤ 57) else decide (48 ≤ t i ∧ t i ≤ 55 ∧ (i % 4 = 0 → i < 48) ∧ (i % 4 = 1 → t i ≠ t (i - 1)))
def pB (t : Nat → Int) : Nat → Option Nat
  | 0 => none
  | n + 1 => match pB t n with
    | some i => some i
    | none => if pOk t n = true then none else some n
def pF (t : Nat → Int) (n : Nat) : Int := match pB t n with
  | some i => (i : Int)
  | none => if 0 < n ∧ ¬ n % 4 = 3 then (n : Int) else -1
def pW (t : Nat → Int) (n : Nat) : ZWd := (if pF t n = -1 then (n + 1) / 4 else 0, fun w => (t (4 * w) - 48).toNat, fun w => (t (4 * w + 1) - 48).toNat, fun w => (t (4 * w + 2) - 48).toNat)
theorem pB_none {t : Nat → Int} : ∀ {n : Nat}, pB t n = none → ∀ i, i < n → pOk t i = true
  | 0, _, i, hi => absurd hi (Nat.not_lt_zero _)
  | n + 1, h, i, hi => by
    unfold pB at h
    cases hb : pB t n with
    | some j => rw [hb] at h; cases h
    | none =>
      rw [hb] at h
      dsimp only at h
      by_cases hk : pOk t n = true
      · by_cases e : i = n
        · rw [e]; exact hk
        · exact pB_none hb i (by omega)
      · rw [if_neg hk] at h; cases h
theorem pB_of {t : Nat → Int} : ∀ {n : Nat}, (∀ i, i < n → pOk t i = true) → pB t n = none
  | 0, _ => rfl
  | n + 1, h => by
    unfold pB
    rw [pB_of (fun i hi => h i (by omega))]
    exact if_pos (h n (by omega))
theorem pB_some {t : Nat → Int} {i : Nat} (h0 : ∀ j, j < i → pOk t j = true) (h1 : ¬ pOk t i = true) : ∀ {n : Nat}, i < n → pB t n = some i
  | 0, hi => absurd hi (Nat.not_lt_zero _)
  | n + 1, hi => by
    unfold pB
    by_cases e : i = n
    · subst e
      rw [pB_of h0]
      exact if_neg h1
    · rw [pB_some h0 h1 (show i < n by omega)]
theorem pF_bad {t : Nat → Int} {i n : Nat} (h0 : ∀ j, j < i → pOk t j = true) (h1 : ¬ pOk t i = true) (hi : i < n) : pF t n = (i : Int) := by
  unfold pF; rw [pB_some h0 h1 hi]
theorem pF_ok {t : Nat → Int} {n : Nat} (h0 : ∀ j, j < n → pOk t j = true) : pF t n = if 0 < n ∧ ¬ n % 4 = 3 then (n : Int) else -1 := by
  unfold pF; rw [pB_of h0]
theorem pF_well {t : Nat → Int} {n : Nat} (h : pF t n = -1) : (∀ j, j < n → pOk t j = true) ∧ (n = 0 ∨ n % 4 = 3) := by
  unfold pF at h
  cases hb : pB t n with
  | some i => rw [hb] at h; dsimp only at h; omega
  | none =>
    rw [hb] at h
    refine ⟨pB_none hb, ?_⟩
    dsimp only at h
    split at h <;> omega
theorem pOk_3 {t : Nat → Int} {i : Nat} (h : pOk t i = true) (hm : i % 4 = 3) : t i = 59 := by
  unfold pOk at h; rw [if_pos hm] at h; exact of_decide_eq_true h
theorem pOk_2 {t : Nat → Int} {i : Nat} (h : pOk t i = true) (hm : i % 4 = 2) : 49 ≤ t i ∧ t i ≤ 57 := by
  unfold pOk at h; rw [if_neg (by omega), if_pos hm] at h; exact of_decide_eq_true h
theorem pOk_1 {t : Nat → Int} {i : Nat} (h : pOk t i = true) (h1 : ¬ i % 4 = 3) (h2 : ¬ i % 4 = 2) : 48 ≤ t i ∧ t i ≤ 55 ∧ (i % 4 = 0 → i < 48) ∧ (i % 4 = 1 → t i ≠ t (i - 1)) := by
  unfold pOk at h; rw [if_neg h1, if_neg h2] at h; exact of_decide_eq_true h
theorem pF_47 {t : Nat → Int} {n : Nat} (h : pF t n = -1) : n ≤ 47 := by
  obtain ⟨h1, h2⟩ := pF_well h
  by_cases e : n ≤ 48
  · omega
  · have h3 := (pOk_1 (h1 48 (by omega)) (by decide) (by decide)).2.2.1 (by decide)
    omega
theorem pW_OK (t : Nat → Int) (n : Nat) : wOK (pW t n) := by
  unfold wOK
  show (if pF t n = -1 then (n + 1) / 4 else 0) ≤ 12 ∧ ∀ w, w < (if pF t n = -1 then (n + 1) / 4 else 0) → _
  by_cases h : pF t n = -1
  · rw [if_pos h]
    have h47 := pF_47 h
    obtain ⟨h1, h2⟩ := pF_well h
    refine ⟨by omega, fun w hw => ?_⟩
    have a0 := pOk_1 (h1 (4 * w) (by omega)) (by omega) (by omega)
    have a1 := pOk_1 (h1 (4 * w + 1) (by omega)) (by omega) (by omega)
    have a2 := pOk_2 (h1 (4 * w + 2) (by omega)) (by omega)
    have a3 := a1.2.2.2 (by omega)
    rw [Nat.add_sub_cancel] at a3
    show (t (4 * w) - 48).toNat < 8 ∧ (t (4 * w + 1) - 48).toNat < 8 ∧ (t (4 * w) - 48).toNat ≠ (t (4 * w + 1) - 48).toNat ∧ 1 ≤ (t (4 * w + 2) - 48).toNat ∧ (t (4 * w + 2) - 48).toNat ≤ 9
    omega
  · rw [if_neg h]
    exact ⟨by omega, fun w hw => absurd hw (Nat.not_lt_zero _)⟩
theorem zrem4 {i : Nat} (h : i < 64) : zrem (i : Int) 4 = ((i % 4 : Nat) : Int) := by
  have e : ∀ i : Fin 64, zrem ((i.val : Nat) : Int) 4 = ((i.val % 4 : Nat) : Int) := by decide +kernel
  exact e ⟨i, h⟩
theorem zdiv4 {i : Nat} (h : i < 64) : zdiv (i : Int) 4 = ((i / 4 : Nat) : Int) := by
  have e : ∀ i : Fin 64, zdiv ((i.val : Nat) : Int) 4 = ((i.val / 4 : Nat) : Int) := by decide +kernel
  exact e ⟨i, h⟩
theorem e_goesOn {C : ZC} {r i : Nat} (hi : i < 60) : c_Wood_goesOn r (i : Int) C = some ((if pOk (C r) i = true then 1 else 0), C) := by
  unfold c_Wood_goesOn pOk
  rw [zg_t (by omega)]
  simp only [zrem4 (show i < 64 by omega), Int.toNat_natCast]
  by_cases h3 : i % 4 = 3
  · rw [if_neg (by omega), if_pos h3]
    by_cases q : C r i = 59
    · rw [if_neg (fun z => z q), decide_eq_true q]; rfl
    · rw [if_pos q, decide_eq_false q]; rfl
  · rw [if_pos (by omega), if_neg h3]
    by_cases h2 : i % 4 = 2
    · rw [if_neg (by omega), if_pos h2]
      by_cases q : 49 ≤ C r i ∧ C r i ≤ 57
      · rw [if_neg (by omega), if_neg (by omega), decide_eq_true q]; rfl
      · rw [decide_eq_false q]
        by_cases q1 : C r i < 49
        · rw [if_pos q1]; rfl
        · rw [if_neg q1, if_pos (by omega)]; rfl
    · rw [if_pos (by omega), if_neg h2]
      by_cases q : 48 ≤ C r i ∧ C r i ≤ 55
      · rw [if_neg (show ¬ C r i < 48 by omega), if_neg (show ¬ 55 < C r i by omega), zbd_some, if_neg (by decide)]
        by_cases h0 : i % 4 = 0
        · rw [if_neg (by omega)]
          by_cases h4 : i < 48
          · rw [if_neg (by omega), decide_eq_true ⟨q.1, q.2, fun _ => h4, fun z => by omega⟩]; rfl
          · rw [if_pos (by omega), decide_eq_false (fun z => h4 (z.2.2.1 h0))]; rfl
        · rw [if_pos (by omega), zg_t (by rw [zsub_e (by omega) (by omega)]; omega)]
          have e1 : (zsub (i : Int) 1).toNat = i - 1 := by rw [zsub_e (by omega) (by omega)]; omega
          rw [e1]
          by_cases h1 : C r i = C r (i - 1)
          · rw [if_pos h1, decide_eq_false (fun z => z.2.2.2 (by omega) h1)]; rfl
          · rw [if_neg h1, decide_eq_true ⟨q.1, q.2, fun z => absurd z h0, fun _ => h1⟩]; rfl
      · rw [decide_eq_false (fun z => q ⟨z.1, z.2.1⟩)]
        by_cases q1 : C r i < 48
        · rw [if_pos q1, zbd_some, if_pos rfl]; rfl
        · rw [if_neg q1, if_pos (by omega), zbd_some, if_pos rfl]; rfl
theorem wN_W {t : Nat → Int} {n : Nat} : wN (pW t n) = if pF t n = -1 then (n + 1) / 4 else 0 := rfl
theorem h_take {C : ZC} {r n : Nat} (hr : r < 9) (hn : n ≤ 60) : zH (c_Wood_take r (n : Int) C) (fun _ C' => C' 9 4 = pF (C r) n ∧ RWd (pW (C r) n) C' ∧ ∀ a, a ≠ 9 → a ≠ 10 → a ≠ 11 → a ≠ 12 → C' a = C a) := by
  unfold c_Wood_take
  refine zH_bd2 (P := fun _ C' => (C' 9 4 = match pB (C r) n with | some i => (i : Int) | none => -1) ∧ ∀ a, a ≠ 9 → C' a = C a) ?_ (fun _ C1 h1 => ?_)
  · refine zH_loop (fun x C' => ∃ i : Nat, x = (i : Int) ∧ i ≤ n ∧ (∀ a, a ≠ 9 → C' a = C a) ∧ ((C' 9 4 = -1 ∧ ∀ j, j < i → pOk (C r) j = true) ∨ ∃ k, k < i ∧ C' 9 4 = (k : Int) ∧ (∀ j, j < k → pOk (C r) j = true) ∧ ¬ pOk (C r) k = true)) (fun x _ => (n - x).toNat) ⟨0, rfl, Nat.zero_le _, fun a ha => zu_nb ha, Or.inl ⟨zu_eq, fun j hj => absurd hj (Nat.not_lt_zero _)⟩⟩ ?_
    rintro x C1 ⟨i, rfl, hi, hf, hd⟩
    unfold c_Wood_take_L7
    by_cases hin : (n : Int) ≤ (i : Int)
    · have e : i = n := by omega
      subst e
      rw [if_pos hin]
      refine zH_some ⟨?_, hf⟩
      rcases hd with ⟨h4, hok⟩ | ⟨k, hk, h4, hok, hb⟩
      · rw [h4, pB_of hok]
      · rw [h4, pB_some hok hb hk]
    · rw [if_neg hin]
      rcases hd with ⟨h4, hok⟩ | ⟨k, hk, h4, hok, hb⟩
      · rw [if_neg (by omega), e_goesOn (by omega), zbd_some, hf r (by omega)]
        by_cases hp : pOk (C r) i = true
        · rw [if_pos hp, if_pos (by decide)]
          refine zH_some ⟨⟨i + 1, zinN (by omega), by omega, hf, Or.inl ⟨h4, fun j hj => ?_⟩⟩, by rw [zinN (by omega)]; omega⟩
          by_cases e : j = i
          · rw [e]; exact hp
          · exact hok j (by omega)
        · rw [if_neg hp, if_neg (by decide)]
          refine zH_some ⟨⟨i + 1, zinN (by omega), by omega, fun a ha => (zu_nb ha).trans (hf a ha), Or.inr ⟨i, by omega, zu_eq, hok, hp⟩⟩, by rw [zinN (by omega)]; omega⟩
      · rw [if_pos (by omega)]
        refine zH_some ⟨?_, hf⟩
        rw [h4, pB_some hok hb (by omega)]
  · obtain ⟨h4, hf⟩ := h1
    refine zH_bd2 (P := fun _ C' => C' 9 4 = pF (C r) n ∧ ∀ a, a ≠ 9 → C' a = C a) ?_ (fun _ C2 h2 => ?_)
    · have hfu : ∀ C' : ZC, (∀ a, a ≠ 9 → C' a = C1 a) → ∀ a, a ≠ 9 → C' a = C a := fun C' h a ha => (h a ha).trans (hf a ha)
      by_cases e4 : C1 9 4 = -1
      · rw [if_neg (fun z => z e4)]
        have hb : pB (C r) n = none := by
          cases hb : pB (C r) n with
          | none => rfl
          | some i =>
            rw [hb] at h4
            have h6 : C1 9 4 = (i : Int) := h4
            rw [e4] at h6
            omega
        have hF : pF (C r) n = if 0 < n ∧ ¬ n % 4 = 3 then (n : Int) else -1 := by unfold pF; rw [hb]
        rw [hF]
        by_cases h0 : n = 0
        · rw [if_pos (by omega), if_neg (by omega)]
          exact zH_some ⟨e4, hf⟩
        · rw [if_neg (by omega), zrem4 (by omega)]
          by_cases h3 : n % 4 = 3
          · rw [if_pos (by omega), if_neg (by omega)]
            exact zH_some ⟨e4, hf⟩
          · rw [if_neg (by omega), if_pos (by omega)]
            exact zH_some ⟨zu_eq, hfu _ fun a ha => zu_nb ha⟩
      · rw [if_pos e4]
        refine zH_some ⟨?_, hf⟩
        cases hb : pB (C r) n with
        | none => rw [hb] at h4; exact absurd h4 e4
        | some i => rw [hb] at h4; unfold pF; rw [hb]; exact h4
    · obtain ⟨h5, hf2⟩ := h2
      refine zH_bd2 (P := fun v C' => v = (wN (pW (C r) n) : Int) ∧ C' = C2) ?_ (fun v C3 h3 => ?_)
      · rw [h5, wN_W]
        by_cases e : pF (C r) n = -1
        · have h47 := pF_47 e
          have e1 : zadd (n : Int) 1 = ((n + 1 : Nat) : Int) := zinN (by omega)
          rw [if_neg (fun z => z e), if_pos e, e1, zdiv4 (by omega), if_neg (by omega)]
          exact zH_some ⟨rfl, rfl⟩
        · rw [if_pos e, if_neg e]
          exact zH_some ⟨rfl, rfl⟩
      · obtain ⟨rfl, rfl⟩ := h3
        have hW := pW_OK (C r) n
        refine zH_bd2 (P := fun _ C' => C' 9 4 = pF (C r) n ∧ RWd (pW (C r) n) C' ∧ ∀ a, a ≠ 9 → a ≠ 10 → a ≠ 11 → a ≠ 12 → C' a = C a) ?_ (fun _ C4 h4 => zH_some h4)
        refine zH_for (fun i x C' => x = (i : Int) ∧ C' 9 = (zup2 C3 9 3 (wN (pW (C r) n) : Int)) 9 ∧ (∀ w, w < i → C' 10 w = (wA (pW (C r) n) w : Int) ∧ C' 11 w = (wB (pW (C r) n) w : Int) ∧ C' 12 w = (wM (pW (C r) n) w : Int)) ∧ ∀ a, a ≠ 9 → a ≠ 10 → a ≠ 11 → a ≠ 12 → C' a = C a) (wN (pW (C r) n)) 0 (Nat.zero_le _) ⟨rfl, rfl, fun w hw => absurd hw (Nat.not_lt_zero _), fun a h1 h2 h3 h4 => (zu_nb h1).trans (hf2 a h1)⟩ ?_ ?_
        · rintro i x C4 hi ⟨rfl, g1, g2, g3⟩
          have hWi := hW.2 i hi
          have hW1 := hW.1
          have e : pF (C r) n = -1 := by
            by_cases e : pF (C r) n = -1
            · exact e
            · rw [wN_W, if_neg e] at hi; omega
          have h47 := pF_47 e
          have hi2 : i < (n + 1) / 4 := by rw [wN_W, if_pos e] at hi; exact hi
          have hok := (pF_well e).1
          have a0 := pOk_1 (hok (4 * i) (by omega)) (by omega) (by omega)
          have a1 := pOk_1 (hok (4 * i + 1) (by omega)) (by omega) (by omega)
          have a2 := pOk_2 (hok (4 * i + 2) (by omega)) (by omega)
          have m0 : zmul 4 (i : Int) = ((4 * i : Nat) : Int) := by rw [zmul_e (by omega) (by omega)]; omega
          have m1 : zadd ((4 * i : Nat) : Int) 1 = ((4 * i + 1 : Nat) : Int) := zinN (by omega)
          have m2 : zadd ((4 * i : Nat) : Int) 2 = ((4 * i + 2 : Nat) : Int) := by rw [zadd_e (by omega) (by omega)]; omega
          have hr4 : C4 r = C r := g3 r (by omega) (by omega) (by omega) (by omega)
          unfold c_Wood_take_L91
          have c9 : C4 9 3 = (wN (pW (C r) n) : Int) := by rw [g1, zu_eq]
          rw [c9, if_neg (by omega)]
          simp only [m0, m1, m2, Int.toNat_natCast, zu_ne (show r ≠ 10 by omega), zu_ne (show r ≠ 11 by omega), hr4]
          rw [zg_t (by omega), zg_t (by omega), zg_t (by omega), zg_t (by omega), zg_t (by omega), zg_t (by omega)]
          rw [zsub_e (by omega) (by omega), zsub_e (by omega) (by omega), zsub_e (by omega) (by omega)]
          refine zH_some ⟨zinN (by omega), ?_, fun w hw => ?_, fun a h1 h2 h3 h4 => ?_⟩
          · rw [zu_nb (by decide), zu_nb (by decide), zu_nb (by decide)]; exact g1
          · by_cases e2 : w = i
            · subst e2
              refine ⟨?_, ?_, ?_⟩
              · rw [zu_ne (by decide), zu_ne (by decide), zu_eq]
                show C r (4 * w) - 48 = (((C r (4 * w) - 48).toNat : Nat) : Int)
                omega
              · rw [zu_ne (by decide), zu_eq]
                show C r (4 * w + 1) - 48 = (((C r (4 * w + 1) - 48).toNat : Nat) : Int)
                omega
              · rw [zu_eq]
                show C r (4 * w + 2) - 48 = (((C r (4 * w + 2) - 48).toNat : Nat) : Int)
                omega
            · obtain ⟨b1, b2, b3⟩ := g2 w (by omega)
              refine ⟨?_, ?_, ?_⟩
              · rw [zu_ne (by decide), zu_ne (by decide), zu_nj e2]; exact b1
              · rw [zu_ne (by decide), zu_nj e2, zu_ne (by decide)]; exact b2
              · rw [zu_nj e2, zu_ne (by decide), zu_ne (by decide)]; exact b3
          · rw [zu_nb h4, zu_nb h3, zu_nb h2]; exact g3 a h1 h2 h3 h4
        · rintro x C4 ⟨rfl, g1, g2, g3⟩
          unfold c_Wood_take_L91
          have c9 : C4 9 3 = (wN (pW (C r) n) : Int) := by rw [g1, zu_eq]
          rw [c9, if_pos (by omega)]
          refine zH_some ⟨?_, ⟨c9, g2⟩, g3⟩
          rw [g1, zu_nj (by decide)]
          exact h5

/-! What the model's calls answer: the wood, walks -/
section ZMODEL4
variable {A : ZA} {C C' : ZC}
theorem QM_same {v : Int} (h : RM A C) : QM C v A v C := ⟨rfl, h, fun _ _ => rfl⟩
theorem m_type (hA : aOK A) (h : RM A C) {t b : Int} : zH (d_type t b C) (QM C (s_type A t b).1 (s_type A t b).2) := by
  unfold d_type
  rw [m_in, zbd_some]
  by_cases h1 : 0 ≤ t ∧ t < 5
  · rw [if_pos (show 0 ≤ t ∧ t ≤ 4 by omega), if_neg (by decide), m_in, zbd_some]
    by_cases h2 : 0 ≤ b ∧ b ≤ 255
    · obtain ⟨k, rfl⟩ : ∃ k : Nat, t = (k : Int) := ⟨t.toNat, by omega⟩
      have hk : k < 5 := by omega
      have hs : s_type A (k : Int) b = (if aL A k < rm k then ((aL A k : Int) + 1, aSetT A k (aL A k) b) else (-4, A)) := if_pos ⟨h1, h2⟩
      have h73 := (h.1 k hk).1
      have hl := (hA.1 k hk).1
      have hl60 := aOK_len hA hk
      have hrm : rm k ≤ 60 := by unfold rm; split <;> omega
      rw [if_pos h2, if_pos (by decide), zg_t h1, Int.toNat_natCast, h73, hs]
      have e1 : (if ¬ (k : Int) = 0 then some (((24 : Int), (aL A k : Int)), C) else some ((60, (aL A k : Int)), C)) = some (((rm k : Int), (aL A k : Int)), C) := by
        unfold rm
        by_cases e : k = 0
        · rw [if_neg (by omega), if_pos e]; rfl
        · rw [if_pos (by omega), if_neg e]; rfl
      rw [e1, zbd_some]
      dsimp only
      by_cases h3 : aL A k < rm k
      · have zm : zmul 60 (k : Int) = ((60 * k : Nat) : Int) := by rw [zmul_e (by omega) (by omega)]; omega
        have za : zadd ((60 * k : Nat) : Int) (aL A k : Int) = ((60 * k + aL A k : Nat) : Int) := by rw [zadd_e (by omega) (by omega)]; omega
        rw [if_pos (by omega), if_pos h3]
        simp only [zg_t h1, zm, za, Int.toNat_natCast, h73, zu_ne (show (73 : Nat) ≠ 74 by decide), zadd2 (show aL A k < 1000000 by omega)]
        rw [zg_t (by omega), zu_eq]
        refine zH_some ⟨rfl, ⟨fun u hu => ?_, fun j hj => ?_, ?_, fun s hs => ?_, ?_⟩, fun a ha => ?_⟩
        · show _ = ((zup (aL A) k (aL A k + 1) u : Nat) : Int) ∧ ∀ i, i < zup (aL A) k (aL A k + 1) u → _ = zup2 (aT A) k (aL A k) b u i
          have hu1 := h.1 u hu
          have hlu := aOK_len hA hu
          have e74 : zup2 (zup2 C 74 (60 * k + aL A k) b) 73 k ((aL A k : Int) + 1) 74 = zup (C 74) (60 * k + aL A k) b := by rw [zu_nb (by decide), zu_row]
          rw [e74]
          by_cases e : u = k
          · subst e
            rw [zu_eq, zp_eq]
            refine ⟨by omega, fun i hi => ?_⟩
            by_cases e2 : i = aL A u
            · subst e2; rw [zp_eq, zu_eq]
            · rw [zp_ne (by omega), zu_nj e2]; exact hu1.2 i (by omega)
          · rw [zu_nj e, zu_ne (by decide), zp_ne e, zu_nb e]
            refine ⟨hu1.1, fun i hi => ?_⟩
            rw [zp_ne (by omega)]
            exact hu1.2 i hi
        · rw [zu_nb (by omega), zu_nb (by omega)]; exact h.2.1 j hj
        · rw [zu_nb (by omega), zu_nb (by omega), zu_nb (by omega), zu_nb (by omega), zu_nb (by omega), zu_nb (by omega)]; exact h.2.2.1
        · rw [zu_nb (by omega), zu_nb (by omega), zu_nb (by omega), zu_nb (by omega), zu_nb (by omega), zu_nb (by omega), zu_nb (by omega), zu_nb (by omega)]; exact h.2.2.2.1 s hs
        · rw [zu_nb (by omega), zu_nb (by omega)]; exact h.2.2.2.2
        · rw [zu_nb (by omega), zu_nb (by omega)]
      · rw [if_neg (by omega), if_neg h3]
        exact zH_some (QM_same h)
    · rw [if_neg h2, if_neg (by decide), show s_type A t b = (-2, A) from if_neg fun q => h2 q.2]
      exact zH_some (QM_same h)
  · rw [if_neg (show ¬ (0 ≤ t ∧ t ≤ 4) by omega), if_pos rfl, show s_type A t b = (-2, A) from if_neg fun q => h1 q.1]
    exact zH_some (QM_same h)
theorem m_wipe (h : RM A C) {t : Int} : zH (d_wipe t C) (QM C (s_wipe A t).1 (s_wipe A t).2) := by
  unfold d_wipe
  rw [m_in, zbd_some]
  by_cases h1 : 0 ≤ t ∧ t < 5
  · obtain ⟨k, rfl⟩ : ∃ k : Nat, t = (k : Int) := ⟨t.toNat, by omega⟩
    have hk : k < 5 := by omega
    rw [if_pos (show 0 ≤ (k : Int) ∧ (k : Int) ≤ 4 by omega), if_pos (by decide), show s_wipe A (k : Int) = ((aL A k : Int), aSetL A k 0) from if_pos h1, zg_t h1, zg_t h1, Int.toNat_natCast, (h.1 k hk).1]
    refine zH_some ⟨rfl, ⟨fun u hu => ?_, fun j hj => ?_, ?_, fun s hs => ?_, ?_⟩, fun a ha => zu_nb (by omega)⟩
    · show _ = ((zup (aL A) k 0 u : Nat) : Int) ∧ ∀ i, i < zup (aL A) k 0 u → _ = aT A u i
      have hu1 := h.1 u hu
      rw [zu_nb (show (74 : Nat) ≠ 73 by decide)]
      by_cases e : u = k
      · subst e
        rw [zu_eq, zp_eq]
        exact ⟨rfl, fun i hi => absurd hi (Nat.not_lt_zero _)⟩
      · rw [zu_nj e, zp_ne e]
        exact hu1
    · rw [zu_nb (by omega)]; exact h.2.1 j hj
    · rw [zu_nb (by omega), zu_nb (by omega), zu_nb (by omega)]; exact h.2.2.1
    · rw [zu_nb (by omega), zu_nb (by omega), zu_nb (by omega), zu_nb (by omega)]; exact h.2.2.2.1 s hs
    · rw [zu_nb (by omega)]; exact h.2.2.2.2
  · rw [if_neg (show ¬ (0 ≤ t ∧ t ≤ 4) by omega), if_neg (by decide), show s_wipe A t = (-2, A) from if_neg h1]
    exact zH_some (QM_same h)
theorem m_home (h : RM A C) {k p : Int} : zH (d_home k p C) (QM C (s_home A k p).1 (s_home A k p).2) := by
  unfold d_home
  rw [m_isWalker, zbd_some]
  by_cases h1 : 0 ≤ k ∧ k < 4
  · rw [if_pos h1, if_neg (by decide), m_isPlace, zbd_some]
    by_cases h2 : 0 ≤ p ∧ p < 8
    · obtain ⟨j, rfl⟩ : ∃ j : Nat, k = (j : Int) := ⟨k.toNat, by omega⟩
      obtain ⟨q, rfl⟩ : ∃ q : Nat, p = (q : Int) := ⟨p.toNat, by omega⟩
      rw [if_pos h2, if_pos (by decide), show s_home A (j : Int) (q : Int) = ((aH A j : Int), aSetH A j q) from if_pos ⟨h1, h2⟩, zg_t h1, zg_t h1, Int.toNat_natCast, h.2.1 j (by omega)]
      refine zH_some ⟨rfl, ⟨fun u hu => ?_, fun i hi => ?_, ?_, fun s hs => ?_, ?_⟩, fun a ha => zu_nb (by omega)⟩
      · rw [zu_nb (by omega), zu_nb (by omega)]; exact h.1 u hu
      · show _ = ((zup (aH A) j q i : Nat) : Int)
        by_cases e : i = j
        · subst e; rw [zu_eq, zp_eq]
        · rw [zu_nj e, zp_ne e]; exact h.2.1 i hi
      · rw [zu_nb (by omega), zu_nb (by omega), zu_nb (by omega)]; exact h.2.2.1
      · rw [zu_nb (by omega), zu_nb (by omega), zu_nb (by omega), zu_nb (by omega)]; exact h.2.2.2.1 s hs
      · rw [zu_nb (by omega)]; exact h.2.2.2.2
    · rw [if_neg h2, if_neg (by decide), show s_home A k p = (-2, A) from if_neg fun q => h2 q.2]
      exact zH_some (QM_same h)
  · rw [if_neg h1, if_pos rfl, show s_home A k p = (-2, A) from if_neg fun q => h1 q.1]
    exact zH_some (QM_same h)
theorem m_faultC (hA : aOK A) (h : RM A C) : zH (d_fault C) (QM C (pF (aT A 0) (aL A 0)) A) := by
  unfold d_fault
  refine zH_bd2 (m_wood hA h) (fun v C1 h1 => zH_some ?_)
  rw [h1.1]
  exact QM_sc h1.2.2.1 h
theorem m_isWay (hA : aOK A) (h : RM A C) {w : Int} : zH (d_isWay w C) (fun v C' => v = (if 0 ≤ w ∧ w < (wN (aW A) : Int) then 1 else 0) ∧ MWd (aW A) C' ∧ Msc C C' ∧ RM A C') := by
  have hW := (aW_OK (A := A)).1
  unfold d_isWay
  refine zH_bd2 (m_wood hA h) (fun v C1 h1 => ?_)
  obtain ⟨-, g1, g2, g3⟩ := h1
  rw [g1.1, zsub_e (by omega) (by omega), m_in, zbd_some, zg_t (by split <;> omega)]
  refine zH_some ⟨?_, g1, g2, g3⟩
  by_cases q : 0 ≤ w ∧ w < (wN (aW A) : Int)
  · rw [if_pos q, if_pos (by omega)]
  · rw [if_neg q, if_neg (by omega)]
theorem m_way (hA : aOK A) (h : RM A C) {w x : Int} : zH (d_way w x C) (QM C (s_way A w x) A) := by
  have hW := (aW_OK (A := A)).1
  unfold d_way
  refine zH_bd2 (m_isWay hA h) (fun v C1 h1 => ?_)
  obtain ⟨rfl, g1, g2, g3⟩ := h1
  by_cases q : 0 ≤ w ∧ w < (wN (aW A) : Int)
  · obtain ⟨r1, r2, r3⟩ := g1.2 w.toNat (by omega)
    have g : 0 ≤ w ∧ w < 13 := by omega
    rw [if_pos q, if_neg (by decide), m_in, zbd_some]
    by_cases h2 : 0 ≤ x ∧ x < 3
    · have hs : s_way A w x = (if x = 0 then (wA (aW A) w.toNat : Int) else if x = 1 then (wB (aW A) w.toNat : Int) else (wM (aW A) w.toNat : Int)) := if_pos ⟨q, h2⟩
      rw [if_pos (show 0 ≤ x ∧ x ≤ 2 by omega), if_neg (by decide), zg_t g, zg_t g, zg_t g, r1, r2, r3, hs]
      by_cases e0 : x = 0
      · rw [if_neg (fun z => z e0), if_pos e0]
        exact zH_some (QM_sc g2 h)
      · rw [if_pos e0, if_neg e0]
        by_cases e1 : x = 1
        · rw [if_neg (fun z => z e1), if_pos e1]
          exact zH_some (QM_sc g2 h)
        · rw [if_pos e1, if_neg e1]
          exact zH_some (QM_sc g2 h)
    · rw [if_neg (show ¬ (0 ≤ x ∧ x ≤ 2) by omega), if_pos rfl, show s_way A w x = -2 from if_neg fun z => h2 z.2]
      exact zH_some (QM_sc g2 h)
  · rw [if_neg q, if_pos rfl, show s_way A w x = -2 from if_neg fun z => q z.1]
    exact zH_some (QM_sc g2 h)
/-- a call of one walker that walks and answers -/
theorem m_of (h : RM A C) {k : Int} {e : Int → ZC → Option (Int × ZC)} {f : Nat → Int} (he : ∀ j : Nat, j < 4 → ∀ C, RM A C → zH (e (j : Int) C) (fun v C' => v = f j ∧ Msc C C')) :
    zH (zbd (d_isWalker k C) fun v1 C2 => if v1 = 0 then some (-2, C2) else zbd (e k C2) fun v5 C6 => some (v5, C6)) (QM C (s_of A k f) A) := by
  unfold s_of
  rw [m_isWalker, zbd_some]
  by_cases h1 : 0 ≤ k ∧ k < 4
  · obtain ⟨j, rfl⟩ : ∃ j : Nat, k = (j : Int) := ⟨k.toNat, by omega⟩
    rw [if_pos h1, if_neg (by decide), if_pos h1, Int.toNat_natCast]
    refine zH_bd2 (he j (by omega) C h) (fun v C1 h2 => zH_some ?_)
    rw [h2.1]
    exact QM_sc h2.2 h
  · rw [if_neg h1, if_pos rfl, if_neg h1]
    exact zH_some (QM_same h)
theorem m_judged (hA : aOK A) (h : RM A C) {k : Int} : zH (d_judged k C) (QM C (s_of A k fun j => (aR A j).2.2.2) A) :=
  m_of h fun j hj C hC => zH_bd2 (m_walks hA hC hj) fun _ C1 h1 => zH_some ⟨h1.2.1.2.2.2, h1.2.2.1⟩
theorem m_place (hA : aOK A) (h : RM A C) {k : Int} : zH (d_place k C) (QM C (s_of A k fun j => (kP (aK A j) : Int)) A) :=
  m_of h fun j hj C hC => zH_bd2 (m_walks hA hC hj) fun _ C1 h1 => zH_some ⟨h1.2.1.1.1, h1.2.2.1⟩
theorem m_goneOf (hA : aOK A) {j : Nat} (hj : j < 4) {C : ZC} (hC : RM A C) : zH (d_goneOf (j : Int) C) (fun v C' => v = kG (aK A j) ∧ Msc C C') :=
  zH_bd2 (m_walks hA hC hj) fun _ C1 h1 => zH_some ⟨h1.2.1.1.2.1, h1.2.2.1⟩
theorem m_gone (hA : aOK A) (h : RM A C) {k : Int} : zH (d_gone k C) (QM C (s_of A k fun j => kG (aK A j)) A) := m_of h fun j hj C hC => m_goneOf hA hj hC
theorem m_spent (hA : aOK A) (h : RM A C) {k : Int} : zH (d_spent k C) (QM C (s_of A k fun j => (aR A j).2.1) A) :=
  m_of h fun j hj C hC => zH_bd2 (m_walks hA hC hj) fun _ C1 h1 => zH_some ⟨h1.2.1.2.1, h1.2.2.1⟩
/-- walked and looked -/
theorem m_look (hA : aOK A) {j : Nat} (hj : j < 4) (hC : RM A C) {cut : Int} {B : Type} {Q : B → ZC → Prop} {e : ZC → Option (B × ZC)} (he : ∀ C', MSn (sn (aW A) (aK A j) cut) C' → MTr (aR A j) C' → Msc C C' → RM A C' → MWd (aW A) C' → zH (e C') Q) :
    zH (zbd (d_walks (j : Int) C) fun _ C2 => zbd (d_reaches cut C2) fun _ C4 => e C4) Q := by
  refine zH_bd2 (m_walks hA hC hj) (fun _ C1 h1 => ?_)
  obtain ⟨g1, g2, g3, g4⟩ := h1
  refine zH_bd2 (m_reaches (s := aK A j) aW_OK g1 (aK_OK hA hj) g2.1) (fun _ C2 h2 => ?_)
  obtain ⟨k1, k2⟩ := h2
  refine he C2 k1 ?_ (Msc_tr g3 (M80_sc k2)) (RM_sc (M80_sc k2) g4).1 (M80_wd k2 g1)
  unfold MTr
  rw [k2 72 (by decide)]
  exact ⟨M80_wk k2 g2.1, g2.2⟩
theorem m_stillOf (hA : aOK A) {j : Nat} (hj : j < 4) {C : ZC} (hC : RM A C) : zH (d_stillOf (j : Int) C) (fun v C' => v = rc (aSn A j) ∧ Msc C C' ∧ MTr (aR A j) C') := by
  unfold d_stillOf
  refine m_look hA hj hC (fun C1 h1 h2 h3 h4 _ => ?_)
  rw [m_reached h1, zbd_some]
  exact zH_some ⟨rfl, h3, h2⟩
theorem m_still (hA : aOK A) (h : RM A C) {k : Int} : zH (d_still k C) (QM C (s_of A k fun j => rc (aSn A j)) A) := m_of h fun j hj C hC => zH_mono (m_stillOf hA hj hC) fun _ _ q => ⟨q.1, q.2.1⟩
theorem m_never (hA : aOK A) (h : RM A C) {k : Int} : zH (d_never k C) (QM C (s_of A k fun j => zand (aR A j).2.2.1 (zxor (rc (aSn A j)) (-1))) A) := by
  refine m_of h fun j hj C hC => ?_
  unfold d_neverOf
  refine zH_bd2 (m_stillOf hA hj hC) (fun v C1 h1 => zH_some ?_)
  obtain ⟨rfl, g1, g2⟩ := h1
  exact ⟨by rw [g2.2.2.1], g1⟩
theorem m_openOf (hA : aOK A) {j : Nat} (hj : j < 4) {C : ZC} (hC : RM A C) {i : Int} (hi : -1 ≤ i) : zH (d_openOf (j : Int) i C) (fun v C' => v = s_open A (j : Int) i ∧ Msc C C') := by
  have hk := kOK_len (aK_OK hA hj)
  have hW := (aW_OK (A := A)).1
  have hs : s_open A (j : Int) i = (if i = -1 then ((kO (aK A j)).length : Int) else if i < ((kO (aK A j)).length : Int) then og (kO (aK A j)) i.toNat else -1) := if_pos ⟨by omega, hi⟩
  unfold d_openOf
  refine zH_bd2 (m_walks hA hC hj) (fun _ C1 h1 => ?_)
  obtain ⟨g1, g2, g3, g4⟩ := h1
  have e9 : C1 72 9 = ((kO (aK A j)).length : Int) := g2.1.2.2.1
  rw [e9, hs]
  by_cases e : i = -1
  · rw [if_neg (fun q => q e), if_pos e]
    exact zH_some ⟨rfl, g3⟩
  · rw [if_pos e, if_neg e]
    by_cases h3 : i < ((kO (aK A j)).length : Int)
    · rw [if_neg (by omega), if_pos h3, zg_t (by omega), og_RL (show RL (C1 79) (kO (aK A j)) from g2.1.2.2.2) i.toNat (by omega)]
      exact zH_some ⟨rfl, g3⟩
    · rw [if_pos (by omega), if_neg h3]
      exact zH_some ⟨rfl, g3⟩
theorem m_open (hA : aOK A) (h : RM A C) {k i : Int} : zH (d_open k i C) (QM C (s_open A k i) A) := by
  unfold d_open
  rw [m_isWalker, zbd_some]
  by_cases h1 : 0 ≤ k ∧ k < 4
  · obtain ⟨j, rfl⟩ : ∃ j : Nat, k = (j : Int) := ⟨k.toNat, by omega⟩
    rw [if_pos h1, if_neg (by decide)]
    by_cases h2 : -1 ≤ i
    · rw [if_neg (by omega)]
      refine zH_bd2 (m_openOf hA (by omega) h h2) (fun v C1 h3 => zH_some ?_)
      rw [h3.1]
      exact QM_sc h3.2 h
    · rw [if_pos (by omega), show s_open A (j : Int) i = -2 from if_neg fun q => h2 q.2]
      exact zH_some (QM_same h)
  · rw [if_neg h1, if_pos rfl, show s_open A k i = -2 from if_neg fun q => h1 q.1]
    exact zH_some (QM_same h)
theorem m_may (hA : aOK A) (h : RM A C) {k w : Int} : zH (d_may k w C) (QM C (s_may A k w) A) := by
  unfold d_may
  rw [m_isWalker, zbd_some]
  by_cases h1 : 0 ≤ k ∧ k < 4
  · obtain ⟨j, rfl⟩ : ∃ j : Nat, k = (j : Int) := ⟨k.toNat, by omega⟩
    have hj : j < 4 := by omega
    rw [if_pos h1, if_neg (by decide)]
    refine zH_bd2 (m_isWay hA h) (fun v C1 h2 => ?_)
    obtain ⟨rfl, g1, g2, g3⟩ := h2
    by_cases q : 0 ≤ w ∧ w < (wN (aW A) : Int)
    · obtain ⟨v, rfl⟩ : ∃ v : Nat, w = (v : Int) := ⟨w.toNat, by omega⟩
      rw [if_pos q, if_pos (by decide), show s_may A (j : Int) (v : Int) = (kK (aW A) (aK A j) v : Int) from if_pos ⟨h1, q⟩]
      refine zH_bd2 (m_walks hA g3 hj) (fun _ C2 h3 => ?_)
      obtain ⟨k1, k2, k3, k4⟩ := h3
      rw [m_mayBe (s := aK A j) aW_OK k1 (aK_OK hA hj) k2.1 (by omega), zbd_some]
      exact zH_some (QM_sc (Msc_tr g2 k3) h)
    · rw [if_neg q, if_neg (by decide), show s_may A (j : Int) w = -2 from if_neg fun z => q z.2]
      exact zH_some (QM_sc g2 h)
  · rw [if_neg h1, if_pos rfl, show s_may A k w = -2 from if_neg fun q => h1 q.1]
    exact zH_some (QM_same h)
theorem m_soonOf (hA : aOK A) {j p : Nat} (hj : j < 4) (hp : p < 8) {C : ZC} (hC : RM A C) : zH (d_soonOf (j : Int) (p : Int) C) (fun v C' => v = snT (aSn A j) p ∧ Msc C C' ∧ RM A C') := by
  unfold d_soonOf
  refine m_look hA hj hC (fun C1 h1 h2 h3 h4 _ => ?_)
  have e : C1 80 p = (aSn A j p : Int) := h1 p hp
  have hb := bnd_sn (cut := 0) aW_OK (aK_OK hA hj) p
  rw [zg_t (by omega), Int.toNat_natCast, e, zg_t (by omega)]
  unfold snT
  by_cases q : aSn A j p < 1000000
  · rw [if_neg (by omega), if_pos q]
    exact zH_some ⟨rfl, h3, h4⟩
  · rw [if_pos (by omega), if_neg q]
    exact zH_some ⟨rfl, h3, h4⟩
theorem m_soon (hA : aOK A) (h : RM A C) {k p : Int} : zH (d_soon k p C) (QM C (s_soon A k p) A) := by
  unfold d_soon
  rw [m_isWalker, zbd_some]
  by_cases h1 : 0 ≤ k ∧ k < 4
  · rw [if_pos h1, if_neg (by decide), m_isPlace, zbd_some]
    by_cases h2 : 0 ≤ p ∧ p < 8
    · obtain ⟨j, rfl⟩ : ∃ j : Nat, k = (j : Int) := ⟨k.toNat, by omega⟩
      obtain ⟨q, rfl⟩ : ∃ q : Nat, p = (q : Int) := ⟨p.toNat, by omega⟩
      rw [if_pos h2, if_neg (by decide), show s_soon A (j : Int) (q : Int) = snT (aSn A j) q from if_pos ⟨h1, h2⟩]
      refine zH_bd2 (m_soonOf hA (by omega) (by omega) h) (fun v C1 h3 => zH_some ?_)
      rw [h3.1]
      exact QM_sc h3.2.1 h
    · rw [if_neg h2, if_pos rfl, show s_soon A k p = -2 from if_neg fun q => h2 q.2]
      exact zH_some (QM_same h)
  · rw [if_neg h1, if_pos rfl, show s_soon A k p = -2 from if_neg fun q => h1 q.1]
    exact zH_some (QM_same h)
theorem m_keeps (hA : aOK A) (h : RM A C) {k w ps : Int} : zH (d_keeps k w ps C) (QM C (s_keeps A k w ps) A) := by
  unfold d_keeps
  rw [m_isWalker, zbd_some]
  by_cases h1 : 0 ≤ k ∧ k < 4
  · obtain ⟨j, rfl⟩ : ∃ j : Nat, k = (j : Int) := ⟨k.toNat, by omega⟩
    have hj : j < 4 := by omega
    rw [if_pos h1, if_neg (by decide)]
    refine zH_bd2 (m_isWay hA h) (fun v C1 h2 => ?_)
    obtain ⟨rfl, g1, g2, g3⟩ := h2
    by_cases q : 0 ≤ w ∧ w < (wN (aW A) : Int)
    · obtain ⟨v, rfl⟩ : ∃ v : Nat, w = (v : Int) := ⟨w.toNat, by omega⟩
      rw [if_pos q, if_neg (by decide), m_in, zbd_some]
      by_cases h3 : 0 ≤ ps ∧ ps < 256
      · have hs : s_keeps A (j : Int) (v : Int) ps = (if kK (aW A) (aK A j) v = 0 then -3 else if zand ps (zxor (rc (sn (aW A) (kS (aW A) (aK A j) v (kK (aW A) (aK A j) v)) 0)) (-1)) = 0 then 1 else 0) := if_pos ⟨h1, q, h3⟩
        have hk := aK_OK hA hj
        rw [if_pos (show 0 ≤ ps ∧ ps ≤ 255 by omega), if_pos (by decide), hs]
        refine zH_bd2 (m_walks hA g3 hj) (fun _ C2 h4 => ?_)
        obtain ⟨k1, k2, k3, k4⟩ := h4
        rw [m_mayBe (s := aK A j) aW_OK k1 hk k2.1 (by omega), zbd_some]
        by_cases h5 : kK (aW A) (aK A j) v = 0
        · rw [h5, if_neg (by decide), if_pos rfl]
          exact zH_some (QM_sc (Msc_tr g2 k3) h)
        · rw [if_pos (by omega), if_neg h5]
          obtain ⟨C3, e3, u1, u2⟩ := m_steps (s := aK A j) aW_OK k1 hk k2.1 (w := v) rfl h5
          rw [e3, zbd_some]
          refine zH_bd2 (m_reaches (cut := 0) aW_OK (Mfr_wd u2 k1) (kOK_S aW_OK hk h5) u1) (fun _ C4 h6 => ?_)
          have hsc := Msc_tr (Msc_tr g2 k3) (Msc_tr (Mfr_sc u2) (M80_sc h6.2))
          rw [m_reached h6.1, zbd_some]
          by_cases h7 : zand ps (zxor (rc (sn (aW A) (kS (aW A) (aK A j) v (kK (aW A) (aK A j) v)) 0)) (-1)) = 0
          · rw [if_neg (fun z => z h7), if_pos h7]
            exact zH_some (QM_sc hsc h)
          · rw [if_pos h7, if_neg h7]
            exact zH_some (QM_sc hsc h)
      · rw [if_neg (show ¬ (0 ≤ ps ∧ ps ≤ 255) by omega), if_neg (by decide), show s_keeps A (j : Int) (v : Int) ps = -2 from if_neg fun z => h3 z.2.2]
        exact zH_some (QM_sc g2 h)
    · rw [if_neg q, if_pos rfl, show s_keeps A (j : Int) w ps = -2 from if_neg fun z => q z.2.1]
      exact zH_some (QM_sc g2 h)
  · rw [if_neg h1, if_pos rfl, show s_keeps A k w ps = -2 from if_neg fun q => h1 q.1]
    exact zH_some (QM_same h)
/-- the model's form of the meeting -/
def mnN (r1 r2 : ZRw) : Nat → Int × Nat
  | 0 => (-1, 1000000)
  | p + 1 => if (if r1 p < r2 p then r2 p else r1 p) < (mnN r1 r2 p).2 then ((p : Int), if r1 p < r2 p then r2 p else r1 p) else mnN r1 r2 p
theorem mnN_e {r1 r2 : ZRw} (h1 : ∀ p, r1 p ≤ 1000000) (h2 : ∀ p, r2 p ≤ 1000000) : ∀ p, ((mnN r1 r2 p).1 = -1 ∧ (mnN r1 r2 p).2 = 1000000 ∧ mtN r1 r2 p = (-1, -1)) ∨ ((mnN r1 r2 p).1 ≠ -1 ∧ (mnN r1 r2 p).2 < 1000000 ∧ mtN r1 r2 p = ((mnN r1 r2 p).1, ((mnN r1 r2 p).2 : Int)))
  | 0 => Or.inl ⟨rfl, rfl, rfl⟩
  | p + 1 => by
    have a1 := h1 p
    have a2 := h2 p
    have hm : (if r1 p < r2 p then r2 p else r1 p) < 1000000 ↔ r1 p < 1000000 ∧ r2 p < 1000000 := by split <;> omega
    unfold mnN mtN
    generalize (if r1 p < r2 p then r2 p else r1 p) = m at *
    rcases mnN_e h1 h2 p with ⟨e1, e2, e3⟩ | ⟨e1, e2, e3⟩
    · rw [e2, e3]
      by_cases q : m < 1000000
      · rw [if_pos q, if_pos (show (r1 p < 1000000 ∧ r2 p < 1000000) ∧ (((-1 : Int), (-1 : Int)).1 = -1 ∨ (m : Int) < ((-1 : Int), (-1 : Int)).2) from ⟨hm.mp q, Or.inl rfl⟩)]
        exact Or.inr ⟨by show (p : Int) ≠ -1; omega, q, rfl⟩
      · rw [if_neg q, if_neg (fun z => q (hm.mpr z.1))]
        exact Or.inl ⟨e1, e2, rfl⟩
    · rw [e3]
      by_cases q : m < (mnN r1 r2 p).2
      · rw [if_pos q, if_pos (show (r1 p < 1000000 ∧ r2 p < 1000000) ∧ (((mnN r1 r2 p).1, ((mnN r1 r2 p).2 : Int)).1 = -1 ∨ (m : Int) < ((mnN r1 r2 p).1, ((mnN r1 r2 p).2 : Int)).2) from ⟨hm.mp (by omega), Or.inr (show (m : Int) < ((mnN r1 r2 p).2 : Int) by omega)⟩)]
        exact Or.inr ⟨by show (p : Int) ≠ -1; omega, by show m < 1000000; omega, rfl⟩
      · rw [if_neg q, if_neg (fun z => z.2.elim e1 (fun z2 => q (by have z3 : (m : Int) < ((mnN r1 r2 p).2 : Int) := z2; omega)))]
        exact Or.inr ⟨e1, e2, rfl⟩
theorem aSn_le (hA : aOK A) {j : Nat} (hj : j < 4) : ∀ p, aSn A j p ≤ 1000000 := fun p => by
  have := bnd_sn (cut := 0) aW_OK (aK_OK hA hj) p
  show sn (aW A) (aK A j) 0 p ≤ _
  omega
theorem m_meetingOf (hA : aOK A) {a b : Nat} (ha : a < 4) (hb : b < 4) {C : ZC} (hC : RM A C) {x : Int} : zH (d_meetingOf (a : Int) (b : Int) x C) (fun v C' => v = (if x = 0 then (mtN (aSn A a) (aSn A b) 8).1 else (mtN (aSn A a) (aSn A b) 8).2) ∧ Msc C C') := by
  unfold d_meetingOf
  refine m_look hA ha hC (fun C1 h1 _ h3 h4 _ => ?_)
  refine zH_bd2 (P := fun _ C' => (∀ p, p < 8 → C' 86 p = (aSn A a p : Int)) ∧ ∀ q, q ≠ 86 → C' q = C1 q) ?_ (fun _ C2 h5 => ?_)
  · refine zH_for (fun i y C' => y = (i : Int) ∧ (∀ p, p < i → C' 86 p = (aSn A a p : Int)) ∧ ∀ q, q ≠ 86 → C' q = C1 q) 8 0 (by decide) ⟨rfl, fun p hp => absurd hp (Nat.not_lt_zero _), fun _ _ => rfl⟩ ?_ ?_
    · rintro i y C2 hi ⟨rfl, k1, k2⟩
      unfold d_meetingOf_L13
      rw [if_neg (by omega), zg_t (by omega), zg_t (by omega), Int.toNat_natCast]
      refine zH_some ⟨zinN (by omega), fun p hp => ?_, fun q hq => (zu_nb hq).trans (k2 q hq)⟩
      by_cases e : p = i
      · subst e
        rw [zu_eq, k2 80 (by decide)]
        exact h1 p hi
      · rw [zu_nj e]; exact k1 p (by omega)
    · rintro y C2 ⟨rfl, k1, k2⟩
      unfold d_meetingOf_L13
      rw [if_pos (by omega)]
      exact zH_some ⟨k1, k2⟩
  · obtain ⟨k1, k2⟩ := h5
    have hs2 : Msc C1 C2 := ⟨fun q hq => k2 q (by omega), by rw [k2 72 (by decide)], by rw [k2 72 (by decide)]⟩
    have hM2 := (RM_sc hs2 h4).1
    refine zH_bd2 (m_walks2 hA hM2 hb) (fun _ C3 h6 => ?_)
    obtain ⟨⟨g1, g2, g3, g4⟩, g5⟩ := h6
    refine zH_bd2 (m_reaches (s := aK A b) (cut := 0) aW_OK g1 (aK_OK hA hb) g2.1) (fun _ C4 h7 => ?_)
    obtain ⟨u1, u2⟩ := h7
    have v86 : ∀ p, p < 8 → C4 86 p = (aSn A a p : Int) := fun p hp => by
      rw [u2 86 (by decide), g5 86 (by decide) (by decide) (by decide) (by decide) (by decide)]; exact k1 p hp
    have v80 : ∀ p, p < 8 → C4 80 p = (aSn A b p : Int) := u1
    have hsc := Msc_tr (Msc_tr h3 hs2) (Msc_tr g3 (M80_sc u2))
    have hb1 := aSn_le hA ha
    have hb2 := aSn_le hA hb
    refine zH_bd2 (P := fun y C' => y = ((mnN (aSn A a) (aSn A b) 8).1, ((mnN (aSn A a) (aSn A b) 8).2 : Int)) ∧ C' = C4) ?_ (fun y C5 h8 => ?_)
    · refine zH_for (fun i y C' => y = ((mnN (aSn A a) (aSn A b) i).1, ((mnN (aSn A a) (aSn A b) i).2 : Int), (i : Int)) ∧ C' = C4) 8 0 (by decide) ⟨rfl, rfl⟩ ?_ ?_
      · rintro i y C5 hi ⟨rfl, rfl⟩
        unfold d_meetingOf_L60
        dsimp only
        rw [if_neg (by omega), zg_t (by omega), zg_t (by omega), zg_t (by omega), zg_t (by omega), Int.toNat_natCast, v86 i hi, v80 i hi, zinN (by omega)]
        have e1 : (if (aSn A a i : Int) ≤ (aSn A b i : Int) then some ((aSn A b i : Int), C5) else some ((aSn A a i : Int), C5)) = some (((if aSn A a i < aSn A b i then aSn A b i else aSn A a i : Nat) : Int), C5) := by
          split <;> split <;> first | rfl | (congr 2; omega) | omega
        rw [e1, zbd_some]
        have e2 : mnN (aSn A a) (aSn A b) (i + 1) = if (if aSn A a i < aSn A b i then aSn A b i else aSn A a i) < (mnN (aSn A a) (aSn A b) i).2 then ((i : Int), if aSn A a i < aSn A b i then aSn A b i else aSn A a i) else mnN (aSn A a) (aSn A b) i := rfl
        generalize (if aSn A a i < aSn A b i then aSn A b i else aSn A a i) = m at *
        by_cases q : m < (mnN (aSn A a) (aSn A b) i).2
        · rw [if_pos q] at e2
          rw [if_neg (by omega), zbd_some, e2]
          dsimp only
          rw [if_neg (by omega)]
          exact zH_some ⟨rfl, rfl⟩
        · rw [if_neg q] at e2
          rw [if_pos (by omega), zbd_some, e2]
          dsimp only
          rw [if_pos (by omega)]
          exact zH_some ⟨rfl, rfl⟩
      · rintro y C5 ⟨rfl, rfl⟩
        unfold d_meetingOf_L60
        dsimp only
        rw [if_pos (by omega)]
        exact zH_some ⟨rfl, rfl⟩
    · obtain ⟨rfl, rfl⟩ := h8
      have key := mnN_e hb1 hb2 8
      generalize mnN (aSn A a) (aSn A b) 8 = y at key ⊢
      generalize mtN (aSn A a) (aSn A b) 8 = z at key ⊢
      dsimp only
      rcases key with ⟨e1, e2, e3⟩ | ⟨e1, e2, e3⟩
      · rw [e3, if_pos e1, e1]
        refine zH_some ⟨?_, hsc⟩
        split <;> rfl
      · rw [e3, if_neg e1]
        by_cases q : x = 0
        · rw [if_neg (fun z => z q), if_pos q]
          exact zH_some ⟨rfl, hsc⟩
        · rw [if_pos q, if_neg q]
          exact zH_some ⟨rfl, hsc⟩
theorem m_meeting (hA : aOK A) (h : RM A C) {a b x : Int} : zH (d_meeting a b x C) (QM C (s_meeting A a b x) A) := by
  unfold d_meeting
  rw [m_isWalker, zbd_some]
  by_cases h1 : 0 ≤ a ∧ a < 4
  · rw [if_pos h1, if_neg (by decide), m_isWalker, zbd_some]
    by_cases h2 : 0 ≤ b ∧ b < 4
    · rw [if_pos h2, if_neg (by decide)]
      by_cases h3 : a = b
      · rw [if_pos h3, show s_meeting A a b x = -2 from if_neg fun q => q.1.2.2 h3]
        exact zH_some (QM_same h)
      · rw [if_neg h3, m_in, zbd_some]
        by_cases h4 : 0 ≤ x ∧ x < 2
        · obtain ⟨i, rfl⟩ : ∃ i : Nat, a = (i : Int) := ⟨a.toNat, by omega⟩
          obtain ⟨j, rfl⟩ : ∃ j : Nat, b = (j : Int) := ⟨b.toNat, by omega⟩
          rw [if_pos (show 0 ≤ x ∧ x ≤ 1 by omega), if_neg (by decide), show s_meeting A (i : Int) (j : Int) x = (if x = 0 then (mtN (aSn A i) (aSn A j) 8).1 else (mtN (aSn A i) (aSn A j) 8).2) from if_pos ⟨⟨h1, h2, h3⟩, h4⟩]
          refine zH_bd2 (m_meetingOf hA (by omega) (by omega) h) (fun v C1 h5 => zH_some ?_)
          rw [h5.1]
          exact QM_sc h5.2 h
        · rw [if_neg (show ¬ (0 ≤ x ∧ x ≤ 1) by omega), if_pos rfl, show s_meeting A a b x = -2 from if_neg fun q => h4 q.2]
          exact zH_some (QM_same h)
    · rw [if_neg h2, if_pos rfl, show s_meeting A a b x = -2 from if_neg fun q => h2 q.1.2.1]
      exact zH_some (QM_same h)
  · rw [if_neg h1, if_pos rfl, show s_meeting A a b x = -2 from if_neg fun q => h1 q.1.1]
    exact zH_some (QM_same h)
theorem m_lent (hA : aOK A) (h : RM A C) {a b : Int} : zH (d_lent a b C) (QM C (s_lent A a b) A) := by
  unfold d_lent
  rw [m_isWalker, zbd_some]
  by_cases h1 : 0 ≤ a ∧ a < 4
  · rw [if_pos h1, if_neg (by decide), m_isWalker, zbd_some]
    by_cases h2 : 0 ≤ b ∧ b < 4
    · rw [if_pos h2, if_neg (by decide)]
      by_cases h3 : a = b
      · rw [if_pos h3, show s_lent A a b = -2 from if_neg fun q => q.2.2 h3]
        exact zH_some (QM_same h)
      · obtain ⟨i, rfl⟩ : ∃ i : Nat, a = (i : Int) := ⟨a.toNat, by omega⟩
        obtain ⟨j, rfl⟩ : ∃ j : Nat, b = (j : Int) := ⟨b.toNat, by omega⟩
        have hi : i < 4 := by omega
        have hj : j < 4 := by omega
        rw [if_neg h3, show s_lent A (i : Int) (j : Int) = rc (sn (aW A) (kA (aK A j) (kG (aK A i))) 0) from if_pos ⟨h1, h2, h3⟩]
        unfold d_lentOf
        refine zH_bd2 (P := fun v C' => v = rc (sn (aW A) (kA (aK A j) (kG (aK A i))) 0) ∧ Msc C C') ?_ (fun v C1 h4 => zH_some ?_)
        · refine zH_bd2 (m_goneOf hA hi h) (fun v C1 h4 => ?_)
          obtain ⟨rfl, g1⟩ := h4
          refine zH_bd2 (m_walks hA (RM_sc g1 h).1 hj) (fun _ C2 h5 => ?_)
          obtain ⟨k1, k2, k3, k4⟩ := h5
          have e8 : C2 72 8 = kG (aK A j) := k2.1.2.1
          rw [e8]
          have hu : Msc C2 (zup2 C2 72 8 (zor (kG (aK A j)) (kG (aK A i)))) := Msc_u (Or.inl ⟨rfl, by decide, by decide⟩)
          refine zH_bd2 (m_reaches (s := kA (aK A j) (kG (aK A i))) (cut := 0) aW_OK ?_ (kOK_A (aK_OK hA hj) (aK_OK hA hi)) ⟨(zu_nj (by decide)).trans k2.1.1, zu_eq, (zu_nj (by decide)).trans k2.1.2.2.1, by rw [zu_nb (by decide)]; exact k2.1.2.2.2⟩) (fun _ C3 h6 => ?_)
          · unfold MWd
            rw [zu_nb (show (75 : Nat) ≠ 72 by decide), zu_nb (show (76 : Nat) ≠ 72 by decide), zu_nb (show (77 : Nat) ≠ 72 by decide), zu_nj (show (2 : Nat) ≠ 8 by decide)]
            exact k1
          · rw [m_reached h6.1, zbd_some]
            exact zH_some ⟨rfl, Msc_tr (Msc_tr g1 k3) (Msc_tr hu (M80_sc h6.2))⟩
        · rw [h4.1]
          exact QM_sc h4.2 h
    · rw [if_neg h2, if_pos rfl, show s_lent A a b = -2 from if_neg fun q => h2 q.2.1]
      exact zH_some (QM_same h)
  · rw [if_neg h1, if_pos rfl, show s_lent A a b = -2 from if_neg fun q => h1 q.1]
    exact zH_some (QM_same h)
theorem m_lost (hA : aOK A) (h : RM A C) {k ws : Int} : zH (d_lost k ws C) (QM C (s_lost A k ws) A) := by
  have hW := (aW_OK (A := A)).1
  unfold d_lost
  rw [m_isWalker, zbd_some]
  by_cases h1 : 0 ≤ k ∧ k < 4
  · obtain ⟨j, rfl⟩ : ∃ j : Nat, k = (j : Int) := ⟨k.toNat, by omega⟩
    have hj : j < 4 := by omega
    rw [if_pos h1, if_neg (by decide)]
    refine zH_bd2 (P := fun v C' => v = ((2 ^ wN (aW A) : Nat) : Int) - 1 ∧ Msc C C' ∧ RM A C') ?_ (fun v C1 h2 => ?_)
    · unfold d_allWays
      refine zH_bd2 (m_wood hA h) (fun v C1 h2 => zH_some ?_)
      obtain ⟨-, g1, g2, g3⟩ := h2
      have hp : 1 ≤ 2 ^ wN (aW A) ∧ 2 ^ wN (aW A) ≤ 2 ^ 12 := ⟨Nat.one_le_two_pow, Nat.pow_le_pow_right (by decide) hW⟩
      rw [g1.1, zshl_n hW, zsub_e (by omega) (by omega)]
      exact ⟨rfl, g2, g3⟩
    · obtain ⟨rfl, g2, g3⟩ := h2
      rw [m_in, zbd_some]
      by_cases h3 : 0 ≤ ws ∧ ws < ((2 ^ wN (aW A) : Nat) : Int)
      · have hh := hA.2.1 j hj
        rw [if_pos (show 0 ≤ ws ∧ ws ≤ ((2 ^ wN (aW A) : Nat) : Int) - 1 by omega), if_pos (by decide), show s_lost A (j : Int) ws = (if sn (aW A) (aK A j) ws (aH A j) < 1000000 then 0 else 1) from if_pos ⟨h1, h3⟩]
        refine m_look hA hj g3 (fun C2 k1 k2 k3 k4 _ => ?_)
        have e78 : C2 78 j = (aH A j : Int) := k4.2.1 j hj
        rw [zg_t h1, Int.toNat_natCast, e78, zg_t (by omega), Int.toNat_natCast, k1 (aH A j) hh]
        by_cases q : sn (aW A) (aK A j) ws (aH A j) < 1000000
        · rw [if_neg (by omega), if_pos q]
          exact zH_some (QM_sc (Msc_tr g2 k3) h)
        · rw [if_pos (by omega), if_neg q]
          exact zH_some (QM_sc (Msc_tr g2 k3) h)
      · rw [if_neg (show ¬ (0 ≤ ws ∧ ws ≤ ((2 ^ wN (aW A) : Nat) : Int) - 1) by omega), if_neg (by decide), show s_lost A (j : Int) ws = -2 from if_neg fun q => h3 q.2]
        exact zH_some (QM_sc g2 h)
  · rw [if_neg h1, if_pos rfl, show s_lost A k ws = -2 from if_neg fun q => h1 q.1]
    exact zH_some (QM_same h)
end ZMODEL4

/-! thread() in the model -/
section ZTHREADM
variable {A : ZA} {C : ZC}
theorem m_ones {x : Int} : d_ones x C = some (((ones x : Nat) : Int), C) := by
  have key : zH (zloop (d_ones_L4 x) (0, 0) C) (fun y C' => y = ((ones x : Nat) : Int) ∧ C' = C) := by
    refine zH_for (fun i y C' => y = (((bs (fun _ => 1) (zbit x) i : Nat) : Int), (i : Int)) ∧ bs (fun _ => 1) (zbit x) i ≤ i ∧ C' = C) 12 0 (Nat.zero_le _) ⟨rfl, Nat.le_refl _, rfl⟩ ?_ ?_
    · rintro i y C' hi ⟨rfl, hb, rfl⟩
      unfold d_ones_L4
      dsimp only
      rw [if_neg (by omega), zhas_e (by omega), zinN (by omega)]
      have e : bs (fun _ => 1) (zbit x) (i + 1) = bs (fun _ => 1) (zbit x) i + (if zbit x i = true then 1 else 0) := rfl
      by_cases q : zbit x i = true
      · rw [if_pos q] at e ⊢
        rw [zadd_e (by omega) (by omega)]
        exact zH_some ⟨by rw [e]; rfl, by omega, rfl⟩
      · rw [if_neg q] at e ⊢
        rw [zadd_e (by omega) (by omega), Int.add_zero]
        exact zH_some ⟨by rw [e]; rfl, by omega, rfl⟩
    · rintro y C' ⟨rfl, hb, rfl⟩
      unfold d_ones_L4
      dsimp only
      rw [if_pos (by omega)]
      exact zH_some ⟨rfl, rfl⟩
  obtain ⟨y, C', e, rfl, rfl⟩ := key
  unfold d_ones
  rw [e, zbd_some]
theorem m_threadOf (hA : aOK A) {k : Nat} (hk : k < 4) (hC : RM A C) {x : Int} (hx : 0 ≤ x ∧ x < 2) : zH (d_threadOf (k : Int) x C) (fun v C' => v = s_thread A (k : Int) x ∧ Msc C C') := by
  have hW := aW_OK (A := A)
  have hW1 := hW.1
  have hK := aK_OK hA hk
  have hh := hA.2.1 k hk
  have g4 : 0 ≤ (k : Int) ∧ (k : Int) < 4 := by omega
  have hs : s_thread A (k : Int) x = (if thv (aW A) (aK A k) (aH A k) = -1 ∨ x = 1 then thv (aW A) (aK A k) (aH A k) else ((ones (thv (aW A) (aK A k) (aH A k)) : Nat) : Int)) := by
    unfold s_thread
    rw [if_pos ⟨g4, hx⟩, Int.toNat_natCast]
  have h2n : 2 ^ wN (aW A) ≤ 2 ^ 12 := Nat.pow_le_pow_right (by decide) hW1
  unfold d_threadOf
  refine zH_bd2 (m_walks hA hC hk) (fun _ C1 h1 => ?_)
  obtain ⟨g1, g2, g3, g5⟩ := h1
  have hS := g2.1
  rw [hs]
  refine zH_bd2 (P := fun v C' => isT (aW A) (aK A k) (aH A k) v ∧ M80 C1 C') ?_ (fun v C2 h2 => ?_)
  · have base : ∀ C', M80 C1 C' → C' 72 2 = (wN (aW A) : Int) ∧ C' 72 7 = (kP (aK A k) : Int) ∧ C' 78 k = (aH A k : Int) := fun C' h => by
      rw [h 72 (by decide), h 78 (by decide)]
      exact ⟨g1.1, hS.1, g5.2.1 k hk⟩
    by_cases e : kP (aK A k) = aH A k
    · obtain ⟨b1, b2, b3⟩ := base C1 (fun _ _ => rfl)
      rw [zloop_eq]
      have e1 : d_threadOf_L10 (k : Int) x (-1, 0) C1 = some (.inr (-1), C1) := by
        unfold d_threadOf_L10
        dsimp only
        rw [b1, zshl_n hW1, if_neg (by have := Nat.two_pow_pos (wN (aW A)); omega), zg_t g4, Int.toNat_natCast, b2, b3, if_pos (by omega)]
      rw [e1]
      exact zH_some ⟨Or.inl ⟨rfl, e⟩, fun _ _ => rfl⟩
    · refine zH_for (fun i y C' => (∃ v, y = (v, (i : Int)) ∧ ((v = -1 ∧ ∀ j : Nat, j < i → ¬ lo (aW A) (aK A k) (aH A k) (j : Int)) ∨ ((0 ≤ v ∧ v < (i : Int)) ∧ lo (aW A) (aK A k) (aH A k) v ∧ ∀ j : Nat, j < i → lo (aW A) (aK A k) (aH A k) (j : Int) → lek v (j : Int)))) ∧ M80 C1 C') (2 ^ wN (aW A)) 0 (Nat.zero_le _) ⟨⟨-1, rfl, Or.inl ⟨rfl, fun j hj => absurd hj (Nat.not_lt_zero _)⟩⟩, fun _ _ => rfl⟩ ?_ ?_
      · rintro i y C' hi ⟨⟨v, rfl, hv⟩, hM⟩
        obtain ⟨b1, b2, b3⟩ := base C' hM
        unfold d_threadOf_L10
        dsimp only
        rw [b1, zshl_n hW1, if_neg (by omega), zg_t g4, Int.toNat_natCast, b2, b3, if_neg (by omega)]
        have look : (lo (aW A) (aK A k) (aH A k) (i : Int) → ((i : Int) = -1 ∧ ∀ j : Nat, j < i + 1 → ¬ lo (aW A) (aK A k) (aH A k) (j : Int)) ∨ ((0 ≤ (i : Int) ∧ (i : Int) < ((i + 1 : Nat) : Int)) ∧ lo (aW A) (aK A k) (aH A k) (i : Int) ∧ ∀ j : Nat, j < i + 1 → lo (aW A) (aK A k) (aH A k) (j : Int) → lek (i : Int) (j : Int))) → (¬ lo (aW A) (aK A k) (aH A k) (i : Int) → (v = -1 ∧ ∀ j : Nat, j < i + 1 → ¬ lo (aW A) (aK A k) (aH A k) (j : Int)) ∨ ((0 ≤ v ∧ v < ((i + 1 : Nat) : Int)) ∧ lo (aW A) (aK A k) (aH A k) v ∧ ∀ j : Nat, j < i + 1 → lo (aW A) (aK A k) (aH A k) (j : Int) → lek v (j : Int))) →
            zH (zbd (d_reaches (i : Int) C') fun v23 C24 => zg (0 ≤ (k : Int) ∧ (k : Int) < 4) (zg (0 ≤ (C24 78 k) ∧ (C24 78 k) < 8) (if 1000000 ≤ ((C24 80 (C24 78 k).toNat)) then (some ((.inl ((i : Int), (zadd (i : Int) 1)) : (Int × Int) ⊕ Int), C24)) else (some (.inl (v, (zadd (i : Int) 1)), C24))))) (fun o C' => match o with | .inl x' => (∃ v, x' = (v, ((i + 1 : Nat) : Int)) ∧ ((v = -1 ∧ ∀ j : Nat, j < i + 1 → ¬ lo (aW A) (aK A k) (aH A k) (j : Int)) ∨ ((0 ≤ v ∧ v < ((i + 1 : Nat) : Int)) ∧ lo (aW A) (aK A k) (aH A k) v ∧ ∀ j : Nat, j < i + 1 → lo (aW A) (aK A k) (aH A k) (j : Int) → lek v (j : Int)))) ∧ M80 C1 C' | .inr y => isT (aW A) (aK A k) (aH A k) y ∧ M80 C1 C') := by
          intro q1 q2
          refine zH_bd2 (m_reaches (cut := (i : Int)) hW (M80_wd hM g1) hK (M80_wk hM hS)) (fun _ C2 h2 => ?_)
          obtain ⟨r1, r2⟩ := h2
          have hM2 : M80 C1 C2 := fun a ha => (r2 a ha).trans (hM a ha)
          obtain ⟨b1, b2, b3⟩ := base C2 hM2
          rw [zg_t g4, b3, zg_t (by omega), Int.toNat_natCast, r1 _ hh, zinN (by omega)]
          by_cases hl : sn (aW A) (aK A k) (i : Int) (aH A k) < 1000000
          · rw [if_neg (by omega)]
            exact zH_some ⟨⟨v, rfl, q2 (fun z => z hl)⟩, hM2⟩
          · rw [if_pos (by omega)]
            exact zH_some ⟨⟨(i : Int), rfl, q1 hl⟩, hM2⟩
        rcases hv with ⟨e1, q⟩ | ⟨vr, vl, q⟩
        · rw [if_pos e1, zbs_inl]
          refine zH_mono (look (fun hl => Or.inr ⟨by omega, hl, fun j hj hlj => ?_⟩) (fun hl => Or.inl ⟨e1, fun j hj => ?_⟩)) (fun o C' h => by cases o with | inl a => exact h | inr b => exact h)
          · by_cases e2 : j = i
            · rw [e2]; exact Or.inr ⟨rfl, Int.le_refl _⟩
            · exact absurd hlj (q j (by omega))
          · by_cases e2 : j = i
            · rw [e2]; exact hl
            · exact q j (by omega)
        · rw [if_neg (by omega), m_ones, zbd_some, m_ones, zbd_some]
          by_cases ho : ones v ≤ ones (i : Int)
          · rw [if_pos (by omega), zbs_inr, zinN (by omega)]
            refine zH_some ⟨⟨v, rfl, Or.inr ⟨by omega, vl, fun j hj hlj => ?_⟩⟩, hM⟩
            by_cases e2 : j = i
            · rw [e2]; unfold lek; omega
            · exact q j (by omega) hlj
          · rw [if_neg (by omega), zbs_inl]
            refine zH_mono (look (fun hl => Or.inr ⟨by omega, hl, fun j hj hlj => ?_⟩) (fun hl => Or.inr ⟨by omega, vl, fun j hj hlj => ?_⟩)) (fun o C' h => by cases o with | inl a => exact h | inr b => exact h)
            · by_cases e2 : j = i
              · rw [e2]; exact Or.inr ⟨rfl, Int.le_refl _⟩
              · have := q j (by omega) hlj
                unfold lek at *
                omega
            · by_cases e2 : j = i
              · rw [e2] at hlj; exact absurd hlj hl
              · exact q j (by omega) hlj
      · rintro y C' ⟨⟨v, rfl, hv⟩, hM⟩
        obtain ⟨b1, b2, b3⟩ := base C' hM
        unfold d_threadOf_L10
        dsimp only
        rw [b1, zshl_n hW1, if_pos (by omega)]
        refine zH_some ⟨?_, hM⟩
        have hE : kE (aW A) (kP (aK A k)) (kO (aK A k)) = aH A k := kE_R hW _
        rcases hv with ⟨e1, q⟩ | ⟨vr, vl, q⟩
        · -- some cut loses: that of a side
          exfalso
          have hz : ∀ p q : Fin 8, zbit ((2 ^ p.val : Nat) : Int) q.val = decide (q.val = p.val) := by decide +kernel
          have hp8 := hK.1
          have h1 : zbit ((2 ^ kP (aK A k) : Nat) : Int) (kP (aK A k)) = true := by
            rw [hz ⟨kP (aK A k), hp8⟩ ⟨kP (aK A k), hp8⟩]; exact decide_eq_true rfl
          have h2 : ¬ zbit ((2 ^ kP (aK A k) : Nat) : Int) (kE (aW A) (kP (aK A k)) (kO (aK A k))) = true := by
            rw [hE, hz ⟨kP (aK A k), hp8⟩ ⟨aH A k, hh⟩, decide_eq_false (fun q => e q.symm)]; decide
          obtain ⟨l1, l2⟩ := cut_lo hW hK h1 h2
          rw [hE] at l1
          obtain ⟨n, hn⟩ : ∃ n : Nat, cutS (aW A) (aK A k) ((2 ^ kP (aK A k) : Nat) : Int) = (n : Int) := ⟨_, (Int.toNat_of_nonneg l2.1).symm⟩
          rw [hn] at l1 l2
          exact q n (by omega) l1
        · refine Or.inr ⟨e, ⟨vr.1, vr.2⟩, vl, fun c c0 c1 hl => ?_⟩
          obtain ⟨n, rfl⟩ : ∃ n : Nat, c = (n : Int) := ⟨c.toNat, by omega⟩
          exact q n (by omega) hl
  · obtain ⟨hv, hM⟩ := h2
    have hfin : Msc C C2 := Msc_tr g3 (M80_sc hM)
    rw [thv_e hv]
    by_cases e : v = -1
    · rw [if_pos e, if_pos (Or.inl e)]
      exact zH_some ⟨rfl, hfin⟩
    · rw [if_neg e]
      by_cases e1 : x = 1
      · rw [if_neg (fun z => z e1), if_pos (Or.inr e1)]
        exact zH_some ⟨rfl, hfin⟩
      · rw [if_pos e1, if_neg (fun z => z.elim e e1), m_ones, zbd_some]
        exact zH_some ⟨rfl, hfin⟩
theorem m_thread (hA : aOK A) (h : RM A C) {k x : Int} : zH (d_thread k x C) (QM C (s_thread A k x) A) := by
  unfold d_thread
  rw [m_isWalker, zbd_some]
  by_cases h1 : 0 ≤ k ∧ k < 4
  · rw [if_pos h1, if_neg (by decide), m_in, zbd_some]
    by_cases h2 : 0 ≤ x ∧ x < 2
    · rw [if_pos (show 0 ≤ x ∧ x ≤ 1 by omega), if_neg (by decide)]
      obtain ⟨j, rfl⟩ : ∃ j : Nat, k = (j : Int) := ⟨k.toNat, by omega⟩
      refine zH_bd2 (m_threadOf hA (by omega) h h2) (fun v C1 h3 => ?_)
      obtain ⟨rfl, h4⟩ := h3
      exact zH_some (QM_sc h4 h)
    · rw [if_neg (show ¬ (0 ≤ x ∧ x ≤ 1) by omega), if_pos rfl, show s_thread A k x = -2 from if_neg fun q => h2 q.2]
      exact zH_some (QM_same h)
  · rw [if_neg h1, if_pos rfl, show s_thread A k x = -2 from if_neg fun q => h1 q.1]
    exact zH_some (QM_same h)
end ZTHREADM

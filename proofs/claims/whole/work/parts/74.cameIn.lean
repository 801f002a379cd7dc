/-! cameIn() in the class -/
def SG (W : ZWd) (N : Nat) (v p : Nat → Nat) (C : ZC) : Prop := RWd W C ∧ C 27 4 = (N : Int) ∧ ∀ i, i < N → C 28 i = (v i : Int) ∧ C 29 i = (p i : Int)
section ZCAMEC
variable {W : ZWd} {N : Nat} {v p : Nat → Nat} {s : ZWk} {C : ZC} {A : ZA}
theorem SG_fr {C' : ZC} (h : ∀ a, (9 ≤ a ∧ a ≤ 12) ∨ (27 ≤ a ∧ a ≤ 29) → C' a = C a) (hS : SG W N v p C) : SG W N v p C' := by
  unfold SG RWd
  rw [h 9 (by omega), h 10 (by omega), h 11 (by omega), h 12 (by omega), h 27 (by omega), h 28 (by omega), h 29 (by omega)]
  exact hS
theorem SG_kfr {C' : ZC} (h : kfr 30 C C') (hS : SG W N v p C) : SG W N v p C' := SG_fr (fun a ha => h.1 a (by omega) (by omega) (by omega)) hS
theorem RL_ix {row : Nat → Int} : ∀ {os : List Nat}, RL row os → ∀ w, w ∈ os → ∃ i, i < os.length ∧ row i = (w : Int)
  | [], _, w, hw => by cases hw
  | u :: os, h, w, hw => by
    rcases List.mem_cons.mp hw with e | e
    · rw [e]; exact ⟨os.length, Nat.lt_succ_self _, h.1⟩
    · obtain ⟨i, h1, h2⟩ := RL_ix h.2 w e
      exact ⟨i, Nat.lt_succ_of_lt h1, h2⟩
theorem e_areLeft (hW : wOK W) (hS : SG W N v p C) (hN : N ≤ 4) (hv : ∀ i, i < N → v i < 12) (hk : kOK W s) (hw : RWk W s 30 C) {k : Nat} (hkN : k ≤ N) : ∃ b : Int, c_Sights_areLeft (k : Int) C = some (b, C) ∧ yn (lf N v s k) b := by
  have hW1 := hW.1
  have hl := kOK_len hk
  obtain ⟨s1, s2, s3, s4, s5⟩ := hw
  have h1 : zH (zloop (c_Sights_areLeft_L12 (k : Int)) (zxor (C 30 7) (-1), 0) C) (fun y C' => (∀ x, x < 32 → (zbit y x = true ↔ (zbit (kG s) x = false ∨ x ∈ kO s))) ∧ C' = C) := by
    refine zH_for (fun i y C' => (∃ u, y = (u, (i : Int)) ∧ ∀ x, x < 32 → (zbit u x = true ↔ (zbit (kG s) x = false ∨ ∃ j, j < i ∧ C 31 j = (x : Int)))) ∧ C' = C) (kO s).length 0 (Nat.zero_le _) ⟨⟨_, rfl, fun x hx => ?_⟩, rfl⟩ ?_ ?_
    · rw [s3, zbit_not _ _ hx]
      constructor
      · intro h
        left
        cases hz : zbit (kG s) x with
        | false => rfl
        | true => rw [hz] at h; cases h
      · rintro (h | ⟨j, h, _⟩)
        · rw [h]; rfl
        · exact absurd h (Nat.not_lt_zero _)
    · rintro i y C' hi ⟨⟨u, rfl, hu⟩, rfl⟩
      obtain ⟨w, hwm, hwr⟩ := RL_get s4 i hi
      have hw12 := kC_lt hk.2.1 w hwm
      unfold c_Sights_areLeft_L12
      dsimp only
      rw [s2, if_neg (by omega), zg_t (by omega), Int.toNat_natCast, zinN (by omega)]
      refine zH_some ⟨⟨_, rfl, fun x hx => ?_⟩, rfl⟩
      rw [zbit_or, show C' 31 i = (w : Int) from hwr, zbit_sh1 w (by omega) x hx, Bool.or_eq_true, hu x hx, decide_eq_true_iff]
      constructor
      · rintro ((h | ⟨j, j1, j2⟩) | h)
        · exact Or.inl h
        · exact Or.inr ⟨j, by omega, j2⟩
        · exact Or.inr ⟨i, Nat.lt_succ_self _, by rw [h]; exact hwr⟩
      · rintro (h | ⟨j, j1, j2⟩)
        · exact Or.inl (Or.inl h)
        · by_cases e : j = i
          · rw [e] at j2
            have : C' 31 i = (w : Int) := hwr
            rw [this] at j2
            exact Or.inr (by omega)
          · exact Or.inl (Or.inr ⟨j, by omega, j2⟩)
    · rintro y C' ⟨⟨u, rfl, hu⟩, rfl⟩
      unfold c_Sights_areLeft_L12
      dsimp only
      rw [s2, if_pos (by omega)]
      refine zH_some ⟨fun x hx => ?_, rfl⟩
      rw [hu x hx]
      constructor
      · rintro (h | ⟨j, j1, j2⟩)
        · exact Or.inl h
        · obtain ⟨w, w1, w2⟩ := RL_get s4 j j1
          have e : C' 31 j = (w : Int) := w2
          rw [e] at j2
          have : w = x := by omega
          exact Or.inr (by rw [← this]; exact w1)
      · rintro (h | h)
        · exact Or.inl h
        · obtain ⟨i, i1, i2⟩ := RL_ix s4 x h
          exact Or.inr ⟨i, i1, i2⟩
  obtain ⟨y, C1, e1, hy, rfl⟩ := h1
  have h2 : zH (zloop (c_Sights_areLeft_L45 y) (k : Int) C1) (fun o C' => (match o with | .inl _ => lf N v s k | .inr b => b = 0 ∧ ¬ lf N v s k) ∧ C' = C1) := by
    refine zH_for (fun i z C' => z = (i : Int) ∧ k ≤ i ∧ (∀ j, k ≤ j → j < i → zbit (kG s) (v j) = false ∨ v j ∈ kO s) ∧ C' = C1) N k hkN ⟨rfl, Nat.le_refl _, fun j h1 h2 => by omega, rfl⟩ ?_ ?_
    · rintro i z C' hi ⟨rfl, i1, i2, rfl⟩
      have hvi := hv i hi
      unfold c_Sights_areLeft_L45
      rw [hS.2.1, if_neg (by omega), zg_t (by omega), Int.toNat_natCast, (hS.2.2 i hi).1, e_has (by omega), zbd_some]
      by_cases e : zbit y (v i) = true
      · rw [if_pos e, if_pos (by decide), zinN (by omega)]
        refine zH_some ⟨rfl, by omega, fun j j1 j2 => ?_, rfl⟩
        by_cases ej : j = i
        · rw [ej]; exact (hy _ (by omega)).mp e
        · exact i2 j j1 (by omega)
      · rw [if_neg e, if_neg (by decide)]
        exact zH_some ⟨⟨rfl, fun z => e ((hy _ (by omega)).mpr (z i i1 hi))⟩, rfl⟩
    · rintro z C' ⟨rfl, i1, i2, rfl⟩
      unfold c_Sights_areLeft_L45
      rw [hS.2.1, if_pos (by omega)]
      exact zH_some ⟨fun i h1 h2 => i2 i h1 h2, rfl⟩
  obtain ⟨o, C2, e2, ho, rfl⟩ := h2
  unfold c_Sights_areLeft
  rw [e1, zbd_some, e2]
  cases o with
  | inl a => exact ⟨1, rfl, Or.inl ⟨rfl, ho⟩⟩
  | inr b => exact ⟨b, rfl, Or.inr ho⟩
def bkP (W : ZWd) (N : Nat) (v p : Nat → Nat) (m : Nat) (s : ZWk) (k : Nat) (tr : Int) : Prop := ∃ w, kK W s w = 2 ∧ ((v k = w ∧ p k = kP (kT W s w)) ∨ tr = zshl 1 (kP s : Int)) ∧ cl W N v p m (kT W s w) (nk v p k w (kP (kT W s w))) (zshl 1 (kP (kT W s w) : Int))
def nwP (W : ZWd) (N : Nat) (v p : Nat → Nat) (m : Nat) (s : ZWk) (k : Nat) (tr : Int) (w : Nat) : Prop := kK W s w = 1 ∧ ((v k = w ∧ p k = kP (kT W s w)) ∨ zbit tr (kP (kT W s w)) = false) ∧ cl W N v p m (kT W s w) (nk v p k w (kP (kT W s w))) (if (v k = w ∧ p k = kP (kT W s w)) then zshl 1 (kP (kT W s w) : Int) else zor tr (zshl 1 (kP (kT W s w) : Int)))
theorem cl_iff {m k : Nat} {tr : Int} (hk : k < N) : cl W N v p (m + 1) s k tr ↔ lf N v s k ∧ (bkP W N v p m s k tr ∨ ∃ w, nwP W N v p m s k tr w) := by
  constructor
  · rintro (h | ⟨h1, w, h2, h3, h4⟩)
    · omega
    · refine ⟨h1, ?_⟩
      have hle := kK_le (W := W) (s := s) (w := w)
      by_cases e : kK W s w = 2
      · refine Or.inl ⟨w, e, ?_, ?_⟩
        · rcases h3 with h3 | h3 | h3
          · exact Or.inl h3
          · exact Or.inr h3.2
          · omega
        · rw [if_pos (Or.inr e)] at h4; exact h4
      · have e1 : kK W s w = 1 := by omega
        refine Or.inr ⟨w, e1, ?_, ?_⟩
        · rcases h3 with h3 | h3 | h3
          · exact Or.inl h3
          · omega
          · exact Or.inr h3.2
        · by_cases q : v k = w ∧ p k = kP (kT W s w)
          · rw [if_pos (Or.inl q)] at h4; rw [if_pos q]; exact h4
          · rw [if_neg (fun z => z.elim q e)] at h4; rw [if_neg q]; exact h4
  · rintro ⟨h1, ⟨w, h2, h3, h4⟩ | ⟨w, h2, h3, h4⟩⟩
    · refine Or.inr ⟨h1, w, by omega, ?_, ?_⟩
      · rcases h3 with h3 | h3
        · exact Or.inl h3
        · exact Or.inr (Or.inl ⟨h2, h3⟩)
      · rw [if_pos (Or.inr h2)]; exact h4
    · refine Or.inr ⟨h1, w, by omega, ?_, ?_⟩
      · rcases h3 with h3 | h3
        · exact Or.inl h3
        · exact Or.inr (Or.inr ⟨h2, h3⟩)
      · by_cases q : v k = w ∧ p k = kP (kT W s w)
        · rw [if_pos (Or.inl q)]; rw [if_pos q] at h4; exact h4
        · rw [if_neg (fun z => z.elim q (fun y => by omega))]; rw [if_neg q] at h4; exact h4
theorem nk_le {k w q : Nat} (h : k < N) : nk v p k w q ≤ N := by unfold nk; split <;> omega
theorem h_goesOn (hW : wOK W) (hN : N ≤ 4) (hv : ∀ i, i < N → v i < 12 ∧ p i < 8) : ∀ (m f : Nat) (s : ZWk) (C : ZC) (k : Nat) (tr : Int), m < f → m < 1000 → kOK W s → SG W N v p C → RWk W s 30 C → k ≤ N →
    zH (c_Sights_goesOn f (k : Int) tr (m : Int) C) (fun b C' => yn (cl W N v p m s k tr) b ∧ RWk W s 30 C' ∧ kfr 30 C C')
  | _, 0, _, _, _, _, hf, _, _, _, _, _ => absurd hf (Nat.not_lt_zero _)
  | m, f + 1, s, C, k, tr, hf, hm, hk, hS, hw, hkN => by
    have hW1 := hW.1
    have hl := kOK_len hk
    have hp8 := hk.1
    show zH (c_Sights_goesOn_F (c_Sights_goesOn f) (k : Int) tr (m : Int) C) _
    unfold c_Sights_goesOn_F
    rw [hS.2.1]
    by_cases ek : k < N
    · rw [if_pos (by omega)]
      cases m with
      | zero =>
        rw [if_pos (by omega)]
        exact zH_some ⟨Or.inr ⟨rfl, fun z => absurd ek (Nat.not_lt.mpr z)⟩, hw, kfr_rf⟩
      | succ m =>
        rw [if_neg (by omega)]
        have em : zsub ((m + 1 : Nat) : Int) 1 = (m : Int) := by rw [zsub_e (by omega) (by omega)]; omega
        have ih := fun (t : ZWk) (C : ZC) (k' : Nat) (tr' : Int) (ht : kOK W t) (hS : SG W N v p C) (hw : RWk W t 30 C) (hk' : k' ≤ N) => h_goesOn hW hN hv m f t C k' tr' (by omega) (by omega) ht hS hw hk'
        have k4 : 0 ≤ (k : Int) ∧ (k : Int) < 4 := by omega
        obtain ⟨vk, pk⟩ := hS.2.2 k ek
        have zk : zadd (k : Int) 1 = ((k + 1 : Nat) : Int) := zinN (by omega)
        obtain ⟨b, e1, hb⟩ := e_areLeft hW hS hN (fun i hi => (hv i hi).1) hk hw hkN
        rw [e1, zbd_some]
        have hcl := cl_iff (W := W) (v := v) (p := p) (s := s) (m := m) (tr := tr) ek
        rcases hb with ⟨rfl, hb⟩ | ⟨rfl, hb⟩
        · rw [if_pos (by decide)]
          -- back
          refine zH_bd2 (P := fun b C' => yn (bkP W N v p m s k tr) b ∧ RWk W s 30 C' ∧ kfr 30 C C') ?_ (fun b C1 h1 => ?_)
          · unfold c_Sights_goesOnBack
            cases ho : kO s with
            | nil =>
              have e6 : C 30 6 = 0 := by rw [hw.2.1, ho]; rfl
              rw [e6, if_neg (by decide)]
              refine zH_some ⟨Or.inr ⟨rfl, fun ⟨w, h1, _⟩ => ?_⟩, hw, kfr_rf⟩
              have := (kK_2.mp h1).2.2
              rw [ho] at this; cases this
            | cons w os =>
              rw [ho] at hl
              simp only [List.length_cons] at hl
              have e6 : C 30 6 = ((os.length + 1 : Nat) : Int) := by rw [hw.2.1, ho]; rfl
              have e7 : zsub ((os.length + 1 : Nat) : Int) 1 = (os.length : Int) := by rw [zsub_e (by omega) (by omega)]; omega
              have e8 : C 31 os.length = (w : Int) := by
                have := hw.2.2.2.1
                rw [ho] at this
                exact this.1
              have e9 : C 32 os.length = ((wO W w (kP s) : Nat) : Int) := by
                have := hw.2.2.2.2
                rw [ho] at this
                have := this.1
                rw [bk_len] at this
                exact this
              have g12 : 0 ≤ (os.length : Int) ∧ (os.length : Int) < 12 := by omega
              have hkk := kK_B hk ho
              have h0 : kK W s w ≠ 0 := by rw [hkk]; decide
              have hto := kT_P hk h0
              have ht := kT_B hkk
              have hbk : bkP W N v p m s k tr ↔ ((v k = w ∧ p k = wO W w (kP s)) ∨ tr = zshl 1 (kP s : Int)) ∧ cl W N v p m (kB W s) (nk v p k w (wO W w (kP s))) (zshl 1 ((wO W w (kP s) : Nat) : Int)) := by
                constructor
                · rintro ⟨w', y1, y2, y3⟩
                  have := (kK_2.mp y1).2.2
                  rw [ho] at this
                  have e : w = w' := Option.some.inj this
                  subst e
                  rw [hto] at y2 y3
                  rw [ht] at y3
                  exact ⟨y2, y3⟩
                · rintro ⟨y2, y3⟩
                  refine ⟨w, hkk, ?_, ?_⟩
                  · rw [hto]; exact y2
                  · rw [hto, ht]; exact y3
              rw [e6, if_pos (by omega)]
              simp only [e7, Int.toNat_natCast, e8, e9, zg_t g12, zg_t k4, vk, pk]
              have eif : (if ¬ (v k : Int) = (w : Int) then some (((w : Int), ((wO W w (kP s) : Nat) : Int), (0 : Int)), C) else if ¬ (p k : Int) = ((wO W w (kP s) : Nat) : Int) then some (((w : Int), ((wO W w (kP s) : Nat) : Int), (0 : Int)), C) else some (((w : Int), ((wO W w (kP s) : Nat) : Int), (1 : Int)), C)) = some (((w : Int), ((wO W w (kP s) : Nat) : Int), (if v k = w ∧ p k = wO W w (kP s) then 1 else 0 : Int)), C) := by
                by_cases q1 : v k = w
                · rw [if_neg (show ¬ ¬ (v k : Int) = (w : Int) by omega)]
                  by_cases q2 : p k = wO W w (kP s)
                  · rw [if_neg (show ¬ ¬ (p k : Int) = ((wO W w (kP s) : Nat) : Int) by omega), if_pos ⟨q1, q2⟩]
                  · rw [if_pos (by omega), if_neg (fun z => q2 z.2)]
                · rw [if_pos (by omega), if_neg (fun z => q1 z.1)]
              rw [eif, zbd_some]
              dsimp only
              rw [hw.1]
              by_cases hgo : (v k = w ∧ p k = wO W w (kP s)) ∨ tr = zshl 1 (kP s : Int)
              · have eg : (if ¬ (if v k = w ∧ p k = wO W w (kP s) then 1 else 0 : Int) = 0 then some ((Sum.inl (if v k = w ∧ p k = wO W w (kP s) then 1 else 0 : Int) : Int ⊕ Int), C) else if tr = zshl 1 (kP s : Int) then some (Sum.inl (if v k = w ∧ p k = wO W w (kP s) then 1 else 0 : Int), C) else some (Sum.inr 0, C)) = some (Sum.inl (if v k = w ∧ p k = wO W w (kP s) then 1 else 0 : Int), C) := by
                  by_cases q : v k = w ∧ p k = wO W w (kP s)
                  · rw [if_pos q, if_pos (by decide)]
                  · rw [if_neg q, if_neg (by decide), if_pos (hgo.resolve_left q)]
                rw [eg, zbs_inl]
                obtain ⟨C2, b1, b2, b3, b4⟩ := h_goBack hw ho (by rw [ho]; simp only [List.length_cons]; omega)
                rw [b1, zbd_some]
                have ei : (if (if v k = w ∧ p k = wO W w (kP s) then 1 else 0 : Int) = 0 then some ((k : Int), C2) else some (zadd (k : Int) 1, C2)) = some (((nk v p k w (wO W w (kP s)) : Nat) : Int), C2) := by
                  unfold nk
                  by_cases q : v k = w ∧ p k = wO W w (kP s)
                  · rw [if_pos q, if_neg (by decide), if_pos q, zk]
                  · rw [if_neg q, if_pos rfl, if_neg q]
                rw [ei, zbd_some, em]
                refine zH_bd2 (ih (kB W s) C2 _ _ (kOK_B hW hk) (SG_kfr b3 hS) b2 (nk_le ek)) (fun b' C3 h3 => ?_)
                obtain ⟨hv3, d1, d2⟩ := h3
                obtain ⟨C4, u1, u2, u3⟩ := h_undoBack hW (kfr_wd (by decide) d2 (kfr_wd (by decide) b3 hS.1)) hk ho d1
                rw [u1, zbd_some, zg_t (hv3.elim (fun z => Or.inr z.1) (fun z => Or.inl z.1))]
                exact zH_some ⟨hv3.imp (fun z => ⟨z.1, hbk.mpr ⟨hgo, z.2⟩⟩) (fun z => ⟨z.1, fun y => z.2 (hbk.mp y).2⟩), u2, kfr_tr (kfr_tr b3 d2) u3⟩
              · have q : ¬ (v k = w ∧ p k = wO W w (kP s)) := fun z => hgo (Or.inl z)
                rw [if_neg q, if_neg (by decide), if_neg (fun z => hgo (Or.inr z)), zbs_inr]
                exact zH_some ⟨Or.inr ⟨rfl, fun y => hgo (hbk.mp y).1⟩, hw, kfr_rf⟩
          · obtain ⟨hv1, b1, b2⟩ := h1
            have hS1 := SG_kfr b2 hS
            rcases hv1 with ⟨rfl, hv1⟩ | ⟨rfl, hv1⟩
            · rw [if_pos (by decide)]
              exact zH_some ⟨Or.inl ⟨rfl, hcl.mpr ⟨hb, Or.inl hv1⟩⟩, b1, b2⟩
            · rw [if_neg (by decide)]
              refine zH_bd2 (P := fun b C' => yn (∃ w, nwP W N v p m s k tr w) b ∧ RWk W s 30 C' ∧ kfr 30 C C') ?_ (fun b C2 h2 => ?_)
              · unfold c_Sights_goesOnNew
                refine zH_bs (P := fun o C' => (match o with | .inl _ => ¬ ∃ w, nwP W N v p m s k tr w | .inr b => b = 1 ∧ ∃ w, nwP W N v p m s k tr w) ∧ RWk W s 30 C' ∧ kfr 30 C C') ?_ (fun a C' h => ?_) (fun b C' h => ?_)
                · refine zH_for (fun i x C' => x = (i : Int) ∧ (∀ w, w < i → ¬ nwP W N v p m s k tr w) ∧ RWk W s 30 C' ∧ kfr 30 C C') (wN W) 0 (Nat.zero_le _) ⟨rfl, fun w hw => absurd hw (Nat.not_lt_zero _), b1, b2⟩ ?_ ?_
                  · rintro i x C3 hi ⟨rfl, i1, i2, i3⟩
                    have hS3 := SG_kfr i3 hS
                    obtain ⟨vk3, pk3⟩ := hS3.2.2 k ek
                    have zi : zadd (i : Int) 1 = ((i + 1 : Nat) : Int) := zinN (by omega)
                    have skip : ¬ nwP W N v p m s k tr i → ∀ C4, RWk W s 30 C4 → kfr 30 C C4 → (zadd (i : Int) 1 = ((i + 1 : Nat) : Int) ∧ (∀ w, w < i + 1 → ¬ nwP W N v p m s k tr w) ∧ RWk W s 30 C4 ∧ kfr 30 C C4) := by
                      intro hn C4 x1 x2
                      refine ⟨zi, fun w hw => ?_, x1, x2⟩
                      by_cases e : w = i
                      · rw [e]; exact hn
                      · exact i1 w (by omega)
                    unfold c_Sights_goesOnNew_L3
                    rw [hS3.1.1, if_neg (by omega), i2.1]
                    by_cases hi2 : wI W i (kP s) = true
                    · rw [e_otherN hW hS3.1 hi2, zbd_some, if_neg (by omega), i2.2.2.1, e_has (by omega), zbd_some]
                      by_cases hg : zbit (kG s) i = true
                      · rw [if_pos hg, if_pos (by decide)]
                        exact zH_some (skip (fun z => by have := (kK_1.mp z.1).2; rw [hg] at this; cases this) C3 i2 i3)
                      · have hgf : zbit (kG s) i = false := Bool.eq_false_iff.mpr hg
                        have hkk : kK W s i = 1 := kK_1' hi2 hgf
                        have h0 : kK W s i ≠ 0 := by rw [hkk]; decide
                        have hto := kT_P hk h0
                        have ht := kT_N hkk
                        have hto8 := wO_lt hW (p := kP s) hi
                        have hroom := kOK_room hk hi hgf
                        have hnw : nwP W N v p m s k tr i ↔ ((v k = i ∧ p k = wO W i (kP s)) ∨ zbit tr (wO W i (kP s)) = false) ∧ cl W N v p m (kN W s i) (nk v p k i (wO W i (kP s))) (if (v k = i ∧ p k = wO W i (kP s)) then zshl 1 ((wO W i (kP s) : Nat) : Int) else zor tr (zshl 1 ((wO W i (kP s) : Nat) : Int))) := by
                          unfold nwP
                          rw [hto, ht]
                          exact ⟨fun z => z.2, fun z => ⟨hkk, z⟩⟩
                        rw [if_neg hg, if_neg (by decide), zg_t k4, zg_t k4, Int.toNat_natCast, vk3, pk3]
                        have eif : (if ¬ (v k : Int) = (i : Int) then some ((0 : Int), C3) else if ¬ (p k : Int) = ((wO W i (kP s) : Nat) : Int) then some (0, C3) else some (1, C3)) = some ((if v k = i ∧ p k = wO W i (kP s) then 1 else 0 : Int), C3) := by
                          by_cases q1 : v k = i
                          · rw [if_neg (show ¬ ¬ (v k : Int) = (i : Int) by omega)]
                            by_cases q2 : p k = wO W i (kP s)
                            · rw [if_neg (show ¬ ¬ (p k : Int) = ((wO W i (kP s) : Nat) : Int) by omega), if_pos ⟨q1, q2⟩]
                            · rw [if_pos (by omega), if_neg (fun z => q2 z.2)]
                          · rw [if_pos (by omega), if_neg (fun z => q1 z.1)]
                        rw [eif, zbd_some, e_has (by omega), zbd_some]
                        by_cases hgo : (v k = i ∧ p k = wO W i (kP s)) ∨ zbit tr (wO W i (kP s)) = false
                        · have eg : (if ¬ (if v k = i ∧ p k = wO W i (kP s) then 1 else 0 : Int) = 0 then some ((Sum.inl (if v k = i ∧ p k = wO W i (kP s) then 1 else 0 : Int) : Int ⊕ (Int ⊕ (Unit ⊕ Int))), C3) else if ¬ (if zbit tr (wO W i (kP s)) = true then 1 else 0 : Int) = 0 then some (Sum.inr (Sum.inl (zadd (i : Int) 1)), C3) else some (Sum.inl (if v k = i ∧ p k = wO W i (kP s) then 1 else 0 : Int), C3)) = some (Sum.inl (if v k = i ∧ p k = wO W i (kP s) then 1 else 0 : Int), C3) := by
                            by_cases q : v k = i ∧ p k = wO W i (kP s)
                            · rw [if_pos q, if_pos (by decide)]
                            · rw [if_neg q, if_neg (by decide), hgo.resolve_left q, if_neg (by decide)]
                          rw [eg, zbs_inl]
                          obtain ⟨C4, n1, n2, n3⟩ := h_goNew hW hS3.1 i2 hi2 (by omega)
                          rw [n1, zbd_some]
                          have ea : (if (if v k = i ∧ p k = wO W i (kP s) then 1 else 0 : Int) = 0 then some (zor tr (zshl 1 ((wO W i (kP s) : Nat) : Int)), C4) else some (zshl 1 ((wO W i (kP s) : Nat) : Int), C4)) = some ((if (v k = i ∧ p k = wO W i (kP s)) then zshl 1 ((wO W i (kP s) : Nat) : Int) else zor tr (zshl 1 ((wO W i (kP s) : Nat) : Int))), C4) := by
                            by_cases q : v k = i ∧ p k = wO W i (kP s)
                            · rw [if_pos q, if_neg (by decide), if_pos q]
                            · rw [if_neg q, if_pos rfl, if_neg q]
                          rw [ea, zbd_some]
                          have ei : (if (if v k = i ∧ p k = wO W i (kP s) then 1 else 0 : Int) = 0 then some (((if (v k = i ∧ p k = wO W i (kP s)) then zshl 1 ((wO W i (kP s) : Nat) : Int) else zor tr (zshl 1 ((wO W i (kP s) : Nat) : Int))), (k : Int)), C4) else some (((if (v k = i ∧ p k = wO W i (kP s)) then zshl 1 ((wO W i (kP s) : Nat) : Int) else zor tr (zshl 1 ((wO W i (kP s) : Nat) : Int))), zadd (k : Int) 1), C4)) = some (((if (v k = i ∧ p k = wO W i (kP s)) then zshl 1 ((wO W i (kP s) : Nat) : Int) else zor tr (zshl 1 ((wO W i (kP s) : Nat) : Int))), ((nk v p k i (wO W i (kP s)) : Nat) : Int)), C4) := by
                            unfold nk
                            by_cases q : v k = i ∧ p k = wO W i (kP s)
                            · rw [if_pos q, if_neg (by decide), if_pos q, zk, if_pos q]
                            · rw [if_neg q, if_pos rfl, if_neg q, if_neg q]
                          rw [ei, zbd_some]
                          dsimp only
                          rw [em]
                          refine zH_bd2 (ih (kN W s i) C4 _ _ (kOK_N hW hk hi2 hgf) (SG_kfr n3 hS3) n2 (nk_le ek)) (fun b' C5 h5 => ?_)
                          obtain ⟨hv5, d1, d2⟩ := h5
                          obtain ⟨C6, u1, u2, u3⟩ := h_undoNew hW hk hi2 hgf d1
                          have hfr : kfr 30 C C6 := kfr_tr (kfr_tr (kfr_tr i3 n3) d2) u3
                          rw [u1, zbd_some]
                          rcases hv5 with ⟨rfl, hv5⟩ | ⟨rfl, hv5⟩
                          · rw [if_neg (by decide)]
                            exact zH_some ⟨⟨rfl, i, hnw.mpr ⟨hgo, hv5⟩⟩, u2, hfr⟩
                          · rw [if_pos rfl]
                            exact zH_some (skip (fun z => hv5 (hnw.mp z).2) C6 u2 hfr)
                        · have q : ¬ (v k = i ∧ p k = wO W i (kP s)) := fun z => hgo (Or.inl z)
                          have q2 : zbit tr (wO W i (kP s)) = true := by
                            cases hz : zbit tr (wO W i (kP s)) with
                            | true => rfl
                            | false => exact absurd (Or.inr hz) hgo
                          rw [if_neg q, if_neg (by decide), if_pos q2, if_pos (by decide), zbs_inr]
                          exact zH_some (skip (fun z => hgo (hnw.mp z).1) C3 i2 i3)
                    · rw [e_other0 hW hS3.1 (fun z => hi2 (by have := z.2; rwa [Int.toNat_natCast] at this)), zbd_some, if_pos rfl]
                      exact zH_some (skip (fun z => hi2 (kK_1.mp z.1).1) C3 i2 i3)
                  · rintro x C3 ⟨rfl, i1, i2, i3⟩
                    have hS3 := SG_kfr i3 hS
                    unfold c_Sights_goesOnNew_L3
                    rw [hS3.1.1, if_pos (by omega)]
                    exact zH_some ⟨fun ⟨w, hw⟩ => i1 w (wI_iff.mp (kK_1.mp hw.1).1).1 hw, i2, i3⟩
                · exact zH_some ⟨Or.inr ⟨rfl, h.1⟩, h.2⟩
                · exact ⟨Or.inl h.1, h.2⟩
              · obtain ⟨hv2, d1, d2⟩ := h2
                rcases hv2 with ⟨rfl, hv2⟩ | ⟨rfl, hv2⟩
                · rw [if_neg (by decide)]
                  exact zH_some ⟨Or.inl ⟨rfl, hcl.mpr ⟨hb, Or.inr hv2⟩⟩, d1, d2⟩
                · rw [if_pos rfl]
                  exact zH_some ⟨Or.inr ⟨rfl, fun z => (hcl.mp z).2.elim hv1 hv2⟩, d1, d2⟩
        · rw [if_neg (by decide)]
          exact zH_some ⟨Or.inr ⟨rfl, fun z => hb (hcl.mp z).1⟩, hw, kfr_rf⟩
    · rw [if_neg (by omega)]
      refine zH_some ⟨Or.inl ⟨rfl, ?_⟩, hw, kfr_rf⟩
      cases m with
      | zero => exact Nat.not_lt.mp ek
      | succ m => exact Or.inl (Nat.not_lt.mp ek)
end ZCAMEC

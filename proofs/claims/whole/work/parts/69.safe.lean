/-! safe() in the class -/
def HT (W : ZWd) (C : ZC) : Prop := ∀ b, b < 8 → ∃ r, isH W b 8 r ∧ ∀ p, p < 8 → C (36 + b) p = (r p : Int)
def gd (W : ZWd) (h m : Nat) (t : ZWk) (wolf : Nat) : Prop := kP t ≠ wolf ∧ (kP t = h ∨ (wSt W wolf (kP t) ≠ kP t ∧ esc W h m t (wSt W wolf (kP t))))
/-- an answer 1 or 0 -/
def yn (P : Prop) (v : Int) : Prop := (v = 1 ∧ P) ∨ (v = 0 ∧ ¬ P)
section ZSAFEC
variable {W : ZWd} {s : ZWk} {C : ZC} {A : ZA}
theorem hops_up (hW : wOK W) {r : Nat → Nat} {i u v : Nat} (hi : i < wN W) (hu : u = if r (wB W i) + 1 < r (wA W i) then r (wB W i) + 1 else r (wA W i)) (hv : v = if u + 1 < r (wB W i) then u + 1 else r (wB W i)) : hStep W i r (zup (zup r (wA W i) u) (wB W i) v) := by
  have hne : wA W i ≠ wB W i := (hW.2 i hi).2.2.1
  have u1 : u ≤ r (wA W i) ∧ u ≤ r (wB W i) + 1 ∧ (u = r (wA W i) ∨ u = r (wB W i) + 1) := by
    rw [hu]; split <;> omega
  have v1 : v ≤ r (wB W i) ∧ v ≤ r (wA W i) + 1 ∧ (v = r (wB W i) ∨ v = r (wA W i) + 1) := by
    rw [hv]; split <;> omega
  refine ⟨fun p => ?_, ?_, ?_, fun p => ?_⟩
  · by_cases eb : p = wB W i
    · subst eb; rw [zp_eq]; exact v1.1
    · rw [zp_ne eb]
      by_cases ea : p = wA W i
      · subst ea; rw [zp_eq]; exact u1.1
      · rw [zp_ne ea]; exact Nat.le_refl _
  · rw [zp_ne hne, zp_eq]; exact u1.2.1
  · rw [zp_eq]; exact v1.2.1
  · by_cases eb : p = wB W i
    · subst eb; rw [zp_eq]
      exact v1.2.2.imp id fun z => Or.inr ⟨rfl, z⟩
    · rw [zp_ne eb]
      by_cases ea : p = wA W i
      · subst ea; rw [zp_eq]
        exact u1.2.2.imp id fun z => Or.inl ⟨rfl, z⟩
      · rw [zp_ne ea]; exact Or.inl rfl
theorem h_tellHops (hW : wOK W) (hR : RWd W C) (h6 : wN W ≤ 6) {b : Nat} (hb : b < 8) : zH (c_Hunt_tellHops (b : Int) C) (fun _ C' => (∃ r, isH W b 8 r ∧ ∀ p, p < 8 → C' (36 + b) p = (r p : Int)) ∧ ∀ a, a ≠ 36 + b → C' a = C a) := by
  have gb : 0 ≤ (b : Int) ∧ (b : Int) < 8 := by omega
  unfold c_Hunt_tellHops
  rw [zg_t gb, Int.toNat_natCast]
  refine zH_bd2 (h_fill (n := 8) (by decide)) (fun _ C1 h1 => ?_)
  obtain ⟨f1, f2⟩ := h1
  rw [zg_t gb]
  have base : ∀ C2 : ZC, (∀ a, a ≠ 36 + b → C2 a = C a) → C2 9 3 = (wN W : Int) ∧ ∀ w, w < wN W → C2 10 w = (wA W w : Int) ∧ C2 11 w = (wB W w : Int) := fun C2 h => by
    rw [h 9 (by omega), h 10 (by omega), h 11 (by omega)]
    exact ⟨hR.1, fun w hw => ⟨(hR.2 w hw).1, (hR.2 w hw).2.1⟩⟩
  refine zH_bd2 (P := fun _ C' => (∃ r, hInv W b 8 6 0 r ∧ ∀ p, p < 8 → C' (36 + b) p = (r p : Int)) ∧ ∀ a, a ≠ 36 + b → C' a = C a) ?_ (fun _ C2 h2 => ?_)
  · refine zH_for (fun k x C' => x = (k : Int) ∧ (∃ r, hInv W b 8 k 0 r ∧ ∀ p, p < 8 → C' (36 + b) p = (r p : Int)) ∧ ∀ a, a ≠ 36 + b → C' a = C a) 6 0 (by decide) ⟨rfl, ⟨_, hInv_0 (by decide), fun p hp => ?_⟩, fun a ha => (zu_nb ha).trans (f1 a ha)⟩ ?_ ?_
    · by_cases e : p = b
      · subst e; rw [zu_eq, zp_eq]; rfl
      · rw [zu_nj e, zp_ne e, f2 p, if_pos hp]; rfl
    · rintro k x C2 hk ⟨rfl, ⟨r, hr, hc⟩, hf⟩
      unfold c_Hunt_tellHops_L19
      rw [if_neg (by omega)]
      refine zH_bd2 (P := fun _ C' => (∃ r, hInv W b 8 k (wN W) r ∧ ∀ p, p < 8 → C' (36 + b) p = (r p : Int)) ∧ ∀ a, a ≠ 36 + b → C' a = C a) ?_ (fun _ C3 h3 => ?_)
      · refine zH_for (fun i x C' => x = (i : Int) ∧ (∃ r, hInv W b 8 k i r ∧ ∀ p, p < 8 → C' (36 + b) p = (r p : Int)) ∧ ∀ a, a ≠ 36 + b → C' a = C a) (wN W) 0 (Nat.zero_le _) ⟨rfl, ⟨r, hr, hc⟩, hf⟩ ?_ ?_
        · rintro i x C3 hi ⟨rfl, ⟨r, hr, hc⟩, hf⟩
          obtain ⟨b0, bw⟩ := base C3 hf
          obtain ⟨w1, w2⟩ := bw i hi
          have hm := hW.2 i hi
          have hne : wB W i ≠ wA W i := fun q => hm.2.2.1 q.symm
          have ga : 0 ≤ (wA W i : Int) ∧ (wA W i : Int) < 8 := by omega
          have gB : 0 ≤ (wB W i : Int) ∧ (wB W i : Int) < 8 := by omega
          have g12 : 0 ≤ (i : Int) ∧ (i : Int) < 12 := by omega
          have ca := hc (wA W i) hm.1
          have cb := hc (wB W i) hm.2.1
          have la := hr.2.2.2 (wA W i)
          have lb := hr.2.2.2 (wB W i)
          unfold c_Hunt_tellHops_L28
          rw [b0, if_neg (by omega)]
          simp only [Int.toNat_natCast, w1, w2, zg_t g12, zg_t ga, zg_t gB, ca, cb, zu_eq, zu_nj hne]
          rw [zinN (by omega)]
          have e1 : (if zadd (r (wB W i) : Int) 1 < (r (wA W i) : Int) then zadd (r (wB W i) : Int) 1 else (r (wA W i) : Int)) = ((if r (wB W i) + 1 < r (wA W i) then r (wB W i) + 1 else r (wA W i) : Nat) : Int) := by
            rw [zinN (by omega)]
            by_cases q : r (wB W i) + 1 < r (wA W i)
            · rw [if_pos (by omega), if_pos q]
            · rw [if_neg (by omega), if_neg q]
          rw [e1]
          generalize hu : (if r (wB W i) + 1 < r (wA W i) then r (wB W i) + 1 else r (wA W i)) = u
          have hul : u ≤ 9 := by rw [← hu]; split <;> omega
          have e2 : (if zadd (u : Int) 1 < (r (wB W i) : Int) then zadd (u : Int) 1 else (r (wB W i) : Int)) = ((if u + 1 < r (wB W i) then u + 1 else r (wB W i) : Nat) : Int) := by
            rw [zinN (by omega)]
            by_cases q : u + 1 < r (wB W i)
            · rw [if_pos (by omega), if_pos q]
            · rw [if_neg (by omega), if_neg q]
          rw [e2]
          generalize hv : (if u + 1 < r (wB W i) then u + 1 else r (wB W i)) = v
          refine zH_some ⟨rfl, ⟨_, hInv_W hi hr (hops_up hW hi hu.symm hv.symm), fun p hp => ?_⟩, fun a ha => by rw [zu_nb ha, zu_nb ha]; exact hf a ha⟩
          by_cases eb : p = wB W i
          · subst eb; rw [zu_eq, zp_eq]
          · rw [zu_nj eb, zp_ne eb]
            by_cases ea : p = wA W i
            · subst ea; rw [zu_eq, zp_eq]
            · rw [zu_nj ea, zp_ne ea]; exact hc p hp
        · rintro x C3 ⟨rfl, hr, hf⟩
          obtain ⟨b0, bw⟩ := base C3 hf
          unfold c_Hunt_tellHops_L28
          rw [b0, if_pos (by omega)]
          exact zH_some ⟨hr, hf⟩
      · obtain ⟨⟨r, hr, hc⟩, hf⟩ := h3
        exact zH_some ⟨zinN (by omega), ⟨r, hInv_P hr, hc⟩, hf⟩
    · rintro x C2 ⟨rfl, hr, hf⟩
      unfold c_Hunt_tellHops_L19
      rw [if_pos (by omega)]
      exact zH_some ⟨hr, hf⟩
  · obtain ⟨⟨r, hr, hc⟩, hf⟩ := h2
    exact zH_some ⟨⟨r, hInv_H h6 (by decide) hr, hc⟩, hf⟩
theorem e_wolfStep (hW : wOK W) (hR : RWd W C) (hT : HT W C) (hk : kOK W s) (hS : RWk W s 44 C) {wolf : Nat} (hw : wolf < 8) : c_Hunt_wolfStep (wolf : Int) C = some (((wSt W wolf (kP s) : Nat) : Int), C) := by
  have hp := hk.1
  have hW1 := hW.1
  obtain ⟨r, hr, hc⟩ := hT (kP s) hp
  have key : ∀ k i, i + k = wN W → ∃ o, zloop (c_Hunt_wolfStep_L15 (wolf : Int) (36 + kP s)) (i : Int) C = some (o, C) ∧ (match o with | .inl _ => wG W (kP s) wolf k i = wolf | .inr v => v = ((wG W (kP s) wolf k i : Nat) : Int)) := by
    intro k
    induction k with
    | zero =>
      intro i hi
      refine ⟨.inl (), ?_, rfl⟩
      rw [zloop_eq]
      have e : c_Hunt_wolfStep_L15 (wolf : Int) (36 + kP s) (i : Int) C = some (.inr (.inl ()), C) := by
        unfold c_Hunt_wolfStep_L15
        rw [hR.1, if_pos (by omega)]
      rw [e]
    | succ k ih =>
      intro i hi
      have next : ¬ (wI W i wolf = true ∧ hLt W (kP s) (wO W i wolf) wolf) → c_Hunt_wolfStep_L15 (wolf : Int) (36 + kP s) (i : Int) C = some (.inl (zadd (i : Int) 1), C) → ∃ o, zloop (c_Hunt_wolfStep_L15 (wolf : Int) (36 + kP s)) (i : Int) C = some (o, C) ∧ (match o with | .inl _ => wG W (kP s) wolf (k + 1) i = wolf | .inr v => v = ((wG W (kP s) wolf (k + 1) i : Nat) : Int)) := by
        intro hn e
        rw [zloop_eq, e]
        dsimp only
        rw [zinN (by omega)]
        have e2 : wG W (kP s) wolf (k + 1) i = wG W (kP s) wolf k (i + 1) := by
          conv => lhs; unfold wG
          rw [if_neg hn]
        rw [e2]
        exact ih (i + 1) (by omega)
      by_cases hi2 : wI W i wolf = true
      · have hto := wO_lt hW (p := wolf) (wI_iff.mp hi2).1
        have eb : c_Hunt_wolfStep_L15 (wolf : Int) (36 + kP s) (i : Int) C = if (r wolf : Int) ≤ (r (wO W i wolf) : Int) then some (.inl (zadd (i : Int) 1), C) else some (.inr (.inr ((wO W i wolf : Nat) : Int)), C) := by
          unfold c_Hunt_wolfStep_L15
          rw [hR.1, if_neg (by omega), e_otherN hW hR hi2, zbd_some, if_neg (by omega), zg_t (by omega), zg_t (by omega), Int.toNat_natCast, Int.toNat_natCast, hc _ hw, hc _ hto]
        by_cases hl : r (wO W i wolf) < r wolf
        · refine ⟨.inr ((wO W i wolf : Nat) : Int), ?_, ?_⟩
          · rw [zloop_eq, eb, if_neg (by omega)]
          · dsimp only
            unfold wG
            rw [if_pos ⟨hi2, (isH_lt hr).mp hl⟩]
        · refine next (fun z => hl ((isH_lt hr).mpr z.2)) ?_
          rw [eb, if_pos (by omega)]
      · refine next (fun z => hi2 z.1) ?_
        unfold c_Hunt_wolfStep_L15
        rw [hR.1, if_neg (by omega), e_other0 hW hR (fun z => hi2 (by have := z.2; rwa [Int.toNat_natCast] at this)), zbd_some, if_pos rfl]
  obtain ⟨o, e, ho⟩ := key (wN W) 0 (by omega)
  unfold c_Hunt_wolfStep
  rw [hS.1, zg_t (by omega), Int.toNat_natCast]
  have e : zloop (c_Hunt_wolfStep_L15 (wolf : Int) (36 + kP s)) 0 C = some (o, C) := e
  rw [e]
  unfold wSt
  cases o with
  | inl u => rw [zbs_inl]; dsimp only at ho; rw [ho]
  | inr v => rw [zbs_inr]; dsimp only at ho; rw [ho]
theorem HT_fr {C' : ZC} (h : ∀ a, 36 ≤ a → a ≤ 43 → C' a = C a) (hT : HT W C) : HT W C' := by
  intro b hb
  obtain ⟨r, h1, h2⟩ := hT b hb
  exact ⟨r, h1, fun p hp => by rw [h _ (by omega) (by omega)]; exact h2 p hp⟩
/-- what stands while the wolf hunts -/
def HS (W : ZWd) (h : Nat) (s : ZWk) (C : ZC) : Prop := RWd W C ∧ HT W C ∧ RWk W s 44 C ∧ C 44 4 = (h : Int)
theorem HS_fr {C' : ZC} {t : ZWk} {h : Nat} (hS : HS W h s C) (hf : kfr 44 C C') (ht : RWk W t 44 C') : HS W h t C' :=
  ⟨kfr_wd (by decide) hf hS.1, HT_fr (fun a h1 h2 => hf.1 a (by omega) (by omega) (by omega)) hS.2.1, ht, (hf.2 4 (by decide) (by decide) (by decide)).trans hS.2.2.2⟩
theorem kfr_rf {c : Nat} : kfr c C C := ⟨fun _ _ _ _ => rfl, fun _ _ _ _ => rfl⟩
theorem h_endsWell (hW : wOK W) {h m : Nat} {rec : Int → Int → ZC → Option (Int × ZC)} {t : ZWk} (hk : kOK W t) (hS : HS W h t C) {wolf : Nat} (hw : wolf < 8)
    (hrec : ∀ wolf : Nat, wolf < 8 → zH (rec (wolf : Int) (m : Int) C) (fun v C' => yn (esc W h m t wolf) v ∧ RWk W t 44 C' ∧ kfr 44 C C')) (hm : m < 1000) :
    zH (c_Hunt_endsWell rec (wolf : Int) ((m + 1 : Nat) : Int) C) (fun v C' => yn (gd W h m t wolf) v ∧ RWk W t 44 C' ∧ kfr 44 C C') := by
  have hp := hk.1
  obtain ⟨g1, g2, g3, g4⟩ := hS
  unfold c_Hunt_endsWell gd
  rw [g3.1, g4]
  by_cases e1 : kP t = wolf
  · rw [if_neg (fun z => z (by omega))]
    exact zH_some ⟨Or.inr ⟨rfl, fun z => z.1 e1⟩, g3, kfr_rf⟩
  · rw [if_pos (by omega)]
    by_cases e2 : kP t = h
    · rw [if_neg (fun z => z (by omega))]
      exact zH_some ⟨Or.inl ⟨rfl, e1, Or.inl e2⟩, g3, kfr_rf⟩
    · rw [if_pos (by omega), e_wolfStep hW g1 g2 hk g3 hw, zbd_some, g3.1]
      by_cases e3 : wSt W wolf (kP t) = kP t
      · rw [if_pos (by omega)]
        exact zH_some ⟨Or.inr ⟨rfl, fun z => z.2.elim e2 (fun y => y.1 e3)⟩, g3, kfr_rf⟩
      · rw [if_neg (by omega)]
        have em : zsub ((m + 1 : Nat) : Int) 1 = (m : Int) := by rw [zsub_e (by omega) (by omega)]; omega
        rw [em]
        refine zH_bd2 (hrec _ (wG_lt hW hw _ _)) (fun v C' h1 => ?_)
        obtain ⟨hv, h2, h3⟩ := h1
        rcases hv with ⟨rfl, hv⟩ | ⟨rfl, hv⟩
        · rw [if_neg (by decide)]
          exact zH_some ⟨Or.inl ⟨rfl, e1, Or.inr ⟨e3, hv⟩⟩, h2, h3⟩
        · rw [if_pos rfl]
          exact zH_some ⟨Or.inr ⟨rfl, fun z => z.2.elim e2 (fun y => hv y.2)⟩, h2, h3⟩
theorem h_escapes (hW : wOK W) {h : Nat} : ∀ (m f : Nat) (s : ZWk) (C : ZC) (wolf : Nat), m < f → m < 1000 → kOK W s → HS W h s C → wolf < 8 →
    zH (c_Hunt_escapes f (wolf : Int) (m : Int) C) (fun v C' => yn (esc W h m s wolf) v ∧ RWk W s 44 C' ∧ kfr 44 C C')
  | _, 0, _, _, _, hf, _, _, _, _ => absurd hf (Nat.not_lt_zero _)
  | 0, f + 1, s, C, wolf, _, _, hk, hS, hw => by
    show zH (c_Hunt_escapes_F (c_Hunt_escapes f) (wolf : Int) 0 C) _
    unfold c_Hunt_escapes_F
    rw [if_neg (by omega)]
    exact zH_some ⟨Or.inr ⟨rfl, fun z => z⟩, hS.2.2.1, kfr_rf⟩
  | m + 1, f + 1, s, C, wolf, hf, hm, hk, hS, hw => by
    have hW1 := hW.1
    have hl := kOK_len hk
    have ih := fun t C (ht : kOK W t) (hS : HS W h t C) => h_endsWell (m := m) (rec := c_Hunt_escapes f) hW ht hS hw (fun wf hwf => h_escapes hW m f t C wf (by omega) (by omega) ht hS hwf) (by omega)
    have hE : esc W h (m + 1) s wolf ↔ ∃ w, kK W s w ≠ 0 ∧ gd W h m (kT W s w) wolf := Iff.rfl
    have em : zsub ((m + 1 : Nat) : Int) 1 = (m : Int) := by rw [zsub_e (by omega) (by omega)]; omega
    show zH (c_Hunt_escapes_F (c_Hunt_escapes f) (wolf : Int) ((m + 1 : Nat) : Int) C) _
    unfold c_Hunt_escapes_F
    rw [if_pos (by omega)]
    -- back
    refine zH_bd2 (P := fun v C' => yn (∃ w, kK W s w = 2 ∧ gd W h m (kT W s w) wolf) v ∧ RWk W s 44 C' ∧ kfr 44 C C') ?_ (fun v C1 h1 => ?_)
    · unfold c_Hunt_escapesBack
      cases ho : kO s with
      | nil =>
        have e6 : C 44 6 = 0 := by rw [hS.2.2.1.2.1, ho]; rfl
        rw [e6, if_neg (by decide)]
        refine zH_some ⟨Or.inr ⟨rfl, fun ⟨w, h1, _⟩ => ?_⟩, hS.2.2.1, kfr_rf⟩
        have := (kK_2.mp h1).2.2
        rw [ho] at this; cases this
      | cons w os =>
        rw [ho] at hl
        simp only [List.length_cons] at hl
        have e6 : C 44 6 = ((os.length + 1 : Nat) : Int) := by rw [hS.2.2.1.2.1, ho]; rfl
        have e7 : zsub ((os.length + 1 : Nat) : Int) 1 = (os.length : Int) := by rw [zsub_e (by omega) (by omega)]; omega
        have e8 : C 45 os.length = (w : Int) := by
          have := hS.2.2.1.2.2.2.1
          rw [ho] at this
          exact this.1
        rw [e6, if_pos (by omega), e7, zg_t (by omega), Int.toNat_natCast, e8]
        obtain ⟨C2, b1, b2, b3, b4⟩ := h_goBack hS.2.2.1 ho (by rw [ho]; simp only [List.length_cons]; omega)
        rw [b1, zbd_some]
        have hkk := kK_B hk ho
        have ht : kT W s w = kB W s := by unfold kT kS; rw [hkk, if_neg (by decide)]
        refine zH_bd2 (ih (kB W s) C2 (kOK_B hW hk) (HS_fr hS b3 b2)) (fun v C3 h3 => ?_)
        obtain ⟨hv, d1, d2⟩ := h3
        obtain ⟨C4, u1, u2, u3⟩ := h_undoBack hW (kfr_wd (by decide) d2 (kfr_wd (by decide) b3 hS.1)) hk ho d1
        rw [u1, zbd_some, zg_t (hv.elim (fun z => Or.inr z.1) (fun z => Or.inl z.1))]
        refine zH_some ⟨?_, u2, kfr_tr (kfr_tr b3 d2) u3⟩
        refine hv.imp (fun z => ⟨z.1, w, hkk, by rw [ht]; exact z.2⟩) (fun z => ⟨z.1, fun ⟨w', y1, y2⟩ => z.2 ?_⟩)
        have := (kK_2.mp y1).2.2
        rw [ho] at this
        have e : w = w' := Option.some.inj this
        rw [← e, ht] at y2
        exact y2
    · obtain ⟨hv, b1, b2⟩ := h1
      have hS1 : HS W h s C1 := HS_fr hS b2 b1
      rcases hv with ⟨rfl, hv⟩ | ⟨rfl, hv⟩
      · rw [if_pos (by decide)]
        obtain ⟨w, h1, h2⟩ := hv
        exact zH_some ⟨Or.inl ⟨rfl, w, by omega, h2⟩, b1, b2⟩
      · rw [if_neg (by decide)]
        refine zH_bd2 (P := fun v C' => yn (∃ w, kK W s w = 1 ∧ gd W h m (kT W s w) wolf) v ∧ RWk W s 44 C' ∧ kfr 44 C C') ?_ (fun v C2 h2 => ?_)
        · unfold c_Hunt_escapesNew
          refine zH_bs (P := fun o C' => (match o with | .inl _ => (0 : Int) | .inr v => v) = 0 ∧ (¬ ∃ w, kK W s w = 1 ∧ gd W h m (kT W s w) wolf) ∧ RWk W s 44 C' ∧ kfr 44 C C' ∨ (∃ u, o = .inr u ∧ u = 1 ∧ (∃ w, kK W s w = 1 ∧ gd W h m (kT W s w) wolf) ∧ RWk W s 44 C' ∧ kfr 44 C C')) ?_ (fun a C' h => ?_) (fun b C' h => ?_)
          · refine zH_for (fun i x C' => x = (i : Int) ∧ (∀ w, w < i → kK W s w = 1 → ¬ gd W h m (kT W s w) wolf) ∧ RWk W s 44 C' ∧ kfr 44 C C') (wN W) 0 (Nat.zero_le _) ⟨rfl, fun w hw => absurd hw (Nat.not_lt_zero _), b1, b2⟩ ?_ ?_
            · rintro i x C3 hi ⟨rfl, i1, i2, i3⟩
              have hS3 := HS_fr hS i3 i2
              have e0 : kKi W s (i : Int) = kK W s i := by unfold kKi; rw [if_pos (by omega), Int.toNat_natCast]
              unfold c_Hunt_escapesNew_L2
              rw [hS3.1.1, if_neg (by omega), e_kindOf hW hS3.1 hk i2, zbd_some, e0]
              by_cases hkk : kK W s i = 1
              · obtain ⟨k1, k2⟩ := kK_1.mp hkk
                have hroom := kOK_room hk hi k2
                have ht : kT W s i = kN W s i := by unfold kT kS; rw [if_pos hkk]
                obtain ⟨C4, n1, n2, n3⟩ := h_goNew hW hS3.1 i2 k1 (by omega)
                rw [if_neg (by omega), n1, zbd_some]
                refine zH_bd2 (ih (kN W s i) C4 (kOK_N hW hk k1 k2) (HS_fr hS3 n3 n2)) (fun v C5 h5 => ?_)
                obtain ⟨hv5, d1, d2⟩ := h5
                obtain ⟨C6, u1, u2, u3⟩ := h_undoNew hW hk k1 k2 d1
                have hfr : kfr 44 C C6 := kfr_tr (kfr_tr (kfr_tr i3 n3) d2) u3
                rw [u1, zbd_some]
                rcases hv5 with ⟨rfl, hv5⟩ | ⟨rfl, hv5⟩
                · rw [if_neg (by decide)]
                  exact zH_some (Or.inr ⟨1, rfl, rfl, ⟨i, hkk, by rw [ht]; exact hv5⟩, u2, hfr⟩)
                · rw [if_pos rfl, zinN (by omega)]
                  refine zH_some ⟨rfl, fun w hw hk1 => ?_, u2, hfr⟩
                  by_cases e : w = i
                  · rw [e, ht]; exact hv5
                  · exact i1 w (by omega) hk1
              · rw [if_pos (by omega), zinN (by omega)]
                refine zH_some ⟨rfl, fun w hw hk1 => ?_, i2, i3⟩
                by_cases e : w = i
                · rw [e] at hk1; exact absurd hk1 hkk
                · exact i1 w (by omega) hk1
            · rintro x C3 ⟨rfl, i1, i2, i3⟩
              have hS3 := HS_fr hS i3 i2
              unfold c_Hunt_escapesNew_L2
              rw [hS3.1.1, if_pos (by omega)]
              exact zH_some (Or.inl ⟨rfl, fun ⟨w, h1, h2⟩ => i1 w (kK_lt (s := s) (by rw [h1]; decide)) h1 h2, i2, i3⟩)
          · rcases h with h | ⟨u, h, _⟩
            · exact zH_some ⟨Or.inr ⟨rfl, h.2.1⟩, h.2.2⟩
            · cases h
          · rcases h with ⟨h1, h2, h3⟩ | ⟨u, h1, h2, h3, h4⟩
            · exact ⟨Or.inr ⟨h1, h2⟩, h3⟩
            · cases h1
              exact ⟨Or.inl ⟨h2, h3⟩, h4⟩
        · obtain ⟨hv2, d1, d2⟩ := h2
          rcases hv2 with ⟨rfl, hv2⟩ | ⟨rfl, hv2⟩
          · rw [if_neg (by decide)]
            obtain ⟨w, y1, y2⟩ := hv2
            exact zH_some ⟨Or.inl ⟨rfl, w, by omega, y2⟩, d1, d2⟩
          · rw [if_pos rfl]
            refine zH_some ⟨Or.inr ⟨rfl, fun ⟨w, y1, y2⟩ => ?_⟩, d1, d2⟩
            have hle := kK_le (W := W) (s := s) (w := w)
            by_cases e : kK W s w = 1
            · exact hv2 ⟨w, e, y2⟩
            · exact hv ⟨w, by omega, y2⟩
noncomputable def safeV (W : ZWd) (h : Nat) (s : ZWk) (wolf : Nat) : Int := by
  classical exact if kP s = wolf then 0 else if kP s = h then 1 else if (∃ n, esc W h n s wolf) then 1 else 0
noncomputable def s_safe (A : ZA) (k w : Int) : Int := if (0 ≤ k ∧ k < 4) ∧ 0 ≤ w ∧ w < 8 then (if wN (aW A) ≤ 6 then safeV (aW A) (aH A k.toNat) (aK A k.toNat) w.toNat else -4) else -2
theorem c_safe (hA : aOK A) (h : RC A C) {k w : Int} : zH (c_N_safe k w C) (QC C (s_safe A k w) A) := by
  have hW := aW_OK (A := A)
  unfold c_N_safe s_safe
  rw [e_within, zbd_some]
  by_cases h1 : 0 ≤ k ∧ k < 4
  · rw [if_pos h1, if_neg (by decide), e_within, zbd_some]
    by_cases h2 : 0 ≤ w ∧ w < 8
    · rw [if_pos h2, if_pos (by decide), if_pos (show (0 ≤ k ∧ k < 4) ∧ 0 ≤ w ∧ w < 8 from ⟨h1, h2⟩), h.2.1.2.1]
      by_cases h6 : wN (aW A) ≤ 6
      · obtain ⟨j, rfl⟩ : ∃ j : Nat, k = (j : Int) := ⟨k.toNat, by omega⟩
        obtain ⟨wolf, rfl⟩ : ∃ j : Nat, w = (j : Int) := ⟨w.toNat, by omega⟩
        have hj : j < 4 := by omega
        have hwf : wolf < 8 := by omega
        have hk := aK_OK hA hj
        have hRk := h.2.2 j hj
        rw [if_pos (by omega), if_pos h6, zg_t h1, Int.toNat_natCast, Int.toNat_natCast]
        have fin : ∀ C' : ZC, (∀ a, a < 36 ∨ 46 < a → C' a = C a) → RC A C' ∧ Frc C C' := fun C' hf => ⟨RC_fr (fun a ha h0 h72 => hf a (by unfold scr at ha; omega)) h, fun a ha => hf a (by omega)⟩
        unfold c_Hunt_isEscaped
        obtain ⟨C1, e1, t1, t2, t3⟩ := h_become (c := 44) hW hk (c1 := 56 + 4 * j) (by omega) hRk.1.1.1
        rw [e1, zbd_some, t1.1, t3, hRk.2]
        unfold safeV
        by_cases e2 : kP (aK A j) = wolf
        · rw [if_neg (fun z => z (by omega)), zbd_some, if_pos rfl, if_pos e2]
          exact zH_some ⟨rfl, fin C1 (fun a ha => t2 a (by omega) (by omega) (by omega))⟩
        · rw [if_pos (by omega), if_neg e2]
          by_cases e3 : kP (aK A j) = aH A j
          · rw [if_neg (fun z => z (by omega)), zbd_some, if_neg (by decide), if_pos e3]
            exact zH_some ⟨rfl, fin C1 (fun a ha => t2 a (by omega) (by omega) (by omega))⟩
          · rw [if_pos (by omega), if_neg e3]
            have hR1 : RWd (aW A) C1 := by
              unfold RWd
              rw [t2 9 (by decide) (by decide) (by decide), t2 10 (by decide) (by decide) (by decide), t2 11 (by decide) (by decide) (by decide), t2 12 (by decide) (by decide) (by decide)]
              exact h.2.1.2
            refine zH_bd2 (P := fun v C' => yn (∃ n, esc (aW A) (aH A j) n (aK A j) wolf) v ∧ ∀ a, a < 36 ∨ 46 < a → C' a = C a) ?_ (fun v C2 h2 => ?_)
            · refine zH_bd2 (P := fun _ C' => HT (aW A) C' ∧ ∀ a, a < 36 ∨ 43 < a → C' a = C1 a) ?_ (fun _ C2 h2 => ?_)
              · refine zH_for (fun i x C' => x = (i : Int) ∧ (∀ b, b < i → ∃ r, isH (aW A) b 8 r ∧ ∀ p, p < 8 → C' (36 + b) p = (r p : Int)) ∧ ∀ a, a < 36 ∨ 43 < a → C' a = C1 a) 8 0 (by decide) ⟨rfl, fun b hb => absurd hb (Nat.not_lt_zero _), fun _ _ => rfl⟩ ?_ ?_
                · rintro i x C3 hi ⟨rfl, i1, i2⟩
                  have hR3 : RWd (aW A) C3 := by
                    unfold RWd
                    rw [i2 9 (by omega), i2 10 (by omega), i2 11 (by omega), i2 12 (by omega)]
                    exact hR1
                  unfold c_Hunt_isEscaped_L42
                  rw [if_neg (by omega)]
                  refine zH_bd2 (h_tellHops hW hR3 h6 hi) (fun _ C4 h4 => ?_)
                  refine zH_some ⟨zinN (by omega), fun b hb => ?_, fun a ha => (h4.2 a (by omega)).trans (i2 a ha)⟩
                  by_cases e : b = i
                  · subst e; exact h4.1
                  · obtain ⟨r, r1, r2⟩ := i1 b (by omega)
                    exact ⟨r, r1, fun p hp => by rw [h4.2 _ (by omega)]; exact r2 p hp⟩
                · rintro x C3 ⟨rfl, i1, i2⟩
                  unfold c_Hunt_isEscaped_L42
                  rw [if_pos (by omega)]
                  exact zH_some ⟨i1, i2⟩
              · obtain ⟨p1, p2⟩ := h2
                have hR2 : RWd (aW A) C2 := by
                  unfold RWd
                  rw [p2 9 (by omega), p2 10 (by omega), p2 11 (by omega), p2 12 (by omega)]
                  exact hR1
                have hS2 : HS (aW A) (aH A j) (aK A j) C2 := ⟨hR2, p1, RWk_fr (fun a ha => p2 a (by omega)) t1, by rw [p2 44 (by omega), t3]; exact hRk.2⟩
                refine zH_bd2 (h_escapes hW 12 13 (aK A j) C2 wolf (by decide) (by decide) hk hS2 hwf) (fun v C3 h3 => ?_)
                obtain ⟨hv, d1, d2⟩ := h3
                rw [zg_t (hv.elim (fun z => Or.inr z.1) (fun z => Or.inl z.1))]
                refine zH_some ⟨?_, fun a ha => ?_⟩
                · have hmu := mu_le hk
                  exact hv.imp (fun z => ⟨z.1, 12, z.2⟩) (fun z => ⟨z.1, fun ⟨n, hn⟩ => z.2 (esc_mu hW 12 n _ _ hk (by omega) hn)⟩)
                · exact (d2.1 a (by omega) (by omega) (by omega)).trans ((p2 a (by omega)).trans (t2 a (by omega) (by omega) (by omega)))
            · obtain ⟨hv, hf⟩ := h2
              rcases hv with ⟨rfl, hv⟩ | ⟨rfl, hv⟩
              · rw [if_neg (by decide), if_pos hv]
                exact zH_some ⟨rfl, fin C2 hf⟩
              · rw [if_pos rfl, if_neg hv]
                exact zH_some ⟨rfl, fin C2 hf⟩
      · rw [if_neg (by omega), if_neg h6]
        exact zH_some (QC_same h)
    · rw [if_neg h2, if_neg (by decide), if_neg (fun q => h2 q.2)]
      exact zH_some (QC_same h)
  · rw [if_neg h1, if_pos rfl, if_neg (fun q => h1 q.1)]
    exact zH_some (QC_same h)
end ZSAFEC

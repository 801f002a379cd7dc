/-! HOPS: how many ways lie between places; the wolf's step; who comes home -/
def hL (W : ZWd) (b : Nat) : Nat → Nat → Prop := ly (wN W) (wA W) (wB W) (fun _ => True) (fun q => q = b)
/-- a table of hops to a place, half made: k whole passes, i ways of the next -/
def hInv (W : ZWd) (b cap k i : Nat) (r : Nat → Nat) : Prop :=
  (∀ j, j ≤ k → ∀ p, hL W b j p → r p ≤ j) ∧ (∀ w, w < i → ∀ p, ((wA W w = p ∧ hL W b k (wB W w)) ∨ (wB W w = p ∧ hL W b k (wA W w))) → r p ≤ k + 1) ∧ (∀ p, r p < cap → hL W b (r p) p) ∧ ∀ p, r p ≤ cap
/-- a table made -/
def isH (W : ZWd) (b cap : Nat) (r : Nat → Nat) : Prop := ∀ p, (r p < cap ∧ hL W b (r p) p ∧ ∀ j, hL W b j p → r p ≤ j) ∨ (r p = cap ∧ ∀ j, ¬ hL W b j p)
/-- one way told in a table -/
def hStep (W : ZWd) (w : Nat) (r r' : Nat → Nat) : Prop := (∀ p, r' p ≤ r p) ∧ r' (wA W w) ≤ r (wB W w) + 1 ∧ r' (wB W w) ≤ r (wA W w) + 1 ∧
  ∀ p, r' p = r p ∨ (wA W w = p ∧ r' p = r (wB W w) + 1) ∨ (wB W w = p ∧ r' p = r (wA W w) + 1)
/-- nearer to a place -/
def hLt (W : ZWd) (b x y : Nat) : Prop := ∃ k, hL W b k x ∧ ¬ hL W b k y
noncomputable def wG (W : ZWd) (b wolf : Nat) : Nat → Nat → Nat
  | 0, _ => wolf
  | k + 1, i => @ite _ (wI W i wolf = true ∧ hLt W b (wO W i wolf) wolf) (Classical.propDecidable _) (wO W i wolf) (wG W b wolf k (i + 1))
/-- the wolf's place after its step, somebody being at p -/
noncomputable def wSt (W : ZWd) (wolf p : Nat) : Nat := wG W p wolf (wN W) 0
def kT (W : ZWd) (s : ZWk) (w : Nat) : ZWk := kS W s w (kK W s w)
noncomputable def esc (W : ZWd) (h : Nat) : Nat → ZWk → Nat → Prop
  | 0, _, _ => False
  | n + 1, s, wolf => ∃ w, kK W s w ≠ 0 ∧ kP (kT W s w) ≠ wolf ∧ (kP (kT W s w) = h ∨ (wSt W wolf (kP (kT W s w)) ≠ kP (kT W s w) ∧ esc W h n (kT W s w) (wSt W wolf (kP (kT W s w)))))
/-- how many steps can still be, at most -/
def mu (W : ZWd) (s : ZWk) : Nat := bs (fun _ => 2) (fun i => !zbit (kG s) i) (wN W) + (kO s).length
section ZHOPS
variable {W : ZWd} {s : ZWk} {b cap : Nat} {r r' : Nat → Nat}
theorem hInv_0 (hc : 0 < cap) : hInv W b cap 0 0 (zup (fun _ => cap) b 0) := by
  refine ⟨fun j hj p hp => ?_, fun w hw => absurd hw (Nat.not_lt_zero _), fun p hp => ?_, fun p => ?_⟩
  · have e : j = 0 := by omega
    subst e
    have hp : p = b := hp
    rw [hp, zp_eq]
    exact Nat.le_refl _
  · by_cases e : p = b
    · subst e; rw [zp_eq]; exact rfl
    · rw [zp_ne e] at hp; exact absurd hp (Nat.lt_irrefl _)
  · unfold zup
    split
    · omega
    · exact Nat.le_refl _
theorem hInv_W {k i : Nat} (hi : i < wN W) (h : hInv W b cap k i r) (hs : hStep W i r r') : hInv W b cap k (i + 1) r' := by
  obtain ⟨a1, a2, a3, a4⟩ := h
  obtain ⟨s1, s2, s3, s4⟩ := hs
  refine ⟨fun j hj p hp => Nat.le_trans (s1 p) (a1 j hj p hp), fun w hw p hp => ?_, fun p hp => ?_, fun p => Nat.le_trans (s1 p) (a4 p)⟩
  · by_cases e : w = i
    · subst e
      rcases hp with ⟨e, hp⟩ | ⟨e, hp⟩
      · rw [← e]; have := a1 k (Nat.le_refl _) _ hp; omega
      · rw [← e]; have := a1 k (Nat.le_refl _) _ hp; omega
    · exact Nat.le_trans (s1 p) (a2 w (by omega) p hp)
  · rcases s4 p with e | ⟨e, e2⟩ | ⟨e, e2⟩
    · rw [e] at hp ⊢; exact a3 p hp
    · rw [e2] at hp ⊢
      exact Or.inr ⟨i, hi, trivial, Or.inl ⟨e, a3 _ (by omega)⟩⟩
    · rw [e2] at hp ⊢
      exact Or.inr ⟨i, hi, trivial, Or.inr ⟨e, a3 _ (by omega)⟩⟩
theorem hInv_P {k : Nat} (h : hInv W b cap k (wN W) r) : hInv W b cap (k + 1) 0 r := by
  obtain ⟨a1, a2, a3, a4⟩ := h
  refine ⟨fun j hj p hp => ?_, fun w hw => absurd hw (Nat.not_lt_zero _), a3, a4⟩
  by_cases e : j ≤ k
  · exact a1 j e p hp
  · have e : j = k + 1 := by omega
    subst e
    rcases hp with hp | ⟨i, hi, -, hp⟩
    · have := a1 k (Nat.le_refl _) p hp; omega
    · exact a2 i hi p hp
theorem hInv_H {k : Nat} (hn : wN W ≤ k) (hk : k < cap) (h : hInv W b cap k 0 r) : isH W b cap r := by
  obtain ⟨a1, a2, a3, a4⟩ := h
  intro p
  by_cases hc : r p < cap
  · refine Or.inl ⟨hc, a3 p hc, fun j hj => ?_⟩
    by_cases hjk : j ≤ k
    · exact a1 j hjk p hj
    · have := a1 k (Nat.le_refl _) p (ly_stopW hn j hj)
      omega
  · have := a4 p
    refine Or.inr ⟨by omega, fun j hj => ?_⟩
    have := a1 k (Nat.le_refl _) p (ly_stopW hn j hj)
    omega
theorem isH_lt (h : isH W b cap r) {x y : Nat} : r x < r y ↔ hLt W b x y := by
  unfold hLt
  rcases h x with ⟨x1, x2, x3⟩ | ⟨x1, x2⟩
  · rcases h y with ⟨y1, y2, y3⟩ | ⟨y1, y2⟩
    · refine ⟨fun q => ⟨r x, x2, fun z => by have := y3 _ z; omega⟩, fun ⟨k, k1, k2⟩ => ?_⟩
      have := x3 k k1
      by_cases e : r x < r y
      · exact e
      · exact absurd (ly_mono (show r y ≤ k by omega) y2) k2
    · exact ⟨fun _ => ⟨r x, x2, y2 _⟩, fun _ => by omega⟩
  · refine ⟨fun q => ?_, fun ⟨k, k1, _⟩ => absurd k1 (x2 k)⟩
    rcases h y with ⟨y1, y2, y3⟩ | ⟨y1, y2⟩ <;> omega
theorem wG_lt (hW : wOK W) {wolf : Nat} (hw : wolf < 8) : ∀ k i, wG W b wolf k i < 8
  | 0, _ => hw
  | k + 1, i => by
    unfold wG
    split
    · next h => exact wO_lt hW (wI_iff.mp h.1).1
    · exact wG_lt hW hw k (i + 1)
theorem kK_B {w : Nat} {os : List Nat} (hk : kOK W s) (ho : kO s = w :: os) : kK W s w = 2 := by
  have hc := hk.2.1
  rw [ho] at hc
  exact kK_2.mpr ⟨hc.1, hk.2.2.2.1 w (by rw [ho]; exact List.mem_cons_self), by rw [ho]; rfl⟩
/-- a step is a new one, or back by the last open way -/
theorem kK_or (hk : kOK W s) {w : Nat} (h : kK W s w ≠ 0) : (kK W s w = 1 ∧ kT W s w = kN W s w ∧ wI W w (kP s) = true ∧ zbit (kG s) w = false) ∨ (kK W s w = 2 ∧ kT W s w = kB W s ∧ wI W w (kP s) = true ∧ ∃ os, kO s = w :: os) := by
  have hle := kK_le (W := W) (s := s) (w := w)
  unfold kT kS
  by_cases e : kK W s w = 1
  · rw [if_pos e]
    exact Or.inl ⟨e, rfl, (kK_1.mp e).1, (kK_1.mp e).2⟩
  · rw [if_neg e]
    have e2 : kK W s w = 2 := by omega
    obtain ⟨h1, h2, h3⟩ := kK_2.mp e2
    refine Or.inr ⟨e2, rfl, h1, ?_⟩
    cases ho : kO s with
    | nil => rw [ho] at h3; cases h3
    | cons v os =>
      rw [ho] at h3
      exact ⟨os, by rw [show v = w from Option.some.inj h3]⟩
theorem kT_P (hk : kOK W s) {w : Nat} (h : kK W s w ≠ 0) : kP (kT W s w) = wO W w (kP s) := by
  rcases kK_or hk h with ⟨_, e, _⟩ | ⟨_, e, _, os, ho⟩
  · rw [e]; rfl
  · rw [e]; unfold kB; rw [ho]; rfl
theorem kOK_T (hW : wOK W) (hk : kOK W s) {w : Nat} (h : kK W s w ≠ 0) : kOK W (kT W s w) := kOK_S hW hk h
theorem kK_lt {w : Nat} (h : kK W s w ≠ 0) : w < wN W := (wI_iff.mp (kK_in h)).1
theorem mu_T (hW : wOK W) (hk : kOK W s) {w : Nat} (h : kK W s w ≠ 0) : mu W (kT W s w) + 1 = mu W s := by
  have hW1 := hW.1
  have hw := kK_lt h
  unfold mu
  rcases kK_or hk h with ⟨_, e, _, hg⟩ | ⟨_, e, _, os, ho⟩
  · rw [e]
    show bs (fun _ => 2) (fun i => !zbit (zor (kG s) (zshl 1 (w : Int))) i) (wN W) + ((kO s).length + 1) + 1 = _
    have h1 : bs (fun _ => 2) (fun i => !zbit (kG s) i) (wN W) = bs (fun _ => 2) (fun i => (!zbit (zor (kG s) (zshl 1 (w : Int))) i) || decide (i = w)) (wN W) := by
      refine bs_cg fun i hi => ?_
      show (!zbit (kG s) i) = _
      rw [zbit_or, zbit_sh1 w (by omega) i (by omega)]
      by_cases e : i = w
      · subst e; rw [hg]; simp
      · simp [e]
    rw [h1, bs_add (by rw [zbit_or, zbit_sh1 w (by omega) w (by omega)]; simp) hw]
    omega
  · rw [e]
    unfold kB
    rw [ho]
    show _ + os.length + 1 = _ + (os.length + 1)
    rfl
theorem nodup_bs {f : Nat → Bool} {n : Nat} : ∀ (l : List Nat) (f : Nat → Bool), l.Nodup → (∀ w, w ∈ l → w < n ∧ f w = true) → l.length ≤ bs (fun _ => 1) f n
  | [], _, _, _ => Nat.zero_le _
  | w :: l, f, hn, h => by
    have hn2 := List.nodup_cons.mp hn
    have hw := h w List.mem_cons_self
    have ih := nodup_bs (f := f) (n := n) l (fun i => f i && !decide (i = w)) hn2.2 (fun v hv => by
      have hv2 := h v (List.mem_cons_of_mem _ hv)
      refine ⟨hv2.1, ?_⟩
      show (f v && !decide (v = w)) = true
      rw [hv2.2, decide_eq_false (fun e => hn2.1 (by rw [← e]; exact hv))]
      rfl)
    have e : bs (fun _ => 1) f n = bs (fun _ => 1) (fun i => (f i && !decide (i = w)) || decide (i = w)) n := bs_cg fun i _ => by
      show f i = ((f i && !decide (i = w)) || decide (i = w))
      by_cases e : i = w
      · subst e; rw [hw.2]; simp
      · simp [e]
    rw [e, bs_add (by simp) hw.1]
    simp only [List.length_cons]
    omega
theorem mu_le (hk : kOK W s) : mu W s ≤ 2 * wN W := by
  have h1 := nodup_bs (f := zbit (kG s)) (n := wN W) (kO s) (zbit (kG s)) hk.2.2.1 (fun w hw => ⟨kC_lt hk.2.1 w hw, hk.2.2.2.1 w hw⟩)
  have h2 : ∀ n, bs (fun _ => 2) (fun i => !zbit (kG s) i) n + bs (fun _ => 1) (zbit (kG s)) n + bs (fun _ => 1) (zbit (kG s)) n = 2 * n := by
    intro n
    induction n with
    | zero => rfl
    | succ n ih =>
      unfold bs
      cases hb : zbit (kG s) n <;> simp [hb] <;> omega
  have := h2 (wN W)
  unfold mu
  omega
theorem esc_mu (hW : wOK W) {h : Nat} : ∀ m n (s : ZWk) (wolf : Nat), kOK W s → mu W s ≤ m → esc W h n s wolf → esc W h m s wolf
  | _, 0, _, _, _, _, hh => hh.elim
  | 0, n + 1, s, wolf, hk, hm, hh => by
    obtain ⟨w, h1, _⟩ := hh
    have := mu_T hW hk h1
    omega
  | m + 1, n + 1, s, wolf, hk, hm, hh => by
    obtain ⟨w, h1, h2, h3⟩ := hh
    have := mu_T hW hk h1
    exact ⟨w, h1, h2, h3.imp id fun q => ⟨q.1, esc_mu hW m n _ _ (kOK_T hW hk h1) (by omega) q.2⟩⟩
end ZHOPS

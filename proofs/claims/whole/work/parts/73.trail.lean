/-! SIGHTS: a shortest row of steps to the next sight goes back, then on by new ways to places not on its trail -/
def fF (W : ZWd) (N : Nat) (v p : Nat → Nat) (k : Nat) (s : ZWk) : Prop := ∃ w, kK W s w ≠ 0 ∧ (v k = w ∧ p k = kP (kT W s w)) ∧ SH W N v p (kT W s w) (k + 1)
/-- steps that do not show the next sight, and then it -/
def pt (W : ZWd) (N : Nat) (v p : Nat → Nat) (k : Nat) : ZWk → List Nat → Prop
  | s, [] => fF W N v p k s
  | s, w :: ws => kK W s w ≠ 0 ∧ ¬ (v k = w ∧ p k = kP (kT W s w)) ∧ pt W N v p k (kT W s w) ws
def rn (W : ZWd) : ZWk → List Nat → ZWk
  | s, [] => s
  | s, w :: ws => rn W (kT W s w) ws
def mn (W : ZWd) (N : Nat) (v p : Nat → Nat) (k : Nat) (s : ZWk) (ws : List Nat) : Prop := pt W N v p k s ws ∧ ∀ ws', pt W N v p k s ws' → ws.length ≤ ws'.length
def alN (W : ZWd) : ZWk → List Nat → Prop
  | _, [] => True
  | s, w :: ws => kK W s w = 1 ∧ alN W (kT W s w) ws
section ZTRAIL
variable {W : ZWd} {N : Nat} {v p : Nat → Nat} {s : ZWk} {k : Nat}
theorem nk_sd {w q : Nat} (h : v k = w ∧ p k = q) : nk v p k w q = k + 1 := if_pos h
theorem nk_ns {w q : Nat} (h : ¬ (v k = w ∧ p k = q)) : nk v p k w q = k := if_neg h
theorem pt_of (hk : k < N) : ∀ (n : Nat) (s : ZWk), sh W N v p n s k → ∃ ws, pt W N v p k s ws
  | 0, _, h => absurd hk (Nat.not_lt.mpr h)
  | n + 1, s, h => by
    rcases h with h | ⟨w, h1, h2⟩
    · exact absurd hk (Nat.not_lt.mpr h)
    · by_cases e : v k = w ∧ p k = kP (kT W s w)
      · rw [nk_sd e] at h2
        exact ⟨[], w, h1, e, n, h2⟩
      · rw [nk_ns e] at h2
        obtain ⟨ws, hws⟩ := pt_of hk n _ h2
        exact ⟨w :: ws, h1, e, hws⟩
theorem pt_SH : ∀ (ws : List Nat) (s : ZWk), pt W N v p k s ws → SH W N v p s k
  | [], s, ⟨w, h1, h2, h3⟩ => SH_step h1 (by rw [nk_sd h2]; exact h3)
  | w :: ws, s, ⟨h1, h2, h3⟩ => SH_step h1 (by rw [nk_ns h2]; exact pt_SH ws _ h3)
theorem mn_tl {w : Nat} {ws : List Nat} (h : mn W N v p k s (w :: ws)) : mn W N v p k (kT W s w) ws := by
  refine ⟨h.1.2.2, fun ws' h' => ?_⟩
  have := h.2 (w :: ws') ⟨h.1.1, h.1.2.1, h'⟩
  simp only [List.length_cons] at this
  omega
theorem mn_ex : ∀ (n : Nat) (ws : List Nat), ws.length ≤ n → pt W N v p k s ws → ∃ ws', mn W N v p k s ws'
  | n, ws, hn, h => by
    by_cases q : ∃ ws', pt W N v p k s ws' ∧ ws'.length < ws.length
    · obtain ⟨ws', h1, h2⟩ := q
      cases n with
      | zero => omega
      | succ n => exact mn_ex n ws' (by omega) h1
    · exact ⟨ws, h, fun ws' h' => Nat.not_lt.mp fun z => q ⟨ws', h', z⟩⟩
theorem Rd_P {u v' : ZWk} (h : Rd W u v') : kP u = kP v' := by
  obtain ⟨X, R, Z, Y, _, _, e1, _⟩ := h
  exact e1
theorem Rd_N (hW : wOK W) {u v' : ZWk} (hu : kOK W u) (h : Rd W u v') {w : Nat} (hw : kK W u w = 1) : kK W v' w = 1 ∧ Rd W (kT W u w) (kT W v' w) := by
  have hW1 := hW.1
  obtain ⟨X, R, Z, Y, o1, o2, e1, g1, g2, e2, e3⟩ := h
  obtain ⟨i1, z1⟩ := kK_1.mp hw
  have hwn := (wI_iff.mp i1).1
  have zv : zbit (kG v') w = false := by
    cases hb : zbit (kG v') w with
    | false => rfl
    | true => rw [g1 w hb] at z1; cases z1
  have kv : kK W v' w = 1 := kK_1' (by rw [← e1]; exact i1) zv
  refine ⟨kv, ?_⟩
  rw [kT_N hw, kT_N kv]
  refine ⟨w :: X, R, Z, Y, ?_, ?_, ?_, fun i hi => ?_, fun i hi => ?_, ?_, e3⟩
  · show w :: kO u = _; rw [o1]; rfl
  · show w :: kO v' = _; rw [o2]; rfl
  · show wO W w (kP u) = wO W w (kP v'); rw [e1]
  · rw [zbit_N (by omega)] at hi ⊢
    rcases Bool.or_eq_true_iff.mp hi with q | q
    · rw [g1 i q]; rfl
    · rw [q, Bool.or_true]
  · rw [zbit_N (by omega), g2 i hi]
    have hiu := hu.2.2.2.1 i (by rw [o1]; exact List.mem_append_left _ (List.mem_append_right _ hi))
    have : i ≠ w := fun q => by rw [q, z1] at hiu; cases hiu
    rw [decide_eq_false this]; rfl
  · show kE W (kE W (wO W w (wO W w (kP u))) X) R = kE W (kE W (wO W w (wO W w (kP u))) X) Z
    rw [wO_O hW i1]; exact e2
theorem Rd_fF (hW : wOK W) {u v' : ZWk} (hu : kOK W u) (hv : kOK W v') (h : Rd W u v') (hf : fF W N v p k u) : fF W N v p k v' := by
  obtain ⟨w, h1, h2, n, h3⟩ := hf
  obtain ⟨k1, k2⟩ := Rd_step hW (Rd_sim hW n) hu hv h h1 h3
  exact ⟨w, k1, by rw [kT_P hv k1, ← Rd_P h, ← kT_P hu h1]; exact h2, k2⟩
theorem Rd_pt (hW : wOK W) : ∀ (ws : List Nat) (u v' : ZWk), kOK W u → kOK W v' → Rd W u v' → alN W u ws → pt W N v p k u ws → pt W N v p k v' ws
  | [], u, v', hu, hv, h, _, hp => Rd_fF hW hu hv h hp
  | w :: ws, u, v', hu, hv, h, ha, hp => by
    obtain ⟨kv, hr⟩ := Rd_N hW hu h ha.1
    have h0 : kK W v' w ≠ 0 := by rw [kv]; decide
    refine ⟨h0, ?_, Rd_pt hW ws _ _ (kOK_T hW hu hp.1) (kOK_T hW hv h0) hr ha.2 hp.2.2⟩
    rw [kT_P hv h0, ← Rd_P h, ← kT_P hu hp.1]
    exact hp.2.1
/-- the same place and open ways, less gone -/
def Md (u v' : ZWk) : Prop := kO u = kO v' ∧ kP u = kP v' ∧ ∀ i, zbit (kG v') i = true → zbit (kG u) i = true
theorem Md_Rd {u v' : ZWk} (h : Md u v') : Rd W u v' := ⟨[], [], [], kO u, rfl, h.1.symm, h.2.1, h.2.2, fun i hi => (by cases hi), rfl, fun _ => rfl⟩
theorem Md_pt (hW : wOK W) : ∀ (ws : List Nat) (u v' : ZWk), kOK W u → kOK W v' → Md u v' → pt W N v p k u ws → pt W N v p k v' ws
  | [], u, v', hu, hv, h, hp => Rd_fF hW hu hv (Md_Rd h) hp
  | w :: ws, u, v', hu, hv, h, hp => by
    have hW1 := hW.1
    have hwn := kK_lt hp.1
    have key : kK W v' w ≠ 0 ∧ Md (kT W u w) (kT W v' w) := by
      rcases kK_or hu hp.1 with ⟨k1, t1, i1, z1⟩ | ⟨k2, t2, i2, os, ho⟩
      · have zv : zbit (kG v') w = false := by
          cases hb : zbit (kG v') w with
          | false => rfl
          | true => rw [h.2.2 w hb] at z1; cases z1
        have kv : kK W v' w = 1 := kK_1' (by rw [← h.2.1]; exact i1) zv
        refine ⟨by rw [kv]; decide, ?_⟩
        rw [t1, kT_N kv]
        refine ⟨by show w :: kO u = w :: kO v'; rw [h.1], by show wO W w (kP u) = wO W w (kP v'); rw [h.2.1], fun i hi => ?_⟩
        rw [zbit_N (by omega)] at hi ⊢
        rcases Bool.or_eq_true_iff.mp hi with q | q
        · rw [h.2.2 i q]; rfl
        · rw [q, Bool.or_true]
      · have ho' : kO v' = w :: os := by rw [← h.1, ho]
        have kv := kK_B hv ho'
        have hbu : kB W u = (wO W w (kP u), os, kG u) := by unfold kB; rw [ho]
        have hbv : kB W v' = (wO W w (kP v'), os, kG v') := by unfold kB; rw [ho']
        refine ⟨by rw [kv]; decide, ?_⟩
        rw [t2, kT_B kv, hbu, hbv]
        exact ⟨rfl, by show wO W w (kP u) = wO W w (kP v'); rw [h.2.1], h.2.2⟩
    refine ⟨key.1, ?_, Md_pt hW ws _ _ (kOK_T hW hu hp.1) (kOK_T hW hv key.1) key.2 hp.2.2⟩
    rw [← key.2.2.1]
    exact hp.2.1
/-- after a new way no step back -/
theorem mn_NN (hW : wOK W) (hk : kOK W s) {w w2 : Nat} {ws : List Nat} (h : mn W N v p k s (w :: w2 :: ws)) (h1 : kK W s w = 1) : kK W (kT W s w) w2 = 1 := by
  have hW1 := hW.1
  have h0 : kK W s w ≠ 0 := by rw [h1]; decide
  have hkT := kOK_T hW hk h0
  rcases kK_or hkT h.1.2.2.1 with ⟨k1, _⟩ | ⟨k2, t2, i2, os, ho⟩
  · exact k1
  · exfalso
    obtain ⟨i1, z1⟩ := kK_1.mp h1
    have hwn := (wI_iff.mp i1).1
    rw [kT_N h1] at ho
    have ho2 : w :: kO s = w2 :: os := ho
    have e1 := (List.cons.inj ho2).1
    subst e1
    have hp := h.1.2.2.2.2
    have hb : kB W (kN W s w) = (kP s, kO s, kG (kN W s w)) := by
      show (wO W w (wO W w (kP s)), kO s, _) = _
      rw [wO_O hW i1]
    rw [t2, kT_N h1, hb] at hp
    have hk2 : kOK W (kP s, kO s, kG (kN W s w)) := by
      rw [← hb]
      have := kOK_B hW (s := kN W s w) (by rw [← kT_N h1]; exact hkT)
      exact this
    have := h.2 ws (Md_pt hW ws _ s hk2 hk ⟨rfl, rfl, fun i hi => by
      show zbit (kG (kN W s w)) i = true
      rw [zbit_N (by omega), hi]; rfl⟩ hp)
    simp only [List.length_cons] at this
    omega
theorem mn_all (hW : wOK W) : ∀ (ws : List Nat) (s : ZWk) (w : Nat), kOK W s → mn W N v p k s (w :: ws) → kK W s w = 1 → alN W s (w :: ws)
  | [], _, _, _, _, h => ⟨h, trivial⟩
  | w2 :: ws, s, w, hk, hm, h => ⟨h, mn_all hW ws _ w2 (kOK_T hW hk (by rw [h]; decide)) (mn_tl hm) (mn_NN hW hk hm h)⟩
theorem kE_app : ∀ (l1 l2 : List Nat) (q : Nat), kE W q (l1 ++ l2) = kE W (kE W q l1) l2
  | [], _, _ => rfl
  | w :: l1, l2, q => kE_app l1 l2 (wO W w q)
theorem rn_app : ∀ (l1 l2 : List Nat) (s : ZWk), rn W s (l1 ++ l2) = rn W (rn W s l1) l2
  | [], _, _ => rfl
  | w :: l1, l2, s => rn_app l1 l2 (kT W s w)
theorem alN_app : ∀ (l1 l2 : List Nat) (s : ZWk), alN W s (l1 ++ l2) → alN W s l1 ∧ alN W (rn W s l1) l2
  | [], _, _, h => ⟨trivial, h⟩
  | w :: l1, l2, s, h => ⟨⟨h.1, (alN_app l1 l2 _ h.2).1⟩, (alN_app l1 l2 _ h.2).2⟩
theorem pt_app : ∀ (l1 l2 : List Nat) (s : ZWk), pt W N v p k s (l1 ++ l2) → pt W N v p k (rn W s l1) l2
  | [], _, _, h => h
  | w :: l1, l2, s, h => pt_app l1 l2 _ h.2.2
theorem rn_new (hW : wOK W) : ∀ (ws : List Nat) (t : ZWk), kOK W t → alN W t ws → kOK W (rn W t ws) ∧ kO (rn W t ws) = ws.reverse ++ kO t ∧ (∀ i, zbit (kG t) i = true → zbit (kG (rn W t ws)) i = true) ∧ (∀ i, i ∈ ws → zbit (kG t) i = false) ∧ kE W (kP (rn W t ws)) ws.reverse = kP t
  | [], t, hk, _ => ⟨hk, rfl, fun _ h => h, fun i hi => (by cases hi), rfl⟩
  | w :: ws, t, hk, h => by
    have hW1 := hW.1
    obtain ⟨i1, z1⟩ := kK_1.mp h.1
    have hwn := (wI_iff.mp i1).1
    have h0 : kK W t w ≠ 0 := by rw [h.1]; decide
    obtain ⟨r1, r2, r3, r4, r5⟩ := rn_new hW ws (kT W t w) (kOK_T hW hk h0) h.2
    have et := kT_N h.1
    refine ⟨r1, ?_, fun i hi => r3 i ?_, fun i hi => ?_, ?_⟩
    · show kO (rn W (kT W t w) ws) = _
      rw [r2, List.reverse_cons, List.append_assoc, et]
      rfl
    · rw [et, zbit_N (by omega), hi]; rfl
    · rcases List.mem_cons.mp hi with q | q
      · rw [q]; exact z1
      · have := r4 i q
        rw [et, zbit_N (by omega)] at this
        cases hz : zbit (kG t) i with
        | false => rfl
        | true => rw [hz] at this; cases this
    · show kE W (kP (rn W (kT W t w) ws)) _ = _
      rw [List.reverse_cons, kE_app, r5, et]
      show wO W w (wO W w (kP t)) = kP t
      exact wO_O hW i1
/-- no round -/
theorem mn_rnd (hW : wOK W) {t : ZWk} (hk : kOK W t) {ws1 ws2 : List Nat} (hm : mn W N v p k t (ws1 ++ ws2)) (ha : alN W t (ws1 ++ ws2)) (hne : ws1 ≠ []) (hp : kP (rn W t ws1) = kP t) : False := by
  obtain ⟨a1, a2⟩ := alN_app ws1 ws2 t ha
  obtain ⟨r1, r2, r3, r4, r5⟩ := rn_new hW ws1 t hk a1
  have hr : Rd W (rn W t ws1) t := ⟨[], ws1.reverse, [], kO t, r2, rfl, hp, r3, fun i hi => r4 i (List.mem_reverse.mp hi), r5.trans hp.symm, fun _ => rfl⟩
  have := hm.2 ws2 (Rd_pt hW ws2 _ t r1 hk hr a2 (pt_app ws1 ws2 t hm.1))
  rw [List.length_append] at this
  cases ws1 with
  | nil => exact hne rfl
  | cons a l => simp only [List.length_cons] at this; omega
def HI (W : ZWd) (N : Nat) (v p : Nat → Nat) (k : Nat) (t : ZWk) (tr : Int) (ws : List Nat) : Prop := ∀ q, q < 8 → zbit tr q = true → ∃ t' ws1, kP t' = q ∧ kOK W t' ∧ rn W t' ws1 = t ∧ mn W N v p k t' (ws1 ++ ws) ∧ alN W t' (ws1 ++ ws)
theorem cl_fin (hW : wOK W) (hs : ∀ (t : ZWk) (m : Nat), kOK W t → SH W N v p t (k + 1) → mu W t ≤ m → cl W N v p m t (k + 1) (zshl 1 (kP t : Int))) {t : ZWk} {m : Nat} {tr : Int} (hk : kOK W t) (hf : fF W N v p k t) (hm : mu W t ≤ m) : cl W N v p m t k tr := by
  obtain ⟨w, h1, h2, h3⟩ := hf
  have hmu := mu_T hW hk h1
  cases m with
  | zero => omega
  | succ m =>
    have hSH : SH W N v p t k := SH_step h1 (by rw [nk_sd h2]; exact h3)
    obtain ⟨n, hn⟩ := hSH
    refine Or.inr ⟨sh_lf hW n t k hk hn, w, h1, Or.inl h2, ?_⟩
    rw [nk_sd h2, if_pos (Or.inl h2)]
    exact hs _ m (kOK_T hW hk h1) h3 (by omega)
theorem cl_new (hW : wOK W) (hs : ∀ (t : ZWk) (m : Nat), kOK W t → SH W N v p t (k + 1) → mu W t ≤ m → cl W N v p m t (k + 1) (zshl 1 (kP t : Int))) :
    ∀ (ws : List Nat) (t : ZWk) (tr : Int) (m : Nat), kOK W t → mn W N v p k t ws → alN W t ws → HI W N v p k t tr ws → mu W t ≤ m → cl W N v p m t k tr
  | [], t, tr, m, hk, hm, _, _, hmu => cl_fin hW hs hk hm.1 hmu
  | w :: ws, t, tr, m, hk, hm, ha, hi, hmu => by
    have h0 := hm.1.1
    have h2 := mu_T hW hk h0
    have hp8 := (kOK_T hW hk h0).1
    cases m with
    | zero => omega
    | succ m =>
      obtain ⟨n, hn⟩ := pt_SH (w :: ws) t hm.1
      have happ : ∀ ws1 : List Nat, (ws1 ++ [w]) ++ ws = ws1 ++ (w :: ws) := fun ws1 => by rw [List.append_assoc]; rfl
      have hfr : zbit tr (kP (kT W t w)) = false := by
        cases hz : zbit tr (kP (kT W t w)) with
        | false => rfl
        | true =>
          exfalso
          obtain ⟨t', ws1, q1, q2, q3, q4, q5⟩ := hi _ hp8 hz
          rw [← happ] at q4 q5
          refine mn_rnd hW q2 q4 q5 (fun z => ?_) ?_
          · have := congrArg List.length z
            rw [List.length_append] at this
            simp at this
          · rw [rn_app, q3, q1]; rfl
      refine Or.inr ⟨sh_lf hW n t k hk hn, w, h0, Or.inr (Or.inr ⟨ha.1, hfr⟩), ?_⟩
      have hn2 : ¬ ((v k = w ∧ p k = kP (kT W t w)) ∨ kK W t w = 2) := fun z => z.elim hm.1.2.1 (fun y => by rw [ha.1] at y; cases y)
      rw [nk_ns hm.1.2.1, if_neg hn2]
      refine cl_new hW hs ws _ _ m (kOK_T hW hk h0) (mn_tl hm) ha.2 (fun q hq hz => ?_) (by omega)
      rw [zbit_or, zbit_sh1 _ (by omega) q (by omega)] at hz
      rcases Bool.or_eq_true_iff.mp hz with z | z
      · obtain ⟨t', ws1, q1, q2, q3, q4, q5⟩ := hi q hq z
        refine ⟨t', ws1 ++ [w], q1, q2, ?_, ?_, ?_⟩
        · rw [rn_app, q3]; rfl
        · rw [happ]; exact q4
        · rw [happ]; exact q5
      · exact ⟨kT W t w, [], (of_decide_eq_true z).symm, kOK_T hW hk h0, rfl, mn_tl hm, ha.2⟩
theorem cl_all (hW : wOK W) (hs : ∀ (t : ZWk) (m : Nat), kOK W t → SH W N v p t (k + 1) → mu W t ≤ m → cl W N v p m t (k + 1) (zshl 1 (kP t : Int))) :
    ∀ (ws : List Nat) (t : ZWk) (m : Nat), kOK W t → mn W N v p k t ws → mu W t ≤ m → cl W N v p m t k (zshl 1 (kP t : Int))
  | [], t, m, hk, hm, hmu => cl_fin hW hs hk hm.1 hmu
  | w :: ws, t, m, hk, hm, hmu => by
    have h0 := hm.1.1
    have h2 := mu_T hW hk h0
    have hp8 := hk.1
    cases m with
    | zero => omega
    | succ m =>
      obtain ⟨n, hn⟩ := pt_SH (w :: ws) t hm.1
      rcases kK_or hk h0 with ⟨k1, _⟩ | ⟨k2, _⟩
      · refine cl_new hW hs (w :: ws) t _ (m + 1) hk hm (mn_all hW ws t w hk hm k1) (fun q hq hz => ?_) hmu
        rw [zbit_sh1 _ (by omega) q (by omega)] at hz
        exact ⟨t, [], (of_decide_eq_true hz).symm, hk, rfl, hm, mn_all hW ws t w hk hm k1⟩
      · refine Or.inr ⟨sh_lf hW n t k hk hn, w, h0, Or.inr (Or.inl ⟨k2, rfl⟩), ?_⟩
        rw [nk_ns hm.1.2.1, if_pos (Or.inr k2)]
        exact cl_all hW hs ws _ m (kOK_T hW hk h0) (mn_tl hm) (by omega)
/-- what can be the class finds -/
theorem SH_cl (hW : wOK W) : ∀ (d k : Nat), N ≤ k + d → ∀ (s : ZWk) (m : Nat), kOK W s → SH W N v p s k → mu W s ≤ m → cl W N v p m s k (zshl 1 (kP s : Int))
  | d, k, hd, s, m, hk, h, hm => by
    by_cases e : N ≤ k
    · cases m with
      | zero => exact e
      | succ m => exact Or.inl e
    · cases d with
      | zero => omega
      | succ d =>
        obtain ⟨n, hn⟩ := h
        obtain ⟨ws, hws⟩ := pt_of (by omega) n s hn
        obtain ⟨ws', hmn⟩ := mn_ex _ ws (Nat.le_refl _) hws
        exact cl_all hW (fun t m' ht h' hm' => SH_cl hW d (k + 1) (by omega) t m' ht h' hm') ws' s m hk hmn hm
end ZTRAIL

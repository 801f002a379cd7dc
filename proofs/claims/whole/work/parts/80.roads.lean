/-! ERRANDS in the class: all roads, the least cost from a place of a walk -/
/-- what stands while costs are told -/
def RS (W : ZWd) (f : Nat) (fr : Nat → Nat) (h : Nat) (E B : Int) (C : ZC) : Prop := TB W f fr C ∧ RWd W C ∧ C 23 4 = (h : Int) ∧ C 18 7 = E ∧ C 23 9 = B
section ZROADS
variable {W : ZWd} {f : Nat} {fr : Nat → Nat} {C : ZC} {s : ZWk} {h : Nat} {E B : Int}
theorem px_8 (hW : wOK W) (hfr : ∀ i, i < f → fr i < wN W) {X : Nat → Bool} {q : Nat} (hq : 8 ≤ q) : ∀ k, k ≤ f → px W fr X q k = false
  | 0, _ => rfl
  | k + 1, hk => by
    have hm := hW.2 _ (hfr k (by omega))
    unfold px
    rw [px_8 hW hfr hq k (by omega), decide_eq_false (show ¬ fa W fr k = q from fun z => by have : wA W (fr k) = q := z; omega), decide_eq_false (show ¬ fb W fr k = q from fun z => by have : wB W (fr k) = q := z; omega)]
    cases X k <;> rfl
theorem h_roads (hW : wOK W) (hRS : RS W f fr h E B C) (hh : h < 8) (hE : ∀ q, q < 32 → zbit E q = true → q < 8) {on : Int} {On : Nat → Prop} (hon : ∀ q, q < 8 → (zbit on q = true ↔ On q)) {here bf lx bd : Nat} (hhere : here < 8) (hlx : lx < 2 ^ f) (hbf : bf ≤ 50000) (hbd : bd ≤ 2000000) :
    zH (c_Round_byRoads (here : Int) on (bf : Int) (lx : Int) (bd : Int) C) (fun v C' => LQ bd (fun c => ∃ r a, r < 2 ^ f ∧ a < 2 ^ f ∧ RDs W f fr h E B lx here On r a ∧ c = bf + bs (fc W fr) (tb r) f + 2 * bs (fc W fr) (tb a) f) v ∧ C' = C) := by
  obtain ⟨hT, hRd, h4, hE7, hB9⟩ := hRS
  have hf := hT.1
  have h6 : 2 ^ f ≤ 2 ^ 6 := Nat.pow_le_pow_right (by decide) hf
  have hodd : ∀ q, q < 32 → zbit (zxor (zshl 1 (here : Int)) (zshl 1 (h : Int))) q = (decide (q = here) ^^ decide (q = h)) := fun q hq => by
    rw [zbit_xor, zbit_sh1 _ (by omega) q hq, zbit_sh1 _ (by omega) q hq]
  have hodd32 : z32 (zxor (zshl 1 (here : Int)) (zshl 1 (h : Int))) = zxor (zshl 1 (here : Int)) (zshl 1 (h : Int)) := z32_zb _ _ _
  unfold c_Round_byRoads
  rw [h4]
  generalize zxor (zshl 1 (here : Int)) (zshl 1 (h : Int)) = od at hodd hodd32
  refine zH_bd2 (P := fun v C' => LQ bd (fun c => ∃ r a, r < 2 ^ f ∧ a < 2 ^ f ∧ RDs W f fr h E B lx here On r a ∧ c = bf + bs (fc W fr) (tb r) f + 2 * bs (fc W fr) (tb a) f) v ∧ C' = C) ?_ (fun v C' h1 => zH_some h1)
  refine zH_for (fun k y C' => (∃ n : Nat, y = ((n : Int), (k : Int)) ∧ n ≤ bd ∧ LQ bd (fun c => ∃ r a, r < k ∧ r < 2 ^ f ∧ a < 2 ^ f ∧ RDs W f fr h E B lx here On r a ∧ c = bf + bs (fc W fr) (tb r) f + 2 * bs (fc W fr) (tb a) f) (n : Int)) ∧ C' = C) (lx + 1) 0 (by omega) ⟨⟨bd, rfl, Nat.le_refl _, LQ_0 fun c ⟨r, a, a1, _⟩ => absurd a1 (Nat.not_lt_zero _)⟩, rfl⟩ ?_ ?_
  · rintro k y C' hk ⟨⟨n, rfl, nb, hn⟩, rfl⟩
    have hkf : k < 2 ^ f := by omega
    obtain ⟨ck, ckl⟩ := cost_tb hW hT hkf
    have g64 : 0 ≤ (k : Int) ∧ (k : Int) < 64 := by omega
    have zk : zadd (k : Int) 1 = ((k + 1 : Nat) : Int) := zinN (by omega)
    have zsum : zadd (bf : Int) ((bs (fc W fr) (tb k) f : Nat) : Int) = ((bf + bs (fc W fr) (tb k) f : Nat) : Int) := by
      rw [zadd_e (by omega) (by omega)]; omega
    have skip : (∀ a, RDs W f fr h E B lx here On k a → n ≤ bf + bs (fc W fr) (tb k) f + 2 * bs (fc W fr) (tb a) f) → LQ bd (fun c => ∃ r a, r < k + 1 ∧ r < 2 ^ f ∧ a < 2 ^ f ∧ RDs W f fr h E B lx here On r a ∧ c = bf + bs (fc W fr) (tb r) f + 2 * bs (fc W fr) (tb a) f) (n : Int) := by
      intro hs
      refine LQ_ex hn (fun c ⟨r, a, a1, a2⟩ => ⟨r, a, by omega, a2⟩) (fun c ⟨r, a, a1, a2, a3, a4, a5⟩ => ?_)
      by_cases e : r = k
      · subst e; exact Or.inr (by rw [a5]; exact hs a a4)
      · exact Or.inl ⟨r, a, by omega, a2, a3, a4, a5⟩
    unfold c_Round_byRoads_L22
    dsimp only
    rw [if_neg (by omega), zg_t g64]
    by_cases h1 : zand (k : Int) (zxor (lx : Int) (-1)) = 0
    · have h1s := (sub_tb hkf hf).mp h1
      rw [if_neg (fun z => z h1), Int.toNat_natCast, ck, zsum]
      by_cases h2 : n ≤ bf + bs (fc W fr) (tb k) f
      · rw [if_pos (by omega), zk]
        exact zH_some ⟨⟨n, rfl, nb, skip fun a _ => by omega⟩, rfl⟩
      · rw [if_neg (by omega), zg_t g64]
        obtain ⟨_, _, p3, p4⟩ := hT.2.2.2.2 k hkf
        have hoddk : C' 22 k = od ↔ ∀ q, q < 8 → px W fr (tb k) q f = (decide (q = here) ^^ decide (q = h)) := by
          constructor
          · intro e q hq
            rw [← p3 q (by omega), e, hodd q (by omega)]
          · intro e
            refine zbit_ext p4 hodd32 fun q hq => ?_
            rw [p3 q hq, hodd q hq]
            by_cases h8 : q < 8
            · exact e q h8
            · rw [px_8 hW hT.2.1 (by omega) f (Nat.le_refl _), decide_eq_false (by omega), decide_eq_false (by omega)]; rfl
        by_cases h3 : C' 22 k = od
        · rw [if_neg (fun z => z h3), zg_t g64]
          refine zH_bd2 (h_spread hW hT hkf) (fun sp C1 h5 => ?_)
          obtain ⟨hsp, rfl⟩ := h5
          have hS : ∀ q, (q < 8 ∧ zbit (zshl 1 (here : Int)) q = true) ↔ q = here := fun q => by
            constructor
            · rintro ⟨q1, q2⟩
              rw [zbit_sh1 _ (by omega) q (by omega)] at q2
              exact of_decide_eq_true q2
            · intro e
              rw [e, zbit_sh1 _ (by omega) here (by omega)]
              exact ⟨hhere, decide_eq_true rfl⟩
          have hcn : ∀ q, q < 8 → (zbit sp q = true ↔ cn W f fr (tb k) (fun q => q = here) q) := fun q hq => by
            rw [hsp q hq]
            exact ⟨cn_mono (fun q hq => cn_0 ((hS q).mp hq)) (fun _ _ hx => hx), cn_mono (fun q hq => cn_0 ((hS q).mpr hq)) (fun _ _ hx => hx)⟩
          have hconn : zand (C1 21 k) (zxor sp (-1)) = 0 ↔ ∀ i, tb k i = true → cn W f fr (tb k) (fun q => q = here) (fa W fr i) := by
            rw [sub0]
            have hlt : ∀ i, tb k i = true → i < f := fun i hi => by
              by_cases e : i < f
              · exact e
              · rw [tb_hi hkf (by omega)] at hi; cases hi
            constructor
            · intro z i hi
              have hm := hW.2 _ (hT.2.1 i (hlt i hi))
              exact (hcn _ hm.1).mp (z _ (by show wA W (fr i) < 32; omega) ((ends_tb hT hkf (by show wA W (fr i) < 32; omega)).mpr ⟨i, hi, Or.inl rfl⟩))
            · intro z q hq hz
              have he := (ends_tb hT hkf hq).mp hz
              have h8 := eR_8 hW hT hkf he
              obtain ⟨i, hi, e⟩ := he
              refine (hcn q h8).mpr ?_
              rcases e with e | e
              · rw [← e]; exact z i hi
              · rw [← e]; exact (cn_st (hlt i hi) hi).mp (z i hi)
          by_cases h5 : zand (C1 21 k) (zxor sp (-1)) = 0
          · rw [if_neg (fun z => z h5), zg_t g64, zk, minus_tb hlx hf]
            have hon2 : ∀ q, q < 8 → (zbit (zor on (C1 21 k)) q = true ↔ (On q ∨ eR W fr (tb k) q)) := fun q hq => by
              rw [zbit_or, Bool.or_eq_true, hon q hq, ends_tb hT hkf (by omega)]
            refine zH_bd2 (h_asides hW hT hE7 hB9 hE hon2 (ofB_lt f) (by omega) (by omega)) (fun v C2 h7 => ?_)
            obtain ⟨hv, rfl⟩ := h7
            obtain ⟨m, rfl, hm⟩ := LQ_nat hv
            refine zH_some ⟨⟨m, rfl, by omega, ?_⟩, rfl⟩
            refine LQ_cg (LQ_or hn hv) fun c => ?_
            have hmin : ∀ i, tb (ofB (fun i => tb lx i && !tb k i) f) i = true ↔ (tb lx i = true ∧ tb k i = false) := fun i => by
              rw [tb_ofB, Bool.and_eq_true, Bool.and_eq_true, decide_eq_true_iff]
              constructor
              · rintro ⟨_, z1, z2⟩
                exact ⟨z1, by simpa using z2⟩
              · rintro ⟨z1, z2⟩
                refine ⟨?_, z1, by rw [z2]; rfl⟩
                by_cases e : i < f
                · exact e
                · rw [tb_hi hlx (by omega)] at z1; cases z1
            constructor
            · rintro (⟨r, a, a1, a2⟩ | ⟨a, a1, a2, a3, a4⟩)
              · exact ⟨r, a, by omega, a2⟩
              · exact ⟨k, a, by omega, hkf, a1, ⟨h1s, fun i hi => (hmin i).mp (a2 i hi), hoddk.mp h3, hconn.mp h5, a3⟩, by omega⟩
            · rintro ⟨r, a, a1, a2, a3, a4, a5⟩
              by_cases e : r = k
              · subst e
                exact Or.inr ⟨a, a3, fun i hi => (hmin i).mpr (a4.2.1 i hi), a4.2.2.2.2, by omega⟩
              · exact Or.inl ⟨r, a, by omega, a2, a3, a4, a5⟩
          · rw [if_pos h5, zk]
            exact zH_some ⟨⟨n, rfl, nb, skip fun a z => absurd (hconn.mpr z.2.2.2.1) h5⟩, rfl⟩
        · rw [if_pos h3, zk]
          exact zH_some ⟨⟨n, rfl, nb, skip fun a z => absurd (hoddk.mpr z.2.2.1) h3⟩, rfl⟩
    · rw [if_pos h1, zk]
      exact zH_some ⟨⟨n, rfl, nb, skip fun a z => absurd ((sub_tb hkf hf).mpr z.1) h1⟩, rfl⟩
  · rintro y C' ⟨⟨n, rfl, nb, hn⟩, rfl⟩
    unfold c_Round_byRoads_L22
    dsimp only
    rw [if_pos (by omega)]
    refine zH_some ⟨LQ_cg hn fun c => ?_, rfl⟩
    constructor
    · rintro ⟨r, a, a1, a2⟩; exact ⟨r, a, a2⟩
    · rintro ⟨r, a, a1, a2, a3, a4⟩
      exact ⟨r, a, Nat.lt_succ_of_le (tb_le a1 hlx a3.1), a1, a2, a3, a4⟩
theorem cw_app : ∀ (l1 l2 : List Nat), cw W (l1 ++ l2) = cw W l1 + cw W l2
  | [], l2 => (Nat.zero_add _).symm
  | w :: l1, l2 => by
    show wc W w + cw W (l1 ++ l2) = wc W w + cw W l1 + cw W l2
    rw [cw_app l1 l2]; omega
theorem onC_snoc {w q : Nat} : ∀ (P : List Nat) (p : Nat), onC W p (P ++ [w]) q ↔ onC W p P q ∨ q = wO W w (kE W p P)
  | [], p => Iff.rfl
  | v :: P, p => by
    show (q = p ∨ onC W (wO W v p) (P ++ [w]) q) ↔ (q = p ∨ onC W (wO W v p) P q) ∨ q = wO W w (kE W (wO W v p) P)
    rw [onC_snoc P, or_assoc]
theorem RL_mid {row : Nat → Int} {w : Nat} {os : List Nat} : ∀ (P : List Nat), RL row (P ++ w :: os) → row os.length = (w : Int)
  | [], h => h.1
  | _ :: P, h => RL_mid P h.2
theorem bk_mid {row : Nat → Int} {w : Nat} {os : List Nat} : ∀ (P : List Nat) (p : Nat), RL row (bk W p (P ++ w :: os)) → row os.length = ((wO W w (kE W p P) : Nat) : Int)
  | [], p, h => by have := h.1; rw [bk_len] at this; exact this
  | _ :: P, p, h => bk_mid P _ h.2
theorem kC_mid {w : Nat} {os : List Nat} : ∀ (P : List Nat) (p : Nat), kC W p (P ++ w :: os) → wI W w (kE W p P) = true
  | [], _, h => h.1
  | _ :: P, _, h => kC_mid P _ h.2
theorem cw_le (hW : wOK W) : ∀ (os : List Nat), (∀ w, w ∈ os → w < wN W) → cw W os ≤ 577 * os.length
  | [], _ => Nat.zero_le _
  | w :: os, h => by
    have ih := cw_le hW os (fun v hv => h v (List.mem_cons_of_mem _ hv))
    have hm := hW.2 w (h w List.mem_cons_self)
    have e : wc W w ≤ 577 := by unfold wc; omega
    show wc W w + cw W os ≤ 577 * (os.length + 1)
    omega
theorem h_chainR (hW : wOK W) (hRS : RS W f fr h E B C) (hh : h < 8) (hE : ∀ q, q < 32 → zbit E q = true → q < 8) (hk : kOK W s) (hS : RWk W s 23 C) {lx : Nat} (hlx : lx < 2 ^ f) : ∀ (os2 P : List Nat), kO s = P ++ os2 → ∀ (ls : Nat) (on : Int), (∀ q, q < 8 → (zbit on q = true ↔ onC W (kP s) P q)) → ls ≤ 2000000 →
    zH (zloop (c_Round_leastCost_L94 (lx : Int)) ((ls : Int), on, (cw W P : Int), (os2.length : Int) - 1) C) (fun v C' => LQ ls (fun c => ∃ T Q' r a, os2 = T ++ Q' ∧ T ≠ [] ∧ r < 2 ^ f ∧ a < 2 ^ f ∧ RDs W f fr h E B lx (kE W (kP s) (P ++ T)) (onC W (kP s) (P ++ T)) r a ∧ c = cw W (P ++ T) + bs (fc W fr) (tb r) f + 2 * bs (fc W fr) (tb a) f) v ∧ C' = C)
  | [], P, ho, ls, on, hon, hls => by
    rw [zloop_eq]
    have e : c_Round_leastCost_L94 (lx : Int) ((ls : Int), on, (cw W P : Int), (([] : List Nat).length : Int) - 1) C = some (.inr (ls : Int), C) := by
      unfold c_Round_leastCost_L94
      exact if_pos (show ((0 : Nat) : Int) - 1 < 0 by omega)
    rw [e]
    refine zH_some ⟨LQ_0 fun c ⟨T, Q', r, a, h1, h2, _⟩ => absurd (List.append_eq_nil_iff.mp h1.symm).1 h2, rfl⟩
  | w :: os, P, ho, ls, on, hon, hls => by
    have hW1 := hW.1
    have hl := kOK_len hk
    have hlen : P.length + (os.length + 1) ≤ wN W := by
      have := hl
      rw [ho, List.length_append, List.length_cons] at this
      exact this
    have hmem : ∀ v, v ∈ P → v < wN W := fun v hv => kC_lt hk.2.1 v (by rw [ho]; exact List.mem_append_left _ hv)
    have hw : w < wN W := kC_lt hk.2.1 w (by rw [ho]; exact List.mem_append_right _ List.mem_cons_self)
    have hcP := cw_le hW P hmem
    have hwc : wc W w ≤ 577 := by have := hW.2 w hw; unfold wc; omega
    have e1 : (((w :: os).length : Nat) : Int) - 1 = (os.length : Int) := by simp only [List.length_cons]; omega
    have g1 : 0 ≤ (os.length : Int) ∧ (os.length : Int) < 12 := by omega
    obtain ⟨s1, s2, s3, s4, s5⟩ := hS
    rw [ho] at s4 s5
    have r24 : C 24 os.length = (w : Int) := RL_mid P s4
    have r25 : C 25 os.length = ((wO W w (kE W (kP s) P) : Nat) : Int) := bk_mid P _ s5
    have hto : wO W w (kE W (kP s) P) < 8 := wO_lt hW hw
    have happ : ∀ T, (P ++ [w]) ++ T = P ++ (w :: T) := fun T => by rw [List.append_assoc]; rfl
    have hkE : kE W (kP s) (P ++ [w]) = wO W w (kE W (kP s) P) := by rw [kE_app]; rfl
    have hcw : cw W (P ++ [w]) = cw W P + wc W w := by
      rw [cw_app]; rfl
    rw [e1, zloop_eq]
    by_cases hb : ls ≤ cw W P
    · have e : c_Round_leastCost_L94 (lx : Int) ((ls : Int), on, (cw W P : Int), (os.length : Int)) C = some (.inr (ls : Int), C) := by
        unfold c_Round_leastCost_L94
        dsimp only
        rw [if_neg (by omega), if_pos (by omega)]
      rw [e]
      refine zH_some ⟨LQ_0 fun c ⟨T, Q', r, a, h1, h2, h3, h4, h5, h6⟩ => ?_, rfl⟩
      rw [cw_app] at h6
      omega
    · have e : c_Round_leastCost_L94 (lx : Int) ((ls : Int), on, (cw W P : Int), (os.length : Int)) C = zbd (c_Round_byRoads ((wO W w (kE W (kP s) P) : Nat) : Int) (zor on (zshl 1 ((wO W w (kE W (kP s) P) : Nat) : Int))) (cw W (P ++ [w]) : Int) (lx : Int) (ls : Int) C) fun v29 C30 => some (.inl (v29, (zor on (zshl 1 ((wO W w (kE W (kP s) P) : Nat) : Int))), (cw W (P ++ [w]) : Int), (os.length : Int) - 1), C30) := by
        unfold c_Round_leastCost_L94
        dsimp only
        rw [if_neg (by omega), if_neg (by omega), zg_t g1, Int.toNat_natCast, r24, e_costOf hW hRS.2.1 hw, zbd_some, zg_t g1, zg_t g1, r25, zadd_e (by omega) (by omega), zdec1 (by omega) (by omega), hcw]
        rfl
      have hon2 : ∀ q, q < 8 → (zbit (zor on (zshl 1 ((wO W w (kE W (kP s) P) : Nat) : Int))) q = true ↔ onC W (kP s) (P ++ [w]) q) := fun q hq => by
        rw [zbit_or, Bool.or_eq_true, hon q hq, zbit_sh1 _ (by omega) q (by omega), decide_eq_true_iff, onC_snoc]
      obtain ⟨v, C1, eR1, hv, hC1⟩ := h_roads hW hRS hh hE hon2 (here := wO W w (kE W (kP s) P)) (bf := cw W (P ++ [w])) hto hlx (by omega) hls
      rw [hC1] at eR1
      rw [e, eR1, zbd_some]
      dsimp only
      obtain ⟨m, rfl, hm⟩ := LQ_nat hv
      refine zH_mono (h_chainR hW hRS hh hE hk ⟨s1, s2, s3, by rw [ho]; exact s4, by rw [ho]; exact s5⟩ hlx os (P ++ [w]) (by rw [ho, List.append_assoc]; rfl) m _ hon2 (by omega)) (fun v C' h1 => ⟨?_, h1.2⟩)
      refine LQ_cg (LQ_or hv h1.1) fun c => ?_
      constructor
      · rintro (⟨r, a, a1, a2, a3, a4⟩ | ⟨T, Q', r, a, t1, t2, a1, a2, a3, a4⟩)
        · refine ⟨[w], os, r, a, rfl, (by intro z; cases z), a1, a2, ?_, a4⟩
          rw [hkE]; exact a3
        · refine ⟨w :: T, Q', r, a, by rw [t1]; rfl, (by intro z; cases z), a1, a2, ?_, ?_⟩
          · rw [← happ]; exact a3
          · rw [← happ]; exact a4
      · rintro ⟨T, Q', r, a, t1, t2, a1, a2, a3, a4⟩
        cases T with
        | nil => exact absurd rfl t2
        | cons v T =>
          have ev : w = v := (List.cons.inj t1).1
          have eo : os = T ++ Q' := (List.cons.inj t1).2
          subst ev
          cases T with
          | nil =>
            refine Or.inl ⟨r, a, a1, a2, ?_, a4⟩
            rw [← hkE]; exact a3
          | cons u T =>
            refine Or.inr ⟨u :: T, Q', r, a, eo, (by intro z; cases z), a1, a2, ?_, ?_⟩
            · rw [happ]; exact a3
            · rw [happ]; exact a4
theorem onC_8 (hW : wOK W) {q : Nat} : ∀ (P : List Nat) (p : Nat), p < 8 → (∀ w, w ∈ P → w < wN W) → onC W p P q → q < 8
  | [], p, hp, _, h => by have h : q = p := h; omega
  | w :: P, p, hp, hm, h => by
    rcases h with h | h
    · omega
    · exact onC_8 hW P _ (wO_lt hW (hm w List.mem_cons_self)) (fun v hv => hm v (List.mem_cons_of_mem _ hv)) h
/-- the least cost, or one above a limit -/
theorem h_least (hW : wOK W) (hRS : RS W f fr h E B C) (hh : h < 8) (hE : ∀ q, q < 32 → zbit E q = true → q < 8) (hk : kOK W s) (hF : FR W f fr s) (hS : RWk W s 23 C) {lim : Nat} (hl : lim ≤ 1048576) : zH (c_Round_leastCost (lim : Int) C) (fun v C' => LQ (lim + 1) (CT W f fr h E s B) v ∧ C' = C) := by
  have hW1 := hW.1
  have hp8 := hk.1
  have hT := hRS.1
  have hf := hT.1
  have hlen := kOK_len hk
  have key : zH (zloop (c_Round_leastCost_L4 (lim : Int)) (0, 0) C) (fun y C' => y = ((ofB (fun i => !zbit (kG s) (fr i)) f : Nat) : Int) ∧ C' = C) := by
    refine zH_for (fun i y C' => y = (((ofB (fun i => !zbit (kG s) (fr i)) i : Nat) : Int), (i : Int)) ∧ C' = C) f 0 (Nat.zero_le _) ⟨rfl, rfl⟩ ?_ ?_
    · rintro i y C' hi ⟨rfl, rfl⟩
      have hwi := hT.2.1 i hi
      have hlt := ofB_lt (X := fun i => !zbit (kG s) (fr i)) i
      have h26 : 2 ^ i ≤ 2 ^ 6 := Nat.pow_le_pow_right (by decide) (by omega)
      have e : ofB (fun i => !zbit (kG s) (fr i)) (i + 1) = ofB (fun i => !zbit (kG s) (fr i)) i + (if (!zbit (kG s) (fr i)) = true then 2 ^ i else 0) := rfl
      unfold c_Round_leastCost_L4
      dsimp only
      rw [hT.2.2.1, if_neg (by omega), zg_t (by omega), Int.toNat_natCast, hT.2.2.2.1 i hi, hS.2.2.1, e_has (by omega), zbd_some, zinN (by omega)]
      by_cases hg : zbit (kG s) (fr i) = true
      · rw [if_pos hg, if_neg (by decide), zor_0 (z32_e (by omega) (by omega))]
        refine zH_some ⟨?_, rfl⟩
        rw [e, hg]; rfl
      · have hgf : zbit (kG s) (fr i) = false := Bool.eq_false_iff.mpr hg
        rw [if_neg hg, if_pos rfl, (zor2 (by omega) hlt).2]
        refine zH_some ⟨?_, rfl⟩
        rw [e, hgf]
        show (((2 ^ i + ofB (fun i => !zbit (kG s) (fr i)) i : Nat) : Int), _) = (((ofB (fun i => !zbit (kG s) (fr i)) i + 2 ^ i : Nat) : Int), _)
        rw [Nat.add_comm]
    · rintro y C' ⟨rfl, rfl⟩
      unfold c_Round_leastCost_L4
      dsimp only
      rw [hT.2.2.1, if_pos (by omega)]
      exact zH_some ⟨rfl, rfl⟩
  obtain ⟨y, C1, e1, rfl, rfl⟩ := key
  have hlx := ofB_lt (X := fun i => !zbit (kG s) (fr i)) f
  have htl : ∀ i, tb (ofB (fun i => !zbit (kG s) (fr i)) f) i = true ↔ (i < f ∧ zbit (kG s) (fr i) = false) := fun i => by
    rw [tb_ofB, Bool.and_eq_true, decide_eq_true_iff]
    constructor
    · rintro ⟨z1, z2⟩; exact ⟨z1, by simpa using z2⟩
    · rintro ⟨z1, z2⟩; exact ⟨z1, by rw [z2]; rfl⟩
  generalize ofB (fun i => !zbit (kG s) (fr i)) f = lx at e1 hlx htl
  unfold c_Round_leastCost
  have zl : zadd (lim : Int) 1 = ((lim + 1 : Nat) : Int) := by rw [zadd_e (by omega) (by omega)]; omega
  rw [e1, zbd_some, hS.1, zl]
  have hon0 : ∀ q, q < 8 → (zbit (zshl 1 (kP s : Int)) q = true ↔ onC W (kP s) [] q) := fun q hq => by
    rw [zbit_sh1 _ (by omega) q (by omega), decide_eq_true_iff]; rfl
  have h0 : (0 : Int) = ((0 : Nat) : Int) := rfl
  rw [h0]
  refine zH_bd2 (h_roads hW hRS hh hE hon0 (here := kP s) (bf := 0) hp8 hlx (by omega) (by omega)) (fun v C2 h2 => ?_)
  obtain ⟨hv, rfl⟩ := h2
  obtain ⟨m, rfl, hm⟩ := LQ_nat hv
  rw [hS.2.1, zsub_e (by omega) (by omega)]
  have hch := h_chainR hW hRS hh hE hk hS hlx (kO s) [] rfl m (zshl 1 (kP s : Int)) hon0 (by omega)
  refine zH_bd2 hch (fun v C3 h3 => ?_)
  obtain ⟨hv3, rfl⟩ := h3
  refine zH_some ⟨LQ_cg (LQ_or hv hv3) fun c => ?_, rfl⟩
  have toCT : ∀ T Q' r a, kO s = T ++ Q' → r < 2 ^ f → a < 2 ^ f → RDs W f fr h E B lx (kE W (kP s) T) (onC W (kP s) T) r a → CTo W f fr h E s B T Q' (tb r) (tb a) := by
    rintro T Q' r a ho hr ha ⟨d1, d2, d3, d4, d5⟩
    exact ⟨ho, fun i hi => (htl i).mp (d1 i hi), fun i hi => ⟨((htl i).mp (d2 i hi).1).1, ((htl i).mp (d2 i hi).1).2, (d2 i hi).2⟩, d3, d4, fun q hq hz => cn_mono (fun q hq => cn_0 hq.2) (fun _ _ hx => hx) (d5 q hq hz)⟩
  have ofCT : ∀ T Q' R A, CTo W f fr h E s B T Q' R A → ofB R f < 2 ^ f ∧ ofB A f < 2 ^ f ∧ tb (ofB R f) = R ∧ tb (ofB A f) = A ∧ RDs W f fr h E B lx (kE W (kP s) T) (onC W (kP s) T) (ofB R f) (ofB A f) := by
    rintro T Q' R A ⟨ho, d1, d2, d3, d4, d5⟩
    have eR' : tb (ofB R f) = R := ofB_fun fun i hi => (d1 i hi).1
    have eA' : tb (ofB A f) = A := ofB_fun fun i hi => (d2 i hi).1
    refine ⟨ofB_lt f, ofB_lt f, eR', eA', ?_, ?_, ?_, ?_, ?_⟩
    · rw [eR']; exact fun i hi => (htl i).mpr (d1 i hi)
    · rw [eR', eA']; exact fun i hi => ⟨(htl i).mpr ⟨(d2 i hi).1, (d2 i hi).2.1⟩, (d2 i hi).2.2⟩
    · rw [eR']; exact d3
    · rw [eR']; exact d4
    · unfold AS
      rw [eA']
      intro q hq hz
      refine cn_mono (fun q hq => cn_0 ⟨?_, ?_⟩) (fun _ _ hx => hx) (d5 q hq hz)
      · rcases hq with z | z
        · exact onC_8 hW T (kP s) hp8 (fun w hw => kC_lt hk.2.1 w (by rw [ho]; exact List.mem_append_left _ hw)) z
        · have : eR W fr (tb (ofB R f)) q := by rw [eR']; exact z
          exact eR_8 hW hT (ofB_lt f) this
      · rw [eR']; exact hq
  constructor
  · rintro (⟨r, a, a1, a2, a3, a4⟩ | ⟨T, Q', r, a, t1, t2, a1, a2, a3, a4⟩)
    · exact ⟨[], kO s, tb r, tb a, toCT [] (kO s) r a rfl a1 a2 a3, a4⟩
    · exact ⟨T, Q', tb r, tb a, toCT T Q' r a t1 a1 a2 a3, a4⟩
  · rintro ⟨T, Q', R, A, hc, e⟩
    obtain ⟨b1, b2, b3, b4, b5⟩ := ofCT T Q' R A hc
    cases T with
    | nil => exact Or.inl ⟨ofB R f, ofB A f, b1, b2, b5, by rw [b3, b4]; exact e⟩
    | cons w T => exact Or.inr ⟨w :: T, Q', ofB R f, ofB A f, hc.1, (by intro z; cases z), b1, b2, b5, by rw [b3, b4]; exact e⟩
end ZROADS

/-! ERRANDS: the best row of steps -/
def lx : List Nat → List Nat → Prop
  | [], _ => True
  | _ :: _, [] => False
  | a :: as, b :: bs => a < b ∨ (a = b ∧ lx as bs)
/-- the best row from a place of a walk, places been to; none, if there is none -/
def isB (W : ZWd) (h : Nat) (E : Int) (s : ZWk) (B : Int) : Option (List Nat) → Prop
  | none => ∀ ws, ¬ gdR W h E ws s B
  | some ws => gdR W h E ws s B ∧ ∀ ws', gdR W h E ws' s B → cw W ws < cw W ws' ∨ (cw W ws = cw W ws' ∧ lx ws ws')
def er (W : ZWd) (r : Option (List Nat)) (i : Int) : Int := match r with
  | none => -1
  | some ws => if i = -1 then ((cw W ws / 64 : Nat) : Int) else if i < (ws.length : Int) then ((ws.getD i.toNat 0 : Nat) : Int) else -1
section ZBEST
variable {W : ZWd} {h : Nat} {E B : Int} {s : ZWk}
theorem lx_anti : ∀ {a b : List Nat}, lx a b → lx b a → a = b
  | [], [], _, _ => rfl
  | [], _ :: _, _, h => h.elim
  | _ :: _, [], h, _ => h.elim
  | x :: as, y :: bs, h1, h2 => by
    rcases h1 with h1 | ⟨e, h1⟩
    · rcases h2 with h2 | ⟨e, h2⟩ <;> omega
    · rcases h2 with h2 | ⟨_, h2⟩
      · omega
      · rw [e, lx_anti h1 h2]
theorem isB_one {r r' : Option (List Nat)} (h1 : isB W h E s B r) (h2 : isB W h E s B r') : r = r' := by
  cases r with
  | none =>
    cases r' with
    | none => rfl
    | some ws => exact absurd h2.1 (h1 ws)
  | some ws =>
    cases r' with
    | none => exact absurd h1.1 (h2 ws)
    | some ws' =>
      have a := h1.2 ws' h2.1
      have b := h2.2 ws h1.1
      rw [lx_anti (a.elim (fun z => b.elim (fun y => by omega) (fun y => by omega)) (fun z => z.2)) (b.elim (fun z => a.elim (fun y => by omega) (fun y => by omega)) (fun z => z.2))]
theorem least_nat {P : Nat → Prop} : ∀ (n : Nat), P n → ∃ m, P m ∧ ∀ j, j < m → ¬ P j := by
  intro n
  induction n using Nat.strongRecOn with
  | _ n ih =>
  intro hn
  by_cases q : ∃ j, j < n ∧ P j
  · obtain ⟨j, j1, j2⟩ := q
    exact ih j j1 j2
  · exact ⟨n, hn, fun j hj hp => q ⟨j, hj, hp⟩⟩
theorem gdR_len (hW : wOK W) : ∀ (ws : List Nat) (s : ZWk) (B : Int), kOK W s → gdR W h E ws s B → ws.length ≤ mu W s
  | [], _, _, _, _ => Nat.zero_le _
  | w :: ws, s, B, hk, hg => by
    have h1 := mu_T hW hk hg.1
    have h2 := gdR_len hW ws _ _ (kOK_T hW hk hg.1) hg.2
    simp only [List.length_cons]
    omega
theorem best_ex (hW : wOK W) : ∀ (m : Nat) (s : ZWk) (B : Int), mu W s = m → kOK W s → (∃ ws, gdR W h E ws s B) → ∃ ws, isB W h E s B (some ws) := by
  intro m
  induction m using Nat.strongRecOn with
  | _ m ihm =>
  intro s B hm hk hex
  obtain ⟨ws0, hws0⟩ := hex
  obtain ⟨M, ⟨ws1, g1, e1⟩, hmin⟩ := least_nat (P := fun c => ∃ ws, gdR W h E ws s B ∧ cw W ws = c) (cw W ws0) ⟨ws0, hws0, rfl⟩
  have hge : ∀ ws, gdR W h E ws s B → M ≤ cw W ws := fun ws hg => Nat.not_lt.mp fun z => hmin _ z ⟨ws, hg, rfl⟩
  cases ws1 with
  | nil =>
    refine ⟨[], g1, fun ws' hg' => ?_⟩
    by_cases q : cw W ws' = 0
    · exact Or.inr ⟨q.symm, trivial⟩
    · exact Or.inl (by show 0 < _; omega)
  | cons w1 ws1 =>
    obtain ⟨w, ⟨ws2, g2, e2⟩, hlw⟩ := least_nat (P := fun w => ∃ ws, gdR W h E (w :: ws) s B ∧ cw W (w :: ws) = M) w1 ⟨ws1, g1, e1⟩
    have hmu := mu_T hW hk g2.1
    obtain ⟨ws, b1, b2⟩ := ihm (mu W (kT W s w)) (by omega) (kT W s w) _ rfl (kOK_T hW hk g2.1) ⟨ws2, g2.2⟩
    have hgw : gdR W h E (w :: ws) s B := ⟨g2.1, b1⟩
    have e3 : cw W (w :: ws) = M := by
      have h1 := hge _ hgw
      have h2 := b2 ws2 g2.2
      have h3 : cw W (w :: ws) = wc W w + cw W ws := rfl
      have h4 : cw W (w :: ws2) = wc W w + cw W ws2 := rfl
      omega
    refine ⟨w :: ws, hgw, fun ws' hg' => ?_⟩
    by_cases q : cw W ws' = M
    · refine Or.inr ⟨e3.trans q.symm, ?_⟩
      cases ws' with
      | nil =>
        have h3 : cw W (w1 :: ws1) = wc W w1 + cw W ws1 := rfl
        have h4 : cw W [] = 0 := rfl
        have h5 : 0 < wc W w1 := Nat.succ_pos _
        omega
      | cons v vs =>
        by_cases q2 : w < v
        · exact Or.inl q2
        · by_cases q3 : v < w
          · exact absurd ⟨vs, hg', q⟩ (hlw v q3)
          · have e : w = v := by omega
            subst e
            refine Or.inr ⟨rfl, ?_⟩
            have h1 := b2 vs hg'.2
            have h3 : cw W (w :: ws) = wc W w + cw W ws := rfl
            have h4 : cw W (w :: vs) = wc W w + cw W vs := rfl
            exact h1.elim (fun z => by omega) (fun z => z.2)
    · have := hge ws' hg'
      exact Or.inl (by omega)
/-- the rest of the best row is best behind its first step -/
theorem isB_tl {w : Nat} {ws : List Nat} (hb : isB W h E s B (some (w :: ws))) : isB W h E (kT W s w) (zor B (zshl 1 (kP (kT W s w) : Int))) (some ws) := by
  refine ⟨hb.1.2, fun ws' hg' => ?_⟩
  have h1 := hb.2 (w :: ws') ⟨hb.1.1, hg'⟩
  have h3 : cw W (w :: ws) = wc W w + cw W ws := rfl
  have h4 : cw W (w :: ws') = wc W w + cw W ws' := rfl
  rcases h1 with h1 | ⟨h1, h2⟩
  · exact Or.inl (by omega)
  · refine Or.inr ⟨by omega, ?_⟩
    rcases h2 with h2 | h2
    · omega
    · exact h2.2
/-- no letter before the best row's first is as good -/
theorem isB_no {w v : Nat} {ws vs : List Nat} (hb : isB W h E s B (some (w :: ws))) (hv : v < w) (hg : gdR W h E (v :: vs) s B) : cw W (w :: ws) < cw W (v :: vs) := by
  rcases hb.2 _ hg with h1 | ⟨_, h2⟩
  · exact h1
  · rcases h2 with h2 | h2 <;> omega
def mnW (W : ZWd) : List Nat → Nat
  | [] => 0
  | w :: ws => wM W w + mnW W ws
theorem cw_mn : ∀ ws : List Nat, cw W ws = 64 * mnW W ws + ws.length
  | [] => rfl
  | w :: ws => by
    have ih := cw_mn ws
    show wM W w * 64 + 1 + cw W ws = 64 * (wM W w + mnW W ws) + (ws.length + 1)
    omega
theorem cw_len {ws : List Nat} (h : ws.length < 64) : cw W ws % 64 = ws.length ∧ cw W ws / 64 = mnW W ws := by
  rw [cw_mn]
  omega
theorem gdR_mem (hW : wOK W) : ∀ (ws : List Nat) (s : ZWk) (B : Int), gdR W h E ws s B → ∀ w, w ∈ ws → w < wN W
  | w :: ws, s, B, hg, v, hv => by
    rcases List.mem_cons.mp hv with e | e
    · rw [e]; exact kK_lt hg.1
    · exact gdR_mem hW ws _ _ hg.2 v e
theorem zdiv64 {x : Nat} (h : x < 2000000) : zdiv (x : Int) 64 = ((x / 64 : Nat) : Int) := by
  unfold zdiv zb
  rw [Int32.toInt_div, Int32.toInt_ofInt, Int32.toInt_ofInt]
  rw [show ((x : Int).bmod Int32.size) = (x : Int) from zbm (by omega) (by omega), show ((64 : Int).bmod Int32.size) = 64 from zbm (by decide) (by decide)]
  rw [show (x : Int).tdiv 64 = ((x / 64 : Nat) : Int) from rfl]
  exact zbm (by omega) (by omega)
theorem zrem64 {x : Nat} (h : x < 2000000) : zrem (x : Int) 64 = ((x % 64 : Nat) : Int) := by
  unfold zrem zb
  have h1 : (Int32.ofInt (x : Int) / Int32.ofInt 64).toInt = ((x / 64 : Nat) : Int) := zdiv64 h
  have e1 : (Int32.ofInt (x : Int) - Int32.ofInt (x : Int) / Int32.ofInt 64 * Int32.ofInt 64).toInt = zsub (x : Int) (zmul ((x / 64 : Nat) : Int) 64) := by
    unfold zsub zmul zb
    rw [← h1, zof, zof]
  rw [e1, zmul_e (by omega) (by omega), zsub_e (by omega) (by omega)]
  omega
end ZBEST

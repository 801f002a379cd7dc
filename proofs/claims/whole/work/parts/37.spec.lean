/-! THE PICTURE: a wood, a walk in it, as plain numbers -/
/-- a wood: how many ways; of each way its two places and its minutes -/
abbrev ZWd : Type := Nat × (Nat → Nat) × (Nat → Nat) × (Nat → Nat)
def wN (W : ZWd) : Nat := W.1
def wA (W : ZWd) : Nat → Nat := W.2.1
def wB (W : ZWd) : Nat → Nat := W.2.2.1
def wM (W : ZWd) : Nat → Nat := W.2.2.2
def wOK (W : ZWd) : Prop := wN W ≤ 12 ∧ ∀ w, w < wN W → wA W w < 8 ∧ wB W w < 8 ∧ wA W w ≠ wB W w ∧ 1 ≤ wM W w ∧ wM W w ≤ 9
/-- the end of a way beyond a place, and whether the way is at the place -/
def wO (W : ZWd) (w p : Nat) : Nat := if wA W w = p then wB W w else wA W w
def wI (W : ZWd) (w p : Nat) : Bool := decide (w < wN W ∧ (wA W w = p ∨ wB W w = p))
/-- where one stands: the place, the ways to go back by (the last first), what was gone (bits) -/
abbrev ZWk : Type := Nat × List Nat × Int
def kP (s : ZWk) : Nat := s.1
def kO (s : ZWk) : List Nat := s.2.1
def kG (s : ZWk) : Int := s.2.2
def kK (W : ZWd) (s : ZWk) (w : Nat) : Nat := if wI W w (kP s) = true then (if zbit (kG s) w = true then (if (kO s).head? = some w then 2 else 0) else 1) else 0
def kKi (W : ZWd) (s : ZWk) (x : Int) : Nat := if 0 ≤ x then kK W s x.toNat else 0
def kN (W : ZWd) (s : ZWk) (w : Nat) : ZWk := (wO W w (kP s), w :: kO s, zor (kG s) (zshl 1 (w : Int)))
def kB (W : ZWd) (s : ZWk) : ZWk := match kO s with
  | [] => s
  | w :: os => (wO W w (kP s), os, kG s)
def kS (W : ZWd) (s : ZWk) (w k : Nat) : ZWk := if k = 1 then kN W s w else kB W s
def kC (W : ZWd) : Nat → List Nat → Prop
  | _, [] => True
  | p, w :: os => wI W w p = true ∧ kC W (wO W w p) os
def kOK (W : ZWd) (s : ZWk) : Prop := kP s < 8 ∧ kC W (kP s) (kO s) ∧ (kO s).Nodup ∧ (∀ w, w ∈ kO s → zbit (kG s) w = true) ∧ z32 (kG s) = kG s ∧ ∀ k, zbit (kG s) k = true → k < wN W
/-- a told walk: where one stands, minutes, places, judged -/
abbrev ZTr : Type := ZWk × Int × Int × Int
def tB (h : Nat) : ZTr := ((h, [], 0), 0, zshl 1 (h : Int), -1)
def tS (W : ZWd) (t : Nat → Int) (i : Nat) (r : ZTr) : ZTr := if r.2.2.2 = -1 then (if kKi W r.1 (t i - 97) = 0 then (r.1, r.2.1, r.2.2.1, (i : Int)) else
  (kS W r.1 (t i - 97).toNat (kKi W r.1 (t i - 97)), r.2.1 + (wM W (t i - 97).toNat : Int), zor r.2.2.1 (zshl 1 (kP (kS W r.1 (t i - 97).toNat (kKi W r.1 (t i - 97))) : Int)), -1)) else r
def tR (W : ZWd) (t : Nat → Int) (h : Nat) : Nat → ZTr
  | 0 => tB h
  | i + 1 => tS W t i (tR W t h i)
/-- how soon: rows of minutes, 1000000 where one cannot come -/
abbrev ZRw : Type := Nat → Nat
def snC (W : ZWd) (cut : Int) : Nat → Nat → List Nat → ZRw → ZRw
  | _, _, [], r => r
  | p, t, w :: os, r => if zbit cut w = true then r else snC W cut (wO W w p) (t + wM W w) os (zup r (wO W w p) (if t + wM W w < r (wO W w p) then t + wM W w else r (wO W w p)))
def snW (W : ZWd) (g cut : Int) (r : ZRw) (w : Nat) : ZRw := if zbit g w = true ∨ zbit cut w = true then r else
  zup (zup r (wB W w) (if r (wA W w) + wM W w < r (wB W w) then r (wA W w) + wM W w else r (wB W w))) (wA W w) (if r (wB W w) + wM W w < r (wA W w) then r (wB W w) + wM W w else r (wA W w))
def snP (W : ZWd) (g cut : Int) : Nat → ZRw → ZRw
  | 0, r => r
  | k + 1, r => snW W g cut (snP W g cut k r) k
def snI (W : ZWd) (g cut : Int) : Nat → ZRw → ZRw
  | 0, r => r
  | k + 1, r => snP W g cut (wN W) (snI W g cut k r)
def sn0 (p : Nat) : ZRw := zup (fun _ => 1000000) p 0
def sn (W : ZWd) (s : ZWk) (cut : Int) : ZRw := snI W (kG s) cut 8 (snC W cut (kP s) 0 (kO s) (sn0 (kP s)))
def rcN (r : ZRw) : Nat → Int
  | 0 => 0
  | k + 1 => zor (rcN r k) (if r k < 1000000 then zshl 1 (k : Int) else 0)
def rc (r : ZRw) : Int := rcN r 8
def snT (r : ZRw) (p : Nat) : Int := if r p < 1000000 then (r p : Int) else -1
/-! how cells hold it -/
def RL (row : Nat → Int) : List Nat → Prop
  | [] => True
  | w :: os => row os.length = (w : Int) ∧ RL row os
def bk (W : ZWd) : Nat → List Nat → List Nat
  | _, [] => []
  | p, w :: os => wO W w p :: bk W (wO W w p) os
/-- the wood's cells in the class: 9 (3: how many), 10, 11, 12 -/
def RWd (W : ZWd) (C : ZC) : Prop := C 9 3 = (wN W : Int) ∧ ∀ w, w < wN W → C 10 w = (wA W w : Int) ∧ C 11 w = (wB W w : Int) ∧ C 12 w = (wM W w : Int)
/-- a walk's cells in the class -/
def RWk (W : ZWd) (s : ZWk) (c : Nat) (C : ZC) : Prop := C c 5 = (kP s : Int) ∧ C c 6 = ((kO s).length : Int) ∧ C c 7 = kG s ∧ RL (C (c + 1)) (kO s) ∧ RL (C (c + 2)) (bk W (kP s) (kO s))
section ZPICTURE
variable {W : ZWd} {s : ZWk}
theorem bk_len : ∀ (os : List Nat) (p : Nat), (bk W p os).length = os.length
  | [], _ => rfl
  | w :: os, p => by show (bk W (wO W w p) os).length + 1 = os.length + 1; rw [bk_len os]
theorem RL_up {row : Nat → Int} {i : Nat} {v : Int} : ∀ {os : List Nat}, os.length ≤ i → RL row os → RL (zup row i v) os
  | [], _, _ => trivial
  | w :: os, hi, h => by
    have h1 : os.length + 1 ≤ i := hi
    refine ⟨?_, RL_up (by omega) h.2⟩
    show zup row i v os.length = _
    unfold zup
    rw [if_neg (by omega)]
    exact h.1
theorem RL_push {row : Nat → Int} {w : Nat} {os : List Nat} (h : RL row os) : RL (zup row os.length (w : Int)) (w :: os) :=
  ⟨if_pos rfl, RL_up (Nat.le_refl _) h⟩
theorem RL_get {row : Nat → Int} : ∀ {os : List Nat}, RL row os → ∀ i, i < os.length → ∃ w, w ∈ os ∧ row i = (w : Int)
  | [], _, i, hi => absurd hi (Nat.not_lt_zero _)
  | w :: os, h, i, hi => by
    by_cases e : i = os.length
    · subst e
      exact ⟨w, List.mem_cons_self, h.1⟩
    · have h1 : i < os.length + 1 := hi
      obtain ⟨v, hv, hr⟩ := RL_get h.2 i (by omega)
      exact ⟨v, List.mem_cons_of_mem _ hv, hr⟩
theorem nodup_le : ∀ (n : Nat) (l : List Nat), l.Nodup → (∀ w, w ∈ l → w < n) → l.length ≤ n
  | 0, [], _, _ => Nat.le_refl _
  | 0, w :: l, _, h => absurd (h w List.mem_cons_self) (Nat.not_lt_zero _)
  | n + 1, l, hn, h => by
    have h1 : (l.filter (fun w => decide (w ≠ n))).length ≤ n := nodup_le n _ (hn.filter _) (fun w hw => by
      have h2 := List.mem_filter.mp hw
      have h3 := h w h2.1
      have h4 : w ≠ n := of_decide_eq_true h2.2
      omega)
    have h5 : ∀ (l : List Nat), l.Nodup → l.length ≤ (l.filter (fun w => decide (w ≠ n))).length + 1 := by
      intro l
      induction l with
      | nil => intro _; exact Nat.zero_le _
      | cons a l ih =>
        intro hn
        have hn2 := List.nodup_cons.mp hn
        by_cases e : a = n
        · have e2 : l.filter (fun w => decide (w ≠ n)) = l := List.filter_eq_self.mpr fun w hw => decide_eq_true fun e3 => hn2.1 (by rw [e, ← e3]; exact hw)
          rw [List.filter_cons_of_neg (by rw [e]; simp), e2]
          exact Nat.le_refl _
        · rw [List.filter_cons_of_pos (by simp [e])]
          have := ih hn2.2
          simp only [List.length_cons]
          omega
    have := h5 l hn
    omega
theorem wI_iff {w p : Nat} : wI W w p = true ↔ w < wN W ∧ (wA W w = p ∨ wB W w = p) := decide_eq_true_iff
theorem wO_lt (hW : wOK W) {w p : Nat} (hw : w < wN W) : wO W w p < 8 := by
  unfold wO
  have := hW.2 w hw
  split <;> omega
theorem wI_O (hW : wOK W) {w p : Nat} (h : wI W w p = true) : wI W w (wO W w p) = true := by
  have h1 := wI_iff.mp h
  refine wI_iff.mpr ⟨h1.1, ?_⟩
  unfold wO
  split <;> simp
theorem wO_O (hW : wOK W) {w p : Nat} (h : wI W w p = true) : wO W w (wO W w p) = p := by
  have h1 := wI_iff.mp h
  have h2 := hW.2 w h1.1
  unfold wO
  by_cases e : wA W w = p
  · rw [if_pos e, if_neg h2.2.2.1]; exact e
  · rw [if_neg e, if_pos rfl]
    exact h1.2.resolve_left e
theorem wO_ne (hW : wOK W) {w p : Nat} (h : wI W w p = true) : wO W w p ≠ p := by
  have h1 := wI_iff.mp h
  have h2 := hW.2 w h1.1
  unfold wO
  by_cases e : wA W w = p
  · rw [if_pos e]; intro e2; exact h2.2.2.1 (e.trans e2.symm)
  · rw [if_neg e]; exact e
theorem kC_lt : ∀ {os : List Nat} {p : Nat}, kC W p os → ∀ w, w ∈ os → w < wN W
  | [], _, _, w, hw => by cases hw
  | v :: os, p, h, w, hw => by
    rcases List.mem_cons.mp hw with e | hw
    · rw [e]; exact (wI_iff.mp h.1).1
    · exact kC_lt h.2 w hw
theorem kOK_len (h : kOK W s) : (kO s).length ≤ wN W := nodup_le _ _ h.2.2.1 (kC_lt h.2.1)
theorem kOK_room (h : kOK W s) {w : Nat} (hw : w < wN W) (hg : zbit (kG s) w = false) : (kO s).length < wN W := by
  have h1 : (w :: kO s).length ≤ wN W := nodup_le _ _ (List.nodup_cons.mpr ⟨fun hm => (by rw [h.2.2.2.1 w hm] at hg; cases hg), h.2.2.1⟩) (fun v hv => by
    rcases List.mem_cons.mp hv with e | hv
    · rw [e]; exact hw
    · exact kC_lt h.2.1 v hv)
  exact h1
theorem kOK_N (hW : wOK W) (h : kOK W s) {w : Nat} (hi : wI W w (kP s) = true) (hg : zbit (kG s) w = false) : kOK W (kN W s w) := by
  have hw := (wI_iff.mp hi).1
  have hw2 := hW.1
  refine ⟨wO_lt hW hw, ⟨?_, ?_⟩, List.nodup_cons.mpr ⟨fun hm => (by rw [h.2.2.2.1 w hm] at hg; cases hg), h.2.2.1⟩, ?_, z32_zb _ _ _, ?_⟩
  · exact wI_O hW hi
  · show kC W (wO W w (wO W w (kP s))) (kO s)
    rw [wO_O hW hi]
    exact h.2.1
  · intro v hv
    show zbit (zor (kG s) (zshl 1 (w : Int))) v = true
    rw [zbit_or]
    rcases List.mem_cons.mp hv with e | hv
    · rw [e, zbit_sh1 w (by omega) w (by omega)]; simp
    · rw [h.2.2.2.1 v hv]; rfl
  · intro k hk
    have hk : zbit (zor (kG s) (zshl 1 (w : Int))) k = true := hk
    rw [zbit_or] at hk
    rcases Bool.or_eq_true_iff.mp hk with hk | hk
    · exact h.2.2.2.2.2 k hk
    · by_cases hk2 : k < 32
      · rw [zbit_sh1 w (by omega) k hk2] at hk
        have := of_decide_eq_true hk
        omega
      · rw [zbit_hi _ k (by omega)] at hk; cases hk
theorem kOK_B (hW : wOK W) (h : kOK W s) : kOK W (kB W s) := by
  unfold kB
  cases ho : kO s with
  | nil => exact h
  | cons w os =>
    have hc := h.2.1
    have hn := h.2.2.1
    rw [ho] at hc hn
    exact ⟨wO_lt hW (wI_iff.mp hc.1).1, hc.2, (List.nodup_cons.mp hn).2, fun v hv => h.2.2.2.1 v (by rw [ho]; exact List.mem_cons_of_mem _ hv), h.2.2.2.2.1, h.2.2.2.2.2⟩
theorem kOK_begin (p : Nat) (hp : p < 8) : kOK W (p, [], 0) :=
  ⟨hp, trivial, List.nodup_nil, fun w hw => (by cases hw), z32_e (by show (-2147483648 : Int) ≤ 0; decide) (by show (0 : Int) < 2147483648; decide), fun k hk => by
    have : zbit 0 k = true := hk
    rw [zbit_0] at this; cases this⟩
theorem kK_1 {w : Nat} : kK W s w = 1 ↔ wI W w (kP s) = true ∧ zbit (kG s) w = false := by
  unfold kK
  cases wI W w (kP s) <;> cases zbit (kG s) w <;> simp
  split <;> simp
theorem kK_2 {w : Nat} : kK W s w = 2 ↔ wI W w (kP s) = true ∧ zbit (kG s) w = true ∧ (kO s).head? = some w := by
  unfold kK
  cases wI W w (kP s) <;> cases zbit (kG s) w <;> simp
theorem kK_le {w : Nat} : kK W s w ≤ 2 := by
  unfold kK
  split
  · split
    · split <;> omega
    · omega
  · omega
theorem kOK_S (hW : wOK W) (h : kOK W s) {w : Nat} (hk : kK W s w ≠ 0) : kOK W (kS W s w (kK W s w)) := by
  unfold kS
  by_cases e : kK W s w = 1
  · rw [if_pos e]
    have := kK_1.mp e
    exact kOK_N hW h this.1 this.2
  · rw [if_neg e]
    exact kOK_B hW h
end ZPICTURE

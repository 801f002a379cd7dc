/-! The shape that the two constructors leave (cells 1..71 the class's, 72..95 the model's), and rows for the block equations -/
def zadd (a b : Int) : Int := zb (· + ·) a b
def zsub (a b : Int) : Int := zb (· - ·) a b
def zmul (a b : Int) : Int := zb (· * ·) a b
def zand (a b : Int) : Int := zb (· &&& ·) a b
def zor (a b : Int) : Int := zb (· ||| ·) a b
def zxor (a b : Int) : Int := zb (· ^^^ ·) a b
def zshl (a b : Int) : Int := zb (fun a b => a <<< (b &&& 31)) a b
def zshr (a b : Int) : Int := zb (fun a b => a >>> (b &&& 31)) a b
def zushr (a b : Int) : Int := zb (fun a b => (a.toUInt32 >>> (b.toUInt32 &&& Int32.toUInt32 31)).toInt32) a b
def zdiv (a b : Int) : Int := zb (· / ·) a b
def zrem (a b : Int) : Int := zb (fun a b => a - a / b * b) a b
def zi2b (a : Int) : Int := zu (fun a => a.toInt8.toInt32) a
def zi2s (a : Int) : Int := zu (fun a => a.toInt16.toInt32) a
def zladd (a b : Int) : Int := zlb (· + ·) a b
def zlmul (a b : Int) : Int := zlb (· * ·) a b
theorem zG_congr {q : Prop} [Decidable q] {X Y : Option (Option ZV × ZS × ZC)} (h : q → X = Y) : zG q X = zG q Y := by
  unfold zG
  by_cases hq : q
  · rw [if_pos hq, if_pos hq, h hq]
  · rw [if_neg hq, if_neg hq]
def zkdL : List Nat := [12, 6, 11, 8, 8, 8, 8, 8, 8, 5, 8, 8, 8, 10, 4, 8, 8, 8, 1, 8, 8, 8, 8, 4, 8, 8, 8, 3, 8, 8, 4, 8, 8, 8, 0, 11, 8, 8, 8, 8, 8, 8, 8, 8, 4, 8, 8, 8, 2, 11, 8, 8, 8, 8, 8, 8, 4, 8, 8, 8, 4, 8, 8, 8, 4, 8, 8, 8, 4, 8, 8, 8, 7, 8, 8, 8, 8, 8, 8, 8, 8, 8, 8, 8, 8, 8, 8, 8, 8, 8, 8, 9, 8, 8, 8, 8]
def zlnL : List Nat := [0, 0, 5, 60, 60, 60, 60, 60, 5, 0, 12, 12, 12, 4, 0, 12, 12, 8, 0, 6, 64, 64, 64, 0, 12, 12, 8, 0, 4, 4, 0, 12, 12, 8, 0, 8, 8, 8, 8, 8, 8, 8, 8, 8, 0, 12, 12, 8, 0, 4, 48, 48, 48, 48, 4, 4, 0, 12, 12, 8, 0, 12, 12, 8, 0, 12, 12, 8, 0, 12, 12, 8, 0, 5, 300, 13, 13, 13, 4, 64, 8, 64, 64, 64, 64, 64, 8, 4, 4, 64, 64, 4, 4, 4, 192, 48]
def zrfL : List (List (Option Nat)) := [[], [some 2, some 8, some 9, some 13, some 14, some 18, some 27, some 34, some 48], [some 3, some 4, some 5, some 6, some 7], [], [], [], [], [], [], [some 10, some 11, some 12], [], [], [], [some 56, some 60, some 64, some 68], [some 9, some 15, some 16, some 17], [], [], [], [some 9, some 23, some 19, some 20, some 21, some 22], [], [], [], [], [some 9, some 24, some 25, some 26], [], [], [], [some 9, some 30, some 28, some 29], [], [], [some 9, some 31, some 32, some 33], [], [], [], [some 9, some 44, some 35], [some 36, some 37, some 38, some 39, some 40, some 41, some 42, some 43], [], [], [], [], [], [], [], [], [some 9, some 45, some 46, some 47], [], [], [], [some 49, some 54, some 55], [some 50, some 51, some 52, some 53], [], [], [], [], [], [], [some 9, some 57, some 58, some 59], [], [], [], [some 9, some 61, some 62, some 63], [], [], [], [some 9, some 65, some 66, some 67], [], [], [], [some 9, some 69, some 70, some 71], [], [], [], [some 73, some 74, none, some 75, some 76, some 77, some 78, none, none, none, some 79, none, none, none, some 80, some 81, some 82, some 83, some 84, some 85, none, none, some 86, none, some 87, some 88, some 89, some 90, some 91, some 92, some 93, some 94, some 95], [], [], [], [], [], [], [], [], [], [], [], [], [], [], [], [], [], [], [], [], [], [], []]
def zShC (S : ZS) : Prop := 72 ≤ S.1.1 ∧ ∀ a, 1 ≤ a → a < 72 → S.2.1 a = zkdL.getD a 0 ∧ S.2.2.1 a = zlnL.getD a 0 ∧ ∀ j, S.2.2.2 a j = (zrfL.getD a []).getD j none
def zShM (S : ZS) : Prop := 96 ≤ S.1.1 ∧ ∀ a, 72 ≤ a → a < 96 → S.2.1 a = zkdL.getD a 0 ∧ S.2.2.1 a = zlnL.getD a 0 ∧ ∀ j, S.2.2.2 a j = (zrfL.getD a []).getD j none
section ZSHAPE
variable {S : ZS}
theorem sk_1 (hS : zShC S) : 1 < S.1.1 ∧ S.2.1 1 = 6 := ⟨Nat.lt_of_lt_of_le (by decide) hS.1, (hS.2 1 (by decide) (by decide)).1⟩
theorem sr_1_0 (hS : zShC S) : S.2.2.2 1 0 = some 2 := (hS.2 1 (by decide) (by decide)).2.2 0
theorem sr_1_1 (hS : zShC S) : S.2.2.2 1 1 = some 8 := (hS.2 1 (by decide) (by decide)).2.2 1
theorem sr_1_2 (hS : zShC S) : S.2.2.2 1 2 = some 9 := (hS.2 1 (by decide) (by decide)).2.2 2
theorem sr_1_3 (hS : zShC S) : S.2.2.2 1 3 = some 13 := (hS.2 1 (by decide) (by decide)).2.2 3
theorem sr_1_4 (hS : zShC S) : S.2.2.2 1 4 = some 14 := (hS.2 1 (by decide) (by decide)).2.2 4
theorem sr_1_5 (hS : zShC S) : S.2.2.2 1 5 = some 18 := (hS.2 1 (by decide) (by decide)).2.2 5
theorem sr_1_6 (hS : zShC S) : S.2.2.2 1 6 = some 27 := (hS.2 1 (by decide) (by decide)).2.2 6
theorem sr_1_7 (hS : zShC S) : S.2.2.2 1 7 = some 34 := (hS.2 1 (by decide) (by decide)).2.2 7
theorem sr_1_8 (hS : zShC S) : S.2.2.2 1 8 = some 48 := (hS.2 1 (by decide) (by decide)).2.2 8
theorem sk_2 (hS : zShC S) : 2 < S.1.1 ∧ S.2.1 2 = 11 := ⟨Nat.lt_of_lt_of_le (by decide) hS.1, (hS.2 2 (by decide) (by decide)).1⟩
theorem sl_2 (hS : zShC S) : ((S.2.2.1 2 : Nat) : Int) = 5 := congrArg Int.ofNat (hS.2 2 (by decide) (by decide)).2.1
theorem sr_2_0 (hS : zShC S) : S.2.2.2 2 0 = some 3 := (hS.2 2 (by decide) (by decide)).2.2 0
theorem sr_2_1 (hS : zShC S) : S.2.2.2 2 1 = some 4 := (hS.2 2 (by decide) (by decide)).2.2 1
theorem sr_2_2 (hS : zShC S) : S.2.2.2 2 2 = some 5 := (hS.2 2 (by decide) (by decide)).2.2 2
theorem sr_2_3 (hS : zShC S) : S.2.2.2 2 3 = some 6 := (hS.2 2 (by decide) (by decide)).2.2 3
theorem sr_2_4 (hS : zShC S) : S.2.2.2 2 4 = some 7 := (hS.2 2 (by decide) (by decide)).2.2 4
theorem sk_3 (hS : zShC S) : 3 < S.1.1 ∧ S.2.1 3 = 8 := ⟨Nat.lt_of_lt_of_le (by decide) hS.1, (hS.2 3 (by decide) (by decide)).1⟩
theorem sl_3 (hS : zShC S) : ((S.2.2.1 3 : Nat) : Int) = 60 := congrArg Int.ofNat (hS.2 3 (by decide) (by decide)).2.1
theorem sk_4 (hS : zShC S) : 4 < S.1.1 ∧ S.2.1 4 = 8 := ⟨Nat.lt_of_lt_of_le (by decide) hS.1, (hS.2 4 (by decide) (by decide)).1⟩
theorem sl_4 (hS : zShC S) : ((S.2.2.1 4 : Nat) : Int) = 60 := congrArg Int.ofNat (hS.2 4 (by decide) (by decide)).2.1
theorem sk_5 (hS : zShC S) : 5 < S.1.1 ∧ S.2.1 5 = 8 := ⟨Nat.lt_of_lt_of_le (by decide) hS.1, (hS.2 5 (by decide) (by decide)).1⟩
theorem sl_5 (hS : zShC S) : ((S.2.2.1 5 : Nat) : Int) = 60 := congrArg Int.ofNat (hS.2 5 (by decide) (by decide)).2.1
theorem sk_6 (hS : zShC S) : 6 < S.1.1 ∧ S.2.1 6 = 8 := ⟨Nat.lt_of_lt_of_le (by decide) hS.1, (hS.2 6 (by decide) (by decide)).1⟩
theorem sl_6 (hS : zShC S) : ((S.2.2.1 6 : Nat) : Int) = 60 := congrArg Int.ofNat (hS.2 6 (by decide) (by decide)).2.1
theorem sk_7 (hS : zShC S) : 7 < S.1.1 ∧ S.2.1 7 = 8 := ⟨Nat.lt_of_lt_of_le (by decide) hS.1, (hS.2 7 (by decide) (by decide)).1⟩
theorem sl_7 (hS : zShC S) : ((S.2.2.1 7 : Nat) : Int) = 60 := congrArg Int.ofNat (hS.2 7 (by decide) (by decide)).2.1
theorem sk_8 (hS : zShC S) : 8 < S.1.1 ∧ S.2.1 8 = 8 := ⟨Nat.lt_of_lt_of_le (by decide) hS.1, (hS.2 8 (by decide) (by decide)).1⟩
theorem sl_8 (hS : zShC S) : ((S.2.2.1 8 : Nat) : Int) = 5 := congrArg Int.ofNat (hS.2 8 (by decide) (by decide)).2.1
theorem sk_9 (hS : zShC S) : 9 < S.1.1 ∧ S.2.1 9 = 5 := ⟨Nat.lt_of_lt_of_le (by decide) hS.1, (hS.2 9 (by decide) (by decide)).1⟩
theorem sr_9_0 (hS : zShC S) : S.2.2.2 9 0 = some 10 := (hS.2 9 (by decide) (by decide)).2.2 0
theorem sr_9_1 (hS : zShC S) : S.2.2.2 9 1 = some 11 := (hS.2 9 (by decide) (by decide)).2.2 1
theorem sr_9_2 (hS : zShC S) : S.2.2.2 9 2 = some 12 := (hS.2 9 (by decide) (by decide)).2.2 2
theorem sk_10 (hS : zShC S) : 10 < S.1.1 ∧ S.2.1 10 = 8 := ⟨Nat.lt_of_lt_of_le (by decide) hS.1, (hS.2 10 (by decide) (by decide)).1⟩
theorem sl_10 (hS : zShC S) : ((S.2.2.1 10 : Nat) : Int) = 12 := congrArg Int.ofNat (hS.2 10 (by decide) (by decide)).2.1
theorem sk_11 (hS : zShC S) : 11 < S.1.1 ∧ S.2.1 11 = 8 := ⟨Nat.lt_of_lt_of_le (by decide) hS.1, (hS.2 11 (by decide) (by decide)).1⟩
theorem sl_11 (hS : zShC S) : ((S.2.2.1 11 : Nat) : Int) = 12 := congrArg Int.ofNat (hS.2 11 (by decide) (by decide)).2.1
theorem sk_12 (hS : zShC S) : 12 < S.1.1 ∧ S.2.1 12 = 8 := ⟨Nat.lt_of_lt_of_le (by decide) hS.1, (hS.2 12 (by decide) (by decide)).1⟩
theorem sl_12 (hS : zShC S) : ((S.2.2.1 12 : Nat) : Int) = 12 := congrArg Int.ofNat (hS.2 12 (by decide) (by decide)).2.1
theorem sk_13 (hS : zShC S) : 13 < S.1.1 ∧ S.2.1 13 = 10 := ⟨Nat.lt_of_lt_of_le (by decide) hS.1, (hS.2 13 (by decide) (by decide)).1⟩
theorem sl_13 (hS : zShC S) : ((S.2.2.1 13 : Nat) : Int) = 4 := congrArg Int.ofNat (hS.2 13 (by decide) (by decide)).2.1
theorem sr_13_0 (hS : zShC S) : S.2.2.2 13 0 = some 56 := (hS.2 13 (by decide) (by decide)).2.2 0
theorem sr_13_1 (hS : zShC S) : S.2.2.2 13 1 = some 60 := (hS.2 13 (by decide) (by decide)).2.2 1
theorem sr_13_2 (hS : zShC S) : S.2.2.2 13 2 = some 64 := (hS.2 13 (by decide) (by decide)).2.2 2
theorem sr_13_3 (hS : zShC S) : S.2.2.2 13 3 = some 68 := (hS.2 13 (by decide) (by decide)).2.2 3
theorem sk_14 (hS : zShC S) : 14 < S.1.1 ∧ S.2.1 14 = 4 := ⟨Nat.lt_of_lt_of_le (by decide) hS.1, (hS.2 14 (by decide) (by decide)).1⟩
theorem sr_14_0 (hS : zShC S) : S.2.2.2 14 0 = some 9 := (hS.2 14 (by decide) (by decide)).2.2 0
theorem sr_14_1 (hS : zShC S) : S.2.2.2 14 1 = some 15 := (hS.2 14 (by decide) (by decide)).2.2 1
theorem sr_14_2 (hS : zShC S) : S.2.2.2 14 2 = some 16 := (hS.2 14 (by decide) (by decide)).2.2 2
theorem sr_14_3 (hS : zShC S) : S.2.2.2 14 3 = some 17 := (hS.2 14 (by decide) (by decide)).2.2 3
theorem sk_15 (hS : zShC S) : 15 < S.1.1 ∧ S.2.1 15 = 8 := ⟨Nat.lt_of_lt_of_le (by decide) hS.1, (hS.2 15 (by decide) (by decide)).1⟩
theorem sl_15 (hS : zShC S) : ((S.2.2.1 15 : Nat) : Int) = 12 := congrArg Int.ofNat (hS.2 15 (by decide) (by decide)).2.1
theorem sk_16 (hS : zShC S) : 16 < S.1.1 ∧ S.2.1 16 = 8 := ⟨Nat.lt_of_lt_of_le (by decide) hS.1, (hS.2 16 (by decide) (by decide)).1⟩
theorem sl_16 (hS : zShC S) : ((S.2.2.1 16 : Nat) : Int) = 12 := congrArg Int.ofNat (hS.2 16 (by decide) (by decide)).2.1
theorem sk_17 (hS : zShC S) : 17 < S.1.1 ∧ S.2.1 17 = 8 := ⟨Nat.lt_of_lt_of_le (by decide) hS.1, (hS.2 17 (by decide) (by decide)).1⟩
theorem sl_17 (hS : zShC S) : ((S.2.2.1 17 : Nat) : Int) = 8 := congrArg Int.ofNat (hS.2 17 (by decide) (by decide)).2.1
theorem sk_18 (hS : zShC S) : 18 < S.1.1 ∧ S.2.1 18 = 1 := ⟨Nat.lt_of_lt_of_le (by decide) hS.1, (hS.2 18 (by decide) (by decide)).1⟩
theorem sr_18_0 (hS : zShC S) : S.2.2.2 18 0 = some 9 := (hS.2 18 (by decide) (by decide)).2.2 0
theorem sr_18_1 (hS : zShC S) : S.2.2.2 18 1 = some 23 := (hS.2 18 (by decide) (by decide)).2.2 1
theorem sr_18_2 (hS : zShC S) : S.2.2.2 18 2 = some 19 := (hS.2 18 (by decide) (by decide)).2.2 2
theorem sr_18_3 (hS : zShC S) : S.2.2.2 18 3 = some 20 := (hS.2 18 (by decide) (by decide)).2.2 3
theorem sr_18_4 (hS : zShC S) : S.2.2.2 18 4 = some 21 := (hS.2 18 (by decide) (by decide)).2.2 4
theorem sr_18_5 (hS : zShC S) : S.2.2.2 18 5 = some 22 := (hS.2 18 (by decide) (by decide)).2.2 5
theorem sk_19 (hS : zShC S) : 19 < S.1.1 ∧ S.2.1 19 = 8 := ⟨Nat.lt_of_lt_of_le (by decide) hS.1, (hS.2 19 (by decide) (by decide)).1⟩
theorem sl_19 (hS : zShC S) : ((S.2.2.1 19 : Nat) : Int) = 6 := congrArg Int.ofNat (hS.2 19 (by decide) (by decide)).2.1
theorem sk_20 (hS : zShC S) : 20 < S.1.1 ∧ S.2.1 20 = 8 := ⟨Nat.lt_of_lt_of_le (by decide) hS.1, (hS.2 20 (by decide) (by decide)).1⟩
theorem sl_20 (hS : zShC S) : ((S.2.2.1 20 : Nat) : Int) = 64 := congrArg Int.ofNat (hS.2 20 (by decide) (by decide)).2.1
theorem sk_21 (hS : zShC S) : 21 < S.1.1 ∧ S.2.1 21 = 8 := ⟨Nat.lt_of_lt_of_le (by decide) hS.1, (hS.2 21 (by decide) (by decide)).1⟩
theorem sl_21 (hS : zShC S) : ((S.2.2.1 21 : Nat) : Int) = 64 := congrArg Int.ofNat (hS.2 21 (by decide) (by decide)).2.1
theorem sk_22 (hS : zShC S) : 22 < S.1.1 ∧ S.2.1 22 = 8 := ⟨Nat.lt_of_lt_of_le (by decide) hS.1, (hS.2 22 (by decide) (by decide)).1⟩
theorem sl_22 (hS : zShC S) : ((S.2.2.1 22 : Nat) : Int) = 64 := congrArg Int.ofNat (hS.2 22 (by decide) (by decide)).2.1
theorem sk_23 (hS : zShC S) : 23 < S.1.1 ∧ S.2.1 23 = 4 := ⟨Nat.lt_of_lt_of_le (by decide) hS.1, (hS.2 23 (by decide) (by decide)).1⟩
theorem sr_23_0 (hS : zShC S) : S.2.2.2 23 0 = some 9 := (hS.2 23 (by decide) (by decide)).2.2 0
theorem sr_23_1 (hS : zShC S) : S.2.2.2 23 1 = some 24 := (hS.2 23 (by decide) (by decide)).2.2 1
theorem sr_23_2 (hS : zShC S) : S.2.2.2 23 2 = some 25 := (hS.2 23 (by decide) (by decide)).2.2 2
theorem sr_23_3 (hS : zShC S) : S.2.2.2 23 3 = some 26 := (hS.2 23 (by decide) (by decide)).2.2 3
theorem sk_24 (hS : zShC S) : 24 < S.1.1 ∧ S.2.1 24 = 8 := ⟨Nat.lt_of_lt_of_le (by decide) hS.1, (hS.2 24 (by decide) (by decide)).1⟩
theorem sl_24 (hS : zShC S) : ((S.2.2.1 24 : Nat) : Int) = 12 := congrArg Int.ofNat (hS.2 24 (by decide) (by decide)).2.1
theorem sk_25 (hS : zShC S) : 25 < S.1.1 ∧ S.2.1 25 = 8 := ⟨Nat.lt_of_lt_of_le (by decide) hS.1, (hS.2 25 (by decide) (by decide)).1⟩
theorem sl_25 (hS : zShC S) : ((S.2.2.1 25 : Nat) : Int) = 12 := congrArg Int.ofNat (hS.2 25 (by decide) (by decide)).2.1
theorem sk_26 (hS : zShC S) : 26 < S.1.1 ∧ S.2.1 26 = 8 := ⟨Nat.lt_of_lt_of_le (by decide) hS.1, (hS.2 26 (by decide) (by decide)).1⟩
theorem sl_26 (hS : zShC S) : ((S.2.2.1 26 : Nat) : Int) = 8 := congrArg Int.ofNat (hS.2 26 (by decide) (by decide)).2.1
theorem sk_27 (hS : zShC S) : 27 < S.1.1 ∧ S.2.1 27 = 3 := ⟨Nat.lt_of_lt_of_le (by decide) hS.1, (hS.2 27 (by decide) (by decide)).1⟩
theorem sr_27_0 (hS : zShC S) : S.2.2.2 27 0 = some 9 := (hS.2 27 (by decide) (by decide)).2.2 0
theorem sr_27_1 (hS : zShC S) : S.2.2.2 27 1 = some 30 := (hS.2 27 (by decide) (by decide)).2.2 1
theorem sr_27_2 (hS : zShC S) : S.2.2.2 27 2 = some 28 := (hS.2 27 (by decide) (by decide)).2.2 2
theorem sr_27_3 (hS : zShC S) : S.2.2.2 27 3 = some 29 := (hS.2 27 (by decide) (by decide)).2.2 3
theorem sk_28 (hS : zShC S) : 28 < S.1.1 ∧ S.2.1 28 = 8 := ⟨Nat.lt_of_lt_of_le (by decide) hS.1, (hS.2 28 (by decide) (by decide)).1⟩
theorem sl_28 (hS : zShC S) : ((S.2.2.1 28 : Nat) : Int) = 4 := congrArg Int.ofNat (hS.2 28 (by decide) (by decide)).2.1
theorem sk_29 (hS : zShC S) : 29 < S.1.1 ∧ S.2.1 29 = 8 := ⟨Nat.lt_of_lt_of_le (by decide) hS.1, (hS.2 29 (by decide) (by decide)).1⟩
theorem sl_29 (hS : zShC S) : ((S.2.2.1 29 : Nat) : Int) = 4 := congrArg Int.ofNat (hS.2 29 (by decide) (by decide)).2.1
theorem sk_30 (hS : zShC S) : 30 < S.1.1 ∧ S.2.1 30 = 4 := ⟨Nat.lt_of_lt_of_le (by decide) hS.1, (hS.2 30 (by decide) (by decide)).1⟩
theorem sr_30_0 (hS : zShC S) : S.2.2.2 30 0 = some 9 := (hS.2 30 (by decide) (by decide)).2.2 0
theorem sr_30_1 (hS : zShC S) : S.2.2.2 30 1 = some 31 := (hS.2 30 (by decide) (by decide)).2.2 1
theorem sr_30_2 (hS : zShC S) : S.2.2.2 30 2 = some 32 := (hS.2 30 (by decide) (by decide)).2.2 2
theorem sr_30_3 (hS : zShC S) : S.2.2.2 30 3 = some 33 := (hS.2 30 (by decide) (by decide)).2.2 3
theorem sk_31 (hS : zShC S) : 31 < S.1.1 ∧ S.2.1 31 = 8 := ⟨Nat.lt_of_lt_of_le (by decide) hS.1, (hS.2 31 (by decide) (by decide)).1⟩
theorem sl_31 (hS : zShC S) : ((S.2.2.1 31 : Nat) : Int) = 12 := congrArg Int.ofNat (hS.2 31 (by decide) (by decide)).2.1
theorem sk_32 (hS : zShC S) : 32 < S.1.1 ∧ S.2.1 32 = 8 := ⟨Nat.lt_of_lt_of_le (by decide) hS.1, (hS.2 32 (by decide) (by decide)).1⟩
theorem sl_32 (hS : zShC S) : ((S.2.2.1 32 : Nat) : Int) = 12 := congrArg Int.ofNat (hS.2 32 (by decide) (by decide)).2.1
theorem sk_33 (hS : zShC S) : 33 < S.1.1 ∧ S.2.1 33 = 8 := ⟨Nat.lt_of_lt_of_le (by decide) hS.1, (hS.2 33 (by decide) (by decide)).1⟩
theorem sl_33 (hS : zShC S) : ((S.2.2.1 33 : Nat) : Int) = 8 := congrArg Int.ofNat (hS.2 33 (by decide) (by decide)).2.1
theorem sk_34 (hS : zShC S) : 34 < S.1.1 ∧ S.2.1 34 = 0 := ⟨Nat.lt_of_lt_of_le (by decide) hS.1, (hS.2 34 (by decide) (by decide)).1⟩
theorem sr_34_0 (hS : zShC S) : S.2.2.2 34 0 = some 9 := (hS.2 34 (by decide) (by decide)).2.2 0
theorem sr_34_1 (hS : zShC S) : S.2.2.2 34 1 = some 44 := (hS.2 34 (by decide) (by decide)).2.2 1
theorem sr_34_2 (hS : zShC S) : S.2.2.2 34 2 = some 35 := (hS.2 34 (by decide) (by decide)).2.2 2
theorem sk_35 (hS : zShC S) : 35 < S.1.1 ∧ S.2.1 35 = 11 := ⟨Nat.lt_of_lt_of_le (by decide) hS.1, (hS.2 35 (by decide) (by decide)).1⟩
theorem sl_35 (hS : zShC S) : ((S.2.2.1 35 : Nat) : Int) = 8 := congrArg Int.ofNat (hS.2 35 (by decide) (by decide)).2.1
theorem sr_35_0 (hS : zShC S) : S.2.2.2 35 0 = some 36 := (hS.2 35 (by decide) (by decide)).2.2 0
theorem sr_35_1 (hS : zShC S) : S.2.2.2 35 1 = some 37 := (hS.2 35 (by decide) (by decide)).2.2 1
theorem sr_35_2 (hS : zShC S) : S.2.2.2 35 2 = some 38 := (hS.2 35 (by decide) (by decide)).2.2 2
theorem sr_35_3 (hS : zShC S) : S.2.2.2 35 3 = some 39 := (hS.2 35 (by decide) (by decide)).2.2 3
theorem sr_35_4 (hS : zShC S) : S.2.2.2 35 4 = some 40 := (hS.2 35 (by decide) (by decide)).2.2 4
theorem sr_35_5 (hS : zShC S) : S.2.2.2 35 5 = some 41 := (hS.2 35 (by decide) (by decide)).2.2 5
theorem sr_35_6 (hS : zShC S) : S.2.2.2 35 6 = some 42 := (hS.2 35 (by decide) (by decide)).2.2 6
theorem sr_35_7 (hS : zShC S) : S.2.2.2 35 7 = some 43 := (hS.2 35 (by decide) (by decide)).2.2 7
theorem sk_36 (hS : zShC S) : 36 < S.1.1 ∧ S.2.1 36 = 8 := ⟨Nat.lt_of_lt_of_le (by decide) hS.1, (hS.2 36 (by decide) (by decide)).1⟩
theorem sl_36 (hS : zShC S) : ((S.2.2.1 36 : Nat) : Int) = 8 := congrArg Int.ofNat (hS.2 36 (by decide) (by decide)).2.1
theorem sk_37 (hS : zShC S) : 37 < S.1.1 ∧ S.2.1 37 = 8 := ⟨Nat.lt_of_lt_of_le (by decide) hS.1, (hS.2 37 (by decide) (by decide)).1⟩
theorem sl_37 (hS : zShC S) : ((S.2.2.1 37 : Nat) : Int) = 8 := congrArg Int.ofNat (hS.2 37 (by decide) (by decide)).2.1
theorem sk_38 (hS : zShC S) : 38 < S.1.1 ∧ S.2.1 38 = 8 := ⟨Nat.lt_of_lt_of_le (by decide) hS.1, (hS.2 38 (by decide) (by decide)).1⟩
theorem sl_38 (hS : zShC S) : ((S.2.2.1 38 : Nat) : Int) = 8 := congrArg Int.ofNat (hS.2 38 (by decide) (by decide)).2.1
theorem sk_39 (hS : zShC S) : 39 < S.1.1 ∧ S.2.1 39 = 8 := ⟨Nat.lt_of_lt_of_le (by decide) hS.1, (hS.2 39 (by decide) (by decide)).1⟩
theorem sl_39 (hS : zShC S) : ((S.2.2.1 39 : Nat) : Int) = 8 := congrArg Int.ofNat (hS.2 39 (by decide) (by decide)).2.1
theorem sk_40 (hS : zShC S) : 40 < S.1.1 ∧ S.2.1 40 = 8 := ⟨Nat.lt_of_lt_of_le (by decide) hS.1, (hS.2 40 (by decide) (by decide)).1⟩
theorem sl_40 (hS : zShC S) : ((S.2.2.1 40 : Nat) : Int) = 8 := congrArg Int.ofNat (hS.2 40 (by decide) (by decide)).2.1
theorem sk_41 (hS : zShC S) : 41 < S.1.1 ∧ S.2.1 41 = 8 := ⟨Nat.lt_of_lt_of_le (by decide) hS.1, (hS.2 41 (by decide) (by decide)).1⟩
theorem sl_41 (hS : zShC S) : ((S.2.2.1 41 : Nat) : Int) = 8 := congrArg Int.ofNat (hS.2 41 (by decide) (by decide)).2.1
theorem sk_42 (hS : zShC S) : 42 < S.1.1 ∧ S.2.1 42 = 8 := ⟨Nat.lt_of_lt_of_le (by decide) hS.1, (hS.2 42 (by decide) (by decide)).1⟩
theorem sl_42 (hS : zShC S) : ((S.2.2.1 42 : Nat) : Int) = 8 := congrArg Int.ofNat (hS.2 42 (by decide) (by decide)).2.1
theorem sk_43 (hS : zShC S) : 43 < S.1.1 ∧ S.2.1 43 = 8 := ⟨Nat.lt_of_lt_of_le (by decide) hS.1, (hS.2 43 (by decide) (by decide)).1⟩
theorem sl_43 (hS : zShC S) : ((S.2.2.1 43 : Nat) : Int) = 8 := congrArg Int.ofNat (hS.2 43 (by decide) (by decide)).2.1
theorem sk_44 (hS : zShC S) : 44 < S.1.1 ∧ S.2.1 44 = 4 := ⟨Nat.lt_of_lt_of_le (by decide) hS.1, (hS.2 44 (by decide) (by decide)).1⟩
theorem sr_44_0 (hS : zShC S) : S.2.2.2 44 0 = some 9 := (hS.2 44 (by decide) (by decide)).2.2 0
theorem sr_44_1 (hS : zShC S) : S.2.2.2 44 1 = some 45 := (hS.2 44 (by decide) (by decide)).2.2 1
theorem sr_44_2 (hS : zShC S) : S.2.2.2 44 2 = some 46 := (hS.2 44 (by decide) (by decide)).2.2 2
theorem sr_44_3 (hS : zShC S) : S.2.2.2 44 3 = some 47 := (hS.2 44 (by decide) (by decide)).2.2 3
theorem sk_45 (hS : zShC S) : 45 < S.1.1 ∧ S.2.1 45 = 8 := ⟨Nat.lt_of_lt_of_le (by decide) hS.1, (hS.2 45 (by decide) (by decide)).1⟩
theorem sl_45 (hS : zShC S) : ((S.2.2.1 45 : Nat) : Int) = 12 := congrArg Int.ofNat (hS.2 45 (by decide) (by decide)).2.1
theorem sk_46 (hS : zShC S) : 46 < S.1.1 ∧ S.2.1 46 = 8 := ⟨Nat.lt_of_lt_of_le (by decide) hS.1, (hS.2 46 (by decide) (by decide)).1⟩
theorem sl_46 (hS : zShC S) : ((S.2.2.1 46 : Nat) : Int) = 12 := congrArg Int.ofNat (hS.2 46 (by decide) (by decide)).2.1
theorem sk_47 (hS : zShC S) : 47 < S.1.1 ∧ S.2.1 47 = 8 := ⟨Nat.lt_of_lt_of_le (by decide) hS.1, (hS.2 47 (by decide) (by decide)).1⟩
theorem sl_47 (hS : zShC S) : ((S.2.2.1 47 : Nat) : Int) = 8 := congrArg Int.ofNat (hS.2 47 (by decide) (by decide)).2.1
theorem sk_48 (hS : zShC S) : 48 < S.1.1 ∧ S.2.1 48 = 2 := ⟨Nat.lt_of_lt_of_le (by decide) hS.1, (hS.2 48 (by decide) (by decide)).1⟩
theorem sr_48_0 (hS : zShC S) : S.2.2.2 48 0 = some 49 := (hS.2 48 (by decide) (by decide)).2.2 0
theorem sr_48_1 (hS : zShC S) : S.2.2.2 48 1 = some 54 := (hS.2 48 (by decide) (by decide)).2.2 1
theorem sr_48_2 (hS : zShC S) : S.2.2.2 48 2 = some 55 := (hS.2 48 (by decide) (by decide)).2.2 2
theorem sk_49 (hS : zShC S) : 49 < S.1.1 ∧ S.2.1 49 = 11 := ⟨Nat.lt_of_lt_of_le (by decide) hS.1, (hS.2 49 (by decide) (by decide)).1⟩
theorem sl_49 (hS : zShC S) : ((S.2.2.1 49 : Nat) : Int) = 4 := congrArg Int.ofNat (hS.2 49 (by decide) (by decide)).2.1
theorem sr_49_0 (hS : zShC S) : S.2.2.2 49 0 = some 50 := (hS.2 49 (by decide) (by decide)).2.2 0
theorem sr_49_1 (hS : zShC S) : S.2.2.2 49 1 = some 51 := (hS.2 49 (by decide) (by decide)).2.2 1
theorem sr_49_2 (hS : zShC S) : S.2.2.2 49 2 = some 52 := (hS.2 49 (by decide) (by decide)).2.2 2
theorem sr_49_3 (hS : zShC S) : S.2.2.2 49 3 = some 53 := (hS.2 49 (by decide) (by decide)).2.2 3
theorem sk_50 (hS : zShC S) : 50 < S.1.1 ∧ S.2.1 50 = 8 := ⟨Nat.lt_of_lt_of_le (by decide) hS.1, (hS.2 50 (by decide) (by decide)).1⟩
theorem sl_50 (hS : zShC S) : ((S.2.2.1 50 : Nat) : Int) = 48 := congrArg Int.ofNat (hS.2 50 (by decide) (by decide)).2.1
theorem sk_51 (hS : zShC S) : 51 < S.1.1 ∧ S.2.1 51 = 8 := ⟨Nat.lt_of_lt_of_le (by decide) hS.1, (hS.2 51 (by decide) (by decide)).1⟩
theorem sl_51 (hS : zShC S) : ((S.2.2.1 51 : Nat) : Int) = 48 := congrArg Int.ofNat (hS.2 51 (by decide) (by decide)).2.1
theorem sk_52 (hS : zShC S) : 52 < S.1.1 ∧ S.2.1 52 = 8 := ⟨Nat.lt_of_lt_of_le (by decide) hS.1, (hS.2 52 (by decide) (by decide)).1⟩
theorem sl_52 (hS : zShC S) : ((S.2.2.1 52 : Nat) : Int) = 48 := congrArg Int.ofNat (hS.2 52 (by decide) (by decide)).2.1
theorem sk_53 (hS : zShC S) : 53 < S.1.1 ∧ S.2.1 53 = 8 := ⟨Nat.lt_of_lt_of_le (by decide) hS.1, (hS.2 53 (by decide) (by decide)).1⟩
theorem sl_53 (hS : zShC S) : ((S.2.2.1 53 : Nat) : Int) = 48 := congrArg Int.ofNat (hS.2 53 (by decide) (by decide)).2.1
theorem sk_54 (hS : zShC S) : 54 < S.1.1 ∧ S.2.1 54 = 8 := ⟨Nat.lt_of_lt_of_le (by decide) hS.1, (hS.2 54 (by decide) (by decide)).1⟩
theorem sl_54 (hS : zShC S) : ((S.2.2.1 54 : Nat) : Int) = 4 := congrArg Int.ofNat (hS.2 54 (by decide) (by decide)).2.1
theorem sk_55 (hS : zShC S) : 55 < S.1.1 ∧ S.2.1 55 = 8 := ⟨Nat.lt_of_lt_of_le (by decide) hS.1, (hS.2 55 (by decide) (by decide)).1⟩
theorem sl_55 (hS : zShC S) : ((S.2.2.1 55 : Nat) : Int) = 4 := congrArg Int.ofNat (hS.2 55 (by decide) (by decide)).2.1
theorem sk_56 (hS : zShC S) : 56 < S.1.1 ∧ S.2.1 56 = 4 := ⟨Nat.lt_of_lt_of_le (by decide) hS.1, (hS.2 56 (by decide) (by decide)).1⟩
theorem sr_56_0 (hS : zShC S) : S.2.2.2 56 0 = some 9 := (hS.2 56 (by decide) (by decide)).2.2 0
theorem sr_56_1 (hS : zShC S) : S.2.2.2 56 1 = some 57 := (hS.2 56 (by decide) (by decide)).2.2 1
theorem sr_56_2 (hS : zShC S) : S.2.2.2 56 2 = some 58 := (hS.2 56 (by decide) (by decide)).2.2 2
theorem sr_56_3 (hS : zShC S) : S.2.2.2 56 3 = some 59 := (hS.2 56 (by decide) (by decide)).2.2 3
theorem sk_57 (hS : zShC S) : 57 < S.1.1 ∧ S.2.1 57 = 8 := ⟨Nat.lt_of_lt_of_le (by decide) hS.1, (hS.2 57 (by decide) (by decide)).1⟩
theorem sl_57 (hS : zShC S) : ((S.2.2.1 57 : Nat) : Int) = 12 := congrArg Int.ofNat (hS.2 57 (by decide) (by decide)).2.1
theorem sk_58 (hS : zShC S) : 58 < S.1.1 ∧ S.2.1 58 = 8 := ⟨Nat.lt_of_lt_of_le (by decide) hS.1, (hS.2 58 (by decide) (by decide)).1⟩
theorem sl_58 (hS : zShC S) : ((S.2.2.1 58 : Nat) : Int) = 12 := congrArg Int.ofNat (hS.2 58 (by decide) (by decide)).2.1
theorem sk_59 (hS : zShC S) : 59 < S.1.1 ∧ S.2.1 59 = 8 := ⟨Nat.lt_of_lt_of_le (by decide) hS.1, (hS.2 59 (by decide) (by decide)).1⟩
theorem sl_59 (hS : zShC S) : ((S.2.2.1 59 : Nat) : Int) = 8 := congrArg Int.ofNat (hS.2 59 (by decide) (by decide)).2.1
theorem sk_60 (hS : zShC S) : 60 < S.1.1 ∧ S.2.1 60 = 4 := ⟨Nat.lt_of_lt_of_le (by decide) hS.1, (hS.2 60 (by decide) (by decide)).1⟩
theorem sr_60_0 (hS : zShC S) : S.2.2.2 60 0 = some 9 := (hS.2 60 (by decide) (by decide)).2.2 0
theorem sr_60_1 (hS : zShC S) : S.2.2.2 60 1 = some 61 := (hS.2 60 (by decide) (by decide)).2.2 1
theorem sr_60_2 (hS : zShC S) : S.2.2.2 60 2 = some 62 := (hS.2 60 (by decide) (by decide)).2.2 2
theorem sr_60_3 (hS : zShC S) : S.2.2.2 60 3 = some 63 := (hS.2 60 (by decide) (by decide)).2.2 3
theorem sk_61 (hS : zShC S) : 61 < S.1.1 ∧ S.2.1 61 = 8 := ⟨Nat.lt_of_lt_of_le (by decide) hS.1, (hS.2 61 (by decide) (by decide)).1⟩
theorem sl_61 (hS : zShC S) : ((S.2.2.1 61 : Nat) : Int) = 12 := congrArg Int.ofNat (hS.2 61 (by decide) (by decide)).2.1
theorem sk_62 (hS : zShC S) : 62 < S.1.1 ∧ S.2.1 62 = 8 := ⟨Nat.lt_of_lt_of_le (by decide) hS.1, (hS.2 62 (by decide) (by decide)).1⟩
theorem sl_62 (hS : zShC S) : ((S.2.2.1 62 : Nat) : Int) = 12 := congrArg Int.ofNat (hS.2 62 (by decide) (by decide)).2.1
theorem sk_63 (hS : zShC S) : 63 < S.1.1 ∧ S.2.1 63 = 8 := ⟨Nat.lt_of_lt_of_le (by decide) hS.1, (hS.2 63 (by decide) (by decide)).1⟩
theorem sl_63 (hS : zShC S) : ((S.2.2.1 63 : Nat) : Int) = 8 := congrArg Int.ofNat (hS.2 63 (by decide) (by decide)).2.1
theorem sk_64 (hS : zShC S) : 64 < S.1.1 ∧ S.2.1 64 = 4 := ⟨Nat.lt_of_lt_of_le (by decide) hS.1, (hS.2 64 (by decide) (by decide)).1⟩
theorem sr_64_0 (hS : zShC S) : S.2.2.2 64 0 = some 9 := (hS.2 64 (by decide) (by decide)).2.2 0
theorem sr_64_1 (hS : zShC S) : S.2.2.2 64 1 = some 65 := (hS.2 64 (by decide) (by decide)).2.2 1
theorem sr_64_2 (hS : zShC S) : S.2.2.2 64 2 = some 66 := (hS.2 64 (by decide) (by decide)).2.2 2
theorem sr_64_3 (hS : zShC S) : S.2.2.2 64 3 = some 67 := (hS.2 64 (by decide) (by decide)).2.2 3
theorem sk_65 (hS : zShC S) : 65 < S.1.1 ∧ S.2.1 65 = 8 := ⟨Nat.lt_of_lt_of_le (by decide) hS.1, (hS.2 65 (by decide) (by decide)).1⟩
theorem sl_65 (hS : zShC S) : ((S.2.2.1 65 : Nat) : Int) = 12 := congrArg Int.ofNat (hS.2 65 (by decide) (by decide)).2.1
theorem sk_66 (hS : zShC S) : 66 < S.1.1 ∧ S.2.1 66 = 8 := ⟨Nat.lt_of_lt_of_le (by decide) hS.1, (hS.2 66 (by decide) (by decide)).1⟩
theorem sl_66 (hS : zShC S) : ((S.2.2.1 66 : Nat) : Int) = 12 := congrArg Int.ofNat (hS.2 66 (by decide) (by decide)).2.1
theorem sk_67 (hS : zShC S) : 67 < S.1.1 ∧ S.2.1 67 = 8 := ⟨Nat.lt_of_lt_of_le (by decide) hS.1, (hS.2 67 (by decide) (by decide)).1⟩
theorem sl_67 (hS : zShC S) : ((S.2.2.1 67 : Nat) : Int) = 8 := congrArg Int.ofNat (hS.2 67 (by decide) (by decide)).2.1
theorem sk_68 (hS : zShC S) : 68 < S.1.1 ∧ S.2.1 68 = 4 := ⟨Nat.lt_of_lt_of_le (by decide) hS.1, (hS.2 68 (by decide) (by decide)).1⟩
theorem sr_68_0 (hS : zShC S) : S.2.2.2 68 0 = some 9 := (hS.2 68 (by decide) (by decide)).2.2 0
theorem sr_68_1 (hS : zShC S) : S.2.2.2 68 1 = some 69 := (hS.2 68 (by decide) (by decide)).2.2 1
theorem sr_68_2 (hS : zShC S) : S.2.2.2 68 2 = some 70 := (hS.2 68 (by decide) (by decide)).2.2 2
theorem sr_68_3 (hS : zShC S) : S.2.2.2 68 3 = some 71 := (hS.2 68 (by decide) (by decide)).2.2 3
theorem sk_69 (hS : zShC S) : 69 < S.1.1 ∧ S.2.1 69 = 8 := ⟨Nat.lt_of_lt_of_le (by decide) hS.1, (hS.2 69 (by decide) (by decide)).1⟩
theorem sl_69 (hS : zShC S) : ((S.2.2.1 69 : Nat) : Int) = 12 := congrArg Int.ofNat (hS.2 69 (by decide) (by decide)).2.1
theorem sk_70 (hS : zShC S) : 70 < S.1.1 ∧ S.2.1 70 = 8 := ⟨Nat.lt_of_lt_of_le (by decide) hS.1, (hS.2 70 (by decide) (by decide)).1⟩
theorem sl_70 (hS : zShC S) : ((S.2.2.1 70 : Nat) : Int) = 12 := congrArg Int.ofNat (hS.2 70 (by decide) (by decide)).2.1
theorem sk_71 (hS : zShC S) : 71 < S.1.1 ∧ S.2.1 71 = 8 := ⟨Nat.lt_of_lt_of_le (by decide) hS.1, (hS.2 71 (by decide) (by decide)).1⟩
theorem sl_71 (hS : zShC S) : ((S.2.2.1 71 : Nat) : Int) = 8 := congrArg Int.ofNat (hS.2 71 (by decide) (by decide)).2.1
theorem sk_72 (hS : zShM S) : 72 < S.1.1 ∧ S.2.1 72 = 7 := ⟨Nat.lt_of_lt_of_le (by decide) hS.1, (hS.2 72 (by decide) (by decide)).1⟩
theorem sr_72_0 (hS : zShM S) : S.2.2.2 72 0 = some 73 := (hS.2 72 (by decide) (by decide)).2.2 0
theorem sr_72_1 (hS : zShM S) : S.2.2.2 72 1 = some 74 := (hS.2 72 (by decide) (by decide)).2.2 1
theorem sr_72_3 (hS : zShM S) : S.2.2.2 72 3 = some 75 := (hS.2 72 (by decide) (by decide)).2.2 3
theorem sr_72_4 (hS : zShM S) : S.2.2.2 72 4 = some 76 := (hS.2 72 (by decide) (by decide)).2.2 4
theorem sr_72_5 (hS : zShM S) : S.2.2.2 72 5 = some 77 := (hS.2 72 (by decide) (by decide)).2.2 5
theorem sr_72_6 (hS : zShM S) : S.2.2.2 72 6 = some 78 := (hS.2 72 (by decide) (by decide)).2.2 6
theorem sr_72_10 (hS : zShM S) : S.2.2.2 72 10 = some 79 := (hS.2 72 (by decide) (by decide)).2.2 10
theorem sr_72_14 (hS : zShM S) : S.2.2.2 72 14 = some 80 := (hS.2 72 (by decide) (by decide)).2.2 14
theorem sr_72_15 (hS : zShM S) : S.2.2.2 72 15 = some 81 := (hS.2 72 (by decide) (by decide)).2.2 15
theorem sr_72_16 (hS : zShM S) : S.2.2.2 72 16 = some 82 := (hS.2 72 (by decide) (by decide)).2.2 16
theorem sr_72_17 (hS : zShM S) : S.2.2.2 72 17 = some 83 := (hS.2 72 (by decide) (by decide)).2.2 17
theorem sr_72_18 (hS : zShM S) : S.2.2.2 72 18 = some 84 := (hS.2 72 (by decide) (by decide)).2.2 18
theorem sr_72_19 (hS : zShM S) : S.2.2.2 72 19 = some 85 := (hS.2 72 (by decide) (by decide)).2.2 19
theorem sr_72_22 (hS : zShM S) : S.2.2.2 72 22 = some 86 := (hS.2 72 (by decide) (by decide)).2.2 22
theorem sr_72_24 (hS : zShM S) : S.2.2.2 72 24 = some 87 := (hS.2 72 (by decide) (by decide)).2.2 24
theorem sr_72_25 (hS : zShM S) : S.2.2.2 72 25 = some 88 := (hS.2 72 (by decide) (by decide)).2.2 25
theorem sr_72_26 (hS : zShM S) : S.2.2.2 72 26 = some 89 := (hS.2 72 (by decide) (by decide)).2.2 26
theorem sr_72_27 (hS : zShM S) : S.2.2.2 72 27 = some 90 := (hS.2 72 (by decide) (by decide)).2.2 27
theorem sr_72_28 (hS : zShM S) : S.2.2.2 72 28 = some 91 := (hS.2 72 (by decide) (by decide)).2.2 28
theorem sr_72_29 (hS : zShM S) : S.2.2.2 72 29 = some 92 := (hS.2 72 (by decide) (by decide)).2.2 29
theorem sr_72_30 (hS : zShM S) : S.2.2.2 72 30 = some 93 := (hS.2 72 (by decide) (by decide)).2.2 30
theorem sr_72_31 (hS : zShM S) : S.2.2.2 72 31 = some 94 := (hS.2 72 (by decide) (by decide)).2.2 31
theorem sr_72_32 (hS : zShM S) : S.2.2.2 72 32 = some 95 := (hS.2 72 (by decide) (by decide)).2.2 32
theorem sk_73 (hS : zShM S) : 73 < S.1.1 ∧ S.2.1 73 = 8 := ⟨Nat.lt_of_lt_of_le (by decide) hS.1, (hS.2 73 (by decide) (by decide)).1⟩
theorem sl_73 (hS : zShM S) : ((S.2.2.1 73 : Nat) : Int) = 5 := congrArg Int.ofNat (hS.2 73 (by decide) (by decide)).2.1
theorem sk_74 (hS : zShM S) : 74 < S.1.1 ∧ S.2.1 74 = 8 := ⟨Nat.lt_of_lt_of_le (by decide) hS.1, (hS.2 74 (by decide) (by decide)).1⟩
theorem sl_74 (hS : zShM S) : ((S.2.2.1 74 : Nat) : Int) = 300 := congrArg Int.ofNat (hS.2 74 (by decide) (by decide)).2.1
theorem sk_75 (hS : zShM S) : 75 < S.1.1 ∧ S.2.1 75 = 8 := ⟨Nat.lt_of_lt_of_le (by decide) hS.1, (hS.2 75 (by decide) (by decide)).1⟩
theorem sl_75 (hS : zShM S) : ((S.2.2.1 75 : Nat) : Int) = 13 := congrArg Int.ofNat (hS.2 75 (by decide) (by decide)).2.1
theorem sk_76 (hS : zShM S) : 76 < S.1.1 ∧ S.2.1 76 = 8 := ⟨Nat.lt_of_lt_of_le (by decide) hS.1, (hS.2 76 (by decide) (by decide)).1⟩
theorem sl_76 (hS : zShM S) : ((S.2.2.1 76 : Nat) : Int) = 13 := congrArg Int.ofNat (hS.2 76 (by decide) (by decide)).2.1
theorem sk_77 (hS : zShM S) : 77 < S.1.1 ∧ S.2.1 77 = 8 := ⟨Nat.lt_of_lt_of_le (by decide) hS.1, (hS.2 77 (by decide) (by decide)).1⟩
theorem sl_77 (hS : zShM S) : ((S.2.2.1 77 : Nat) : Int) = 13 := congrArg Int.ofNat (hS.2 77 (by decide) (by decide)).2.1
theorem sk_78 (hS : zShM S) : 78 < S.1.1 ∧ S.2.1 78 = 8 := ⟨Nat.lt_of_lt_of_le (by decide) hS.1, (hS.2 78 (by decide) (by decide)).1⟩
theorem sl_78 (hS : zShM S) : ((S.2.2.1 78 : Nat) : Int) = 4 := congrArg Int.ofNat (hS.2 78 (by decide) (by decide)).2.1
theorem sk_79 (hS : zShM S) : 79 < S.1.1 ∧ S.2.1 79 = 8 := ⟨Nat.lt_of_lt_of_le (by decide) hS.1, (hS.2 79 (by decide) (by decide)).1⟩
theorem sl_79 (hS : zShM S) : ((S.2.2.1 79 : Nat) : Int) = 64 := congrArg Int.ofNat (hS.2 79 (by decide) (by decide)).2.1
theorem sk_80 (hS : zShM S) : 80 < S.1.1 ∧ S.2.1 80 = 8 := ⟨Nat.lt_of_lt_of_le (by decide) hS.1, (hS.2 80 (by decide) (by decide)).1⟩
theorem sl_80 (hS : zShM S) : ((S.2.2.1 80 : Nat) : Int) = 8 := congrArg Int.ofNat (hS.2 80 (by decide) (by decide)).2.1
theorem sk_81 (hS : zShM S) : 81 < S.1.1 ∧ S.2.1 81 = 8 := ⟨Nat.lt_of_lt_of_le (by decide) hS.1, (hS.2 81 (by decide) (by decide)).1⟩
theorem sl_81 (hS : zShM S) : ((S.2.2.1 81 : Nat) : Int) = 64 := congrArg Int.ofNat (hS.2 81 (by decide) (by decide)).2.1
theorem sk_82 (hS : zShM S) : 82 < S.1.1 ∧ S.2.1 82 = 8 := ⟨Nat.lt_of_lt_of_le (by decide) hS.1, (hS.2 82 (by decide) (by decide)).1⟩
theorem sl_82 (hS : zShM S) : ((S.2.2.1 82 : Nat) : Int) = 64 := congrArg Int.ofNat (hS.2 82 (by decide) (by decide)).2.1
theorem sk_83 (hS : zShM S) : 83 < S.1.1 ∧ S.2.1 83 = 8 := ⟨Nat.lt_of_lt_of_le (by decide) hS.1, (hS.2 83 (by decide) (by decide)).1⟩
theorem sl_83 (hS : zShM S) : ((S.2.2.1 83 : Nat) : Int) = 64 := congrArg Int.ofNat (hS.2 83 (by decide) (by decide)).2.1
theorem sk_84 (hS : zShM S) : 84 < S.1.1 ∧ S.2.1 84 = 8 := ⟨Nat.lt_of_lt_of_le (by decide) hS.1, (hS.2 84 (by decide) (by decide)).1⟩
theorem sl_84 (hS : zShM S) : ((S.2.2.1 84 : Nat) : Int) = 64 := congrArg Int.ofNat (hS.2 84 (by decide) (by decide)).2.1
theorem sk_85 (hS : zShM S) : 85 < S.1.1 ∧ S.2.1 85 = 8 := ⟨Nat.lt_of_lt_of_le (by decide) hS.1, (hS.2 85 (by decide) (by decide)).1⟩
theorem sl_85 (hS : zShM S) : ((S.2.2.1 85 : Nat) : Int) = 64 := congrArg Int.ofNat (hS.2 85 (by decide) (by decide)).2.1
theorem sk_86 (hS : zShM S) : 86 < S.1.1 ∧ S.2.1 86 = 8 := ⟨Nat.lt_of_lt_of_le (by decide) hS.1, (hS.2 86 (by decide) (by decide)).1⟩
theorem sl_86 (hS : zShM S) : ((S.2.2.1 86 : Nat) : Int) = 8 := congrArg Int.ofNat (hS.2 86 (by decide) (by decide)).2.1
theorem sk_87 (hS : zShM S) : 87 < S.1.1 ∧ S.2.1 87 = 8 := ⟨Nat.lt_of_lt_of_le (by decide) hS.1, (hS.2 87 (by decide) (by decide)).1⟩
theorem sl_87 (hS : zShM S) : ((S.2.2.1 87 : Nat) : Int) = 4 := congrArg Int.ofNat (hS.2 87 (by decide) (by decide)).2.1
theorem sk_88 (hS : zShM S) : 88 < S.1.1 ∧ S.2.1 88 = 8 := ⟨Nat.lt_of_lt_of_le (by decide) hS.1, (hS.2 88 (by decide) (by decide)).1⟩
theorem sl_88 (hS : zShM S) : ((S.2.2.1 88 : Nat) : Int) = 4 := congrArg Int.ofNat (hS.2 88 (by decide) (by decide)).2.1
theorem sk_89 (hS : zShM S) : 89 < S.1.1 ∧ S.2.1 89 = 8 := ⟨Nat.lt_of_lt_of_le (by decide) hS.1, (hS.2 89 (by decide) (by decide)).1⟩
theorem sl_89 (hS : zShM S) : ((S.2.2.1 89 : Nat) : Int) = 64 := congrArg Int.ofNat (hS.2 89 (by decide) (by decide)).2.1
theorem sk_90 (hS : zShM S) : 90 < S.1.1 ∧ S.2.1 90 = 8 := ⟨Nat.lt_of_lt_of_le (by decide) hS.1, (hS.2 90 (by decide) (by decide)).1⟩
theorem sl_90 (hS : zShM S) : ((S.2.2.1 90 : Nat) : Int) = 64 := congrArg Int.ofNat (hS.2 90 (by decide) (by decide)).2.1
theorem sk_91 (hS : zShM S) : 91 < S.1.1 ∧ S.2.1 91 = 9 := ⟨Nat.lt_of_lt_of_le (by decide) hS.1, (hS.2 91 (by decide) (by decide)).1⟩
theorem sl_91 (hS : zShM S) : ((S.2.2.1 91 : Nat) : Int) = 4 := congrArg Int.ofNat (hS.2 91 (by decide) (by decide)).2.1
theorem sk_92 (hS : zShM S) : 92 < S.1.1 ∧ S.2.1 92 = 8 := ⟨Nat.lt_of_lt_of_le (by decide) hS.1, (hS.2 92 (by decide) (by decide)).1⟩
theorem sl_92 (hS : zShM S) : ((S.2.2.1 92 : Nat) : Int) = 4 := congrArg Int.ofNat (hS.2 92 (by decide) (by decide)).2.1
theorem sk_93 (hS : zShM S) : 93 < S.1.1 ∧ S.2.1 93 = 8 := ⟨Nat.lt_of_lt_of_le (by decide) hS.1, (hS.2 93 (by decide) (by decide)).1⟩
theorem sl_93 (hS : zShM S) : ((S.2.2.1 93 : Nat) : Int) = 4 := congrArg Int.ofNat (hS.2 93 (by decide) (by decide)).2.1
theorem sk_94 (hS : zShM S) : 94 < S.1.1 ∧ S.2.1 94 = 8 := ⟨Nat.lt_of_lt_of_le (by decide) hS.1, (hS.2 94 (by decide) (by decide)).1⟩
theorem sl_94 (hS : zShM S) : ((S.2.2.1 94 : Nat) : Int) = 192 := congrArg Int.ofNat (hS.2 94 (by decide) (by decide)).2.1
theorem sk_95 (hS : zShM S) : 95 < S.1.1 ∧ S.2.1 95 = 8 := ⟨Nat.lt_of_lt_of_le (by decide) hS.1, (hS.2 95 (by decide) (by decide)).1⟩
theorem sl_95 (hS : zShM S) : ((S.2.2.1 95 : Nat) : Int) = 48 := congrArg Int.ofNat (hS.2 95 (by decide) (by decide)).2.1
def zisW (a : Nat) : Prop := a = 14 ∨ a = 23 ∨ a = 30 ∨ a = 44 ∨ a = 56 ∨ a = 60 ∨ a = 64 ∨ a = 68
theorem sw (hS : zShC S) {a : Nat} (hw : zisW a) : a < S.1.1 ∧ S.2.1 a = 4 := by
  rcases hw with rfl | rfl | rfl | rfl | rfl | rfl | rfl | rfl
  · exact sk_14 hS
  · exact sk_23 hS
  · exact sk_30 hS
  · exact sk_44 hS
  · exact sk_56 hS
  · exact sk_60 hS
  · exact sk_64 hS
  · exact sk_68 hS
theorem sw1 (hS : zShC S) {a : Nat} (hw : zisW a) : a + 1 < S.1.1 ∧ S.2.1 (a + 1) = 8 := by
  rcases hw with rfl | rfl | rfl | rfl | rfl | rfl | rfl | rfl
  · exact sk_15 hS
  · exact sk_24 hS
  · exact sk_31 hS
  · exact sk_45 hS
  · exact sk_57 hS
  · exact sk_61 hS
  · exact sk_65 hS
  · exact sk_69 hS
theorem swl1 (hS : zShC S) {a : Nat} (hw : zisW a) : ((S.2.2.1 (a + 1) : Nat) : Int) = 12 := by
  rcases hw with rfl | rfl | rfl | rfl | rfl | rfl | rfl | rfl
  · exact sl_15 hS
  · exact sl_24 hS
  · exact sl_31 hS
  · exact sl_45 hS
  · exact sl_57 hS
  · exact sl_61 hS
  · exact sl_65 hS
  · exact sl_69 hS
theorem sw2 (hS : zShC S) {a : Nat} (hw : zisW a) : a + 2 < S.1.1 ∧ S.2.1 (a + 2) = 8 := by
  rcases hw with rfl | rfl | rfl | rfl | rfl | rfl | rfl | rfl
  · exact sk_16 hS
  · exact sk_25 hS
  · exact sk_32 hS
  · exact sk_46 hS
  · exact sk_58 hS
  · exact sk_62 hS
  · exact sk_66 hS
  · exact sk_70 hS
theorem swl2 (hS : zShC S) {a : Nat} (hw : zisW a) : ((S.2.2.1 (a + 2) : Nat) : Int) = 12 := by
  rcases hw with rfl | rfl | rfl | rfl | rfl | rfl | rfl | rfl
  · exact sl_16 hS
  · exact sl_25 hS
  · exact sl_32 hS
  · exact sl_46 hS
  · exact sl_58 hS
  · exact sl_62 hS
  · exact sl_66 hS
  · exact sl_70 hS
theorem sw3 (hS : zShC S) {a : Nat} (hw : zisW a) : a + 3 < S.1.1 ∧ S.2.1 (a + 3) = 8 := by
  rcases hw with rfl | rfl | rfl | rfl | rfl | rfl | rfl | rfl
  · exact sk_17 hS
  · exact sk_26 hS
  · exact sk_33 hS
  · exact sk_47 hS
  · exact sk_59 hS
  · exact sk_63 hS
  · exact sk_67 hS
  · exact sk_71 hS
theorem swl3 (hS : zShC S) {a : Nat} (hw : zisW a) : ((S.2.2.1 (a + 3) : Nat) : Int) = 8 := by
  rcases hw with rfl | rfl | rfl | rfl | rfl | rfl | rfl | rfl
  · exact sl_17 hS
  · exact sl_26 hS
  · exact sl_33 hS
  · exact sl_47 hS
  · exact sl_59 hS
  · exact sl_63 hS
  · exact sl_67 hS
  · exact sl_71 hS
theorem swr0 (hS : zShC S) {a : Nat} (hw : zisW a) : S.2.2.2 a 0 = some 9 := by
  rcases hw with rfl | rfl | rfl | rfl | rfl | rfl | rfl | rfl
  · exact sr_14_0 hS
  · exact sr_23_0 hS
  · exact sr_30_0 hS
  · exact sr_44_0 hS
  · exact sr_56_0 hS
  · exact sr_60_0 hS
  · exact sr_64_0 hS
  · exact sr_68_0 hS
theorem swr1 (hS : zShC S) {a : Nat} (hw : zisW a) : S.2.2.2 a 1 = some (a + 1) := by
  rcases hw with rfl | rfl | rfl | rfl | rfl | rfl | rfl | rfl
  · exact sr_14_1 hS
  · exact sr_23_1 hS
  · exact sr_30_1 hS
  · exact sr_44_1 hS
  · exact sr_56_1 hS
  · exact sr_60_1 hS
  · exact sr_64_1 hS
  · exact sr_68_1 hS
theorem swr2 (hS : zShC S) {a : Nat} (hw : zisW a) : S.2.2.2 a 2 = some (a + 2) := by
  rcases hw with rfl | rfl | rfl | rfl | rfl | rfl | rfl | rfl
  · exact sr_14_2 hS
  · exact sr_23_2 hS
  · exact sr_30_2 hS
  · exact sr_44_2 hS
  · exact sr_56_2 hS
  · exact sr_60_2 hS
  · exact sr_64_2 hS
  · exact sr_68_2 hS
theorem swr3 (hS : zShC S) {a : Nat} (hw : zisW a) : S.2.2.2 a 3 = some (a + 3) := by
  rcases hw with rfl | rfl | rfl | rfl | rfl | rfl | rfl | rfl
  · exact sr_14_3 hS
  · exact sr_23_3 hS
  · exact sr_30_3 hS
  · exact sr_44_3 hS
  · exact sr_56_3 hS
  · exact sr_60_3 hS
  · exact sr_64_3 hS
  · exact sr_68_3 hS
def zisI (S : ZS) (r : Nat) (n : Int) : Prop := (r < S.1.1 ∧ S.2.1 r = 8) ∧ ((S.2.2.1 r : Nat) : Int) = n
theorem zint4 {i : Int} {n : Nat} (h : 0 ≤ i ∧ i < n) : ∃ k : Nat, k < n ∧ i.toNat = k := ⟨i.toNat, by omega, rfl⟩
theorem sa_w {i : Int} (h : 0 ≤ i ∧ i < 4) : zisW (56 + 4 * i.toNat) := by
  obtain ⟨k, hk, e⟩ := zint4 (n := 4) h
  rw [e]
  unfold zisW
  omega
theorem sa_13 (hS : zShC S) {i : Int} (h : 0 ≤ i ∧ i < 4) : S.2.2.2 13 i.toNat = some (56 + 4 * i.toNat) := by
  obtain ⟨k, hk, e⟩ := zint4 (n := 4) h
  rw [e]
  match k, hk with
  | 0, _ => exact sr_13_0 hS
  | 1, _ => exact sr_13_1 hS
  | 2, _ => exact sr_13_2 hS
  | 3, _ => exact sr_13_3 hS
  | k + 4, hk => exact absurd hk (by omega)
theorem sa_2 (hS : zShC S) {i : Int} (h : 0 ≤ i ∧ i < 5) : S.2.2.2 2 i.toNat = some (3 + i.toNat) := by
  obtain ⟨k, hk, e⟩ := zint4 (n := 5) h
  rw [e]
  match k, hk with
  | 0, _ => exact sr_2_0 hS
  | 1, _ => exact sr_2_1 hS
  | 2, _ => exact sr_2_2 hS
  | 3, _ => exact sr_2_3 hS
  | 4, _ => exact sr_2_4 hS
  | k + 5, hk => exact absurd hk (by omega)
theorem sa_35 (hS : zShC S) {i : Int} (h : 0 ≤ i ∧ i < 8) : S.2.2.2 35 i.toNat = some (36 + i.toNat) := by
  obtain ⟨k, hk, e⟩ := zint4 (n := 8) h
  rw [e]
  match k, hk with
  | 0, _ => exact sr_35_0 hS
  | 1, _ => exact sr_35_1 hS
  | 2, _ => exact sr_35_2 hS
  | 3, _ => exact sr_35_3 hS
  | 4, _ => exact sr_35_4 hS
  | 5, _ => exact sr_35_5 hS
  | 6, _ => exact sr_35_6 hS
  | 7, _ => exact sr_35_7 hS
  | k + 8, hk => exact absurd hk (by omega)
theorem sa_49 (hS : zShC S) {i : Int} (h : 0 ≤ i ∧ i < 4) : S.2.2.2 49 i.toNat = some (50 + i.toNat) := by
  obtain ⟨k, hk, e⟩ := zint4 (n := 4) h
  rw [e]
  match k, hk with
  | 0, _ => exact sr_49_0 hS
  | 1, _ => exact sr_49_1 hS
  | 2, _ => exact sr_49_2 hS
  | 3, _ => exact sr_49_3 hS
  | k + 4, hk => exact absurd hk (by omega)
theorem sa_i2 (hS : zShC S) {i : Int} (h : 0 ≤ i ∧ i < 5) : zisI S (3 + i.toNat) 60 := by
  obtain ⟨k, hk, e⟩ := zint4 (n := 5) h
  rw [e]
  match k, hk with
  | 0, _ => exact ⟨sk_3 hS, sl_3 hS⟩
  | 1, _ => exact ⟨sk_4 hS, sl_4 hS⟩
  | 2, _ => exact ⟨sk_5 hS, sl_5 hS⟩
  | 3, _ => exact ⟨sk_6 hS, sl_6 hS⟩
  | 4, _ => exact ⟨sk_7 hS, sl_7 hS⟩
  | k + 5, hk => exact absurd hk (by omega)
theorem sa_i35 (hS : zShC S) {i : Int} (h : 0 ≤ i ∧ i < 8) : zisI S (36 + i.toNat) 8 := by
  obtain ⟨k, hk, e⟩ := zint4 (n := 8) h
  rw [e]
  match k, hk with
  | 0, _ => exact ⟨sk_36 hS, sl_36 hS⟩
  | 1, _ => exact ⟨sk_37 hS, sl_37 hS⟩
  | 2, _ => exact ⟨sk_38 hS, sl_38 hS⟩
  | 3, _ => exact ⟨sk_39 hS, sl_39 hS⟩
  | 4, _ => exact ⟨sk_40 hS, sl_40 hS⟩
  | 5, _ => exact ⟨sk_41 hS, sl_41 hS⟩
  | 6, _ => exact ⟨sk_42 hS, sl_42 hS⟩
  | 7, _ => exact ⟨sk_43 hS, sl_43 hS⟩
  | k + 8, hk => exact absurd hk (by omega)
theorem sa_i49 (hS : zShC S) {i : Int} (h : 0 ≤ i ∧ i < 4) : zisI S (50 + i.toNat) 48 := by
  obtain ⟨k, hk, e⟩ := zint4 (n := 4) h
  rw [e]
  match k, hk with
  | 0, _ => exact ⟨sk_50 hS, sl_50 hS⟩
  | 1, _ => exact ⟨sk_51 hS, sl_51 hS⟩
  | 2, _ => exact ⟨sk_52 hS, sl_52 hS⟩
  | 3, _ => exact ⟨sk_53 hS, sl_53 hS⟩
  | k + 4, hk => exact absurd hk (by omega)
end ZSHAPE
section ZROWS
variable {d M pc x y pl len i0 a : Nat} {z n : Int} {ls ls0 : ZL} {st as r : List ZV} {S : ZS} {C : ZC} {ins : Instr} {i v : Int}
theorem zf_of {l : List ZE} {e : ZE} (h : zCode.getD M [] = l) (hf : l.find? (fun e => e.1 == pc) = some e) : zfetch M pc = some e := by
  unfold zfetch
  rw [h]
  exact hf
theorem zg_int (hk : a < S.1.1 ∧ S.2.1 a = x) (hr : zRf x y = false) : zst (.getfield i0) x y z pc ls (.inr (.inr (some a)) :: st) S C = some (pc + 3, ls, .inl (C a y) :: st, S, C) := by
  unfold zst
  dsimp only
  unfold zgetf
  dsimp only
  rw [if_pos hk, if_neg (by rw [hr]; decide)]
theorem zg_ref {t : Nat} (hk : a < S.1.1 ∧ S.2.1 a = x) (hr : zRf x y = true) (ht : S.2.2.2 a y = some t) : zst (.getfield i0) x y z pc ls (.inr (.inr (some a)) :: st) S C = some (pc + 3, ls, .inr (.inr (some t)) :: st, S, C) := by
  unfold zst
  dsimp only
  unfold zgetf
  dsimp only
  rw [if_pos hk, if_pos hr, ht]
theorem zp_int (hk : a < S.1.1 ∧ S.2.1 a = x) (hr : zRf x y = false) : zst (.putfield i0) x y z pc ls (.inl v :: .inr (.inr (some a)) :: st) S C = some (pc + 3, ls, st, S, zup2 C a y v) := by
  unfold zst
  dsimp only
  unfold zputf
  dsimp only
  rw [if_pos ⟨hk.1, hk.2, hr⟩]
theorem zite_iff {α : Type} {p q : Prop} [Decidable p] [Decidable q] {t e : α} (h : p ↔ q) : (if p then t else e) = if q then t else e := by
  by_cases hp : p
  · rw [if_pos hp, if_pos (h.mp hp)]
  · rw [if_neg hp, if_neg (fun hq => hp (h.mpr hq))]
theorem za_i (hk : a < S.1.1 ∧ S.2.1 a = 8) (hl : ((S.2.2.1 a : Nat) : Int) = n) : zst .iaload x y z pc ls (.inl i :: .inr (.inr (some a)) :: st) S C = if 0 ≤ i ∧ i < n then some (pc + 1, ls, .inl (C a i.toNat) :: st, S, C) else none := by
  unfold zst
  dsimp only
  unfold ziald
  dsimp only
  exact zite_iff ⟨fun h => ⟨h.2.2.1, by rw [← hl]; exact h.2.2.2⟩, fun h => ⟨hk.1, Or.inl hk.2, h.1, by rw [hl]; exact h.2⟩⟩
theorem za_b (hk : a < S.1.1 ∧ S.2.1 a = 9) (hl : ((S.2.2.1 a : Nat) : Int) = n) : zst .baload x y z pc ls (.inl i :: .inr (.inr (some a)) :: st) S C = if 0 ≤ i ∧ i < n then some (pc + 1, ls, .inl (C a i.toNat) :: st, S, C) else none := by
  unfold zst
  dsimp only
  unfold zbald
  dsimp only
  exact zite_iff ⟨fun h => ⟨h.2.2.1, by rw [← hl]; exact h.2.2.2⟩, fun h => ⟨hk.1, hk.2, h.1, by rw [hl]; exact h.2⟩⟩
theorem za_av {k t : Nat} (hk : a < S.1.1 ∧ S.2.1 a = k) (hl : ((S.2.2.1 a : Nat) : Int) = n) (ht : 0 ≤ i ∧ i < n → S.2.2.2 a i.toNat = some t) (hk2 : k = 10 ∨ k = 11 := by decide) : zst .aaload x y z pc ls (.inl i :: .inr (.inr (some a)) :: st) S C = if 0 ≤ i ∧ i < n then some (pc + 1, ls, .inr (.inr (some t)) :: st, S, C) else none := by
  unfold zst
  dsimp only
  unfold zaald
  dsimp only
  by_cases h : 0 ≤ i ∧ i < n
  · rw [if_pos h, if_pos ⟨hk.1, by rw [hk.2]; exact hk2, h.1, by rw [hl]; exact h.2⟩, ht h]
  · rw [if_neg h, if_neg (fun q => h ⟨q.2.2.1, by rw [← hl]; exact q.2.2.2⟩)]
theorem za_a {k t : Nat} (hk : a < S.1.1 ∧ S.2.1 a = k) (hl : ((S.2.2.1 a : Nat) : Int) = n) (ht : S.2.2.2 a i.toNat = some t) (hk2 : k = 10 ∨ k = 11 := by decide) : zst .aaload x y z pc ls (.inl i :: .inr (.inr (some a)) :: st) S C = if 0 ≤ i ∧ i < n then some (pc + 1, ls, .inr (.inr (some t)) :: st, S, C) else none := za_av hk hl (fun _ => ht) hk2
theorem zt_i (hk : a < S.1.1 ∧ S.2.1 a = 8) (hl : ((S.2.2.1 a : Nat) : Int) = n) : zst .iastore x y z pc ls (.inl v :: .inl i :: .inr (.inr (some a)) :: st) S C = if 0 ≤ i ∧ i < n then some (pc + 1, ls, st, S, zup2 C a i.toNat v) else none := by
  unfold zst
  dsimp only
  unfold ziast
  dsimp only
  exact zite_iff ⟨fun h => ⟨h.2.2.1, by rw [← hl]; exact h.2.2.2⟩, fun h => ⟨hk.1, hk.2, h.1, by rw [hl]; exact h.2⟩⟩
theorem zt_b (hk : a < S.1.1 ∧ S.2.1 a = 9) (hl : ((S.2.2.1 a : Nat) : Int) = n) (hv : v = 0 ∨ v = 1) : zst .bastore x y z pc ls (.inl v :: .inl i :: .inr (.inr (some a)) :: st) S C = if 0 ≤ i ∧ i < n then some (pc + 1, ls, st, S, zup2 C a i.toNat v) else none := by
  unfold zst
  dsimp only
  unfold zbast
  dsimp only
  exact zite_iff ⟨fun h => ⟨h.2.2.1, by rw [← hl]; exact h.2.2.2.1⟩, fun h => ⟨hk.1, hk.2, h.1, by rw [hl]; exact h.2, hv⟩⟩
theorem zal (hk : a < S.1.1 ∧ S.2.1 a = 8) (hl : ((S.2.2.1 a : Nat) : Int) = n) (hn : n < 1000000) : zst .arraylength x y z pc ls (.inr (.inr (some a)) :: st) S C = some (pc + 1, ls, .inl n :: st, S, C) := by
  unfold zst
  dsimp only
  unfold zalen
  dsimp only
  rw [if_pos ⟨hk.1, Or.inl hk.2, by omega⟩, hl]
theorem zdv {a b : Int} (hb : ¬ b = 0) : zst .idiv x y z pc ls (.inl b :: .inl a :: st) S C = some (pc + 1, ls, .inl (zdiv a b) :: st, S, C) := by
  unfold zst
  dsimp only
  unfold zo2d
  dsimp only
  rw [if_neg hb]
  rfl
theorem zrm {a b : Int} (hb : ¬ b = 0) : zst .irem x y z pc ls (.inl b :: .inl a :: st) S C = some (pc + 1, ls, .inl (zrem a b) :: st, S, C) := by
  unfold zst
  dsimp only
  unfold zo2d
  dsimp only
  rw [if_neg hb]
  rfl
theorem zret_i (h : zbool M = false) : zret .ireturn (zbool M) [.inl v] = some (some (.inl v)) := by
  rw [h]
  rfl
theorem zret_b0 (h : zbool M = true) : zret .ireturn (zbool M) [.inl 0] = some (some (.inl 0)) := by
  rw [h]
  rfl
theorem zret_b1 (h : zbool M = true) : zret .ireturn (zbool M) [.inl 1] = some (some (.inl 1)) := by
  rw [h]
  rfl
variable {pc0 : Nat} {o : ZO}
theorem zR_retz (hf : zfetch M pc = some (pc0, .ireturn, len, (x, y, z), pl)) (hb : zbool M = true) (hx : x < 1000 := by decide) : zR d M pc ls [.inl v] S C = zG (v = 0 ∨ v = 1) (some (some (.inl v), S, C)) := by
  by_cases h : v = 0 ∨ v = 1
  · rw [zG_t h]
    refine zR_ret hf rfl ?_
    show (if zbool M = true ∧ ¬ (v = 0 ∨ v = 1) then none else _) = _
    rw [if_neg (fun q => q.2 h)]
  · unfold zG
    rw [if_neg h]
    refine zR_none fun n => ?_
    rw [zrun, hf]
    have hr : zret .ireturn (zbool M) [.inl v] = none := by
      show (if zbool M = true ∧ ¬ (v = 0 ∨ v = 1) then none else _) = _
      rw [if_pos ⟨hb, h⟩]
    have hz : zst .ireturn x y z pc ls [.inl v] S C = none := rfl
    dsimp only
    rw [hz]
    dsimp only
    rw [hr]
    dsimp only
    cases d with
    | zero => rfl
    | succ d =>
      dsimp only
      rw [if_neg (by omega)]
      rfl
theorem zn_min {a b : Int} (hr : r.length ≤ 4) : znat (.invokestatic i0) 1001 pc ls (.inl b :: .inl a :: r) S C = some (pc + 3, ls, .inl (if b < a then b else a) :: r, S, C) := by
  unfold znat
  rw [if_pos rfl]
  dsimp only
  rw [if_pos hr]
theorem zn_max {a b : Int} (hr : r.length ≤ 4) : znat (.invokestatic i0) 1002 pc ls (.inl b :: .inl a :: r) S C = some (pc + 3, ls, .inl (if a < b then b else a) :: r, S, C) := by
  unfold znat
  rw [if_neg (by decide), if_pos rfl]
  dsimp only
  rw [if_pos hr]
theorem zR_cpy {a a0 : Nat} {n dp sp n0 n1 : Int} (hf : zfetch M pc = some (pc0, .invokestatic i0, len, (1000, y, z), pl)) (k1 : a < S.1.1 ∧ S.2.1 a = 8) (k0 : a0 < S.1.1 ∧ S.2.1 a0 = 8) (l1 : ((S.2.2.1 a : Nat) : Int) = n1) (l0 : ((S.2.2.1 a0 : Nat) : Int) = n0) (hr : r.length ≤ 4) :
    zR (d + 1) M pc ls (.inl n :: .inl dp :: .inr (.inr (some a)) :: .inl sp :: .inr (.inr (some a0)) :: r) S C = zG (0 ≤ n ∧ 0 ≤ dp ∧ 0 ≤ sp ∧ sp + n ≤ n0 ∧ dp + n ≤ n1) (zR (d + 1) M (pc + 3) ls r S (zrow C a (zcpy (C a0) (C a) sp.toNat dp.toNat n.toNat))) := by
  have hn : znat (.invokestatic i0) 1000 pc ls (.inl n :: .inl dp :: .inr (.inr (some a)) :: .inl sp :: .inr (.inr (some a0)) :: r) S C = if 0 ≤ n ∧ 0 ≤ dp ∧ 0 ≤ sp ∧ sp + n ≤ n0 ∧ dp + n ≤ n1 then some (pc + 3, ls, r, S, zrow C a (zcpy (C a0) (C a) sp.toNat dp.toNat n.toNat)) else none := by
    unfold znat
    rw [if_neg (by decide), if_neg (by decide)]
    dsimp only
    exact zite_iff ⟨fun h => ⟨h.2.2.2.2.1, h.2.2.2.2.2.1, h.2.2.2.2.2.2.1, by rw [← l0]; exact h.2.2.2.2.2.2.2.1, by rw [← l1]; exact h.2.2.2.2.2.2.2.2.1⟩, fun h => ⟨k1.1, k0.1, k1.2, k0.2, h.1, h.2.1, h.2.2.1, by rw [l0]; exact h.2.2.2.1, by rw [l1]; exact h.2.2.2.2, hr⟩⟩
  by_cases h : 0 ≤ n ∧ 0 ≤ dp ∧ 0 ≤ sp ∧ sp + n ≤ n0 ∧ dp + n ≤ n1
  · rw [if_pos h] at hn
    rw [zG_t h]
    exact zR_nat hf rfl rfl (by decide) hn
  · rw [if_neg h] at hn
    unfold zG
    rw [if_neg h]
    refine zR_none fun k => ?_
    rw [zrun, hf]
    dsimp only
    rw [show zst (.invokestatic i0) 1000 y z pc ls (.inl n :: .inl dp :: .inr (.inr (some a)) :: .inl sp :: .inr (.inr (some a0)) :: r) S C = none from rfl]
    dsimp only
    rw [show zret (.invokestatic i0) (zbool M) (.inl n :: .inl dp :: .inr (.inr (some a)) :: .inl sp :: .inr (.inr (some a0)) :: r) = none from rfl]
    dsimp only
    rw [if_pos (by decide), hn]
theorem zR_call2 (hf : zfetch M pc = some (pc0, ins, len, (x, y, z), pl)) (hz : zst ins x y z pc ls st S C = none) (hr : zret ins (zbool M) st = none) (hx : x < 1000) (hc : zcall ins x y st S = some (as, r)) (hn : zent (zml x) as = ls0) : zR (d + 1) M pc ls st S C = zB (zR d x 0 ls0 [] S C) (fun v S' C' => zR (d + 1) M (pc + 3) ls (v.toList ++ r) S' C') := by
  subst hn
  exact zR_call hf hz hr hx hc
theorem zcall_s (h1 : (st.take y).reverse = as) (h2 : st.drop y = r) (hy : y ≤ st.length) (hc : as.all zcat1 = true) (hl : as.length ≤ zml x) (hr : r.length ≤ 4) : zcall (.invokestatic i0) x y st S = some (as, r) := by
  subst h1
  subst h2
  unfold zcall
  rw [show zargs (.invokestatic i0) y st = some ((st.take y).reverse, st.drop y) from if_pos hy]
  dsimp only
  rw [if_pos ⟨hc, hl, rfl, hr⟩]
theorem zcall_v {k : Nat} (h1 : (st.take (y + 1)).reverse = .inr (.inr (some a)) :: as) (h2 : st.drop (y + 1) = r) (hy : y + 1 ≤ st.length) (hc : as.all zcat1 = true) (hl : as.length + 1 ≤ zml x) (hr : r.length ≤ 4) (hk : a < S.1.1 ∧ S.2.1 a = k) (hm : zmkd x = k) (hk8 : k < 8) : zcall (.invokevirtual i0) x y st S = some (.inr (.inr (some a)) :: as, r) := by
  subst h2
  unfold zcall
  rw [show zargs (.invokevirtual i0) y st = some ((st.take (y + 1)).reverse, st.drop (y + 1)) from if_pos hy, h1]
  dsimp only
  rw [if_pos ⟨hc, hl, decide_eq_true ⟨hk.1, by rw [hm]; exact hk.2, by rw [hm]; exact hk8⟩, hr⟩]
theorem zcall_vs {k : Nat} (h1 : (st.take (y + 1)).reverse = .inr (.inr (some a)) :: as) (h2 : st.drop (y + 1) = r) (hy : y + 1 ≤ st.length) (hc : as.all zcat1 = true) (hl : as.length + 1 ≤ zml x) (hr : r.length ≤ 4) (hk : a < S.1.1 ∧ S.2.1 a = k) (hm : zmkd x = k) (hk8 : k < 8) : zcall (.invokespecial i0) x y st S = some (.inr (.inr (some a)) :: as, r) := by
  subst h2
  unfold zcall
  rw [show zargs (.invokespecial i0) y st = some ((st.take (y + 1)).reverse, st.drop (y + 1)) from if_pos hy, h1]
  dsimp only
  rw [if_pos ⟨hc, hl, decide_eq_true ⟨hk.1, by rw [hm]; exact hk.2, by rw [hm]; exact hk8⟩, hr⟩]
end ZROWS
theorem zcd_0 : zCode.getD 0 [] = zc0 := rfl
theorem zml_0 : zml 0 = 1 := rfl
theorem zbo_0 : zbool 0 = false := rfl
theorem zcd_1 : zCode.getD 1 [] = zc1 := rfl
theorem zml_1 : zml 1 = 4 := rfl
theorem zbo_1 : zbool 1 = false := rfl
theorem zcd_2 : zCode.getD 2 [] = zc2 := rfl
theorem zml_2 : zml 2 = 1 := rfl
theorem zbo_2 : zbool 2 = false := rfl
theorem zcd_3 : zCode.getD 3 [] = zc3 := rfl
theorem zml_3 : zml 3 = 4 := rfl
theorem zbo_3 : zbool 3 = false := rfl
theorem zcd_4 : zCode.getD 4 [] = zc4 := rfl
theorem zml_4 : zml 4 = 5 := rfl
theorem zbo_4 : zbool 4 = true := rfl
theorem zcd_5 : zCode.getD 5 [] = zc5 := rfl
theorem zml_5 : zml 5 = 3 := rfl
theorem zbo_5 : zbool 5 = false := rfl
theorem zcd_6 : zCode.getD 6 [] = zc6 := rfl
theorem zml_6 : zml 6 = 2 := rfl
theorem zbo_6 : zbool 6 = false := rfl
theorem zcd_7 : zCode.getD 7 [] = zc7 := rfl
theorem zml_7 : zml 7 = 4 := rfl
theorem zbo_7 : zbool 7 = false := rfl
theorem zcd_8 : zCode.getD 8 [] = zc8 := rfl
theorem zml_8 : zml 8 = 3 := rfl
theorem zbo_8 : zbool 8 = false := rfl
theorem zcd_9 : zCode.getD 9 [] = zc9 := rfl
theorem zml_9 : zml 9 = 2 := rfl
theorem zbo_9 : zbool 9 = false := rfl
theorem zcd_10 : zCode.getD 10 [] = zc10 := rfl
theorem zml_10 : zml 10 = 6 := rfl
theorem zbo_10 : zbool 10 = false := rfl
theorem zcd_11 : zCode.getD 11 [] = zc11 := rfl
theorem zml_11 : zml 11 = 2 := rfl
theorem zbo_11 : zbool 11 = false := rfl
theorem zcd_12 : zCode.getD 12 [] = zc12 := rfl
theorem zml_12 : zml 12 = 2 := rfl
theorem zbo_12 : zbool 12 = false := rfl
theorem zcd_13 : zCode.getD 13 [] = zc13 := rfl
theorem zml_13 : zml 13 = 3 := rfl
theorem zbo_13 : zbool 13 = false := rfl
theorem zcd_14 : zCode.getD 14 [] = zc14 := rfl
theorem zml_14 : zml 14 = 3 := rfl
theorem zbo_14 : zbool 14 = false := rfl
theorem zcd_15 : zCode.getD 15 [] = zc15 := rfl
theorem zml_15 : zml 15 = 1 := rfl
theorem zbo_15 : zbool 15 = false := rfl
theorem zcd_16 : zCode.getD 16 [] = zc16 := rfl
theorem zml_16 : zml 16 = 5 := rfl
theorem zbo_16 : zbool 16 = false := rfl
theorem zcd_17 : zCode.getD 17 [] = zc17 := rfl
theorem zml_17 : zml 17 = 7 := rfl
theorem zbo_17 : zbool 17 = true := rfl
theorem zcd_18 : zCode.getD 18 [] = zc18 := rfl
theorem zml_18 : zml 18 = 2 := rfl
theorem zbo_18 : zbool 18 = false := rfl
theorem zcd_19 : zCode.getD 19 [] = zc19 := rfl
theorem zml_19 : zml 19 = 2 := rfl
theorem zbo_19 : zbool 19 = false := rfl
theorem zcd_20 : zCode.getD 20 [] = zc20 := rfl
theorem zml_20 : zml 20 = 1 := rfl
theorem zbo_20 : zbool 20 = false := rfl
theorem zcd_21 : zCode.getD 21 [] = zc21 := rfl
theorem zml_21 : zml 21 = 2 := rfl
theorem zbo_21 : zbool 21 = false := rfl
theorem zcd_22 : zCode.getD 22 [] = zc22 := rfl
theorem zml_22 : zml 22 = 5 := rfl
theorem zbo_22 : zbool 22 = false := rfl
theorem zcd_23 : zCode.getD 23 [] = zc23 := rfl
theorem zml_23 : zml 23 = 2 := rfl
theorem zbo_23 : zbool 23 = false := rfl
theorem zcd_24 : zCode.getD 24 [] = zc24 := rfl
theorem zml_24 : zml 24 = 4 := rfl
theorem zbo_24 : zbool 24 = false := rfl
theorem zcd_25 : zCode.getD 25 [] = zc25 := rfl
theorem zml_25 : zml 25 = 5 := rfl
theorem zbo_25 : zbool 25 = false := rfl
theorem zcd_26 : zCode.getD 26 [] = zc26 := rfl
theorem zml_26 : zml 26 = 2 := rfl
theorem zbo_26 : zbool 26 = false := rfl
theorem zcd_27 : zCode.getD 27 [] = zc27 := rfl
theorem zml_27 : zml 27 = 7 := rfl
theorem zbo_27 : zbool 27 = false := rfl
theorem zcd_28 : zCode.getD 28 [] = zc28 := rfl
theorem zml_28 : zml 28 = 10 := rfl
theorem zbo_28 : zbool 28 = false := rfl
theorem zcd_29 : zCode.getD 29 [] = zc29 := rfl
theorem zml_29 : zml 29 = 7 := rfl
theorem zbo_29 : zbool 29 = false := rfl
theorem zcd_30 : zCode.getD 30 [] = zc30 := rfl
theorem zml_30 : zml 30 = 9 := rfl
theorem zbo_30 : zbool 30 = false := rfl
theorem zcd_31 : zCode.getD 31 [] = zc31 := rfl
theorem zml_31 : zml 31 = 1 := rfl
theorem zbo_31 : zbool 31 = false := rfl
theorem zcd_32 : zCode.getD 32 [] = zc32 := rfl
theorem zml_32 : zml 32 = 5 := rfl
theorem zbo_32 : zbool 32 = false := rfl
theorem zcd_33 : zCode.getD 33 [] = zc33 := rfl
theorem zml_33 : zml 33 = 6 := rfl
theorem zbo_33 : zbool 33 = false := rfl
theorem zcd_34 : zCode.getD 34 [] = zc34 := rfl
theorem zml_34 : zml 34 = 2 := rfl
theorem zbo_34 : zbool 34 = false := rfl
theorem zcd_35 : zCode.getD 35 [] = zc35 := rfl
theorem zml_35 : zml 35 = 3 := rfl
theorem zbo_35 : zbool 35 = true := rfl
theorem zcd_36 : zCode.getD 36 [] = zc36 := rfl
theorem zml_36 : zml 36 = 3 := rfl
theorem zbo_36 : zbool 36 = false := rfl
theorem zcd_37 : zCode.getD 37 [] = zc37 := rfl
theorem zml_37 : zml 37 = 4 := rfl
theorem zbo_37 : zbool 37 = true := rfl
theorem zcd_38 : zCode.getD 38 [] = zc38 := rfl
theorem zml_38 : zml 38 = 4 := rfl
theorem zbo_38 : zbool 38 = true := rfl
theorem zcd_39 : zCode.getD 39 [] = zc39 := rfl
theorem zml_39 : zml 39 = 8 := rfl
theorem zbo_39 : zbool 39 = true := rfl
theorem zcd_40 : zCode.getD 40 [] = zc40 := rfl
theorem zml_40 : zml 40 = 9 := rfl
theorem zbo_40 : zbool 40 = true := rfl
theorem zcd_41 : zCode.getD 41 [] = zc41 := rfl
theorem zml_41 : zml 41 = 2 := rfl
theorem zbo_41 : zbool 41 = false := rfl
theorem zcd_42 : zCode.getD 42 [] = zc42 := rfl
theorem zml_42 : zml 42 = 4 := rfl
theorem zbo_42 : zbool 42 = true := rfl
theorem zcd_43 : zCode.getD 43 [] = zc43 := rfl
theorem zml_43 : zml 43 = 7 := rfl
theorem zbo_43 : zbool 43 = false := rfl
theorem zcd_44 : zCode.getD 44 [] = zc44 := rfl
theorem zml_44 : zml 44 = 3 := rfl
theorem zbo_44 : zbool 44 = true := rfl
theorem zcd_45 : zCode.getD 45 [] = zc45 := rfl
theorem zml_45 : zml 45 = 5 := rfl
theorem zbo_45 : zbool 45 = true := rfl
theorem zcd_46 : zCode.getD 46 [] = zc46 := rfl
theorem zml_46 : zml 46 = 4 := rfl
theorem zbo_46 : zbool 46 = true := rfl
theorem zcd_47 : zCode.getD 47 [] = zc47 := rfl
theorem zml_47 : zml 47 = 5 := rfl
theorem zbo_47 : zbool 47 = false := rfl
theorem zcd_48 : zCode.getD 48 [] = zc48 := rfl
theorem zml_48 : zml 48 = 5 := rfl
theorem zbo_48 : zbool 48 = true := rfl
theorem zcd_49 : zCode.getD 49 [] = zc49 := rfl
theorem zml_49 : zml 49 = 1 := rfl
theorem zbo_49 : zbool 49 = false := rfl
theorem zcd_50 : zCode.getD 50 [] = zc50 := rfl
theorem zml_50 : zml 50 = 2 := rfl
theorem zbo_50 : zbool 50 = true := rfl
theorem zcd_51 : zCode.getD 51 [] = zc51 := rfl
theorem zml_51 : zml 51 = 2 := rfl
theorem zbo_51 : zbool 51 = true := rfl
theorem zcd_52 : zCode.getD 52 [] = zc52 := rfl
theorem zml_52 : zml 52 = 2 := rfl
theorem zbo_52 : zbool 52 = false := rfl
theorem zcd_53 : zCode.getD 53 [] = zc53 := rfl
theorem zml_53 : zml 53 = 2 := rfl
theorem zbo_53 : zbool 53 = true := rfl
theorem zcd_54 : zCode.getD 54 [] = zc54 := rfl
theorem zml_54 : zml 54 = 4 := rfl
theorem zbo_54 : zbool 54 = false := rfl
theorem zcd_55 : zCode.getD 55 [] = zc55 := rfl
theorem zml_55 : zml 55 = 4 := rfl
theorem zbo_55 : zbool 55 = false := rfl
theorem zcd_56 : zCode.getD 56 [] = zc56 := rfl
theorem zml_56 : zml 56 = 5 := rfl
theorem zbo_56 : zbool 56 = false := rfl
theorem zcd_57 : zCode.getD 57 [] = zc57 := rfl
theorem zml_57 : zml 57 = 4 := rfl
theorem zbo_57 : zbool 57 = true := rfl
theorem zcd_58 : zCode.getD 58 [] = zc58 := rfl
theorem zml_58 : zml 58 = 2 := rfl
theorem zbo_58 : zbool 58 = false := rfl
theorem zcd_59 : zCode.getD 59 [] = zc59 := rfl
theorem zml_59 : zml 59 = 3 := rfl
theorem zbo_59 : zbool 59 = false := rfl
theorem zcd_60 : zCode.getD 60 [] = zc60 := rfl
theorem zml_60 : zml 60 = 2 := rfl
theorem zbo_60 : zbool 60 = true := rfl
theorem zcd_61 : zCode.getD 61 [] = zc61 := rfl
theorem zml_61 : zml 61 = 2 := rfl
theorem zbo_61 : zbool 61 = true := rfl
theorem zcd_62 : zCode.getD 62 [] = zc62 := rfl
theorem zml_62 : zml 62 = 4 := rfl
theorem zbo_62 : zbool 62 = false := rfl
theorem zcd_63 : zCode.getD 63 [] = zc63 := rfl
theorem zml_63 : zml 63 = 1 := rfl
theorem zbo_63 : zbool 63 = false := rfl
theorem zcd_64 : zCode.getD 64 [] = zc64 := rfl
theorem zml_64 : zml 64 = 3 := rfl
theorem zbo_64 : zbool 64 = false := rfl
theorem zcd_65 : zCode.getD 65 [] = zc65 := rfl
theorem zml_65 : zml 65 = 1 := rfl
theorem zbo_65 : zbool 65 = false := rfl
theorem zcd_66 : zCode.getD 66 [] = zc66 := rfl
theorem zml_66 : zml 66 = 3 := rfl
theorem zbo_66 : zbool 66 = false := rfl
theorem zcd_67 : zCode.getD 67 [] = zc67 := rfl
theorem zml_67 : zml 67 = 4 := rfl
theorem zbo_67 : zbool 67 = false := rfl
theorem zcd_68 : zCode.getD 68 [] = zc68 := rfl
theorem zml_68 : zml 68 = 5 := rfl
theorem zbo_68 : zbool 68 = false := rfl
theorem zcd_69 : zCode.getD 69 [] = zc69 := rfl
theorem zml_69 : zml 69 = 2 := rfl
theorem zbo_69 : zbool 69 = false := rfl
theorem zcd_70 : zCode.getD 70 [] = zc70 := rfl
theorem zml_70 : zml 70 = 2 := rfl
theorem zbo_70 : zbool 70 = false := rfl
theorem zcd_71 : zCode.getD 71 [] = zc71 := rfl
theorem zml_71 : zml 71 = 4 := rfl
theorem zbo_71 : zbool 71 = false := rfl
theorem zcd_72 : zCode.getD 72 [] = zc72 := rfl
theorem zml_72 : zml 72 = 2 := rfl
theorem zbo_72 : zbool 72 = false := rfl
theorem zcd_73 : zCode.getD 73 [] = zc73 := rfl
theorem zml_73 : zml 73 = 2 := rfl
theorem zbo_73 : zbool 73 = false := rfl
theorem zcd_74 : zCode.getD 74 [] = zc74 := rfl
theorem zml_74 : zml 74 = 3 := rfl
theorem zbo_74 : zbool 74 = false := rfl
theorem zcd_75 : zCode.getD 75 [] = zc75 := rfl
theorem zml_75 : zml 75 = 3 := rfl
theorem zbo_75 : zbool 75 = false := rfl
theorem zcd_76 : zCode.getD 76 [] = zc76 := rfl
theorem zml_76 : zml 76 = 2 := rfl
theorem zbo_76 : zbool 76 = false := rfl
theorem zcd_77 : zCode.getD 77 [] = zc77 := rfl
theorem zml_77 : zml 77 = 2 := rfl
theorem zbo_77 : zbool 77 = false := rfl
theorem zcd_78 : zCode.getD 78 [] = zc78 := rfl
theorem zml_78 : zml 78 = 5 := rfl
theorem zbo_78 : zbool 78 = false := rfl
theorem zcd_79 : zCode.getD 79 [] = zc79 := rfl
theorem zml_79 : zml 79 = 5 := rfl
theorem zbo_79 : zbool 79 = false := rfl
theorem zcd_80 : zCode.getD 80 [] = zc80 := rfl
theorem zml_80 : zml 80 = 10 := rfl
theorem zbo_80 : zbool 80 = false := rfl
theorem zcd_81 : zCode.getD 81 [] = zc81 := rfl
theorem zml_81 : zml 81 = 2 := rfl
theorem zbo_81 : zbool 81 = true := rfl
theorem zcd_82 : zCode.getD 82 [] = zc82 := rfl
theorem zml_82 : zml 82 = 3 := rfl
theorem zbo_82 : zbool 82 = false := rfl
theorem zcd_83 : zCode.getD 83 [] = zc83 := rfl
theorem zml_83 : zml 83 = 3 := rfl
theorem zbo_83 : zbool 83 = false := rfl
theorem zcd_84 : zCode.getD 84 [] = zc84 := rfl
theorem zml_84 : zml 84 = 4 := rfl
theorem zbo_84 : zbool 84 = false := rfl
theorem zcd_85 : zCode.getD 85 [] = zc85 := rfl
theorem zml_85 : zml 85 = 5 := rfl
theorem zbo_85 : zbool 85 = false := rfl
theorem zcd_86 : zCode.getD 86 [] = zc86 := rfl
theorem zml_86 : zml 86 = 3 := rfl
theorem zbo_86 : zbool 86 = true := rfl
theorem zcd_87 : zCode.getD 87 [] = zc87 := rfl
theorem zml_87 : zml 87 = 3 := rfl
theorem zbo_87 : zbool 87 = false := rfl
theorem zcd_88 : zCode.getD 88 [] = zc88 := rfl
theorem zml_88 : zml 88 = 2 := rfl
theorem zbo_88 : zbool 88 = false := rfl
theorem zcd_89 : zCode.getD 89 [] = zc89 := rfl
theorem zml_89 : zml 89 = 1 := rfl
theorem zbo_89 : zbool 89 = false := rfl
theorem zcd_90 : zCode.getD 90 [] = zc90 := rfl
theorem zml_90 : zml 90 = 3 := rfl
theorem zbo_90 : zbool 90 = false := rfl
theorem zcd_91 : zCode.getD 91 [] = zc91 := rfl
theorem zml_91 : zml 91 = 4 := rfl
theorem zbo_91 : zbool 91 = false := rfl
theorem zcd_92 : zCode.getD 92 [] = zc92 := rfl
theorem zml_92 : zml 92 = 2 := rfl
theorem zbo_92 : zbool 92 = false := rfl
theorem zcd_93 : zCode.getD 93 [] = zc93 := rfl
theorem zml_93 : zml 93 = 6 := rfl
theorem zbo_93 : zbool 93 = false := rfl
theorem zcd_94 : zCode.getD 94 [] = zc94 := rfl
theorem zml_94 : zml 94 = 5 := rfl
theorem zbo_94 : zbool 94 = false := rfl
theorem zcd_95 : zCode.getD 95 [] = zc95 := rfl
theorem zml_95 : zml 95 = 6 := rfl
theorem zbo_95 : zbool 95 = false := rfl
theorem zcd_96 : zCode.getD 96 [] = zc96 := rfl
theorem zml_96 : zml 96 = 5 := rfl
theorem zbo_96 : zbool 96 = false := rfl
theorem zcd_97 : zCode.getD 97 [] = zc97 := rfl
theorem zml_97 : zml 97 = 2 := rfl
theorem zbo_97 : zbool 97 = false := rfl
theorem zcd_98 : zCode.getD 98 [] = zc98 := rfl
theorem zml_98 : zml 98 = 6 := rfl
theorem zbo_98 : zbool 98 = false := rfl
theorem zcd_99 : zCode.getD 99 [] = zc99 := rfl
theorem zml_99 : zml 99 = 1 := rfl
theorem zbo_99 : zbool 99 = false := rfl
theorem zcd_100 : zCode.getD 100 [] = zc100 := rfl
theorem zml_100 : zml 100 = 3 := rfl
theorem zbo_100 : zbool 100 = false := rfl
theorem zcd_101 : zCode.getD 101 [] = zc101 := rfl
theorem zml_101 : zml 101 = 3 := rfl
theorem zbo_101 : zbool 101 = true := rfl
theorem zcd_102 : zCode.getD 102 [] = zc102 := rfl
theorem zml_102 : zml 102 = 3 := rfl
theorem zbo_102 : zbool 102 = false := rfl
theorem zcd_103 : zCode.getD 103 [] = zc103 := rfl
theorem zml_103 : zml 103 = 1 := rfl
theorem zbo_103 : zbool 103 = false := rfl
theorem zcd_104 : zCode.getD 104 [] = zc104 := rfl
theorem zml_104 : zml 104 = 6 := rfl
theorem zbo_104 : zbool 104 = false := rfl
theorem zcd_105 : zCode.getD 105 [] = zc105 := rfl
theorem zml_105 : zml 105 = 5 := rfl
theorem zbo_105 : zbool 105 = false := rfl
theorem zcd_106 : zCode.getD 106 [] = zc106 := rfl
theorem zml_106 : zml 106 = 3 := rfl
theorem zbo_106 : zbool 106 = false := rfl
theorem zcd_107 : zCode.getD 107 [] = zc107 := rfl
theorem zml_107 : zml 107 = 3 := rfl
theorem zbo_107 : zbool 107 = true := rfl
theorem zcd_108 : zCode.getD 108 [] = zc108 := rfl
theorem zml_108 : zml 108 = 4 := rfl
theorem zbo_108 : zbool 108 = false := rfl
theorem zcd_109 : zCode.getD 109 [] = zc109 := rfl
theorem zml_109 : zml 109 = 1 := rfl
theorem zbo_109 : zbool 109 = true := rfl
theorem zcd_110 : zCode.getD 110 [] = zc110 := rfl
theorem zml_110 : zml 110 = 1 := rfl
theorem zbo_110 : zbool 110 = true := rfl
theorem zcd_111 : zCode.getD 111 [] = zc111 := rfl
theorem zml_111 : zml 111 = 4 := rfl
theorem zbo_111 : zbool 111 = false := rfl
theorem zcd_112 : zCode.getD 112 [] = zc112 := rfl
theorem zml_112 : zml 112 = 1 := rfl
theorem zbo_112 : zbool 112 = true := rfl
theorem zcd_113 : zCode.getD 113 [] = zc113 := rfl
theorem zml_113 : zml 113 = 2 := rfl
theorem zbo_113 : zbool 113 = false := rfl
theorem zcd_114 : zCode.getD 114 [] = zc114 := rfl
theorem zml_114 : zml 114 = 2 := rfl
theorem zbo_114 : zbool 114 = false := rfl
theorem zcd_115 : zCode.getD 115 [] = zc115 := rfl
theorem zml_115 : zml 115 = 2 := rfl
theorem zbo_115 : zbool 115 = false := rfl
theorem zcd_116 : zCode.getD 116 [] = zc116 := rfl
theorem zml_116 : zml 116 = 6 := rfl
theorem zbo_116 : zbool 116 = false := rfl
theorem zcd_117 : zCode.getD 117 [] = zc117 := rfl
theorem zml_117 : zml 117 = 2 := rfl
theorem zbo_117 : zbool 117 = false := rfl
theorem zcd_118 : zCode.getD 118 [] = zc118 := rfl
theorem zml_118 : zml 118 = 2 := rfl
theorem zbo_118 : zbool 118 = false := rfl
theorem zcd_119 : zCode.getD 119 [] = zc119 := rfl
theorem zml_119 : zml 119 = 2 := rfl
theorem zbo_119 : zbool 119 = true := rfl
theorem zcd_120 : zCode.getD 120 [] = zc120 := rfl
theorem zml_120 : zml 120 = 3 := rfl
theorem zbo_120 : zbool 120 = false := rfl
theorem zcd_121 : zCode.getD 121 [] = zc121 := rfl
theorem zml_121 : zml 121 = 3 := rfl
theorem zbo_121 : zbool 121 = false := rfl
theorem zcd_122 : zCode.getD 122 [] = zc122 := rfl
theorem zml_122 : zml 122 = 2 := rfl
theorem zbo_122 : zbool 122 = false := rfl
theorem zcd_123 : zCode.getD 123 [] = zc123 := rfl
theorem zml_123 : zml 123 = 2 := rfl
theorem zbo_123 : zbool 123 = false := rfl
theorem zcd_124 : zCode.getD 124 [] = zc124 := rfl
theorem zml_124 : zml 124 = 3 := rfl
theorem zbo_124 : zbool 124 = false := rfl
theorem zcd_125 : zCode.getD 125 [] = zc125 := rfl
theorem zml_125 : zml 125 = 3 := rfl
theorem zbo_125 : zbool 125 = false := rfl
theorem zcd_126 : zCode.getD 126 [] = zc126 := rfl
theorem zml_126 : zml 126 = 2 := rfl
theorem zbo_126 : zbool 126 = false := rfl
theorem zcd_127 : zCode.getD 127 [] = zc127 := rfl
theorem zml_127 : zml 127 = 2 := rfl
theorem zbo_127 : zbool 127 = false := rfl
theorem zcd_128 : zCode.getD 128 [] = zc128 := rfl
theorem zml_128 : zml 128 = 2 := rfl
theorem zbo_128 : zbool 128 = false := rfl
theorem zcd_129 : zCode.getD 129 [] = zc129 := rfl
theorem zml_129 : zml 129 = 2 := rfl
theorem zbo_129 : zbool 129 = false := rfl
theorem zcd_130 : zCode.getD 130 [] = zc130 := rfl
theorem zml_130 : zml 130 = 3 := rfl
theorem zbo_130 : zbool 130 = false := rfl
theorem zcd_131 : zCode.getD 131 [] = zc131 := rfl
theorem zml_131 : zml 131 = 3 := rfl
theorem zbo_131 : zbool 131 = false := rfl
theorem zcd_132 : zCode.getD 132 [] = zc132 := rfl
theorem zml_132 : zml 132 = 3 := rfl
theorem zbo_132 : zbool 132 = false := rfl
theorem zcd_133 : zCode.getD 133 [] = zc133 := rfl
theorem zml_133 : zml 133 = 8 := rfl
theorem zbo_133 : zbool 133 = false := rfl
theorem zcd_134 : zCode.getD 134 [] = zc134 := rfl
theorem zml_134 : zml 134 = 2 := rfl
theorem zbo_134 : zbool 134 = false := rfl
theorem zcd_135 : zCode.getD 135 [] = zc135 := rfl
theorem zml_135 : zml 135 = 2 := rfl
theorem zbo_135 : zbool 135 = false := rfl
theorem zcd_136 : zCode.getD 136 [] = zc136 := rfl
theorem zml_136 : zml 136 = 3 := rfl
theorem zbo_136 : zbool 136 = false := rfl
theorem zcd_137 : zCode.getD 137 [] = zc137 := rfl
theorem zml_137 : zml 137 = 2 := rfl
theorem zbo_137 : zbool 137 = false := rfl
theorem zcd_138 : zCode.getD 138 [] = zc138 := rfl
theorem zml_138 : zml 138 = 3 := rfl
theorem zbo_138 : zbool 138 = false := rfl
theorem zcd_139 : zCode.getD 139 [] = zc139 := rfl
theorem zml_139 : zml 139 = 5 := rfl
theorem zbo_139 : zbool 139 = false := rfl
theorem zcd_140 : zCode.getD 140 [] = zc140 := rfl
theorem zml_140 : zml 140 = 4 := rfl
theorem zbo_140 : zbool 140 = false := rfl
theorem zcd_141 : zCode.getD 141 [] = zc141 := rfl
theorem zml_141 : zml 141 = 5 := rfl
theorem zbo_141 : zbool 141 = false := rfl
theorem zcd_142 : zCode.getD 142 [] = zc142 := rfl
theorem zml_142 : zml 142 = 3 := rfl
theorem zbo_142 : zbool 142 = false := rfl
theorem zcd_143 : zCode.getD 143 [] = zc143 := rfl
theorem zml_143 : zml 143 = 9 := rfl
theorem zbo_143 : zbool 143 = false := rfl
theorem zcd_144 : zCode.getD 144 [] = zc144 := rfl
theorem zml_144 : zml 144 = 3 := rfl
theorem zbo_144 : zbool 144 = false := rfl
theorem zcd_145 : zCode.getD 145 [] = zc145 := rfl
theorem zml_145 : zml 145 = 4 := rfl
theorem zbo_145 : zbool 145 = false := rfl
theorem zcd_146 : zCode.getD 146 [] = zc146 := rfl
theorem zml_146 : zml 146 = 8 := rfl
theorem zbo_146 : zbool 146 = false := rfl
theorem zcd_147 : zCode.getD 147 [] = zc147 := rfl
theorem zml_147 : zml 147 = 3 := rfl
theorem zbo_147 : zbool 147 = false := rfl
theorem zcd_148 : zCode.getD 148 [] = zc148 := rfl
theorem zml_148 : zml 148 = 4 := rfl
theorem zbo_148 : zbool 148 = false := rfl
theorem zcd_149 : zCode.getD 149 [] = zc149 := rfl
theorem zml_149 : zml 149 = 3 := rfl
theorem zbo_149 : zbool 149 = false := rfl
theorem zcd_150 : zCode.getD 150 [] = zc150 := rfl
theorem zml_150 : zml 150 = 2 := rfl
theorem zbo_150 : zbool 150 = false := rfl
theorem zcd_151 : zCode.getD 151 [] = zc151 := rfl
theorem zml_151 : zml 151 = 3 := rfl
theorem zbo_151 : zbool 151 = false := rfl
theorem zcd_152 : zCode.getD 152 [] = zc152 := rfl
theorem zml_152 : zml 152 = 5 := rfl
theorem zbo_152 : zbool 152 = false := rfl
theorem zcd_153 : zCode.getD 153 [] = zc153 := rfl
theorem zml_153 : zml 153 = 3 := rfl
theorem zbo_153 : zbool 153 = false := rfl
theorem zcd_154 : zCode.getD 154 [] = zc154 := rfl
theorem zml_154 : zml 154 = 2 := rfl
theorem zbo_154 : zbool 154 = false := rfl
theorem zcd_155 : zCode.getD 155 [] = zc155 := rfl
theorem zml_155 : zml 155 = 1 := rfl
theorem zbo_155 : zbool 155 = false := rfl
theorem zcd_156 : zCode.getD 156 [] = zc156 := rfl
theorem zml_156 : zml 156 = 4 := rfl
theorem zbo_156 : zbool 156 = false := rfl
theorem zcd_157 : zCode.getD 157 [] = zc157 := rfl
theorem zml_157 : zml 157 = 7 := rfl
theorem zbo_157 : zbool 157 = true := rfl
theorem zcd_158 : zCode.getD 158 [] = zc158 := rfl
theorem zml_158 : zml 158 = 3 := rfl
theorem zbo_158 : zbool 158 = false := rfl
theorem zcd_159 : zCode.getD 159 [] = zc159 := rfl
theorem zml_159 : zml 159 = 8 := rfl
theorem zbo_159 : zbool 159 = false := rfl
theorem zcd_160 : zCode.getD 160 [] = zc160 := rfl
theorem zml_160 : zml 160 = 6 := rfl
theorem zbo_160 : zbool 160 = false := rfl
theorem zcd_161 : zCode.getD 161 [] = zc161 := rfl
theorem zml_161 : zml 161 = 5 := rfl
theorem zbo_161 : zbool 161 = false := rfl
theorem zcd_162 : zCode.getD 162 [] = zc162 := rfl
theorem zml_162 : zml 162 = 5 := rfl
theorem zbo_162 : zbool 162 = false := rfl
theorem zcd_163 : zCode.getD 163 [] = zc163 := rfl
theorem zml_163 : zml 163 = 2 := rfl
theorem zbo_163 : zbool 163 = false := rfl
theorem zcd_164 : zCode.getD 164 [] = zc164 := rfl
theorem zml_164 : zml 164 = 6 := rfl
theorem zbo_164 : zbool 164 = false := rfl
theorem zcd_165 : zCode.getD 165 [] = zc165 := rfl
theorem zml_165 : zml 165 = 4 := rfl
theorem zbo_165 : zbool 165 = false := rfl
theorem zcd_166 : zCode.getD 166 [] = zc166 := rfl
theorem zml_166 : zml 166 = 4 := rfl
theorem zbo_166 : zbool 166 = false := rfl
theorem zcd_167 : zCode.getD 167 [] = zc167 := rfl
theorem zml_167 : zml 167 = 5 := rfl
theorem zbo_167 : zbool 167 = false := rfl
theorem zcd_168 : zCode.getD 168 [] = zc168 := rfl
theorem zml_168 : zml 168 = 7 := rfl
theorem zbo_168 : zbool 168 = false := rfl
theorem zcd_169 : zCode.getD 169 [] = zc169 := rfl
theorem zml_169 : zml 169 = 4 := rfl
theorem zbo_169 : zbool 169 = false := rfl
theorem zcd_170 : zCode.getD 170 [] = zc170 := rfl
theorem zml_170 : zml 170 = 2 := rfl
theorem zbo_170 : zbool 170 = false := rfl
theorem zcd_171 : zCode.getD 171 [] = zc171 := rfl
theorem zml_171 : zml 171 = 5 := rfl
theorem zbo_171 : zbool 171 = false := rfl
theorem zcd_172 : zCode.getD 172 [] = zc172 := rfl
theorem zml_172 : zml 172 = 5 := rfl
theorem zbo_172 : zbool 172 = false := rfl
theorem zcd_173 : zCode.getD 173 [] = zc173 := rfl
theorem zml_173 : zml 173 = 4 := rfl
theorem zbo_173 : zbool 173 = true := rfl

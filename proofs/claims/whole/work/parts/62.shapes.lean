/-! The shape that the constructors leave (written by wip/whole/genc.py) -/
set_option maxRecDepth 100000 in
theorem zsf_118_1 (L : Nat) : (zs_118 L).2.1 1 = zkdL.getD 1 0 ∧ (zs_118 L).2.2.1 1 = zlnL.getD 1 0 ∧ ∀ j, (zs_118 L).2.2.2 1 j = (zrfL.getD 1 []).getD j none := ⟨rfl, rfl, fun j => match j with
    | 0 => rfl
    | 1 => rfl
    | 2 => rfl
    | 3 => rfl
    | 4 => rfl
    | 5 => rfl
    | 6 => rfl
    | 7 => rfl
    | 8 => rfl
    | j + 9 => rfl⟩
set_option maxRecDepth 100000 in
theorem zsf_118_2 (L : Nat) : (zs_118 L).2.1 2 = zkdL.getD 2 0 ∧ (zs_118 L).2.2.1 2 = zlnL.getD 2 0 ∧ ∀ j, (zs_118 L).2.2.2 2 j = (zrfL.getD 2 []).getD j none := ⟨rfl, rfl, fun j => match j with
    | 0 => rfl
    | 1 => rfl
    | 2 => rfl
    | 3 => rfl
    | 4 => rfl
    | j + 5 => rfl⟩
set_option maxRecDepth 100000 in
theorem zsf_118_3 (L : Nat) : (zs_118 L).2.1 3 = zkdL.getD 3 0 ∧ (zs_118 L).2.2.1 3 = zlnL.getD 3 0 ∧ ∀ j, (zs_118 L).2.2.2 3 j = (zrfL.getD 3 []).getD j none := ⟨rfl, rfl, fun j => rfl⟩
set_option maxRecDepth 100000 in
theorem zsf_118_4 (L : Nat) : (zs_118 L).2.1 4 = zkdL.getD 4 0 ∧ (zs_118 L).2.2.1 4 = zlnL.getD 4 0 ∧ ∀ j, (zs_118 L).2.2.2 4 j = (zrfL.getD 4 []).getD j none := ⟨rfl, rfl, fun j => rfl⟩
set_option maxRecDepth 100000 in
theorem zsf_118_5 (L : Nat) : (zs_118 L).2.1 5 = zkdL.getD 5 0 ∧ (zs_118 L).2.2.1 5 = zlnL.getD 5 0 ∧ ∀ j, (zs_118 L).2.2.2 5 j = (zrfL.getD 5 []).getD j none := ⟨rfl, rfl, fun j => rfl⟩
set_option maxRecDepth 100000 in
theorem zsf_118_6 (L : Nat) : (zs_118 L).2.1 6 = zkdL.getD 6 0 ∧ (zs_118 L).2.2.1 6 = zlnL.getD 6 0 ∧ ∀ j, (zs_118 L).2.2.2 6 j = (zrfL.getD 6 []).getD j none := ⟨rfl, rfl, fun j => rfl⟩
set_option maxRecDepth 100000 in
theorem zsf_118_7 (L : Nat) : (zs_118 L).2.1 7 = zkdL.getD 7 0 ∧ (zs_118 L).2.2.1 7 = zlnL.getD 7 0 ∧ ∀ j, (zs_118 L).2.2.2 7 j = (zrfL.getD 7 []).getD j none := ⟨rfl, rfl, fun j => rfl⟩
set_option maxRecDepth 100000 in
theorem zsf_118_8 (L : Nat) : (zs_118 L).2.1 8 = zkdL.getD 8 0 ∧ (zs_118 L).2.2.1 8 = zlnL.getD 8 0 ∧ ∀ j, (zs_118 L).2.2.2 8 j = (zrfL.getD 8 []).getD j none := ⟨rfl, rfl, fun j => rfl⟩
set_option maxRecDepth 100000 in
theorem zsf_118_9 (L : Nat) : (zs_118 L).2.1 9 = zkdL.getD 9 0 ∧ (zs_118 L).2.2.1 9 = zlnL.getD 9 0 ∧ ∀ j, (zs_118 L).2.2.2 9 j = (zrfL.getD 9 []).getD j none := ⟨rfl, rfl, fun j => match j with
    | 0 => rfl
    | 1 => rfl
    | 2 => rfl
    | j + 3 => rfl⟩
set_option maxRecDepth 100000 in
theorem zsf_118_10 (L : Nat) : (zs_118 L).2.1 10 = zkdL.getD 10 0 ∧ (zs_118 L).2.2.1 10 = zlnL.getD 10 0 ∧ ∀ j, (zs_118 L).2.2.2 10 j = (zrfL.getD 10 []).getD j none := ⟨rfl, rfl, fun j => rfl⟩
set_option maxRecDepth 100000 in
theorem zsf_118_11 (L : Nat) : (zs_118 L).2.1 11 = zkdL.getD 11 0 ∧ (zs_118 L).2.2.1 11 = zlnL.getD 11 0 ∧ ∀ j, (zs_118 L).2.2.2 11 j = (zrfL.getD 11 []).getD j none := ⟨rfl, rfl, fun j => rfl⟩
set_option maxRecDepth 100000 in
theorem zsf_118_12 (L : Nat) : (zs_118 L).2.1 12 = zkdL.getD 12 0 ∧ (zs_118 L).2.2.1 12 = zlnL.getD 12 0 ∧ ∀ j, (zs_118 L).2.2.2 12 j = (zrfL.getD 12 []).getD j none := ⟨rfl, rfl, fun j => rfl⟩
set_option maxRecDepth 100000 in
theorem zsf_118_13 (L : Nat) : (zs_118 L).2.1 13 = zkdL.getD 13 0 ∧ (zs_118 L).2.2.1 13 = zlnL.getD 13 0 ∧ ∀ j, (zs_118 L).2.2.2 13 j = (zrfL.getD 13 []).getD j none := ⟨rfl, rfl, fun j => match j with
    | 0 => rfl
    | 1 => rfl
    | 2 => rfl
    | 3 => rfl
    | j + 4 => rfl⟩
set_option maxRecDepth 100000 in
theorem zsf_118_14 (L : Nat) : (zs_118 L).2.1 14 = zkdL.getD 14 0 ∧ (zs_118 L).2.2.1 14 = zlnL.getD 14 0 ∧ ∀ j, (zs_118 L).2.2.2 14 j = (zrfL.getD 14 []).getD j none := ⟨rfl, rfl, fun j => match j with
    | 0 => rfl
    | 1 => rfl
    | 2 => rfl
    | 3 => rfl
    | j + 4 => rfl⟩
set_option maxRecDepth 100000 in
theorem zsf_118_15 (L : Nat) : (zs_118 L).2.1 15 = zkdL.getD 15 0 ∧ (zs_118 L).2.2.1 15 = zlnL.getD 15 0 ∧ ∀ j, (zs_118 L).2.2.2 15 j = (zrfL.getD 15 []).getD j none := ⟨rfl, rfl, fun j => rfl⟩
set_option maxRecDepth 100000 in
theorem zsf_118_16 (L : Nat) : (zs_118 L).2.1 16 = zkdL.getD 16 0 ∧ (zs_118 L).2.2.1 16 = zlnL.getD 16 0 ∧ ∀ j, (zs_118 L).2.2.2 16 j = (zrfL.getD 16 []).getD j none := ⟨rfl, rfl, fun j => rfl⟩
set_option maxRecDepth 100000 in
theorem zsf_118_17 (L : Nat) : (zs_118 L).2.1 17 = zkdL.getD 17 0 ∧ (zs_118 L).2.2.1 17 = zlnL.getD 17 0 ∧ ∀ j, (zs_118 L).2.2.2 17 j = (zrfL.getD 17 []).getD j none := ⟨rfl, rfl, fun j => rfl⟩
set_option maxRecDepth 100000 in
theorem zsf_118_18 (L : Nat) : (zs_118 L).2.1 18 = zkdL.getD 18 0 ∧ (zs_118 L).2.2.1 18 = zlnL.getD 18 0 ∧ ∀ j, (zs_118 L).2.2.2 18 j = (zrfL.getD 18 []).getD j none := ⟨rfl, rfl, fun j => match j with
    | 0 => rfl
    | 1 => rfl
    | 2 => rfl
    | 3 => rfl
    | 4 => rfl
    | 5 => rfl
    | j + 6 => rfl⟩
set_option maxRecDepth 100000 in
theorem zsf_118_19 (L : Nat) : (zs_118 L).2.1 19 = zkdL.getD 19 0 ∧ (zs_118 L).2.2.1 19 = zlnL.getD 19 0 ∧ ∀ j, (zs_118 L).2.2.2 19 j = (zrfL.getD 19 []).getD j none := ⟨rfl, rfl, fun j => rfl⟩
set_option maxRecDepth 100000 in
theorem zsf_118_20 (L : Nat) : (zs_118 L).2.1 20 = zkdL.getD 20 0 ∧ (zs_118 L).2.2.1 20 = zlnL.getD 20 0 ∧ ∀ j, (zs_118 L).2.2.2 20 j = (zrfL.getD 20 []).getD j none := ⟨rfl, rfl, fun j => rfl⟩
set_option maxRecDepth 100000 in
theorem zsf_118_21 (L : Nat) : (zs_118 L).2.1 21 = zkdL.getD 21 0 ∧ (zs_118 L).2.2.1 21 = zlnL.getD 21 0 ∧ ∀ j, (zs_118 L).2.2.2 21 j = (zrfL.getD 21 []).getD j none := ⟨rfl, rfl, fun j => rfl⟩
set_option maxRecDepth 100000 in
theorem zsf_118_22 (L : Nat) : (zs_118 L).2.1 22 = zkdL.getD 22 0 ∧ (zs_118 L).2.2.1 22 = zlnL.getD 22 0 ∧ ∀ j, (zs_118 L).2.2.2 22 j = (zrfL.getD 22 []).getD j none := ⟨rfl, rfl, fun j => rfl⟩
set_option maxRecDepth 100000 in
theorem zsf_118_23 (L : Nat) : (zs_118 L).2.1 23 = zkdL.getD 23 0 ∧ (zs_118 L).2.2.1 23 = zlnL.getD 23 0 ∧ ∀ j, (zs_118 L).2.2.2 23 j = (zrfL.getD 23 []).getD j none := ⟨rfl, rfl, fun j => match j with
    | 0 => rfl
    | 1 => rfl
    | 2 => rfl
    | 3 => rfl
    | j + 4 => rfl⟩
set_option maxRecDepth 100000 in
theorem zsf_118_24 (L : Nat) : (zs_118 L).2.1 24 = zkdL.getD 24 0 ∧ (zs_118 L).2.2.1 24 = zlnL.getD 24 0 ∧ ∀ j, (zs_118 L).2.2.2 24 j = (zrfL.getD 24 []).getD j none := ⟨rfl, rfl, fun j => rfl⟩
set_option maxRecDepth 100000 in
theorem zsf_118_25 (L : Nat) : (zs_118 L).2.1 25 = zkdL.getD 25 0 ∧ (zs_118 L).2.2.1 25 = zlnL.getD 25 0 ∧ ∀ j, (zs_118 L).2.2.2 25 j = (zrfL.getD 25 []).getD j none := ⟨rfl, rfl, fun j => rfl⟩
set_option maxRecDepth 100000 in
theorem zsf_118_26 (L : Nat) : (zs_118 L).2.1 26 = zkdL.getD 26 0 ∧ (zs_118 L).2.2.1 26 = zlnL.getD 26 0 ∧ ∀ j, (zs_118 L).2.2.2 26 j = (zrfL.getD 26 []).getD j none := ⟨rfl, rfl, fun j => rfl⟩
set_option maxRecDepth 100000 in
theorem zsf_118_27 (L : Nat) : (zs_118 L).2.1 27 = zkdL.getD 27 0 ∧ (zs_118 L).2.2.1 27 = zlnL.getD 27 0 ∧ ∀ j, (zs_118 L).2.2.2 27 j = (zrfL.getD 27 []).getD j none := ⟨rfl, rfl, fun j => match j with
    | 0 => rfl
    | 1 => rfl
    | 2 => rfl
    | 3 => rfl
    | j + 4 => rfl⟩
set_option maxRecDepth 100000 in
theorem zsf_118_28 (L : Nat) : (zs_118 L).2.1 28 = zkdL.getD 28 0 ∧ (zs_118 L).2.2.1 28 = zlnL.getD 28 0 ∧ ∀ j, (zs_118 L).2.2.2 28 j = (zrfL.getD 28 []).getD j none := ⟨rfl, rfl, fun j => rfl⟩
set_option maxRecDepth 100000 in
theorem zsf_118_29 (L : Nat) : (zs_118 L).2.1 29 = zkdL.getD 29 0 ∧ (zs_118 L).2.2.1 29 = zlnL.getD 29 0 ∧ ∀ j, (zs_118 L).2.2.2 29 j = (zrfL.getD 29 []).getD j none := ⟨rfl, rfl, fun j => rfl⟩
set_option maxRecDepth 100000 in
theorem zsf_118_30 (L : Nat) : (zs_118 L).2.1 30 = zkdL.getD 30 0 ∧ (zs_118 L).2.2.1 30 = zlnL.getD 30 0 ∧ ∀ j, (zs_118 L).2.2.2 30 j = (zrfL.getD 30 []).getD j none := ⟨rfl, rfl, fun j => match j with
    | 0 => rfl
    | 1 => rfl
    | 2 => rfl
    | 3 => rfl
    | j + 4 => rfl⟩
set_option maxRecDepth 100000 in
theorem zsf_118_31 (L : Nat) : (zs_118 L).2.1 31 = zkdL.getD 31 0 ∧ (zs_118 L).2.2.1 31 = zlnL.getD 31 0 ∧ ∀ j, (zs_118 L).2.2.2 31 j = (zrfL.getD 31 []).getD j none := ⟨rfl, rfl, fun j => rfl⟩
set_option maxRecDepth 100000 in
theorem zsf_118_32 (L : Nat) : (zs_118 L).2.1 32 = zkdL.getD 32 0 ∧ (zs_118 L).2.2.1 32 = zlnL.getD 32 0 ∧ ∀ j, (zs_118 L).2.2.2 32 j = (zrfL.getD 32 []).getD j none := ⟨rfl, rfl, fun j => rfl⟩
set_option maxRecDepth 100000 in
theorem zsf_118_33 (L : Nat) : (zs_118 L).2.1 33 = zkdL.getD 33 0 ∧ (zs_118 L).2.2.1 33 = zlnL.getD 33 0 ∧ ∀ j, (zs_118 L).2.2.2 33 j = (zrfL.getD 33 []).getD j none := ⟨rfl, rfl, fun j => rfl⟩
set_option maxRecDepth 100000 in
theorem zsf_118_34 (L : Nat) : (zs_118 L).2.1 34 = zkdL.getD 34 0 ∧ (zs_118 L).2.2.1 34 = zlnL.getD 34 0 ∧ ∀ j, (zs_118 L).2.2.2 34 j = (zrfL.getD 34 []).getD j none := ⟨rfl, rfl, fun j => match j with
    | 0 => rfl
    | 1 => rfl
    | 2 => rfl
    | j + 3 => rfl⟩
set_option maxRecDepth 100000 in
theorem zsf_118_35 (L : Nat) : (zs_118 L).2.1 35 = zkdL.getD 35 0 ∧ (zs_118 L).2.2.1 35 = zlnL.getD 35 0 ∧ ∀ j, (zs_118 L).2.2.2 35 j = (zrfL.getD 35 []).getD j none := ⟨rfl, rfl, fun j => match j with
    | 0 => rfl
    | 1 => rfl
    | 2 => rfl
    | 3 => rfl
    | 4 => rfl
    | 5 => rfl
    | 6 => rfl
    | 7 => rfl
    | j + 8 => rfl⟩
set_option maxRecDepth 100000 in
theorem zsf_118_36 (L : Nat) : (zs_118 L).2.1 36 = zkdL.getD 36 0 ∧ (zs_118 L).2.2.1 36 = zlnL.getD 36 0 ∧ ∀ j, (zs_118 L).2.2.2 36 j = (zrfL.getD 36 []).getD j none := ⟨rfl, rfl, fun j => rfl⟩
set_option maxRecDepth 100000 in
theorem zsf_118_37 (L : Nat) : (zs_118 L).2.1 37 = zkdL.getD 37 0 ∧ (zs_118 L).2.2.1 37 = zlnL.getD 37 0 ∧ ∀ j, (zs_118 L).2.2.2 37 j = (zrfL.getD 37 []).getD j none := ⟨rfl, rfl, fun j => rfl⟩
set_option maxRecDepth 100000 in
theorem zsf_118_38 (L : Nat) : (zs_118 L).2.1 38 = zkdL.getD 38 0 ∧ (zs_118 L).2.2.1 38 = zlnL.getD 38 0 ∧ ∀ j, (zs_118 L).2.2.2 38 j = (zrfL.getD 38 []).getD j none := ⟨rfl, rfl, fun j => rfl⟩
set_option maxRecDepth 100000 in
theorem zsf_118_39 (L : Nat) : (zs_118 L).2.1 39 = zkdL.getD 39 0 ∧ (zs_118 L).2.2.1 39 = zlnL.getD 39 0 ∧ ∀ j, (zs_118 L).2.2.2 39 j = (zrfL.getD 39 []).getD j none := ⟨rfl, rfl, fun j => rfl⟩
set_option maxRecDepth 100000 in
theorem zsf_118_40 (L : Nat) : (zs_118 L).2.1 40 = zkdL.getD 40 0 ∧ (zs_118 L).2.2.1 40 = zlnL.getD 40 0 ∧ ∀ j, (zs_118 L).2.2.2 40 j = (zrfL.getD 40 []).getD j none := ⟨rfl, rfl, fun j => rfl⟩
set_option maxRecDepth 100000 in
theorem zsf_118_41 (L : Nat) : (zs_118 L).2.1 41 = zkdL.getD 41 0 ∧ (zs_118 L).2.2.1 41 = zlnL.getD 41 0 ∧ ∀ j, (zs_118 L).2.2.2 41 j = (zrfL.getD 41 []).getD j none := ⟨rfl, rfl, fun j => rfl⟩
set_option maxRecDepth 100000 in
theorem zsf_118_42 (L : Nat) : (zs_118 L).2.1 42 = zkdL.getD 42 0 ∧ (zs_118 L).2.2.1 42 = zlnL.getD 42 0 ∧ ∀ j, (zs_118 L).2.2.2 42 j = (zrfL.getD 42 []).getD j none := ⟨rfl, rfl, fun j => rfl⟩
set_option maxRecDepth 100000 in
theorem zsf_118_43 (L : Nat) : (zs_118 L).2.1 43 = zkdL.getD 43 0 ∧ (zs_118 L).2.2.1 43 = zlnL.getD 43 0 ∧ ∀ j, (zs_118 L).2.2.2 43 j = (zrfL.getD 43 []).getD j none := ⟨rfl, rfl, fun j => rfl⟩
set_option maxRecDepth 100000 in
theorem zsf_118_44 (L : Nat) : (zs_118 L).2.1 44 = zkdL.getD 44 0 ∧ (zs_118 L).2.2.1 44 = zlnL.getD 44 0 ∧ ∀ j, (zs_118 L).2.2.2 44 j = (zrfL.getD 44 []).getD j none := ⟨rfl, rfl, fun j => match j with
    | 0 => rfl
    | 1 => rfl
    | 2 => rfl
    | 3 => rfl
    | j + 4 => rfl⟩
set_option maxRecDepth 100000 in
theorem zsf_118_45 (L : Nat) : (zs_118 L).2.1 45 = zkdL.getD 45 0 ∧ (zs_118 L).2.2.1 45 = zlnL.getD 45 0 ∧ ∀ j, (zs_118 L).2.2.2 45 j = (zrfL.getD 45 []).getD j none := ⟨rfl, rfl, fun j => rfl⟩
set_option maxRecDepth 100000 in
theorem zsf_118_46 (L : Nat) : (zs_118 L).2.1 46 = zkdL.getD 46 0 ∧ (zs_118 L).2.2.1 46 = zlnL.getD 46 0 ∧ ∀ j, (zs_118 L).2.2.2 46 j = (zrfL.getD 46 []).getD j none := ⟨rfl, rfl, fun j => rfl⟩
set_option maxRecDepth 100000 in
theorem zsf_118_47 (L : Nat) : (zs_118 L).2.1 47 = zkdL.getD 47 0 ∧ (zs_118 L).2.2.1 47 = zlnL.getD 47 0 ∧ ∀ j, (zs_118 L).2.2.2 47 j = (zrfL.getD 47 []).getD j none := ⟨rfl, rfl, fun j => rfl⟩
set_option maxRecDepth 100000 in
theorem zsf_118_48 (L : Nat) : (zs_118 L).2.1 48 = zkdL.getD 48 0 ∧ (zs_118 L).2.2.1 48 = zlnL.getD 48 0 ∧ ∀ j, (zs_118 L).2.2.2 48 j = (zrfL.getD 48 []).getD j none := ⟨rfl, rfl, fun j => match j with
    | 0 => rfl
    | 1 => rfl
    | 2 => rfl
    | j + 3 => rfl⟩
set_option maxRecDepth 100000 in
theorem zsf_118_49 (L : Nat) : (zs_118 L).2.1 49 = zkdL.getD 49 0 ∧ (zs_118 L).2.2.1 49 = zlnL.getD 49 0 ∧ ∀ j, (zs_118 L).2.2.2 49 j = (zrfL.getD 49 []).getD j none := ⟨rfl, rfl, fun j => match j with
    | 0 => rfl
    | 1 => rfl
    | 2 => rfl
    | 3 => rfl
    | j + 4 => rfl⟩
set_option maxRecDepth 100000 in
theorem zsf_118_50 (L : Nat) : (zs_118 L).2.1 50 = zkdL.getD 50 0 ∧ (zs_118 L).2.2.1 50 = zlnL.getD 50 0 ∧ ∀ j, (zs_118 L).2.2.2 50 j = (zrfL.getD 50 []).getD j none := ⟨rfl, rfl, fun j => rfl⟩
set_option maxRecDepth 100000 in
theorem zsf_118_51 (L : Nat) : (zs_118 L).2.1 51 = zkdL.getD 51 0 ∧ (zs_118 L).2.2.1 51 = zlnL.getD 51 0 ∧ ∀ j, (zs_118 L).2.2.2 51 j = (zrfL.getD 51 []).getD j none := ⟨rfl, rfl, fun j => rfl⟩
set_option maxRecDepth 100000 in
theorem zsf_118_52 (L : Nat) : (zs_118 L).2.1 52 = zkdL.getD 52 0 ∧ (zs_118 L).2.2.1 52 = zlnL.getD 52 0 ∧ ∀ j, (zs_118 L).2.2.2 52 j = (zrfL.getD 52 []).getD j none := ⟨rfl, rfl, fun j => rfl⟩
set_option maxRecDepth 100000 in
theorem zsf_118_53 (L : Nat) : (zs_118 L).2.1 53 = zkdL.getD 53 0 ∧ (zs_118 L).2.2.1 53 = zlnL.getD 53 0 ∧ ∀ j, (zs_118 L).2.2.2 53 j = (zrfL.getD 53 []).getD j none := ⟨rfl, rfl, fun j => rfl⟩
set_option maxRecDepth 100000 in
theorem zsf_118_54 (L : Nat) : (zs_118 L).2.1 54 = zkdL.getD 54 0 ∧ (zs_118 L).2.2.1 54 = zlnL.getD 54 0 ∧ ∀ j, (zs_118 L).2.2.2 54 j = (zrfL.getD 54 []).getD j none := ⟨rfl, rfl, fun j => rfl⟩
set_option maxRecDepth 100000 in
theorem zsf_118_55 (L : Nat) : (zs_118 L).2.1 55 = zkdL.getD 55 0 ∧ (zs_118 L).2.2.1 55 = zlnL.getD 55 0 ∧ ∀ j, (zs_118 L).2.2.2 55 j = (zrfL.getD 55 []).getD j none := ⟨rfl, rfl, fun j => rfl⟩
set_option maxRecDepth 100000 in
theorem zsf_118_56 (L : Nat) : (zs_118 L).2.1 56 = zkdL.getD 56 0 ∧ (zs_118 L).2.2.1 56 = zlnL.getD 56 0 ∧ ∀ j, (zs_118 L).2.2.2 56 j = (zrfL.getD 56 []).getD j none := ⟨rfl, rfl, fun j => match j with
    | 0 => rfl
    | 1 => rfl
    | 2 => rfl
    | 3 => rfl
    | j + 4 => rfl⟩
set_option maxRecDepth 100000 in
theorem zsf_118_57 (L : Nat) : (zs_118 L).2.1 57 = zkdL.getD 57 0 ∧ (zs_118 L).2.2.1 57 = zlnL.getD 57 0 ∧ ∀ j, (zs_118 L).2.2.2 57 j = (zrfL.getD 57 []).getD j none := ⟨rfl, rfl, fun j => rfl⟩
set_option maxRecDepth 100000 in
theorem zsf_118_58 (L : Nat) : (zs_118 L).2.1 58 = zkdL.getD 58 0 ∧ (zs_118 L).2.2.1 58 = zlnL.getD 58 0 ∧ ∀ j, (zs_118 L).2.2.2 58 j = (zrfL.getD 58 []).getD j none := ⟨rfl, rfl, fun j => rfl⟩
set_option maxRecDepth 100000 in
theorem zsf_118_59 (L : Nat) : (zs_118 L).2.1 59 = zkdL.getD 59 0 ∧ (zs_118 L).2.2.1 59 = zlnL.getD 59 0 ∧ ∀ j, (zs_118 L).2.2.2 59 j = (zrfL.getD 59 []).getD j none := ⟨rfl, rfl, fun j => rfl⟩
set_option maxRecDepth 100000 in
theorem zsf_118_60 (L : Nat) : (zs_118 L).2.1 60 = zkdL.getD 60 0 ∧ (zs_118 L).2.2.1 60 = zlnL.getD 60 0 ∧ ∀ j, (zs_118 L).2.2.2 60 j = (zrfL.getD 60 []).getD j none := ⟨rfl, rfl, fun j => match j with
    | 0 => rfl
    | 1 => rfl
    | 2 => rfl
    | 3 => rfl
    | j + 4 => rfl⟩
set_option maxRecDepth 100000 in
theorem zsf_118_61 (L : Nat) : (zs_118 L).2.1 61 = zkdL.getD 61 0 ∧ (zs_118 L).2.2.1 61 = zlnL.getD 61 0 ∧ ∀ j, (zs_118 L).2.2.2 61 j = (zrfL.getD 61 []).getD j none := ⟨rfl, rfl, fun j => rfl⟩
set_option maxRecDepth 100000 in
theorem zsf_118_62 (L : Nat) : (zs_118 L).2.1 62 = zkdL.getD 62 0 ∧ (zs_118 L).2.2.1 62 = zlnL.getD 62 0 ∧ ∀ j, (zs_118 L).2.2.2 62 j = (zrfL.getD 62 []).getD j none := ⟨rfl, rfl, fun j => rfl⟩
set_option maxRecDepth 100000 in
theorem zsf_118_63 (L : Nat) : (zs_118 L).2.1 63 = zkdL.getD 63 0 ∧ (zs_118 L).2.2.1 63 = zlnL.getD 63 0 ∧ ∀ j, (zs_118 L).2.2.2 63 j = (zrfL.getD 63 []).getD j none := ⟨rfl, rfl, fun j => rfl⟩
set_option maxRecDepth 100000 in
theorem zsf_118_64 (L : Nat) : (zs_118 L).2.1 64 = zkdL.getD 64 0 ∧ (zs_118 L).2.2.1 64 = zlnL.getD 64 0 ∧ ∀ j, (zs_118 L).2.2.2 64 j = (zrfL.getD 64 []).getD j none := ⟨rfl, rfl, fun j => match j with
    | 0 => rfl
    | 1 => rfl
    | 2 => rfl
    | 3 => rfl
    | j + 4 => rfl⟩
set_option maxRecDepth 100000 in
theorem zsf_118_65 (L : Nat) : (zs_118 L).2.1 65 = zkdL.getD 65 0 ∧ (zs_118 L).2.2.1 65 = zlnL.getD 65 0 ∧ ∀ j, (zs_118 L).2.2.2 65 j = (zrfL.getD 65 []).getD j none := ⟨rfl, rfl, fun j => rfl⟩
set_option maxRecDepth 100000 in
theorem zsf_118_66 (L : Nat) : (zs_118 L).2.1 66 = zkdL.getD 66 0 ∧ (zs_118 L).2.2.1 66 = zlnL.getD 66 0 ∧ ∀ j, (zs_118 L).2.2.2 66 j = (zrfL.getD 66 []).getD j none := ⟨rfl, rfl, fun j => rfl⟩
set_option maxRecDepth 100000 in
theorem zsf_118_67 (L : Nat) : (zs_118 L).2.1 67 = zkdL.getD 67 0 ∧ (zs_118 L).2.2.1 67 = zlnL.getD 67 0 ∧ ∀ j, (zs_118 L).2.2.2 67 j = (zrfL.getD 67 []).getD j none := ⟨rfl, rfl, fun j => rfl⟩
set_option maxRecDepth 100000 in
theorem zsf_118_68 (L : Nat) : (zs_118 L).2.1 68 = zkdL.getD 68 0 ∧ (zs_118 L).2.2.1 68 = zlnL.getD 68 0 ∧ ∀ j, (zs_118 L).2.2.2 68 j = (zrfL.getD 68 []).getD j none := ⟨rfl, rfl, fun j => match j with
    | 0 => rfl
    | 1 => rfl
    | 2 => rfl
    | 3 => rfl
    | j + 4 => rfl⟩
set_option maxRecDepth 100000 in
theorem zsf_118_69 (L : Nat) : (zs_118 L).2.1 69 = zkdL.getD 69 0 ∧ (zs_118 L).2.2.1 69 = zlnL.getD 69 0 ∧ ∀ j, (zs_118 L).2.2.2 69 j = (zrfL.getD 69 []).getD j none := ⟨rfl, rfl, fun j => rfl⟩
set_option maxRecDepth 100000 in
theorem zsf_118_70 (L : Nat) : (zs_118 L).2.1 70 = zkdL.getD 70 0 ∧ (zs_118 L).2.2.1 70 = zlnL.getD 70 0 ∧ ∀ j, (zs_118 L).2.2.2 70 j = (zrfL.getD 70 []).getD j none := ⟨rfl, rfl, fun j => rfl⟩
set_option maxRecDepth 100000 in
theorem zsf_118_71 (L : Nat) : (zs_118 L).2.1 71 = zkdL.getD 71 0 ∧ (zs_118 L).2.2.1 71 = zlnL.getD 71 0 ∧ ∀ j, (zs_118 L).2.2.2 71 j = (zrfL.getD 71 []).getD j none := ⟨rfl, rfl, fun j => rfl⟩
set_option maxRecDepth 100000 in
theorem zsf_165_1 (L : Nat) : (zs_165 L).2.1 1 = zkdL.getD 1 0 ∧ (zs_165 L).2.2.1 1 = zlnL.getD 1 0 ∧ ∀ j, (zs_165 L).2.2.2 1 j = (zrfL.getD 1 []).getD j none := ⟨rfl, rfl, fun j => match j with
    | 0 => rfl
    | 1 => rfl
    | 2 => rfl
    | 3 => rfl
    | 4 => rfl
    | 5 => rfl
    | 6 => rfl
    | 7 => rfl
    | 8 => rfl
    | j + 9 => rfl⟩
set_option maxRecDepth 100000 in
theorem zsf_165_2 (L : Nat) : (zs_165 L).2.1 2 = zkdL.getD 2 0 ∧ (zs_165 L).2.2.1 2 = zlnL.getD 2 0 ∧ ∀ j, (zs_165 L).2.2.2 2 j = (zrfL.getD 2 []).getD j none := ⟨rfl, rfl, fun j => match j with
    | 0 => rfl
    | 1 => rfl
    | 2 => rfl
    | 3 => rfl
    | 4 => rfl
    | j + 5 => rfl⟩
set_option maxRecDepth 100000 in
theorem zsf_165_3 (L : Nat) : (zs_165 L).2.1 3 = zkdL.getD 3 0 ∧ (zs_165 L).2.2.1 3 = zlnL.getD 3 0 ∧ ∀ j, (zs_165 L).2.2.2 3 j = (zrfL.getD 3 []).getD j none := ⟨rfl, rfl, fun j => rfl⟩
set_option maxRecDepth 100000 in
theorem zsf_165_4 (L : Nat) : (zs_165 L).2.1 4 = zkdL.getD 4 0 ∧ (zs_165 L).2.2.1 4 = zlnL.getD 4 0 ∧ ∀ j, (zs_165 L).2.2.2 4 j = (zrfL.getD 4 []).getD j none := ⟨rfl, rfl, fun j => rfl⟩
set_option maxRecDepth 100000 in
theorem zsf_165_5 (L : Nat) : (zs_165 L).2.1 5 = zkdL.getD 5 0 ∧ (zs_165 L).2.2.1 5 = zlnL.getD 5 0 ∧ ∀ j, (zs_165 L).2.2.2 5 j = (zrfL.getD 5 []).getD j none := ⟨rfl, rfl, fun j => rfl⟩
set_option maxRecDepth 100000 in
theorem zsf_165_6 (L : Nat) : (zs_165 L).2.1 6 = zkdL.getD 6 0 ∧ (zs_165 L).2.2.1 6 = zlnL.getD 6 0 ∧ ∀ j, (zs_165 L).2.2.2 6 j = (zrfL.getD 6 []).getD j none := ⟨rfl, rfl, fun j => rfl⟩
set_option maxRecDepth 100000 in
theorem zsf_165_7 (L : Nat) : (zs_165 L).2.1 7 = zkdL.getD 7 0 ∧ (zs_165 L).2.2.1 7 = zlnL.getD 7 0 ∧ ∀ j, (zs_165 L).2.2.2 7 j = (zrfL.getD 7 []).getD j none := ⟨rfl, rfl, fun j => rfl⟩
set_option maxRecDepth 100000 in
theorem zsf_165_8 (L : Nat) : (zs_165 L).2.1 8 = zkdL.getD 8 0 ∧ (zs_165 L).2.2.1 8 = zlnL.getD 8 0 ∧ ∀ j, (zs_165 L).2.2.2 8 j = (zrfL.getD 8 []).getD j none := ⟨rfl, rfl, fun j => rfl⟩
set_option maxRecDepth 100000 in
theorem zsf_165_9 (L : Nat) : (zs_165 L).2.1 9 = zkdL.getD 9 0 ∧ (zs_165 L).2.2.1 9 = zlnL.getD 9 0 ∧ ∀ j, (zs_165 L).2.2.2 9 j = (zrfL.getD 9 []).getD j none := ⟨rfl, rfl, fun j => match j with
    | 0 => rfl
    | 1 => rfl
    | 2 => rfl
    | j + 3 => rfl⟩
set_option maxRecDepth 100000 in
theorem zsf_165_10 (L : Nat) : (zs_165 L).2.1 10 = zkdL.getD 10 0 ∧ (zs_165 L).2.2.1 10 = zlnL.getD 10 0 ∧ ∀ j, (zs_165 L).2.2.2 10 j = (zrfL.getD 10 []).getD j none := ⟨rfl, rfl, fun j => rfl⟩
set_option maxRecDepth 100000 in
theorem zsf_165_11 (L : Nat) : (zs_165 L).2.1 11 = zkdL.getD 11 0 ∧ (zs_165 L).2.2.1 11 = zlnL.getD 11 0 ∧ ∀ j, (zs_165 L).2.2.2 11 j = (zrfL.getD 11 []).getD j none := ⟨rfl, rfl, fun j => rfl⟩
set_option maxRecDepth 100000 in
theorem zsf_165_12 (L : Nat) : (zs_165 L).2.1 12 = zkdL.getD 12 0 ∧ (zs_165 L).2.2.1 12 = zlnL.getD 12 0 ∧ ∀ j, (zs_165 L).2.2.2 12 j = (zrfL.getD 12 []).getD j none := ⟨rfl, rfl, fun j => rfl⟩
set_option maxRecDepth 100000 in
theorem zsf_165_13 (L : Nat) : (zs_165 L).2.1 13 = zkdL.getD 13 0 ∧ (zs_165 L).2.2.1 13 = zlnL.getD 13 0 ∧ ∀ j, (zs_165 L).2.2.2 13 j = (zrfL.getD 13 []).getD j none := ⟨rfl, rfl, fun j => match j with
    | 0 => rfl
    | 1 => rfl
    | 2 => rfl
    | 3 => rfl
    | j + 4 => rfl⟩
set_option maxRecDepth 100000 in
theorem zsf_165_14 (L : Nat) : (zs_165 L).2.1 14 = zkdL.getD 14 0 ∧ (zs_165 L).2.2.1 14 = zlnL.getD 14 0 ∧ ∀ j, (zs_165 L).2.2.2 14 j = (zrfL.getD 14 []).getD j none := ⟨rfl, rfl, fun j => match j with
    | 0 => rfl
    | 1 => rfl
    | 2 => rfl
    | 3 => rfl
    | j + 4 => rfl⟩
set_option maxRecDepth 100000 in
theorem zsf_165_15 (L : Nat) : (zs_165 L).2.1 15 = zkdL.getD 15 0 ∧ (zs_165 L).2.2.1 15 = zlnL.getD 15 0 ∧ ∀ j, (zs_165 L).2.2.2 15 j = (zrfL.getD 15 []).getD j none := ⟨rfl, rfl, fun j => rfl⟩
set_option maxRecDepth 100000 in
theorem zsf_165_16 (L : Nat) : (zs_165 L).2.1 16 = zkdL.getD 16 0 ∧ (zs_165 L).2.2.1 16 = zlnL.getD 16 0 ∧ ∀ j, (zs_165 L).2.2.2 16 j = (zrfL.getD 16 []).getD j none := ⟨rfl, rfl, fun j => rfl⟩
set_option maxRecDepth 100000 in
theorem zsf_165_17 (L : Nat) : (zs_165 L).2.1 17 = zkdL.getD 17 0 ∧ (zs_165 L).2.2.1 17 = zlnL.getD 17 0 ∧ ∀ j, (zs_165 L).2.2.2 17 j = (zrfL.getD 17 []).getD j none := ⟨rfl, rfl, fun j => rfl⟩
set_option maxRecDepth 100000 in
theorem zsf_165_18 (L : Nat) : (zs_165 L).2.1 18 = zkdL.getD 18 0 ∧ (zs_165 L).2.2.1 18 = zlnL.getD 18 0 ∧ ∀ j, (zs_165 L).2.2.2 18 j = (zrfL.getD 18 []).getD j none := ⟨rfl, rfl, fun j => match j with
    | 0 => rfl
    | 1 => rfl
    | 2 => rfl
    | 3 => rfl
    | 4 => rfl
    | 5 => rfl
    | j + 6 => rfl⟩
set_option maxRecDepth 100000 in
theorem zsf_165_19 (L : Nat) : (zs_165 L).2.1 19 = zkdL.getD 19 0 ∧ (zs_165 L).2.2.1 19 = zlnL.getD 19 0 ∧ ∀ j, (zs_165 L).2.2.2 19 j = (zrfL.getD 19 []).getD j none := ⟨rfl, rfl, fun j => rfl⟩
set_option maxRecDepth 100000 in
theorem zsf_165_20 (L : Nat) : (zs_165 L).2.1 20 = zkdL.getD 20 0 ∧ (zs_165 L).2.2.1 20 = zlnL.getD 20 0 ∧ ∀ j, (zs_165 L).2.2.2 20 j = (zrfL.getD 20 []).getD j none := ⟨rfl, rfl, fun j => rfl⟩
set_option maxRecDepth 100000 in
theorem zsf_165_21 (L : Nat) : (zs_165 L).2.1 21 = zkdL.getD 21 0 ∧ (zs_165 L).2.2.1 21 = zlnL.getD 21 0 ∧ ∀ j, (zs_165 L).2.2.2 21 j = (zrfL.getD 21 []).getD j none := ⟨rfl, rfl, fun j => rfl⟩
set_option maxRecDepth 100000 in
theorem zsf_165_22 (L : Nat) : (zs_165 L).2.1 22 = zkdL.getD 22 0 ∧ (zs_165 L).2.2.1 22 = zlnL.getD 22 0 ∧ ∀ j, (zs_165 L).2.2.2 22 j = (zrfL.getD 22 []).getD j none := ⟨rfl, rfl, fun j => rfl⟩
set_option maxRecDepth 100000 in
theorem zsf_165_23 (L : Nat) : (zs_165 L).2.1 23 = zkdL.getD 23 0 ∧ (zs_165 L).2.2.1 23 = zlnL.getD 23 0 ∧ ∀ j, (zs_165 L).2.2.2 23 j = (zrfL.getD 23 []).getD j none := ⟨rfl, rfl, fun j => match j with
    | 0 => rfl
    | 1 => rfl
    | 2 => rfl
    | 3 => rfl
    | j + 4 => rfl⟩
set_option maxRecDepth 100000 in
theorem zsf_165_24 (L : Nat) : (zs_165 L).2.1 24 = zkdL.getD 24 0 ∧ (zs_165 L).2.2.1 24 = zlnL.getD 24 0 ∧ ∀ j, (zs_165 L).2.2.2 24 j = (zrfL.getD 24 []).getD j none := ⟨rfl, rfl, fun j => rfl⟩
set_option maxRecDepth 100000 in
theorem zsf_165_25 (L : Nat) : (zs_165 L).2.1 25 = zkdL.getD 25 0 ∧ (zs_165 L).2.2.1 25 = zlnL.getD 25 0 ∧ ∀ j, (zs_165 L).2.2.2 25 j = (zrfL.getD 25 []).getD j none := ⟨rfl, rfl, fun j => rfl⟩
set_option maxRecDepth 100000 in
theorem zsf_165_26 (L : Nat) : (zs_165 L).2.1 26 = zkdL.getD 26 0 ∧ (zs_165 L).2.2.1 26 = zlnL.getD 26 0 ∧ ∀ j, (zs_165 L).2.2.2 26 j = (zrfL.getD 26 []).getD j none := ⟨rfl, rfl, fun j => rfl⟩
set_option maxRecDepth 100000 in
theorem zsf_165_27 (L : Nat) : (zs_165 L).2.1 27 = zkdL.getD 27 0 ∧ (zs_165 L).2.2.1 27 = zlnL.getD 27 0 ∧ ∀ j, (zs_165 L).2.2.2 27 j = (zrfL.getD 27 []).getD j none := ⟨rfl, rfl, fun j => match j with
    | 0 => rfl
    | 1 => rfl
    | 2 => rfl
    | 3 => rfl
    | j + 4 => rfl⟩
set_option maxRecDepth 100000 in
theorem zsf_165_28 (L : Nat) : (zs_165 L).2.1 28 = zkdL.getD 28 0 ∧ (zs_165 L).2.2.1 28 = zlnL.getD 28 0 ∧ ∀ j, (zs_165 L).2.2.2 28 j = (zrfL.getD 28 []).getD j none := ⟨rfl, rfl, fun j => rfl⟩
set_option maxRecDepth 100000 in
theorem zsf_165_29 (L : Nat) : (zs_165 L).2.1 29 = zkdL.getD 29 0 ∧ (zs_165 L).2.2.1 29 = zlnL.getD 29 0 ∧ ∀ j, (zs_165 L).2.2.2 29 j = (zrfL.getD 29 []).getD j none := ⟨rfl, rfl, fun j => rfl⟩
set_option maxRecDepth 100000 in
theorem zsf_165_30 (L : Nat) : (zs_165 L).2.1 30 = zkdL.getD 30 0 ∧ (zs_165 L).2.2.1 30 = zlnL.getD 30 0 ∧ ∀ j, (zs_165 L).2.2.2 30 j = (zrfL.getD 30 []).getD j none := ⟨rfl, rfl, fun j => match j with
    | 0 => rfl
    | 1 => rfl
    | 2 => rfl
    | 3 => rfl
    | j + 4 => rfl⟩
set_option maxRecDepth 100000 in
theorem zsf_165_31 (L : Nat) : (zs_165 L).2.1 31 = zkdL.getD 31 0 ∧ (zs_165 L).2.2.1 31 = zlnL.getD 31 0 ∧ ∀ j, (zs_165 L).2.2.2 31 j = (zrfL.getD 31 []).getD j none := ⟨rfl, rfl, fun j => rfl⟩
set_option maxRecDepth 100000 in
theorem zsf_165_32 (L : Nat) : (zs_165 L).2.1 32 = zkdL.getD 32 0 ∧ (zs_165 L).2.2.1 32 = zlnL.getD 32 0 ∧ ∀ j, (zs_165 L).2.2.2 32 j = (zrfL.getD 32 []).getD j none := ⟨rfl, rfl, fun j => rfl⟩
set_option maxRecDepth 100000 in
theorem zsf_165_33 (L : Nat) : (zs_165 L).2.1 33 = zkdL.getD 33 0 ∧ (zs_165 L).2.2.1 33 = zlnL.getD 33 0 ∧ ∀ j, (zs_165 L).2.2.2 33 j = (zrfL.getD 33 []).getD j none := ⟨rfl, rfl, fun j => rfl⟩
set_option maxRecDepth 100000 in
theorem zsf_165_34 (L : Nat) : (zs_165 L).2.1 34 = zkdL.getD 34 0 ∧ (zs_165 L).2.2.1 34 = zlnL.getD 34 0 ∧ ∀ j, (zs_165 L).2.2.2 34 j = (zrfL.getD 34 []).getD j none := ⟨rfl, rfl, fun j => match j with
    | 0 => rfl
    | 1 => rfl
    | 2 => rfl
    | j + 3 => rfl⟩
set_option maxRecDepth 100000 in
theorem zsf_165_35 (L : Nat) : (zs_165 L).2.1 35 = zkdL.getD 35 0 ∧ (zs_165 L).2.2.1 35 = zlnL.getD 35 0 ∧ ∀ j, (zs_165 L).2.2.2 35 j = (zrfL.getD 35 []).getD j none := ⟨rfl, rfl, fun j => match j with
    | 0 => rfl
    | 1 => rfl
    | 2 => rfl
    | 3 => rfl
    | 4 => rfl
    | 5 => rfl
    | 6 => rfl
    | 7 => rfl
    | j + 8 => rfl⟩
set_option maxRecDepth 100000 in
theorem zsf_165_36 (L : Nat) : (zs_165 L).2.1 36 = zkdL.getD 36 0 ∧ (zs_165 L).2.2.1 36 = zlnL.getD 36 0 ∧ ∀ j, (zs_165 L).2.2.2 36 j = (zrfL.getD 36 []).getD j none := ⟨rfl, rfl, fun j => rfl⟩
set_option maxRecDepth 100000 in
theorem zsf_165_37 (L : Nat) : (zs_165 L).2.1 37 = zkdL.getD 37 0 ∧ (zs_165 L).2.2.1 37 = zlnL.getD 37 0 ∧ ∀ j, (zs_165 L).2.2.2 37 j = (zrfL.getD 37 []).getD j none := ⟨rfl, rfl, fun j => rfl⟩
set_option maxRecDepth 100000 in
theorem zsf_165_38 (L : Nat) : (zs_165 L).2.1 38 = zkdL.getD 38 0 ∧ (zs_165 L).2.2.1 38 = zlnL.getD 38 0 ∧ ∀ j, (zs_165 L).2.2.2 38 j = (zrfL.getD 38 []).getD j none := ⟨rfl, rfl, fun j => rfl⟩
set_option maxRecDepth 100000 in
theorem zsf_165_39 (L : Nat) : (zs_165 L).2.1 39 = zkdL.getD 39 0 ∧ (zs_165 L).2.2.1 39 = zlnL.getD 39 0 ∧ ∀ j, (zs_165 L).2.2.2 39 j = (zrfL.getD 39 []).getD j none := ⟨rfl, rfl, fun j => rfl⟩
set_option maxRecDepth 100000 in
theorem zsf_165_40 (L : Nat) : (zs_165 L).2.1 40 = zkdL.getD 40 0 ∧ (zs_165 L).2.2.1 40 = zlnL.getD 40 0 ∧ ∀ j, (zs_165 L).2.2.2 40 j = (zrfL.getD 40 []).getD j none := ⟨rfl, rfl, fun j => rfl⟩
set_option maxRecDepth 100000 in
theorem zsf_165_41 (L : Nat) : (zs_165 L).2.1 41 = zkdL.getD 41 0 ∧ (zs_165 L).2.2.1 41 = zlnL.getD 41 0 ∧ ∀ j, (zs_165 L).2.2.2 41 j = (zrfL.getD 41 []).getD j none := ⟨rfl, rfl, fun j => rfl⟩
set_option maxRecDepth 100000 in
theorem zsf_165_42 (L : Nat) : (zs_165 L).2.1 42 = zkdL.getD 42 0 ∧ (zs_165 L).2.2.1 42 = zlnL.getD 42 0 ∧ ∀ j, (zs_165 L).2.2.2 42 j = (zrfL.getD 42 []).getD j none := ⟨rfl, rfl, fun j => rfl⟩
set_option maxRecDepth 100000 in
theorem zsf_165_43 (L : Nat) : (zs_165 L).2.1 43 = zkdL.getD 43 0 ∧ (zs_165 L).2.2.1 43 = zlnL.getD 43 0 ∧ ∀ j, (zs_165 L).2.2.2 43 j = (zrfL.getD 43 []).getD j none := ⟨rfl, rfl, fun j => rfl⟩
set_option maxRecDepth 100000 in
theorem zsf_165_44 (L : Nat) : (zs_165 L).2.1 44 = zkdL.getD 44 0 ∧ (zs_165 L).2.2.1 44 = zlnL.getD 44 0 ∧ ∀ j, (zs_165 L).2.2.2 44 j = (zrfL.getD 44 []).getD j none := ⟨rfl, rfl, fun j => match j with
    | 0 => rfl
    | 1 => rfl
    | 2 => rfl
    | 3 => rfl
    | j + 4 => rfl⟩
set_option maxRecDepth 100000 in
theorem zsf_165_45 (L : Nat) : (zs_165 L).2.1 45 = zkdL.getD 45 0 ∧ (zs_165 L).2.2.1 45 = zlnL.getD 45 0 ∧ ∀ j, (zs_165 L).2.2.2 45 j = (zrfL.getD 45 []).getD j none := ⟨rfl, rfl, fun j => rfl⟩
set_option maxRecDepth 100000 in
theorem zsf_165_46 (L : Nat) : (zs_165 L).2.1 46 = zkdL.getD 46 0 ∧ (zs_165 L).2.2.1 46 = zlnL.getD 46 0 ∧ ∀ j, (zs_165 L).2.2.2 46 j = (zrfL.getD 46 []).getD j none := ⟨rfl, rfl, fun j => rfl⟩
set_option maxRecDepth 100000 in
theorem zsf_165_47 (L : Nat) : (zs_165 L).2.1 47 = zkdL.getD 47 0 ∧ (zs_165 L).2.2.1 47 = zlnL.getD 47 0 ∧ ∀ j, (zs_165 L).2.2.2 47 j = (zrfL.getD 47 []).getD j none := ⟨rfl, rfl, fun j => rfl⟩
set_option maxRecDepth 100000 in
theorem zsf_165_48 (L : Nat) : (zs_165 L).2.1 48 = zkdL.getD 48 0 ∧ (zs_165 L).2.2.1 48 = zlnL.getD 48 0 ∧ ∀ j, (zs_165 L).2.2.2 48 j = (zrfL.getD 48 []).getD j none := ⟨rfl, rfl, fun j => match j with
    | 0 => rfl
    | 1 => rfl
    | 2 => rfl
    | j + 3 => rfl⟩
set_option maxRecDepth 100000 in
theorem zsf_165_49 (L : Nat) : (zs_165 L).2.1 49 = zkdL.getD 49 0 ∧ (zs_165 L).2.2.1 49 = zlnL.getD 49 0 ∧ ∀ j, (zs_165 L).2.2.2 49 j = (zrfL.getD 49 []).getD j none := ⟨rfl, rfl, fun j => match j with
    | 0 => rfl
    | 1 => rfl
    | 2 => rfl
    | 3 => rfl
    | j + 4 => rfl⟩
set_option maxRecDepth 100000 in
theorem zsf_165_50 (L : Nat) : (zs_165 L).2.1 50 = zkdL.getD 50 0 ∧ (zs_165 L).2.2.1 50 = zlnL.getD 50 0 ∧ ∀ j, (zs_165 L).2.2.2 50 j = (zrfL.getD 50 []).getD j none := ⟨rfl, rfl, fun j => rfl⟩
set_option maxRecDepth 100000 in
theorem zsf_165_51 (L : Nat) : (zs_165 L).2.1 51 = zkdL.getD 51 0 ∧ (zs_165 L).2.2.1 51 = zlnL.getD 51 0 ∧ ∀ j, (zs_165 L).2.2.2 51 j = (zrfL.getD 51 []).getD j none := ⟨rfl, rfl, fun j => rfl⟩
set_option maxRecDepth 100000 in
theorem zsf_165_52 (L : Nat) : (zs_165 L).2.1 52 = zkdL.getD 52 0 ∧ (zs_165 L).2.2.1 52 = zlnL.getD 52 0 ∧ ∀ j, (zs_165 L).2.2.2 52 j = (zrfL.getD 52 []).getD j none := ⟨rfl, rfl, fun j => rfl⟩
set_option maxRecDepth 100000 in
theorem zsf_165_53 (L : Nat) : (zs_165 L).2.1 53 = zkdL.getD 53 0 ∧ (zs_165 L).2.2.1 53 = zlnL.getD 53 0 ∧ ∀ j, (zs_165 L).2.2.2 53 j = (zrfL.getD 53 []).getD j none := ⟨rfl, rfl, fun j => rfl⟩
set_option maxRecDepth 100000 in
theorem zsf_165_54 (L : Nat) : (zs_165 L).2.1 54 = zkdL.getD 54 0 ∧ (zs_165 L).2.2.1 54 = zlnL.getD 54 0 ∧ ∀ j, (zs_165 L).2.2.2 54 j = (zrfL.getD 54 []).getD j none := ⟨rfl, rfl, fun j => rfl⟩
set_option maxRecDepth 100000 in
theorem zsf_165_55 (L : Nat) : (zs_165 L).2.1 55 = zkdL.getD 55 0 ∧ (zs_165 L).2.2.1 55 = zlnL.getD 55 0 ∧ ∀ j, (zs_165 L).2.2.2 55 j = (zrfL.getD 55 []).getD j none := ⟨rfl, rfl, fun j => rfl⟩
set_option maxRecDepth 100000 in
theorem zsf_165_56 (L : Nat) : (zs_165 L).2.1 56 = zkdL.getD 56 0 ∧ (zs_165 L).2.2.1 56 = zlnL.getD 56 0 ∧ ∀ j, (zs_165 L).2.2.2 56 j = (zrfL.getD 56 []).getD j none := ⟨rfl, rfl, fun j => match j with
    | 0 => rfl
    | 1 => rfl
    | 2 => rfl
    | 3 => rfl
    | j + 4 => rfl⟩
set_option maxRecDepth 100000 in
theorem zsf_165_57 (L : Nat) : (zs_165 L).2.1 57 = zkdL.getD 57 0 ∧ (zs_165 L).2.2.1 57 = zlnL.getD 57 0 ∧ ∀ j, (zs_165 L).2.2.2 57 j = (zrfL.getD 57 []).getD j none := ⟨rfl, rfl, fun j => rfl⟩
set_option maxRecDepth 100000 in
theorem zsf_165_58 (L : Nat) : (zs_165 L).2.1 58 = zkdL.getD 58 0 ∧ (zs_165 L).2.2.1 58 = zlnL.getD 58 0 ∧ ∀ j, (zs_165 L).2.2.2 58 j = (zrfL.getD 58 []).getD j none := ⟨rfl, rfl, fun j => rfl⟩
set_option maxRecDepth 100000 in
theorem zsf_165_59 (L : Nat) : (zs_165 L).2.1 59 = zkdL.getD 59 0 ∧ (zs_165 L).2.2.1 59 = zlnL.getD 59 0 ∧ ∀ j, (zs_165 L).2.2.2 59 j = (zrfL.getD 59 []).getD j none := ⟨rfl, rfl, fun j => rfl⟩
set_option maxRecDepth 100000 in
theorem zsf_165_60 (L : Nat) : (zs_165 L).2.1 60 = zkdL.getD 60 0 ∧ (zs_165 L).2.2.1 60 = zlnL.getD 60 0 ∧ ∀ j, (zs_165 L).2.2.2 60 j = (zrfL.getD 60 []).getD j none := ⟨rfl, rfl, fun j => match j with
    | 0 => rfl
    | 1 => rfl
    | 2 => rfl
    | 3 => rfl
    | j + 4 => rfl⟩
set_option maxRecDepth 100000 in
theorem zsf_165_61 (L : Nat) : (zs_165 L).2.1 61 = zkdL.getD 61 0 ∧ (zs_165 L).2.2.1 61 = zlnL.getD 61 0 ∧ ∀ j, (zs_165 L).2.2.2 61 j = (zrfL.getD 61 []).getD j none := ⟨rfl, rfl, fun j => rfl⟩
set_option maxRecDepth 100000 in
theorem zsf_165_62 (L : Nat) : (zs_165 L).2.1 62 = zkdL.getD 62 0 ∧ (zs_165 L).2.2.1 62 = zlnL.getD 62 0 ∧ ∀ j, (zs_165 L).2.2.2 62 j = (zrfL.getD 62 []).getD j none := ⟨rfl, rfl, fun j => rfl⟩
set_option maxRecDepth 100000 in
theorem zsf_165_63 (L : Nat) : (zs_165 L).2.1 63 = zkdL.getD 63 0 ∧ (zs_165 L).2.2.1 63 = zlnL.getD 63 0 ∧ ∀ j, (zs_165 L).2.2.2 63 j = (zrfL.getD 63 []).getD j none := ⟨rfl, rfl, fun j => rfl⟩
set_option maxRecDepth 100000 in
theorem zsf_165_64 (L : Nat) : (zs_165 L).2.1 64 = zkdL.getD 64 0 ∧ (zs_165 L).2.2.1 64 = zlnL.getD 64 0 ∧ ∀ j, (zs_165 L).2.2.2 64 j = (zrfL.getD 64 []).getD j none := ⟨rfl, rfl, fun j => match j with
    | 0 => rfl
    | 1 => rfl
    | 2 => rfl
    | 3 => rfl
    | j + 4 => rfl⟩
set_option maxRecDepth 100000 in
theorem zsf_165_65 (L : Nat) : (zs_165 L).2.1 65 = zkdL.getD 65 0 ∧ (zs_165 L).2.2.1 65 = zlnL.getD 65 0 ∧ ∀ j, (zs_165 L).2.2.2 65 j = (zrfL.getD 65 []).getD j none := ⟨rfl, rfl, fun j => rfl⟩
set_option maxRecDepth 100000 in
theorem zsf_165_66 (L : Nat) : (zs_165 L).2.1 66 = zkdL.getD 66 0 ∧ (zs_165 L).2.2.1 66 = zlnL.getD 66 0 ∧ ∀ j, (zs_165 L).2.2.2 66 j = (zrfL.getD 66 []).getD j none := ⟨rfl, rfl, fun j => rfl⟩
set_option maxRecDepth 100000 in
theorem zsf_165_67 (L : Nat) : (zs_165 L).2.1 67 = zkdL.getD 67 0 ∧ (zs_165 L).2.2.1 67 = zlnL.getD 67 0 ∧ ∀ j, (zs_165 L).2.2.2 67 j = (zrfL.getD 67 []).getD j none := ⟨rfl, rfl, fun j => rfl⟩
set_option maxRecDepth 100000 in
theorem zsf_165_68 (L : Nat) : (zs_165 L).2.1 68 = zkdL.getD 68 0 ∧ (zs_165 L).2.2.1 68 = zlnL.getD 68 0 ∧ ∀ j, (zs_165 L).2.2.2 68 j = (zrfL.getD 68 []).getD j none := ⟨rfl, rfl, fun j => match j with
    | 0 => rfl
    | 1 => rfl
    | 2 => rfl
    | 3 => rfl
    | j + 4 => rfl⟩
set_option maxRecDepth 100000 in
theorem zsf_165_69 (L : Nat) : (zs_165 L).2.1 69 = zkdL.getD 69 0 ∧ (zs_165 L).2.2.1 69 = zlnL.getD 69 0 ∧ ∀ j, (zs_165 L).2.2.2 69 j = (zrfL.getD 69 []).getD j none := ⟨rfl, rfl, fun j => rfl⟩
set_option maxRecDepth 100000 in
theorem zsf_165_70 (L : Nat) : (zs_165 L).2.1 70 = zkdL.getD 70 0 ∧ (zs_165 L).2.2.1 70 = zlnL.getD 70 0 ∧ ∀ j, (zs_165 L).2.2.2 70 j = (zrfL.getD 70 []).getD j none := ⟨rfl, rfl, fun j => rfl⟩
set_option maxRecDepth 100000 in
theorem zsf_165_71 (L : Nat) : (zs_165 L).2.1 71 = zkdL.getD 71 0 ∧ (zs_165 L).2.2.1 71 = zlnL.getD 71 0 ∧ ∀ j, (zs_165 L).2.2.2 71 j = (zrfL.getD 71 []).getD j none := ⟨rfl, rfl, fun j => rfl⟩
set_option maxRecDepth 100000 in
theorem zsf_165_72 (L : Nat) : (zs_165 L).2.1 72 = zkdL.getD 72 0 ∧ (zs_165 L).2.2.1 72 = zlnL.getD 72 0 ∧ ∀ j, (zs_165 L).2.2.2 72 j = (zrfL.getD 72 []).getD j none := ⟨rfl, rfl, fun j => match j with
    | 0 => rfl
    | 1 => rfl
    | 2 => rfl
    | 3 => rfl
    | 4 => rfl
    | 5 => rfl
    | 6 => rfl
    | 7 => rfl
    | 8 => rfl
    | 9 => rfl
    | 10 => rfl
    | 11 => rfl
    | 12 => rfl
    | 13 => rfl
    | 14 => rfl
    | 15 => rfl
    | 16 => rfl
    | 17 => rfl
    | 18 => rfl
    | 19 => rfl
    | 20 => rfl
    | 21 => rfl
    | 22 => rfl
    | 23 => rfl
    | 24 => rfl
    | 25 => rfl
    | 26 => rfl
    | 27 => rfl
    | 28 => rfl
    | 29 => rfl
    | 30 => rfl
    | 31 => rfl
    | 32 => rfl
    | j + 33 => rfl⟩
set_option maxRecDepth 100000 in
theorem zsf_165_73 (L : Nat) : (zs_165 L).2.1 73 = zkdL.getD 73 0 ∧ (zs_165 L).2.2.1 73 = zlnL.getD 73 0 ∧ ∀ j, (zs_165 L).2.2.2 73 j = (zrfL.getD 73 []).getD j none := ⟨rfl, rfl, fun j => rfl⟩
set_option maxRecDepth 100000 in
theorem zsf_165_74 (L : Nat) : (zs_165 L).2.1 74 = zkdL.getD 74 0 ∧ (zs_165 L).2.2.1 74 = zlnL.getD 74 0 ∧ ∀ j, (zs_165 L).2.2.2 74 j = (zrfL.getD 74 []).getD j none := ⟨rfl, rfl, fun j => rfl⟩
set_option maxRecDepth 100000 in
theorem zsf_165_75 (L : Nat) : (zs_165 L).2.1 75 = zkdL.getD 75 0 ∧ (zs_165 L).2.2.1 75 = zlnL.getD 75 0 ∧ ∀ j, (zs_165 L).2.2.2 75 j = (zrfL.getD 75 []).getD j none := ⟨rfl, rfl, fun j => rfl⟩
set_option maxRecDepth 100000 in
theorem zsf_165_76 (L : Nat) : (zs_165 L).2.1 76 = zkdL.getD 76 0 ∧ (zs_165 L).2.2.1 76 = zlnL.getD 76 0 ∧ ∀ j, (zs_165 L).2.2.2 76 j = (zrfL.getD 76 []).getD j none := ⟨rfl, rfl, fun j => rfl⟩
set_option maxRecDepth 100000 in
theorem zsf_165_77 (L : Nat) : (zs_165 L).2.1 77 = zkdL.getD 77 0 ∧ (zs_165 L).2.2.1 77 = zlnL.getD 77 0 ∧ ∀ j, (zs_165 L).2.2.2 77 j = (zrfL.getD 77 []).getD j none := ⟨rfl, rfl, fun j => rfl⟩
set_option maxRecDepth 100000 in
theorem zsf_165_78 (L : Nat) : (zs_165 L).2.1 78 = zkdL.getD 78 0 ∧ (zs_165 L).2.2.1 78 = zlnL.getD 78 0 ∧ ∀ j, (zs_165 L).2.2.2 78 j = (zrfL.getD 78 []).getD j none := ⟨rfl, rfl, fun j => rfl⟩
set_option maxRecDepth 100000 in
theorem zsf_165_79 (L : Nat) : (zs_165 L).2.1 79 = zkdL.getD 79 0 ∧ (zs_165 L).2.2.1 79 = zlnL.getD 79 0 ∧ ∀ j, (zs_165 L).2.2.2 79 j = (zrfL.getD 79 []).getD j none := ⟨rfl, rfl, fun j => rfl⟩
set_option maxRecDepth 100000 in
theorem zsf_165_80 (L : Nat) : (zs_165 L).2.1 80 = zkdL.getD 80 0 ∧ (zs_165 L).2.2.1 80 = zlnL.getD 80 0 ∧ ∀ j, (zs_165 L).2.2.2 80 j = (zrfL.getD 80 []).getD j none := ⟨rfl, rfl, fun j => rfl⟩
set_option maxRecDepth 100000 in
theorem zsf_165_81 (L : Nat) : (zs_165 L).2.1 81 = zkdL.getD 81 0 ∧ (zs_165 L).2.2.1 81 = zlnL.getD 81 0 ∧ ∀ j, (zs_165 L).2.2.2 81 j = (zrfL.getD 81 []).getD j none := ⟨rfl, rfl, fun j => rfl⟩
set_option maxRecDepth 100000 in
theorem zsf_165_82 (L : Nat) : (zs_165 L).2.1 82 = zkdL.getD 82 0 ∧ (zs_165 L).2.2.1 82 = zlnL.getD 82 0 ∧ ∀ j, (zs_165 L).2.2.2 82 j = (zrfL.getD 82 []).getD j none := ⟨rfl, rfl, fun j => rfl⟩
set_option maxRecDepth 100000 in
theorem zsf_165_83 (L : Nat) : (zs_165 L).2.1 83 = zkdL.getD 83 0 ∧ (zs_165 L).2.2.1 83 = zlnL.getD 83 0 ∧ ∀ j, (zs_165 L).2.2.2 83 j = (zrfL.getD 83 []).getD j none := ⟨rfl, rfl, fun j => rfl⟩
set_option maxRecDepth 100000 in
theorem zsf_165_84 (L : Nat) : (zs_165 L).2.1 84 = zkdL.getD 84 0 ∧ (zs_165 L).2.2.1 84 = zlnL.getD 84 0 ∧ ∀ j, (zs_165 L).2.2.2 84 j = (zrfL.getD 84 []).getD j none := ⟨rfl, rfl, fun j => rfl⟩
set_option maxRecDepth 100000 in
theorem zsf_165_85 (L : Nat) : (zs_165 L).2.1 85 = zkdL.getD 85 0 ∧ (zs_165 L).2.2.1 85 = zlnL.getD 85 0 ∧ ∀ j, (zs_165 L).2.2.2 85 j = (zrfL.getD 85 []).getD j none := ⟨rfl, rfl, fun j => rfl⟩
set_option maxRecDepth 100000 in
theorem zsf_165_86 (L : Nat) : (zs_165 L).2.1 86 = zkdL.getD 86 0 ∧ (zs_165 L).2.2.1 86 = zlnL.getD 86 0 ∧ ∀ j, (zs_165 L).2.2.2 86 j = (zrfL.getD 86 []).getD j none := ⟨rfl, rfl, fun j => rfl⟩
set_option maxRecDepth 100000 in
theorem zsf_165_87 (L : Nat) : (zs_165 L).2.1 87 = zkdL.getD 87 0 ∧ (zs_165 L).2.2.1 87 = zlnL.getD 87 0 ∧ ∀ j, (zs_165 L).2.2.2 87 j = (zrfL.getD 87 []).getD j none := ⟨rfl, rfl, fun j => rfl⟩
set_option maxRecDepth 100000 in
theorem zsf_165_88 (L : Nat) : (zs_165 L).2.1 88 = zkdL.getD 88 0 ∧ (zs_165 L).2.2.1 88 = zlnL.getD 88 0 ∧ ∀ j, (zs_165 L).2.2.2 88 j = (zrfL.getD 88 []).getD j none := ⟨rfl, rfl, fun j => rfl⟩
set_option maxRecDepth 100000 in
theorem zsf_165_89 (L : Nat) : (zs_165 L).2.1 89 = zkdL.getD 89 0 ∧ (zs_165 L).2.2.1 89 = zlnL.getD 89 0 ∧ ∀ j, (zs_165 L).2.2.2 89 j = (zrfL.getD 89 []).getD j none := ⟨rfl, rfl, fun j => rfl⟩
set_option maxRecDepth 100000 in
theorem zsf_165_90 (L : Nat) : (zs_165 L).2.1 90 = zkdL.getD 90 0 ∧ (zs_165 L).2.2.1 90 = zlnL.getD 90 0 ∧ ∀ j, (zs_165 L).2.2.2 90 j = (zrfL.getD 90 []).getD j none := ⟨rfl, rfl, fun j => rfl⟩
set_option maxRecDepth 100000 in
theorem zsf_165_91 (L : Nat) : (zs_165 L).2.1 91 = zkdL.getD 91 0 ∧ (zs_165 L).2.2.1 91 = zlnL.getD 91 0 ∧ ∀ j, (zs_165 L).2.2.2 91 j = (zrfL.getD 91 []).getD j none := ⟨rfl, rfl, fun j => rfl⟩
set_option maxRecDepth 100000 in
theorem zsf_165_92 (L : Nat) : (zs_165 L).2.1 92 = zkdL.getD 92 0 ∧ (zs_165 L).2.2.1 92 = zlnL.getD 92 0 ∧ ∀ j, (zs_165 L).2.2.2 92 j = (zrfL.getD 92 []).getD j none := ⟨rfl, rfl, fun j => rfl⟩
set_option maxRecDepth 100000 in
theorem zsf_165_93 (L : Nat) : (zs_165 L).2.1 93 = zkdL.getD 93 0 ∧ (zs_165 L).2.2.1 93 = zlnL.getD 93 0 ∧ ∀ j, (zs_165 L).2.2.2 93 j = (zrfL.getD 93 []).getD j none := ⟨rfl, rfl, fun j => rfl⟩
set_option maxRecDepth 100000 in
theorem zsf_165_94 (L : Nat) : (zs_165 L).2.1 94 = zkdL.getD 94 0 ∧ (zs_165 L).2.2.1 94 = zlnL.getD 94 0 ∧ ∀ j, (zs_165 L).2.2.2 94 j = (zrfL.getD 94 []).getD j none := ⟨rfl, rfl, fun j => rfl⟩
set_option maxRecDepth 100000 in
theorem zsf_165_95 (L : Nat) : (zs_165 L).2.1 95 = zkdL.getD 95 0 ∧ (zs_165 L).2.2.1 95 = zlnL.getD 95 0 ∧ ∀ j, (zs_165 L).2.2.2 95 j = (zrfL.getD 95 []).getD j none := ⟨rfl, rfl, fun j => rfl⟩
theorem zsh_C1 (L : Nat) : zShC (zs_118 L) := by
  refine ⟨Nat.le_of_ble_eq_true rfl, fun a h1 h2 => ?_⟩
  by_cases e1 : a = 1
  · subst e1; exact zsf_118_1 L
  by_cases e2 : a = 2
  · subst e2; exact zsf_118_2 L
  by_cases e3 : a = 3
  · subst e3; exact zsf_118_3 L
  by_cases e4 : a = 4
  · subst e4; exact zsf_118_4 L
  by_cases e5 : a = 5
  · subst e5; exact zsf_118_5 L
  by_cases e6 : a = 6
  · subst e6; exact zsf_118_6 L
  by_cases e7 : a = 7
  · subst e7; exact zsf_118_7 L
  by_cases e8 : a = 8
  · subst e8; exact zsf_118_8 L
  by_cases e9 : a = 9
  · subst e9; exact zsf_118_9 L
  by_cases e10 : a = 10
  · subst e10; exact zsf_118_10 L
  by_cases e11 : a = 11
  · subst e11; exact zsf_118_11 L
  by_cases e12 : a = 12
  · subst e12; exact zsf_118_12 L
  by_cases e13 : a = 13
  · subst e13; exact zsf_118_13 L
  by_cases e14 : a = 14
  · subst e14; exact zsf_118_14 L
  by_cases e15 : a = 15
  · subst e15; exact zsf_118_15 L
  by_cases e16 : a = 16
  · subst e16; exact zsf_118_16 L
  by_cases e17 : a = 17
  · subst e17; exact zsf_118_17 L
  by_cases e18 : a = 18
  · subst e18; exact zsf_118_18 L
  by_cases e19 : a = 19
  · subst e19; exact zsf_118_19 L
  by_cases e20 : a = 20
  · subst e20; exact zsf_118_20 L
  by_cases e21 : a = 21
  · subst e21; exact zsf_118_21 L
  by_cases e22 : a = 22
  · subst e22; exact zsf_118_22 L
  by_cases e23 : a = 23
  · subst e23; exact zsf_118_23 L
  by_cases e24 : a = 24
  · subst e24; exact zsf_118_24 L
  by_cases e25 : a = 25
  · subst e25; exact zsf_118_25 L
  by_cases e26 : a = 26
  · subst e26; exact zsf_118_26 L
  by_cases e27 : a = 27
  · subst e27; exact zsf_118_27 L
  by_cases e28 : a = 28
  · subst e28; exact zsf_118_28 L
  by_cases e29 : a = 29
  · subst e29; exact zsf_118_29 L
  by_cases e30 : a = 30
  · subst e30; exact zsf_118_30 L
  by_cases e31 : a = 31
  · subst e31; exact zsf_118_31 L
  by_cases e32 : a = 32
  · subst e32; exact zsf_118_32 L
  by_cases e33 : a = 33
  · subst e33; exact zsf_118_33 L
  by_cases e34 : a = 34
  · subst e34; exact zsf_118_34 L
  by_cases e35 : a = 35
  · subst e35; exact zsf_118_35 L
  by_cases e36 : a = 36
  · subst e36; exact zsf_118_36 L
  by_cases e37 : a = 37
  · subst e37; exact zsf_118_37 L
  by_cases e38 : a = 38
  · subst e38; exact zsf_118_38 L
  by_cases e39 : a = 39
  · subst e39; exact zsf_118_39 L
  by_cases e40 : a = 40
  · subst e40; exact zsf_118_40 L
  by_cases e41 : a = 41
  · subst e41; exact zsf_118_41 L
  by_cases e42 : a = 42
  · subst e42; exact zsf_118_42 L
  by_cases e43 : a = 43
  · subst e43; exact zsf_118_43 L
  by_cases e44 : a = 44
  · subst e44; exact zsf_118_44 L
  by_cases e45 : a = 45
  · subst e45; exact zsf_118_45 L
  by_cases e46 : a = 46
  · subst e46; exact zsf_118_46 L
  by_cases e47 : a = 47
  · subst e47; exact zsf_118_47 L
  by_cases e48 : a = 48
  · subst e48; exact zsf_118_48 L
  by_cases e49 : a = 49
  · subst e49; exact zsf_118_49 L
  by_cases e50 : a = 50
  · subst e50; exact zsf_118_50 L
  by_cases e51 : a = 51
  · subst e51; exact zsf_118_51 L
  by_cases e52 : a = 52
  · subst e52; exact zsf_118_52 L
  by_cases e53 : a = 53
  · subst e53; exact zsf_118_53 L
  by_cases e54 : a = 54
  · subst e54; exact zsf_118_54 L
  by_cases e55 : a = 55
  · subst e55; exact zsf_118_55 L
  by_cases e56 : a = 56
  · subst e56; exact zsf_118_56 L
  by_cases e57 : a = 57
  · subst e57; exact zsf_118_57 L
  by_cases e58 : a = 58
  · subst e58; exact zsf_118_58 L
  by_cases e59 : a = 59
  · subst e59; exact zsf_118_59 L
  by_cases e60 : a = 60
  · subst e60; exact zsf_118_60 L
  by_cases e61 : a = 61
  · subst e61; exact zsf_118_61 L
  by_cases e62 : a = 62
  · subst e62; exact zsf_118_62 L
  by_cases e63 : a = 63
  · subst e63; exact zsf_118_63 L
  by_cases e64 : a = 64
  · subst e64; exact zsf_118_64 L
  by_cases e65 : a = 65
  · subst e65; exact zsf_118_65 L
  by_cases e66 : a = 66
  · subst e66; exact zsf_118_66 L
  by_cases e67 : a = 67
  · subst e67; exact zsf_118_67 L
  by_cases e68 : a = 68
  · subst e68; exact zsf_118_68 L
  by_cases e69 : a = 69
  · subst e69; exact zsf_118_69 L
  by_cases e70 : a = 70
  · subst e70; exact zsf_118_70 L
  by_cases e71 : a = 71
  · subst e71; exact zsf_118_71 L
  exact absurd h2 (by omega)
theorem zsh_C2 (L : Nat) : zShC (zs_165 L) := by
  refine ⟨Nat.le_of_ble_eq_true rfl, fun a h1 h2 => ?_⟩
  by_cases e1 : a = 1
  · subst e1; exact zsf_165_1 L
  by_cases e2 : a = 2
  · subst e2; exact zsf_165_2 L
  by_cases e3 : a = 3
  · subst e3; exact zsf_165_3 L
  by_cases e4 : a = 4
  · subst e4; exact zsf_165_4 L
  by_cases e5 : a = 5
  · subst e5; exact zsf_165_5 L
  by_cases e6 : a = 6
  · subst e6; exact zsf_165_6 L
  by_cases e7 : a = 7
  · subst e7; exact zsf_165_7 L
  by_cases e8 : a = 8
  · subst e8; exact zsf_165_8 L
  by_cases e9 : a = 9
  · subst e9; exact zsf_165_9 L
  by_cases e10 : a = 10
  · subst e10; exact zsf_165_10 L
  by_cases e11 : a = 11
  · subst e11; exact zsf_165_11 L
  by_cases e12 : a = 12
  · subst e12; exact zsf_165_12 L
  by_cases e13 : a = 13
  · subst e13; exact zsf_165_13 L
  by_cases e14 : a = 14
  · subst e14; exact zsf_165_14 L
  by_cases e15 : a = 15
  · subst e15; exact zsf_165_15 L
  by_cases e16 : a = 16
  · subst e16; exact zsf_165_16 L
  by_cases e17 : a = 17
  · subst e17; exact zsf_165_17 L
  by_cases e18 : a = 18
  · subst e18; exact zsf_165_18 L
  by_cases e19 : a = 19
  · subst e19; exact zsf_165_19 L
  by_cases e20 : a = 20
  · subst e20; exact zsf_165_20 L
  by_cases e21 : a = 21
  · subst e21; exact zsf_165_21 L
  by_cases e22 : a = 22
  · subst e22; exact zsf_165_22 L
  by_cases e23 : a = 23
  · subst e23; exact zsf_165_23 L
  by_cases e24 : a = 24
  · subst e24; exact zsf_165_24 L
  by_cases e25 : a = 25
  · subst e25; exact zsf_165_25 L
  by_cases e26 : a = 26
  · subst e26; exact zsf_165_26 L
  by_cases e27 : a = 27
  · subst e27; exact zsf_165_27 L
  by_cases e28 : a = 28
  · subst e28; exact zsf_165_28 L
  by_cases e29 : a = 29
  · subst e29; exact zsf_165_29 L
  by_cases e30 : a = 30
  · subst e30; exact zsf_165_30 L
  by_cases e31 : a = 31
  · subst e31; exact zsf_165_31 L
  by_cases e32 : a = 32
  · subst e32; exact zsf_165_32 L
  by_cases e33 : a = 33
  · subst e33; exact zsf_165_33 L
  by_cases e34 : a = 34
  · subst e34; exact zsf_165_34 L
  by_cases e35 : a = 35
  · subst e35; exact zsf_165_35 L
  by_cases e36 : a = 36
  · subst e36; exact zsf_165_36 L
  by_cases e37 : a = 37
  · subst e37; exact zsf_165_37 L
  by_cases e38 : a = 38
  · subst e38; exact zsf_165_38 L
  by_cases e39 : a = 39
  · subst e39; exact zsf_165_39 L
  by_cases e40 : a = 40
  · subst e40; exact zsf_165_40 L
  by_cases e41 : a = 41
  · subst e41; exact zsf_165_41 L
  by_cases e42 : a = 42
  · subst e42; exact zsf_165_42 L
  by_cases e43 : a = 43
  · subst e43; exact zsf_165_43 L
  by_cases e44 : a = 44
  · subst e44; exact zsf_165_44 L
  by_cases e45 : a = 45
  · subst e45; exact zsf_165_45 L
  by_cases e46 : a = 46
  · subst e46; exact zsf_165_46 L
  by_cases e47 : a = 47
  · subst e47; exact zsf_165_47 L
  by_cases e48 : a = 48
  · subst e48; exact zsf_165_48 L
  by_cases e49 : a = 49
  · subst e49; exact zsf_165_49 L
  by_cases e50 : a = 50
  · subst e50; exact zsf_165_50 L
  by_cases e51 : a = 51
  · subst e51; exact zsf_165_51 L
  by_cases e52 : a = 52
  · subst e52; exact zsf_165_52 L
  by_cases e53 : a = 53
  · subst e53; exact zsf_165_53 L
  by_cases e54 : a = 54
  · subst e54; exact zsf_165_54 L
  by_cases e55 : a = 55
  · subst e55; exact zsf_165_55 L
  by_cases e56 : a = 56
  · subst e56; exact zsf_165_56 L
  by_cases e57 : a = 57
  · subst e57; exact zsf_165_57 L
  by_cases e58 : a = 58
  · subst e58; exact zsf_165_58 L
  by_cases e59 : a = 59
  · subst e59; exact zsf_165_59 L
  by_cases e60 : a = 60
  · subst e60; exact zsf_165_60 L
  by_cases e61 : a = 61
  · subst e61; exact zsf_165_61 L
  by_cases e62 : a = 62
  · subst e62; exact zsf_165_62 L
  by_cases e63 : a = 63
  · subst e63; exact zsf_165_63 L
  by_cases e64 : a = 64
  · subst e64; exact zsf_165_64 L
  by_cases e65 : a = 65
  · subst e65; exact zsf_165_65 L
  by_cases e66 : a = 66
  · subst e66; exact zsf_165_66 L
  by_cases e67 : a = 67
  · subst e67; exact zsf_165_67 L
  by_cases e68 : a = 68
  · subst e68; exact zsf_165_68 L
  by_cases e69 : a = 69
  · subst e69; exact zsf_165_69 L
  by_cases e70 : a = 70
  · subst e70; exact zsf_165_70 L
  by_cases e71 : a = 71
  · subst e71; exact zsf_165_71 L
  exact absurd h2 (by omega)
theorem zsh_M2 (L : Nat) : zShM (zs_165 L) := by
  refine ⟨Nat.le_of_ble_eq_true rfl, fun a h1 h2 => ?_⟩
  by_cases e72 : a = 72
  · subst e72; exact zsf_165_72 L
  by_cases e73 : a = 73
  · subst e73; exact zsf_165_73 L
  by_cases e74 : a = 74
  · subst e74; exact zsf_165_74 L
  by_cases e75 : a = 75
  · subst e75; exact zsf_165_75 L
  by_cases e76 : a = 76
  · subst e76; exact zsf_165_76 L
  by_cases e77 : a = 77
  · subst e77; exact zsf_165_77 L
  by_cases e78 : a = 78
  · subst e78; exact zsf_165_78 L
  by_cases e79 : a = 79
  · subst e79; exact zsf_165_79 L
  by_cases e80 : a = 80
  · subst e80; exact zsf_165_80 L
  by_cases e81 : a = 81
  · subst e81; exact zsf_165_81 L
  by_cases e82 : a = 82
  · subst e82; exact zsf_165_82 L
  by_cases e83 : a = 83
  · subst e83; exact zsf_165_83 L
  by_cases e84 : a = 84
  · subst e84; exact zsf_165_84 L
  by_cases e85 : a = 85
  · subst e85; exact zsf_165_85 L
  by_cases e86 : a = 86
  · subst e86; exact zsf_165_86 L
  by_cases e87 : a = 87
  · subst e87; exact zsf_165_87 L
  by_cases e88 : a = 88
  · subst e88; exact zsf_165_88 L
  by_cases e89 : a = 89
  · subst e89; exact zsf_165_89 L
  by_cases e90 : a = 90
  · subst e90; exact zsf_165_90 L
  by_cases e91 : a = 91
  · subst e91; exact zsf_165_91 L
  by_cases e92 : a = 92
  · subst e92; exact zsf_165_92 L
  by_cases e93 : a = 93
  · subst e93; exact zsf_165_93 L
  by_cases e94 : a = 94
  · subst e94; exact zsf_165_94 L
  by_cases e95 : a = 95
  · subst e95; exact zsf_165_95 L
  exact absurd h2 (by omega)
set_option maxRecDepth 100000 in
theorem zsf_L (L : Nat) : (((zs_165 L).2.2.1 0 : Nat) : Int) = (L : Int) := rfl
set_option maxRecDepth 100000 in
theorem zsf_room (L : Nat) : (zs_165 L).1 = (96, 2389) := rfl

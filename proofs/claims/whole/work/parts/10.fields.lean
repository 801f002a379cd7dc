/-! Facts of the classes: the words of their fields by place; what each field is. -/
theorem zuw_0 : (u_ws (zKd 0).1 (zKd 0).2.1 (zKd 0).2.2).map some = [257, 259, 261].map (fun i => lw_tbl[i]?) := by decide +kernel
theorem zuw_1 : (u_ws (zKd 1).1 (zKd 1).2.1 (zKd 1).2.2).map some = [201, 203, 205, 207, 209, 211, 213, 215, 217].map (fun i => lw_tbl[i]?) := by decide +kernel
theorem zuw_2 : (u_ws (zKd 2).1 (zKd 2).2.1 (zKd 2).2.2).map some = [282, 284, 286, 288].map (fun i => lw_tbl[i]?) := by decide +kernel
theorem zuw_3 : (u_ws (zKd 3).1 (zKd 3).2.1 (zKd 3).2.2).map some = [234, 236, 238, 240, 242].map (fun i => lw_tbl[i]?) := by decide +kernel
theorem zuw_4 : (u_ws (zKd 4).1 (zKd 4).2.1 (zKd 4).2.2).map some = [159, 161, 163, 165, 167, 169, 171, 173, 175, 177, 179, 181].map (fun i => lw_tbl[i]?) := by decide +kernel
theorem zuw_5 : (u_ws (zKd 5).1 (zKd 5).2.1 (zKd 5).2.2).map some = [103, 105, 107, 109, 111].map (fun i => lw_tbl[i]?) := by decide +kernel
theorem zuw_6 : (u_ws (zKd 6).1 (zKd 6).2.1 (zKd 6).2.2).map some = [356, 358, 360, 362, 364, 366, 368, 370, 372].map (fun i => lw_tbl[i]?) := by decide +kernel
theorem zuw_7 : (u_ws (zKd 7).1 (zKd 7).2.1 (zKd 7).2.2).map some = [781, 783, 785, 787, 789, 791, 793, 795, 797, 799, 801, 803, 805, 807, 809, 811, 813, 815, 817, 819, 821, 823, 825, 827, 829, 831, 833, 835, 837, 839, 841, 843, 845, 847].map (fun i => lw_tbl[i]?) := by decide +kernel
theorem zuw_of {ws : List Cond} {ps : List Nat} (h : ws.map some = ps.map (fun i => lw_tbl[i]?)) (hg : ws.all goodWord = true) : ∀ w ∈ ws, w ∈ zW := by
  intro w hw
  have h1 : some w ∈ ws.map some := List.mem_map.mpr ⟨w, hw, rfl⟩
  rw [h] at h1
  obtain ⟨i, -, hi⟩ := List.mem_map.mp h1
  exact zW_of i hi (List.all_eq_true.mp hg w hw)
theorem zuw : ∀ x, x < 8 → ∀ w ∈ u_ws (zKd x).1 (zKd x).2.1 (zKd x).2.2, w ∈ zW := lt_s (lt_s (lt_s (lt_s (lt_s (lt_s (lt_s (lt_s (lt_0) (zuw_of zuw_0 (by decide +kernel))) (zuw_of zuw_1 (by decide +kernel))) (zuw_of zuw_2 (by decide +kernel))) (zuw_of zuw_3 (by decide +kernel))) (zuw_of zuw_4 (by decide +kernel))) (zuw_of zuw_5 (by decide +kernel))) (zuw_of zuw_6 (by decide +kernel))) (zuw_of zuw_7 (by decide +kernel))
def zTyp (x : Nat) : Nat → FieldType := match x with
  | 0 => zY0
  | 1 => zY1
  | 2 => zY2
  | 3 => zY3
  | 4 => zY4
  | 5 => zY5
  | 6 => zY6
  | _ => zY7
theorem zTo : ∀ x, x < 8 → ∀ y, y < (zKd x).2.2 → ((zKd x).2.1 y).1 = (zKd x).1 := by decide +kernel
theorem zTp : ∀ x, x < 8 → ∀ y, y < (zKd x).2.2 → parseFieldDescriptor ((zKd x).2.1 y).2.2.1 = some (zTyp x y) := by decide +kernel
theorem zTn : ∀ x, x < 8 → ∀ i, i < (zKd x).2.2 → ∀ j, j < (zKd x).2.2 → i ≠ j → ((zKd x).2.1 i).2.1 ≠ ((zKd x).2.1 j).2.1 := by decide +kernel
theorem zTi : ∀ x, x < 8 → ∀ y, y < (zKd x).2.2 → zRf x y = false → zTyp x y = .int := by decide +kernel
theorem zTr : ∀ x, x < 8 → ∀ y, y < (zKd x).2.2 → zRf x y = true → (zTyp x y).isReference = true := by decide +kernel
theorem zTf : ∀ x, x < 8 → ∀ y, y < (zKd x).2.2 → ((zKd x).2.1 y).2.2.2 = zFn x y := by decide +kernel
theorem zKd_at : ∀ x, x < 8 → zCl[x]? = some (zKd x) := lt_s (lt_s (lt_s (lt_s (lt_s (lt_s (lt_s (lt_s (lt_0) rfl) rfl) rfl) rfl) rfl) rfl) rfl) rfl

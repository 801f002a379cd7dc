/-! What each return gives, and the checks by method -/
def zrw (q : ZM) (ins : Instr) : Bool := match ins with
  | .ireturn => decide (q.2.2.2.1 = some .int ∨ q.2.2.2.1 = some .boolean)
  | .lreturn => decide (q.2.2.2.1 = some .long)
  | .return_ => decide (q.2.2.2.1 = none)
  | _ => true
theorem zrw_all : (zM.zip zCode).all (fun q => q.2.all (fun e => zrw q.1 e.2.1)) = true := by decide +kernel
theorem zCode_len : zCode.length = 174 := by decide +kernel
theorem zrw_at : ∀ M, M < 174 → ∀ e ∈ zCode.getD M [], zrw (zM.getD M zM0) e.2.1 = true := by
  intro M hM e he
  have h1 : M < zM.length := by rw [zM_len]; exact hM
  have h2 : M < zCode.length := by rw [zCode_len]; exact hM
  have h3 : (zM.zip zCode)[M]? = some (zM.getD M zM0, zCode.getD M []) := by
    rw [List.getElem?_zip_eq_some]
    rw [List.getD_eq_getElem?_getD, List.getD_eq_getElem?_getD, List.getElem?_eq_getElem h1, List.getElem?_eq_getElem h2]
    exact ⟨rfl, rfl⟩
  exact List.all_eq_true.mp (List.all_eq_true.mp zrw_all _ (List.mem_of_getElem? h3)) e he
theorem zcw_at : ∀ M, ∀ e ∈ zCode.getD M [], zcw e = true := by
  intro M e he
  by_cases h2 : M < zCode.length
  · rw [List.getD_eq_getElem?_getD, List.getElem?_eq_getElem h2] at he
    exact List.all_eq_true.mp (List.all_eq_true.mp zcw_all _ (List.getElem_mem h2)) e he
  · rw [List.getD_eq_getElem?_getD, List.getElem?_eq_none (by omega)] at he
    cases he
theorem zmkd_all : (List.range 173).all (fun M => !decide (zmkd M < 8) || decide ((zM.getD M zM0).1.cls = (zKd (zmkd M)).1)) = true := by decide +kernel
theorem zmkd_at (M : Nat) (hM : M < 173) (h : zmkd M < 8) : (zM.getD M zM0).1.cls = (zKd (zmkd M)).1 := by
  have h1 := List.all_eq_true.mp zmkd_all M (List.mem_range.mpr hM)
  simp only [h, decide_true, Bool.not_true, Bool.false_or] at h1
  exact of_decide_eq_true h1

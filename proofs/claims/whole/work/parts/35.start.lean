/-! what stands at the law's entry -/
theorem wIn_0 : wAll_0.all (fun w => decide (w ∈ lw_tbl)) = true := by decide +kernel
theorem wIn_1 : wAll_1.all (fun w => decide (w ∈ lw_tbl)) = true := by decide +kernel
theorem wIn_2 : wAll_2.all (fun w => decide (w ∈ lw_tbl)) = true := by decide +kernel
theorem wIn_3 : wAll_3.all (fun w => decide (w ∈ lw_tbl)) = true := by decide +kernel
theorem wIn_4 : wAll_4.all (fun w => decide (w ∈ lw_tbl)) = true := by decide +kernel
theorem wIn_5 : wAll_5.all (fun w => decide (w ∈ lw_tbl)) = true := by decide +kernel
theorem wIn_6 : wAll_6.all (fun w => decide (w ∈ lw_tbl)) = true := by decide +kernel
theorem wIn_7 : wAll_7.all (fun w => decide (w ∈ lw_tbl)) = true := by decide +kernel
theorem wIn_8 : wAll_8.all (fun w => decide (w ∈ lw_tbl)) = true := by decide +kernel
theorem wIn_9 : wAll_9.all (fun w => decide (w ∈ lw_tbl)) = true := by decide +kernel
theorem wIn_10 : wAll_10.all (fun w => decide (w ∈ lw_tbl)) = true := by decide +kernel
theorem wIn_11 : wAll_11.all (fun w => decide (w ∈ lw_tbl)) = true := by decide +kernel
theorem wIn_12 : wAll_12.all (fun w => decide (w ∈ lw_tbl)) = true := by decide +kernel
theorem wIn_13 : wAll_13.all (fun w => decide (w ∈ lw_tbl)) = true := by decide +kernel
theorem wIn_14 : wAll_14.all (fun w => decide (w ∈ lw_tbl)) = true := by decide +kernel
theorem wIn_15 : wAll_15.all (fun w => decide (w ∈ lw_tbl)) = true := by decide +kernel
theorem wIn_16 : wAll_16.all (fun w => decide (w ∈ lw_tbl)) = true := by decide +kernel
theorem wIn_17 : wAll_17.all (fun w => decide (w ∈ lw_tbl)) = true := by decide +kernel
theorem wIn_18 : wAll_18.all (fun w => decide (w ∈ lw_tbl)) = true := by decide +kernel
theorem wIn_19 : wAll_19.all (fun w => decide (w ∈ lw_tbl)) = true := by decide +kernel
theorem wIn_20 : wAll_20.all (fun w => decide (w ∈ lw_tbl)) = true := by decide +kernel
theorem wIn_21 : wAll_21.all (fun w => decide (w ∈ lw_tbl)) = true := by decide +kernel
theorem wIn_l : wLay.all (fun w => decide (w ∈ lw_tbl)) = true := by decide +kernel
theorem wIn_e : wExc.all (fun w => decide (w ∈ lw_tbl)) = true := by decide +kernel
theorem wIn_of {L : List Cond} (h : L.all (fun w => decide (w ∈ lw_tbl)) = true) : ∀ w ∈ L, w ∈ lw_tbl := fun w hw => of_decide_eq_true (List.all_eq_true.mp h w hw)
theorem wIn_all : ∀ w ∈ wAll, w ∈ lw_tbl := List.forall_mem_append.mpr ⟨wIn_of wIn_0, List.forall_mem_append.mpr ⟨wIn_of wIn_1, List.forall_mem_append.mpr ⟨wIn_of wIn_2, List.forall_mem_append.mpr ⟨wIn_of wIn_3, List.forall_mem_append.mpr ⟨wIn_of wIn_4, List.forall_mem_append.mpr ⟨wIn_of wIn_5, List.forall_mem_append.mpr ⟨wIn_of wIn_6, List.forall_mem_append.mpr ⟨wIn_of wIn_7, List.forall_mem_append.mpr ⟨wIn_of wIn_8, List.forall_mem_append.mpr ⟨wIn_of wIn_9, List.forall_mem_append.mpr ⟨wIn_of wIn_10, List.forall_mem_append.mpr ⟨wIn_of wIn_11, List.forall_mem_append.mpr ⟨wIn_of wIn_12, List.forall_mem_append.mpr ⟨wIn_of wIn_13, List.forall_mem_append.mpr ⟨wIn_of wIn_14, List.forall_mem_append.mpr ⟨wIn_of wIn_15, List.forall_mem_append.mpr ⟨wIn_of wIn_16, List.forall_mem_append.mpr ⟨wIn_of wIn_17, List.forall_mem_append.mpr ⟨wIn_of wIn_18, List.forall_mem_append.mpr ⟨wIn_of wIn_19, List.forall_mem_append.mpr ⟨wIn_of wIn_20, wIn_of wIn_21⟩⟩⟩⟩⟩⟩⟩⟩⟩⟩⟩⟩⟩⟩⟩⟩⟩⟩⟩⟩⟩
theorem wWords_in : ∀ w ∈ wWords, w ∈ lw_tbl := List.forall_mem_append.mpr ⟨wIn_all, List.forall_mem_append.mpr ⟨wIn_of wIn_l, wIn_of wIn_e⟩⟩
theorem wInst_in : ∀ q ∈ vwCl, Cond.instantiable q.1 q.2.2 ∈ lw_tbl := by
  have h : vwCl.all (fun q => decide (Cond.instantiable q.1 q.2.2 ∈ lw_tbl)) = true := by decide +kernel
  exact fun w hw => of_decide_eq_true (List.all_eq_true.mp h w hw)
theorem wStr_in : ∀ q ∈ wStrs, Cond.stringRef RX9 q.1 q.2 ∈ lw_tbl ∧ Cond.exactly (.string RX9 q.1) "java/lang/String" ∈ flatC (Jvm.Cond.and given_1 narrow_1) := by
  have h : wStrs.all (fun q => decide (Cond.stringRef RX9 q.1 q.2 ∈ lw_tbl) && decide (Cond.exactly (.string RX9 q.1) "java/lang/String" ∈ flatC (Jvm.Cond.and given_1 narrow_1))) = true := by decide +kernel
  intro q hq
  have h1 := List.all_eq_true.mp h q hq
  rw [Bool.and_eq_true] at h1
  exact ⟨of_decide_eq_true h1.1, of_decide_eq_true h1.2⟩
theorem wNc_in : ∀ q ∈ wNcs, Cond.not (.castable q.1 q.2) ∈ flatC (Jvm.Cond.and given_1 narrow_1) := by
  have h : wNcs.all (fun q => decide (Cond.not (.castable q.1 q.2) ∈ flatC (Jvm.Cond.and given_1 narrow_1))) = true := by decide +kernel
  exact fun w hw => of_decide_eq_true (List.all_eq_true.mp h w hw)

theorem wLay_in : ∀ (c : Nat) (q : vw_C), vwCl[c]? = some q → ∀ w ∈ u_ws q.1 q.2.1 q.2.2, w ∈ lw_tbl := fun c q hq w hw => wWords_in w (List.mem_append_right _ (List.mem_append_left _ (List.mem_flatMap.mpr ⟨q, List.mem_of_getElem? hq, hw⟩)))
theorem wG1 : Cond.isRef (.static "java/util/ArrayList" "DEFAULTCAPACITY_EMPTY_ELEMENTDATA" "[Ljava/lang/Object;") ∈ flatC (Jvm.Cond.and given_1 narrow_1) := by decide +kernel
theorem wG2 : Cond.arrayOf (.static "java/util/ArrayList" "DEFAULTCAPACITY_EMPTY_ELEMENTDATA" "[Ljava/lang/Object;") (.object "java/lang/Object") ∈ flatC (Jvm.Cond.and given_1 narrow_1) := by decide +kernel
theorem wG3 : Cond.eq (.length (.static "java/util/ArrayList" "DEFAULTCAPACITY_EMPTY_ELEMENTDATA" "[Ljava/lang/Object;")) (.int 0) ∈ flatC (Jvm.Cond.and given_1 narrow_1) := by decide +kernel
theorem wG4 : Cond.isRef (.static "java/lang/Throwable" "UNASSIGNED_STACK" "[Ljava/lang/StackTraceElement;") ∈ flatC (Jvm.Cond.and given_1 narrow_1) := by decide +kernel
theorem wG5 : Cond.isRef (.static "java/lang/Throwable" "SUPPRESSED_SENTINEL" "Ljava/util/List;") ∈ flatC (Jvm.Cond.and given_1 narrow_1) := by decide +kernel
theorem wG6 : Cond.isRef (.mirror "[Ljava/lang/Object;") ∈ flatC (Jvm.Cond.and given_1 narrow_1) := by decide +kernel
theorem wT1 : Cond.laysStatic "java/util/ArrayList" "DEFAULTCAPACITY_EMPTY_ELEMENTDATA" "[Ljava/lang/Object;" ∈ lw_tbl := by decide +kernel
theorem wT2 : Cond.laysStatic "java/lang/Throwable" "UNASSIGNED_STACK" "[Ljava/lang/StackTraceElement;" ∈ lw_tbl := by decide +kernel
theorem wT3 : Cond.laysStatic "java/lang/Throwable" "SUPPRESSED_SENTINEL" "Ljava/util/List;" ∈ lw_tbl := by decide +kernel
theorem wT4 : Cond.initialized "java/util/ArrayList" ∈ lw_tbl ∧ Cond.initialized "java/lang/Throwable" ∈ lw_tbl := by decide +kernel
theorem wT5 : Cond.arrayClass .int ∈ lw_tbl ∧ Cond.arrayClass .boolean ∈ lw_tbl ∧ Cond.arrayClass .long ∈ lw_tbl ∧ Cond.arrayOver (.object "java/lang/Object") ∈ lw_tbl := by decide +kernel
theorem wT6 : Cond.castable RX4 "java/lang/Object" ∈ lw_tbl ∧ Cond.declares ⟨"java/lang/Object", "getClass", "()Ljava/lang/Class;"⟩ ∈ lw_tbl ∧ Cond.castable "java/lang/IllegalArgumentException" "java/lang/IllegalArgumentException" ∈ lw_tbl ∧ Cond.castable "java/lang/IllegalStateException" "java/lang/IllegalStateException" ∈ lw_tbl ∧ Cond.castable "java/lang/IndexOutOfBoundsException" "java/lang/IndexOutOfBoundsException" ∈ lw_tbl := by decide +kernel
/-- an array's class -/
theorem wArr1 {args : Array Value} {s : State} {ty : FieldType} (h : (Cond.arrayClass ty).before args s = true) (hb : ty = .int ∨ ty = .boolean ∨ ty = .long) : ∃ cA : Nat, ArrOfT s cA ty ∧ va_RA s cA ty := by
  obtain ⟨c, k, comp, h1, h2, h3⟩ := Cond.arrayClass_spec h
  refine ⟨c, fun n z => ⟨fun k h => ?_, k, h2, comp, h3⟩, ?_⟩
  · cases h
  · rcases hb with rfl | rfl | rfl <;> exact h1
theorem wArr2 {args : Array Value} {s : State} {C : String} (h : (Cond.arrayOver (.object C)).before args s = true) : ∃ cA : Nat, ArrOfT s cA (.object C) ∧ va_RA s cA (.object C) := by
  obtain ⟨comp, c, k, h1, h2, h3, h4, h5⟩ := Cond.arrayOver_spec h
  exact ⟨c, fun n z => ⟨fun k h => (by cases h), k, h3, comp, h4⟩, k, comp, h3, h4, h1, h5⟩
theorem wKnow {args : Array Value} {s : State} (hts : ∀ w ∈ lw_tbl, w.before args s = true) (arrs : Nat → Nat) (h0 : ArrOfT s (arrs 0) .int ∧ va_RA s (arrs 0) .int) (h1 : ArrOfT s (arrs 1) .boolean ∧ va_RA s (arrs 1) .boolean) (h2 : ArrOfT s (arrs 2) (.object "java/lang/Object") ∧ va_RA s (arrs 2) (.object "java/lang/Object")) (h3 : ArrOfT s (arrs 3) .long ∧ va_RA s (arrs 3) .long) : ∃ D : va_G, va_K D vwCl (wTy arrs) s := by
  have hx : ∀ c : Nat, ∃ x : ClassId × (Nat → Nat), ∀ q, vwCl[c]? = some q → u_Kn s q.1 q.2.1 q.2.2 x.1 x.2 := by
    intro c
    cases hq : vwCl[c]? with
    | none => exact ⟨(0, fun _ => 0), fun q h => by cases h⟩
    | some q =>
      obtain ⟨cC, iS, hk⟩ := u_known hts (wLay_in c q hq) (hts _ (wInst_in q (List.mem_of_getElem? hq)))
      exact ⟨(cC, iS), fun q' h => by cases h; exact hk⟩
  obtain ⟨D0, hD⟩ := Classical.axiomOfChoice hx
  refine ⟨(fun c => (D0 c).1, fun c => (D0 c).2), fun c q hq => hD c q hq, fun k q hq => ?_⟩
  match k, hq with
  | 0, hq => cases hq; exact h0
  | 1, hq => cases hq; exact h1
  | 2, hq => cases hq; exact h2
  | 3, hq => cases hq; exact h3
  | k + 4, hq => cases hq
theorem w_start {p : Program} {s : State} {m : MethodId} {meth : Method} {c : Code} {l : Launch} {b L : Nat} {xs : Nat → Int32} (hflags : l.flags = flags0) (C0 : lw_At p s m meth c b L xs) : ∃ (D : va_G) (cy : Nat → Nat), wCx p l s m #[Value.ref b] c meth code 7 RL D cy (fun q => s.heap.size ≤ q) := by
  obtain ⟨hx, hb, hr, hml, hown, hts, hX, hbl, hlk, hgv⟩ := C0
  have hs := flat_of_before _ hgv
  have hA : ∀ a : Nat, a < s.heap.size → ¬ (s.heap.size ≤ a) := fun a h1 h2 => by omega
  obtain ⟨a0, k0⟩ := wArr1 (hts _ wT5.1) (Or.inl rfl)
  obtain ⟨a1, k1⟩ := wArr1 (hts _ wT5.2.1) (Or.inr (Or.inl rfl))
  obtain ⟨a2, k2⟩ := wArr2 (hts _ wT5.2.2.2)
  obtain ⟨a3, k3⟩ := wArr1 (hts _ wT5.2.2.1) (Or.inr (Or.inr rfl))
  have hlen : (Term.length (.static "java/util/ArrayList" "DEFAULTCAPACITY_EMPTY_ELEMENTDATA" "[Ljava/lang/Object;")).eval #[Value.ref b] s none [] s = some (.int (Int32.ofNat 0)) := Cond.eq_int (hs _ wG3) rfl
  obtain ⟨t9, ht9, hT9⟩ := va_Tof (N := 0) (f := fun _ => .null) (A := fun q => s.heap.size ≤ q) (by decide) (hs _ wG2) hlen (fun j hj => absurd hj (Nat.not_lt_zero j)) hA
  obtain ⟨mi, hmi⟩ := va_Mi.of (hs _ wG6)
  obtain ⟨D, hK⟩ := wKnow hts (fun i => match i with | 0 => a0 | 1 => a1 | 2 => a2 | 3 => a3 | 8 => mi | _ => t9) k0 k1 k2 k3
  have hE : wE D (fun i => match i with | 0 => a0 | 1 => a1 | 2 => a2 | 3 => a3 | 8 => mi | _ => t9) (fun q => s.heap.size ≤ q) s s.heap := by
    refine ⟨hK, fun w hw => ?_, fun q hq => ?_, fun q hq => va_Nc.of (hs _ (wNc_in q hq)), vx_Zqof (hts _ wT2) (hts _ wT4.2) (hs _ wG4) hA, vx_Zqof (hts _ wT3) (hts _ wT4.2) (hs _ wG5) hA, va_Zof (hts _ wT1) (hts _ wT4.1) ht9 hA, hT9, hmi, fun ty hty => ?_, hts _ wT5.2.2.2, va_Nw.of rfl (hts _ wT6.1), va_Dc.of (hts _ wT6.2.1), va_Nw.of rfl (hts _ wT6.2.2.1), va_Nw.of rfl (hts _ wT6.2.2.2.1), va_Nw.of rfl (hts _ wT6.2.2.2.2)⟩
    · have hk := List.all_eq_true.mp wWords_ok w hw
      rw [Bool.and_eq_true] at hk
      exact va_Nw.of hk.2 (hts w (wWords_in w hw))
    · obtain ⟨a, c9, cell, k9, h9, -⟩ := Cond.exactly_spec (hs _ (wStr_in q hq).2)
      exact ⟨a, vk_R.of (A := #[Value.ref b]) (hts _ (wStr_in q hq).1) h9⟩
    · rcases hty with rfl | rfl | rfl
      · exact hts _ wT5.1
      · exact hts _ wT5.2.1
      · exact hts _ wT5.2.2.1
  have hfl : l.stackTraces = false := by
    unfold Launch.stackTraces
    rw [hflags]
    decide +kernel
  exact ⟨D, _, hx, hb, hml, hown, fun w hw => hts w (wWords_in w hw), hE, fun q h => h, hlk, hfl⟩

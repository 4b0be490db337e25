/-! the list of the library: reading -/
theorem zi_lt {i n : Int32} (h0 : ¬ i < 0) (h : i < n) : i.toNatClampNeg < n.toNatClampNeg := by
  rw [Int32.lt_iff_toInt_lt] at *
  have h9 : (0 : Int32).toInt = 0 := rfl
  show i.toInt.toNat < n.toInt.toNat
  omega
theorem c_Jsize {l : Launch} {D : va_G} {cy : Nat → Nat} {g : Nat → Nat} {N : Nat} {X : Nat → Nat → Int32} (hfl : l.stackTraces = false) (hN : 47 ≤ N) : sRi l D cy yJx4a65c_size_8abf5 cJx4a65c_size_8abf5 1 (some .int) 0 [.ref (g 4)] g N X (X 4 2) := by
  refine jRi (own := RJx4a65c) (by decide) rfl hfl (Nat.le_of_ble_eq_true rfl) rfl ?_
  intro p e R s m args below meth c ls A Q hRe C hw hl hret
  subst hRe
  have hx := C.1
  have hb := C.2.1
  have hl : lv_has ls 1 [(0, .ref (g 4))] := hl
  refine lv_aload_n hx hb dJx4a65c_size_8abf5_0 rfl (lv_at hl 0 rfl) ?_
  refine w_get C hw (k := 4) (v := .int (X 4 2)) (j := 2) (q47 hN rfl) (sh_4 g cy _) rfl (by decide) k30 rfl dJx4a65c_size_8abf5_1 ?_
  exact hret 4 ls _ rfl dJx4a65c_size_8abf5_4
theorem c_J3 {l : Launch} {D : va_G} {cy : Nat → Nat} {g : Nat → Nat} {N : Nat} {X : Nat → Nat → Int32} {zi zn : Int32} (hfl : l.stackTraces = false) (hi : ¬ zi < 0) (hn : zi < zn) : sRi l D cy yJ3_checkIndex_8e157 cJ3_checkIndex_8e157 3 (some .int) 0 [.int zi, .int zn, .null] g N X zi := by
  refine jRi (own := RJ3) (by decide) rfl hfl (Nat.le_of_ble_eq_true rfl) rfl ?_
  intro p e R s m args below meth c ls A Q hRe C hw hl hret
  subst hRe
  have hx := C.1
  have hb := C.2.1
  have hl : lv_has ls 3 [(0, .int zi), (1, .int zn), (2, .null)] := hl
  refine lv_iload_n hx hb dJ3_checkIndex_8e157_0 rfl (lv_at hl 0 rfl) ?_
  refine lv_if_lt (tgt := 9) hx hb dJ3_checkIndex_8e157_1 (by decide) (fun cz => absurd cz hi) (fun _ => ?_)
  refine lv_iload_n hx hb dJ3_checkIndex_8e157_4 rfl (lv_at hl 0 rfl) ?_
  refine lv_iload_n hx hb dJ3_checkIndex_8e157_5 rfl (lv_at hl 1 rfl) ?_
  refine lv_icmp_lt (tgt := 16) hx hb dJ3_checkIndex_8e157_6 (by decide) (fun _ => ?_) (fun cz => absurd hn cz)
  refine lv_iload_n hx hb dJ3_checkIndex_8e157_16 rfl (lv_at hl 0 rfl) ?_
  exact hret 17 ls _ rfl dJ3_checkIndex_8e157_17
theorem c_J15 {l : Launch} {D : va_G} {cy : Nat → Nat} {g : Nat → Nat} {N : Nat} {X : Nat → Nat → Int32} {zi zn : Int32} (hfl : l.stackTraces = false) (hi : ¬ zi < 0) (hn : zi < zn) : sRi l D cy yJ15_checkIndex_7cf53 cJ15_checkIndex_7cf53 2 (some .int) 1 [.int zi, .int zn] g N X zi := by
  refine jRi (own := RJ15) (by decide) rfl hfl (Nat.le_of_ble_eq_true rfl) rfl ?_
  intro p e R s m args below meth c ls A Q hRe C hw hl hret
  subst hRe
  have hx := C.1
  have hb := C.2.1
  have hl : lv_has ls 2 [(0, .int zi), (1, .int zn)] := hl
  refine lv_iload_n hx hb dJ15_checkIndex_7cf53_0 rfl (lv_at hl 0 rfl) ?_
  refine lv_iload_n hx hb dJ15_checkIndex_7cf53_1 rfl (lv_at hl 1 rfl) ?_
  refine lv_null hx hb dJ15_checkIndex_7cf53_2 ?_
  refine s_sRi C hw (r0 := zi) (As := [.int zi, .int zn, .null]) bJ3_checkIndex_8e157 k39 (c_J3 (X := X) hfl hi hn) rfl rfl dJ15_checkIndex_7cf53_3 ⟨rfl, rfl⟩ (by decide) hl.1 (Nat.le_of_ble_eq_true rfl) ⟨Nat.le_of_ble_eq_true rfl, Nat.le_of_ble_eq_true rfl⟩ ?_
  exact hret 6 ls _ rfl dJ15_checkIndex_7cf53_6
theorem aid_in {sz i : Int32} (h0 : ¬ i < 0) (h1 : i < sz) : aid sz i = rid i.toNatClampNeg := by
  have h2 : ¬ sz ≤ i := by rw [Int32.le_iff_toInt_le]; rw [Int32.lt_iff_toInt_lt] at h1; omega
  unfold aid
  rw [if_neg h0, if_neg h2]
theorem c_Jelem {l : Launch} {D : va_G} {cy : Nat → Nat} {g : Nat → Nat} {N : Nat} {X RR : Nat → Nat → Int32} {zi : Int32} (hfl : l.stackTraces = false) (hX : rok X RR N) (hi : ¬ zi < 0) (hn : zi < RR 4 2) : sRr l D cy yJx4a65c_elementData_915e3 cJx4a65c_elementData_915e3 2 (some (.object "java/lang/Object")) 0 [.ref (g 4), .int zi] g N X (rid zi.toNatClampNeg) := by
  obtain ⟨hN, hs, h12, hs0, -, h48, h59, hfl1⟩ := hX
  have hlt := zi_lt hi hn
  refine iRr (own := RJx4a65c) (by decide) rfl hfl (Nat.le_of_ble_eq_true rfl) ?_
  intro p e s m below meth c ls C hr hw hl
  have hx := C.1
  have hb := C.2.1
  have hl : lv_has ls 2 [(0, .ref (g 4)), (1, .int zi)] := hl
  refine lv_aload_n hx hb dJx4a65c_elementData_915e3_0 rfl (lv_at hl 0 rfl) ?_
  refine w_get C hw (k := 4) (v := .ref (wElem cy g (X 4 2))) (j := 1) (q47 hN rfl) (sh_4 g cy _) rfl (by decide) k43 rfl dJx4a65c_elementData_915e3_1 ?_
  refine lv_iload_n hx hb dJx4a65c_elementData_915e3_4 rfl (lv_at hl 1 rfl) ?_
  have hne : ¬ RR 4 2 = 0 := fun h => by rw [h] at hn; exact hi hn
  have hflag := hfl1 _ hlt
  rw [hs]
  by_cases h10 : RR 4 2 ≤ 10
  · rw [if_pos h10] at hflag
    have hlt10 : zi.toNatClampNeg < 10 := by
      have h9 : (10 : Int32).toInt = 10 := rfl
      rw [Int32.le_iff_toInt_le, h9] at h10
      have h8 : zi.toInt.toNat < (RR 4 2).toInt.toNat := hlt
      show zi.toInt.toNat < 10
      omega
    have hwe : wElem cy g (RR 4 2) = g 48 := by unfold wElem; rw [if_neg hne, if_pos h10]
    rw [hwe]
    refine va_aldq C.1 C.2.1 C.2.2.2.2.2.1.1 hw.1 48 2 (n := 10) (f := fun j => if X 48 j = 0 then none else some (g (rid j))) (by rw [wd_get (h48 hne)]; rfl) rfl (fun h => h.elim hi (fun h => Nat.not_lt.mpr h hlt10)) dJx4a65c_elementData_915e3_5 ?_
    have hv : va_rf ((fun j => if X 48 j = 0 then none else some (g (rid j))) zi.toNatClampNeg) = .ref (g (rid zi.toNatClampNeg)) := by
      show va_rf (if X 48 zi.toNatClampNeg = 0 then none else _) = _
      rw [if_neg (by rw [hflag]; decide)]
      rfl
    rw [hv]
    exact eRr C hr rfl dJx4a65c_elementData_915e3_6
  · rw [if_neg h10] at hflag
    have hwe : wElem cy g (RR 4 2) = g 59 := by unfold wElem; rw [if_neg hne, if_neg h10]
    rw [hwe]
    refine va_aldq C.1 C.2.1 C.2.2.2.2.2.1.1 hw.1 59 2 (n := 15) (f := fun j => if X 59 j = 0 then none else some (g (rid j))) (by rw [wd_get (h59 h10)]; rfl) rfl (fun h => h.elim hi (fun h => by omega)) dJx4a65c_elementData_915e3_5 ?_
    have hv : va_rf ((fun j => if X 59 j = 0 then none else some (g (rid j))) zi.toNatClampNeg) = .ref (g (rid zi.toNatClampNeg)) := by
      show va_rf (if X 59 zi.toNatClampNeg = 0 then none else _) = _
      rw [if_neg (by rw [hflag]; decide)]
      rfl
    rw [hv]
    exact eRr C hr rfl dJx4a65c_elementData_915e3_6
theorem c_Jget {l : Launch} {D : va_G} {cy : Nat → Nat} {g : Nat → Nat} {N : Nat} {X RR : Nat → Nat → Int32} {zi : Int32} (hfl : l.stackTraces = false) (hX : rok X RR N) (hi : ¬ zi < 0) (hn : zi < RR 4 2) : sRr l D cy yJx4a65c_get_915e3 cJx4a65c_get_915e3 2 (some (.object "java/lang/Object")) 2 [.ref (g 4), .int zi] g N X (rid zi.toNatClampNeg) := by
  have hN := hX.1
  have hs := hX.2.1
  refine iRr (own := RJx4a65c) (by decide) rfl hfl (Nat.le_of_ble_eq_true rfl) ?_
  intro p e s m below meth c ls C hr hw hl
  have hx := C.1
  have hb := C.2.1
  have hl : lv_has ls 2 [(0, .ref (g 4)), (1, .int zi)] := hl
  refine lv_iload_n hx hb dJx4a65c_get_915e3_0 rfl (lv_at hl 1 rfl) ?_
  refine lv_aload_n hx hb dJx4a65c_get_915e3_1 rfl (lv_at hl 0 rfl) ?_
  refine w_get C hw (k := 4) (v := .int (X 4 2)) (j := 2) (q47 hN rfl) (sh_4 g cy _) rfl (by decide) k30 rfl dJx4a65c_get_915e3_2 ?_
  refine s_sRi C hw (r0 := zi) (As := [.int zi, .int (X 4 2)]) bJ15_checkIndex_7cf53 k45 (c_J15 (X := X) hfl hi (by rw [hs]; exact hn)) rfl rfl dJx4a65c_get_915e3_5 ⟨rfl, rfl⟩ (by decide) hl.1 (Nat.le_of_ble_eq_true rfl) ⟨Nat.le_of_ble_eq_true rfl, Nat.le_of_ble_eq_true rfl⟩ ?_
  refine lv_pop hx hb dJx4a65c_get_915e3_8 rfl ?_
  refine lv_aload_n hx hb dJx4a65c_get_915e3_9 rfl (lv_at hl 0 rfl) ?_
  refine lv_iload_n hx hb dJx4a65c_get_915e3_10 rfl (lv_at hl 1 rfl) ?_
  refine s_vRr C hw (r0 := rid zi.toNatClampNeg) (As := [.int zi]) bJx4a65c_elementData_915e3 k48 (k := 4) (q47 hN rfl) (sh_4 g cy _) rfl (c_Jelem (X := X) hfl hX hi hn) rfl rfl dJx4a65c_get_915e3_11 ⟨rfl, rfl⟩ (by decide) hl.1 (Nat.le_of_ble_eq_true rfl) (by decide) ?_
  exact eRr C hr rfl dJx4a65c_get_915e3_14
def m_X5_size (F : Nat) (r4 : Nat → Int32) : Option Int32 := some (r4 2)
theorem c_X5_size {l : Launch} {D : va_G} {cy : Nat → Nat} {g : Nat → Nat} {N : Nat} {X : Nat → Nat → Int32} {F : Nat} {R0 : Int32} (hfl : l.stackTraces = false) (hN : 47 ≤ N) (hinv : m_X5_size F (X 4) = some R0) : sRi l D cy yX5_size cX5_size 1 (some .int) 1 [.ref (g 3)] g N X R0 := by
  refine jRi (own := RX5) (by decide) rfl hfl (Nat.le_of_ble_eq_true rfl) rfl ?_
  intro p e R s m args below meth c ls A Q hRe C hw hl hret
  subst hRe
  have hx := C.1
  have hb := C.2.1
  have hl : lv_has ls 1 [(0, .ref (g 3))] := hl
  refine lv_aload_n hx hb dX5_size_0 rfl (lv_at hl 0 rfl) ?_
  refine w_get C hw (k := 3) (v := .ref (g 4)) (j := 0) (q47 hN rfl) (sh_3 g cy _) rfl (by decide) k32 rfl dX5_size_1 ?_
  refine s_vRi C hw (r0 := X 4 2) (As := []) bJx4a65c_size_8abf5 k33 (k := 4) (q47 hN rfl) (sh_4 g cy _) rfl (c_Jsize (X := X) hfl hN) rfl rfl dX5_size_4 ⟨rfl, rfl⟩ (by decide) hl.1 (Nat.le_of_ble_eq_true rfl) ⟨Nat.le_of_ble_eq_true rfl, Nat.le_of_ble_eq_true rfl⟩ ?_
  exact hret 7 ls _ (Option.some.inj hinv) dX5_size_7
theorem c_X5_at {l : Launch} {D : va_G} {cy : Nat → Nat} {g : Nat → Nat} {N : Nat} {X RR : Nat → Nat → Int32} {a1 : Int32} (hfl : l.stackTraces = false) (hX : rok X RR N) : sRr l D cy yX5_at cX5_at 2 (some (.object "RuleArguments$Rule")) 3 [.ref (g 3), .int a1] g N X (aid (RR 4 2) a1) := by
  have hN := hX.1
  have hs := hX.2.1
  refine iRr (own := RX5) (by decide) rfl hfl (Nat.le_of_ble_eq_true rfl) ?_
  intro p e s m below meth c ls C hr hw hl
  have hx := C.1
  have hb := C.2.1
  have hl : lv_has ls 2 [(0, .ref (g 3)), (1, .int a1)] := hl
  refine lv_iload_n hx hb dX5_at_0 rfl (lv_at hl 1 rfl) ?_
  refine lv_if_lt (tgt := 29) hx hb dX5_at_1 (by decide) (fun cz => ?_) (fun cz => ?_)
  · refine lv_aload_n hx hb dX5_at_29 rfl (lv_at hl 0 rfl) ?_
    refine w_get C hw (k := 3) (v := .ref (g 5)) (j := 1) (q47 hN rfl) (sh_3 g cy _) rfl (by decide) k52 rfl dX5_at_30 ?_
    exact eRr C hr (by unfold aid; rw [if_pos cz]) dX5_at_33
  · refine lv_iload_n hx hb dX5_at_4 rfl (lv_at hl 1 rfl) ?_
    refine lv_aload_n hx hb dX5_at_5 rfl (lv_at hl 0 rfl) ?_
    refine w_get C hw (k := 3) (v := .ref (g 4)) (j := 0) (q47 hN rfl) (sh_3 g cy _) rfl (by decide) k32 rfl dX5_at_6 ?_
    refine s_vRi C hw (r0 := X 4 2) (As := []) bJx4a65c_size_8abf5 k33 (k := 4) (q47 hN rfl) (sh_4 g cy _) rfl (c_Jsize (X := X) hfl hN) rfl rfl dX5_at_9 ⟨rfl, rfl⟩ (by decide) hl.1 (Nat.le_of_ble_eq_true rfl) ⟨Nat.le_of_ble_eq_true rfl, Nat.le_of_ble_eq_true rfl⟩ ?_
    refine lv_icmp_ge (tgt := 29) hx hb dX5_at_12 (by decide) (fun cy9 => ?_) (fun cy9 => ?_)
    · refine lv_aload_n hx hb dX5_at_29 rfl (lv_at hl 0 rfl) ?_
      refine w_get C hw (k := 3) (v := .ref (g 5)) (j := 1) (q47 hN rfl) (sh_3 g cy _) rfl (by decide) k52 rfl dX5_at_30 ?_
      exact eRr C hr (by unfold aid; rw [if_neg cz, if_pos (by rw [← hs]; exact cy9)]) dX5_at_33
    · have hn : a1 < RR 4 2 := by rw [← hs]; rw [Int32.le_iff_toInt_le] at cy9; rw [Int32.lt_iff_toInt_lt]; omega
      refine lv_aload_n hx hb dX5_at_15 rfl (lv_at hl 0 rfl) ?_
      refine w_get C hw (k := 3) (v := .ref (g 4)) (j := 0) (q47 hN rfl) (sh_3 g cy _) rfl (by decide) k32 rfl dX5_at_16 ?_
      refine lv_iload_n hx hb dX5_at_19 rfl (lv_at hl 1 rfl) ?_
      refine s_vRr C hw (r0 := rid a1.toNatClampNeg) (As := [.int a1]) bJx4a65c_get_915e3 k53 (k := 4) (q47 hN rfl) (sh_4 g cy _) rfl (c_Jget (X := X) hfl hX cz hn) rfl rfl dX5_at_20 ⟨rfl, rfl⟩ (by decide) hl.1 (Nat.le_of_ble_eq_true rfl) (by decide) ?_
      have hrk := hX.2.2.2.2.1 a1
      rw [aid_in cz hn] at hrk
      refine va_castS C.1 C.2.1 C.2.2.2.1 (C.w k174) (C.2.2.2.2.2.1.1.1 5 _ rfl).2 (w_recv C hw (k := rid a1.toNatClampNeg) hrk.2.1 (sh_rl g cy (rid_rl _) _) rfl) dX5_at_23 ?_
      refine lv_goto (tgt := 33) hx hb dX5_at_26 (by decide) ?_
      exact eRr C hr (aid_in cz hn).symm dX5_at_33

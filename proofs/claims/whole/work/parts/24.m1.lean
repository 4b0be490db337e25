def m_X10_thrown (F : Nat) (r29 : Nat → Int32) : Option (Int32) := some (r29 0)
set_option maxHeartbeats 4000000 in
set_option maxRecDepth 100000 in
theorem c_X10_thrown {l : Launch} {D : va_G} {cy : Nat → Nat} {g : Nat → Nat} {N : Nat} {X : Nat → Nat → Int32} {F : Nat} {R0 : Int32} (hfl : l.stackTraces = false) (hN : 47 ≤ N) (hinv : m_X10_thrown F (X 29) = some R0) : sRi l D cy yX10_thrown cX10_thrown 1 (some .int) 0 [.ref (g 29)] g N X R0 := by
  refine jRi (own := RX10) (by decide) rfl hfl (Nat.le_of_ble_eq_true rfl) rfl ?_
  intro p e R s m args below meth c ls A Q hRe C hw hl hret
  subst hRe
  have hx := C.1
  have hb := C.2.1
  have hl : lv_has ls 1 [(0, .ref (g 29))] := hl
  rw [m_X10_thrown] at hinv
  refine lv_aload_n hx hb dX10_thrown_0 rfl (lv_at hl 0 rfl) ?_
  refine w_get C hw (k := 29) (v := .int ((X 29) 0)) (j := 0) (q47 hN rfl) (sh_29 g cy _) rfl (by decide) k486 rfl dX10_thrown_1 ?_
  exact hret 4 ls ((X 29) 0) (Option.some.inj hinv) dX10_thrown_4
def m_X10_isLiteral (F : Nat) (za0 : Int32) : Option (Int32) := if za0 = 0 then (some (0 : Int32)) else (if za0 < (-10) then (some (0 : Int32)) else (if 10 < za0 then (some (0 : Int32)) else (some (1 : Int32))))
set_option maxHeartbeats 4000000 in
set_option maxRecDepth 100000 in
theorem c_X10_isLiteral {l : Launch} {D : va_G} {cy : Nat → Nat} {g : Nat → Nat} {N : Nat} {X : Nat → Nat → Int32} {F : Nat} {za0 : Int32} {R0 : Int32} (hfl : l.stackTraces = false) (hN : 47 ≤ N) (hinv : m_X10_isLiteral F za0 = some R0) : sRi l D cy yX10_isLiteral cX10_isLiteral 1 (some .boolean) 0 [.int za0] g N X R0 := by
  refine jRz (own := RX10) (by decide) rfl hfl (Nat.le_of_ble_eq_true rfl) rfl ?_
  intro p e R s m args below meth c ls A Q hRe C hw hl hret
  subst hRe
  have hx := C.1
  have hb := C.2.1
  have hl : lv_has ls 1 [(0, .int za0)] := hl
  rw [m_X10_isLiteral] at hinv
  refine lv_iload_n hx hb dX10_isLiteral_0 rfl (lv_at hl 0 rfl) ?_
  refine lv_if_eq (tgt := 20) hx hb dX10_isLiteral_1 (by decide) (fun c_1 => ?_) (fun c_1 => ?_)
  · have hinv := oi_t c_1 hinv
    refine lv_iconst (v := 0) hx hb dX10_isLiteral_20 (by decide) ?_
    exact hret 21 ls 0 (Option.some.inj hinv) (by decide) dX10_isLiteral_21
  · have hinv := oi_f c_1 hinv
    refine lv_iload_n hx hb dX10_isLiteral_4 rfl (lv_at hl 0 rfl) ?_
    refine lv_bipush (v := (-10)) hx hb dX10_isLiteral_5 (by decide) ?_
    refine lv_icmp_lt (tgt := 20) hx hb dX10_isLiteral_7 (by decide) (fun c_7 => ?_) (fun c_7 => ?_)
    · have hinv := oi_t c_7 hinv
      refine lv_iconst (v := 0) hx hb dX10_isLiteral_20 (by decide) ?_
      exact hret 21 ls 0 (Option.some.inj hinv) (by decide) dX10_isLiteral_21
    · have hinv := oi_f c_7 hinv
      refine lv_iload_n hx hb dX10_isLiteral_10 rfl (lv_at hl 0 rfl) ?_
      refine lv_bipush (v := 10) hx hb dX10_isLiteral_11 (by decide) ?_
      refine lv_icmp_gt (tgt := 20) hx hb dX10_isLiteral_13 (by decide) (fun c_13 => ?_) (fun c_13 => ?_)
      · have hinv := oi_t c_13 hinv
        refine lv_iconst (v := 0) hx hb dX10_isLiteral_20 (by decide) ?_
        exact hret 21 ls 0 (Option.some.inj hinv) (by decide) dX10_isLiteral_21
      · have hinv := oi_f c_13 hinv
        refine lv_iconst (v := 1) hx hb dX10_isLiteral_16 (by decide) ?_
        refine lv_goto (tgt := 21) hx hb dX10_isLiteral_17 (by decide) ?_
        exact hret 21 ls 1 (Option.some.inj hinv) (by decide) dX10_isLiteral_21
def m_X10_isLiteralOrNone (F : Nat) (za0 : Int32) : Option (Int32) := if za0 < (-10) then (some (0 : Int32)) else (if 10 < za0 then (some (0 : Int32)) else (some (1 : Int32)))
set_option maxHeartbeats 4000000 in
set_option maxRecDepth 100000 in
theorem c_X10_isLiteralOrNone {l : Launch} {D : va_G} {cy : Nat → Nat} {g : Nat → Nat} {N : Nat} {X : Nat → Nat → Int32} {F : Nat} {za0 : Int32} {R0 : Int32} (hfl : l.stackTraces = false) (hN : 47 ≤ N) (hinv : m_X10_isLiteralOrNone F za0 = some R0) : sRi l D cy yX10_isLiteralOrNone cX10_isLiteralOrNone 1 (some .boolean) 0 [.int za0] g N X R0 := by
  refine jRz (own := RX10) (by decide) rfl hfl (Nat.le_of_ble_eq_true rfl) rfl ?_
  intro p e R s m args below meth c ls A Q hRe C hw hl hret
  subst hRe
  have hx := C.1
  have hb := C.2.1
  have hl : lv_has ls 1 [(0, .int za0)] := hl
  rw [m_X10_isLiteralOrNone] at hinv
  refine lv_iload_n hx hb dX10_isLiteralOrNone_0 rfl (lv_at hl 0 rfl) ?_
  refine lv_bipush (v := (-10)) hx hb dX10_isLiteralOrNone_1 (by decide) ?_
  refine lv_icmp_lt (tgt := 16) hx hb dX10_isLiteralOrNone_3 (by decide) (fun c_3 => ?_) (fun c_3 => ?_)
  · have hinv := oi_t c_3 hinv
    refine lv_iconst (v := 0) hx hb dX10_isLiteralOrNone_16 (by decide) ?_
    exact hret 17 ls 0 (Option.some.inj hinv) (by decide) dX10_isLiteralOrNone_17
  · have hinv := oi_f c_3 hinv
    refine lv_iload_n hx hb dX10_isLiteralOrNone_6 rfl (lv_at hl 0 rfl) ?_
    refine lv_bipush (v := 10) hx hb dX10_isLiteralOrNone_7 (by decide) ?_
    refine lv_icmp_gt (tgt := 16) hx hb dX10_isLiteralOrNone_9 (by decide) (fun c_9 => ?_) (fun c_9 => ?_)
    · have hinv := oi_t c_9 hinv
      refine lv_iconst (v := 0) hx hb dX10_isLiteralOrNone_16 (by decide) ?_
      exact hret 17 ls 0 (Option.some.inj hinv) (by decide) dX10_isLiteralOrNone_17
    · have hinv := oi_f c_9 hinv
      refine lv_iconst (v := 1) hx hb dX10_isLiteralOrNone_12 (by decide) ?_
      refine lv_goto (tgt := 17) hx hb dX10_isLiteralOrNone_13 (by decide) ?_
      exact hret 17 ls 1 (Option.some.inj hinv) (by decide) dX10_isLiteralOrNone_17
def m_X10_passes (F : Nat) (r29 : Nat → Int32) (za1 : Int32) : Option (Int32 × (Nat → Int32)) := if za1 = 0 then (some (1, (upd r29 0 za1))) else (some (0, (upd r29 0 za1)))
set_option maxHeartbeats 4000000 in
set_option maxRecDepth 100000 in
theorem c_X10_passes {l : Launch} {D : va_G} {cy : Nat → Nat} {g : Nat → Nat} {N : Nat} {X : Nat → Nat → Int32} {F : Nat} {za1 : Int32} {R0 : Int32 × (Nat → Int32)} (hfl : l.stackTraces = false) (hN : 47 ≤ N) (hinv : m_X10_passes F (X 29) za1 = some R0) : sWi l D cy yX10_passes cX10_passes 2 (some .boolean) 0 0 0 [.ref (g 29), .int za1] g N X R0.1 (up X 29 R0.2) := by
  refine jWz (own := RX10) (by decide) rfl hfl (Nat.le_of_ble_eq_true rfl) rfl ?_
  intro p e R s m args below meth c ls A Q hRe C hw hl hret
  subst hRe
  have hx := C.1
  have hb := C.2.1
  have hl : lv_has ls 2 [(0, .ref (g 29)), (1, .int za1)] := hl
  rw [m_X10_passes] at hinv
  refine lv_aload_n hx hb dX10_passes_0 rfl (lv_at hl 0 rfl) ?_
  refine lv_iload_n hx hb dX10_passes_1 rfl (lv_at hl 1 rfl) ?_
  refine s_put C hw (k := 29) (row := (upd (X 29) 0 za1)) (ty := tyX10) (v := .int za1) (j := 0) (q47 hN rfl) (sh_29 g cy _) rfl tyX10_ok nmX10 (by decide) k486 rfl rfl rfl (Nat.le_of_ble_eq_true rfl) (sh_29 g cy _) dX10_passes_2 (fun H locs hw => ?_)
  refine lv_iload_n hx hb dX10_passes_5 rfl (lv_at hl 1 rfl) ?_
  refine lv_if_ne (tgt := 13) hx hb dX10_passes_6 (by decide) (fun c_6 => ?_) (fun c_6 => ?_)
  · have hinv := oi_f c_6 hinv
    refine lv_iconst (v := 0) hx hb dX10_passes_13 (by decide) ?_
    have hR0 := (Option.some.inj hinv).symm
    subst hR0
    exact hret 14 ls 0 _ _ _ _ rfl (by decide) hw (by decide) (by decide) dX10_passes_14
  · have hinv := oi_t c_6 hinv
    refine lv_iconst (v := 1) hx hb dX10_passes_9 (by decide) ?_
    refine lv_goto (tgt := 14) hx hb dX10_passes_10 (by decide) ?_
    have hR0 := (Option.some.inj hinv).symm
    subst hR0
    exact hret 14 ls 1 _ _ _ _ rfl (by decide) hw (by decide) (by decide) dX10_passes_14
def m_X10_factsNow_L4 (F : Nat) (r30 : Nat → Int32) : Nat → Int32 → Int32 → Option (Int32)
  | 0, _, _ => none
  | n + 1, x2_4, x1_4 => if 21 ≤ x2_4 then (some x1_4) else (if ¬ (x2_4 < 0 ∨ 21 ≤ x2_4.toNatClampNeg) then (if (r30 x2_4.toNatClampNeg) = 0 then (m_X10_factsNow_L4 F r30 n (x2_4 + 1) (x1_4 + 0)) else (m_X10_factsNow_L4 F r30 n (x2_4 + 1) (x1_4 + 1))) else none)
def m_X10_factsNow (F : Nat) (r30 : Nat → Int32) : Option (Int32) := m_X10_factsNow_L4 F r30 F 0 0
set_option maxHeartbeats 4000000 in
set_option maxRecDepth 100000 in
theorem c_X10_factsNow {l : Launch} {D : va_G} {cy : Nat → Nat} {g : Nat → Nat} {N : Nat} {X : Nat → Nat → Int32} {F : Nat} {R0 : Int32} (hfl : l.stackTraces = false) (hN : 47 ≤ N) (hinv : m_X10_factsNow F (X 30) = some R0) : sRi l D cy yX10_factsNow cX10_factsNow 3 (some .int) 0 [.ref (g 29)] g N X R0 := by
  refine jRi (own := RX10) (by decide) rfl hfl (Nat.le_of_ble_eq_true rfl) rfl ?_
  intro p e R s m args below meth c ls A Q hRe C hw hl hret
  subst hRe
  have hx := C.1
  have hb := C.2.1
  have hl : lv_has ls 3 [(0, .ref (g 29))] := hl
  rw [m_X10_factsNow] at hinv
  refine lv_iconst (v := 0) hx hb dX10_factsNow_0 (by decide) ?_
  refine lv_istore_n (lv' := [(1, .int 0), (0, .ref (g 29))]) hx hb dX10_factsNow_1 rfl hl (by decide) rfl (fun ls hl => ?_)
  refine lv_iconst (v := 0) hx hb dX10_factsNow_2 (by decide) ?_
  refine lv_istore_n (lv' := [(2, .int 0), (1, .int 0), (0, .ref (g 29))]) hx hb dX10_factsNow_3 rfl hl (by decide) rfl (fun ls hl => ?_)
  have hl4 : ∀ (n : Nat) (x2_4 : Int32) (x1_4 : Int32), m_X10_factsNow_L4 F (X 30) n x2_4 x1_4 = some R0 → ∀ (ls : Array Slot), lv_has ls 3 [(2, .int x2_4), (1, .int x1_4), (0, .ref (g 29))] → W p l e (wR 0 0 0) s m args below meth c s.heap [] 0 0 Q (F0 m 4 ls []) := by
    intro n
    induction n with
    | zero =>
      intro x2_4 x1_4 hinv
      cases hinv
    | succ n ih =>
      intro x2_4 x1_4 hinv ls hl
      rw [m_X10_factsNow_L4] at hinv
      refine lv_iload_n hx hb dX10_factsNow_4 rfl (lv_at hl 0 rfl) ?_
      refine lv_bipush (v := 21) hx hb dX10_factsNow_5 (by decide) ?_
      refine lv_icmp_ge (tgt := 33) hx hb dX10_factsNow_7 (by decide) (fun c_7 => ?_) (fun c_7 => ?_)
      · have hinv := oi_t c_7 hinv
        refine lv_iload_n hx hb dX10_factsNow_33 rfl (lv_at hl 1 rfl) ?_
        exact hret 34 ls x1_4 (Option.some.inj hinv) dX10_factsNow_34
      · have hinv := oi_f c_7 hinv
        refine lv_iload_n hx hb dX10_factsNow_10 rfl (lv_at hl 1 rfl) ?_
        refine lv_aload_n hx hb dX10_factsNow_11 rfl (lv_at hl 2 rfl) ?_
        refine w_get C hw (k := 29) (v := .ref (g 30)) (j := 1) (q47 hN rfl) (sh_29 g cy _) rfl (by decide) k469 rfl dX10_factsNow_12 ?_
        refine lv_iload_n hx hb dX10_factsNow_15 rfl (lv_at hl 0 rfl) ?_
        obtain ⟨hb_16, hinv⟩ := oi_c hinv
        refine s_zald C hw (k := 30) (a := (X 30)) (q47 hN rfl) (fun r => sh_30 g cy r) rfl hb_16 dX10_factsNow_16 ?_
        refine lv_if_eq (tgt := 24) hx hb dX10_factsNow_17 (by decide) (fun c_17 => ?_) (fun c_17 => ?_)
        · have hinv := oi_t c_17 hinv
          refine lv_iconst (v := 0) hx hb dX10_factsNow_24 (by decide) ?_
          refine lv_iadd hx hb dX10_factsNow_25 ?_
          refine lv_istore_n (lv' := [(1, .int (x1_4 + 0)), (2, .int x2_4), (0, .ref (g 29))]) hx hb dX10_factsNow_26 rfl hl (by decide) rfl (fun ls hl => ?_)
          refine lv_iinc (v := (x2_4 + 1)) (lv' := [(2, .int (x2_4 + 1)), (1, .int (x1_4 + 0)), (0, .ref (g 29))]) hx hb dX10_factsNow_27 hl (k := 1) rfl (by rfl) (by decide) rfl (fun ls hl => ?_)
          refine lv_goto (tgt := 4) hx hb dX10_factsNow_30 (by decide) ?_
          exact ih (x2_4 + 1) (x1_4 + 0) hinv ls (lv_sub hl [0, 1, 2] rfl)
        · have hinv := oi_f c_17 hinv
          refine lv_iconst (v := 1) hx hb dX10_factsNow_20 (by decide) ?_
          refine lv_goto (tgt := 25) hx hb dX10_factsNow_21 (by decide) ?_
          refine lv_iadd hx hb dX10_factsNow_25 ?_
          refine lv_istore_n (lv' := [(1, .int (x1_4 + 1)), (2, .int x2_4), (0, .ref (g 29))]) hx hb dX10_factsNow_26 rfl hl (by decide) rfl (fun ls hl => ?_)
          refine lv_iinc (v := (x2_4 + 1)) (lv' := [(2, .int (x2_4 + 1)), (1, .int (x1_4 + 1)), (0, .ref (g 29))]) hx hb dX10_factsNow_27 hl (k := 1) rfl (by rfl) (by decide) rfl (fun ls hl => ?_)
          refine lv_goto (tgt := 4) hx hb dX10_factsNow_30 (by decide) ?_
          exact ih (x2_4 + 1) (x1_4 + 1) hinv ls (lv_sub hl [0, 1, 2] rfl)
  exact hl4 F 0 0 hinv ls (lv_sub hl [0, 1, 2] rfl)
def m_X10_addFact (F : Nat) (r29 : Nat → Int32) (r30 : Nat → Int32) (za1 : Int32) : Option (Int32 × (Nat → Int32) × (Nat → Int32)) := Option.bind (m_X10_isLiteral F za1) (fun zu1 => Option.bind (if zu1 = 0 then (some (1 : Int32)) else (if ¬ ((10 + za1) < 0 ∨ 21 ≤ (10 + za1).toNatClampNeg) then (if (r30 (10 + za1).toNatClampNeg) = 0 then (if ¬ ((10 - za1) < 0 ∨ 21 ≤ (10 - za1).toNatClampNeg) then (if (r30 (10 - za1).toNatClampNeg) = 0 then (some (0 : Int32)) else (some (2 : Int32))) else none) else (some (2 : Int32))) else none)) (fun zu2 => Option.bind (m_X10_passes F r29 zu2) (fun zu3 => if zu3.1 = 0 then (some (0, zu3.2, r30)) else (if ¬ ((10 + za1) < 0 ∨ 21 ≤ (10 + za1).toNatClampNeg) then (Option.bind (m_X10_factsNow F (upd r30 (10 + za1).toNatClampNeg 1)) (fun zu4 => some (zu4, zu3.2, (upd r30 (10 + za1).toNatClampNeg 1)))) else none))))
set_option maxHeartbeats 4000000 in
set_option maxRecDepth 100000 in
theorem c_X10_addFact {l : Launch} {D : va_G} {cy : Nat → Nat} {g : Nat → Nat} {N : Nat} {X : Nat → Nat → Int32} {F : Nat} {za1 : Int32} {R0 : Int32 × (Nat → Int32) × (Nat → Int32)} (hfl : l.stackTraces = false) (hN : 47 ≤ N) (hinv : m_X10_addFact F (X 29) (X 30) za1 = some R0) : sWi l D cy yX10_addFact cX10_addFact 3 (some .int) 1 0 0 [.ref (g 29), .int za1] g N X R0.1 (up (up X 29 R0.2.1) 30 R0.2.2) := by
  refine jWi (own := RX10) (by decide) rfl hfl (Nat.le_of_ble_eq_true rfl) rfl ?_
  intro p e R s m args below meth c ls A Q hRe C hw hl hret
  subst hRe
  have hx := C.1
  have hb := C.2.1
  have hl : lv_has ls 3 [(0, .ref (g 29)), (1, .int za1)] := hl
  rw [m_X10_addFact] at hinv
  refine lv_iload_n hx hb dX10_addFact_0 rfl (lv_at hl 1 rfl) ?_
  obtain ⟨zu1, hzu1, hinv⟩ := ob hinv
  refine s_sRi (r0 := zu1) C hw (As := [.int za1]) bX10_isLiteral k492 (c_X10_isLiteral (X := X) hfl hN hzu1) rfl rfl dX10_addFact_1 ⟨rfl, rfl⟩ (by decide) hl.1 (Nat.le_of_ble_eq_true rfl) ⟨Nat.le_of_ble_eq_true rfl, Nat.le_of_ble_eq_true rfl⟩ ?_
  refine lv_istore_n (lv' := [(2, .int zu1), (0, .ref (g 29)), (1, .int za1)]) hx hb dX10_addFact_4 rfl hl (by decide) rfl (fun ls hl => ?_)
  refine lv_aload_n hx hb dX10_addFact_5 rfl (lv_at hl 1 rfl) ?_
  obtain ⟨zu2, hzu2, hinv⟩ := ob hinv
  have hx6 : ∀ (H : Heap) (locs : List Loc) (ls : Array Slot), Wd D A s.heap g N (shp g cy X) H locs → lv_has ls 3 [(2, .int zu1), (0, .ref (g 29)), (1, .int za1)] → W p l e (wR 1 0 0) s m args below meth c H locs 0 0 Q (F0 m 43 ls [.int zu2, .ref (g 29)]) := by
    intro H locs ls hw hl
    obtain ⟨zu3, hzu3, hinv⟩ := ob hinv
    refine s_vWi (r0 := zu3.1) C hw (As := [.int zu2]) bX10_passes k495 (k := 29) (q47 hN rfl) (sh_29 g cy _) rfl (c_X10_passes (X := X) hfl hN hzu3) rfl rfl dX10_addFact_43 ⟨rfl, rfl⟩ (by decide) hl.1 (Nat.le_of_ble_eq_true rfl) ⟨Nat.le_of_ble_eq_true rfl, Nat.le_of_ble_eq_true rfl⟩ (fun H locs hw => ?_)
    refine lv_if_ne (tgt := 51) hx hb dX10_addFact_46 (by decide) (fun c_46 => ?_) (fun c_46 => ?_)
    · have hinv := oi_f c_46 hinv
      refine lv_aload_n hx hb dX10_addFact_51 rfl (lv_at hl 1 rfl) ?_
      refine w_get C hw (k := 29) (v := .ref (g 30)) (j := 1) (q47 hN rfl) (sh_29 g cy _) rfl (by decide) k469 rfl dX10_addFact_52 ?_
      refine lv_bipush (v := 10) hx hb dX10_addFact_55 (by decide) ?_
      refine lv_iload_n hx hb dX10_addFact_57 rfl (lv_at hl 2 rfl) ?_
      refine lv_iadd hx hb dX10_addFact_58 ?_
      refine lv_iconst (v := 1) hx hb dX10_addFact_59 (by decide) ?_
      obtain ⟨hb_60, hinv⟩ := oi_c hinv
      refine s_zast C hw (k := 30) (a := (X 30)) (q47 hN rfl) (fun r => sh_30 g cy r) rfl (by decide) hb_60 dX10_addFact_60 (fun H locs zw60 hw60 hw => ?_)
      try rw [← hw60] at hinv
      refine lv_aload_n hx hb dX10_addFact_61 rfl (lv_at hl 1 rfl) ?_
      obtain ⟨zu4, hzu4, hinv⟩ := ob hinv
      refine s_vRi (r0 := zu4) C hw (As := []) bX10_factsNow k498 (k := 29) (q47 hN rfl) (sh_29 g cy _) rfl (c_X10_factsNow (X := (up (up X 29 zu3.2) 30 zw60)) hfl hN hzu4) rfl rfl dX10_addFact_62 ⟨rfl, rfl⟩ (by decide) hl.1 (Nat.le_of_ble_eq_true rfl) ⟨Nat.le_of_ble_eq_true rfl, Nat.le_of_ble_eq_true rfl⟩ ?_
      have hR0 := (Option.some.inj hinv).symm
      subst hR0
      exact hret 65 ls zu4 _ _ _ _ rfl hw (by decide) (by decide) dX10_addFact_65
    · have hinv := oi_t c_46 hinv
      refine lv_iconst (v := 0) hx hb dX10_addFact_49 (by decide) ?_
      have hR0 := (Option.some.inj hinv).symm
      subst hR0
      have hXe : (up X 29 zu3.2) = (up (up X 29 zu3.2) 30 (X 30)) := by
        funext j
        by_cases h29 : j = 29
        · subst h29; simp [up]
        by_cases h30 : j = 30
        · subst h30; simp [up]
        simp [up, h29, h30]
      rw [hXe] at hw
      exact hret 50 ls 0 _ _ _ _ rfl hw (by decide) (by decide) dX10_addFact_50
  have hinv := hzu2
  refine lv_iload_n hx hb dX10_addFact_6 rfl (lv_at hl 0 rfl) ?_
  refine lv_if_ne (tgt := 14) hx hb dX10_addFact_7 (by decide) (fun c_7 => ?_) (fun c_7 => ?_)
  · have hinv := oi_f c_7 hinv
    refine lv_aload_n hx hb dX10_addFact_14 rfl (lv_at hl 1 rfl) ?_
    refine w_get C hw (k := 29) (v := .ref (g 30)) (j := 1) (q47 hN rfl) (sh_29 g cy _) rfl (by decide) k469 rfl dX10_addFact_15 ?_
    refine lv_bipush (v := 10) hx hb dX10_addFact_18 (by decide) ?_
    refine lv_iload_n hx hb dX10_addFact_20 rfl (lv_at hl 2 rfl) ?_
    refine lv_iadd hx hb dX10_addFact_21 ?_
    obtain ⟨hb_22, hinv⟩ := oi_c hinv
    refine s_zald C hw (k := 30) (a := (X 30)) (q47 hN rfl) (fun r => sh_30 g cy r) rfl hb_22 dX10_addFact_22 ?_
    refine lv_if_ne (tgt := 38) hx hb dX10_addFact_23 (by decide) (fun c_23 => ?_) (fun c_23 => ?_)
    · have hinv := oi_f c_23 hinv
      refine lv_iconst (v := 2) hx hb dX10_addFact_38 (by decide) ?_
      refine lv_goto (tgt := 43) hx hb dX10_addFact_39 (by decide) ?_
      have hR9 := Option.some.inj hinv
      subst hR9
      exact hx6 _ _ ls hw (lv_sub hl [0, 1, 2] rfl)
    · have hinv := oi_t c_23 hinv
      refine lv_aload_n hx hb dX10_addFact_26 rfl (lv_at hl 1 rfl) ?_
      refine w_get C hw (k := 29) (v := .ref (g 30)) (j := 1) (q47 hN rfl) (sh_29 g cy _) rfl (by decide) k469 rfl dX10_addFact_27 ?_
      refine lv_bipush (v := 10) hx hb dX10_addFact_30 (by decide) ?_
      refine lv_iload_n hx hb dX10_addFact_32 rfl (lv_at hl 2 rfl) ?_
      refine lv_isub hx hb dX10_addFact_33 ?_
      obtain ⟨hb_34, hinv⟩ := oi_c hinv
      refine s_zald C hw (k := 30) (a := (X 30)) (q47 hN rfl) (fun r => sh_30 g cy r) rfl hb_34 dX10_addFact_34 ?_
      refine lv_if_eq (tgt := 42) hx hb dX10_addFact_35 (by decide) (fun c_35 => ?_) (fun c_35 => ?_)
      · have hinv := oi_t c_35 hinv
        refine lv_iconst (v := 0) hx hb dX10_addFact_42 (by decide) ?_
        have hR9 := Option.some.inj hinv
        subst hR9
        exact hx6 _ _ ls hw (lv_sub hl [0, 1, 2] rfl)
      · have hinv := oi_f c_35 hinv
        refine lv_iconst (v := 2) hx hb dX10_addFact_38 (by decide) ?_
        refine lv_goto (tgt := 43) hx hb dX10_addFact_39 (by decide) ?_
        have hR9 := Option.some.inj hinv
        subst hR9
        exact hx6 _ _ ls hw (lv_sub hl [0, 1, 2] rfl)
  · have hinv := oi_t c_7 hinv
    refine lv_iconst (v := 1) hx hb dX10_addFact_10 (by decide) ?_
    refine lv_goto (tgt := 43) hx hb dX10_addFact_11 (by decide) ?_
    have hR9 := Option.some.inj hinv
    subst hR9
    exact hx6 _ _ ls hw (lv_sub hl [0, 1, 2] rfl)
def m_X10_takeBack (F : Nat) (r29 : Nat → Int32) (r30 : Nat → Int32) (za1 : Int32) : Option (Int32 × (Nat → Int32) × (Nat → Int32)) := Option.bind (Option.bind (m_X10_isLiteral F za1) (fun zu3 => if zu3 = 0 then (some (1 : Int32)) else (some (0 : Int32)))) (fun zu1 => Option.bind (m_X10_passes F r29 zu1) (fun zu2 => if zu2.1 = 0 then (some (0, zu2.2, r30)) else (if ¬ ((10 + za1) < 0 ∨ 21 ≤ (10 + za1).toNatClampNeg) then (if ¬ ((10 + za1) < 0 ∨ 21 ≤ (10 + za1).toNatClampNeg) then (if (r30 (10 + za1).toNatClampNeg) = 0 ∨ (r30 (10 + za1).toNatClampNeg) = 1 then (some ((r30 (10 + za1).toNatClampNeg), zu2.2, (upd r30 (10 + za1).toNatClampNeg 0))) else none) else none) else none)))
set_option maxHeartbeats 4000000 in
set_option maxRecDepth 100000 in
theorem c_X10_takeBack {l : Launch} {D : va_G} {cy : Nat → Nat} {g : Nat → Nat} {N : Nat} {X : Nat → Nat → Int32} {F : Nat} {za1 : Int32} {R0 : Int32 × (Nat → Int32) × (Nat → Int32)} (hfl : l.stackTraces = false) (hN : 47 ≤ N) (hinv : m_X10_takeBack F (X 29) (X 30) za1 = some R0) : sWi l D cy yX10_takeBack cX10_takeBack 3 (some .boolean) 1 0 0 [.ref (g 29), .int za1] g N X R0.1 (up (up X 29 R0.2.1) 30 R0.2.2) := by
  refine jWz (own := RX10) (by decide) rfl hfl (Nat.le_of_ble_eq_true rfl) rfl ?_
  intro p e R s m args below meth c ls A Q hRe C hw hl hret
  subst hRe
  have hx := C.1
  have hb := C.2.1
  have hl : lv_has ls 3 [(0, .ref (g 29)), (1, .int za1)] := hl
  rw [m_X10_takeBack] at hinv
  refine lv_aload_n hx hb dX10_takeBack_0 rfl (lv_at hl 0 rfl) ?_
  obtain ⟨zu1, hzu1, hinv⟩ := ob hinv
  have hx1 : ∀ (H : Heap) (locs : List Loc) (ls : Array Slot), Wd D A s.heap g N (shp g cy X) H locs → lv_has ls 3 [(0, .ref (g 29)), (1, .int za1)] → W p l e (wR 1 0 0) s m args below meth c H locs 0 0 Q (F0 m 13 ls [.int zu1, .ref (g 29)]) := by
    intro H locs ls hw hl
    obtain ⟨zu2, hzu2, hinv⟩ := ob hinv
    refine s_vWi (r0 := zu2.1) C hw (As := [.int zu1]) bX10_passes k495 (k := 29) (q47 hN rfl) (sh_29 g cy _) rfl (c_X10_passes (X := X) hfl hN hzu2) rfl rfl dX10_takeBack_13 ⟨rfl, rfl⟩ (by decide) hl.1 (Nat.le_of_ble_eq_true rfl) ⟨Nat.le_of_ble_eq_true rfl, Nat.le_of_ble_eq_true rfl⟩ (fun H locs hw => ?_)
    refine lv_if_ne (tgt := 21) hx hb dX10_takeBack_16 (by decide) (fun c_16 => ?_) (fun c_16 => ?_)
    · have hinv := oi_f c_16 hinv
      refine lv_aload_n hx hb dX10_takeBack_21 rfl (lv_at hl 0 rfl) ?_
      refine w_get C hw (k := 29) (v := .ref (g 30)) (j := 1) (q47 hN rfl) (sh_29 g cy _) rfl (by decide) k469 rfl dX10_takeBack_22 ?_
      refine lv_bipush (v := 10) hx hb dX10_takeBack_25 (by decide) ?_
      refine lv_iload_n hx hb dX10_takeBack_27 rfl (lv_at hl 1 rfl) ?_
      refine lv_iadd hx hb dX10_takeBack_28 ?_
      obtain ⟨hb_29, hinv⟩ := oi_c hinv
      refine s_zald C hw (k := 30) (a := (X 30)) (q47 hN rfl) (fun r => sh_30 g cy r) rfl hb_29 dX10_takeBack_29 ?_
      refine lv_istore_n (lv' := [(2, .int ((X 30) (10 + za1).toNatClampNeg)), (0, .ref (g 29)), (1, .int za1)]) hx hb dX10_takeBack_30 rfl hl (by decide) rfl (fun ls hl => ?_)
      refine lv_aload_n hx hb dX10_takeBack_31 rfl (lv_at hl 1 rfl) ?_
      refine w_get C hw (k := 29) (v := .ref (g 30)) (j := 1) (q47 hN rfl) (sh_29 g cy _) rfl (by decide) k469 rfl dX10_takeBack_32 ?_
      refine lv_bipush (v := 10) hx hb dX10_takeBack_35 (by decide) ?_
      refine lv_iload_n hx hb dX10_takeBack_37 rfl (lv_at hl 2 rfl) ?_
      refine lv_iadd hx hb dX10_takeBack_38 ?_
      refine lv_iconst (v := 0) hx hb dX10_takeBack_39 (by decide) ?_
      obtain ⟨hb_40, hinv⟩ := oi_c hinv
      refine s_zast C hw (k := 30) (a := (X 30)) (q47 hN rfl) (fun r => sh_30 g cy r) rfl (by decide) hb_40 dX10_takeBack_40 (fun H locs zw40 hw40 hw => ?_)
      try rw [← hw40] at hinv
      refine lv_iload_n hx hb dX10_takeBack_41 rfl (lv_at hl 0 rfl) ?_
      obtain ⟨hz9, hinv⟩ := oi_c hinv
      have hR0 := (Option.some.inj hinv).symm
      subst hR0
      exact hret 42 ls ((X 30) (10 + za1).toNatClampNeg) _ _ _ _ rfl hz9 hw (by decide) (by decide) dX10_takeBack_42
    · have hinv := oi_t c_16 hinv
      refine lv_iconst (v := 0) hx hb dX10_takeBack_19 (by decide) ?_
      have hR0 := (Option.some.inj hinv).symm
      subst hR0
      have hXe : (up X 29 zu2.2) = (up (up X 29 zu2.2) 30 (X 30)) := by
        funext j
        by_cases h29 : j = 29
        · subst h29; simp [up]
        by_cases h30 : j = 30
        · subst h30; simp [up]
        simp [up, h29, h30]
      rw [hXe] at hw
      exact hret 20 ls 0 _ _ _ _ rfl (by decide) hw (by decide) (by decide) dX10_takeBack_20
  have hinv := hzu1
  refine lv_iload_n hx hb dX10_takeBack_1 rfl (lv_at hl 1 rfl) ?_
  obtain ⟨zu3, hzu3, hinv⟩ := ob hinv
  refine s_sRi (r0 := zu3) C hw (As := [.int za1]) bX10_isLiteral k492 (c_X10_isLiteral (X := X) hfl hN hzu3) rfl rfl dX10_takeBack_2 ⟨rfl, rfl⟩ (by decide) hl.1 (Nat.le_of_ble_eq_true rfl) ⟨Nat.le_of_ble_eq_true rfl, Nat.le_of_ble_eq_true rfl⟩ ?_
  refine lv_if_eq (tgt := 12) hx hb dX10_takeBack_5 (by decide) (fun c_5 => ?_) (fun c_5 => ?_)
  · have hinv := oi_t c_5 hinv
    refine lv_iconst (v := 1) hx hb dX10_takeBack_12 (by decide) ?_
    have hR9 := Option.some.inj hinv
    subst hR9
    exact hx1 _ _ ls hw (lv_sub hl [0, 1] rfl)
  · have hinv := oi_f c_5 hinv
    refine lv_iconst (v := 0) hx hb dX10_takeBack_8 (by decide) ?_
    refine lv_goto (tgt := 13) hx hb dX10_takeBack_9 (by decide) ?_
    have hR9 := Option.some.inj hinv
    subst hR9
    exact hx1 _ _ ls hw (lv_sub hl [0, 1] rfl)
def m_X10_addRule (F : Nat) (r29 : Nat → Int32) (r31 : Nat → Int32) (r32 : Nat → Int32) (r33 : Nat → Int32) (r34 : Nat → Int32) (r35 : Nat → Int32) (za1 : Int32) (za2 : Int32) (za3 : Int32) (za4 : Int32) (za5 : Int32) : Option (Int32 × (Nat → Int32) × (Nat → Int32) × (Nat → Int32) × (Nat → Int32) × (Nat → Int32) × (Nat → Int32)) := Option.bind (Option.bind (m_X10_isLiteral F za1) (fun zu6 => if zu6 = 0 then (some (0 : Int32)) else (Option.bind (m_X10_isLiteralOrNone F za2) (fun zu7 => if zu7 = 0 then (some (0 : Int32)) else (Option.bind (m_X10_isLiteralOrNone F za3) (fun zu8 => if zu8 = 0 then (some (0 : Int32)) else (Option.bind (m_X10_isLiteralOrNone F za4) (fun zu9 => if zu9 = 0 then (some (0 : Int32)) else (if za5 < 0 then (some (0 : Int32)) else (if 9 < za5 then (some (0 : Int32)) else (some (1 : Int32)))))))))))) (fun zu1 => Option.bind (if za2 = 0 then (if za3 = 0 then (if za4 = 0 then (some (1 : Int32)) else (some (0 : Int32))) else (some (0 : Int32))) else (if za3 = 0 then (if za4 = 0 then (some (1 : Int32)) else (some (0 : Int32))) else (some (1 : Int32)))) (fun zu2 => Option.bind (if za2 = 0 then (if za3 = 0 then (some (0 : Int32)) else (if za3 = za4 then (some (1 : Int32)) else (some (0 : Int32)))) else (if za2 = za3 then (some (1 : Int32)) else (if za2 = za4 then (some (1 : Int32)) else (if za3 = 0 then (some (0 : Int32)) else (if za3 = za4 then (some (1 : Int32)) else (some (0 : Int32))))))) (fun zu3 => Option.bind (if zu1 = 0 then (some (1 : Int32)) else (if zu2 = 0 then (some (1 : Int32)) else (if zu3 = 0 then (if (r29 2) = 12 then (some (2 : Int32)) else (some (0 : Int32))) else (some (1 : Int32))))) (fun zu4 => Option.bind (m_X10_passes F r29 zu4) (fun zu5 => if zu5.1 = 0 then (some (0, zu5.2, r31, r32, r33, r34, r35)) else (if ¬ ((zu5.2 2) < 0 ∨ 12 ≤ (zu5.2 2).toNatClampNeg) then (if ¬ ((3 * (zu5.2 2)) < 0 ∨ 36 ≤ (3 * (zu5.2 2)).toNatClampNeg) then (if ¬ (((3 * (zu5.2 2)) + 1) < 0 ∨ 36 ≤ ((3 * (zu5.2 2)) + 1).toNatClampNeg) then (if ¬ (((3 * (zu5.2 2)) + 2) < 0 ∨ 36 ≤ ((3 * (zu5.2 2)) + 2).toNatClampNeg) then (if ¬ ((zu5.2 2) < 0 ∨ 12 ≤ (zu5.2 2).toNatClampNeg) then (if ¬ ((zu5.2 2) < 0 ∨ 12 ≤ (zu5.2 2).toNatClampNeg) then (if ¬ ((zu5.2 2) < 0 ∨ 12 ≤ (zu5.2 2).toNatClampNeg) then (some ((((zu5.2 2) + 1) - 1), (upd zu5.2 2 ((zu5.2 2) + 1)), (upd r31 (zu5.2 2).toNatClampNeg za1), (upd (upd (upd r32 (3 * (zu5.2 2)).toNatClampNeg za2) ((3 * (zu5.2 2)) + 1).toNatClampNeg za3) ((3 * (zu5.2 2)) + 2).toNatClampNeg za4), (upd r33 (zu5.2 2).toNatClampNeg za5), (upd r34 (zu5.2 2).toNatClampNeg 0), (upd r35 (zu5.2 2).toNatClampNeg 1))) else none) else none) else none) else none) else none) else none) else none))))))
set_option maxHeartbeats 4000000 in
set_option maxRecDepth 100000 in
theorem c_X10_addRule {l : Launch} {D : va_G} {cy : Nat → Nat} {g : Nat → Nat} {N : Nat} {X : Nat → Nat → Int32} {F : Nat} {za1 : Int32} {za2 : Int32} {za3 : Int32} {za4 : Int32} {za5 : Int32} {R0 : Int32 × (Nat → Int32) × (Nat → Int32) × (Nat → Int32) × (Nat → Int32) × (Nat → Int32) × (Nat → Int32)} (hfl : l.stackTraces = false) (hN : 47 ≤ N) (hinv : m_X10_addRule F (X 29) (X 31) (X 32) (X 33) (X 34) (X 35) za1 za2 za3 za4 za5 = some R0) : sWi l D cy yX10_addRule cX10_addRule 9 (some .int) 1 0 0 [.ref (g 29), .int za1, .int za2, .int za3, .int za4, .int za5] g N X R0.1 (up (up (up (up (up (up X 29 R0.2.1) 31 R0.2.2.1) 32 R0.2.2.2.1) 33 R0.2.2.2.2.1) 34 R0.2.2.2.2.2.1) 35 R0.2.2.2.2.2.2) := by
  refine jWi (own := RX10) (by decide) rfl hfl (Nat.le_of_ble_eq_true rfl) rfl ?_
  intro p e R s m args below meth c ls A Q hRe C hw hl hret
  subst hRe
  have hx := C.1
  have hb := C.2.1
  have hl : lv_has ls 9 [(0, .ref (g 29)), (1, .int za1), (2, .int za2), (3, .int za3), (4, .int za4), (5, .int za5)] := hl
  rw [m_X10_addRule] at hinv
  obtain ⟨zu1, hzu1, hinv⟩ := ob hinv
  have hx0 : ∀ (H : Heap) (locs : List Loc) (ls : Array Slot), Wd D A s.heap g N (shp g cy X) H locs → lv_has ls 9 [(0, .ref (g 29)), (1, .int za1), (2, .int za2), (3, .int za3), (4, .int za4), (5, .int za5)] → W p l e (wR 1 0 0) s m args below meth c H locs 0 0 Q (F0 m 46 ls [.int zu1]) := by
    intro H locs ls hw hl
    refine lv_istore (lv' := [(6, .int zu1), (0, .ref (g 29)), (1, .int za1), (2, .int za2), (3, .int za3), (4, .int za4), (5, .int za5)]) hx hb dX10_addRule_46 hl (by decide) rfl (fun ls hl => ?_)
    obtain ⟨zu2, hzu2, hinv⟩ := ob hinv
    have hx48 : ∀ (H : Heap) (locs : List Loc) (ls : Array Slot), Wd D A s.heap g N (shp g cy X) H locs → lv_has ls 9 [(6, .int zu1), (0, .ref (g 29)), (1, .int za1), (2, .int za2), (3, .int za3), (4, .int za4), (5, .int za5)] → W p l e (wR 1 0 0) s m args below meth c H locs 0 0 Q (F0 m 70 ls [.int zu2]) := by
      intro H locs ls hw hl
      refine lv_istore (lv' := [(7, .int zu2), (6, .int zu1), (0, .ref (g 29)), (1, .int za1), (2, .int za2), (3, .int za3), (4, .int za4), (5, .int za5)]) hx hb dX10_addRule_70 hl (by decide) rfl (fun ls hl => ?_)
      obtain ⟨zu3, hzu3, hinv⟩ := ob hinv
      have hx72 : ∀ (H : Heap) (locs : List Loc) (ls : Array Slot), Wd D A s.heap g N (shp g cy X) H locs → lv_has ls 9 [(7, .int zu2), (6, .int zu1), (0, .ref (g 29)), (1, .int za1), (2, .int za2), (3, .int za3), (4, .int za4), (5, .int za5)] → W p l e (wR 1 0 0) s m args below meth c H locs 0 0 Q (F0 m 102 ls [.int zu3]) := by
        intro H locs ls hw hl
        refine lv_istore (lv' := [(8, .int zu3), (7, .int zu2), (6, .int zu1), (0, .ref (g 29)), (1, .int za1), (2, .int za2), (3, .int za3), (4, .int za4), (5, .int za5)]) hx hb dX10_addRule_102 hl (by decide) rfl (fun ls hl => ?_)
        refine lv_aload_n hx hb dX10_addRule_104 rfl (lv_at hl 3 rfl) ?_
        obtain ⟨zu4, hzu4, hinv⟩ := ob hinv
        have hx105 : ∀ (H : Heap) (locs : List Loc) (ls : Array Slot), Wd D A s.heap g N (shp g cy X) H locs → lv_has ls 9 [(8, .int zu3), (7, .int zu2), (6, .int zu1), (0, .ref (g 29)), (1, .int za1), (2, .int za2), (3, .int za3), (4, .int za4), (5, .int za5)] → W p l e (wR 1 0 0) s m args below meth c H locs 0 0 Q (F0 m 138 ls [.int zu4, .ref (g 29)]) := by
          intro H locs ls hw hl
          obtain ⟨zu5, hzu5, hinv⟩ := ob hinv
          refine s_vWi (r0 := zu5.1) C hw (As := [.int zu4]) bX10_passes k495 (k := 29) (q47 hN rfl) (sh_29 g cy _) rfl (c_X10_passes (X := X) hfl hN hzu5) rfl rfl dX10_addRule_138 ⟨rfl, rfl⟩ (by decide) hl.1 (Nat.le_of_ble_eq_true rfl) ⟨Nat.le_of_ble_eq_true rfl, Nat.le_of_ble_eq_true rfl⟩ (fun H locs hw => ?_)
          refine lv_if_ne (tgt := 146) hx hb dX10_addRule_141 (by decide) (fun c_141 => ?_) (fun c_141 => ?_)
          · have hinv := oi_f c_141 hinv
            refine lv_aload_n hx hb dX10_addRule_146 rfl (lv_at hl 3 rfl) ?_
            refine w_get C hw (k := 29) (v := .ref (g 31)) (j := 3) (q47 hN rfl) (sh_29 g cy _) rfl (by decide) k470 rfl dX10_addRule_147 ?_
            refine lv_aload_n hx hb dX10_addRule_150 rfl (lv_at hl 3 rfl) ?_
            refine w_get C hw (k := 29) (v := .int (zu5.2 2)) (j := 2) (q47 hN rfl) (sh_29 g cy _) rfl (by decide) k503 rfl dX10_addRule_151 ?_
            refine lv_iload_n hx hb dX10_addRule_154 rfl (lv_at hl 4 rfl) ?_
            obtain ⟨hb_155, hinv⟩ := oi_c hinv
            refine s_iast C hw (k := 31) (a := (X 31)) (q47 hN rfl) (fun r => sh_31 g cy r) rfl hb_155 dX10_addRule_155 (fun H locs zw155 hw155 hw => ?_)
            try rw [← hw155] at hinv
            refine lv_aload_n hx hb dX10_addRule_156 rfl (lv_at hl 3 rfl) ?_
            refine w_get C hw (k := 29) (v := .ref (g 32)) (j := 4) (q47 hN rfl) (sh_29 g cy _) rfl (by decide) k471 rfl dX10_addRule_157 ?_
            refine lv_iconst (v := 3) hx hb dX10_addRule_160 (by decide) ?_
            refine lv_aload_n hx hb dX10_addRule_161 rfl (lv_at hl 3 rfl) ?_
            refine w_get C hw (k := 29) (v := .int (zu5.2 2)) (j := 2) (q47 hN rfl) (sh_29 g cy _) rfl (by decide) k503 rfl dX10_addRule_162 ?_
            refine lv_imul hx hb dX10_addRule_165 ?_
            refine lv_iload_n hx hb dX10_addRule_166 rfl (lv_at hl 5 rfl) ?_
            obtain ⟨hb_167, hinv⟩ := oi_c hinv
            refine s_iast C hw (k := 32) (a := (X 32)) (q47 hN rfl) (fun r => sh_32 g cy r) rfl hb_167 dX10_addRule_167 (fun H locs zw167 hw167 hw => ?_)
            try rw [← hw167] at hinv
            refine lv_aload_n hx hb dX10_addRule_168 rfl (lv_at hl 3 rfl) ?_
            refine w_get C hw (k := 29) (v := .ref (g 32)) (j := 4) (q47 hN rfl) (sh_29 g cy _) rfl (by decide) k471 rfl dX10_addRule_169 ?_
            refine lv_iconst (v := 3) hx hb dX10_addRule_172 (by decide) ?_
            refine lv_aload_n hx hb dX10_addRule_173 rfl (lv_at hl 3 rfl) ?_
            refine w_get C hw (k := 29) (v := .int (zu5.2 2)) (j := 2) (q47 hN rfl) (sh_29 g cy _) rfl (by decide) k503 rfl dX10_addRule_174 ?_
            refine lv_imul hx hb dX10_addRule_177 ?_
            refine lv_iconst (v := 1) hx hb dX10_addRule_178 (by decide) ?_
            refine lv_iadd hx hb dX10_addRule_179 ?_
            refine lv_iload_n hx hb dX10_addRule_180 rfl (lv_at hl 6 rfl) ?_
            obtain ⟨hb_181, hinv⟩ := oi_c hinv
            refine s_iast C hw (k := 32) (a := zw167) (q47 hN rfl) (fun r => sh_32 g cy r) rfl hb_181 dX10_addRule_181 (fun H locs zw181 hw181 hw => ?_)
            try rw [← hw181] at hinv
            rw [up_up] at hw
            refine lv_aload_n hx hb dX10_addRule_182 rfl (lv_at hl 3 rfl) ?_
            refine w_get C hw (k := 29) (v := .ref (g 32)) (j := 4) (q47 hN rfl) (sh_29 g cy _) rfl (by decide) k471 rfl dX10_addRule_183 ?_
            refine lv_iconst (v := 3) hx hb dX10_addRule_186 (by decide) ?_
            refine lv_aload_n hx hb dX10_addRule_187 rfl (lv_at hl 3 rfl) ?_
            refine w_get C hw (k := 29) (v := .int (zu5.2 2)) (j := 2) (q47 hN rfl) (sh_29 g cy _) rfl (by decide) k503 rfl dX10_addRule_188 ?_
            refine lv_imul hx hb dX10_addRule_191 ?_
            refine lv_iconst (v := 2) hx hb dX10_addRule_192 (by decide) ?_
            refine lv_iadd hx hb dX10_addRule_193 ?_
            refine lv_iload hx hb dX10_addRule_194 (lv_at hl 7 rfl) ?_
            obtain ⟨hb_196, hinv⟩ := oi_c hinv
            refine s_iast C hw (k := 32) (a := zw181) (q47 hN rfl) (fun r => sh_32 g cy r) rfl hb_196 dX10_addRule_196 (fun H locs zw196 hw196 hw => ?_)
            try rw [← hw196] at hinv
            rw [up_up] at hw
            refine lv_aload_n hx hb dX10_addRule_197 rfl (lv_at hl 3 rfl) ?_
            refine w_get C hw (k := 29) (v := .ref (g 33)) (j := 5) (q47 hN rfl) (sh_29 g cy _) rfl (by decide) k472 rfl dX10_addRule_198 ?_
            refine lv_aload_n hx hb dX10_addRule_201 rfl (lv_at hl 3 rfl) ?_
            refine w_get C hw (k := 29) (v := .int (zu5.2 2)) (j := 2) (q47 hN rfl) (sh_29 g cy _) rfl (by decide) k503 rfl dX10_addRule_202 ?_
            refine lv_iload hx hb dX10_addRule_205 (lv_at hl 8 rfl) ?_
            obtain ⟨hb_207, hinv⟩ := oi_c hinv
            refine s_iast C hw (k := 33) (a := (X 33)) (q47 hN rfl) (fun r => sh_33 g cy r) rfl hb_207 dX10_addRule_207 (fun H locs zw207 hw207 hw => ?_)
            try rw [← hw207] at hinv
            refine lv_aload_n hx hb dX10_addRule_208 rfl (lv_at hl 3 rfl) ?_
            refine w_get C hw (k := 29) (v := .ref (g 34)) (j := 6) (q47 hN rfl) (sh_29 g cy _) rfl (by decide) k473 rfl dX10_addRule_209 ?_
            refine lv_aload_n hx hb dX10_addRule_212 rfl (lv_at hl 3 rfl) ?_
            refine w_get C hw (k := 29) (v := .int (zu5.2 2)) (j := 2) (q47 hN rfl) (sh_29 g cy _) rfl (by decide) k503 rfl dX10_addRule_213 ?_
            refine lv_iconst (v := 0) hx hb dX10_addRule_216 (by decide) ?_
            obtain ⟨hb_217, hinv⟩ := oi_c hinv
            refine s_iast C hw (k := 34) (a := (X 34)) (q47 hN rfl) (fun r => sh_34 g cy r) rfl hb_217 dX10_addRule_217 (fun H locs zw217 hw217 hw => ?_)
            try rw [← hw217] at hinv
            refine lv_aload_n hx hb dX10_addRule_218 rfl (lv_at hl 3 rfl) ?_
            refine w_get C hw (k := 29) (v := .ref (g 35)) (j := 7) (q47 hN rfl) (sh_29 g cy _) rfl (by decide) k474 rfl dX10_addRule_219 ?_
            refine lv_aload_n hx hb dX10_addRule_222 rfl (lv_at hl 3 rfl) ?_
            refine w_get C hw (k := 29) (v := .int (zu5.2 2)) (j := 2) (q47 hN rfl) (sh_29 g cy _) rfl (by decide) k503 rfl dX10_addRule_223 ?_
            refine lv_iconst (v := 1) hx hb dX10_addRule_226 (by decide) ?_
            obtain ⟨hb_227, hinv⟩ := oi_c hinv
            refine s_zast C hw (k := 35) (a := (X 35)) (q47 hN rfl) (fun r => sh_35 g cy r) rfl (by decide) hb_227 dX10_addRule_227 (fun H locs zw227 hw227 hw => ?_)
            try rw [← hw227] at hinv
            refine lv_aload_n hx hb dX10_addRule_228 rfl (lv_at hl 3 rfl) ?_
            refine lv_dup hx hb dX10_addRule_229 rfl ?_
            refine w_get C hw (k := 29) (v := .int (zu5.2 2)) (j := 2) (q47 hN rfl) (sh_29 g cy _) rfl (by decide) k503 rfl dX10_addRule_230 ?_
            refine lv_iconst (v := 1) hx hb dX10_addRule_233 (by decide) ?_
            refine lv_iadd hx hb dX10_addRule_234 ?_
            refine s_put C hw (k := 29) (row := (upd zu5.2 2 ((zu5.2 2) + 1))) (ty := tyX10) (v := .int ((zu5.2 2) + 1)) (j := 2) (q47 hN rfl) (sh_29 g cy _) rfl tyX10_ok nmX10 (by decide) k503 rfl rfl rfl (Nat.le_of_ble_eq_true rfl) (sh_29 g cy _) dX10_addRule_235 (fun H locs hw => ?_)
            refine lv_aload_n hx hb dX10_addRule_238 rfl (lv_at hl 3 rfl) ?_
            refine w_get C hw (k := 29) (v := .int ((zu5.2 2) + 1)) (j := 2) (q47 hN rfl) (sh_29 g cy _) rfl (by decide) k503 rfl dX10_addRule_239 ?_
            refine lv_iconst (v := 1) hx hb dX10_addRule_242 (by decide) ?_
            refine lv_isub hx hb dX10_addRule_243 ?_
            have hR0 := (Option.some.inj hinv).symm
            subst hR0
            have hXe : (up (up (up (up (up (up (up X 29 zu5.2) 31 zw155) 32 zw196) 33 zw207) 34 zw217) 35 zw227) 29 (upd zu5.2 2 ((zu5.2 2) + 1))) = (up (up (up (up (up (up X 29 (upd zu5.2 2 ((zu5.2 2) + 1))) 31 zw155) 32 zw196) 33 zw207) 34 zw217) 35 zw227) := by
              funext j
              by_cases h29 : j = 29
              · subst h29; simp [up]
              by_cases h31 : j = 31
              · subst h31; simp [up]
              by_cases h32 : j = 32
              · subst h32; simp [up]
              by_cases h33 : j = 33
              · subst h33; simp [up]
              by_cases h34 : j = 34
              · subst h34; simp [up]
              by_cases h35 : j = 35
              · subst h35; simp [up]
              simp [up, h29, h31, h32, h33, h34, h35]
            rw [hXe] at hw
            exact hret 244 ls (((zu5.2 2) + 1) - 1) _ _ _ _ rfl hw (by decide) (by decide) dX10_addRule_244
          · have hinv := oi_t c_141 hinv
            refine lv_iconst (v := 0) hx hb dX10_addRule_144 (by decide) ?_
            have hR0 := (Option.some.inj hinv).symm
            subst hR0
            have hXe : (up X 29 zu5.2) = (up (up (up (up (up (up X 29 zu5.2) 31 (X 31)) 32 (X 32)) 33 (X 33)) 34 (X 34)) 35 (X 35)) := by
              funext j
              by_cases h29 : j = 29
              · subst h29; simp [up]
              by_cases h31 : j = 31
              · subst h31; simp [up]
              by_cases h32 : j = 32
              · subst h32; simp [up]
              by_cases h33 : j = 33
              · subst h33; simp [up]
              by_cases h34 : j = 34
              · subst h34; simp [up]
              by_cases h35 : j = 35
              · subst h35; simp [up]
              simp [up, h29, h31, h32, h33, h34, h35]
            rw [hXe] at hw
            exact hret 145 ls 0 _ _ _ _ rfl hw (by decide) (by decide) dX10_addRule_145
        have hinv := hzu4
        refine lv_iload hx hb dX10_addRule_105 (lv_at hl 2 rfl) ?_
        refine lv_if_eq (tgt := 120) hx hb dX10_addRule_107 (by decide) (fun c_107 => ?_) (fun c_107 => ?_)
        · have hinv := oi_t c_107 hinv
          refine lv_iconst (v := 1) hx hb dX10_addRule_120 (by decide) ?_
          refine lv_goto (tgt := 138) hx hb dX10_addRule_121 (by decide) ?_
          have hR9 := Option.some.inj hinv
          subst hR9
          exact hx105 _ _ ls hw (lv_sub hl [0, 1, 2, 3, 4, 5, 6, 7, 8] rfl)
        · have hinv := oi_f c_107 hinv
          refine lv_iload hx hb dX10_addRule_110 (lv_at hl 1 rfl) ?_
          refine lv_if_eq (tgt := 120) hx hb dX10_addRule_112 (by decide) (fun c_112 => ?_) (fun c_112 => ?_)
          · have hinv := oi_t c_112 hinv
            refine lv_iconst (v := 1) hx hb dX10_addRule_120 (by decide) ?_
            refine lv_goto (tgt := 138) hx hb dX10_addRule_121 (by decide) ?_
            have hR9 := Option.some.inj hinv
            subst hR9
            exact hx105 _ _ ls hw (lv_sub hl [0, 1, 2, 3, 4, 5, 6, 7, 8] rfl)
          · have hinv := oi_f c_112 hinv
            refine lv_iload hx hb dX10_addRule_115 (lv_at hl 0 rfl) ?_
            refine lv_if_eq (tgt := 124) hx hb dX10_addRule_117 (by decide) (fun c_117 => ?_) (fun c_117 => ?_)
            · have hinv := oi_t c_117 hinv
              refine lv_aload_n hx hb dX10_addRule_124 rfl (lv_at hl 3 rfl) ?_
              refine w_get C hw (k := 29) (v := .int ((X 29) 2)) (j := 2) (q47 hN rfl) (sh_29 g cy _) rfl (by decide) k503 rfl dX10_addRule_125 ?_
              refine lv_bipush (v := 12) hx hb dX10_addRule_128 (by decide) ?_
              refine lv_icmp_ne (tgt := 137) hx hb dX10_addRule_130 (by decide) (fun c_130 => ?_) (fun c_130 => ?_)
              · have hinv := oi_f c_130 hinv
                refine lv_iconst (v := 0) hx hb dX10_addRule_137 (by decide) ?_
                have hR9 := Option.some.inj hinv
                subst hR9
                exact hx105 _ _ ls hw (lv_sub hl [0, 1, 2, 3, 4, 5, 6, 7, 8] rfl)
              · have hinv := oi_t c_130 hinv
                refine lv_iconst (v := 2) hx hb dX10_addRule_133 (by decide) ?_
                refine lv_goto (tgt := 138) hx hb dX10_addRule_134 (by decide) ?_
                have hR9 := Option.some.inj hinv
                subst hR9
                exact hx105 _ _ ls hw (lv_sub hl [0, 1, 2, 3, 4, 5, 6, 7, 8] rfl)
            · have hinv := oi_f c_117 hinv
              refine lv_iconst (v := 1) hx hb dX10_addRule_120 (by decide) ?_
              refine lv_goto (tgt := 138) hx hb dX10_addRule_121 (by decide) ?_
              have hR9 := Option.some.inj hinv
              subst hR9
              exact hx105 _ _ ls hw (lv_sub hl [0, 1, 2, 3, 4, 5, 6, 7, 8] rfl)
      have hinv := hzu3
      refine lv_iload_n hx hb dX10_addRule_72 rfl (lv_at hl 4 rfl) ?_
      refine lv_if_eq (tgt := 87) hx hb dX10_addRule_73 (by decide) (fun c_73 => ?_) (fun c_73 => ?_)
      · have hinv := oi_t c_73 hinv
        refine lv_iload_n hx hb dX10_addRule_87 rfl (lv_at hl 5 rfl) ?_
        refine lv_if_eq (tgt := 101) hx hb dX10_addRule_88 (by decide) (fun c_88 => ?_) (fun c_88 => ?_)
        · have hinv := oi_t c_88 hinv
          refine lv_iconst (v := 0) hx hb dX10_addRule_101 (by decide) ?_
          have hR9 := Option.some.inj hinv
          subst hR9
          exact hx72 _ _ ls hw (lv_sub hl [0, 1, 2, 3, 4, 5, 6, 7] rfl)
        · have hinv := oi_f c_88 hinv
          refine lv_iload_n hx hb dX10_addRule_91 rfl (lv_at hl 5 rfl) ?_
          refine lv_iload hx hb dX10_addRule_92 (lv_at hl 6 rfl) ?_
          refine lv_icmp_ne (tgt := 101) hx hb dX10_addRule_94 (by decide) (fun c_94 => ?_) (fun c_94 => ?_)
          · have hinv := oi_f c_94 hinv
            refine lv_iconst (v := 0) hx hb dX10_addRule_101 (by decide) ?_
            have hR9 := Option.some.inj hinv
            subst hR9
            exact hx72 _ _ ls hw (lv_sub hl [0, 1, 2, 3, 4, 5, 6, 7] rfl)
          · have hinv := oi_t c_94 hinv
            refine lv_iconst (v := 1) hx hb dX10_addRule_97 (by decide) ?_
            refine lv_goto (tgt := 102) hx hb dX10_addRule_98 (by decide) ?_
            have hR9 := Option.some.inj hinv
            subst hR9
            exact hx72 _ _ ls hw (lv_sub hl [0, 1, 2, 3, 4, 5, 6, 7] rfl)
      · have hinv := oi_f c_73 hinv
        refine lv_iload_n hx hb dX10_addRule_76 rfl (lv_at hl 4 rfl) ?_
        refine lv_iload_n hx hb dX10_addRule_77 rfl (lv_at hl 5 rfl) ?_
        refine lv_icmp_eq (tgt := 97) hx hb dX10_addRule_78 (by decide) (fun c_78 => ?_) (fun c_78 => ?_)
        · have hinv := oi_t c_78 hinv
          refine lv_iconst (v := 1) hx hb dX10_addRule_97 (by decide) ?_
          refine lv_goto (tgt := 102) hx hb dX10_addRule_98 (by decide) ?_
          have hR9 := Option.some.inj hinv
          subst hR9
          exact hx72 _ _ ls hw (lv_sub hl [0, 1, 2, 3, 4, 5, 6, 7] rfl)
        · have hinv := oi_f c_78 hinv
          refine lv_iload_n hx hb dX10_addRule_81 rfl (lv_at hl 4 rfl) ?_
          refine lv_iload hx hb dX10_addRule_82 (lv_at hl 6 rfl) ?_
          refine lv_icmp_eq (tgt := 97) hx hb dX10_addRule_84 (by decide) (fun c_84 => ?_) (fun c_84 => ?_)
          · have hinv := oi_t c_84 hinv
            refine lv_iconst (v := 1) hx hb dX10_addRule_97 (by decide) ?_
            refine lv_goto (tgt := 102) hx hb dX10_addRule_98 (by decide) ?_
            have hR9 := Option.some.inj hinv
            subst hR9
            exact hx72 _ _ ls hw (lv_sub hl [0, 1, 2, 3, 4, 5, 6, 7] rfl)
          · have hinv := oi_f c_84 hinv
            refine lv_iload_n hx hb dX10_addRule_87 rfl (lv_at hl 5 rfl) ?_
            refine lv_if_eq (tgt := 101) hx hb dX10_addRule_88 (by decide) (fun c_88 => ?_) (fun c_88 => ?_)
            · have hinv := oi_t c_88 hinv
              refine lv_iconst (v := 0) hx hb dX10_addRule_101 (by decide) ?_
              have hR9 := Option.some.inj hinv
              subst hR9
              exact hx72 _ _ ls hw (lv_sub hl [0, 1, 2, 3, 4, 5, 6, 7] rfl)
            · have hinv := oi_f c_88 hinv
              refine lv_iload_n hx hb dX10_addRule_91 rfl (lv_at hl 5 rfl) ?_
              refine lv_iload hx hb dX10_addRule_92 (lv_at hl 6 rfl) ?_
              refine lv_icmp_ne (tgt := 101) hx hb dX10_addRule_94 (by decide) (fun c_94 => ?_) (fun c_94 => ?_)
              · have hinv := oi_f c_94 hinv
                refine lv_iconst (v := 0) hx hb dX10_addRule_101 (by decide) ?_
                have hR9 := Option.some.inj hinv
                subst hR9
                exact hx72 _ _ ls hw (lv_sub hl [0, 1, 2, 3, 4, 5, 6, 7] rfl)
              · have hinv := oi_t c_94 hinv
                refine lv_iconst (v := 1) hx hb dX10_addRule_97 (by decide) ?_
                refine lv_goto (tgt := 102) hx hb dX10_addRule_98 (by decide) ?_
                have hR9 := Option.some.inj hinv
                subst hR9
                exact hx72 _ _ ls hw (lv_sub hl [0, 1, 2, 3, 4, 5, 6, 7] rfl)
    have hinv := hzu2
    refine lv_iload_n hx hb dX10_addRule_48 rfl (lv_at hl 3 rfl) ?_
    refine lv_if_ne (tgt := 56) hx hb dX10_addRule_49 (by decide) (fun c_49 => ?_) (fun c_49 => ?_)
    · have hinv := oi_f c_49 hinv
      refine lv_iload_n hx hb dX10_addRule_56 rfl (lv_at hl 4 rfl) ?_
      refine lv_if_ne (tgt := 65) hx hb dX10_addRule_57 (by decide) (fun c_57 => ?_) (fun c_57 => ?_)
      · have hinv := oi_f c_57 hinv
        refine lv_iconst (v := 1) hx hb dX10_addRule_65 (by decide) ?_
        refine lv_goto (tgt := 70) hx hb dX10_addRule_66 (by decide) ?_
        have hR9 := Option.some.inj hinv
        subst hR9
        exact hx48 _ _ ls hw (lv_sub hl [0, 1, 2, 3, 4, 5, 6] rfl)
      · have hinv := oi_t c_57 hinv
        refine lv_iload hx hb dX10_addRule_60 (lv_at hl 5 rfl) ?_
        refine lv_if_ne (tgt := 69) hx hb dX10_addRule_62 (by decide) (fun c_62 => ?_) (fun c_62 => ?_)
        · have hinv := oi_f c_62 hinv
          refine lv_iconst (v := 0) hx hb dX10_addRule_69 (by decide) ?_
          have hR9 := Option.some.inj hinv
          subst hR9
          exact hx48 _ _ ls hw (lv_sub hl [0, 1, 2, 3, 4, 5, 6] rfl)
        · have hinv := oi_t c_62 hinv
          refine lv_iconst (v := 1) hx hb dX10_addRule_65 (by decide) ?_
          refine lv_goto (tgt := 70) hx hb dX10_addRule_66 (by decide) ?_
          have hR9 := Option.some.inj hinv
          subst hR9
          exact hx48 _ _ ls hw (lv_sub hl [0, 1, 2, 3, 4, 5, 6] rfl)
    · have hinv := oi_t c_49 hinv
      refine lv_iload_n hx hb dX10_addRule_52 rfl (lv_at hl 4 rfl) ?_
      refine lv_if_ne (tgt := 69) hx hb dX10_addRule_53 (by decide) (fun c_53 => ?_) (fun c_53 => ?_)
      · have hinv := oi_f c_53 hinv
        refine lv_iconst (v := 0) hx hb dX10_addRule_69 (by decide) ?_
        have hR9 := Option.some.inj hinv
        subst hR9
        exact hx48 _ _ ls hw (lv_sub hl [0, 1, 2, 3, 4, 5, 6] rfl)
      · have hinv := oi_t c_53 hinv
        refine lv_iload_n hx hb dX10_addRule_56 rfl (lv_at hl 4 rfl) ?_
        refine lv_if_ne (tgt := 65) hx hb dX10_addRule_57 (by decide) (fun cz => (cz c_53).elim) (fun _ => ?_)
        refine lv_iload hx hb dX10_addRule_60 (lv_at hl 5 rfl) ?_
        refine lv_if_ne (tgt := 69) hx hb dX10_addRule_62 (by decide) (fun c_62 => ?_) (fun c_62 => ?_)
        · have hinv := oi_f c_62 hinv
          refine lv_iconst (v := 0) hx hb dX10_addRule_69 (by decide) ?_
          have hR9 := Option.some.inj hinv
          subst hR9
          exact hx48 _ _ ls hw (lv_sub hl [0, 1, 2, 3, 4, 5, 6] rfl)
        · have hinv := oi_t c_62 hinv
          refine lv_iconst (v := 1) hx hb dX10_addRule_65 (by decide) ?_
          refine lv_goto (tgt := 70) hx hb dX10_addRule_66 (by decide) ?_
          have hR9 := Option.some.inj hinv
          subst hR9
          exact hx48 _ _ ls hw (lv_sub hl [0, 1, 2, 3, 4, 5, 6] rfl)
  have hinv := hzu1
  refine lv_iload_n hx hb dX10_addRule_0 rfl (lv_at hl 1 rfl) ?_
  obtain ⟨zu6, hzu6, hinv⟩ := ob hinv
  refine s_sRi (r0 := zu6) C hw (As := [.int za1]) bX10_isLiteral k492 (c_X10_isLiteral (X := X) hfl hN hzu6) rfl rfl dX10_addRule_1 ⟨rfl, rfl⟩ (by decide) hl.1 (Nat.le_of_ble_eq_true rfl) ⟨Nat.le_of_ble_eq_true rfl, Nat.le_of_ble_eq_true rfl⟩ ?_
  refine lv_if_eq (tgt := 45) hx hb dX10_addRule_4 (by decide) (fun c_4 => ?_) (fun c_4 => ?_)
  · have hinv := oi_t c_4 hinv
    refine lv_iconst (v := 0) hx hb dX10_addRule_45 (by decide) ?_
    have hR9 := Option.some.inj hinv
    subst hR9
    exact hx0 _ _ ls hw (lv_sub hl [0, 1, 2, 3, 4, 5] rfl)
  · have hinv := oi_f c_4 hinv
    refine lv_iload_n hx hb dX10_addRule_7 rfl (lv_at hl 2 rfl) ?_
    obtain ⟨zu7, hzu7, hinv⟩ := ob hinv
    refine s_sRi (r0 := zu7) C hw (As := [.int za2]) bX10_isLiteralOrNone k504 (c_X10_isLiteralOrNone (X := X) hfl hN hzu7) rfl rfl dX10_addRule_8 ⟨rfl, rfl⟩ (by decide) hl.1 (Nat.le_of_ble_eq_true rfl) ⟨Nat.le_of_ble_eq_true rfl, Nat.le_of_ble_eq_true rfl⟩ ?_
    refine lv_if_eq (tgt := 45) hx hb dX10_addRule_11 (by decide) (fun c_11 => ?_) (fun c_11 => ?_)
    · have hinv := oi_t c_11 hinv
      refine lv_iconst (v := 0) hx hb dX10_addRule_45 (by decide) ?_
      have hR9 := Option.some.inj hinv
      subst hR9
      exact hx0 _ _ ls hw (lv_sub hl [0, 1, 2, 3, 4, 5] rfl)
    · have hinv := oi_f c_11 hinv
      refine lv_iload_n hx hb dX10_addRule_14 rfl (lv_at hl 3 rfl) ?_
      obtain ⟨zu8, hzu8, hinv⟩ := ob hinv
      refine s_sRi (r0 := zu8) C hw (As := [.int za3]) bX10_isLiteralOrNone k504 (c_X10_isLiteralOrNone (X := X) hfl hN hzu8) rfl rfl dX10_addRule_15 ⟨rfl, rfl⟩ (by decide) hl.1 (Nat.le_of_ble_eq_true rfl) ⟨Nat.le_of_ble_eq_true rfl, Nat.le_of_ble_eq_true rfl⟩ ?_
      refine lv_if_eq (tgt := 45) hx hb dX10_addRule_18 (by decide) (fun c_18 => ?_) (fun c_18 => ?_)
      · have hinv := oi_t c_18 hinv
        refine lv_iconst (v := 0) hx hb dX10_addRule_45 (by decide) ?_
        have hR9 := Option.some.inj hinv
        subst hR9
        exact hx0 _ _ ls hw (lv_sub hl [0, 1, 2, 3, 4, 5] rfl)
      · have hinv := oi_f c_18 hinv
        refine lv_iload hx hb dX10_addRule_21 (lv_at hl 4 rfl) ?_
        obtain ⟨zu9, hzu9, hinv⟩ := ob hinv
        refine s_sRi (r0 := zu9) C hw (As := [.int za4]) bX10_isLiteralOrNone k504 (c_X10_isLiteralOrNone (X := X) hfl hN hzu9) rfl rfl dX10_addRule_23 ⟨rfl, rfl⟩ (by decide) hl.1 (Nat.le_of_ble_eq_true rfl) ⟨Nat.le_of_ble_eq_true rfl, Nat.le_of_ble_eq_true rfl⟩ ?_
        refine lv_if_eq (tgt := 45) hx hb dX10_addRule_26 (by decide) (fun c_26 => ?_) (fun c_26 => ?_)
        · have hinv := oi_t c_26 hinv
          refine lv_iconst (v := 0) hx hb dX10_addRule_45 (by decide) ?_
          have hR9 := Option.some.inj hinv
          subst hR9
          exact hx0 _ _ ls hw (lv_sub hl [0, 1, 2, 3, 4, 5] rfl)
        · have hinv := oi_f c_26 hinv
          refine lv_iload hx hb dX10_addRule_29 (lv_at hl 5 rfl) ?_
          refine lv_if_lt (tgt := 45) hx hb dX10_addRule_31 (by decide) (fun c_31 => ?_) (fun c_31 => ?_)
          · have hinv := oi_t c_31 hinv
            refine lv_iconst (v := 0) hx hb dX10_addRule_45 (by decide) ?_
            have hR9 := Option.some.inj hinv
            subst hR9
            exact hx0 _ _ ls hw (lv_sub hl [0, 1, 2, 3, 4, 5] rfl)
          · have hinv := oi_f c_31 hinv
            refine lv_iload hx hb dX10_addRule_34 (lv_at hl 5 rfl) ?_
            refine lv_bipush (v := 9) hx hb dX10_addRule_36 (by decide) ?_
            refine lv_icmp_gt (tgt := 45) hx hb dX10_addRule_38 (by decide) (fun c_38 => ?_) (fun c_38 => ?_)
            · have hinv := oi_t c_38 hinv
              refine lv_iconst (v := 0) hx hb dX10_addRule_45 (by decide) ?_
              have hR9 := Option.some.inj hinv
              subst hR9
              exact hx0 _ _ ls hw (lv_sub hl [0, 1, 2, 3, 4, 5] rfl)
            · have hinv := oi_f c_38 hinv
              refine lv_iconst (v := 1) hx hb dX10_addRule_41 (by decide) ?_
              refine lv_goto (tgt := 46) hx hb dX10_addRule_42 (by decide) ?_
              have hR9 := Option.some.inj hinv
              subst hR9
              exact hx0 _ _ ls hw (lv_sub hl [0, 1, 2, 3, 4, 5] rfl)
def m_X10_isRule (F : Nat) (r29 : Nat → Int32) (za1 : Int32) : Option (Int32) := if za1 < 0 then (some (0 : Int32)) else (if (r29 2) ≤ za1 then (some (0 : Int32)) else (some (1 : Int32)))
set_option maxHeartbeats 4000000 in
set_option maxRecDepth 100000 in
theorem c_X10_isRule {l : Launch} {D : va_G} {cy : Nat → Nat} {g : Nat → Nat} {N : Nat} {X : Nat → Nat → Int32} {F : Nat} {za1 : Int32} {R0 : Int32} (hfl : l.stackTraces = false) (hN : 47 ≤ N) (hinv : m_X10_isRule F (X 29) za1 = some R0) : sRi l D cy yX10_isRule cX10_isRule 2 (some .boolean) 0 [.ref (g 29), .int za1] g N X R0 := by
  refine jRz (own := RX10) (by decide) rfl hfl (Nat.le_of_ble_eq_true rfl) rfl ?_
  intro p e R s m args below meth c ls A Q hRe C hw hl hret
  subst hRe
  have hx := C.1
  have hb := C.2.1
  have hl : lv_has ls 2 [(0, .ref (g 29)), (1, .int za1)] := hl
  rw [m_X10_isRule] at hinv
  refine lv_iload_n hx hb dX10_isRule_0 rfl (lv_at hl 1 rfl) ?_
  refine lv_if_lt (tgt := 16) hx hb dX10_isRule_1 (by decide) (fun c_1 => ?_) (fun c_1 => ?_)
  · have hinv := oi_t c_1 hinv
    refine lv_iconst (v := 0) hx hb dX10_isRule_16 (by decide) ?_
    exact hret 17 ls 0 (Option.some.inj hinv) (by decide) dX10_isRule_17
  · have hinv := oi_f c_1 hinv
    refine lv_iload_n hx hb dX10_isRule_4 rfl (lv_at hl 1 rfl) ?_
    refine lv_aload_n hx hb dX10_isRule_5 rfl (lv_at hl 0 rfl) ?_
    refine w_get C hw (k := 29) (v := .int ((X 29) 2)) (j := 2) (q47 hN rfl) (sh_29 g cy _) rfl (by decide) k503 rfl dX10_isRule_6 ?_
    refine lv_icmp_ge (tgt := 16) hx hb dX10_isRule_9 (by decide) (fun c_9 => ?_) (fun c_9 => ?_)
    · have hinv := oi_t c_9 hinv
      refine lv_iconst (v := 0) hx hb dX10_isRule_16 (by decide) ?_
      exact hret 17 ls 0 (Option.some.inj hinv) (by decide) dX10_isRule_17
    · have hinv := oi_f c_9 hinv
      refine lv_iconst (v := 1) hx hb dX10_isRule_12 (by decide) ?_
      refine lv_goto (tgt := 17) hx hb dX10_isRule_13 (by decide) ?_
      exact hret 17 ls 1 (Option.some.inj hinv) (by decide) dX10_isRule_17
def m_X10_setPriority (F : Nat) (r29 : Nat → Int32) (r33 : Nat → Int32) (za1 : Int32) (za2 : Int32) : Option (Int32 × (Nat → Int32) × (Nat → Int32)) := Option.bind (Option.bind (m_X10_isRule F r29 za1) (fun zu3 => if zu3 = 0 then (some (1 : Int32)) else (if za2 < 0 then (some (2 : Int32)) else (if za2 ≤ 9 then (some (0 : Int32)) else (some (2 : Int32)))))) (fun zu1 => Option.bind (m_X10_passes F r29 zu1) (fun zu2 => if zu2.1 = 0 then (some (0, zu2.2, r33)) else (if ¬ (za1 < 0 ∨ 12 ≤ za1.toNatClampNeg) then (if ¬ (za1 < 0 ∨ 12 ≤ za1.toNatClampNeg) then (some ((r33 za1.toNatClampNeg), zu2.2, (upd r33 za1.toNatClampNeg za2))) else none) else none)))
set_option maxHeartbeats 4000000 in
set_option maxRecDepth 100000 in
theorem c_X10_setPriority {l : Launch} {D : va_G} {cy : Nat → Nat} {g : Nat → Nat} {N : Nat} {X : Nat → Nat → Int32} {F : Nat} {za1 : Int32} {za2 : Int32} {R0 : Int32 × (Nat → Int32) × (Nat → Int32)} (hfl : l.stackTraces = false) (hN : 47 ≤ N) (hinv : m_X10_setPriority F (X 29) (X 33) za1 za2 = some R0) : sWi l D cy yX10_setPriority cX10_setPriority 4 (some .int) 1 0 0 [.ref (g 29), .int za1, .int za2] g N X R0.1 (up (up X 29 R0.2.1) 33 R0.2.2) := by
  refine jWi (own := RX10) (by decide) rfl hfl (Nat.le_of_ble_eq_true rfl) rfl ?_
  intro p e R s m args below meth c ls A Q hRe C hw hl hret
  subst hRe
  have hx := C.1
  have hb := C.2.1
  have hl : lv_has ls 4 [(0, .ref (g 29)), (1, .int za1), (2, .int za2)] := hl
  rw [m_X10_setPriority] at hinv
  refine lv_aload_n hx hb dX10_setPriority_0 rfl (lv_at hl 0 rfl) ?_
  obtain ⟨zu1, hzu1, hinv⟩ := ob hinv
  have hx1 : ∀ (H : Heap) (locs : List Loc) (ls : Array Slot), Wd D A s.heap g N (shp g cy X) H locs → lv_has ls 4 [(0, .ref (g 29)), (1, .int za1), (2, .int za2)] → W p l e (wR 1 0 0) s m args below meth c H locs 0 0 Q (F0 m 28 ls [.int zu1, .ref (g 29)]) := by
    intro H locs ls hw hl
    obtain ⟨zu2, hzu2, hinv⟩ := ob hinv
    refine s_vWi (r0 := zu2.1) C hw (As := [.int zu1]) bX10_passes k495 (k := 29) (q47 hN rfl) (sh_29 g cy _) rfl (c_X10_passes (X := X) hfl hN hzu2) rfl rfl dX10_setPriority_28 ⟨rfl, rfl⟩ (by decide) hl.1 (Nat.le_of_ble_eq_true rfl) ⟨Nat.le_of_ble_eq_true rfl, Nat.le_of_ble_eq_true rfl⟩ (fun H locs hw => ?_)
    refine lv_if_ne (tgt := 36) hx hb dX10_setPriority_31 (by decide) (fun c_31 => ?_) (fun c_31 => ?_)
    · have hinv := oi_f c_31 hinv
      refine lv_aload_n hx hb dX10_setPriority_36 rfl (lv_at hl 0 rfl) ?_
      refine w_get C hw (k := 29) (v := .ref (g 33)) (j := 5) (q47 hN rfl) (sh_29 g cy _) rfl (by decide) k472 rfl dX10_setPriority_37 ?_
      refine lv_iload_n hx hb dX10_setPriority_40 rfl (lv_at hl 1 rfl) ?_
      obtain ⟨hb_41, hinv⟩ := oi_c hinv
      refine s_iald C hw (k := 33) (a := (X 33)) (q47 hN rfl) (fun r => sh_33 g cy r) rfl hb_41 dX10_setPriority_41 ?_
      refine lv_istore_n (lv' := [(3, .int ((X 33) za1.toNatClampNeg)), (0, .ref (g 29)), (1, .int za1), (2, .int za2)]) hx hb dX10_setPriority_42 rfl hl (by decide) rfl (fun ls hl => ?_)
      refine lv_aload_n hx hb dX10_setPriority_43 rfl (lv_at hl 1 rfl) ?_
      refine w_get C hw (k := 29) (v := .ref (g 33)) (j := 5) (q47 hN rfl) (sh_29 g cy _) rfl (by decide) k472 rfl dX10_setPriority_44 ?_
      refine lv_iload_n hx hb dX10_setPriority_47 rfl (lv_at hl 2 rfl) ?_
      refine lv_iload_n hx hb dX10_setPriority_48 rfl (lv_at hl 3 rfl) ?_
      obtain ⟨hb_49, hinv⟩ := oi_c hinv
      refine s_iast C hw (k := 33) (a := (X 33)) (q47 hN rfl) (fun r => sh_33 g cy r) rfl hb_49 dX10_setPriority_49 (fun H locs zw49 hw49 hw => ?_)
      try rw [← hw49] at hinv
      refine lv_iload_n hx hb dX10_setPriority_50 rfl (lv_at hl 0 rfl) ?_
      have hR0 := (Option.some.inj hinv).symm
      subst hR0
      exact hret 51 ls ((X 33) za1.toNatClampNeg) _ _ _ _ rfl hw (by decide) (by decide) dX10_setPriority_51
    · have hinv := oi_t c_31 hinv
      refine lv_iconst (v := 0) hx hb dX10_setPriority_34 (by decide) ?_
      have hR0 := (Option.some.inj hinv).symm
      subst hR0
      have hXe : (up X 29 zu2.2) = (up (up X 29 zu2.2) 33 (X 33)) := by
        funext j
        by_cases h29 : j = 29
        · subst h29; simp [up]
        by_cases h33 : j = 33
        · subst h33; simp [up]
        simp [up, h29, h33]
      rw [hXe] at hw
      exact hret 35 ls 0 _ _ _ _ rfl hw (by decide) (by decide) dX10_setPriority_35
  have hinv := hzu1
  refine lv_aload_n hx hb dX10_setPriority_1 rfl (lv_at hl 0 rfl) ?_
  refine lv_iload_n hx hb dX10_setPriority_2 rfl (lv_at hl 1 rfl) ?_
  obtain ⟨zu3, hzu3, hinv⟩ := ob hinv
  refine s_vRi (r0 := zu3) C hw (As := [.int za1]) bX10_isRule k508 (k := 29) (q47 hN rfl) (sh_29 g cy _) rfl (c_X10_isRule (X := X) hfl hN hzu3) rfl rfl dX10_setPriority_3 ⟨rfl, rfl⟩ (by decide) hl.1 (Nat.le_of_ble_eq_true rfl) ⟨Nat.le_of_ble_eq_true rfl, Nat.le_of_ble_eq_true rfl⟩ ?_
  refine lv_if_ne (tgt := 13) hx hb dX10_setPriority_6 (by decide) (fun c_6 => ?_) (fun c_6 => ?_)
  · have hinv := oi_f c_6 hinv
    refine lv_iload_n hx hb dX10_setPriority_13 rfl (lv_at hl 2 rfl) ?_
    refine lv_if_lt (tgt := 23) hx hb dX10_setPriority_14 (by decide) (fun c_14 => ?_) (fun c_14 => ?_)
    · have hinv := oi_t c_14 hinv
      refine lv_iconst (v := 2) hx hb dX10_setPriority_23 (by decide) ?_
      refine lv_goto (tgt := 28) hx hb dX10_setPriority_24 (by decide) ?_
      have hR9 := Option.some.inj hinv
      subst hR9
      exact hx1 _ _ ls hw (lv_sub hl [0, 1, 2] rfl)
    · have hinv := oi_f c_14 hinv
      refine lv_iload_n hx hb dX10_setPriority_17 rfl (lv_at hl 2 rfl) ?_
      refine lv_bipush (v := 9) hx hb dX10_setPriority_18 (by decide) ?_
      refine lv_icmp_le (tgt := 27) hx hb dX10_setPriority_20 (by decide) (fun c_20 => ?_) (fun c_20 => ?_)
      · have hinv := oi_t c_20 hinv
        refine lv_iconst (v := 0) hx hb dX10_setPriority_27 (by decide) ?_
        have hR9 := Option.some.inj hinv
        subst hR9
        exact hx1 _ _ ls hw (lv_sub hl [0, 1, 2] rfl)
      · have hinv := oi_f c_20 hinv
        refine lv_iconst (v := 2) hx hb dX10_setPriority_23 (by decide) ?_
        refine lv_goto (tgt := 28) hx hb dX10_setPriority_24 (by decide) ?_
        have hR9 := Option.some.inj hinv
        subst hR9
        exact hx1 _ _ ls hw (lv_sub hl [0, 1, 2] rfl)
  · have hinv := oi_t c_6 hinv
    refine lv_iconst (v := 1) hx hb dX10_setPriority_9 (by decide) ?_
    refine lv_goto (tgt := 28) hx hb dX10_setPriority_10 (by decide) ?_
    have hR9 := Option.some.inj hinv
    subst hR9
    exact hx1 _ _ ls hw (lv_sub hl [0, 1, 2] rfl)
def m_X10_setException (F : Nat) (r29 : Nat → Int32) (r34 : Nat → Int32) (za1 : Int32) (za2 : Int32) : Option (Int32 × (Nat → Int32) × (Nat → Int32)) := Option.bind (Option.bind (m_X10_isRule F r29 za1) (fun zu3 => if zu3 = 0 then (some (1 : Int32)) else (Option.bind (m_X10_isLiteralOrNone F za2) (fun zu4 => if zu4 = 0 then (some (2 : Int32)) else (some (0 : Int32)))))) (fun zu1 => Option.bind (m_X10_passes F r29 zu1) (fun zu2 => if zu2.1 = 0 then (some (0, zu2.2, r34)) else (if ¬ (za1 < 0 ∨ 12 ≤ za1.toNatClampNeg) then (if ¬ (za1 < 0 ∨ 12 ≤ za1.toNatClampNeg) then (some ((r34 za1.toNatClampNeg), zu2.2, (upd r34 za1.toNatClampNeg za2))) else none) else none)))
set_option maxHeartbeats 4000000 in
set_option maxRecDepth 100000 in
theorem c_X10_setException {l : Launch} {D : va_G} {cy : Nat → Nat} {g : Nat → Nat} {N : Nat} {X : Nat → Nat → Int32} {F : Nat} {za1 : Int32} {za2 : Int32} {R0 : Int32 × (Nat → Int32) × (Nat → Int32)} (hfl : l.stackTraces = false) (hN : 47 ≤ N) (hinv : m_X10_setException F (X 29) (X 34) za1 za2 = some R0) : sWi l D cy yX10_setException cX10_setException 4 (some .int) 1 0 0 [.ref (g 29), .int za1, .int za2] g N X R0.1 (up (up X 29 R0.2.1) 34 R0.2.2) := by
  refine jWi (own := RX10) (by decide) rfl hfl (Nat.le_of_ble_eq_true rfl) rfl ?_
  intro p e R s m args below meth c ls A Q hRe C hw hl hret
  subst hRe
  have hx := C.1
  have hb := C.2.1
  have hl : lv_has ls 4 [(0, .ref (g 29)), (1, .int za1), (2, .int za2)] := hl
  rw [m_X10_setException] at hinv
  refine lv_aload_n hx hb dX10_setException_0 rfl (lv_at hl 0 rfl) ?_
  obtain ⟨zu1, hzu1, hinv⟩ := ob hinv
  have hx1 : ∀ (H : Heap) (locs : List Loc) (ls : Array Slot), Wd D A s.heap g N (shp g cy X) H locs → lv_has ls 4 [(0, .ref (g 29)), (1, .int za1), (2, .int za2)] → W p l e (wR 1 0 0) s m args below meth c H locs 0 0 Q (F0 m 25 ls [.int zu1, .ref (g 29)]) := by
    intro H locs ls hw hl
    obtain ⟨zu2, hzu2, hinv⟩ := ob hinv
    refine s_vWi (r0 := zu2.1) C hw (As := [.int zu1]) bX10_passes k495 (k := 29) (q47 hN rfl) (sh_29 g cy _) rfl (c_X10_passes (X := X) hfl hN hzu2) rfl rfl dX10_setException_25 ⟨rfl, rfl⟩ (by decide) hl.1 (Nat.le_of_ble_eq_true rfl) ⟨Nat.le_of_ble_eq_true rfl, Nat.le_of_ble_eq_true rfl⟩ (fun H locs hw => ?_)
    refine lv_if_ne (tgt := 33) hx hb dX10_setException_28 (by decide) (fun c_28 => ?_) (fun c_28 => ?_)
    · have hinv := oi_f c_28 hinv
      refine lv_aload_n hx hb dX10_setException_33 rfl (lv_at hl 0 rfl) ?_
      refine w_get C hw (k := 29) (v := .ref (g 34)) (j := 6) (q47 hN rfl) (sh_29 g cy _) rfl (by decide) k473 rfl dX10_setException_34 ?_
      refine lv_iload_n hx hb dX10_setException_37 rfl (lv_at hl 1 rfl) ?_
      obtain ⟨hb_38, hinv⟩ := oi_c hinv
      refine s_iald C hw (k := 34) (a := (X 34)) (q47 hN rfl) (fun r => sh_34 g cy r) rfl hb_38 dX10_setException_38 ?_
      refine lv_istore_n (lv' := [(3, .int ((X 34) za1.toNatClampNeg)), (0, .ref (g 29)), (1, .int za1), (2, .int za2)]) hx hb dX10_setException_39 rfl hl (by decide) rfl (fun ls hl => ?_)
      refine lv_aload_n hx hb dX10_setException_40 rfl (lv_at hl 1 rfl) ?_
      refine w_get C hw (k := 29) (v := .ref (g 34)) (j := 6) (q47 hN rfl) (sh_29 g cy _) rfl (by decide) k473 rfl dX10_setException_41 ?_
      refine lv_iload_n hx hb dX10_setException_44 rfl (lv_at hl 2 rfl) ?_
      refine lv_iload_n hx hb dX10_setException_45 rfl (lv_at hl 3 rfl) ?_
      obtain ⟨hb_46, hinv⟩ := oi_c hinv
      refine s_iast C hw (k := 34) (a := (X 34)) (q47 hN rfl) (fun r => sh_34 g cy r) rfl hb_46 dX10_setException_46 (fun H locs zw46 hw46 hw => ?_)
      try rw [← hw46] at hinv
      refine lv_iload_n hx hb dX10_setException_47 rfl (lv_at hl 0 rfl) ?_
      have hR0 := (Option.some.inj hinv).symm
      subst hR0
      exact hret 48 ls ((X 34) za1.toNatClampNeg) _ _ _ _ rfl hw (by decide) (by decide) dX10_setException_48
    · have hinv := oi_t c_28 hinv
      refine lv_iconst (v := 0) hx hb dX10_setException_31 (by decide) ?_
      have hR0 := (Option.some.inj hinv).symm
      subst hR0
      have hXe : (up X 29 zu2.2) = (up (up X 29 zu2.2) 34 (X 34)) := by
        funext j
        by_cases h29 : j = 29
        · subst h29; simp [up]
        by_cases h34 : j = 34
        · subst h34; simp [up]
        simp [up, h29, h34]
      rw [hXe] at hw
      exact hret 32 ls 0 _ _ _ _ rfl hw (by decide) (by decide) dX10_setException_32
  have hinv := hzu1
  refine lv_aload_n hx hb dX10_setException_1 rfl (lv_at hl 0 rfl) ?_
  refine lv_iload_n hx hb dX10_setException_2 rfl (lv_at hl 1 rfl) ?_
  obtain ⟨zu3, hzu3, hinv⟩ := ob hinv
  refine s_vRi (r0 := zu3) C hw (As := [.int za1]) bX10_isRule k508 (k := 29) (q47 hN rfl) (sh_29 g cy _) rfl (c_X10_isRule (X := X) hfl hN hzu3) rfl rfl dX10_setException_3 ⟨rfl, rfl⟩ (by decide) hl.1 (Nat.le_of_ble_eq_true rfl) ⟨Nat.le_of_ble_eq_true rfl, Nat.le_of_ble_eq_true rfl⟩ ?_
  refine lv_if_ne (tgt := 13) hx hb dX10_setException_6 (by decide) (fun c_6 => ?_) (fun c_6 => ?_)
  · have hinv := oi_f c_6 hinv
    refine lv_iload_n hx hb dX10_setException_13 rfl (lv_at hl 2 rfl) ?_
    obtain ⟨zu4, hzu4, hinv⟩ := ob hinv
    refine s_sRi (r0 := zu4) C hw (As := [.int za2]) bX10_isLiteralOrNone k504 (c_X10_isLiteralOrNone (X := X) hfl hN hzu4) rfl rfl dX10_setException_14 ⟨rfl, rfl⟩ (by decide) hl.1 (Nat.le_of_ble_eq_true rfl) ⟨Nat.le_of_ble_eq_true rfl, Nat.le_of_ble_eq_true rfl⟩ ?_
    refine lv_if_eq (tgt := 24) hx hb dX10_setException_17 (by decide) (fun c_17 => ?_) (fun c_17 => ?_)
    · have hinv := oi_t c_17 hinv
      refine lv_iconst (v := 2) hx hb dX10_setException_24 (by decide) ?_
      have hR9 := Option.some.inj hinv
      subst hR9
      exact hx1 _ _ ls hw (lv_sub hl [0, 1, 2] rfl)
    · have hinv := oi_f c_17 hinv
      refine lv_iconst (v := 0) hx hb dX10_setException_20 (by decide) ?_
      refine lv_goto (tgt := 25) hx hb dX10_setException_21 (by decide) ?_
      have hR9 := Option.some.inj hinv
      subst hR9
      exact hx1 _ _ ls hw (lv_sub hl [0, 1, 2] rfl)
  · have hinv := oi_t c_6 hinv
    refine lv_iconst (v := 1) hx hb dX10_setException_9 (by decide) ?_
    refine lv_goto (tgt := 25) hx hb dX10_setException_10 (by decide) ?_
    have hR9 := Option.some.inj hinv
    subst hR9
    exact hx1 _ _ ls hw (lv_sub hl [0, 1, 2] rfl)
def m_X10_turn (F : Nat) (r29 : Nat → Int32) (r35 : Nat → Int32) (za1 : Int32) (za2 : Int32) : Option (Int32 × (Nat → Int32) × (Nat → Int32)) := Option.bind (Option.bind (m_X10_isRule F r29 za1) (fun zu3 => if zu3 = 0 then (some (1 : Int32)) else (some (0 : Int32)))) (fun zu1 => Option.bind (m_X10_passes F r29 zu1) (fun zu2 => if zu2.1 = 0 then (some (0, zu2.2, r35)) else (if ¬ (za1 < 0 ∨ 12 ≤ za1.toNatClampNeg) then (if za2 = 0 ∨ za2 = 1 then (if ¬ (za1 < 0 ∨ 12 ≤ za1.toNatClampNeg) then (if (r35 za1.toNatClampNeg) = 0 ∨ (r35 za1.toNatClampNeg) = 1 then (some ((r35 za1.toNatClampNeg), zu2.2, (upd r35 za1.toNatClampNeg za2))) else none) else none) else none) else none)))
set_option maxHeartbeats 4000000 in
set_option maxRecDepth 100000 in
theorem c_X10_turn {l : Launch} {D : va_G} {cy : Nat → Nat} {g : Nat → Nat} {N : Nat} {X : Nat → Nat → Int32} {F : Nat} {za1 : Int32} {za2 : Int32} {R0 : Int32 × (Nat → Int32) × (Nat → Int32)} (hfl : l.stackTraces = false) (hN : 47 ≤ N) (hinv : m_X10_turn F (X 29) (X 35) za1 za2 = some R0) : sWi l D cy yX10_turn cX10_turn 4 (some .boolean) 1 0 0 [.ref (g 29), .int za1, .int za2] g N X R0.1 (up (up X 29 R0.2.1) 35 R0.2.2) := by
  refine jWz (own := RX10) (by decide) rfl hfl (Nat.le_of_ble_eq_true rfl) rfl ?_
  intro p e R s m args below meth c ls A Q hRe C hw hl hret
  subst hRe
  have hx := C.1
  have hb := C.2.1
  have hl : lv_has ls 4 [(0, .ref (g 29)), (1, .int za1), (2, .int za2)] := hl
  rw [m_X10_turn] at hinv
  refine lv_aload_n hx hb dX10_turn_0 rfl (lv_at hl 0 rfl) ?_
  obtain ⟨zu1, hzu1, hinv⟩ := ob hinv
  have hx1 : ∀ (H : Heap) (locs : List Loc) (ls : Array Slot), Wd D A s.heap g N (shp g cy X) H locs → lv_has ls 4 [(0, .ref (g 29)), (1, .int za1), (2, .int za2)] → W p l e (wR 1 0 0) s m args below meth c H locs 0 0 Q (F0 m 14 ls [.int zu1, .ref (g 29)]) := by
    intro H locs ls hw hl
    obtain ⟨zu2, hzu2, hinv⟩ := ob hinv
    refine s_vWi (r0 := zu2.1) C hw (As := [.int zu1]) bX10_passes k495 (k := 29) (q47 hN rfl) (sh_29 g cy _) rfl (c_X10_passes (X := X) hfl hN hzu2) rfl rfl dX10_turn_14 ⟨rfl, rfl⟩ (by decide) hl.1 (Nat.le_of_ble_eq_true rfl) ⟨Nat.le_of_ble_eq_true rfl, Nat.le_of_ble_eq_true rfl⟩ (fun H locs hw => ?_)
    refine lv_if_ne (tgt := 22) hx hb dX10_turn_17 (by decide) (fun c_17 => ?_) (fun c_17 => ?_)
    · have hinv := oi_f c_17 hinv
      refine lv_aload_n hx hb dX10_turn_22 rfl (lv_at hl 0 rfl) ?_
      refine w_get C hw (k := 29) (v := .ref (g 35)) (j := 7) (q47 hN rfl) (sh_29 g cy _) rfl (by decide) k474 rfl dX10_turn_23 ?_
      refine lv_iload_n hx hb dX10_turn_26 rfl (lv_at hl 1 rfl) ?_
      obtain ⟨hb_27, hinv⟩ := oi_c hinv
      refine s_zald C hw (k := 35) (a := (X 35)) (q47 hN rfl) (fun r => sh_35 g cy r) rfl hb_27 dX10_turn_27 ?_
      refine lv_istore_n (lv' := [(3, .int ((X 35) za1.toNatClampNeg)), (0, .ref (g 29)), (1, .int za1), (2, .int za2)]) hx hb dX10_turn_28 rfl hl (by decide) rfl (fun ls hl => ?_)
      refine lv_aload_n hx hb dX10_turn_29 rfl (lv_at hl 1 rfl) ?_
      refine w_get C hw (k := 29) (v := .ref (g 35)) (j := 7) (q47 hN rfl) (sh_29 g cy _) rfl (by decide) k474 rfl dX10_turn_30 ?_
      refine lv_iload_n hx hb dX10_turn_33 rfl (lv_at hl 2 rfl) ?_
      refine lv_iload_n hx hb dX10_turn_34 rfl (lv_at hl 3 rfl) ?_
      obtain ⟨hz_35, hinv⟩ := oi_c hinv
      obtain ⟨hb_35, hinv⟩ := oi_c hinv
      refine s_zast C hw (k := 35) (a := (X 35)) (q47 hN rfl) (fun r => sh_35 g cy r) rfl hz_35 hb_35 dX10_turn_35 (fun H locs zw35 hw35 hw => ?_)
      try rw [← hw35] at hinv
      refine lv_iload_n hx hb dX10_turn_36 rfl (lv_at hl 0 rfl) ?_
      obtain ⟨hz9, hinv⟩ := oi_c hinv
      have hR0 := (Option.some.inj hinv).symm
      subst hR0
      exact hret 37 ls ((X 35) za1.toNatClampNeg) _ _ _ _ rfl hz9 hw (by decide) (by decide) dX10_turn_37
    · have hinv := oi_t c_17 hinv
      refine lv_iconst (v := 0) hx hb dX10_turn_20 (by decide) ?_
      have hR0 := (Option.some.inj hinv).symm
      subst hR0
      have hXe : (up X 29 zu2.2) = (up (up X 29 zu2.2) 35 (X 35)) := by
        funext j
        by_cases h29 : j = 29
        · subst h29; simp [up]
        by_cases h35 : j = 35
        · subst h35; simp [up]
        simp [up, h29, h35]
      rw [hXe] at hw
      exact hret 21 ls 0 _ _ _ _ rfl (by decide) hw (by decide) (by decide) dX10_turn_21
  have hinv := hzu1
  refine lv_aload_n hx hb dX10_turn_1 rfl (lv_at hl 0 rfl) ?_
  refine lv_iload_n hx hb dX10_turn_2 rfl (lv_at hl 1 rfl) ?_
  obtain ⟨zu3, hzu3, hinv⟩ := ob hinv
  refine s_vRi (r0 := zu3) C hw (As := [.int za1]) bX10_isRule k508 (k := 29) (q47 hN rfl) (sh_29 g cy _) rfl (c_X10_isRule (X := X) hfl hN hzu3) rfl rfl dX10_turn_3 ⟨rfl, rfl⟩ (by decide) hl.1 (Nat.le_of_ble_eq_true rfl) ⟨Nat.le_of_ble_eq_true rfl, Nat.le_of_ble_eq_true rfl⟩ ?_
  refine lv_if_eq (tgt := 13) hx hb dX10_turn_6 (by decide) (fun c_6 => ?_) (fun c_6 => ?_)
  · have hinv := oi_t c_6 hinv
    refine lv_iconst (v := 1) hx hb dX10_turn_13 (by decide) ?_
    have hR9 := Option.some.inj hinv
    subst hR9
    exact hx1 _ _ ls hw (lv_sub hl [0, 1, 2] rfl)
  · have hinv := oi_f c_6 hinv
    refine lv_iconst (v := 0) hx hb dX10_turn_9 (by decide) ?_
    refine lv_goto (tgt := 14) hx hb dX10_turn_10 (by decide) ?_
    have hR9 := Option.some.inj hinv
    subst hR9
    exact hx1 _ _ ls hw (lv_sub hl [0, 1, 2] rfl)
def m_X10_facts (F : Nat) (r29 : Nat → Int32) (r30 : Nat → Int32) : Option (Int32 × (Nat → Int32)) := Option.bind (m_X10_factsNow F r30) (fun zu1 => some (zu1, (upd r29 0 0)))
set_option maxHeartbeats 4000000 in
set_option maxRecDepth 100000 in
theorem c_X10_facts {l : Launch} {D : va_G} {cy : Nat → Nat} {g : Nat → Nat} {N : Nat} {X : Nat → Nat → Int32} {F : Nat} {R0 : Int32 × (Nat → Int32)} (hfl : l.stackTraces = false) (hN : 47 ≤ N) (hinv : m_X10_facts F (X 29) (X 30) = some R0) : sWi l D cy yX10_facts cX10_facts 1 (some .int) 1 0 0 [.ref (g 29)] g N X R0.1 (up X 29 R0.2) := by
  refine jWi (own := RX10) (by decide) rfl hfl (Nat.le_of_ble_eq_true rfl) rfl ?_
  intro p e R s m args below meth c ls A Q hRe C hw hl hret
  subst hRe
  have hx := C.1
  have hb := C.2.1
  have hl : lv_has ls 1 [(0, .ref (g 29))] := hl
  rw [m_X10_facts] at hinv
  refine lv_aload_n hx hb dX10_facts_0 rfl (lv_at hl 0 rfl) ?_
  refine lv_iconst (v := 0) hx hb dX10_facts_1 (by decide) ?_
  refine s_put C hw (k := 29) (row := (upd (X 29) 0 0)) (ty := tyX10) (v := .int 0) (j := 0) (q47 hN rfl) (sh_29 g cy _) rfl tyX10_ok nmX10 (by decide) k486 rfl rfl rfl (Nat.le_of_ble_eq_true rfl) (sh_29 g cy _) dX10_facts_2 (fun H locs hw => ?_)
  refine lv_aload_n hx hb dX10_facts_5 rfl (lv_at hl 0 rfl) ?_
  obtain ⟨zu1, hzu1, hinv⟩ := ob hinv
  refine s_vRi (r0 := zu1) C hw (As := []) bX10_factsNow k498 (k := 29) (q47 hN rfl) (sh_29 g cy _) rfl (c_X10_factsNow (X := (up X 29 (upd (X 29) 0 0))) hfl hN hzu1) rfl rfl dX10_facts_6 ⟨rfl, rfl⟩ (by decide) hl.1 (Nat.le_of_ble_eq_true rfl) ⟨Nat.le_of_ble_eq_true rfl, Nat.le_of_ble_eq_true rfl⟩ ?_
  have hR0 := (Option.some.inj hinv).symm
  subst hR0
  exact hret 9 ls zu1 _ _ _ _ rfl hw (by decide) (by decide) dX10_facts_9
def m_X10_rules (F : Nat) (r29 : Nat → Int32) : Option (Int32 × (Nat → Int32)) := some ((r29 2), (upd r29 0 0))
set_option maxHeartbeats 4000000 in
set_option maxRecDepth 100000 in
theorem c_X10_rules {l : Launch} {D : va_G} {cy : Nat → Nat} {g : Nat → Nat} {N : Nat} {X : Nat → Nat → Int32} {F : Nat} {R0 : Int32 × (Nat → Int32)} (hfl : l.stackTraces = false) (hN : 47 ≤ N) (hinv : m_X10_rules F (X 29) = some R0) : sWi l D cy yX10_rules cX10_rules 1 (some .int) 0 0 0 [.ref (g 29)] g N X R0.1 (up X 29 R0.2) := by
  refine jWi (own := RX10) (by decide) rfl hfl (Nat.le_of_ble_eq_true rfl) rfl ?_
  intro p e R s m args below meth c ls A Q hRe C hw hl hret
  subst hRe
  have hx := C.1
  have hb := C.2.1
  have hl : lv_has ls 1 [(0, .ref (g 29))] := hl
  rw [m_X10_rules] at hinv
  refine lv_aload_n hx hb dX10_rules_0 rfl (lv_at hl 0 rfl) ?_
  refine lv_iconst (v := 0) hx hb dX10_rules_1 (by decide) ?_
  refine s_put C hw (k := 29) (row := (upd (X 29) 0 0)) (ty := tyX10) (v := .int 0) (j := 0) (q47 hN rfl) (sh_29 g cy _) rfl tyX10_ok nmX10 (by decide) k486 rfl rfl rfl (Nat.le_of_ble_eq_true rfl) (sh_29 g cy _) dX10_rules_2 (fun H locs hw => ?_)
  refine lv_aload_n hx hb dX10_rules_5 rfl (lv_at hl 0 rfl) ?_
  refine w_get C hw (k := 29) (v := .int ((X 29) 2)) (j := 2) (q47 hN rfl) (sh_29 g cy _) rfl (by decide) k503 rfl dX10_rules_6 ?_
  have hR0 := (Option.some.inj hinv).symm
  subst hR0
  exact hret 9 ls ((X 29) 2) _ _ _ _ rfl hw (by decide) (by decide) dX10_rules_9
def m_X10_withAll (F : Nat) (r40 : Nat → Int32) (za1 : Int32) : Option (Int32) := if za1 = (-1) then (some (0 : Int32)) else (if ¬ (za1 < 0 ∨ 24 ≤ za1.toNatClampNeg) then (some ((r40 za1.toNatClampNeg) ||| ((1 : Int32) <<< (za1 &&& 31)))) else none)
set_option maxHeartbeats 4000000 in
set_option maxRecDepth 100000 in
theorem c_X10_withAll {l : Launch} {D : va_G} {cy : Nat → Nat} {g : Nat → Nat} {N : Nat} {X : Nat → Nat → Int32} {F : Nat} {za1 : Int32} {R0 : Int32} (hfl : l.stackTraces = false) (hN : 47 ≤ N) (hinv : m_X10_withAll F (X 40) za1 = some R0) : sRi l D cy yX10_withAll cX10_withAll 2 (some .int) 0 [.ref (g 29), .int za1] g N X R0 := by
  refine jRi (own := RX10) (by decide) rfl hfl (Nat.le_of_ble_eq_true rfl) rfl ?_
  intro p e R s m args below meth c ls A Q hRe C hw hl hret
  subst hRe
  have hx := C.1
  have hb := C.2.1
  have hl : lv_has ls 2 [(0, .ref (g 29)), (1, .int za1)] := hl
  rw [m_X10_withAll] at hinv
  refine lv_iload_n hx hb dX10_withAll_0 rfl (lv_at hl 1 rfl) ?_
  refine lv_iconst (v := (-1)) hx hb dX10_withAll_1 (by decide) ?_
  refine lv_icmp_ne (tgt := 9) hx hb dX10_withAll_2 (by decide) (fun c_2 => ?_) (fun c_2 => ?_)
  · have hinv := oi_f c_2 hinv
    refine lv_aload_n hx hb dX10_withAll_9 rfl (lv_at hl 0 rfl) ?_
    refine w_get C hw (k := 29) (v := .ref (g 40)) (j := 14) (q47 hN rfl) (sh_29 g cy _) rfl (by decide) k479 rfl dX10_withAll_10 ?_
    refine lv_iload_n hx hb dX10_withAll_13 rfl (lv_at hl 1 rfl) ?_
    obtain ⟨hb_14, hinv⟩ := oi_c hinv
    refine s_iald C hw (k := 40) (a := (X 40)) (q47 hN rfl) (fun r => sh_40 g cy r) rfl hb_14 dX10_withAll_14 ?_
    refine lv_iconst (v := 1) hx hb dX10_withAll_15 (by decide) ?_
    refine lv_iload_n hx hb dX10_withAll_16 rfl (lv_at hl 1 rfl) ?_
    refine lv_ishl hx hb dX10_withAll_17 ?_
    refine lv_ior hx hb dX10_withAll_18 ?_
    exact hret 19 ls (((X 40) za1.toNatClampNeg) ||| ((1 : Int32) <<< (za1 &&& 31))) (Option.some.inj hinv) dX10_withAll_19
  · have hinv := oi_t c_2 hinv
    refine lv_iconst (v := 0) hx hb dX10_withAll_5 (by decide) ?_
    refine lv_goto (tgt := 19) hx hb dX10_withAll_6 (by decide) ?_
    exact hret 19 ls 0 (Option.some.inj hinv) dX10_withAll_19
def m_X10_isPart (F : Nat) (r32 : Nat → Int32) (r36 : Nat → Int32) (za1 : Int32) (za2 : Int32) (za3 : Int32) : Option (Int32) := if ¬ (((3 * za1) + za2) < 0 ∨ 36 ≤ ((3 * za1) + za2).toNatClampNeg) then (if (r32 ((3 * za1) + za2).toNatClampNeg) = 0 then (if za3 = (-1) then (some (1 : Int32)) else (some (0 : Int32))) else (if za3 = (-1) then (some (0 : Int32)) else (if ¬ (za3 < 0 ∨ 24 ≤ za3.toNatClampNeg) then (if (r36 za3.toNatClampNeg) = (r32 ((3 * za1) + za2).toNatClampNeg) then (some (1 : Int32)) else (some (0 : Int32))) else none))) else none
set_option maxHeartbeats 4000000 in
set_option maxRecDepth 100000 in
theorem c_X10_isPart {l : Launch} {D : va_G} {cy : Nat → Nat} {g : Nat → Nat} {N : Nat} {X : Nat → Nat → Int32} {F : Nat} {za1 : Int32} {za2 : Int32} {za3 : Int32} {R0 : Int32} (hfl : l.stackTraces = false) (hN : 47 ≤ N) (hinv : m_X10_isPart F (X 32) (X 36) za1 za2 za3 = some R0) : sRi l D cy yX10_isPart cX10_isPart 5 (some .boolean) 0 [.ref (g 29), .int za1, .int za2, .int za3] g N X R0 := by
  refine jRz (own := RX10) (by decide) rfl hfl (Nat.le_of_ble_eq_true rfl) rfl ?_
  intro p e R s m args below meth c ls A Q hRe C hw hl hret
  subst hRe
  have hx := C.1
  have hb := C.2.1
  have hl : lv_has ls 5 [(0, .ref (g 29)), (1, .int za1), (2, .int za2), (3, .int za3)] := hl
  rw [m_X10_isPart] at hinv
  refine lv_aload_n hx hb dX10_isPart_0 rfl (lv_at hl 0 rfl) ?_
  refine w_get C hw (k := 29) (v := .ref (g 32)) (j := 4) (q47 hN rfl) (sh_29 g cy _) rfl (by decide) k471 rfl dX10_isPart_1 ?_
  refine lv_iconst (v := 3) hx hb dX10_isPart_4 (by decide) ?_
  refine lv_iload_n hx hb dX10_isPart_5 rfl (lv_at hl 1 rfl) ?_
  refine lv_imul hx hb dX10_isPart_6 ?_
  refine lv_iload_n hx hb dX10_isPart_7 rfl (lv_at hl 2 rfl) ?_
  refine lv_iadd hx hb dX10_isPart_8 ?_
  obtain ⟨hb_9, hinv⟩ := oi_c hinv
  refine s_iald C hw (k := 32) (a := (X 32)) (q47 hN rfl) (fun r => sh_32 g cy r) rfl hb_9 dX10_isPart_9 ?_
  refine lv_istore (lv' := [(4, .int ((X 32) ((3 * za1) + za2).toNatClampNeg)), (0, .ref (g 29)), (1, .int za1), (2, .int za2), (3, .int za3)]) hx hb dX10_isPart_10 hl (by decide) rfl (fun ls hl => ?_)
  refine lv_iload hx hb dX10_isPart_12 (lv_at hl 0 rfl) ?_
  refine lv_if_ne (tgt := 30) hx hb dX10_isPart_14 (by decide) (fun c_14 => ?_) (fun c_14 => ?_)
  · have hinv := oi_f c_14 hinv
    refine lv_iload_n hx hb dX10_isPart_30 rfl (lv_at hl 4 rfl) ?_
    refine lv_iconst (v := (-1)) hx hb dX10_isPart_31 (by decide) ?_
    refine lv_icmp_eq (tgt := 50) hx hb dX10_isPart_32 (by decide) (fun c_32 => ?_) (fun c_32 => ?_)
    · have hinv := oi_t c_32 hinv
      refine lv_iconst (v := 0) hx hb dX10_isPart_50 (by decide) ?_
      exact hret 51 ls 0 (Option.some.inj hinv) (by decide) dX10_isPart_51
    · have hinv := oi_f c_32 hinv
      refine lv_aload_n hx hb dX10_isPart_35 rfl (lv_at hl 1 rfl) ?_
      refine w_get C hw (k := 29) (v := .ref (g 36)) (j := 10) (q47 hN rfl) (sh_29 g cy _) rfl (by decide) k475 rfl dX10_isPart_36 ?_
      refine lv_iload_n hx hb dX10_isPart_39 rfl (lv_at hl 4 rfl) ?_
      obtain ⟨hb_40, hinv⟩ := oi_c hinv
      refine s_iald C hw (k := 36) (a := (X 36)) (q47 hN rfl) (fun r => sh_36 g cy r) rfl hb_40 dX10_isPart_40 ?_
      refine lv_iload hx hb dX10_isPart_41 (lv_at hl 0 rfl) ?_
      refine lv_icmp_ne (tgt := 50) hx hb dX10_isPart_43 (by decide) (fun c_43 => ?_) (fun c_43 => ?_)
      · have hinv := oi_f c_43 hinv
        refine lv_iconst (v := 0) hx hb dX10_isPart_50 (by decide) ?_
        exact hret 51 ls 0 (Option.some.inj hinv) (by decide) dX10_isPart_51
      · have hinv := oi_t c_43 hinv
        refine lv_iconst (v := 1) hx hb dX10_isPart_46 (by decide) ?_
        refine lv_goto (tgt := 51) hx hb dX10_isPart_47 (by decide) ?_
        exact hret 51 ls 1 (Option.some.inj hinv) (by decide) dX10_isPart_51
  · have hinv := oi_t c_14 hinv
    refine lv_iload_n hx hb dX10_isPart_17 rfl (lv_at hl 4 rfl) ?_
    refine lv_iconst (v := (-1)) hx hb dX10_isPart_18 (by decide) ?_
    refine lv_icmp_ne (tgt := 26) hx hb dX10_isPart_19 (by decide) (fun c_19 => ?_) (fun c_19 => ?_)
    · have hinv := oi_f c_19 hinv
      refine lv_iconst (v := 0) hx hb dX10_isPart_26 (by decide) ?_
      refine lv_goto (tgt := 51) hx hb dX10_isPart_27 (by decide) ?_
      exact hret 51 ls 0 (Option.some.inj hinv) (by decide) dX10_isPart_51
    · have hinv := oi_t c_19 hinv
      refine lv_iconst (v := 1) hx hb dX10_isPart_22 (by decide) ?_
      refine lv_goto (tgt := 51) hx hb dX10_isPart_23 (by decide) ?_
      exact hret 51 ls 1 (Option.some.inj hinv) (by decide) dX10_isPart_51
def m_X10_isBuiltOf_L5 (F : Nat) (r29 : Nat → Int32) (r36 : Nat → Int32) (y1_5 : Int32) (y2_5 : Int32) : Nat → Int32 → Int32 → Option (Int32)
  | 0, _, _ => none
  | n + 1, x4_5, x3_5 => if (r29 8) ≤ x4_5 then (if x3_5 = 0 ∨ x3_5 = 1 then (some x3_5) else none) else (Option.bind (if x3_5 = 0 then (if ((y1_5 >>> (x4_5 &&& 31)) &&& 1) = 1 then (if ¬ (x4_5 < 0 ∨ 24 ≤ x4_5.toNatClampNeg) then (if (r36 x4_5.toNatClampNeg) = y2_5 then (some (1 : Int32)) else (some (0 : Int32))) else none) else (some (0 : Int32))) else (some (1 : Int32))) (fun zu1 => m_X10_isBuiltOf_L5 F r29 r36 y1_5 y2_5 n (x4_5 + 1) zu1))
def m_X10_isBuiltOf (F : Nat) (r29 : Nat → Int32) (r36 : Nat → Int32) (za1 : Int32) (za2 : Int32) : Option (Int32) := m_X10_isBuiltOf_L5 F r29 r36 za1 za2 F 0 0
set_option maxHeartbeats 4000000 in
set_option maxRecDepth 100000 in
theorem c_X10_isBuiltOf {l : Launch} {D : va_G} {cy : Nat → Nat} {g : Nat → Nat} {N : Nat} {X : Nat → Nat → Int32} {F : Nat} {za1 : Int32} {za2 : Int32} {R0 : Int32} (hfl : l.stackTraces = false) (hN : 47 ≤ N) (hinv : m_X10_isBuiltOf F (X 29) (X 36) za1 za2 = some R0) : sRi l D cy yX10_isBuiltOf cX10_isBuiltOf 5 (some .boolean) 0 [.ref (g 29), .int za1, .int za2] g N X R0 := by
  refine jRz (own := RX10) (by decide) rfl hfl (Nat.le_of_ble_eq_true rfl) rfl ?_
  intro p e R s m args below meth c ls A Q hRe C hw hl hret
  subst hRe
  have hx := C.1
  have hb := C.2.1
  have hl : lv_has ls 5 [(0, .ref (g 29)), (1, .int za1), (2, .int za2)] := hl
  rw [m_X10_isBuiltOf] at hinv
  refine lv_iconst (v := 0) hx hb dX10_isBuiltOf_0 (by decide) ?_
  refine lv_istore_n (lv' := [(3, .int 0), (0, .ref (g 29)), (1, .int za1), (2, .int za2)]) hx hb dX10_isBuiltOf_1 rfl hl (by decide) rfl (fun ls hl => ?_)
  refine lv_iconst (v := 0) hx hb dX10_isBuiltOf_2 (by decide) ?_
  refine lv_istore (lv' := [(4, .int 0), (3, .int 0), (0, .ref (g 29)), (1, .int za1), (2, .int za2)]) hx hb dX10_isBuiltOf_3 hl (by decide) rfl (fun ls hl => ?_)
  have hl5 : ∀ (n : Nat) (x4_5 : Int32) (x3_5 : Int32), m_X10_isBuiltOf_L5 F (X 29) (X 36) za1 za2 n x4_5 x3_5 = some R0 → ∀ (ls : Array Slot), lv_has ls 5 [(4, .int x4_5), (3, .int x3_5), (0, .ref (g 29)), (1, .int za1), (2, .int za2)] → W p l e (wR 0 0 0) s m args below meth c s.heap [] 0 0 Q (F0 m 5 ls []) := by
    intro n
    induction n with
    | zero =>
      intro x4_5 x3_5 hinv
      cases hinv
    | succ n ih =>
      intro x4_5 x3_5 hinv ls hl
      rw [m_X10_isBuiltOf_L5] at hinv
      refine lv_iload hx hb dX10_isBuiltOf_5 (lv_at hl 0 rfl) ?_
      refine lv_aload_n hx hb dX10_isBuiltOf_7 rfl (lv_at hl 2 rfl) ?_
      refine w_get C hw (k := 29) (v := .int ((X 29) 8)) (j := 8) (q47 hN rfl) (sh_29 g cy _) rfl (by decide) k517 rfl dX10_isBuiltOf_8 ?_
      refine lv_icmp_ge (tgt := 51) hx hb dX10_isBuiltOf_11 (by decide) (fun c_11 => ?_) (fun c_11 => ?_)
      · have hinv := oi_t c_11 hinv
        refine lv_iload_n hx hb dX10_isBuiltOf_51 rfl (lv_at hl 1 rfl) ?_
        obtain ⟨hz9, hinv⟩ := oi_c hinv
        exact hret 52 ls x3_5 (Option.some.inj hinv) hz9 dX10_isBuiltOf_52
      · have hinv := oi_f c_11 hinv
        obtain ⟨zu1, hzu1, hinv⟩ := ob hinv
        have hx14 : ∀ (ls : Array Slot), lv_has ls 5 [(4, .int x4_5), (3, .int x3_5), (0, .ref (g 29)), (1, .int za1), (2, .int za2)] → W p l e (wR 0 0 0) s m args below meth c s.heap [] 0 0 Q (F0 m 44 ls [.int zu1]) := by
          intro ls hl
          refine lv_istore_n (lv' := [(3, .int zu1), (4, .int x4_5), (0, .ref (g 29)), (1, .int za1), (2, .int za2)]) hx hb dX10_isBuiltOf_44 rfl hl (by decide) rfl (fun ls hl => ?_)
          refine lv_iinc (v := (x4_5 + 1)) (lv' := [(4, .int (x4_5 + 1)), (3, .int zu1), (0, .ref (g 29)), (1, .int za1), (2, .int za2)]) hx hb dX10_isBuiltOf_45 hl (k := 1) rfl (by rfl) (by decide) rfl (fun ls hl => ?_)
          refine lv_goto (tgt := 5) hx hb dX10_isBuiltOf_48 (by decide) ?_
          exact ih (x4_5 + 1) zu1 hinv ls (lv_sub hl [0, 1, 2, 3, 4] rfl)
        have hinv := hzu1
        refine lv_iload_n hx hb dX10_isBuiltOf_14 rfl (lv_at hl 1 rfl) ?_
        refine lv_if_ne (tgt := 39) hx hb dX10_isBuiltOf_15 (by decide) (fun c_15 => ?_) (fun c_15 => ?_)
        · have hinv := oi_f c_15 hinv
          refine lv_iconst (v := 1) hx hb dX10_isBuiltOf_39 (by decide) ?_
          refine lv_goto (tgt := 44) hx hb dX10_isBuiltOf_40 (by decide) ?_
          have hR9 := Option.some.inj hinv
          subst hR9
          exact hx14 ls (lv_sub hl [0, 1, 2, 3, 4] rfl)
        · have hinv := oi_t c_15 hinv
          refine lv_iload_n hx hb dX10_isBuiltOf_18 rfl (lv_at hl 3 rfl) ?_
          refine lv_iload hx hb dX10_isBuiltOf_19 (lv_at hl 0 rfl) ?_
          refine lv_ishr hx hb dX10_isBuiltOf_21 ?_
          refine lv_iconst (v := 1) hx hb dX10_isBuiltOf_22 (by decide) ?_
          refine lv_iand hx hb dX10_isBuiltOf_23 ?_
          refine lv_iconst (v := 1) hx hb dX10_isBuiltOf_24 (by decide) ?_
          refine lv_icmp_ne (tgt := 43) hx hb dX10_isBuiltOf_25 (by decide) (fun c_25 => ?_) (fun c_25 => ?_)
          · have hinv := oi_f c_25 hinv
            refine lv_iconst (v := 0) hx hb dX10_isBuiltOf_43 (by decide) ?_
            have hR9 := Option.some.inj hinv
            subst hR9
            exact hx14 ls (lv_sub hl [0, 1, 2, 3, 4] rfl)
          · have hinv := oi_t c_25 hinv
            refine lv_aload_n hx hb dX10_isBuiltOf_28 rfl (lv_at hl 2 rfl) ?_
            refine w_get C hw (k := 29) (v := .ref (g 36)) (j := 10) (q47 hN rfl) (sh_29 g cy _) rfl (by decide) k475 rfl dX10_isBuiltOf_29 ?_
            refine lv_iload hx hb dX10_isBuiltOf_32 (lv_at hl 0 rfl) ?_
            obtain ⟨hb_34, hinv⟩ := oi_c hinv
            refine s_iald C hw (k := 36) (a := (X 36)) (q47 hN rfl) (fun r => sh_36 g cy r) rfl hb_34 dX10_isBuiltOf_34 ?_
            refine lv_iload_n hx hb dX10_isBuiltOf_35 rfl (lv_at hl 4 rfl) ?_
            refine lv_icmp_ne (tgt := 43) hx hb dX10_isBuiltOf_36 (by decide) (fun c_36 => ?_) (fun c_36 => ?_)
            · have hinv := oi_f c_36 hinv
              refine lv_iconst (v := 0) hx hb dX10_isBuiltOf_43 (by decide) ?_
              have hR9 := Option.some.inj hinv
              subst hR9
              exact hx14 ls (lv_sub hl [0, 1, 2, 3, 4] rfl)
            · have hinv := oi_t c_36 hinv
              refine lv_iconst (v := 1) hx hb dX10_isBuiltOf_39 (by decide) ?_
              refine lv_goto (tgt := 44) hx hb dX10_isBuiltOf_40 (by decide) ?_
              have hR9 := Option.some.inj hinv
              subst hR9
              exact hx14 ls (lv_sub hl [0, 1, 2, 3, 4] rfl)
  exact hl5 F 0 0 hinv ls (lv_sub hl [0, 1, 2, 3, 4] rfl)
def m_X10_depthOf (F : Nat) (r39 : Nat → Int32) (za1 : Int32) : Option (Int32) := if za1 = (-1) then (some (0 : Int32)) else (if ¬ (za1 < 0 ∨ 24 ≤ za1.toNatClampNeg) then (some (r39 za1.toNatClampNeg)) else none)
set_option maxHeartbeats 4000000 in
set_option maxRecDepth 100000 in
theorem c_X10_depthOf {l : Launch} {D : va_G} {cy : Nat → Nat} {g : Nat → Nat} {N : Nat} {X : Nat → Nat → Int32} {F : Nat} {za1 : Int32} {R0 : Int32} (hfl : l.stackTraces = false) (hN : 47 ≤ N) (hinv : m_X10_depthOf F (X 39) za1 = some R0) : sRi l D cy yX10_depthOf cX10_depthOf 2 (some .int) 0 [.ref (g 29), .int za1] g N X R0 := by
  refine jRi (own := RX10) (by decide) rfl hfl (Nat.le_of_ble_eq_true rfl) rfl ?_
  intro p e R s m args below meth c ls A Q hRe C hw hl hret
  subst hRe
  have hx := C.1
  have hb := C.2.1
  have hl : lv_has ls 2 [(0, .ref (g 29)), (1, .int za1)] := hl
  rw [m_X10_depthOf] at hinv
  refine lv_iload_n hx hb dX10_depthOf_0 rfl (lv_at hl 1 rfl) ?_
  refine lv_iconst (v := (-1)) hx hb dX10_depthOf_1 (by decide) ?_
  refine lv_icmp_ne (tgt := 9) hx hb dX10_depthOf_2 (by decide) (fun c_2 => ?_) (fun c_2 => ?_)
  · have hinv := oi_f c_2 hinv
    refine lv_aload_n hx hb dX10_depthOf_9 rfl (lv_at hl 0 rfl) ?_
    refine w_get C hw (k := 29) (v := .ref (g 39)) (j := 13) (q47 hN rfl) (sh_29 g cy _) rfl (by decide) k478 rfl dX10_depthOf_10 ?_
    refine lv_iload_n hx hb dX10_depthOf_13 rfl (lv_at hl 1 rfl) ?_
    obtain ⟨hb_14, hinv⟩ := oi_c hinv
    refine s_iald C hw (k := 39) (a := (X 39)) (q47 hN rfl) (fun r => sh_39 g cy r) rfl hb_14 dX10_depthOf_14 ?_
    exact hret 15 ls ((X 39) za1.toNatClampNeg) (Option.some.inj hinv) dX10_depthOf_15
  · have hinv := oi_t c_2 hinv
    refine lv_iconst (v := 0) hx hb dX10_depthOf_5 (by decide) ?_
    refine lv_goto (tgt := 15) hx hb dX10_depthOf_6 (by decide) ?_
    exact hret 15 ls 0 (Option.some.inj hinv) dX10_depthOf_15
def m_X10_lays (F : Nat) (r29 : Nat → Int32) (r36 : Nat → Int32) (r37 : Nat → Int32) (r38 : Nat → Int32) (r39 : Nat → Int32) (r40 : Nat → Int32) (za1 : Int32) (za2 : Int32) (za3 : Int32) (za4 : Int32) (za5 : Int32) (za6 : Int32) : Option ((Nat → Int32) × (Nat → Int32) × (Nat → Int32) × (Nat → Int32) × (Nat → Int32) × (Nat → Int32)) := if (r29 8) = 24 then (some ((upd r29 9 1), r36, r37, r38, r39, r40)) else (if ¬ ((r29 8) < 0 ∨ 24 ≤ (r29 8).toNatClampNeg) then (if ¬ ((r29 8) < 0 ∨ 24 ≤ (r29 8).toNatClampNeg) then (if ¬ ((3 * (r29 8)) < 0 ∨ 72 ≤ (3 * (r29 8)).toNatClampNeg) then (if ¬ (((3 * (r29 8)) + 1) < 0 ∨ 72 ≤ ((3 * (r29 8)) + 1).toNatClampNeg) then (if ¬ (((3 * (r29 8)) + 2) < 0 ∨ 72 ≤ ((3 * (r29 8)) + 2).toNatClampNeg) then (if ¬ ((r29 8) < 0 ∨ 24 ≤ (r29 8).toNatClampNeg) then (Option.bind (m_X10_withAll F r40 za3) (fun zu1 => Option.bind (m_X10_withAll F r40 za4) (fun zu2 => Option.bind (m_X10_withAll F r40 za5) (fun zu3 => if ¬ ((r29 8) < 0 ∨ 24 ≤ (r29 8).toNatClampNeg) then (some ((upd r29 8 ((r29 8) + 1)), (upd r36 (r29 8).toNatClampNeg za1), (upd r37 (r29 8).toNatClampNeg za2), (upd (upd (upd r38 (3 * (r29 8)).toNatClampNeg za3) ((3 * (r29 8)) + 1).toNatClampNeg za4) ((3 * (r29 8)) + 2).toNatClampNeg za5), (upd r39 (r29 8).toNatClampNeg za6), (upd r40 (r29 8).toNatClampNeg ((zu1 ||| zu2) ||| zu3)))) else none)))) else none) else none) else none) else none) else none) else none)
set_option maxHeartbeats 4000000 in
set_option maxRecDepth 100000 in
theorem c_X10_lays {l : Launch} {D : va_G} {cy : Nat → Nat} {g : Nat → Nat} {N : Nat} {X : Nat → Nat → Int32} {F : Nat} {za1 : Int32} {za2 : Int32} {za3 : Int32} {za4 : Int32} {za5 : Int32} {za6 : Int32} {R0 : (Nat → Int32) × (Nat → Int32) × (Nat → Int32) × (Nat → Int32) × (Nat → Int32) × (Nat → Int32)} (hfl : l.stackTraces = false) (hN : 47 ≤ N) (hinv : m_X10_lays F (X 29) (X 36) (X 37) (X 38) (X 39) (X 40) za1 za2 za3 za4 za5 za6 = some R0) : sWv l D cy yX10_lays cX10_lays 7 none 1 0 0 [.ref (g 29), .int za1, .int za2, .int za3, .int za4, .int za5, .int za6] g N X (up (up (up (up (up (up X 29 R0.1) 36 R0.2.1) 37 R0.2.2.1) 38 R0.2.2.2.1) 39 R0.2.2.2.2.1) 40 R0.2.2.2.2.2) := by
  refine jWv (own := RX10) (by decide) rfl hfl (Nat.le_of_ble_eq_true rfl) rfl ?_
  intro p e R s m args below meth c ls A Q hRe C hw hl hret
  subst hRe
  have hx := C.1
  have hb := C.2.1
  have hl : lv_has ls 7 [(0, .ref (g 29)), (1, .int za1), (2, .int za2), (3, .int za3), (4, .int za4), (5, .int za5), (6, .int za6)] := hl
  rw [m_X10_lays] at hinv
  refine lv_aload_n hx hb dX10_lays_0 rfl (lv_at hl 0 rfl) ?_
  refine w_get C hw (k := 29) (v := .int ((X 29) 8)) (j := 8) (q47 hN rfl) (sh_29 g cy _) rfl (by decide) k517 rfl dX10_lays_1 ?_
  refine lv_bipush (v := 24) hx hb dX10_lays_4 (by decide) ?_
  refine lv_icmp_ne (tgt := 15) hx hb dX10_lays_6 (by decide) (fun c_6 => ?_) (fun c_6 => ?_)
  · have hinv := oi_f c_6 hinv
    refine lv_aload_n hx hb dX10_lays_15 rfl (lv_at hl 0 rfl) ?_
    refine w_get C hw (k := 29) (v := .ref (g 36)) (j := 10) (q47 hN rfl) (sh_29 g cy _) rfl (by decide) k475 rfl dX10_lays_16 ?_
    refine lv_aload_n hx hb dX10_lays_19 rfl (lv_at hl 0 rfl) ?_
    refine w_get C hw (k := 29) (v := .int ((X 29) 8)) (j := 8) (q47 hN rfl) (sh_29 g cy _) rfl (by decide) k517 rfl dX10_lays_20 ?_
    refine lv_iload_n hx hb dX10_lays_23 rfl (lv_at hl 1 rfl) ?_
    obtain ⟨hb_24, hinv⟩ := oi_c hinv
    refine s_iast C hw (k := 36) (a := (X 36)) (q47 hN rfl) (fun r => sh_36 g cy r) rfl hb_24 dX10_lays_24 (fun H locs zw24 hw24 hw => ?_)
    try rw [← hw24] at hinv
    refine lv_aload_n hx hb dX10_lays_25 rfl (lv_at hl 0 rfl) ?_
    refine w_get C hw (k := 29) (v := .ref (g 37)) (j := 11) (q47 hN rfl) (sh_29 g cy _) rfl (by decide) k476 rfl dX10_lays_26 ?_
    refine lv_aload_n hx hb dX10_lays_29 rfl (lv_at hl 0 rfl) ?_
    refine w_get C hw (k := 29) (v := .int ((X 29) 8)) (j := 8) (q47 hN rfl) (sh_29 g cy _) rfl (by decide) k517 rfl dX10_lays_30 ?_
    refine lv_iload_n hx hb dX10_lays_33 rfl (lv_at hl 2 rfl) ?_
    obtain ⟨hb_34, hinv⟩ := oi_c hinv
    refine s_iast C hw (k := 37) (a := (X 37)) (q47 hN rfl) (fun r => sh_37 g cy r) rfl hb_34 dX10_lays_34 (fun H locs zw34 hw34 hw => ?_)
    try rw [← hw34] at hinv
    refine lv_aload_n hx hb dX10_lays_35 rfl (lv_at hl 0 rfl) ?_
    refine w_get C hw (k := 29) (v := .ref (g 38)) (j := 12) (q47 hN rfl) (sh_29 g cy _) rfl (by decide) k477 rfl dX10_lays_36 ?_
    refine lv_iconst (v := 3) hx hb dX10_lays_39 (by decide) ?_
    refine lv_aload_n hx hb dX10_lays_40 rfl (lv_at hl 0 rfl) ?_
    refine w_get C hw (k := 29) (v := .int ((X 29) 8)) (j := 8) (q47 hN rfl) (sh_29 g cy _) rfl (by decide) k517 rfl dX10_lays_41 ?_
    refine lv_imul hx hb dX10_lays_44 ?_
    refine lv_iload_n hx hb dX10_lays_45 rfl (lv_at hl 3 rfl) ?_
    obtain ⟨hb_46, hinv⟩ := oi_c hinv
    refine s_iast C hw (k := 38) (a := (X 38)) (q47 hN rfl) (fun r => sh_38 g cy r) rfl hb_46 dX10_lays_46 (fun H locs zw46 hw46 hw => ?_)
    try rw [← hw46] at hinv
    refine lv_aload_n hx hb dX10_lays_47 rfl (lv_at hl 0 rfl) ?_
    refine w_get C hw (k := 29) (v := .ref (g 38)) (j := 12) (q47 hN rfl) (sh_29 g cy _) rfl (by decide) k477 rfl dX10_lays_48 ?_
    refine lv_iconst (v := 3) hx hb dX10_lays_51 (by decide) ?_
    refine lv_aload_n hx hb dX10_lays_52 rfl (lv_at hl 0 rfl) ?_
    refine w_get C hw (k := 29) (v := .int ((X 29) 8)) (j := 8) (q47 hN rfl) (sh_29 g cy _) rfl (by decide) k517 rfl dX10_lays_53 ?_
    refine lv_imul hx hb dX10_lays_56 ?_
    refine lv_iconst (v := 1) hx hb dX10_lays_57 (by decide) ?_
    refine lv_iadd hx hb dX10_lays_58 ?_
    refine lv_iload hx hb dX10_lays_59 (lv_at hl 4 rfl) ?_
    obtain ⟨hb_61, hinv⟩ := oi_c hinv
    refine s_iast C hw (k := 38) (a := zw46) (q47 hN rfl) (fun r => sh_38 g cy r) rfl hb_61 dX10_lays_61 (fun H locs zw61 hw61 hw => ?_)
    try rw [← hw61] at hinv
    rw [up_up] at hw
    refine lv_aload_n hx hb dX10_lays_62 rfl (lv_at hl 0 rfl) ?_
    refine w_get C hw (k := 29) (v := .ref (g 38)) (j := 12) (q47 hN rfl) (sh_29 g cy _) rfl (by decide) k477 rfl dX10_lays_63 ?_
    refine lv_iconst (v := 3) hx hb dX10_lays_66 (by decide) ?_
    refine lv_aload_n hx hb dX10_lays_67 rfl (lv_at hl 0 rfl) ?_
    refine w_get C hw (k := 29) (v := .int ((X 29) 8)) (j := 8) (q47 hN rfl) (sh_29 g cy _) rfl (by decide) k517 rfl dX10_lays_68 ?_
    refine lv_imul hx hb dX10_lays_71 ?_
    refine lv_iconst (v := 2) hx hb dX10_lays_72 (by decide) ?_
    refine lv_iadd hx hb dX10_lays_73 ?_
    refine lv_iload hx hb dX10_lays_74 (lv_at hl 5 rfl) ?_
    obtain ⟨hb_76, hinv⟩ := oi_c hinv
    refine s_iast C hw (k := 38) (a := zw61) (q47 hN rfl) (fun r => sh_38 g cy r) rfl hb_76 dX10_lays_76 (fun H locs zw76 hw76 hw => ?_)
    try rw [← hw76] at hinv
    rw [up_up] at hw
    refine lv_aload_n hx hb dX10_lays_77 rfl (lv_at hl 0 rfl) ?_
    refine w_get C hw (k := 29) (v := .ref (g 39)) (j := 13) (q47 hN rfl) (sh_29 g cy _) rfl (by decide) k478 rfl dX10_lays_78 ?_
    refine lv_aload_n hx hb dX10_lays_81 rfl (lv_at hl 0 rfl) ?_
    refine w_get C hw (k := 29) (v := .int ((X 29) 8)) (j := 8) (q47 hN rfl) (sh_29 g cy _) rfl (by decide) k517 rfl dX10_lays_82 ?_
    refine lv_iload hx hb dX10_lays_85 (lv_at hl 6 rfl) ?_
    obtain ⟨hb_87, hinv⟩ := oi_c hinv
    refine s_iast C hw (k := 39) (a := (X 39)) (q47 hN rfl) (fun r => sh_39 g cy r) rfl hb_87 dX10_lays_87 (fun H locs zw87 hw87 hw => ?_)
    try rw [← hw87] at hinv
    refine lv_aload_n hx hb dX10_lays_88 rfl (lv_at hl 0 rfl) ?_
    refine w_get C hw (k := 29) (v := .ref (g 40)) (j := 14) (q47 hN rfl) (sh_29 g cy _) rfl (by decide) k479 rfl dX10_lays_89 ?_
    refine lv_aload_n hx hb dX10_lays_92 rfl (lv_at hl 0 rfl) ?_
    refine w_get C hw (k := 29) (v := .int ((X 29) 8)) (j := 8) (q47 hN rfl) (sh_29 g cy _) rfl (by decide) k517 rfl dX10_lays_93 ?_
    refine lv_aload_n hx hb dX10_lays_96 rfl (lv_at hl 0 rfl) ?_
    refine lv_iload_n hx hb dX10_lays_97 rfl (lv_at hl 3 rfl) ?_
    obtain ⟨zu1, hzu1, hinv⟩ := ob hinv
    refine s_vRi (r0 := zu1) C hw (As := [.int za3]) bX10_withAll k519 (k := 29) (q47 hN rfl) (sh_29 g cy _) rfl (c_X10_withAll (X := (up (up (up (up X 36 zw24) 37 zw34) 38 zw76) 39 zw87)) hfl hN hzu1) rfl rfl dX10_lays_98 ⟨rfl, rfl⟩ (by decide) hl.1 (Nat.le_of_ble_eq_true rfl) ⟨Nat.le_of_ble_eq_true rfl, Nat.le_of_ble_eq_true rfl⟩ ?_
    refine lv_aload_n hx hb dX10_lays_101 rfl (lv_at hl 0 rfl) ?_
    refine lv_iload hx hb dX10_lays_102 (lv_at hl 4 rfl) ?_
    obtain ⟨zu2, hzu2, hinv⟩ := ob hinv
    refine s_vRi (r0 := zu2) C hw (As := [.int za4]) bX10_withAll k519 (k := 29) (q47 hN rfl) (sh_29 g cy _) rfl (c_X10_withAll (X := (up (up (up (up X 36 zw24) 37 zw34) 38 zw76) 39 zw87)) hfl hN hzu2) rfl rfl dX10_lays_104 ⟨rfl, rfl⟩ (by decide) hl.1 (Nat.le_of_ble_eq_true rfl) ⟨Nat.le_of_ble_eq_true rfl, Nat.le_of_ble_eq_true rfl⟩ ?_
    refine lv_ior hx hb dX10_lays_107 ?_
    refine lv_aload_n hx hb dX10_lays_108 rfl (lv_at hl 0 rfl) ?_
    refine lv_iload hx hb dX10_lays_109 (lv_at hl 5 rfl) ?_
    obtain ⟨zu3, hzu3, hinv⟩ := ob hinv
    refine s_vRi (r0 := zu3) C hw (As := [.int za5]) bX10_withAll k519 (k := 29) (q47 hN rfl) (sh_29 g cy _) rfl (c_X10_withAll (X := (up (up (up (up X 36 zw24) 37 zw34) 38 zw76) 39 zw87)) hfl hN hzu3) rfl rfl dX10_lays_111 ⟨rfl, rfl⟩ (by decide) hl.1 (Nat.le_of_ble_eq_true rfl) ⟨Nat.le_of_ble_eq_true rfl, Nat.le_of_ble_eq_true rfl⟩ ?_
    refine lv_ior hx hb dX10_lays_114 ?_
    obtain ⟨hb_115, hinv⟩ := oi_c hinv
    refine s_iast C hw (k := 40) (a := (X 40)) (q47 hN rfl) (fun r => sh_40 g cy r) rfl hb_115 dX10_lays_115 (fun H locs zw115 hw115 hw => ?_)
    try rw [← hw115] at hinv
    refine lv_aload_n hx hb dX10_lays_116 rfl (lv_at hl 0 rfl) ?_
    refine lv_dup hx hb dX10_lays_117 rfl ?_
    refine w_get C hw (k := 29) (v := .int ((X 29) 8)) (j := 8) (q47 hN rfl) (sh_29 g cy _) rfl (by decide) k517 rfl dX10_lays_118 ?_
    refine lv_iconst (v := 1) hx hb dX10_lays_121 (by decide) ?_
    refine lv_iadd hx hb dX10_lays_122 ?_
    refine s_put C hw (k := 29) (row := (upd (X 29) 8 (((X 29) 8) + 1))) (ty := tyX10) (v := .int (((X 29) 8) + 1)) (j := 8) (q47 hN rfl) (sh_29 g cy _) rfl tyX10_ok nmX10 (by decide) k517 rfl rfl rfl (Nat.le_of_ble_eq_true rfl) (sh_29 g cy _) dX10_lays_123 (fun H locs hw => ?_)
    have hR0 := (Option.some.inj hinv).symm
    subst hR0
    have hXe : (up (up (up (up (up (up X 36 zw24) 37 zw34) 38 zw76) 39 zw87) 40 zw115) 29 (upd (X 29) 8 (((X 29) 8) + 1))) = (up (up (up (up (up (up X 29 (upd (X 29) 8 (((X 29) 8) + 1))) 36 zw24) 37 zw34) 38 zw76) 39 zw87) 40 zw115) := by
      funext j
      by_cases h29 : j = 29
      · subst h29; simp [up]
      by_cases h36 : j = 36
      · subst h36; simp [up]
      by_cases h37 : j = 37
      · subst h37; simp [up]
      by_cases h38 : j = 38
      · subst h38; simp [up]
      by_cases h39 : j = 39
      · subst h39; simp [up]
      by_cases h40 : j = 40
      · subst h40; simp [up]
      simp [up, h29, h36, h37, h38, h39, h40]
    rw [hXe] at hw
    exact hret 126 ls _ _ _ _ hw (by decide) (by decide) dX10_lays_126
  · have hinv := oi_t c_6 hinv
    refine lv_aload_n hx hb dX10_lays_9 rfl (lv_at hl 0 rfl) ?_
    refine lv_iconst (v := 1) hx hb dX10_lays_10 (by decide) ?_
    refine s_put C hw (k := 29) (row := (upd (X 29) 9 1)) (ty := tyX10) (v := .int 1) (j := 9) (q47 hN rfl) (sh_29 g cy _) rfl tyX10_ok nmX10 (by decide) k518 rfl rfl rfl (Nat.le_of_ble_eq_true rfl) (sh_29 g cy _) dX10_lays_11 (fun H locs hw => ?_)
    have hR0 := (Option.some.inj hinv).symm
    subst hR0
    have hXe : (up X 29 (upd (X 29) 9 1)) = (up (up (up (up (up (up X 29 (upd (X 29) 9 1)) 36 (X 36)) 37 (X 37)) 38 (X 38)) 39 (X 39)) 40 (X 40)) := by
      funext j
      by_cases h29 : j = 29
      · subst h29; simp [up]
      by_cases h36 : j = 36
      · subst h36; simp [up]
      by_cases h37 : j = 37
      · subst h37; simp [up]
      by_cases h38 : j = 38
      · subst h38; simp [up]
      by_cases h39 : j = 39
      · subst h39; simp [up]
      by_cases h40 : j = 40
      · subst h40; simp [up]
      simp [up, h29, h36, h37, h38, h39, h40]
    rw [hXe] at hw
    exact hret 14 ls _ _ _ _ hw (by decide) (by decide) dX10_lays_14
def m_X10_makes_L32 (F : Nat) (r31 : Nat → Int32) (r32 : Nat → Int32) (y5_32 : Int32) (y4_32 : Int32) (y1_32 : Int32) (y2_32 : Int32) (y3_32 : Int32) : Nat → Int32 → (Nat → Int32) → (Nat → Int32) → (Nat → Int32) → (Nat → Int32) → (Nat → Int32) → (Nat → Int32) → Option (Int32 × (Nat → Int32) × (Nat → Int32) × (Nat → Int32) × (Nat → Int32) × (Nat → Int32) × (Nat → Int32))
  | 0, _, _, _, _, _, _, _ => none
  | n + 1, x6_32, q29_32, q36_32, q37_32, q38_32, q39_32, q40_32 => if y3_32 ≤ x6_32 then (some (x6_32, q29_32, q36_32, q37_32, q38_32, q39_32, q40_32)) else (Option.bind (m_X10_isPart F r32 q36_32 y1_32 1 y5_32) (fun zu4 => if zu4 = 0 then (some (x6_32, q29_32, q36_32, q37_32, q38_32, q39_32, q40_32)) else (Option.bind (m_X10_withAll F q40_32 y4_32) (fun zu5 => Option.bind (m_X10_withAll F q40_32 y5_32) (fun zu6 => Option.bind (m_X10_withAll F q40_32 x6_32) (fun zu7 => Option.bind (Option.bind (m_X10_depthOf F q39_32 y4_32) (fun zu15 => Option.bind (m_X10_depthOf F q39_32 y5_32) (fun zu16 => if zu15 ≤ zu16 then (Option.bind (m_X10_depthOf F q39_32 y5_32) (fun zu17 => some zu17)) else (Option.bind (m_X10_depthOf F q39_32 y4_32) (fun zu18 => some zu18))))) (fun zu8 => Option.bind (Option.bind (m_X10_depthOf F q39_32 x6_32) (fun zu13 => if zu13 ≤ zu8 then (some zu8) else (Option.bind (m_X10_depthOf F q39_32 x6_32) (fun zu14 => some zu14)))) (fun zu9 => Option.bind (m_X10_isPart F r32 q36_32 y1_32 2 x6_32) (fun zu10 => if zu10 = 0 then (m_X10_makes_L32 F r31 r32 y5_32 y4_32 y1_32 y2_32 y3_32 n (x6_32 + 1) q29_32 q36_32 q37_32 q38_32 q39_32 q40_32) else (if zu9 = (y2_32 - 1) then (if ¬ (y1_32 < 0 ∨ 12 ≤ y1_32.toNatClampNeg) then (Option.bind (m_X10_isBuiltOf F q29_32 q36_32 ((zu5 ||| zu6) ||| zu7) (r31 y1_32.toNatClampNeg)) (fun zu11 => if zu11 = 0 then (if ¬ (y1_32 < 0 ∨ 12 ≤ y1_32.toNatClampNeg) then (Option.bind (m_X10_lays F q29_32 q36_32 q37_32 q38_32 q39_32 q40_32 (r31 y1_32.toNatClampNeg) y1_32 y4_32 y5_32 x6_32 y2_32) (fun zu12 => m_X10_makes_L32 F r31 r32 y5_32 y4_32 y1_32 y2_32 y3_32 n (x6_32 + 1) zu12.1 zu12.2.1 zu12.2.2.1 zu12.2.2.2.1 zu12.2.2.2.2.1 zu12.2.2.2.2.2)) else none) else (m_X10_makes_L32 F r31 r32 y5_32 y4_32 y1_32 y2_32 y3_32 n (x6_32 + 1) q29_32 q36_32 q37_32 q38_32 q39_32 q40_32))) else none) else (m_X10_makes_L32 F r31 r32 y5_32 y4_32 y1_32 y2_32 y3_32 n (x6_32 + 1) q29_32 q36_32 q37_32 q38_32 q39_32 q40_32)))))))))))
def m_X10_makes_L12 (F : Nat) (r31 : Nat → Int32) (r32 : Nat → Int32) (y4_12 : Int32) (y1_12 : Int32) (y2_12 : Int32) (y3_12 : Int32) : Nat → Int32 → (Nat → Int32) → (Nat → Int32) → (Nat → Int32) → (Nat → Int32) → (Nat → Int32) → (Nat → Int32) → Option (Int32 × (Nat → Int32) × (Nat → Int32) × (Nat → Int32) × (Nat → Int32) × (Nat → Int32) × (Nat → Int32))
  | 0, _, _, _, _, _, _, _ => none
  | n + 1, x5_12, q29_12, q36_12, q37_12, q38_12, q39_12, q40_12 => if y3_12 ≤ x5_12 then (some (x5_12, q29_12, q36_12, q37_12, q38_12, q39_12, q40_12)) else (Option.bind (m_X10_isPart F r32 q36_12 y1_12 0 y4_12) (fun zu2 => if zu2 = 0 then (some (x5_12, q29_12, q36_12, q37_12, q38_12, q39_12, q40_12)) else (Option.bind (m_X10_makes_L32 F r31 r32 x5_12 y4_12 y1_12 y2_12 y3_12 F (-1) q29_12 q36_12 q37_12 q38_12 q39_12 q40_12) (fun zu3 => m_X10_makes_L12 F r31 r32 y4_12 y1_12 y2_12 y3_12 n (x5_12 + 1) zu3.2.1 zu3.2.2.1 zu3.2.2.2.1 zu3.2.2.2.2.1 zu3.2.2.2.2.2.1 zu3.2.2.2.2.2.2))))
def m_X10_makes_L3 (F : Nat) (r31 : Nat → Int32) (r32 : Nat → Int32) (y1_3 : Int32) (y2_3 : Int32) (y3_3 : Int32) : Nat → Int32 → (Nat → Int32) → (Nat → Int32) → (Nat → Int32) → (Nat → Int32) → (Nat → Int32) → (Nat → Int32) → Option ((Nat → Int32) × (Nat → Int32) × (Nat → Int32) × (Nat → Int32) × (Nat → Int32) × (Nat → Int32))
  | 0, _, _, _, _, _, _, _ => none
  | n + 1, x4_3, q29_3, q36_3, q37_3, q38_3, q39_3, q40_3 => if y3_3 ≤ x4_3 then (some (q29_3, q36_3, q37_3, q38_3, q39_3, q40_3)) else (Option.bind (m_X10_makes_L12 F r31 r32 x4_3 y1_3 y2_3 y3_3 F (-1) q29_3 q36_3 q37_3 q38_3 q39_3 q40_3) (fun zu1 => m_X10_makes_L3 F r31 r32 y1_3 y2_3 y3_3 n (x4_3 + 1) zu1.2.1 zu1.2.2.1 zu1.2.2.2.1 zu1.2.2.2.2.1 zu1.2.2.2.2.2.1 zu1.2.2.2.2.2.2))
def m_X10_makes (F : Nat) (r29 : Nat → Int32) (r31 : Nat → Int32) (r32 : Nat → Int32) (r36 : Nat → Int32) (r37 : Nat → Int32) (r38 : Nat → Int32) (r39 : Nat → Int32) (r40 : Nat → Int32) (za1 : Int32) (za2 : Int32) (za3 : Int32) : Option ((Nat → Int32) × (Nat → Int32) × (Nat → Int32) × (Nat → Int32) × (Nat → Int32) × (Nat → Int32)) := m_X10_makes_L3 F r31 r32 za1 za2 za3 F (-1) r29 r36 r37 r38 r39 r40
set_option maxHeartbeats 4000000 in
set_option maxRecDepth 100000 in
theorem c_X10_makes {l : Launch} {D : va_G} {cy : Nat → Nat} {g : Nat → Nat} {N : Nat} {X : Nat → Nat → Int32} {F : Nat} {za1 : Int32} {za2 : Int32} {za3 : Int32} {R0 : (Nat → Int32) × (Nat → Int32) × (Nat → Int32) × (Nat → Int32) × (Nat → Int32) × (Nat → Int32)} (hfl : l.stackTraces = false) (hN : 47 ≤ N) (hinv : m_X10_makes F (X 29) (X 31) (X 32) (X 36) (X 37) (X 38) (X 39) (X 40) za1 za2 za3 = some R0) : sWv l D cy yX10_makes cX10_makes 9 none 2 0 0 [.ref (g 29), .int za1, .int za2, .int za3] g N X (up (up (up (up (up (up X 29 R0.1) 36 R0.2.1) 37 R0.2.2.1) 38 R0.2.2.2.1) 39 R0.2.2.2.2.1) 40 R0.2.2.2.2.2) := by
  refine jWv (own := RX10) (by decide) rfl hfl (Nat.le_of_ble_eq_true rfl) rfl ?_
  intro p e R s m args below meth c ls A Q hRe C hw hl hret
  subst hRe
  have hx := C.1
  have hb := C.2.1
  have hl : lv_has ls 9 [(0, .ref (g 29)), (1, .int za1), (2, .int za2), (3, .int za3)] := hl
  rw [m_X10_makes] at hinv
  refine lv_iconst (v := (-1)) hx hb dX10_makes_0 (by decide) ?_
  refine lv_istore (lv' := [(4, .int (-1)), (0, .ref (g 29)), (1, .int za1), (2, .int za2), (3, .int za3)]) hx hb dX10_makes_1 hl (by decide) rfl (fun ls hl => ?_)
  have hXe : X = (up (up (up (up (up (up X 29 (X 29)) 36 (X 36)) 37 (X 37)) 38 (X 38)) 39 (X 39)) 40 (X 40)) := by
    funext j
    by_cases h29 : j = 29
    · subst h29; simp [up]
    by_cases h36 : j = 36
    · subst h36; simp [up]
    by_cases h37 : j = 37
    · subst h37; simp [up]
    by_cases h38 : j = 38
    · subst h38; simp [up]
    by_cases h39 : j = 39
    · subst h39; simp [up]
    by_cases h40 : j = 40
    · subst h40; simp [up]
    simp [up, h29, h36, h37, h38, h39, h40]
  rw [hXe] at hw
  have hl3 : ∀ (n : Nat) (x4_3 : Int32) (q29_3 : Nat → Int32) (q36_3 : Nat → Int32) (q37_3 : Nat → Int32) (q38_3 : Nat → Int32) (q39_3 : Nat → Int32) (q40_3 : Nat → Int32), m_X10_makes_L3 F (X 31) (X 32) za1 za2 za3 n x4_3 q29_3 q36_3 q37_3 q38_3 q39_3 q40_3 = some R0 → ∀ (H : Heap) (locs : List Loc) (ls : Array Slot), Wd D A s.heap g N (shp g cy (up (up (up (up (up (up X 29 q29_3) 36 q36_3) 37 q37_3) 38 q38_3) 39 q39_3) 40 q40_3)) H locs → lv_has ls 9 [(4, .int x4_3), (0, .ref (g 29)), (1, .int za1), (2, .int za2), (3, .int za3)] → W p l e (wR 2 0 0) s m args below meth c H locs 0 0 Q (F0 m 3 ls []) := by
    intro n
    induction n with
    | zero =>
      intro x4_3 q29_3 q36_3 q37_3 q38_3 q39_3 q40_3 hinv
      cases hinv
    | succ n ih =>
      intro x4_3 q29_3 q36_3 q37_3 q38_3 q39_3 q40_3 hinv H locs ls hw hl
      rw [m_X10_makes_L3] at hinv
      refine lv_iload hx hb dX10_makes_3 (lv_at hl 0 rfl) ?_
      refine lv_iload_n hx hb dX10_makes_5 rfl (lv_at hl 4 rfl) ?_
      refine lv_icmp_ge (tgt := 197) hx hb dX10_makes_6 (by decide) (fun c_6 => ?_) (fun c_6 => ?_)
      · have hinv := oi_t c_6 hinv
        have hR0 := (Option.some.inj hinv).symm
        subst hR0
        exact hret 197 ls _ _ _ _ hw (by decide) (by decide) dX10_makes_197
      · have hinv := oi_f c_6 hinv
        refine lv_iconst (v := (-1)) hx hb dX10_makes_9 (by decide) ?_
        refine lv_istore (lv' := [(5, .int (-1)), (4, .int x4_3), (0, .ref (g 29)), (1, .int za1), (2, .int za2), (3, .int za3)]) hx hb dX10_makes_10 hl (by decide) rfl (fun ls hl => ?_)
        obtain ⟨zu1, hzu1, hinv⟩ := ob hinv
        have hx12 : ∀ (H : Heap) (locs : List Loc) (ls : Array Slot), Wd D A s.heap g N (shp g cy (up (up (up (up (up (up X 29 zu1.2.1) 36 zu1.2.2.1) 37 zu1.2.2.2.1) 38 zu1.2.2.2.2.1) 39 zu1.2.2.2.2.2.1) 40 zu1.2.2.2.2.2.2)) H locs → lv_has ls 9 [(5, .int zu1.1), (4, .int x4_3), (0, .ref (g 29)), (1, .int za1), (2, .int za2), (3, .int za3)] → W p l e (wR 2 0 0) s m args below meth c H locs 0 0 Q (F0 m 191 ls []) := by
          intro H locs ls hw hl
          refine lv_iinc (v := (x4_3 + 1)) (lv' := [(4, .int (x4_3 + 1)), (5, .int zu1.1), (0, .ref (g 29)), (1, .int za1), (2, .int za2), (3, .int za3)]) hx hb dX10_makes_191 hl (k := 1) rfl (by rfl) (by decide) rfl (fun ls hl => ?_)
          refine lv_goto (tgt := 3) hx hb dX10_makes_194 (by decide) ?_
          exact ih (x4_3 + 1) zu1.2.1 zu1.2.2.1 zu1.2.2.2.1 zu1.2.2.2.2.1 zu1.2.2.2.2.2.1 zu1.2.2.2.2.2.2 hinv _ _ ls hw (lv_sub hl [0, 2, 3, 4, 5] rfl)
        have hl12 : ∀ (n : Nat) (x5_12 : Int32) (q29_12 : Nat → Int32) (q36_12 : Nat → Int32) (q37_12 : Nat → Int32) (q38_12 : Nat → Int32) (q39_12 : Nat → Int32) (q40_12 : Nat → Int32), m_X10_makes_L12 F (X 31) (X 32) x4_3 za1 za2 za3 n x5_12 q29_12 q36_12 q37_12 q38_12 q39_12 q40_12 = some zu1 → ∀ (H : Heap) (locs : List Loc) (ls : Array Slot), Wd D A s.heap g N (shp g cy (up (up (up (up (up (up X 29 q29_12) 36 q36_12) 37 q37_12) 38 q38_12) 39 q39_12) 40 q40_12)) H locs → lv_has ls 9 [(5, .int x5_12), (4, .int x4_3), (0, .ref (g 29)), (1, .int za1), (2, .int za2), (3, .int za3)] → W p l e (wR 2 0 0) s m args below meth c H locs 0 0 Q (F0 m 12 ls []) := by
          intro n
          induction n with
          | zero =>
            intro x5_12 q29_12 q36_12 q37_12 q38_12 q39_12 q40_12 hinv
            cases hinv
          | succ n ih =>
            intro x5_12 q29_12 q36_12 q37_12 q38_12 q39_12 q40_12 hinv H locs ls hw hl
            rw [m_X10_makes_L12] at hinv
            refine lv_iload hx hb dX10_makes_12 (lv_at hl 0 rfl) ?_
            refine lv_iload_n hx hb dX10_makes_14 rfl (lv_at hl 5 rfl) ?_
            refine lv_icmp_ge (tgt := 191) hx hb dX10_makes_15 (by decide) (fun c_15 => ?_) (fun c_15 => ?_)
            · have hinv := oi_t c_15 hinv
              have hR9 := Option.some.inj hinv
              subst hR9
              exact hx12 _ _ ls hw (lv_sub hl [0, 1, 2, 3, 4, 5] rfl)
            · have hinv := oi_f c_15 hinv
              refine lv_aload_n hx hb dX10_makes_18 rfl (lv_at hl 2 rfl) ?_
              refine lv_iload_n hx hb dX10_makes_19 rfl (lv_at hl 3 rfl) ?_
              refine lv_iconst (v := 0) hx hb dX10_makes_20 (by decide) ?_
              refine lv_iload hx hb dX10_makes_21 (lv_at hl 1 rfl) ?_
              obtain ⟨zu2, hzu2, hinv⟩ := ob hinv
              refine s_vRi (r0 := zu2) C hw (As := [.int za1, .int 0, .int x4_3]) bX10_isPart k525 (k := 29) (q47 hN rfl) (sh_29 g cy _) rfl (c_X10_isPart (X := (up (up (up (up (up (up X 29 q29_12) 36 q36_12) 37 q37_12) 38 q38_12) 39 q39_12) 40 q40_12)) hfl hN hzu2) rfl rfl dX10_makes_23 ⟨rfl, rfl⟩ (by decide) hl.1 (Nat.le_of_ble_eq_true rfl) ⟨Nat.le_of_ble_eq_true rfl, Nat.le_of_ble_eq_true rfl⟩ ?_
              refine lv_if_eq (tgt := 191) hx hb dX10_makes_26 (by decide) (fun c_26 => ?_) (fun c_26 => ?_)
              · have hinv := oi_t c_26 hinv
                have hR9 := Option.some.inj hinv
                subst hR9
                exact hx12 _ _ ls hw (lv_sub hl [0, 1, 2, 3, 4, 5] rfl)
              · have hinv := oi_f c_26 hinv
                refine lv_iconst (v := (-1)) hx hb dX10_makes_29 (by decide) ?_
                refine lv_istore (lv' := [(6, .int (-1)), (5, .int x5_12), (4, .int x4_3), (0, .ref (g 29)), (1, .int za1), (2, .int za2), (3, .int za3)]) hx hb dX10_makes_30 hl (by decide) rfl (fun ls hl => ?_)
                obtain ⟨zu3, hzu3, hinv⟩ := ob hinv
                have hx32 : ∀ (H : Heap) (locs : List Loc) (ls : Array Slot), Wd D A s.heap g N (shp g cy (up (up (up (up (up (up X 29 zu3.2.1) 36 zu3.2.2.1) 37 zu3.2.2.2.1) 38 zu3.2.2.2.2.1) 39 zu3.2.2.2.2.2.1) 40 zu3.2.2.2.2.2.2)) H locs → lv_has ls 9 [(6, .int zu3.1), (5, .int x5_12), (4, .int x4_3), (0, .ref (g 29)), (1, .int za1), (2, .int za2), (3, .int za3)] → W p l e (wR 2 0 0) s m args below meth c H locs 0 0 Q (F0 m 185 ls []) := by
                  intro H locs ls hw hl
                  refine lv_iinc (v := (x5_12 + 1)) (lv' := [(5, .int (x5_12 + 1)), (6, .int zu3.1), (4, .int x4_3), (0, .ref (g 29)), (1, .int za1), (2, .int za2), (3, .int za3)]) hx hb dX10_makes_185 hl (k := 1) rfl (by rfl) (by decide) rfl (fun ls hl => ?_)
                  refine lv_goto (tgt := 12) hx hb dX10_makes_188 (by decide) ?_
                  exact ih (x5_12 + 1) zu3.2.1 zu3.2.2.1 zu3.2.2.2.1 zu3.2.2.2.2.1 zu3.2.2.2.2.2.1 zu3.2.2.2.2.2.2 hinv _ _ ls hw (lv_sub hl [0, 2, 3, 4, 5, 6] rfl)
                have hl32 : ∀ (n : Nat) (x6_32 : Int32) (q29_32 : Nat → Int32) (q36_32 : Nat → Int32) (q37_32 : Nat → Int32) (q38_32 : Nat → Int32) (q39_32 : Nat → Int32) (q40_32 : Nat → Int32), m_X10_makes_L32 F (X 31) (X 32) x5_12 x4_3 za1 za2 za3 n x6_32 q29_32 q36_32 q37_32 q38_32 q39_32 q40_32 = some zu3 → ∀ (H : Heap) (locs : List Loc) (ls : Array Slot), Wd D A s.heap g N (shp g cy (up (up (up (up (up (up X 29 q29_32) 36 q36_32) 37 q37_32) 38 q38_32) 39 q39_32) 40 q40_32)) H locs → lv_has ls 9 [(6, .int x6_32), (5, .int x5_12), (4, .int x4_3), (0, .ref (g 29)), (1, .int za1), (2, .int za2), (3, .int za3)] → W p l e (wR 2 0 0) s m args below meth c H locs 0 0 Q (F0 m 32 ls []) := by
                  intro n
                  induction n with
                  | zero =>
                    intro x6_32 q29_32 q36_32 q37_32 q38_32 q39_32 q40_32 hinv
                    cases hinv
                  | succ n ih =>
                    intro x6_32 q29_32 q36_32 q37_32 q38_32 q39_32 q40_32 hinv H locs ls hw hl
                    rw [m_X10_makes_L32] at hinv
                    refine lv_iload hx hb dX10_makes_32 (lv_at hl 0 rfl) ?_
                    refine lv_iload_n hx hb dX10_makes_34 rfl (lv_at hl 6 rfl) ?_
                    refine lv_icmp_ge (tgt := 185) hx hb dX10_makes_35 (by decide) (fun c_35 => ?_) (fun c_35 => ?_)
                    · have hinv := oi_t c_35 hinv
                      have hR9 := Option.some.inj hinv
                      subst hR9
                      exact hx32 _ _ ls hw (lv_sub hl [0, 1, 2, 3, 4, 5, 6] rfl)
                    · have hinv := oi_f c_35 hinv
                      refine lv_aload_n hx hb dX10_makes_38 rfl (lv_at hl 3 rfl) ?_
                      refine lv_iload_n hx hb dX10_makes_39 rfl (lv_at hl 4 rfl) ?_
                      refine lv_iconst (v := 1) hx hb dX10_makes_40 (by decide) ?_
                      refine lv_iload hx hb dX10_makes_41 (lv_at hl 1 rfl) ?_
                      obtain ⟨zu4, hzu4, hinv⟩ := ob hinv
                      refine s_vRi (r0 := zu4) C hw (As := [.int za1, .int 1, .int x5_12]) bX10_isPart k525 (k := 29) (q47 hN rfl) (sh_29 g cy _) rfl (c_X10_isPart (X := (up (up (up (up (up (up X 29 q29_32) 36 q36_32) 37 q37_32) 38 q38_32) 39 q39_32) 40 q40_32)) hfl hN hzu4) rfl rfl dX10_makes_43 ⟨rfl, rfl⟩ (by decide) hl.1 (Nat.le_of_ble_eq_true rfl) ⟨Nat.le_of_ble_eq_true rfl, Nat.le_of_ble_eq_true rfl⟩ ?_
                      refine lv_if_eq (tgt := 185) hx hb dX10_makes_46 (by decide) (fun c_46 => ?_) (fun c_46 => ?_)
                      · have hinv := oi_t c_46 hinv
                        have hR9 := Option.some.inj hinv
                        subst hR9
                        exact hx32 _ _ ls hw (lv_sub hl [0, 1, 2, 3, 4, 5, 6] rfl)
                      · have hinv := oi_f c_46 hinv
                        refine lv_aload_n hx hb dX10_makes_49 rfl (lv_at hl 3 rfl) ?_
                        refine lv_iload hx hb dX10_makes_50 (lv_at hl 2 rfl) ?_
                        obtain ⟨zu5, hzu5, hinv⟩ := ob hinv
                        refine s_vRi (r0 := zu5) C hw (As := [.int x4_3]) bX10_withAll k519 (k := 29) (q47 hN rfl) (sh_29 g cy _) rfl (c_X10_withAll (X := (up (up (up (up (up (up X 29 q29_32) 36 q36_32) 37 q37_32) 38 q38_32) 39 q39_32) 40 q40_32)) hfl hN hzu5) rfl rfl dX10_makes_52 ⟨rfl, rfl⟩ (by decide) hl.1 (Nat.le_of_ble_eq_true rfl) ⟨Nat.le_of_ble_eq_true rfl, Nat.le_of_ble_eq_true rfl⟩ ?_
                        refine lv_aload_n hx hb dX10_makes_55 rfl (lv_at hl 3 rfl) ?_
                        refine lv_iload hx hb dX10_makes_56 (lv_at hl 1 rfl) ?_
                        obtain ⟨zu6, hzu6, hinv⟩ := ob hinv
                        refine s_vRi (r0 := zu6) C hw (As := [.int x5_12]) bX10_withAll k519 (k := 29) (q47 hN rfl) (sh_29 g cy _) rfl (c_X10_withAll (X := (up (up (up (up (up (up X 29 q29_32) 36 q36_32) 37 q37_32) 38 q38_32) 39 q39_32) 40 q40_32)) hfl hN hzu6) rfl rfl dX10_makes_58 ⟨rfl, rfl⟩ (by decide) hl.1 (Nat.le_of_ble_eq_true rfl) ⟨Nat.le_of_ble_eq_true rfl, Nat.le_of_ble_eq_true rfl⟩ ?_
                        refine lv_ior hx hb dX10_makes_61 ?_
                        refine lv_aload_n hx hb dX10_makes_62 rfl (lv_at hl 3 rfl) ?_
                        refine lv_iload hx hb dX10_makes_63 (lv_at hl 0 rfl) ?_
                        obtain ⟨zu7, hzu7, hinv⟩ := ob hinv
                        refine s_vRi (r0 := zu7) C hw (As := [.int x6_32]) bX10_withAll k519 (k := 29) (q47 hN rfl) (sh_29 g cy _) rfl (c_X10_withAll (X := (up (up (up (up (up (up X 29 q29_32) 36 q36_32) 37 q37_32) 38 q38_32) 39 q39_32) 40 q40_32)) hfl hN hzu7) rfl rfl dX10_makes_65 ⟨rfl, rfl⟩ (by decide) hl.1 (Nat.le_of_ble_eq_true rfl) ⟨Nat.le_of_ble_eq_true rfl, Nat.le_of_ble_eq_true rfl⟩ ?_
                        refine lv_ior hx hb dX10_makes_68 ?_
                        refine lv_istore (lv' := [(7, .int ((zu5 ||| zu6) ||| zu7)), (6, .int x6_32), (5, .int x5_12), (4, .int x4_3), (0, .ref (g 29)), (1, .int za1), (2, .int za2), (3, .int za3)]) hx hb dX10_makes_69 hl (by decide) rfl (fun ls hl => ?_)
                        obtain ⟨zu8, hzu8, hinv⟩ := ob hinv
                        have hx71 : ∀ (H : Heap) (locs : List Loc) (ls : Array Slot), Wd D A s.heap g N (shp g cy (up (up (up (up (up (up X 29 q29_32) 36 q36_32) 37 q37_32) 38 q38_32) 39 q39_32) 40 q40_32)) H locs → lv_has ls 9 [(7, .int ((zu5 ||| zu6) ||| zu7)), (6, .int x6_32), (5, .int x5_12), (4, .int x4_3), (0, .ref (g 29)), (1, .int za1), (2, .int za2), (3, .int za3)] → W p l e (wR 2 0 0) s m args below meth c H locs 0 0 Q (F0 m 101 ls [.int zu8]) := by
                          intro H locs ls hw hl
                          refine lv_istore (lv' := [(8, .int zu8), (7, .int ((zu5 ||| zu6) ||| zu7)), (6, .int x6_32), (5, .int x5_12), (4, .int x4_3), (0, .ref (g 29)), (1, .int za1), (2, .int za2), (3, .int za3)]) hx hb dX10_makes_101 hl (by decide) rfl (fun ls hl => ?_)
                          obtain ⟨zu9, hzu9, hinv⟩ := ob hinv
                          have hx103 : ∀ (H : Heap) (locs : List Loc) (ls : Array Slot), Wd D A s.heap g N (shp g cy (up (up (up (up (up (up X 29 q29_32) 36 q36_32) 37 q37_32) 38 q38_32) 39 q39_32) 40 q40_32)) H locs → lv_has ls 9 [(8, .int zu8), (7, .int ((zu5 ||| zu6) ||| zu7)), (6, .int x6_32), (5, .int x5_12), (4, .int x4_3), (0, .ref (g 29)), (1, .int za1), (2, .int za2), (3, .int za3)] → W p l e (wR 2 0 0) s m args below meth c H locs 0 0 Q (F0 m 125 ls [.int zu9]) := by
                            intro H locs ls hw hl
                            refine lv_istore (lv' := [(8, .int zu9), (7, .int ((zu5 ||| zu6) ||| zu7)), (6, .int x6_32), (5, .int x5_12), (4, .int x4_3), (0, .ref (g 29)), (1, .int za1), (2, .int za2), (3, .int za3)]) hx hb dX10_makes_125 hl (by decide) rfl (fun ls hl => ?_)
                            refine lv_aload_n hx hb dX10_makes_127 rfl (lv_at hl 5 rfl) ?_
                            refine lv_iload_n hx hb dX10_makes_128 rfl (lv_at hl 6 rfl) ?_
                            refine lv_iconst (v := 2) hx hb dX10_makes_129 (by decide) ?_
                            refine lv_iload hx hb dX10_makes_130 (lv_at hl 2 rfl) ?_
                            obtain ⟨zu10, hzu10, hinv⟩ := ob hinv
                            refine s_vRi (r0 := zu10) C hw (As := [.int za1, .int 2, .int x6_32]) bX10_isPart k525 (k := 29) (q47 hN rfl) (sh_29 g cy _) rfl (c_X10_isPart (X := (up (up (up (up (up (up X 29 q29_32) 36 q36_32) 37 q37_32) 38 q38_32) 39 q39_32) 40 q40_32)) hfl hN hzu10) rfl rfl dX10_makes_132 ⟨rfl, rfl⟩ (by decide) hl.1 (Nat.le_of_ble_eq_true rfl) ⟨Nat.le_of_ble_eq_true rfl, Nat.le_of_ble_eq_true rfl⟩ ?_
                            refine lv_if_eq (tgt := 179) hx hb dX10_makes_135 (by decide) (fun c_135 => ?_) (fun c_135 => ?_)
                            · have hinv := oi_t c_135 hinv
                              refine lv_iinc (v := (x6_32 + 1)) (lv' := [(6, .int (x6_32 + 1)), (8, .int zu9), (7, .int ((zu5 ||| zu6) ||| zu7)), (5, .int x5_12), (4, .int x4_3), (0, .ref (g 29)), (1, .int za1), (2, .int za2), (3, .int za3)]) hx hb dX10_makes_179 hl (k := 2) rfl (by rfl) (by decide) rfl (fun ls hl => ?_)
                              refine lv_goto (tgt := 32) hx hb dX10_makes_182 (by decide) ?_
                              exact ih (x6_32 + 1) q29_32 q36_32 q37_32 q38_32 q39_32 q40_32 hinv _ _ ls hw (lv_sub hl [0, 3, 4, 5, 6, 7, 8] rfl)
                            · have hinv := oi_f c_135 hinv
                              refine lv_iload hx hb dX10_makes_138 (lv_at hl 0 rfl) ?_
                              refine lv_iload_n hx hb dX10_makes_140 rfl (lv_at hl 7 rfl) ?_
                              refine lv_iconst (v := 1) hx hb dX10_makes_141 (by decide) ?_
                              refine lv_isub hx hb dX10_makes_142 ?_
                              refine lv_icmp_ne (tgt := 179) hx hb dX10_makes_143 (by decide) (fun c_143 => ?_) (fun c_143 => ?_)
                              · have hinv := oi_f c_143 hinv
                                refine lv_iinc (v := (x6_32 + 1)) (lv' := [(6, .int (x6_32 + 1)), (8, .int zu9), (7, .int ((zu5 ||| zu6) ||| zu7)), (5, .int x5_12), (4, .int x4_3), (0, .ref (g 29)), (1, .int za1), (2, .int za2), (3, .int za3)]) hx hb dX10_makes_179 hl (k := 2) rfl (by rfl) (by decide) rfl (fun ls hl => ?_)
                                refine lv_goto (tgt := 32) hx hb dX10_makes_182 (by decide) ?_
                                exact ih (x6_32 + 1) q29_32 q36_32 q37_32 q38_32 q39_32 q40_32 hinv _ _ ls hw (lv_sub hl [0, 3, 4, 5, 6, 7, 8] rfl)
                              · have hinv := oi_t c_143 hinv
                                refine lv_aload_n hx hb dX10_makes_146 rfl (lv_at hl 5 rfl) ?_
                                refine lv_iload hx hb dX10_makes_147 (lv_at hl 1 rfl) ?_
                                refine lv_aload_n hx hb dX10_makes_149 rfl (lv_at hl 5 rfl) ?_
                                refine w_get C hw (k := 29) (v := .ref (g 31)) (j := 3) (q47 hN rfl) (sh_29 g cy _) rfl (by decide) k470 rfl dX10_makes_150 ?_
                                refine lv_iload_n hx hb dX10_makes_153 rfl (lv_at hl 6 rfl) ?_
                                obtain ⟨hb_154, hinv⟩ := oi_c hinv
                                refine s_iald C hw (k := 31) (a := (X 31)) (q47 hN rfl) (fun r => sh_31 g cy r) rfl hb_154 dX10_makes_154 ?_
                                obtain ⟨zu11, hzu11, hinv⟩ := ob hinv
                                refine s_vRi (r0 := zu11) C hw (As := [.int ((zu5 ||| zu6) ||| zu7), .int ((X 31) za1.toNatClampNeg)]) bX10_isBuiltOf k531 (k := 29) (q47 hN rfl) (sh_29 g cy _) rfl (c_X10_isBuiltOf (X := (up (up (up (up (up (up X 29 q29_32) 36 q36_32) 37 q37_32) 38 q38_32) 39 q39_32) 40 q40_32)) hfl hN hzu11) rfl rfl dX10_makes_155 ⟨rfl, rfl⟩ (by decide) hl.1 (Nat.le_of_ble_eq_true rfl) ⟨Nat.le_of_ble_eq_true rfl, Nat.le_of_ble_eq_true rfl⟩ ?_
                                refine lv_if_ne (tgt := 179) hx hb dX10_makes_158 (by decide) (fun c_158 => ?_) (fun c_158 => ?_)
                                · have hinv := oi_f c_158 hinv
                                  refine lv_iinc (v := (x6_32 + 1)) (lv' := [(6, .int (x6_32 + 1)), (8, .int zu9), (7, .int ((zu5 ||| zu6) ||| zu7)), (5, .int x5_12), (4, .int x4_3), (0, .ref (g 29)), (1, .int za1), (2, .int za2), (3, .int za3)]) hx hb dX10_makes_179 hl (k := 2) rfl (by rfl) (by decide) rfl (fun ls hl => ?_)
                                  refine lv_goto (tgt := 32) hx hb dX10_makes_182 (by decide) ?_
                                  exact ih (x6_32 + 1) q29_32 q36_32 q37_32 q38_32 q39_32 q40_32 hinv _ _ ls hw (lv_sub hl [0, 3, 4, 5, 6, 7, 8] rfl)
                                · have hinv := oi_t c_158 hinv
                                  refine lv_aload_n hx hb dX10_makes_161 rfl (lv_at hl 5 rfl) ?_
                                  refine lv_aload_n hx hb dX10_makes_162 rfl (lv_at hl 5 rfl) ?_
                                  refine w_get C hw (k := 29) (v := .ref (g 31)) (j := 3) (q47 hN rfl) (sh_29 g cy _) rfl (by decide) k470 rfl dX10_makes_163 ?_
                                  refine lv_iload_n hx hb dX10_makes_166 rfl (lv_at hl 6 rfl) ?_
                                  obtain ⟨hb_167, hinv⟩ := oi_c hinv
                                  refine s_iald C hw (k := 31) (a := (X 31)) (q47 hN rfl) (fun r => sh_31 g cy r) rfl hb_167 dX10_makes_167 ?_
                                  refine lv_iload_n hx hb dX10_makes_168 rfl (lv_at hl 6 rfl) ?_
                                  refine lv_iload hx hb dX10_makes_169 (lv_at hl 4 rfl) ?_
                                  refine lv_iload hx hb dX10_makes_171 (lv_at hl 3 rfl) ?_
                                  refine lv_iload hx hb dX10_makes_173 (lv_at hl 2 rfl) ?_
                                  refine lv_iload_n hx hb dX10_makes_175 rfl (lv_at hl 7 rfl) ?_
                                  obtain ⟨zu12, hzu12, hinv⟩ := ob hinv
                                  refine s_vWv C hw (As := [.int ((X 31) za1.toNatClampNeg), .int za1, .int x4_3, .int x5_12, .int x6_32, .int za2]) bX10_lays k534 (k := 29) (q47 hN rfl) (sh_29 g cy _) rfl (c_X10_lays (X := (up (up (up (up (up (up X 29 q29_32) 36 q36_32) 37 q37_32) 38 q38_32) 39 q39_32) 40 q40_32)) hfl hN hzu12) rfl rfl dX10_makes_176 ⟨rfl, rfl⟩ (by decide) hl.1 (Nat.le_of_ble_eq_true rfl) ⟨Nat.le_of_ble_eq_true rfl, Nat.le_of_ble_eq_true rfl⟩ (fun H locs hw => ?_)
                                  refine lv_iinc (v := (x6_32 + 1)) (lv' := [(6, .int (x6_32 + 1)), (8, .int zu9), (7, .int ((zu5 ||| zu6) ||| zu7)), (5, .int x5_12), (4, .int x4_3), (0, .ref (g 29)), (1, .int za1), (2, .int za2), (3, .int za3)]) hx hb dX10_makes_179 hl (k := 2) rfl (by rfl) (by decide) rfl (fun ls hl => ?_)
                                  refine lv_goto (tgt := 32) hx hb dX10_makes_182 (by decide) ?_
                                  have hXe : (up (up (up (up (up (up (up (up (up (up (up (up X 29 q29_32) 36 q36_32) 37 q37_32) 38 q38_32) 39 q39_32) 40 q40_32) 29 zu12.1) 36 zu12.2.1) 37 zu12.2.2.1) 38 zu12.2.2.2.1) 39 zu12.2.2.2.2.1) 40 zu12.2.2.2.2.2) = (up (up (up (up (up (up X 29 zu12.1) 36 zu12.2.1) 37 zu12.2.2.1) 38 zu12.2.2.2.1) 39 zu12.2.2.2.2.1) 40 zu12.2.2.2.2.2) := by
                                    funext j
                                    by_cases h29 : j = 29
                                    · subst h29; simp [up]
                                    by_cases h36 : j = 36
                                    · subst h36; simp [up]
                                    by_cases h37 : j = 37
                                    · subst h37; simp [up]
                                    by_cases h38 : j = 38
                                    · subst h38; simp [up]
                                    by_cases h39 : j = 39
                                    · subst h39; simp [up]
                                    by_cases h40 : j = 40
                                    · subst h40; simp [up]
                                    simp [up, h29, h36, h37, h38, h39, h40]
                                  rw [hXe] at hw
                                  exact ih (x6_32 + 1) zu12.1 zu12.2.1 zu12.2.2.1 zu12.2.2.2.1 zu12.2.2.2.2.1 zu12.2.2.2.2.2 hinv _ _ ls hw (lv_sub hl [0, 3, 4, 5, 6, 7, 8] rfl)
                          have hinv := hzu9
                          refine lv_aload_n hx hb dX10_makes_103 rfl (lv_at hl 5 rfl) ?_
                          refine lv_iload hx hb dX10_makes_104 (lv_at hl 2 rfl) ?_
                          obtain ⟨zu13, hzu13, hinv⟩ := ob hinv
                          refine s_vRi (r0 := zu13) C hw (As := [.int x6_32]) bX10_depthOf k528 (k := 29) (q47 hN rfl) (sh_29 g cy _) rfl (c_X10_depthOf (X := (up (up (up (up (up (up X 29 q29_32) 36 q36_32) 37 q37_32) 38 q38_32) 39 q39_32) 40 q40_32)) hfl hN hzu13) rfl rfl dX10_makes_106 ⟨rfl, rfl⟩ (by decide) hl.1 (Nat.le_of_ble_eq_true rfl) ⟨Nat.le_of_ble_eq_true rfl, Nat.le_of_ble_eq_true rfl⟩ ?_
                          refine lv_iload hx hb dX10_makes_109 (lv_at hl 0 rfl) ?_
                          refine lv_icmp_le (tgt := 123) hx hb dX10_makes_111 (by decide) (fun c_111 => ?_) (fun c_111 => ?_)
                          · have hinv := oi_t c_111 hinv
                            refine lv_iload hx hb dX10_makes_123 (lv_at hl 0 rfl) ?_
                            have hR9 := Option.some.inj hinv
                            subst hR9
                            exact hx103 _ _ ls hw (lv_sub hl [0, 1, 2, 3, 4, 5, 6, 7, 8] rfl)
                          · have hinv := oi_f c_111 hinv
                            refine lv_aload_n hx hb dX10_makes_114 rfl (lv_at hl 5 rfl) ?_
                            refine lv_iload hx hb dX10_makes_115 (lv_at hl 2 rfl) ?_
                            obtain ⟨zu14, hzu14, hinv⟩ := ob hinv
                            refine s_vRi (r0 := zu14) C hw (As := [.int x6_32]) bX10_depthOf k528 (k := 29) (q47 hN rfl) (sh_29 g cy _) rfl (c_X10_depthOf (X := (up (up (up (up (up (up X 29 q29_32) 36 q36_32) 37 q37_32) 38 q38_32) 39 q39_32) 40 q40_32)) hfl hN hzu14) rfl rfl dX10_makes_117 ⟨rfl, rfl⟩ (by decide) hl.1 (Nat.le_of_ble_eq_true rfl) ⟨Nat.le_of_ble_eq_true rfl, Nat.le_of_ble_eq_true rfl⟩ ?_
                            refine lv_goto (tgt := 125) hx hb dX10_makes_120 (by decide) ?_
                            have hR9 := Option.some.inj hinv
                            subst hR9
                            exact hx103 _ _ ls hw (lv_sub hl [0, 1, 2, 3, 4, 5, 6, 7, 8] rfl)
                        have hinv := hzu8
                        refine lv_aload_n hx hb dX10_makes_71 rfl (lv_at hl 4 rfl) ?_
                        refine lv_iload hx hb dX10_makes_72 (lv_at hl 3 rfl) ?_
                        obtain ⟨zu15, hzu15, hinv⟩ := ob hinv
                        refine s_vRi (r0 := zu15) C hw (As := [.int x4_3]) bX10_depthOf k528 (k := 29) (q47 hN rfl) (sh_29 g cy _) rfl (c_X10_depthOf (X := (up (up (up (up (up (up X 29 q29_32) 36 q36_32) 37 q37_32) 38 q38_32) 39 q39_32) 40 q40_32)) hfl hN hzu15) rfl rfl dX10_makes_74 ⟨rfl, rfl⟩ (by decide) hl.1 (Nat.le_of_ble_eq_true rfl) ⟨Nat.le_of_ble_eq_true rfl, Nat.le_of_ble_eq_true rfl⟩ ?_
                        refine lv_aload_n hx hb dX10_makes_77 rfl (lv_at hl 4 rfl) ?_
                        refine lv_iload hx hb dX10_makes_78 (lv_at hl 2 rfl) ?_
                        obtain ⟨zu16, hzu16, hinv⟩ := ob hinv
                        refine s_vRi (r0 := zu16) C hw (As := [.int x5_12]) bX10_depthOf k528 (k := 29) (q47 hN rfl) (sh_29 g cy _) rfl (c_X10_depthOf (X := (up (up (up (up (up (up X 29 q29_32) 36 q36_32) 37 q37_32) 38 q38_32) 39 q39_32) 40 q40_32)) hfl hN hzu16) rfl rfl dX10_makes_80 ⟨rfl, rfl⟩ (by decide) hl.1 (Nat.le_of_ble_eq_true rfl) ⟨Nat.le_of_ble_eq_true rfl, Nat.le_of_ble_eq_true rfl⟩ ?_
                        refine lv_icmp_le (tgt := 95) hx hb dX10_makes_83 (by decide) (fun c_83 => ?_) (fun c_83 => ?_)
                        · have hinv := oi_t c_83 hinv
                          refine lv_aload_n hx hb dX10_makes_95 rfl (lv_at hl 4 rfl) ?_
                          refine lv_iload hx hb dX10_makes_96 (lv_at hl 2 rfl) ?_
                          obtain ⟨zu17, hzu17, hinv⟩ := ob hinv
                          refine s_vRi (r0 := zu17) C hw (As := [.int x5_12]) bX10_depthOf k528 (k := 29) (q47 hN rfl) (sh_29 g cy _) rfl (c_X10_depthOf (X := (up (up (up (up (up (up X 29 q29_32) 36 q36_32) 37 q37_32) 38 q38_32) 39 q39_32) 40 q40_32)) hfl hN hzu17) rfl rfl dX10_makes_98 ⟨rfl, rfl⟩ (by decide) hl.1 (Nat.le_of_ble_eq_true rfl) ⟨Nat.le_of_ble_eq_true rfl, Nat.le_of_ble_eq_true rfl⟩ ?_
                          have hR9 := Option.some.inj hinv
                          subst hR9
                          exact hx71 _ _ ls hw (lv_sub hl [0, 1, 2, 3, 4, 5, 6, 7] rfl)
                        · have hinv := oi_f c_83 hinv
                          refine lv_aload_n hx hb dX10_makes_86 rfl (lv_at hl 4 rfl) ?_
                          refine lv_iload hx hb dX10_makes_87 (lv_at hl 3 rfl) ?_
                          obtain ⟨zu18, hzu18, hinv⟩ := ob hinv
                          refine s_vRi (r0 := zu18) C hw (As := [.int x4_3]) bX10_depthOf k528 (k := 29) (q47 hN rfl) (sh_29 g cy _) rfl (c_X10_depthOf (X := (up (up (up (up (up (up X 29 q29_32) 36 q36_32) 37 q37_32) 38 q38_32) 39 q39_32) 40 q40_32)) hfl hN hzu18) rfl rfl dX10_makes_89 ⟨rfl, rfl⟩ (by decide) hl.1 (Nat.le_of_ble_eq_true rfl) ⟨Nat.le_of_ble_eq_true rfl, Nat.le_of_ble_eq_true rfl⟩ ?_
                          refine lv_goto (tgt := 101) hx hb dX10_makes_92 (by decide) ?_
                          have hR9 := Option.some.inj hinv
                          subst hR9
                          exact hx71 _ _ ls hw (lv_sub hl [0, 1, 2, 3, 4, 5, 6, 7] rfl)
                exact hl32 F (-1) q29_12 q36_12 q37_12 q38_12 q39_12 q40_12 hzu3 _ _ ls hw (lv_sub hl [0, 1, 2, 3, 4, 5, 6] rfl)
        exact hl12 F (-1) q29_3 q36_3 q37_3 q38_3 q39_3 q40_3 hzu1 _ _ ls hw (lv_sub hl [0, 1, 2, 3, 4, 5] rfl)
  exact hl3 F (-1) (X 29) (X 36) (X 37) (X 38) (X 39) (X 40) hinv _ _ ls hw (lv_sub hl [0, 1, 2, 3, 4] rfl)
def m_X10_builds_L83 (F : Nat) (r31 : Nat → Int32) (r32 : Nat → Int32) (r35 : Nat → Int32) (y1_83 : Int32) (y2_83 : Int32) : Nat → Int32 → (Nat → Int32) → (Nat → Int32) → (Nat → Int32) → (Nat → Int32) → (Nat → Int32) → (Nat → Int32) → Option (Int32 × (Nat → Int32) × (Nat → Int32) × (Nat → Int32) × (Nat → Int32) × (Nat → Int32) × (Nat → Int32))
  | 0, _, _, _, _, _, _, _ => none
  | n + 1, x3_83, q29_83, q36_83, q37_83, q38_83, q39_83, q40_83 => if (q29_83 2) ≤ x3_83 then (some (x3_83, q29_83, q36_83, q37_83, q38_83, q39_83, q40_83)) else (if (q29_83 9) = 0 then (if ¬ (x3_83 < 0 ∨ 12 ≤ x3_83.toNatClampNeg) then (if (r35 x3_83.toNatClampNeg) = 0 then (m_X10_builds_L83 F r31 r32 r35 y1_83 y2_83 n (x3_83 + 1) q29_83 q36_83 q37_83 q38_83 q39_83 q40_83) else (Option.bind (m_X10_makes F q29_83 r31 r32 q36_83 q37_83 q38_83 q39_83 q40_83 x3_83 y2_83 y1_83) (fun zu3 => m_X10_builds_L83 F r31 r32 r35 y1_83 y2_83 n (x3_83 + 1) zu3.1 zu3.2.1 zu3.2.2.1 zu3.2.2.2.1 zu3.2.2.2.2.1 zu3.2.2.2.2.2))) else none) else (some (x3_83, q29_83, q36_83, q37_83, q38_83, q39_83, q40_83)))
def m_X10_builds_L56 (F : Nat) (r31 : Nat → Int32) (r32 : Nat → Int32) (r35 : Nat → Int32) : Nat → Int32 → Int32 → (Nat → Int32) → (Nat → Int32) → (Nat → Int32) → (Nat → Int32) → (Nat → Int32) → (Nat → Int32) → Option ((Nat → Int32) × (Nat → Int32) × (Nat → Int32) × (Nat → Int32) × (Nat → Int32) × (Nat → Int32))
  | 0, _, _, _, _, _, _, _, _ => none
  | n + 1, x2_56, x1_56, q29_56, q36_56, q37_56, q38_56, q39_56, q40_56 => if (q29_56 9) = 0 then (if x2_56 = 1 then (Option.bind (m_X10_builds_L83 F r31 r32 r35 (q29_56 8) x2_56 F 0 q29_56 q36_56 q37_56 q38_56 q39_56 q40_56) (fun zu2 => m_X10_builds_L56 F r31 r32 r35 n (x2_56 + 1) (q29_56 8) zu2.2.1 zu2.2.2.1 zu2.2.2.2.1 zu2.2.2.2.2.1 zu2.2.2.2.2.2.1 zu2.2.2.2.2.2.2)) else (if (q29_56 8) ≤ x1_56 then (some (q29_56, q36_56, q37_56, q38_56, q39_56, q40_56)) else (Option.bind (m_X10_builds_L83 F r31 r32 r35 (q29_56 8) x2_56 F 0 q29_56 q36_56 q37_56 q38_56 q39_56 q40_56) (fun zu4 => m_X10_builds_L56 F r31 r32 r35 n (x2_56 + 1) (q29_56 8) zu4.2.1 zu4.2.2.1 zu4.2.2.2.1 zu4.2.2.2.2.1 zu4.2.2.2.2.2.1 zu4.2.2.2.2.2.2)))) else (some (q29_56, q36_56, q37_56, q38_56, q39_56, q40_56))
def m_X10_builds_L13 (F : Nat) (r30 : Nat → Int32) : Nat → Int32 → (Nat → Int32) → (Nat → Int32) → (Nat → Int32) → (Nat → Int32) → (Nat → Int32) → (Nat → Int32) → Option (Int32 × (Nat → Int32) × (Nat → Int32) × (Nat → Int32) × (Nat → Int32) × (Nat → Int32) × (Nat → Int32))
  | 0, _, _, _, _, _, _, _ => none
  | n + 1, x1_13, q29_13, q36_13, q37_13, q38_13, q39_13, q40_13 => if 10 < x1_13 then (some (x1_13, q29_13, q36_13, q37_13, q38_13, q39_13, q40_13)) else (if ¬ ((10 + x1_13) < 0 ∨ 21 ≤ (10 + x1_13).toNatClampNeg) then (if (r30 (10 + x1_13).toNatClampNeg) = 0 then (m_X10_builds_L13 F r30 n (x1_13 + 1) q29_13 q36_13 q37_13 q38_13 q39_13 q40_13) else (Option.bind (m_X10_lays F q29_13 q36_13 q37_13 q38_13 q39_13 q40_13 x1_13 (-1) (-1) (-1) (-1) 0) (fun zu6 => m_X10_builds_L13 F r30 n (x1_13 + 1) zu6.1 zu6.2.1 zu6.2.2.1 zu6.2.2.2.1 zu6.2.2.2.2.1 zu6.2.2.2.2.2))) else none)
def m_X10_builds (F : Nat) (r29 : Nat → Int32) (r30 : Nat → Int32) (r31 : Nat → Int32) (r32 : Nat → Int32) (r35 : Nat → Int32) (r36 : Nat → Int32) (r37 : Nat → Int32) (r38 : Nat → Int32) (r39 : Nat → Int32) (r40 : Nat → Int32) : Option ((Nat → Int32) × (Nat → Int32) × (Nat → Int32) × (Nat → Int32) × (Nat → Int32) × (Nat → Int32)) := Option.bind (m_X10_builds_L13 F r30 F (-10) (upd (upd r29 8 0) 9 0) r36 r37 r38 r39 r40) (fun zu1 => m_X10_builds_L56 F r31 r32 r35 F 1 ((zu1.2.1 8) - 1) zu1.2.1 zu1.2.2.1 zu1.2.2.2.1 zu1.2.2.2.2.1 zu1.2.2.2.2.2.1 zu1.2.2.2.2.2.2)
set_option maxHeartbeats 4000000 in
set_option maxRecDepth 100000 in
theorem c_X10_builds {l : Launch} {D : va_G} {cy : Nat → Nat} {g : Nat → Nat} {N : Nat} {X : Nat → Nat → Int32} {F : Nat} {R0 : (Nat → Int32) × (Nat → Int32) × (Nat → Int32) × (Nat → Int32) × (Nat → Int32) × (Nat → Int32)} (hfl : l.stackTraces = false) (hN : 47 ≤ N) (hinv : m_X10_builds F (X 29) (X 30) (X 31) (X 32) (X 35) (X 36) (X 37) (X 38) (X 39) (X 40) = some R0) : sWv l D cy yX10_builds cX10_builds 4 none 3 0 0 [.ref (g 29)] g N X (up (up (up (up (up (up X 29 R0.1) 36 R0.2.1) 37 R0.2.2.1) 38 R0.2.2.2.1) 39 R0.2.2.2.2.1) 40 R0.2.2.2.2.2) := by
  refine jWv (own := RX10) (by decide) rfl hfl (Nat.le_of_ble_eq_true rfl) rfl ?_
  intro p e R s m args below meth c ls A Q hRe C hw hl hret
  subst hRe
  have hx := C.1
  have hb := C.2.1
  have hl : lv_has ls 4 [(0, .ref (g 29))] := hl
  rw [m_X10_builds] at hinv
  refine lv_aload_n hx hb dX10_builds_0 rfl (lv_at hl 0 rfl) ?_
  refine lv_iconst (v := 0) hx hb dX10_builds_1 (by decide) ?_
  refine s_put C hw (k := 29) (row := (upd (X 29) 8 0)) (ty := tyX10) (v := .int 0) (j := 8) (q47 hN rfl) (sh_29 g cy _) rfl tyX10_ok nmX10 (by decide) k517 rfl rfl rfl (Nat.le_of_ble_eq_true rfl) (sh_29 g cy _) dX10_builds_2 (fun H locs hw => ?_)
  refine lv_aload_n hx hb dX10_builds_5 rfl (lv_at hl 0 rfl) ?_
  refine lv_iconst (v := 0) hx hb dX10_builds_6 (by decide) ?_
  refine s_put C hw (k := 29) (row := (upd (upd (X 29) 8 0) 9 0)) (ty := tyX10) (v := .int 0) (j := 9) (q47 hN rfl) (sh_29 g cy _) rfl tyX10_ok nmX10 (by decide) k518 rfl rfl rfl (Nat.le_of_ble_eq_true rfl) (sh_29 g cy _) dX10_builds_7 (fun H locs hw => ?_)
  rw [up_up] at hw
  refine lv_bipush (v := (-10)) hx hb dX10_builds_10 (by decide) ?_
  refine lv_istore_n (lv' := [(1, .int (-10)), (0, .ref (g 29))]) hx hb dX10_builds_12 rfl hl (by decide) rfl (fun ls hl => ?_)
  have hXe : (up X 29 (upd (upd (X 29) 8 0) 9 0)) = (up (up (up (up (up (up X 29 (upd (upd (X 29) 8 0) 9 0)) 36 (X 36)) 37 (X 37)) 38 (X 38)) 39 (X 39)) 40 (X 40)) := by
    funext j
    by_cases h29 : j = 29
    · subst h29; simp [up]
    by_cases h36 : j = 36
    · subst h36; simp [up]
    by_cases h37 : j = 37
    · subst h37; simp [up]
    by_cases h38 : j = 38
    · subst h38; simp [up]
    by_cases h39 : j = 39
    · subst h39; simp [up]
    by_cases h40 : j = 40
    · subst h40; simp [up]
    simp [up, h29, h36, h37, h38, h39, h40]
  rw [hXe] at hw
  obtain ⟨zu1, hzu1, hinv⟩ := ob hinv
  have hx13 : ∀ (H : Heap) (locs : List Loc) (ls : Array Slot), Wd D A s.heap g N (shp g cy (up (up (up (up (up (up X 29 zu1.2.1) 36 zu1.2.2.1) 37 zu1.2.2.2.1) 38 zu1.2.2.2.2.1) 39 zu1.2.2.2.2.2.1) 40 zu1.2.2.2.2.2.2)) H locs → lv_has ls 4 [(1, .int zu1.1), (0, .ref (g 29))] → W p l e (wR 3 0 0) s m args below meth c H locs 0 0 Q (F0 m 47 ls []) := by
    intro H locs ls hw hl
    refine lv_aload_n hx hb dX10_builds_47 rfl (lv_at hl 1 rfl) ?_
    refine w_get C hw (k := 29) (v := .int (zu1.2.1 8)) (j := 8) (q47 hN rfl) (sh_29 g cy _) rfl (by decide) k517 rfl dX10_builds_48 ?_
    refine lv_iconst (v := 1) hx hb dX10_builds_51 (by decide) ?_
    refine lv_isub hx hb dX10_builds_52 ?_
    refine lv_istore_n (lv' := [(1, .int ((zu1.2.1 8) - 1)), (0, .ref (g 29))]) hx hb dX10_builds_53 rfl hl (by decide) rfl (fun ls hl => ?_)
    refine lv_iconst (v := 1) hx hb dX10_builds_54 (by decide) ?_
    refine lv_istore_n (lv' := [(2, .int 1), (1, .int ((zu1.2.1 8) - 1)), (0, .ref (g 29))]) hx hb dX10_builds_55 rfl hl (by decide) rfl (fun ls hl => ?_)
    have hl56 : ∀ (n : Nat) (x2_56 : Int32) (x1_56 : Int32) (q29_56 : Nat → Int32) (q36_56 : Nat → Int32) (q37_56 : Nat → Int32) (q38_56 : Nat → Int32) (q39_56 : Nat → Int32) (q40_56 : Nat → Int32), m_X10_builds_L56 F (X 31) (X 32) (X 35) n x2_56 x1_56 q29_56 q36_56 q37_56 q38_56 q39_56 q40_56 = some R0 → ∀ (H : Heap) (locs : List Loc) (ls : Array Slot), Wd D A s.heap g N (shp g cy (up (up (up (up (up (up X 29 q29_56) 36 q36_56) 37 q37_56) 38 q38_56) 39 q39_56) 40 q40_56)) H locs → lv_has ls 4 [(2, .int x2_56), (1, .int x1_56), (0, .ref (g 29))] → W p l e (wR 3 0 0) s m args below meth c H locs 0 0 Q (F0 m 56 ls []) := by
      intro n
      induction n with
      | zero =>
        intro x2_56 x1_56 q29_56 q36_56 q37_56 q38_56 q39_56 q40_56 hinv
        cases hinv
      | succ n ih =>
        intro x2_56 x1_56 q29_56 q36_56 q37_56 q38_56 q39_56 q40_56 hinv H locs ls hw hl
        rw [m_X10_builds_L56] at hinv
        refine lv_aload_n hx hb dX10_builds_56 rfl (lv_at hl 2 rfl) ?_
        refine w_get C hw (k := 29) (v := .int (q29_56 9)) (j := 9) (q47 hN rfl) (sh_29 g cy _) rfl (by decide) k518 rfl dX10_builds_57 ?_
        refine lv_if_ne (tgt := 126) hx hb dX10_builds_60 (by decide) (fun c_60 => ?_) (fun c_60 => ?_)
        · have hinv := oi_f c_60 hinv
          have hR0 := (Option.some.inj hinv).symm
          subst hR0
          exact hret 126 ls _ _ _ _ hw (by decide) (by decide) dX10_builds_126
        · have hinv := oi_t c_60 hinv
          refine lv_iload_n hx hb dX10_builds_63 rfl (lv_at hl 0 rfl) ?_
          refine lv_iconst (v := 1) hx hb dX10_builds_64 (by decide) ?_
          refine lv_icmp_eq (tgt := 76) hx hb dX10_builds_65 (by decide) (fun c_65 => ?_) (fun c_65 => ?_)
          · have hinv := oi_t c_65 hinv
            refine lv_aload_n hx hb dX10_builds_76 rfl (lv_at hl 2 rfl) ?_
            refine w_get C hw (k := 29) (v := .int (q29_56 8)) (j := 8) (q47 hN rfl) (sh_29 g cy _) rfl (by decide) k517 rfl dX10_builds_77 ?_
            refine lv_istore_n (lv' := [(1, .int (q29_56 8)), (2, .int x2_56), (0, .ref (g 29))]) hx hb dX10_builds_80 rfl hl (by decide) rfl (fun ls hl => ?_)
            refine lv_iconst (v := 0) hx hb dX10_builds_81 (by decide) ?_
            refine lv_istore_n (lv' := [(3, .int 0), (1, .int (q29_56 8)), (2, .int x2_56), (0, .ref (g 29))]) hx hb dX10_builds_82 rfl hl (by decide) rfl (fun ls hl => ?_)
            obtain ⟨zu2, hzu2, hinv⟩ := ob hinv
            have hx83 : ∀ (H : Heap) (locs : List Loc) (ls : Array Slot), Wd D A s.heap g N (shp g cy (up (up (up (up (up (up X 29 zu2.2.1) 36 zu2.2.2.1) 37 zu2.2.2.2.1) 38 zu2.2.2.2.2.1) 39 zu2.2.2.2.2.2.1) 40 zu2.2.2.2.2.2.2)) H locs → lv_has ls 4 [(3, .int zu2.1), (1, .int (q29_56 8)), (2, .int x2_56), (0, .ref (g 29))] → W p l e (wR 3 0 0) s m args below meth c H locs 0 0 Q (F0 m 120 ls []) := by
              intro H locs ls hw hl
              refine lv_iinc (v := (x2_56 + 1)) (lv' := [(2, .int (x2_56 + 1)), (3, .int zu2.1), (1, .int (q29_56 8)), (0, .ref (g 29))]) hx hb dX10_builds_120 hl (k := 2) rfl (by rfl) (by decide) rfl (fun ls hl => ?_)
              refine lv_goto (tgt := 56) hx hb dX10_builds_123 (by decide) ?_
              exact ih (x2_56 + 1) (q29_56 8) zu2.2.1 zu2.2.2.1 zu2.2.2.2.1 zu2.2.2.2.2.1 zu2.2.2.2.2.2.1 zu2.2.2.2.2.2.2 hinv _ _ ls hw (lv_sub hl [0, 2, 3] rfl)
            have hl83 : ∀ (n : Nat) (x3_83 : Int32) (q29_83 : Nat → Int32) (q36_83 : Nat → Int32) (q37_83 : Nat → Int32) (q38_83 : Nat → Int32) (q39_83 : Nat → Int32) (q40_83 : Nat → Int32), m_X10_builds_L83 F (X 31) (X 32) (X 35) (q29_56 8) x2_56 n x3_83 q29_83 q36_83 q37_83 q38_83 q39_83 q40_83 = some zu2 → ∀ (H : Heap) (locs : List Loc) (ls : Array Slot), Wd D A s.heap g N (shp g cy (up (up (up (up (up (up X 29 q29_83) 36 q36_83) 37 q37_83) 38 q38_83) 39 q39_83) 40 q40_83)) H locs → lv_has ls 4 [(3, .int x3_83), (1, .int (q29_56 8)), (2, .int x2_56), (0, .ref (g 29))] → W p l e (wR 3 0 0) s m args below meth c H locs 0 0 Q (F0 m 83 ls []) := by
              intro n
              induction n with
              | zero =>
                intro x3_83 q29_83 q36_83 q37_83 q38_83 q39_83 q40_83 hinv
                cases hinv
              | succ n ih =>
                intro x3_83 q29_83 q36_83 q37_83 q38_83 q39_83 q40_83 hinv H locs ls hw hl
                rw [m_X10_builds_L83] at hinv
                refine lv_iload_n hx hb dX10_builds_83 rfl (lv_at hl 0 rfl) ?_
                refine lv_aload_n hx hb dX10_builds_84 rfl (lv_at hl 3 rfl) ?_
                refine w_get C hw (k := 29) (v := .int (q29_83 2)) (j := 2) (q47 hN rfl) (sh_29 g cy _) rfl (by decide) k503 rfl dX10_builds_85 ?_
                refine lv_icmp_ge (tgt := 120) hx hb dX10_builds_88 (by decide) (fun c_88 => ?_) (fun c_88 => ?_)
                · have hinv := oi_t c_88 hinv
                  have hR9 := Option.some.inj hinv
                  subst hR9
                  exact hx83 _ _ ls hw (lv_sub hl [0, 1, 2, 3] rfl)
                · have hinv := oi_f c_88 hinv
                  refine lv_aload_n hx hb dX10_builds_91 rfl (lv_at hl 3 rfl) ?_
                  refine w_get C hw (k := 29) (v := .int (q29_83 9)) (j := 9) (q47 hN rfl) (sh_29 g cy _) rfl (by decide) k518 rfl dX10_builds_92 ?_
                  refine lv_if_ne (tgt := 120) hx hb dX10_builds_95 (by decide) (fun c_95 => ?_) (fun c_95 => ?_)
                  · have hinv := oi_f c_95 hinv
                    have hR9 := Option.some.inj hinv
                    subst hR9
                    exact hx83 _ _ ls hw (lv_sub hl [0, 1, 2, 3] rfl)
                  · have hinv := oi_t c_95 hinv
                    refine lv_aload_n hx hb dX10_builds_98 rfl (lv_at hl 3 rfl) ?_
                    refine w_get C hw (k := 29) (v := .ref (g 35)) (j := 7) (q47 hN rfl) (sh_29 g cy _) rfl (by decide) k474 rfl dX10_builds_99 ?_
                    refine lv_iload_n hx hb dX10_builds_102 rfl (lv_at hl 0 rfl) ?_
                    obtain ⟨hb_103, hinv⟩ := oi_c hinv
                    refine s_zald C hw (k := 35) (a := (X 35)) (q47 hN rfl) (fun r => sh_35 g cy r) rfl hb_103 dX10_builds_103 ?_
                    refine lv_if_eq (tgt := 114) hx hb dX10_builds_104 (by decide) (fun c_104 => ?_) (fun c_104 => ?_)
                    · have hinv := oi_t c_104 hinv
                      refine lv_iinc (v := (x3_83 + 1)) (lv' := [(3, .int (x3_83 + 1)), (1, .int (q29_56 8)), (2, .int x2_56), (0, .ref (g 29))]) hx hb dX10_builds_114 hl (k := 0) rfl (by rfl) (by decide) rfl (fun ls hl => ?_)
                      refine lv_goto (tgt := 83) hx hb dX10_builds_117 (by decide) ?_
                      exact ih (x3_83 + 1) q29_83 q36_83 q37_83 q38_83 q39_83 q40_83 hinv _ _ ls hw (lv_sub hl [0, 1, 2, 3] rfl)
                    · have hinv := oi_f c_104 hinv
                      refine lv_aload_n hx hb dX10_builds_107 rfl (lv_at hl 3 rfl) ?_
                      refine lv_iload_n hx hb dX10_builds_108 rfl (lv_at hl 0 rfl) ?_
                      refine lv_iload_n hx hb dX10_builds_109 rfl (lv_at hl 2 rfl) ?_
                      refine lv_iload_n hx hb dX10_builds_110 rfl (lv_at hl 1 rfl) ?_
                      obtain ⟨zu3, hzu3, hinv⟩ := ob hinv
                      refine s_vWv C hw (As := [.int x3_83, .int x2_56, .int (q29_56 8)]) bX10_makes k538 (k := 29) (q47 hN rfl) (sh_29 g cy _) rfl (c_X10_makes (X := (up (up (up (up (up (up X 29 q29_83) 36 q36_83) 37 q37_83) 38 q38_83) 39 q39_83) 40 q40_83)) hfl hN hzu3) rfl rfl dX10_builds_111 ⟨rfl, rfl⟩ (by decide) hl.1 (Nat.le_of_ble_eq_true rfl) ⟨Nat.le_of_ble_eq_true rfl, Nat.le_of_ble_eq_true rfl⟩ (fun H locs hw => ?_)
                      refine lv_iinc (v := (x3_83 + 1)) (lv' := [(3, .int (x3_83 + 1)), (1, .int (q29_56 8)), (2, .int x2_56), (0, .ref (g 29))]) hx hb dX10_builds_114 hl (k := 0) rfl (by rfl) (by decide) rfl (fun ls hl => ?_)
                      refine lv_goto (tgt := 83) hx hb dX10_builds_117 (by decide) ?_
                      have hXe : (up (up (up (up (up (up (up (up (up (up (up (up X 29 q29_83) 36 q36_83) 37 q37_83) 38 q38_83) 39 q39_83) 40 q40_83) 29 zu3.1) 36 zu3.2.1) 37 zu3.2.2.1) 38 zu3.2.2.2.1) 39 zu3.2.2.2.2.1) 40 zu3.2.2.2.2.2) = (up (up (up (up (up (up X 29 zu3.1) 36 zu3.2.1) 37 zu3.2.2.1) 38 zu3.2.2.2.1) 39 zu3.2.2.2.2.1) 40 zu3.2.2.2.2.2) := by
                        funext j
                        by_cases h29 : j = 29
                        · subst h29; simp [up]
                        by_cases h36 : j = 36
                        · subst h36; simp [up]
                        by_cases h37 : j = 37
                        · subst h37; simp [up]
                        by_cases h38 : j = 38
                        · subst h38; simp [up]
                        by_cases h39 : j = 39
                        · subst h39; simp [up]
                        by_cases h40 : j = 40
                        · subst h40; simp [up]
                        simp [up, h29, h36, h37, h38, h39, h40]
                      rw [hXe] at hw
                      exact ih (x3_83 + 1) zu3.1 zu3.2.1 zu3.2.2.1 zu3.2.2.2.1 zu3.2.2.2.2.1 zu3.2.2.2.2.2 hinv _ _ ls hw (lv_sub hl [0, 1, 2, 3] rfl)
            exact hl83 F 0 q29_56 q36_56 q37_56 q38_56 q39_56 q40_56 hzu2 _ _ ls hw (lv_sub hl [0, 1, 2, 3] rfl)
          · have hinv := oi_f c_65 hinv
            refine lv_iload_n hx hb dX10_builds_68 rfl (lv_at hl 1 rfl) ?_
            refine lv_aload_n hx hb dX10_builds_69 rfl (lv_at hl 2 rfl) ?_
            refine w_get C hw (k := 29) (v := .int (q29_56 8)) (j := 8) (q47 hN rfl) (sh_29 g cy _) rfl (by decide) k517 rfl dX10_builds_70 ?_
            refine lv_icmp_ge (tgt := 126) hx hb dX10_builds_73 (by decide) (fun c_73 => ?_) (fun c_73 => ?_)
            · have hinv := oi_t c_73 hinv
              have hR0 := (Option.some.inj hinv).symm
              subst hR0
              exact hret 126 ls _ _ _ _ hw (by decide) (by decide) dX10_builds_126
            · have hinv := oi_f c_73 hinv
              refine lv_aload_n hx hb dX10_builds_76 rfl (lv_at hl 2 rfl) ?_
              refine w_get C hw (k := 29) (v := .int (q29_56 8)) (j := 8) (q47 hN rfl) (sh_29 g cy _) rfl (by decide) k517 rfl dX10_builds_77 ?_
              refine lv_istore_n (lv' := [(1, .int (q29_56 8)), (2, .int x2_56), (0, .ref (g 29))]) hx hb dX10_builds_80 rfl hl (by decide) rfl (fun ls hl => ?_)
              refine lv_iconst (v := 0) hx hb dX10_builds_81 (by decide) ?_
              refine lv_istore_n (lv' := [(3, .int 0), (1, .int (q29_56 8)), (2, .int x2_56), (0, .ref (g 29))]) hx hb dX10_builds_82 rfl hl (by decide) rfl (fun ls hl => ?_)
              obtain ⟨zu4, hzu4, hinv⟩ := ob hinv
              have hx83 : ∀ (H : Heap) (locs : List Loc) (ls : Array Slot), Wd D A s.heap g N (shp g cy (up (up (up (up (up (up X 29 zu4.2.1) 36 zu4.2.2.1) 37 zu4.2.2.2.1) 38 zu4.2.2.2.2.1) 39 zu4.2.2.2.2.2.1) 40 zu4.2.2.2.2.2.2)) H locs → lv_has ls 4 [(3, .int zu4.1), (1, .int (q29_56 8)), (2, .int x2_56), (0, .ref (g 29))] → W p l e (wR 3 0 0) s m args below meth c H locs 0 0 Q (F0 m 120 ls []) := by
                intro H locs ls hw hl
                refine lv_iinc (v := (x2_56 + 1)) (lv' := [(2, .int (x2_56 + 1)), (3, .int zu4.1), (1, .int (q29_56 8)), (0, .ref (g 29))]) hx hb dX10_builds_120 hl (k := 2) rfl (by rfl) (by decide) rfl (fun ls hl => ?_)
                refine lv_goto (tgt := 56) hx hb dX10_builds_123 (by decide) ?_
                exact ih (x2_56 + 1) (q29_56 8) zu4.2.1 zu4.2.2.1 zu4.2.2.2.1 zu4.2.2.2.2.1 zu4.2.2.2.2.2.1 zu4.2.2.2.2.2.2 hinv _ _ ls hw (lv_sub hl [0, 2, 3] rfl)
              have hl83 : ∀ (n : Nat) (x3_83 : Int32) (q29_83 : Nat → Int32) (q36_83 : Nat → Int32) (q37_83 : Nat → Int32) (q38_83 : Nat → Int32) (q39_83 : Nat → Int32) (q40_83 : Nat → Int32), m_X10_builds_L83 F (X 31) (X 32) (X 35) (q29_56 8) x2_56 n x3_83 q29_83 q36_83 q37_83 q38_83 q39_83 q40_83 = some zu4 → ∀ (H : Heap) (locs : List Loc) (ls : Array Slot), Wd D A s.heap g N (shp g cy (up (up (up (up (up (up X 29 q29_83) 36 q36_83) 37 q37_83) 38 q38_83) 39 q39_83) 40 q40_83)) H locs → lv_has ls 4 [(3, .int x3_83), (1, .int (q29_56 8)), (2, .int x2_56), (0, .ref (g 29))] → W p l e (wR 3 0 0) s m args below meth c H locs 0 0 Q (F0 m 83 ls []) := by
                intro n
                induction n with
                | zero =>
                  intro x3_83 q29_83 q36_83 q37_83 q38_83 q39_83 q40_83 hinv
                  cases hinv
                | succ n ih =>
                  intro x3_83 q29_83 q36_83 q37_83 q38_83 q39_83 q40_83 hinv H locs ls hw hl
                  rw [m_X10_builds_L83] at hinv
                  refine lv_iload_n hx hb dX10_builds_83 rfl (lv_at hl 0 rfl) ?_
                  refine lv_aload_n hx hb dX10_builds_84 rfl (lv_at hl 3 rfl) ?_
                  refine w_get C hw (k := 29) (v := .int (q29_83 2)) (j := 2) (q47 hN rfl) (sh_29 g cy _) rfl (by decide) k503 rfl dX10_builds_85 ?_
                  refine lv_icmp_ge (tgt := 120) hx hb dX10_builds_88 (by decide) (fun c_88 => ?_) (fun c_88 => ?_)
                  · have hinv := oi_t c_88 hinv
                    have hR9 := Option.some.inj hinv
                    subst hR9
                    exact hx83 _ _ ls hw (lv_sub hl [0, 1, 2, 3] rfl)
                  · have hinv := oi_f c_88 hinv
                    refine lv_aload_n hx hb dX10_builds_91 rfl (lv_at hl 3 rfl) ?_
                    refine w_get C hw (k := 29) (v := .int (q29_83 9)) (j := 9) (q47 hN rfl) (sh_29 g cy _) rfl (by decide) k518 rfl dX10_builds_92 ?_
                    refine lv_if_ne (tgt := 120) hx hb dX10_builds_95 (by decide) (fun c_95 => ?_) (fun c_95 => ?_)
                    · have hinv := oi_f c_95 hinv
                      have hR9 := Option.some.inj hinv
                      subst hR9
                      exact hx83 _ _ ls hw (lv_sub hl [0, 1, 2, 3] rfl)
                    · have hinv := oi_t c_95 hinv
                      refine lv_aload_n hx hb dX10_builds_98 rfl (lv_at hl 3 rfl) ?_
                      refine w_get C hw (k := 29) (v := .ref (g 35)) (j := 7) (q47 hN rfl) (sh_29 g cy _) rfl (by decide) k474 rfl dX10_builds_99 ?_
                      refine lv_iload_n hx hb dX10_builds_102 rfl (lv_at hl 0 rfl) ?_
                      obtain ⟨hb_103, hinv⟩ := oi_c hinv
                      refine s_zald C hw (k := 35) (a := (X 35)) (q47 hN rfl) (fun r => sh_35 g cy r) rfl hb_103 dX10_builds_103 ?_
                      refine lv_if_eq (tgt := 114) hx hb dX10_builds_104 (by decide) (fun c_104 => ?_) (fun c_104 => ?_)
                      · have hinv := oi_t c_104 hinv
                        refine lv_iinc (v := (x3_83 + 1)) (lv' := [(3, .int (x3_83 + 1)), (1, .int (q29_56 8)), (2, .int x2_56), (0, .ref (g 29))]) hx hb dX10_builds_114 hl (k := 0) rfl (by rfl) (by decide) rfl (fun ls hl => ?_)
                        refine lv_goto (tgt := 83) hx hb dX10_builds_117 (by decide) ?_
                        exact ih (x3_83 + 1) q29_83 q36_83 q37_83 q38_83 q39_83 q40_83 hinv _ _ ls hw (lv_sub hl [0, 1, 2, 3] rfl)
                      · have hinv := oi_f c_104 hinv
                        refine lv_aload_n hx hb dX10_builds_107 rfl (lv_at hl 3 rfl) ?_
                        refine lv_iload_n hx hb dX10_builds_108 rfl (lv_at hl 0 rfl) ?_
                        refine lv_iload_n hx hb dX10_builds_109 rfl (lv_at hl 2 rfl) ?_
                        refine lv_iload_n hx hb dX10_builds_110 rfl (lv_at hl 1 rfl) ?_
                        obtain ⟨zu5, hzu5, hinv⟩ := ob hinv
                        refine s_vWv C hw (As := [.int x3_83, .int x2_56, .int (q29_56 8)]) bX10_makes k538 (k := 29) (q47 hN rfl) (sh_29 g cy _) rfl (c_X10_makes (X := (up (up (up (up (up (up X 29 q29_83) 36 q36_83) 37 q37_83) 38 q38_83) 39 q39_83) 40 q40_83)) hfl hN hzu5) rfl rfl dX10_builds_111 ⟨rfl, rfl⟩ (by decide) hl.1 (Nat.le_of_ble_eq_true rfl) ⟨Nat.le_of_ble_eq_true rfl, Nat.le_of_ble_eq_true rfl⟩ (fun H locs hw => ?_)
                        refine lv_iinc (v := (x3_83 + 1)) (lv' := [(3, .int (x3_83 + 1)), (1, .int (q29_56 8)), (2, .int x2_56), (0, .ref (g 29))]) hx hb dX10_builds_114 hl (k := 0) rfl (by rfl) (by decide) rfl (fun ls hl => ?_)
                        refine lv_goto (tgt := 83) hx hb dX10_builds_117 (by decide) ?_
                        have hXe : (up (up (up (up (up (up (up (up (up (up (up (up X 29 q29_83) 36 q36_83) 37 q37_83) 38 q38_83) 39 q39_83) 40 q40_83) 29 zu5.1) 36 zu5.2.1) 37 zu5.2.2.1) 38 zu5.2.2.2.1) 39 zu5.2.2.2.2.1) 40 zu5.2.2.2.2.2) = (up (up (up (up (up (up X 29 zu5.1) 36 zu5.2.1) 37 zu5.2.2.1) 38 zu5.2.2.2.1) 39 zu5.2.2.2.2.1) 40 zu5.2.2.2.2.2) := by
                          funext j
                          by_cases h29 : j = 29
                          · subst h29; simp [up]
                          by_cases h36 : j = 36
                          · subst h36; simp [up]
                          by_cases h37 : j = 37
                          · subst h37; simp [up]
                          by_cases h38 : j = 38
                          · subst h38; simp [up]
                          by_cases h39 : j = 39
                          · subst h39; simp [up]
                          by_cases h40 : j = 40
                          · subst h40; simp [up]
                          simp [up, h29, h36, h37, h38, h39, h40]
                        rw [hXe] at hw
                        exact ih (x3_83 + 1) zu5.1 zu5.2.1 zu5.2.2.1 zu5.2.2.2.1 zu5.2.2.2.2.1 zu5.2.2.2.2.2 hinv _ _ ls hw (lv_sub hl [0, 1, 2, 3] rfl)
              exact hl83 F 0 q29_56 q36_56 q37_56 q38_56 q39_56 q40_56 hzu4 _ _ ls hw (lv_sub hl [0, 1, 2, 3] rfl)
    exact hl56 F 1 ((zu1.2.1 8) - 1) zu1.2.1 zu1.2.2.1 zu1.2.2.2.1 zu1.2.2.2.2.1 zu1.2.2.2.2.2.1 zu1.2.2.2.2.2.2 hinv _ _ ls hw (lv_sub hl [0, 1, 2] rfl)
  have hl13 : ∀ (n : Nat) (x1_13 : Int32) (q29_13 : Nat → Int32) (q36_13 : Nat → Int32) (q37_13 : Nat → Int32) (q38_13 : Nat → Int32) (q39_13 : Nat → Int32) (q40_13 : Nat → Int32), m_X10_builds_L13 F (X 30) n x1_13 q29_13 q36_13 q37_13 q38_13 q39_13 q40_13 = some zu1 → ∀ (H : Heap) (locs : List Loc) (ls : Array Slot), Wd D A s.heap g N (shp g cy (up (up (up (up (up (up X 29 q29_13) 36 q36_13) 37 q37_13) 38 q38_13) 39 q39_13) 40 q40_13)) H locs → lv_has ls 4 [(1, .int x1_13), (0, .ref (g 29))] → W p l e (wR 3 0 0) s m args below meth c H locs 0 0 Q (F0 m 13 ls []) := by
    intro n
    induction n with
    | zero =>
      intro x1_13 q29_13 q36_13 q37_13 q38_13 q39_13 q40_13 hinv
      cases hinv
    | succ n ih =>
      intro x1_13 q29_13 q36_13 q37_13 q38_13 q39_13 q40_13 hinv H locs ls hw hl
      rw [m_X10_builds_L13] at hinv
      refine lv_iload_n hx hb dX10_builds_13 rfl (lv_at hl 0 rfl) ?_
      refine lv_bipush (v := 10) hx hb dX10_builds_14 (by decide) ?_
      refine lv_icmp_gt (tgt := 47) hx hb dX10_builds_16 (by decide) (fun c_16 => ?_) (fun c_16 => ?_)
      · have hinv := oi_t c_16 hinv
        have hR9 := Option.some.inj hinv
        subst hR9
        exact hx13 _ _ ls hw (lv_sub hl [0, 1] rfl)
      · have hinv := oi_f c_16 hinv
        refine lv_aload_n hx hb dX10_builds_19 rfl (lv_at hl 1 rfl) ?_
        refine w_get C hw (k := 29) (v := .ref (g 30)) (j := 1) (q47 hN rfl) (sh_29 g cy _) rfl (by decide) k469 rfl dX10_builds_20 ?_
        refine lv_bipush (v := 10) hx hb dX10_builds_23 (by decide) ?_
        refine lv_iload_n hx hb dX10_builds_25 rfl (lv_at hl 0 rfl) ?_
        refine lv_iadd hx hb dX10_builds_26 ?_
        obtain ⟨hb_27, hinv⟩ := oi_c hinv
        refine s_zald C hw (k := 30) (a := (X 30)) (q47 hN rfl) (fun r => sh_30 g cy r) rfl hb_27 dX10_builds_27 ?_
        refine lv_if_eq (tgt := 41) hx hb dX10_builds_28 (by decide) (fun c_28 => ?_) (fun c_28 => ?_)
        · have hinv := oi_t c_28 hinv
          refine lv_iinc (v := (x1_13 + 1)) (lv' := [(1, .int (x1_13 + 1)), (0, .ref (g 29))]) hx hb dX10_builds_41 hl (k := 0) rfl (by rfl) (by decide) rfl (fun ls hl => ?_)
          refine lv_goto (tgt := 13) hx hb dX10_builds_44 (by decide) ?_
          exact ih (x1_13 + 1) q29_13 q36_13 q37_13 q38_13 q39_13 q40_13 hinv _ _ ls hw (lv_sub hl [0, 1] rfl)
        · have hinv := oi_f c_28 hinv
          refine lv_aload_n hx hb dX10_builds_31 rfl (lv_at hl 1 rfl) ?_
          refine lv_iload_n hx hb dX10_builds_32 rfl (lv_at hl 0 rfl) ?_
          refine lv_iconst (v := (-1)) hx hb dX10_builds_33 (by decide) ?_
          refine lv_iconst (v := (-1)) hx hb dX10_builds_34 (by decide) ?_
          refine lv_iconst (v := (-1)) hx hb dX10_builds_35 (by decide) ?_
          refine lv_iconst (v := (-1)) hx hb dX10_builds_36 (by decide) ?_
          refine lv_iconst (v := 0) hx hb dX10_builds_37 (by decide) ?_
          obtain ⟨zu6, hzu6, hinv⟩ := ob hinv
          refine s_vWv C hw (As := [.int x1_13, .int (-1), .int (-1), .int (-1), .int (-1), .int 0]) bX10_lays k534 (k := 29) (q47 hN rfl) (sh_29 g cy _) rfl (c_X10_lays (X := (up (up (up (up (up (up X 29 q29_13) 36 q36_13) 37 q37_13) 38 q38_13) 39 q39_13) 40 q40_13)) hfl hN hzu6) rfl rfl dX10_builds_38 ⟨rfl, rfl⟩ (by decide) hl.1 (Nat.le_of_ble_eq_true rfl) ⟨Nat.le_of_ble_eq_true rfl, Nat.le_of_ble_eq_true rfl⟩ (fun H locs hw => ?_)
          refine lv_iinc (v := (x1_13 + 1)) (lv' := [(1, .int (x1_13 + 1)), (0, .ref (g 29))]) hx hb dX10_builds_41 hl (k := 0) rfl (by rfl) (by decide) rfl (fun ls hl => ?_)
          refine lv_goto (tgt := 13) hx hb dX10_builds_44 (by decide) ?_
          have hXe : (up (up (up (up (up (up (up (up (up (up (up (up X 29 q29_13) 36 q36_13) 37 q37_13) 38 q38_13) 39 q39_13) 40 q40_13) 29 zu6.1) 36 zu6.2.1) 37 zu6.2.2.1) 38 zu6.2.2.2.1) 39 zu6.2.2.2.2.1) 40 zu6.2.2.2.2.2) = (up (up (up (up (up (up X 29 zu6.1) 36 zu6.2.1) 37 zu6.2.2.1) 38 zu6.2.2.2.1) 39 zu6.2.2.2.2.1) 40 zu6.2.2.2.2.2) := by
            funext j
            by_cases h29 : j = 29
            · subst h29; simp [up]
            by_cases h36 : j = 36
            · subst h36; simp [up]
            by_cases h37 : j = 37
            · subst h37; simp [up]
            by_cases h38 : j = 38
            · subst h38; simp [up]
            by_cases h39 : j = 39
            · subst h39; simp [up]
            by_cases h40 : j = 40
            · subst h40; simp [up]
            simp [up, h29, h36, h37, h38, h39, h40]
          rw [hXe] at hw
          exact ih (x1_13 + 1) zu6.1 zu6.2.1 zu6.2.2.1 zu6.2.2.2.1 zu6.2.2.2.2.1 zu6.2.2.2.2.2 hinv _ _ ls hw (lv_sub hl [0, 1] rfl)
  exact hl13 F (-10) (upd (upd (X 29) 8 0) 9 0) (X 36) (X 37) (X 38) (X 39) (X 40) hzu1 _ _ ls hw (lv_sub hl [0, 1] rfl)
def m_X10_strengthOf (F : Nat) (r33 : Nat → Int32) (r37 : Nat → Int32) (za1 : Int32) : Option (Int32) := if ¬ (za1 < 0 ∨ 24 ≤ za1.toNatClampNeg) then (if (r37 za1.toNatClampNeg) = (-1) then (some (10 : Int32)) else (if ¬ (za1 < 0 ∨ 24 ≤ za1.toNatClampNeg) then (if ¬ ((r37 za1.toNatClampNeg) < 0 ∨ 12 ≤ (r37 za1.toNatClampNeg).toNatClampNeg) then (some (r33 (r37 za1.toNatClampNeg).toNatClampNeg)) else none) else none)) else none
set_option maxHeartbeats 4000000 in
set_option maxRecDepth 100000 in
theorem c_X10_strengthOf {l : Launch} {D : va_G} {cy : Nat → Nat} {g : Nat → Nat} {N : Nat} {X : Nat → Nat → Int32} {F : Nat} {za1 : Int32} {R0 : Int32} (hfl : l.stackTraces = false) (hN : 47 ≤ N) (hinv : m_X10_strengthOf F (X 33) (X 37) za1 = some R0) : sRi l D cy yX10_strengthOf cX10_strengthOf 2 (some .int) 0 [.ref (g 29), .int za1] g N X R0 := by
  refine jRi (own := RX10) (by decide) rfl hfl (Nat.le_of_ble_eq_true rfl) rfl ?_
  intro p e R s m args below meth c ls A Q hRe C hw hl hret
  subst hRe
  have hx := C.1
  have hb := C.2.1
  have hl : lv_has ls 2 [(0, .ref (g 29)), (1, .int za1)] := hl
  rw [m_X10_strengthOf] at hinv
  refine lv_aload_n hx hb dX10_strengthOf_0 rfl (lv_at hl 0 rfl) ?_
  refine w_get C hw (k := 29) (v := .ref (g 37)) (j := 11) (q47 hN rfl) (sh_29 g cy _) rfl (by decide) k476 rfl dX10_strengthOf_1 ?_
  refine lv_iload_n hx hb dX10_strengthOf_4 rfl (lv_at hl 1 rfl) ?_
  obtain ⟨hb_5, hinv⟩ := oi_c hinv
  refine s_iald C hw (k := 37) (a := (X 37)) (q47 hN rfl) (fun r => sh_37 g cy r) rfl hb_5 dX10_strengthOf_5 ?_
  refine lv_iconst (v := (-1)) hx hb dX10_strengthOf_6 (by decide) ?_
  refine lv_icmp_ne (tgt := 15) hx hb dX10_strengthOf_7 (by decide) (fun c_7 => ?_) (fun c_7 => ?_)
  · have hinv := oi_f c_7 hinv
    refine lv_aload_n hx hb dX10_strengthOf_15 rfl (lv_at hl 0 rfl) ?_
    refine w_get C hw (k := 29) (v := .ref (g 33)) (j := 5) (q47 hN rfl) (sh_29 g cy _) rfl (by decide) k472 rfl dX10_strengthOf_16 ?_
    refine lv_aload_n hx hb dX10_strengthOf_19 rfl (lv_at hl 0 rfl) ?_
    refine w_get C hw (k := 29) (v := .ref (g 37)) (j := 11) (q47 hN rfl) (sh_29 g cy _) rfl (by decide) k476 rfl dX10_strengthOf_20 ?_
    refine lv_iload_n hx hb dX10_strengthOf_23 rfl (lv_at hl 1 rfl) ?_
    obtain ⟨hb_24, hinv⟩ := oi_c hinv
    refine s_iald C hw (k := 37) (a := (X 37)) (q47 hN rfl) (fun r => sh_37 g cy r) rfl hb_24 dX10_strengthOf_24 ?_
    obtain ⟨hb_25, hinv⟩ := oi_c hinv
    refine s_iald C hw (k := 33) (a := (X 33)) (q47 hN rfl) (fun r => sh_33 g cy r) rfl hb_25 dX10_strengthOf_25 ?_
    exact hret 26 ls ((X 33) ((X 37) za1.toNatClampNeg).toNatClampNeg) (Option.some.inj hinv) dX10_strengthOf_26
  · have hinv := oi_t c_7 hinv
    refine lv_bipush (v := 10) hx hb dX10_strengthOf_10 (by decide) ?_
    refine lv_goto (tgt := 26) hx hb dX10_strengthOf_12 (by decide) ?_
    exact hret 26 ls 10 (Option.some.inj hinv) dX10_strengthOf_26
def m_X10_opposes (F : Nat) (r33 : Nat → Int32) (r34 : Nat → Int32) (r36 : Nat → Int32) (r37 : Nat → Int32) (za1 : Int32) (za2 : Int32) : Option (Int32) := if ¬ (za2 < 0 ∨ 24 ≤ za2.toNatClampNeg) then (if (r37 za2.toNatClampNeg) = (-1) then (some (0 : Int32)) else (Option.bind (if ¬ (za1 < 0 ∨ 24 ≤ za1.toNatClampNeg) then (if ¬ (za2 < 0 ∨ 24 ≤ za2.toNatClampNeg) then (if (r36 za1.toNatClampNeg) = (-(r36 za2.toNatClampNeg)) then (Option.bind (m_X10_strengthOf F r33 r37 za1) (fun zu2 => Option.bind (m_X10_strengthOf F r33 r37 za2) (fun zu3 => if zu2 < zu3 then (some (0 : Int32)) else (some (1 : Int32))))) else (some (0 : Int32))) else none) else none) (fun zu1 => if zu1 = 0 then (if ¬ (za1 < 0 ∨ 24 ≤ za1.toNatClampNeg) then (if ¬ (za2 < 0 ∨ 24 ≤ za2.toNatClampNeg) then (if ¬ ((r37 za2.toNatClampNeg) < 0 ∨ 12 ≤ (r37 za2.toNatClampNeg).toNatClampNeg) then (if (r36 za1.toNatClampNeg) = (r34 (r37 za2.toNatClampNeg).toNatClampNeg) then (some (1 : Int32)) else (some (0 : Int32))) else none) else none) else none) else (some (1 : Int32))))) else none
set_option maxHeartbeats 4000000 in
set_option maxRecDepth 100000 in
theorem c_X10_opposes {l : Launch} {D : va_G} {cy : Nat → Nat} {g : Nat → Nat} {N : Nat} {X : Nat → Nat → Int32} {F : Nat} {za1 : Int32} {za2 : Int32} {R0 : Int32} (hfl : l.stackTraces = false) (hN : 47 ≤ N) (hinv : m_X10_opposes F (X 33) (X 34) (X 36) (X 37) za1 za2 = some R0) : sRi l D cy yX10_opposes cX10_opposes 4 (some .boolean) 1 [.ref (g 29), .int za1, .int za2] g N X R0 := by
  refine jRz (own := RX10) (by decide) rfl hfl (Nat.le_of_ble_eq_true rfl) rfl ?_
  intro p e R s m args below meth c ls A Q hRe C hw hl hret
  subst hRe
  have hx := C.1
  have hb := C.2.1
  have hl : lv_has ls 4 [(0, .ref (g 29)), (1, .int za1), (2, .int za2)] := hl
  rw [m_X10_opposes] at hinv
  refine lv_aload_n hx hb dX10_opposes_0 rfl (lv_at hl 0 rfl) ?_
  refine w_get C hw (k := 29) (v := .ref (g 37)) (j := 11) (q47 hN rfl) (sh_29 g cy _) rfl (by decide) k476 rfl dX10_opposes_1 ?_
  refine lv_iload_n hx hb dX10_opposes_4 rfl (lv_at hl 2 rfl) ?_
  obtain ⟨hb_5, hinv⟩ := oi_c hinv
  refine s_iald C hw (k := 37) (a := (X 37)) (q47 hN rfl) (fun r => sh_37 g cy r) rfl hb_5 dX10_opposes_5 ?_
  refine lv_iconst (v := (-1)) hx hb dX10_opposes_6 (by decide) ?_
  refine lv_icmp_ne (tgt := 12) hx hb dX10_opposes_7 (by decide) (fun c_7 => ?_) (fun c_7 => ?_)
  · have hinv := oi_f c_7 hinv
    obtain ⟨zu1, hzu1, hinv⟩ := ob hinv
    have hx12 : ∀ (ls : Array Slot), lv_has ls 4 [(0, .ref (g 29)), (1, .int za1), (2, .int za2)] → W p l e (wR 1 0 0) s m args below meth c s.heap [] 0 0 Q (F0 m 46 ls [.int zu1]) := by
      intro ls hl
      refine lv_istore_n (lv' := [(3, .int zu1), (0, .ref (g 29)), (1, .int za1), (2, .int za2)]) hx hb dX10_opposes_46 rfl hl (by decide) rfl (fun ls hl => ?_)
      refine lv_iload_n hx hb dX10_opposes_47 rfl (lv_at hl 0 rfl) ?_
      refine lv_if_ne (tgt := 71) hx hb dX10_opposes_48 (by decide) (fun c_48 => ?_) (fun c_48 => ?_)
      · have hinv := oi_f c_48 hinv
        refine lv_iconst (v := 1) hx hb dX10_opposes_71 (by decide) ?_
        refine lv_goto (tgt := 76) hx hb dX10_opposes_72 (by decide) ?_
        exact hret 76 ls 1 (Option.some.inj hinv) (by decide) dX10_opposes_76
      · have hinv := oi_t c_48 hinv
        refine lv_aload_n hx hb dX10_opposes_51 rfl (lv_at hl 1 rfl) ?_
        refine w_get C hw (k := 29) (v := .ref (g 36)) (j := 10) (q47 hN rfl) (sh_29 g cy _) rfl (by decide) k475 rfl dX10_opposes_52 ?_
        refine lv_iload_n hx hb dX10_opposes_55 rfl (lv_at hl 2 rfl) ?_
        obtain ⟨hb_56, hinv⟩ := oi_c hinv
        refine s_iald C hw (k := 36) (a := (X 36)) (q47 hN rfl) (fun r => sh_36 g cy r) rfl hb_56 dX10_opposes_56 ?_
        refine lv_aload_n hx hb dX10_opposes_57 rfl (lv_at hl 1 rfl) ?_
        refine w_get C hw (k := 29) (v := .ref (g 34)) (j := 6) (q47 hN rfl) (sh_29 g cy _) rfl (by decide) k473 rfl dX10_opposes_58 ?_
        refine lv_aload_n hx hb dX10_opposes_61 rfl (lv_at hl 1 rfl) ?_
        refine w_get C hw (k := 29) (v := .ref (g 37)) (j := 11) (q47 hN rfl) (sh_29 g cy _) rfl (by decide) k476 rfl dX10_opposes_62 ?_
        refine lv_iload_n hx hb dX10_opposes_65 rfl (lv_at hl 3 rfl) ?_
        obtain ⟨hb_66, hinv⟩ := oi_c hinv
        refine s_iald C hw (k := 37) (a := (X 37)) (q47 hN rfl) (fun r => sh_37 g cy r) rfl hb_66 dX10_opposes_66 ?_
        obtain ⟨hb_67, hinv⟩ := oi_c hinv
        refine s_iald C hw (k := 34) (a := (X 34)) (q47 hN rfl) (fun r => sh_34 g cy r) rfl hb_67 dX10_opposes_67 ?_
        refine lv_icmp_ne (tgt := 75) hx hb dX10_opposes_68 (by decide) (fun c_68 => ?_) (fun c_68 => ?_)
        · have hinv := oi_f c_68 hinv
          refine lv_iconst (v := 0) hx hb dX10_opposes_75 (by decide) ?_
          exact hret 76 ls 0 (Option.some.inj hinv) (by decide) dX10_opposes_76
        · have hinv := oi_t c_68 hinv
          refine lv_iconst (v := 1) hx hb dX10_opposes_71 (by decide) ?_
          refine lv_goto (tgt := 76) hx hb dX10_opposes_72 (by decide) ?_
          exact hret 76 ls 1 (Option.some.inj hinv) (by decide) dX10_opposes_76
    have hinv := hzu1
    refine lv_aload_n hx hb dX10_opposes_12 rfl (lv_at hl 0 rfl) ?_
    refine w_get C hw (k := 29) (v := .ref (g 36)) (j := 10) (q47 hN rfl) (sh_29 g cy _) rfl (by decide) k475 rfl dX10_opposes_13 ?_
    refine lv_iload_n hx hb dX10_opposes_16 rfl (lv_at hl 1 rfl) ?_
    obtain ⟨hb_17, hinv⟩ := oi_c hinv
    refine s_iald C hw (k := 36) (a := (X 36)) (q47 hN rfl) (fun r => sh_36 g cy r) rfl hb_17 dX10_opposes_17 ?_
    refine lv_aload_n hx hb dX10_opposes_18 rfl (lv_at hl 0 rfl) ?_
    refine w_get C hw (k := 29) (v := .ref (g 36)) (j := 10) (q47 hN rfl) (sh_29 g cy _) rfl (by decide) k475 rfl dX10_opposes_19 ?_
    refine lv_iload_n hx hb dX10_opposes_22 rfl (lv_at hl 2 rfl) ?_
    obtain ⟨hb_23, hinv⟩ := oi_c hinv
    refine s_iald C hw (k := 36) (a := (X 36)) (q47 hN rfl) (fun r => sh_36 g cy r) rfl hb_23 dX10_opposes_23 ?_
    refine lv_ineg hx hb dX10_opposes_24 ?_
    refine lv_icmp_ne (tgt := 45) hx hb dX10_opposes_25 (by decide) (fun c_25 => ?_) (fun c_25 => ?_)
    · have hinv := oi_f c_25 hinv
      refine lv_iconst (v := 0) hx hb dX10_opposes_45 (by decide) ?_
      have hR9 := Option.some.inj hinv
      subst hR9
      exact hx12 ls (lv_sub hl [0, 1, 2] rfl)
    · have hinv := oi_t c_25 hinv
      refine lv_aload_n hx hb dX10_opposes_28 rfl (lv_at hl 0 rfl) ?_
      refine lv_iload_n hx hb dX10_opposes_29 rfl (lv_at hl 1 rfl) ?_
      obtain ⟨zu2, hzu2, hinv⟩ := ob hinv
      refine s_vRi (r0 := zu2) C hw (As := [.int za1]) bX10_strengthOf k544 (k := 29) (q47 hN rfl) (sh_29 g cy _) rfl (c_X10_strengthOf (X := X) hfl hN hzu2) rfl rfl dX10_opposes_30 ⟨rfl, rfl⟩ (by decide) hl.1 (Nat.le_of_ble_eq_true rfl) ⟨Nat.le_of_ble_eq_true rfl, Nat.le_of_ble_eq_true rfl⟩ ?_
      refine lv_aload_n hx hb dX10_opposes_33 rfl (lv_at hl 0 rfl) ?_
      refine lv_iload_n hx hb dX10_opposes_34 rfl (lv_at hl 2 rfl) ?_
      obtain ⟨zu3, hzu3, hinv⟩ := ob hinv
      refine s_vRi (r0 := zu3) C hw (As := [.int za2]) bX10_strengthOf k544 (k := 29) (q47 hN rfl) (sh_29 g cy _) rfl (c_X10_strengthOf (X := X) hfl hN hzu3) rfl rfl dX10_opposes_35 ⟨rfl, rfl⟩ (by decide) hl.1 (Nat.le_of_ble_eq_true rfl) ⟨Nat.le_of_ble_eq_true rfl, Nat.le_of_ble_eq_true rfl⟩ ?_
      refine lv_icmp_lt (tgt := 45) hx hb dX10_opposes_38 (by decide) (fun c_38 => ?_) (fun c_38 => ?_)
      · have hinv := oi_t c_38 hinv
        refine lv_iconst (v := 0) hx hb dX10_opposes_45 (by decide) ?_
        have hR9 := Option.some.inj hinv
        subst hR9
        exact hx12 ls (lv_sub hl [0, 1, 2] rfl)
      · have hinv := oi_f c_38 hinv
        refine lv_iconst (v := 1) hx hb dX10_opposes_41 (by decide) ?_
        refine lv_goto (tgt := 46) hx hb dX10_opposes_42 (by decide) ?_
        have hR9 := Option.some.inj hinv
        subst hR9
        exact hx12 ls (lv_sub hl [0, 1, 2] rfl)
  · have hinv := oi_t c_7 hinv
    refine lv_iconst (v := 0) hx hb dX10_opposes_10 (by decide) ?_
    exact hret 11 ls 0 (Option.some.inj hinv) (by decide) dX10_opposes_11
def m_X10_laysAttacks_L29 (F : Nat) (r33 : Nat → Int32) (r34 : Nat → Int32) (r36 : Nat → Int32) (r37 : Nat → Int32) (r40 : Nat → Int32) (y2_29 : Int32) (y1_29 : Int32) : Nat → Int32 → (Nat → Int32) → Option (Int32 × (Nat → Int32))
  | 0, _, _ => none
  | n + 1, x3_29, q41_29 => if y1_29 < x3_29 then (some (x3_29, q41_29)) else (Option.bind (if x3_29 = y1_29 then (some (1 : Int32)) else (if ¬ (y1_29 < 0 ∨ 24 ≤ y1_29.toNatClampNeg) then (if (((r40 y1_29.toNatClampNeg) >>> (x3_29 &&& 31)) &&& 1) = 1 then (some (1 : Int32)) else (some (0 : Int32))) else none)) (fun zu3 => if ¬ (y1_29 < 0 ∨ 24 ≤ y1_29.toNatClampNeg) then (Option.bind (if zu3 = 0 then (some (0 : Int32)) else (Option.bind (m_X10_opposes F r33 r34 r36 r37 y2_29 x3_29) (fun zu5 => if zu5 = 0 then (some (0 : Int32)) else (some ((1 : Int32) <<< (y2_29 &&& 31)))))) (fun zu4 => if ¬ (y1_29 < 0 ∨ 24 ≤ y1_29.toNatClampNeg) then (m_X10_laysAttacks_L29 F r33 r34 r36 r37 r40 y2_29 y1_29 n (x3_29 + 1) (upd q41_29 y1_29.toNatClampNeg ((q41_29 y1_29.toNatClampNeg) ||| zu4))) else none)) else none))
def m_X10_laysAttacks_L19 (F : Nat) (r29 : Nat → Int32) (r33 : Nat → Int32) (r34 : Nat → Int32) (r36 : Nat → Int32) (r37 : Nat → Int32) (r40 : Nat → Int32) (y1_19 : Int32) : Nat → Int32 → (Nat → Int32) → Option (Int32 × (Nat → Int32))
  | 0, _, _ => none
  | n + 1, x2_19, q41_19 => if (r29 8) ≤ x2_19 then (some (x2_19, q41_19)) else (Option.bind (m_X10_laysAttacks_L29 F r33 r34 r36 r37 r40 x2_19 y1_19 F 0 q41_19) (fun zu2 => m_X10_laysAttacks_L19 F r29 r33 r34 r36 r37 r40 y1_19 n (x2_19 + 1) zu2.2))
def m_X10_laysAttacks_L2 (F : Nat) (r29 : Nat → Int32) (r33 : Nat → Int32) (r34 : Nat → Int32) (r36 : Nat → Int32) (r37 : Nat → Int32) (r40 : Nat → Int32) : Nat → Int32 → (Nat → Int32) → Option ((Nat → Int32))
  | 0, _, _ => none
  | n + 1, x1_2, q41_2 => if (r29 8) ≤ x1_2 then (some q41_2) else (if ¬ (x1_2 < 0 ∨ 24 ≤ x1_2.toNatClampNeg) then (Option.bind (m_X10_laysAttacks_L19 F r29 r33 r34 r36 r37 r40 x1_2 F 0 (upd q41_2 x1_2.toNatClampNeg 0)) (fun zu1 => m_X10_laysAttacks_L2 F r29 r33 r34 r36 r37 r40 n (x1_2 + 1) zu1.2)) else none)
def m_X10_laysAttacks (F : Nat) (r29 : Nat → Int32) (r33 : Nat → Int32) (r34 : Nat → Int32) (r36 : Nat → Int32) (r37 : Nat → Int32) (r40 : Nat → Int32) (r41 : Nat → Int32) : Option ((Nat → Int32)) := m_X10_laysAttacks_L2 F r29 r33 r34 r36 r37 r40 F 0 r41
set_option maxHeartbeats 4000000 in
set_option maxRecDepth 100000 in
theorem c_X10_laysAttacks {l : Launch} {D : va_G} {cy : Nat → Nat} {g : Nat → Nat} {N : Nat} {X : Nat → Nat → Int32} {F : Nat} {R0 : (Nat → Int32)} (hfl : l.stackTraces = false) (hN : 47 ≤ N) (hinv : m_X10_laysAttacks F (X 29) (X 33) (X 34) (X 36) (X 37) (X 40) (X 41) = some R0) : sWv l D cy yX10_laysAttacks cX10_laysAttacks 5 none 2 0 0 [.ref (g 29)] g N X (up X 41 R0) := by
  refine jWv (own := RX10) (by decide) rfl hfl (Nat.le_of_ble_eq_true rfl) rfl ?_
  intro p e R s m args below meth c ls A Q hRe C hw hl hret
  subst hRe
  have hx := C.1
  have hb := C.2.1
  have hl : lv_has ls 5 [(0, .ref (g 29))] := hl
  rw [m_X10_laysAttacks] at hinv
  refine lv_iconst (v := 0) hx hb dX10_laysAttacks_0 (by decide) ?_
  refine lv_istore_n (lv' := [(1, .int 0), (0, .ref (g 29))]) hx hb dX10_laysAttacks_1 rfl hl (by decide) rfl (fun ls hl => ?_)
  have hXe : X = (up X 41 (X 41)) := by
    funext j
    by_cases h41 : j = 41
    · subst h41; simp [up]
    simp [up, h41]
  rw [hXe] at hw
  have hl2 : ∀ (n : Nat) (x1_2 : Int32) (q41_2 : Nat → Int32), m_X10_laysAttacks_L2 F (X 29) (X 33) (X 34) (X 36) (X 37) (X 40) n x1_2 q41_2 = some R0 → ∀ (H : Heap) (locs : List Loc) (ls : Array Slot), Wd D A s.heap g N (shp g cy (up X 41 q41_2)) H locs → lv_has ls 5 [(1, .int x1_2), (0, .ref (g 29))] → W p l e (wR 2 0 0) s m args below meth c H locs 0 0 Q (F0 m 2 ls []) := by
    intro n
    induction n with
    | zero =>
      intro x1_2 q41_2 hinv
      cases hinv
    | succ n ih =>
      intro x1_2 q41_2 hinv H locs ls hw hl
      rw [m_X10_laysAttacks_L2] at hinv
      refine lv_iload_n hx hb dX10_laysAttacks_2 rfl (lv_at hl 0 rfl) ?_
      refine lv_aload_n hx hb dX10_laysAttacks_3 rfl (lv_at hl 1 rfl) ?_
      refine w_get C hw (k := 29) (v := .int ((X 29) 8)) (j := 8) (q47 hN rfl) (sh_29 g cy _) rfl (by decide) k517 rfl dX10_laysAttacks_4 ?_
      refine lv_icmp_ge (tgt := 108) hx hb dX10_laysAttacks_7 (by decide) (fun c_7 => ?_) (fun c_7 => ?_)
      · have hinv := oi_t c_7 hinv
        rw [Option.some.inj hinv] at hw
        exact hret 108 ls _ _ _ _ hw (by decide) (by decide) dX10_laysAttacks_108
      · have hinv := oi_f c_7 hinv
        refine lv_aload_n hx hb dX10_laysAttacks_10 rfl (lv_at hl 1 rfl) ?_
        refine w_get C hw (k := 29) (v := .ref (g 41)) (j := 15) (q47 hN rfl) (sh_29 g cy _) rfl (by decide) k480 rfl dX10_laysAttacks_11 ?_
        refine lv_iload_n hx hb dX10_laysAttacks_14 rfl (lv_at hl 0 rfl) ?_
        refine lv_iconst (v := 0) hx hb dX10_laysAttacks_15 (by decide) ?_
        obtain ⟨hb_16, hinv⟩ := oi_c hinv
        refine s_iast C hw (k := 41) (a := q41_2) (q47 hN rfl) (fun r => sh_41 g cy r) rfl hb_16 dX10_laysAttacks_16 (fun H locs zw16 hw16 hw => ?_)
        try rw [← hw16] at hinv
        rw [up_up] at hw
        refine lv_iconst (v := 0) hx hb dX10_laysAttacks_17 (by decide) ?_
        refine lv_istore_n (lv' := [(2, .int 0), (1, .int x1_2), (0, .ref (g 29))]) hx hb dX10_laysAttacks_18 rfl hl (by decide) rfl (fun ls hl => ?_)
        obtain ⟨zu1, hzu1, hinv⟩ := ob hinv
        have hx19 : ∀ (H : Heap) (locs : List Loc) (ls : Array Slot), Wd D A s.heap g N (shp g cy (up X 41 zu1.2)) H locs → lv_has ls 5 [(2, .int zu1.1), (1, .int x1_2), (0, .ref (g 29))] → W p l e (wR 2 0 0) s m args below meth c H locs 0 0 Q (F0 m 102 ls []) := by
          intro H locs ls hw hl
          refine lv_iinc (v := (x1_2 + 1)) (lv' := [(1, .int (x1_2 + 1)), (2, .int zu1.1), (0, .ref (g 29))]) hx hb dX10_laysAttacks_102 hl (k := 1) rfl (by rfl) (by decide) rfl (fun ls hl => ?_)
          refine lv_goto (tgt := 2) hx hb dX10_laysAttacks_105 (by decide) ?_
          exact ih (x1_2 + 1) zu1.2 hinv _ _ ls hw (lv_sub hl [0, 2] rfl)
        have hl19 : ∀ (n : Nat) (x2_19 : Int32) (q41_19 : Nat → Int32), m_X10_laysAttacks_L19 F (X 29) (X 33) (X 34) (X 36) (X 37) (X 40) x1_2 n x2_19 q41_19 = some zu1 → ∀ (H : Heap) (locs : List Loc) (ls : Array Slot), Wd D A s.heap g N (shp g cy (up X 41 q41_19)) H locs → lv_has ls 5 [(2, .int x2_19), (1, .int x1_2), (0, .ref (g 29))] → W p l e (wR 2 0 0) s m args below meth c H locs 0 0 Q (F0 m 19 ls []) := by
          intro n
          induction n with
          | zero =>
            intro x2_19 q41_19 hinv
            cases hinv
          | succ n ih =>
            intro x2_19 q41_19 hinv H locs ls hw hl
            rw [m_X10_laysAttacks_L19] at hinv
            refine lv_iload_n hx hb dX10_laysAttacks_19 rfl (lv_at hl 0 rfl) ?_
            refine lv_aload_n hx hb dX10_laysAttacks_20 rfl (lv_at hl 2 rfl) ?_
            refine w_get C hw (k := 29) (v := .int ((X 29) 8)) (j := 8) (q47 hN rfl) (sh_29 g cy _) rfl (by decide) k517 rfl dX10_laysAttacks_21 ?_
            refine lv_icmp_ge (tgt := 102) hx hb dX10_laysAttacks_24 (by decide) (fun c_24 => ?_) (fun c_24 => ?_)
            · have hinv := oi_t c_24 hinv
              have hR9 := Option.some.inj hinv
              subst hR9
              exact hx19 _ _ ls hw (lv_sub hl [0, 1, 2] rfl)
            · have hinv := oi_f c_24 hinv
              refine lv_iconst (v := 0) hx hb dX10_laysAttacks_27 (by decide) ?_
              refine lv_istore_n (lv' := [(3, .int 0), (2, .int x2_19), (1, .int x1_2), (0, .ref (g 29))]) hx hb dX10_laysAttacks_28 rfl hl (by decide) rfl (fun ls hl => ?_)
              obtain ⟨zu2, hzu2, hinv⟩ := ob hinv
              have hx29 : ∀ (H : Heap) (locs : List Loc) (ls : Array Slot), Wd D A s.heap g N (shp g cy (up X 41 zu2.2)) H locs → lv_has ls 5 [(3, .int zu2.1), (2, .int x2_19), (1, .int x1_2), (0, .ref (g 29))] → W p l e (wR 2 0 0) s m args below meth c H locs 0 0 Q (F0 m 96 ls []) := by
                intro H locs ls hw hl
                refine lv_iinc (v := (x2_19 + 1)) (lv' := [(2, .int (x2_19 + 1)), (3, .int zu2.1), (1, .int x1_2), (0, .ref (g 29))]) hx hb dX10_laysAttacks_96 hl (k := 1) rfl (by rfl) (by decide) rfl (fun ls hl => ?_)
                refine lv_goto (tgt := 19) hx hb dX10_laysAttacks_99 (by decide) ?_
                exact ih (x2_19 + 1) zu2.2 hinv _ _ ls hw (lv_sub hl [0, 2, 3] rfl)
              have hl29 : ∀ (n : Nat) (x3_29 : Int32) (q41_29 : Nat → Int32), m_X10_laysAttacks_L29 F (X 33) (X 34) (X 36) (X 37) (X 40) x2_19 x1_2 n x3_29 q41_29 = some zu2 → ∀ (H : Heap) (locs : List Loc) (ls : Array Slot), Wd D A s.heap g N (shp g cy (up X 41 q41_29)) H locs → lv_has ls 5 [(3, .int x3_29), (2, .int x2_19), (1, .int x1_2), (0, .ref (g 29))] → W p l e (wR 2 0 0) s m args below meth c H locs 0 0 Q (F0 m 29 ls []) := by
                intro n
                induction n with
                | zero =>
                  intro x3_29 q41_29 hinv
                  cases hinv
                | succ n ih =>
                  intro x3_29 q41_29 hinv H locs ls hw hl
                  rw [m_X10_laysAttacks_L29] at hinv
                  refine lv_iload_n hx hb dX10_laysAttacks_29 rfl (lv_at hl 0 rfl) ?_
                  refine lv_iload_n hx hb dX10_laysAttacks_30 rfl (lv_at hl 2 rfl) ?_
                  refine lv_icmp_gt (tgt := 96) hx hb dX10_laysAttacks_31 (by decide) (fun c_31 => ?_) (fun c_31 => ?_)
                  · have hinv := oi_t c_31 hinv
                    have hR9 := Option.some.inj hinv
                    subst hR9
                    exact hx29 _ _ ls hw (lv_sub hl [0, 1, 2, 3] rfl)
                  · have hinv := oi_f c_31 hinv
                    obtain ⟨zu3, hzu3, hinv⟩ := ob hinv
                    have hx34 : ∀ (H : Heap) (locs : List Loc) (ls : Array Slot), Wd D A s.heap g N (shp g cy (up X 41 q41_29)) H locs → lv_has ls 5 [(3, .int x3_29), (2, .int x2_19), (1, .int x1_2), (0, .ref (g 29))] → W p l e (wR 2 0 0) s m args below meth c H locs 0 0 Q (F0 m 58 ls [.int zu3]) := by
                      intro H locs ls hw hl
                      refine lv_istore (lv' := [(4, .int zu3), (3, .int x3_29), (2, .int x2_19), (1, .int x1_2), (0, .ref (g 29))]) hx hb dX10_laysAttacks_58 hl (by decide) rfl (fun ls hl => ?_)
                      refine lv_aload_n hx hb dX10_laysAttacks_60 rfl (lv_at hl 4 rfl) ?_
                      refine w_get C hw (k := 29) (v := .ref (g 41)) (j := 15) (q47 hN rfl) (sh_29 g cy _) rfl (by decide) k480 rfl dX10_laysAttacks_61 ?_
                      refine lv_iload_n hx hb dX10_laysAttacks_64 rfl (lv_at hl 3 rfl) ?_
                      refine w_dup2 hx hb rfl rfl dX10_laysAttacks_65 ?_
                      obtain ⟨hb_66, hinv⟩ := oi_c hinv
                      refine s_iald C hw (k := 41) (a := q41_29) (q47 hN rfl) (fun r => sh_41 g cy r) rfl hb_66 dX10_laysAttacks_66 ?_
                      obtain ⟨zu4, hzu4, hinv⟩ := ob hinv
                      have hx67 : ∀ (H : Heap) (locs : List Loc) (ls : Array Slot), Wd D A s.heap g N (shp g cy (up X 41 q41_29)) H locs → lv_has ls 5 [(4, .int zu3), (3, .int x3_29), (2, .int x2_19), (1, .int x1_2), (0, .ref (g 29))] → W p l e (wR 2 0 0) s m args below meth c H locs 0 0 Q (F0 m 88 ls [.int zu4, .int (q41_29 x1_2.toNatClampNeg), .int x1_2, .ref (g 41)]) := by
                        intro H locs ls hw hl
                        refine lv_ior hx hb dX10_laysAttacks_88 ?_
                        obtain ⟨hb_89, hinv⟩ := oi_c hinv
                        refine s_iast C hw (k := 41) (a := q41_29) (q47 hN rfl) (fun r => sh_41 g cy r) rfl hb_89 dX10_laysAttacks_89 (fun H locs zw89 hw89 hw => ?_)
                        try rw [← hw89] at hinv
                        rw [up_up] at hw
                        refine lv_iinc (v := (x3_29 + 1)) (lv' := [(3, .int (x3_29 + 1)), (4, .int zu3), (2, .int x2_19), (1, .int x1_2), (0, .ref (g 29))]) hx hb dX10_laysAttacks_90 hl (k := 1) rfl (by rfl) (by decide) rfl (fun ls hl => ?_)
                        refine lv_goto (tgt := 29) hx hb dX10_laysAttacks_93 (by decide) ?_
                        exact ih (x3_29 + 1) zw89 hinv _ _ ls hw (lv_sub hl [0, 2, 3, 4] rfl)
                      have hinv := hzu4
                      refine lv_iload hx hb dX10_laysAttacks_67 (lv_at hl 0 rfl) ?_
                      refine lv_if_eq (tgt := 87) hx hb dX10_laysAttacks_69 (by decide) (fun c_69 => ?_) (fun c_69 => ?_)
                      · have hinv := oi_t c_69 hinv
                        refine lv_iconst (v := 0) hx hb dX10_laysAttacks_87 (by decide) ?_
                        have hR9 := Option.some.inj hinv
                        subst hR9
                        exact hx67 _ _ ls hw (lv_sub hl [0, 1, 2, 3, 4] rfl)
                      · have hinv := oi_f c_69 hinv
                        refine lv_aload_n hx hb dX10_laysAttacks_72 rfl (lv_at hl 4 rfl) ?_
                        refine lv_iload_n hx hb dX10_laysAttacks_73 rfl (lv_at hl 2 rfl) ?_
                        refine lv_iload_n hx hb dX10_laysAttacks_74 rfl (lv_at hl 1 rfl) ?_
                        obtain ⟨zu5, hzu5, hinv⟩ := ob hinv
                        refine s_vRi (r0 := zu5) C hw (As := [.int x2_19, .int x3_29]) bX10_opposes k548 (k := 29) (q47 hN rfl) (sh_29 g cy _) rfl (c_X10_opposes (X := (up X 41 q41_29)) hfl hN hzu5) rfl rfl dX10_laysAttacks_75 ⟨rfl, rfl⟩ (by decide) hl.1 (Nat.le_of_ble_eq_true rfl) ⟨Nat.le_of_ble_eq_true rfl, Nat.le_of_ble_eq_true rfl⟩ ?_
                        refine lv_if_eq (tgt := 87) hx hb dX10_laysAttacks_78 (by decide) (fun c_78 => ?_) (fun c_78 => ?_)
                        · have hinv := oi_t c_78 hinv
                          refine lv_iconst (v := 0) hx hb dX10_laysAttacks_87 (by decide) ?_
                          have hR9 := Option.some.inj hinv
                          subst hR9
                          exact hx67 _ _ ls hw (lv_sub hl [0, 1, 2, 3, 4] rfl)
                        · have hinv := oi_f c_78 hinv
                          refine lv_iconst (v := 1) hx hb dX10_laysAttacks_81 (by decide) ?_
                          refine lv_iload_n hx hb dX10_laysAttacks_82 rfl (lv_at hl 2 rfl) ?_
                          refine lv_ishl hx hb dX10_laysAttacks_83 ?_
                          refine lv_goto (tgt := 88) hx hb dX10_laysAttacks_84 (by decide) ?_
                          have hR9 := Option.some.inj hinv
                          subst hR9
                          exact hx67 _ _ ls hw (lv_sub hl [0, 1, 2, 3, 4] rfl)
                    have hinv := hzu3
                    refine lv_iload_n hx hb dX10_laysAttacks_34 rfl (lv_at hl 0 rfl) ?_
                    refine lv_iload_n hx hb dX10_laysAttacks_35 rfl (lv_at hl 2 rfl) ?_
                    refine lv_icmp_eq (tgt := 53) hx hb dX10_laysAttacks_36 (by decide) (fun c_36 => ?_) (fun c_36 => ?_)
                    · have hinv := oi_t c_36 hinv
                      refine lv_iconst (v := 1) hx hb dX10_laysAttacks_53 (by decide) ?_
                      refine lv_goto (tgt := 58) hx hb dX10_laysAttacks_54 (by decide) ?_
                      have hR9 := Option.some.inj hinv
                      subst hR9
                      exact hx34 _ _ ls hw (lv_sub hl [0, 1, 2, 3] rfl)
                    · have hinv := oi_f c_36 hinv
                      refine lv_aload_n hx hb dX10_laysAttacks_39 rfl (lv_at hl 3 rfl) ?_
                      refine w_get C hw (k := 29) (v := .ref (g 40)) (j := 14) (q47 hN rfl) (sh_29 g cy _) rfl (by decide) k479 rfl dX10_laysAttacks_40 ?_
                      refine lv_iload_n hx hb dX10_laysAttacks_43 rfl (lv_at hl 2 rfl) ?_
                      obtain ⟨hb_44, hinv⟩ := oi_c hinv
                      refine s_iald C hw (k := 40) (a := (X 40)) (q47 hN rfl) (fun r => sh_40 g cy r) rfl hb_44 dX10_laysAttacks_44 ?_
                      refine lv_iload_n hx hb dX10_laysAttacks_45 rfl (lv_at hl 0 rfl) ?_
                      refine lv_ishr hx hb dX10_laysAttacks_46 ?_
                      refine lv_iconst (v := 1) hx hb dX10_laysAttacks_47 (by decide) ?_
                      refine lv_iand hx hb dX10_laysAttacks_48 ?_
                      refine lv_iconst (v := 1) hx hb dX10_laysAttacks_49 (by decide) ?_
                      refine lv_icmp_ne (tgt := 57) hx hb dX10_laysAttacks_50 (by decide) (fun c_50 => ?_) (fun c_50 => ?_)
                      · have hinv := oi_f c_50 hinv
                        refine lv_iconst (v := 0) hx hb dX10_laysAttacks_57 (by decide) ?_
                        have hR9 := Option.some.inj hinv
                        subst hR9
                        exact hx34 _ _ ls hw (lv_sub hl [0, 1, 2, 3] rfl)
                      · have hinv := oi_t c_50 hinv
                        refine lv_iconst (v := 1) hx hb dX10_laysAttacks_53 (by decide) ?_
                        refine lv_goto (tgt := 58) hx hb dX10_laysAttacks_54 (by decide) ?_
                        have hR9 := Option.some.inj hinv
                        subst hR9
                        exact hx34 _ _ ls hw (lv_sub hl [0, 1, 2, 3] rfl)
              exact hl29 F 0 q41_19 hzu2 _ _ ls hw (lv_sub hl [0, 1, 2, 3] rfl)
        exact hl19 F 0 zw16 hzu1 _ _ ls hw (lv_sub hl [0, 1, 2] rfl)
  exact hl2 F 0 (X 41) hinv _ _ ls hw (lv_sub hl [0, 1] rfl)

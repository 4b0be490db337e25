def m_X9_demandLiteralOrNone (F : Nat) (za0 : Int32) : Option (Nat) := Option.bind (m_X9_isLiteralOrNone F za0) (fun zu1 => if zu1 = 0 then (some 1) else (some 0))
set_option maxHeartbeats 4000000 in
set_option maxRecDepth 100000 in
theorem c_X9_demandLiteralOrNone {l : Launch} {D : va_G} {cy : Nat → Nat} {g : Nat → Nat} {N : Nat} {X : Nat → Nat → Int32} {F : Nat} {za0 : Int32} {R0 : Nat} (hfl : l.stackTraces = false) (hN : 47 ≤ N) (hinv : m_X9_demandLiteralOrNone F za0 = some R0) : sXv l D cy yX9_demandLiteralOrNone cX9_demandLiteralOrNone 1 none 6 1 6 [.int za0] g N X R0 X := by
  refine jXv (by decide) rfl hfl (Nat.le_of_ble_eq_true rfl) rfl ?_
  intro p e R s m args below meth c ls A Q hRe C hw hl hret hthr hout
  subst hRe
  have hx := C.1
  have hb := C.2.1
  have hl : lv_has ls 1 [(0, .int za0)] := hl
  rw [m_X9_demandLiteralOrNone] at hinv
  refine lv_iload_n hx hb dX9_demandLiteralOrNone_0 rfl (lv_at hl 0 rfl) ?_
  obtain ⟨zu1, hzu1, hinv⟩ := ob hinv
  refine s_sRi (r0 := zu1) C hw (As := [.int za0]) bX9_isLiteralOrNone k340 (c_X9_isLiteralOrNone (X := X) hfl hN hzu1) rfl rfl dX9_demandLiteralOrNone_1 ⟨rfl, rfl⟩ (by decide) hl.1 (Nat.le_of_ble_eq_true rfl) ⟨Nat.le_of_ble_eq_true rfl, Nat.le_of_ble_eq_true rfl⟩ ?_
  refine lv_if_ne (tgt := 17) hx hb dX9_demandLiteralOrNone_4 (by decide) (fun c_4 => ?_) (fun c_4 => ?_)
  · have hinv := oi_f c_4 hinv
    exact hret 17 ls _ _ _ _ (Option.some.inj hinv).symm hw (by decide) (by decide) dX9_demandLiteralOrNone_17
  · have hinv := oi_t c_4 hinv
    have hR0 := (Option.some.inj hinv).symm
    subst hR0
    exact hthr 7 ls _ _ _ _ 89 93 208 xIA "literal out of range" (show ¬ (1 : Nat) = 0 by decide) rfl hw (List.mem_of_getElem? (i := 0) rfl) (by decide) (List.mem_of_getElem? (i := 7) rfl) hl.1 dX9_demandLiteralOrNone_7 dX9_demandLiteralOrNone_10 dX9_demandLiteralOrNone_11 dX9_demandLiteralOrNone_13 dX9_demandLiteralOrNone_16 (by decide) (by decide) (by decide)
def m_X9_demandLiteral (F : Nat) (za0 : Int32) : Option (Nat) := if za0 = 0 then (some 1) else (Option.bind (m_X9_demandLiteralOrNone F za0) (fun zu1 => if zu1 = 0 then (some 0) else some zu1))
set_option maxHeartbeats 4000000 in
set_option maxRecDepth 100000 in
theorem c_X9_demandLiteral {l : Launch} {D : va_G} {cy : Nat → Nat} {g : Nat → Nat} {N : Nat} {X : Nat → Nat → Int32} {F : Nat} {za0 : Int32} {R0 : Nat} (hfl : l.stackTraces = false) (hN : 47 ≤ N) (hinv : m_X9_demandLiteral F za0 = some R0) : sXv l D cy yX9_demandLiteral cX9_demandLiteral 1 none 7 1 6 [.int za0] g N X R0 X := by
  refine jXv (by decide) rfl hfl (Nat.le_of_ble_eq_true rfl) rfl ?_
  intro p e R s m args below meth c ls A Q hRe C hw hl hret hthr hout
  subst hRe
  have hx := C.1
  have hb := C.2.1
  have hl : lv_has ls 1 [(0, .int za0)] := hl
  rw [m_X9_demandLiteral] at hinv
  refine lv_iload_n hx hb dX9_demandLiteral_0 rfl (lv_at hl 0 rfl) ?_
  refine lv_if_ne (tgt := 14) hx hb dX9_demandLiteral_1 (by decide) (fun c_1 => ?_) (fun c_1 => ?_)
  · have hinv := oi_f c_1 hinv
    refine lv_iload_n hx hb dX9_demandLiteral_14 rfl (lv_at hl 0 rfl) ?_
    obtain ⟨zu1, hzu1, hinv⟩ := ob hinv
    refine s_sXv (tag := zu1) C hw (As := [.int za0]) bX9_demandLiteralOrNone k342 (c_X9_demandLiteralOrNone (X := X) hfl hN hzu1) rfl rfl dX9_demandLiteral_15 ⟨rfl, rfl⟩ (by decide) hl.1 (Nat.le_of_ble_eq_true rfl) ⟨Nat.le_of_ble_eq_true rfl, Nat.le_of_ble_eq_true rfl⟩ (fun ce q9 H locs ht hw h1 h2 h3 => ?_) (fun H locs ht hw => ?_)
    · have hinv := oi_f ht hinv
      have hR0 := Option.some.inj hinv
      exact hout 15 ls _ H locs _ _ zu1 ce q9 (hR0 ▸ ht) hR0 hw h1 h2 h3 (by decide) (by decide)
    · have hinv := oi_t ht hinv
      exact hret 18 ls _ _ _ _ (Option.some.inj hinv).symm hw (by decide) (by decide) dX9_demandLiteral_18
  · have hinv := oi_t c_1 hinv
    have hR0 := (Option.some.inj hinv).symm
    subst hR0
    exact hthr 4 ls _ _ _ _ 89 93 203 xIA "0 is no literal" (show ¬ (1 : Nat) = 0 by decide) rfl hw (List.mem_of_getElem? (i := 0) rfl) (by decide) (List.mem_of_getElem? (i := 6) rfl) hl.1 dX9_demandLiteral_4 dX9_demandLiteral_7 dX9_demandLiteral_8 dX9_demandLiteral_10 dX9_demandLiteral_13 (by decide) (by decide) (by decide)
def m_X9_demandPriority (F : Nat) (za0 : Int32) : Option (Nat) := if za0 < 0 then (some 1) else (if za0 ≤ 9 then (some 0) else (some 1))
set_option maxHeartbeats 4000000 in
set_option maxRecDepth 100000 in
theorem c_X9_demandPriority {l : Launch} {D : va_G} {cy : Nat → Nat} {g : Nat → Nat} {N : Nat} {X : Nat → Nat → Int32} {F : Nat} {za0 : Int32} {R0 : Nat} (hfl : l.stackTraces = false) (hN : 47 ≤ N) (hinv : m_X9_demandPriority F za0 = some R0) : sXv l D cy yX9_demandPriority cX9_demandPriority 1 none 6 1 6 [.int za0] g N X R0 X := by
  refine jXv (by decide) rfl hfl (Nat.le_of_ble_eq_true rfl) rfl ?_
  intro p e R s m args below meth c ls A Q hRe C hw hl hret hthr hout
  subst hRe
  have hx := C.1
  have hb := C.2.1
  have hl : lv_has ls 1 [(0, .int za0)] := hl
  rw [m_X9_demandPriority] at hinv
  refine lv_iload_n hx hb dX9_demandPriority_0 rfl (lv_at hl 0 rfl) ?_
  refine lv_if_lt (tgt := 10) hx hb dX9_demandPriority_1 (by decide) (fun c_1 => ?_) (fun c_1 => ?_)
  · have hinv := oi_t c_1 hinv
    have hR0 := (Option.some.inj hinv).symm
    subst hR0
    exact hthr 10 ls _ _ _ _ 89 93 210 xIA "priority out of range" (show ¬ (1 : Nat) = 0 by decide) rfl hw (List.mem_of_getElem? (i := 0) rfl) (by decide) (List.mem_of_getElem? (i := 8) rfl) hl.1 dX9_demandPriority_10 dX9_demandPriority_13 dX9_demandPriority_14 dX9_demandPriority_16 dX9_demandPriority_19 (by decide) (by decide) (by decide)
  · have hinv := oi_f c_1 hinv
    refine lv_iload_n hx hb dX9_demandPriority_4 rfl (lv_at hl 0 rfl) ?_
    refine lv_bipush (v := 9) hx hb dX9_demandPriority_5 (by decide) ?_
    refine lv_icmp_le (tgt := 20) hx hb dX9_demandPriority_7 (by decide) (fun c_7 => ?_) (fun c_7 => ?_)
    · have hinv := oi_t c_7 hinv
      exact hret 20 ls _ _ _ _ (Option.some.inj hinv).symm hw (by decide) (by decide) dX9_demandPriority_20
    · have hinv := oi_f c_7 hinv
      have hR0 := (Option.some.inj hinv).symm
      subst hR0
      exact hthr 10 ls _ _ _ _ 89 93 210 xIA "priority out of range" (show ¬ (1 : Nat) = 0 by decide) rfl hw (List.mem_of_getElem? (i := 0) rfl) (by decide) (List.mem_of_getElem? (i := 8) rfl) hl.1 dX9_demandPriority_10 dX9_demandPriority_13 dX9_demandPriority_14 dX9_demandPriority_16 dX9_demandPriority_19 (by decide) (by decide) (by decide)
def m_X9_demandRule (F : Nat) (r4 : Nat → Int32) (za1 : Int32) : Option (Nat) := if za1 < 0 then (some 3) else (Option.bind (m_X5_size F r4) (fun zu1 => if za1 < zu1 then (some 0) else (some 3)))
set_option maxHeartbeats 4000000 in
set_option maxRecDepth 100000 in
theorem c_X9_demandRule {l : Launch} {D : va_G} {cy : Nat → Nat} {g : Nat → Nat} {N : Nat} {X : Nat → Nat → Int32} {F : Nat} {za1 : Int32} {R0 : Nat} (hfl : l.stackTraces = false) (hN : 47 ≤ N) (hinv : m_X9_demandRule F (X 4) za1 = some R0) : sXv l D cy yX9_demandRule cX9_demandRule 2 none 6 1 6 [.ref (g 0), .int za1] g N X R0 X := by
  refine jXv (by decide) rfl hfl (Nat.le_of_ble_eq_true rfl) rfl ?_
  intro p e R s m args below meth c ls A Q hRe C hw hl hret hthr hout
  subst hRe
  have hx := C.1
  have hb := C.2.1
  have hl : lv_has ls 2 [(0, .ref (g 0)), (1, .int za1)] := hl
  rw [m_X9_demandRule] at hinv
  refine lv_iload_n hx hb dX9_demandRule_0 rfl (lv_at hl 1 rfl) ?_
  refine lv_if_lt (tgt := 15) hx hb dX9_demandRule_1 (by decide) (fun c_1 => ?_) (fun c_1 => ?_)
  · have hinv := oi_t c_1 hinv
    have hR0 := (Option.some.inj hinv).symm
    subst hR0
    exact hthr 15 ls _ _ _ _ 151 155 212 xIB "no such rule" (show ¬ (3 : Nat) = 0 by decide) rfl hw (List.mem_of_getElem? (i := 2) rfl) (by decide) (List.mem_of_getElem? (i := 9) rfl) hl.1 dX9_demandRule_15 dX9_demandRule_18 dX9_demandRule_19 dX9_demandRule_21 dX9_demandRule_24 (by decide) (by decide) (by decide)
  · have hinv := oi_f c_1 hinv
    refine lv_iload_n hx hb dX9_demandRule_4 rfl (lv_at hl 1 rfl) ?_
    refine lv_aload_n hx hb dX9_demandRule_5 rfl (lv_at hl 0 rfl) ?_
    refine w_get C hw (k := 0) (v := .ref (g 3)) (j := 1) (q47 hN rfl) (sh_0 g cy _) rfl (by decide) k316 rfl dX9_demandRule_6 ?_
    obtain ⟨zu1, hzu1, hinv⟩ := ob hinv
    refine s_vRi (r0 := zu1) C hw (As := []) bX5_size k371 (k := 3) (q47 hN rfl) (sh_3 g cy _) rfl (c_X5_size (X := X) hfl hN hzu1) rfl rfl dX9_demandRule_9 ⟨rfl, rfl⟩ (by decide) hl.1 (Nat.le_of_ble_eq_true rfl) ⟨Nat.le_of_ble_eq_true rfl, Nat.le_of_ble_eq_true rfl⟩ ?_
    refine lv_icmp_lt (tgt := 25) hx hb dX9_demandRule_12 (by decide) (fun c_12 => ?_) (fun c_12 => ?_)
    · have hinv := oi_t c_12 hinv
      exact hret 25 ls _ _ _ _ (Option.some.inj hinv).symm hw (by decide) (by decide) dX9_demandRule_25
    · have hinv := oi_f c_12 hinv
      have hR0 := (Option.some.inj hinv).symm
      subst hR0
      exact hthr 15 ls _ _ _ _ 151 155 212 xIB "no such rule" (show ¬ (3 : Nat) = 0 by decide) rfl hw (List.mem_of_getElem? (i := 2) rfl) (by decide) (List.mem_of_getElem? (i := 9) rfl) hl.1 dX9_demandRule_15 dX9_demandRule_18 dX9_demandRule_19 dX9_demandRule_21 dX9_demandRule_24 (by decide) (by decide) (by decide)
def m_X9_forget (F : Nat) (r0 : Nat → Int32) : Option ((Nat → Int32)) := some (upd (upd (upd r0 6 0) 7 0) 8 0)
set_option maxHeartbeats 4000000 in
set_option maxRecDepth 100000 in
theorem c_X9_forget {l : Launch} {D : va_G} {cy : Nat → Nat} {g : Nat → Nat} {N : Nat} {X : Nat → Nat → Int32} {F : Nat} {R0 : (Nat → Int32)} (hfl : l.stackTraces = false) (hN : 47 ≤ N) (hinv : m_X9_forget F (X 0) = some R0) : sWv l D cy yX9_forget cX9_forget 1 none 0 0 0 [.ref (g 0)] g N X (up X 0 R0) := by
  refine jWv (own := RX9) (by decide) rfl hfl (Nat.le_of_ble_eq_true rfl) rfl ?_
  intro p e R s m args below meth c ls A Q hRe C hw hl hret
  subst hRe
  have hx := C.1
  have hb := C.2.1
  have hl : lv_has ls 1 [(0, .ref (g 0))] := hl
  rw [m_X9_forget] at hinv
  refine lv_aload_n hx hb dX9_forget_0 rfl (lv_at hl 0 rfl) ?_
  refine lv_iconst (v := 0) hx hb dX9_forget_1 (by decide) ?_
  refine s_put C hw (k := 0) (row := (upd (X 0) 6 0)) (ty := tyX9) (v := .int 0) (j := 6) (q47 hN rfl) (sh_0 g cy _) rfl tyX9_ok nmX9 (by decide) k345 rfl rfl rfl (Nat.le_of_ble_eq_true rfl) (sh_0 g cy _) dX9_forget_2 (fun H locs hw => ?_)
  refine lv_aload_n hx hb dX9_forget_5 rfl (lv_at hl 0 rfl) ?_
  refine lv_iconst (v := 0) hx hb dX9_forget_6 (by decide) ?_
  refine s_put C hw (k := 0) (row := (upd (upd (X 0) 6 0) 7 0)) (ty := tyX9) (v := .int 0) (j := 7) (q47 hN rfl) (sh_0 g cy _) rfl tyX9_ok nmX9 (by decide) k346 rfl rfl rfl (Nat.le_of_ble_eq_true rfl) (sh_0 g cy _) dX9_forget_7 (fun H locs hw => ?_)
  rw [up_up] at hw
  refine lv_aload_n hx hb dX9_forget_10 rfl (lv_at hl 0 rfl) ?_
  refine lv_iconst (v := 0) hx hb dX9_forget_11 (by decide) ?_
  refine s_put C hw (k := 0) (row := (upd (upd (upd (X 0) 6 0) 7 0) 8 0)) (ty := tyX9) (v := .int 0) (j := 8) (q47 hN rfl) (sh_0 g cy _) rfl tyX9_ok nmX9 (by decide) k347 rfl rfl rfl (Nat.le_of_ble_eq_true rfl) (sh_0 g cy _) dX9_forget_12 (fun H locs hw => ?_)
  rw [up_up] at hw
  rw [Option.some.inj hinv] at hw
  exact hret 15 ls _ _ _ _ hw (by decide) (by decide) dX9_forget_15
def m_X9_build (F : Nat) (RR : Nat → Nat → Int32) (r0 : Nat → Int32) (r2 : Nat → Int32) (r4 : Nat → Int32) (r6 : Nat → Int32) (r7 : Nat → Int32) (r8 : Nat → Int32) (r9 : Nat → Int32) (r10 : Nat → Int32) (r11 : Nat → Int32) (r13 : Nat → Int32) (r14 : Nat → Int32) (r15 : Nat → Int32) (r16 : Nat → Int32) (r18 : Nat → Int32) (r19 : Nat → Int32) (r20 : Nat → Int32) (r22 : Nat → Int32) (r23 : Nat → Int32) (r24 : Nat → Int32) : Option ((Nat → Int32) × (Nat → Int32) × (Nat → Int32) × (Nat → Int32) × (Nat → Int32) × (Nat → Int32) × (Nat → Int32) × (Nat → Int32) × (Nat → Int32) × (Nat → Int32) × (Nat → Int32) × (Nat → Int32) × (Nat → Int32) × (Nat → Int32) × (Nat → Int32) × (Nat → Int32) × (Nat → Int32)) := if (r0 6) = 0 then (Option.bind (m_X0_build F RR r2 r4 r6 r7 r8 r9 r10 r11) (fun zu1 => if (zu1.1 6) = 0 then (Option.bind (m_X1_build F RR zu1.1 zu1.2.1 zu1.2.2.1 zu1.2.2.2.2.1 r13) (fun zu2 => Option.bind (m_X3_build F zu2 r14 r15 (zu1.1 5)) (fun zu3 => Option.bind (m_X7_prepare F zu2 r16 r18 r19 r20 r22 r23 r24 (zu1.1 5)) (fun zu4 => some ((upd r0 6 1), zu1.1, zu1.2.1, zu1.2.2.1, zu1.2.2.2.1, zu1.2.2.2.2.1, zu1.2.2.2.2.2, zu2, zu3.1, zu3.2, zu4.1, zu4.2.1, zu4.2.2.1, zu4.2.2.2.1, zu4.2.2.2.2.1, zu4.2.2.2.2.2.1, zu4.2.2.2.2.2.2))))) else (some ((upd r0 6 1), zu1.1, zu1.2.1, zu1.2.2.1, zu1.2.2.2.1, zu1.2.2.2.2.1, zu1.2.2.2.2.2, r13, r14, r15, r16, r18, r19, r20, r22, r23, r24)))) else (some (r0, r6, r7, r8, r9, r10, r11, r13, r14, r15, r16, r18, r19, r20, r22, r23, r24))
set_option maxHeartbeats 4000000 in
set_option maxRecDepth 100000 in
theorem c_X9_build {l : Launch} {D : va_G} {cy : Nat → Nat} {g : Nat → Nat} {N : Nat} {X : Nat → Nat → Int32} {RR : Nat → Nat → Int32} {F : Nat} {R0 : (Nat → Int32) × (Nat → Int32) × (Nat → Int32) × (Nat → Int32) × (Nat → Int32) × (Nat → Int32) × (Nat → Int32) × (Nat → Int32) × (Nat → Int32) × (Nat → Int32) × (Nat → Int32) × (Nat → Int32) × (Nat → Int32) × (Nat → Int32) × (Nat → Int32) × (Nat → Int32) × (Nat → Int32)} (hfl : l.stackTraces = false) (hX : rok X RR N) (hinv : m_X9_build F RR (X 0) (X 2) (X 4) (X 6) (X 7) (X 8) (X 9) (X 10) (X 11) (X 13) (X 14) (X 15) (X 16) (X 18) (X 19) (X 20) (X 22) (X 23) (X 24) = some R0) : sWv l D cy yX9_build cX9_build 1 none 7 0 0 [.ref (g 0)] g N X (up (up (up (up (up (up (up (up (up (up (up (up (up (up (up (up (up X 0 R0.1) 6 R0.2.1) 7 R0.2.2.1) 8 R0.2.2.2.1) 9 R0.2.2.2.2.1) 10 R0.2.2.2.2.2.1) 11 R0.2.2.2.2.2.2.1) 13 R0.2.2.2.2.2.2.2.1) 14 R0.2.2.2.2.2.2.2.2.1) 15 R0.2.2.2.2.2.2.2.2.2.1) 16 R0.2.2.2.2.2.2.2.2.2.2.1) 18 R0.2.2.2.2.2.2.2.2.2.2.2.1) 19 R0.2.2.2.2.2.2.2.2.2.2.2.2.1) 20 R0.2.2.2.2.2.2.2.2.2.2.2.2.2.1) 22 R0.2.2.2.2.2.2.2.2.2.2.2.2.2.2.1) 23 R0.2.2.2.2.2.2.2.2.2.2.2.2.2.2.2.1) 24 R0.2.2.2.2.2.2.2.2.2.2.2.2.2.2.2.2) := by
  refine jWv (own := RX9) (by decide) rfl hfl (Nat.le_of_ble_eq_true rfl) rfl ?_
  intro p e R s m args below meth c ls A Q hRe C hw hl hret
  subst hRe
  have hx := C.1
  have hb := C.2.1
  have hN := hX.1
  have hl : lv_has ls 1 [(0, .ref (g 0))] := hl
  rw [m_X9_build] at hinv
  refine lv_aload_n hx hb dX9_build_0 rfl (lv_at hl 0 rfl) ?_
  refine w_get C hw (k := 0) (v := .int ((X 0) 6)) (j := 6) (q47 hN rfl) (sh_0 g cy _) rfl (by decide) k345 rfl dX9_build_1 ?_
  refine lv_if_eq (tgt := 8) hx hb dX9_build_4 (by decide) (fun c_4 => ?_) (fun c_4 => ?_)
  · have hinv := oi_t c_4 hinv
    refine lv_aload_n hx hb dX9_build_8 rfl (lv_at hl 0 rfl) ?_
    refine w_get C hw (k := 0) (v := .ref (g 6)) (j := 2) (q47 hN rfl) (sh_0 g cy _) rfl (by decide) k319 rfl dX9_build_9 ?_
    refine lv_aload_n hx hb dX9_build_12 rfl (lv_at hl 0 rfl) ?_
    refine w_get C hw (k := 0) (v := .ref (g 1)) (j := 0) (q47 hN rfl) (sh_0 g cy _) rfl (by decide) k313 rfl dX9_build_13 ?_
    refine lv_aload_n hx hb dX9_build_16 rfl (lv_at hl 0 rfl) ?_
    refine w_get C hw (k := 0) (v := .ref (g 3)) (j := 1) (q47 hN rfl) (sh_0 g cy _) rfl (by decide) k316 rfl dX9_build_17 ?_
    obtain ⟨zu1, hzu1, hinv⟩ := ob hinv
    refine s_vWv C hw (As := [.ref (g 1), .ref (g 3)]) bX0_build k389 (k := 6) (q47 hN rfl) (sh_6 g cy _) rfl (c_X0_build (X := X) hfl hX hzu1) rfl rfl dX9_build_20 ⟨rfl, rfl⟩ (by decide) hl.1 (Nat.le_of_ble_eq_true rfl) ⟨Nat.le_of_ble_eq_true rfl, Nat.le_of_ble_eq_true rfl⟩ (fun H locs hw => ?_)
    refine lv_aload_n hx hb dX9_build_23 rfl (lv_at hl 0 rfl) ?_
    refine w_get C hw (k := 0) (v := .ref (g 6)) (j := 2) (q47 hN rfl) (sh_0 g cy _) rfl (by decide) k319 rfl dX9_build_24 ?_
    refine w_getN C hw (k := 6) (v := .int (zu1.1 6)) (j := 6) (q47 hN rfl) (sh_6 g cy _) rfl (by decide) k851 rfl dX9_build_27 ?_
    refine lv_if_ne (tgt := 84) hx hb dX9_build_30 (by decide) (fun c_30 => ?_) (fun c_30 => ?_)
    · have hinv := oi_f c_30 hinv
      refine lv_aload_n hx hb dX9_build_84 rfl (lv_at hl 0 rfl) ?_
      refine lv_iconst (v := 1) hx hb dX9_build_85 (by decide) ?_
      refine s_put C hw (k := 0) (row := (upd (X 0) 6 1)) (ty := tyX9) (v := .int 1) (j := 6) (q47 hN rfl) (sh_0 g cy _) rfl tyX9_ok nmX9 (by decide) k345 rfl rfl rfl (Nat.le_of_ble_eq_true rfl) (sh_0 g cy _) dX9_build_86 (fun H locs hw => ?_)
      have hR0 := (Option.some.inj hinv).symm
      subst hR0
      have hXe : (up (up (up (up (up (up (up X 6 zu1.1) 7 zu1.2.1) 8 zu1.2.2.1) 9 zu1.2.2.2.1) 10 zu1.2.2.2.2.1) 11 zu1.2.2.2.2.2) 0 (upd (X 0) 6 1)) = (up (up (up (up (up (up (up (up (up (up (up (up (up (up (up (up (up X 0 (upd (X 0) 6 1)) 6 zu1.1) 7 zu1.2.1) 8 zu1.2.2.1) 9 zu1.2.2.2.1) 10 zu1.2.2.2.2.1) 11 zu1.2.2.2.2.2) 13 (X 13)) 14 (X 14)) 15 (X 15)) 16 (X 16)) 18 (X 18)) 19 (X 19)) 20 (X 20)) 22 (X 22)) 23 (X 23)) 24 (X 24)) := by
        funext j
        by_cases h0 : j = 0
        · subst h0; simp [up]
        by_cases h6 : j = 6
        · subst h6; simp [up]
        by_cases h7 : j = 7
        · subst h7; simp [up]
        by_cases h8 : j = 8
        · subst h8; simp [up]
        by_cases h9 : j = 9
        · subst h9; simp [up]
        by_cases h10 : j = 10
        · subst h10; simp [up]
        by_cases h11 : j = 11
        · subst h11; simp [up]
        by_cases h13 : j = 13
        · subst h13; simp [up]
        by_cases h14 : j = 14
        · subst h14; simp [up]
        by_cases h15 : j = 15
        · subst h15; simp [up]
        by_cases h16 : j = 16
        · subst h16; simp [up]
        by_cases h18 : j = 18
        · subst h18; simp [up]
        by_cases h19 : j = 19
        · subst h19; simp [up]
        by_cases h20 : j = 20
        · subst h20; simp [up]
        by_cases h22 : j = 22
        · subst h22; simp [up]
        by_cases h23 : j = 23
        · subst h23; simp [up]
        by_cases h24 : j = 24
        · subst h24; simp [up]
        simp [up, h0, h6, h7, h8, h9, h10, h11, h13, h14, h15, h16, h18, h19, h20, h22, h23, h24]
      rw [hXe] at hw
      exact hret 89 ls _ _ _ _ hw (by decide) (by decide) dX9_build_89
    · have hinv := oi_t c_30 hinv
      refine lv_aload_n hx hb dX9_build_33 rfl (lv_at hl 0 rfl) ?_
      refine w_get C hw (k := 0) (v := .ref (g 12)) (j := 3) (q47 hN rfl) (sh_0 g cy _) rfl (by decide) k322 rfl dX9_build_34 ?_
      refine lv_aload_n hx hb dX9_build_37 rfl (lv_at hl 0 rfl) ?_
      refine w_get C hw (k := 0) (v := .ref (g 6)) (j := 2) (q47 hN rfl) (sh_0 g cy _) rfl (by decide) k319 rfl dX9_build_38 ?_
      refine lv_aload_n hx hb dX9_build_41 rfl (lv_at hl 0 rfl) ?_
      refine w_get C hw (k := 0) (v := .ref (g 3)) (j := 1) (q47 hN rfl) (sh_0 g cy _) rfl (by decide) k316 rfl dX9_build_42 ?_
      obtain ⟨zu2, hzu2, hinv⟩ := ob hinv
      refine s_vWv C hw (As := [.ref (g 6), .ref (g 3)]) bX1_build k392 (k := 12) (q47 hN rfl) (sh_12 g cy _) rfl (c_X1_build (X := (up (up (up (up (up (up X 6 zu1.1) 7 zu1.2.1) 8 zu1.2.2.1) 9 zu1.2.2.2.1) 10 zu1.2.2.2.2.1) 11 zu1.2.2.2.2.2)) hfl (rok_up (rok_up (rok_up (rok_up (rok_up (rok_up hX (by decide)) (by decide)) (by decide)) (by decide)) (by decide)) (by decide)) hzu2) rfl rfl dX9_build_45 ⟨rfl, rfl⟩ (by decide) hl.1 (Nat.le_of_ble_eq_true rfl) ⟨Nat.le_of_ble_eq_true rfl, Nat.le_of_ble_eq_true rfl⟩ (fun H locs hw => ?_)
      refine lv_aload_n hx hb dX9_build_48 rfl (lv_at hl 0 rfl) ?_
      refine w_get C hw (k := 0) (v := .ref (g 14)) (j := 4) (q47 hN rfl) (sh_0 g cy _) rfl (by decide) k325 rfl dX9_build_49 ?_
      refine lv_aload_n hx hb dX9_build_52 rfl (lv_at hl 0 rfl) ?_
      refine w_get C hw (k := 0) (v := .ref (g 12)) (j := 3) (q47 hN rfl) (sh_0 g cy _) rfl (by decide) k322 rfl dX9_build_53 ?_
      refine lv_aload_n hx hb dX9_build_56 rfl (lv_at hl 0 rfl) ?_
      refine w_get C hw (k := 0) (v := .ref (g 6)) (j := 2) (q47 hN rfl) (sh_0 g cy _) rfl (by decide) k319 rfl dX9_build_57 ?_
      refine w_getN C hw (k := 6) (v := .int (zu1.1 5)) (j := 5) (q47 hN rfl) (sh_6 g cy _) rfl (by decide) k850 rfl dX9_build_60 ?_
      obtain ⟨zu3, hzu3, hinv⟩ := ob hinv
      refine s_vWv C hw (As := [.ref (g 12), .int (zu1.1 5)]) bX3_build k395 (k := 14) (q47 hN rfl) (sh_14 g cy _) rfl (c_X3_build (X := (up (up (up (up (up (up (up X 6 zu1.1) 7 zu1.2.1) 8 zu1.2.2.1) 9 zu1.2.2.2.1) 10 zu1.2.2.2.2.1) 11 zu1.2.2.2.2.2) 13 zu2)) hfl hN hzu3) rfl rfl dX9_build_63 ⟨rfl, rfl⟩ (by decide) hl.1 (Nat.le_of_ble_eq_true rfl) ⟨Nat.le_of_ble_eq_true rfl, Nat.le_of_ble_eq_true rfl⟩ (fun H locs hw => ?_)
      refine lv_aload_n hx hb dX9_build_66 rfl (lv_at hl 0 rfl) ?_
      refine w_get C hw (k := 0) (v := .ref (g 16)) (j := 5) (q47 hN rfl) (sh_0 g cy _) rfl (by decide) k328 rfl dX9_build_67 ?_
      refine lv_aload_n hx hb dX9_build_70 rfl (lv_at hl 0 rfl) ?_
      refine w_get C hw (k := 0) (v := .ref (g 12)) (j := 3) (q47 hN rfl) (sh_0 g cy _) rfl (by decide) k322 rfl dX9_build_71 ?_
      refine lv_aload_n hx hb dX9_build_74 rfl (lv_at hl 0 rfl) ?_
      refine w_get C hw (k := 0) (v := .ref (g 6)) (j := 2) (q47 hN rfl) (sh_0 g cy _) rfl (by decide) k319 rfl dX9_build_75 ?_
      refine w_getN C hw (k := 6) (v := .int (zu1.1 5)) (j := 5) (q47 hN rfl) (sh_6 g cy _) rfl (by decide) k850 rfl dX9_build_78 ?_
      obtain ⟨zu4, hzu4, hinv⟩ := ob hinv
      refine s_vWv C hw (As := [.ref (g 12), .int (zu1.1 5)]) bX7_prepare k398 (k := 16) (q47 hN rfl) (sh_16 g cy _) rfl (c_X7_prepare (X := (up (up (up (up (up (up (up (up (up X 6 zu1.1) 7 zu1.2.1) 8 zu1.2.2.1) 9 zu1.2.2.2.1) 10 zu1.2.2.2.2.1) 11 zu1.2.2.2.2.2) 13 zu2) 14 zu3.1) 15 zu3.2)) hfl hN hzu4) rfl rfl dX9_build_81 ⟨rfl, rfl⟩ (by decide) hl.1 (Nat.le_of_ble_eq_true rfl) ⟨Nat.le_of_ble_eq_true rfl, Nat.le_of_ble_eq_true rfl⟩ (fun H locs hw => ?_)
      refine lv_aload_n hx hb dX9_build_84 rfl (lv_at hl 0 rfl) ?_
      refine lv_iconst (v := 1) hx hb dX9_build_85 (by decide) ?_
      refine s_put C hw (k := 0) (row := (upd (X 0) 6 1)) (ty := tyX9) (v := .int 1) (j := 6) (q47 hN rfl) (sh_0 g cy _) rfl tyX9_ok nmX9 (by decide) k345 rfl rfl rfl (Nat.le_of_ble_eq_true rfl) (sh_0 g cy _) dX9_build_86 (fun H locs hw => ?_)
      have hR0 := (Option.some.inj hinv).symm
      subst hR0
      have hXe : (up (up (up (up (up (up (up (up (up (up (up (up (up (up (up (up (up X 6 zu1.1) 7 zu1.2.1) 8 zu1.2.2.1) 9 zu1.2.2.2.1) 10 zu1.2.2.2.2.1) 11 zu1.2.2.2.2.2) 13 zu2) 14 zu3.1) 15 zu3.2) 16 zu4.1) 18 zu4.2.1) 19 zu4.2.2.1) 20 zu4.2.2.2.1) 22 zu4.2.2.2.2.1) 23 zu4.2.2.2.2.2.1) 24 zu4.2.2.2.2.2.2) 0 (upd (X 0) 6 1)) = (up (up (up (up (up (up (up (up (up (up (up (up (up (up (up (up (up X 0 (upd (X 0) 6 1)) 6 zu1.1) 7 zu1.2.1) 8 zu1.2.2.1) 9 zu1.2.2.2.1) 10 zu1.2.2.2.2.1) 11 zu1.2.2.2.2.2) 13 zu2) 14 zu3.1) 15 zu3.2) 16 zu4.1) 18 zu4.2.1) 19 zu4.2.2.1) 20 zu4.2.2.2.1) 22 zu4.2.2.2.2.1) 23 zu4.2.2.2.2.2.1) 24 zu4.2.2.2.2.2.2) := by
        funext j
        by_cases h0 : j = 0
        · subst h0; simp [up]
        by_cases h6 : j = 6
        · subst h6; simp [up]
        by_cases h7 : j = 7
        · subst h7; simp [up]
        by_cases h8 : j = 8
        · subst h8; simp [up]
        by_cases h9 : j = 9
        · subst h9; simp [up]
        by_cases h10 : j = 10
        · subst h10; simp [up]
        by_cases h11 : j = 11
        · subst h11; simp [up]
        by_cases h13 : j = 13
        · subst h13; simp [up]
        by_cases h14 : j = 14
        · subst h14; simp [up]
        by_cases h15 : j = 15
        · subst h15; simp [up]
        by_cases h16 : j = 16
        · subst h16; simp [up]
        by_cases h18 : j = 18
        · subst h18; simp [up]
        by_cases h19 : j = 19
        · subst h19; simp [up]
        by_cases h20 : j = 20
        · subst h20; simp [up]
        by_cases h22 : j = 22
        · subst h22; simp [up]
        by_cases h23 : j = 23
        · subst h23; simp [up]
        by_cases h24 : j = 24
        · subst h24; simp [up]
        simp [up, h0, h6, h7, h8, h9, h10, h11, h13, h14, h15, h16, h18, h19, h20, h22, h23, h24]
      rw [hXe] at hw
      exact hret 89 ls _ _ _ _ hw (by decide) (by decide) dX9_build_89
  · have hinv := oi_f c_4 hinv
    have hR0 := (Option.some.inj hinv).symm
    subst hR0
    have hXe : X = (up (up (up (up (up (up (up (up (up (up (up (up (up (up (up (up (up X 0 (X 0)) 6 (X 6)) 7 (X 7)) 8 (X 8)) 9 (X 9)) 10 (X 10)) 11 (X 11)) 13 (X 13)) 14 (X 14)) 15 (X 15)) 16 (X 16)) 18 (X 18)) 19 (X 19)) 20 (X 20)) 22 (X 22)) 23 (X 23)) 24 (X 24)) := by
      funext j
      by_cases h0 : j = 0
      · subst h0; simp [up]
      by_cases h6 : j = 6
      · subst h6; simp [up]
      by_cases h7 : j = 7
      · subst h7; simp [up]
      by_cases h8 : j = 8
      · subst h8; simp [up]
      by_cases h9 : j = 9
      · subst h9; simp [up]
      by_cases h10 : j = 10
      · subst h10; simp [up]
      by_cases h11 : j = 11
      · subst h11; simp [up]
      by_cases h13 : j = 13
      · subst h13; simp [up]
      by_cases h14 : j = 14
      · subst h14; simp [up]
      by_cases h15 : j = 15
      · subst h15; simp [up]
      by_cases h16 : j = 16
      · subst h16; simp [up]
      by_cases h18 : j = 18
      · subst h18; simp [up]
      by_cases h19 : j = 19
      · subst h19; simp [up]
      by_cases h20 : j = 20
      · subst h20; simp [up]
      by_cases h22 : j = 22
      · subst h22; simp [up]
      by_cases h23 : j = 23
      · subst h23; simp [up]
      by_cases h24 : j = 24
      · subst h24; simp [up]
      simp [up, h0, h6, h7, h8, h9, h10, h11, h13, h14, h15, h16, h18, h19, h20, h22, h23, h24]
    rw [hXe] at hw
    exact hret 7 ls _ _ _ _ hw (by decide) (by decide) dX9_build_7
def m_X9_demandTold (F : Nat) (RR : Nat → Nat → Int32) (r0 : Nat → Int32) (r2 : Nat → Int32) (r4 : Nat → Int32) (r6 : Nat → Int32) (r7 : Nat → Int32) (r8 : Nat → Int32) (r9 : Nat → Int32) (r10 : Nat → Int32) (r11 : Nat → Int32) (r13 : Nat → Int32) (r14 : Nat → Int32) (r15 : Nat → Int32) (r16 : Nat → Int32) (r18 : Nat → Int32) (r19 : Nat → Int32) (r20 : Nat → Int32) (r22 : Nat → Int32) (r23 : Nat → Int32) (r24 : Nat → Int32) : Option (Nat × (Nat → Int32) × (Nat → Int32) × (Nat → Int32) × (Nat → Int32) × (Nat → Int32) × (Nat → Int32) × (Nat → Int32) × (Nat → Int32) × (Nat → Int32) × (Nat → Int32) × (Nat → Int32) × (Nat → Int32) × (Nat → Int32) × (Nat → Int32) × (Nat → Int32) × (Nat → Int32) × (Nat → Int32)) := Option.bind (m_X9_build F RR r0 r2 r4 r6 r7 r8 r9 r10 r11 r13 r14 r15 r16 r18 r19 r20 r22 r23 r24) (fun zu1 => if (zu1.2.1 6) = 0 then (some (0, zu1.1, zu1.2.1, zu1.2.2.1, zu1.2.2.2.1, zu1.2.2.2.2.1, zu1.2.2.2.2.2.1, zu1.2.2.2.2.2.2.1, zu1.2.2.2.2.2.2.2.1, zu1.2.2.2.2.2.2.2.2.1, zu1.2.2.2.2.2.2.2.2.2.1, zu1.2.2.2.2.2.2.2.2.2.2.1, zu1.2.2.2.2.2.2.2.2.2.2.2.1, zu1.2.2.2.2.2.2.2.2.2.2.2.2.1, zu1.2.2.2.2.2.2.2.2.2.2.2.2.2.1, zu1.2.2.2.2.2.2.2.2.2.2.2.2.2.2.1, zu1.2.2.2.2.2.2.2.2.2.2.2.2.2.2.2.1, zu1.2.2.2.2.2.2.2.2.2.2.2.2.2.2.2.2)) else (some (2, zu1.1, zu1.2.1, zu1.2.2.1, zu1.2.2.2.1, zu1.2.2.2.2.1, zu1.2.2.2.2.2.1, zu1.2.2.2.2.2.2.1, zu1.2.2.2.2.2.2.2.1, zu1.2.2.2.2.2.2.2.2.1, zu1.2.2.2.2.2.2.2.2.2.1, zu1.2.2.2.2.2.2.2.2.2.2.1, zu1.2.2.2.2.2.2.2.2.2.2.2.1, zu1.2.2.2.2.2.2.2.2.2.2.2.2.1, zu1.2.2.2.2.2.2.2.2.2.2.2.2.2.1, zu1.2.2.2.2.2.2.2.2.2.2.2.2.2.2.1, zu1.2.2.2.2.2.2.2.2.2.2.2.2.2.2.2.1, zu1.2.2.2.2.2.2.2.2.2.2.2.2.2.2.2.2)))
set_option maxHeartbeats 4000000 in
set_option maxRecDepth 100000 in
theorem c_X9_demandTold {l : Launch} {D : va_G} {cy : Nat → Nat} {g : Nat → Nat} {N : Nat} {X : Nat → Nat → Int32} {RR : Nat → Nat → Int32} {F : Nat} {R0 : Nat × (Nat → Int32) × (Nat → Int32) × (Nat → Int32) × (Nat → Int32) × (Nat → Int32) × (Nat → Int32) × (Nat → Int32) × (Nat → Int32) × (Nat → Int32) × (Nat → Int32) × (Nat → Int32) × (Nat → Int32) × (Nat → Int32) × (Nat → Int32) × (Nat → Int32) × (Nat → Int32) × (Nat → Int32)} (hfl : l.stackTraces = false) (hX : rok X RR N) (hinv : m_X9_demandTold F RR (X 0) (X 2) (X 4) (X 6) (X 7) (X 8) (X 9) (X 10) (X 11) (X 13) (X 14) (X 15) (X 16) (X 18) (X 19) (X 20) (X 22) (X 23) (X 24) = some R0) : sXv l D cy yX9_demandTold cX9_demandTold 1 none 8 1 6 [.ref (g 0)] g N X R0.1 (up (up (up (up (up (up (up (up (up (up (up (up (up (up (up (up (up X 0 R0.2.1) 6 R0.2.2.1) 7 R0.2.2.2.1) 8 R0.2.2.2.2.1) 9 R0.2.2.2.2.2.1) 10 R0.2.2.2.2.2.2.1) 11 R0.2.2.2.2.2.2.2.1) 13 R0.2.2.2.2.2.2.2.2.1) 14 R0.2.2.2.2.2.2.2.2.2.1) 15 R0.2.2.2.2.2.2.2.2.2.2.1) 16 R0.2.2.2.2.2.2.2.2.2.2.2.1) 18 R0.2.2.2.2.2.2.2.2.2.2.2.2.1) 19 R0.2.2.2.2.2.2.2.2.2.2.2.2.2.1) 20 R0.2.2.2.2.2.2.2.2.2.2.2.2.2.2.1) 22 R0.2.2.2.2.2.2.2.2.2.2.2.2.2.2.2.1) 23 R0.2.2.2.2.2.2.2.2.2.2.2.2.2.2.2.2.1) 24 R0.2.2.2.2.2.2.2.2.2.2.2.2.2.2.2.2.2) := by
  refine jXv (by decide) rfl hfl (Nat.le_of_ble_eq_true rfl) rfl ?_
  intro p e R s m args below meth c ls A Q hRe C hw hl hret hthr hout
  subst hRe
  have hx := C.1
  have hb := C.2.1
  have hN := hX.1
  have hl : lv_has ls 1 [(0, .ref (g 0))] := hl
  rw [m_X9_demandTold] at hinv
  refine lv_aload_n hx hb dX9_demandTold_0 rfl (lv_at hl 0 rfl) ?_
  obtain ⟨zu1, hzu1, hinv⟩ := ob hinv
  refine s_vWv C hw (As := []) bX9_build k402 (k := 0) (q47 hN rfl) (sh_0 g cy _) rfl (c_X9_build (X := X) hfl hX hzu1) rfl rfl dX9_demandTold_1 ⟨rfl, rfl⟩ (by decide) hl.1 (Nat.le_of_ble_eq_true rfl) ⟨Nat.le_of_ble_eq_true rfl, Nat.le_of_ble_eq_true rfl⟩ (fun H locs hw => ?_)
  refine lv_aload_n hx hb dX9_demandTold_4 rfl (lv_at hl 0 rfl) ?_
  refine w_get C hw (k := 0) (v := .ref (g 6)) (j := 2) (q47 hN rfl) (sh_0 g cy _) rfl (by decide) k319 rfl dX9_demandTold_5 ?_
  refine w_getN C hw (k := 6) (v := .int (zu1.2.1 6)) (j := 6) (q47 hN rfl) (sh_6 g cy _) rfl (by decide) k851 rfl dX9_demandTold_8 ?_
  refine lv_if_eq (tgt := 24) hx hb dX9_demandTold_11 (by decide) (fun c_11 => ?_) (fun c_11 => ?_)
  · have hinv := oi_t c_11 hinv
    have hR0 := (Option.some.inj hinv).symm
    subst hR0
    exact hret 24 ls _ _ _ _ rfl hw (by decide) (by decide) dX9_demandTold_24
  · have hinv := oi_f c_11 hinv
    have hR0 := (Option.some.inj hinv).symm
    subst hR0
    exact hthr 14 ls _ _ _ _ 59 63 214 xIS "too many arguments" (show ¬ (2 : Nat) = 0 by decide) rfl hw (List.mem_of_getElem? (i := 1) rfl) (by decide) (List.mem_of_getElem? (i := 10) rfl) hl.1 dX9_demandTold_14 dX9_demandTold_17 dX9_demandTold_18 dX9_demandTold_20 dX9_demandTold_23 (by decide) (by decide) (by decide)
def m_X9_demandFew (F : Nat) (RR : Nat → Nat → Int32) (r0 : Nat → Int32) (r2 : Nat → Int32) (r4 : Nat → Int32) (r6 : Nat → Int32) (r7 : Nat → Int32) (r8 : Nat → Int32) (r9 : Nat → Int32) (r10 : Nat → Int32) (r11 : Nat → Int32) (r13 : Nat → Int32) (r14 : Nat → Int32) (r15 : Nat → Int32) (r16 : Nat → Int32) (r18 : Nat → Int32) (r19 : Nat → Int32) (r20 : Nat → Int32) (r22 : Nat → Int32) (r23 : Nat → Int32) (r24 : Nat → Int32) : Option (Nat × (Nat → Int32) × (Nat → Int32) × (Nat → Int32) × (Nat → Int32) × (Nat → Int32) × (Nat → Int32) × (Nat → Int32) × (Nat → Int32) × (Nat → Int32) × (Nat → Int32) × (Nat → Int32) × (Nat → Int32) × (Nat → Int32) × (Nat → Int32) × (Nat → Int32) × (Nat → Int32) × (Nat → Int32)) := Option.bind (m_X9_build F RR r0 r2 r4 r6 r7 r8 r9 r10 r11 r13 r14 r15 r16 r18 r19 r20 r22 r23 r24) (fun zu1 => if (zu1.2.1 6) = 0 then (if (zu1.2.1 5) ≤ 14 then (some (0, zu1.1, zu1.2.1, zu1.2.2.1, zu1.2.2.2.1, zu1.2.2.2.2.1, zu1.2.2.2.2.2.1, zu1.2.2.2.2.2.2.1, zu1.2.2.2.2.2.2.2.1, zu1.2.2.2.2.2.2.2.2.1, zu1.2.2.2.2.2.2.2.2.2.1, zu1.2.2.2.2.2.2.2.2.2.2.1, zu1.2.2.2.2.2.2.2.2.2.2.2.1, zu1.2.2.2.2.2.2.2.2.2.2.2.2.1, zu1.2.2.2.2.2.2.2.2.2.2.2.2.2.1, zu1.2.2.2.2.2.2.2.2.2.2.2.2.2.2.1, zu1.2.2.2.2.2.2.2.2.2.2.2.2.2.2.2.1, zu1.2.2.2.2.2.2.2.2.2.2.2.2.2.2.2.2)) else (some (2, zu1.1, zu1.2.1, zu1.2.2.1, zu1.2.2.2.1, zu1.2.2.2.2.1, zu1.2.2.2.2.2.1, zu1.2.2.2.2.2.2.1, zu1.2.2.2.2.2.2.2.1, zu1.2.2.2.2.2.2.2.2.1, zu1.2.2.2.2.2.2.2.2.2.1, zu1.2.2.2.2.2.2.2.2.2.2.1, zu1.2.2.2.2.2.2.2.2.2.2.2.1, zu1.2.2.2.2.2.2.2.2.2.2.2.2.1, zu1.2.2.2.2.2.2.2.2.2.2.2.2.2.1, zu1.2.2.2.2.2.2.2.2.2.2.2.2.2.2.1, zu1.2.2.2.2.2.2.2.2.2.2.2.2.2.2.2.1, zu1.2.2.2.2.2.2.2.2.2.2.2.2.2.2.2.2))) else (some (2, zu1.1, zu1.2.1, zu1.2.2.1, zu1.2.2.2.1, zu1.2.2.2.2.1, zu1.2.2.2.2.2.1, zu1.2.2.2.2.2.2.1, zu1.2.2.2.2.2.2.2.1, zu1.2.2.2.2.2.2.2.2.1, zu1.2.2.2.2.2.2.2.2.2.1, zu1.2.2.2.2.2.2.2.2.2.2.1, zu1.2.2.2.2.2.2.2.2.2.2.2.1, zu1.2.2.2.2.2.2.2.2.2.2.2.2.1, zu1.2.2.2.2.2.2.2.2.2.2.2.2.2.1, zu1.2.2.2.2.2.2.2.2.2.2.2.2.2.2.1, zu1.2.2.2.2.2.2.2.2.2.2.2.2.2.2.2.1, zu1.2.2.2.2.2.2.2.2.2.2.2.2.2.2.2.2)))
set_option maxHeartbeats 4000000 in
set_option maxRecDepth 100000 in
theorem c_X9_demandFew {l : Launch} {D : va_G} {cy : Nat → Nat} {g : Nat → Nat} {N : Nat} {X : Nat → Nat → Int32} {RR : Nat → Nat → Int32} {F : Nat} {R0 : Nat × (Nat → Int32) × (Nat → Int32) × (Nat → Int32) × (Nat → Int32) × (Nat → Int32) × (Nat → Int32) × (Nat → Int32) × (Nat → Int32) × (Nat → Int32) × (Nat → Int32) × (Nat → Int32) × (Nat → Int32) × (Nat → Int32) × (Nat → Int32) × (Nat → Int32) × (Nat → Int32) × (Nat → Int32)} (hfl : l.stackTraces = false) (hX : rok X RR N) (hinv : m_X9_demandFew F RR (X 0) (X 2) (X 4) (X 6) (X 7) (X 8) (X 9) (X 10) (X 11) (X 13) (X 14) (X 15) (X 16) (X 18) (X 19) (X 20) (X 22) (X 23) (X 24) = some R0) : sXv l D cy yX9_demandFew cX9_demandFew 1 none 8 1 6 [.ref (g 0)] g N X R0.1 (up (up (up (up (up (up (up (up (up (up (up (up (up (up (up (up (up X 0 R0.2.1) 6 R0.2.2.1) 7 R0.2.2.2.1) 8 R0.2.2.2.2.1) 9 R0.2.2.2.2.2.1) 10 R0.2.2.2.2.2.2.1) 11 R0.2.2.2.2.2.2.2.1) 13 R0.2.2.2.2.2.2.2.2.1) 14 R0.2.2.2.2.2.2.2.2.2.1) 15 R0.2.2.2.2.2.2.2.2.2.2.1) 16 R0.2.2.2.2.2.2.2.2.2.2.2.1) 18 R0.2.2.2.2.2.2.2.2.2.2.2.2.1) 19 R0.2.2.2.2.2.2.2.2.2.2.2.2.2.1) 20 R0.2.2.2.2.2.2.2.2.2.2.2.2.2.2.1) 22 R0.2.2.2.2.2.2.2.2.2.2.2.2.2.2.2.1) 23 R0.2.2.2.2.2.2.2.2.2.2.2.2.2.2.2.2.1) 24 R0.2.2.2.2.2.2.2.2.2.2.2.2.2.2.2.2.2) := by
  refine jXv (by decide) rfl hfl (Nat.le_of_ble_eq_true rfl) rfl ?_
  intro p e R s m args below meth c ls A Q hRe C hw hl hret hthr hout
  subst hRe
  have hx := C.1
  have hb := C.2.1
  have hN := hX.1
  have hl : lv_has ls 1 [(0, .ref (g 0))] := hl
  rw [m_X9_demandFew] at hinv
  refine lv_aload_n hx hb dX9_demandFew_0 rfl (lv_at hl 0 rfl) ?_
  obtain ⟨zu1, hzu1, hinv⟩ := ob hinv
  refine s_vWv C hw (As := []) bX9_build k402 (k := 0) (q47 hN rfl) (sh_0 g cy _) rfl (c_X9_build (X := X) hfl hX hzu1) rfl rfl dX9_demandFew_1 ⟨rfl, rfl⟩ (by decide) hl.1 (Nat.le_of_ble_eq_true rfl) ⟨Nat.le_of_ble_eq_true rfl, Nat.le_of_ble_eq_true rfl⟩ (fun H locs hw => ?_)
  refine lv_aload_n hx hb dX9_demandFew_4 rfl (lv_at hl 0 rfl) ?_
  refine w_get C hw (k := 0) (v := .ref (g 6)) (j := 2) (q47 hN rfl) (sh_0 g cy _) rfl (by decide) k319 rfl dX9_demandFew_5 ?_
  refine w_getN C hw (k := 6) (v := .int (zu1.2.1 6)) (j := 6) (q47 hN rfl) (sh_6 g cy _) rfl (by decide) k851 rfl dX9_demandFew_8 ?_
  refine lv_if_ne (tgt := 26) hx hb dX9_demandFew_11 (by decide) (fun c_11 => ?_) (fun c_11 => ?_)
  · have hinv := oi_f c_11 hinv
    have hR0 := (Option.some.inj hinv).symm
    subst hR0
    exact hthr 26 ls _ _ _ _ 59 63 216 xIS "too many arguments for preferred sets" (show ¬ (2 : Nat) = 0 by decide) rfl hw (List.mem_of_getElem? (i := 1) rfl) (by decide) (List.mem_of_getElem? (i := 11) rfl) hl.1 dX9_demandFew_26 dX9_demandFew_29 dX9_demandFew_30 dX9_demandFew_32 dX9_demandFew_35 (by decide) (by decide) (by decide)
  · have hinv := oi_t c_11 hinv
    refine lv_aload_n hx hb dX9_demandFew_14 rfl (lv_at hl 0 rfl) ?_
    refine w_get C hw (k := 0) (v := .ref (g 6)) (j := 2) (q47 hN rfl) (sh_0 g cy _) rfl (by decide) k319 rfl dX9_demandFew_15 ?_
    refine w_getN C hw (k := 6) (v := .int (zu1.2.1 5)) (j := 5) (q47 hN rfl) (sh_6 g cy _) rfl (by decide) k850 rfl dX9_demandFew_18 ?_
    refine lv_bipush (v := 14) hx hb dX9_demandFew_21 (by decide) ?_
    refine lv_icmp_le (tgt := 36) hx hb dX9_demandFew_23 (by decide) (fun c_23 => ?_) (fun c_23 => ?_)
    · have hinv := oi_t c_23 hinv
      have hR0 := (Option.some.inj hinv).symm
      subst hR0
      exact hret 36 ls _ _ _ _ rfl hw (by decide) (by decide) dX9_demandFew_36
    · have hinv := oi_f c_23 hinv
      have hR0 := (Option.some.inj hinv).symm
      subst hR0
      exact hthr 26 ls _ _ _ _ 59 63 216 xIS "too many arguments for preferred sets" (show ¬ (2 : Nat) = 0 by decide) rfl hw (List.mem_of_getElem? (i := 1) rfl) (by decide) (List.mem_of_getElem? (i := 11) rfl) hl.1 dX9_demandFew_26 dX9_demandFew_29 dX9_demandFew_30 dX9_demandFew_32 dX9_demandFew_35 (by decide) (by decide) (by decide)
def m_X9_demandArgument (F : Nat) (r6 : Nat → Int32) (za1 : Int32) : Option (Nat) := if za1 < 0 then (some 3) else (if za1 < (r6 5) then (some 0) else (some 3))
set_option maxHeartbeats 4000000 in
set_option maxRecDepth 100000 in
theorem c_X9_demandArgument {l : Launch} {D : va_G} {cy : Nat → Nat} {g : Nat → Nat} {N : Nat} {X : Nat → Nat → Int32} {F : Nat} {za1 : Int32} {R0 : Nat} (hfl : l.stackTraces = false) (hN : 47 ≤ N) (hinv : m_X9_demandArgument F (X 6) za1 = some R0) : sXv l D cy yX9_demandArgument cX9_demandArgument 2 none 6 1 6 [.ref (g 0), .int za1] g N X R0 X := by
  refine jXv (by decide) rfl hfl (Nat.le_of_ble_eq_true rfl) rfl ?_
  intro p e R s m args below meth c ls A Q hRe C hw hl hret hthr hout
  subst hRe
  have hx := C.1
  have hb := C.2.1
  have hl : lv_has ls 2 [(0, .ref (g 0)), (1, .int za1)] := hl
  rw [m_X9_demandArgument] at hinv
  refine lv_iload_n hx hb dX9_demandArgument_0 rfl (lv_at hl 1 rfl) ?_
  refine lv_if_lt (tgt := 15) hx hb dX9_demandArgument_1 (by decide) (fun c_1 => ?_) (fun c_1 => ?_)
  · have hinv := oi_t c_1 hinv
    have hR0 := (Option.some.inj hinv).symm
    subst hR0
    exact hthr 15 ls _ _ _ _ 151 155 218 xIB "no such argument" (show ¬ (3 : Nat) = 0 by decide) rfl hw (List.mem_of_getElem? (i := 2) rfl) (by decide) (List.mem_of_getElem? (i := 12) rfl) hl.1 dX9_demandArgument_15 dX9_demandArgument_18 dX9_demandArgument_19 dX9_demandArgument_21 dX9_demandArgument_24 (by decide) (by decide) (by decide)
  · have hinv := oi_f c_1 hinv
    refine lv_iload_n hx hb dX9_demandArgument_4 rfl (lv_at hl 1 rfl) ?_
    refine lv_aload_n hx hb dX9_demandArgument_5 rfl (lv_at hl 0 rfl) ?_
    refine w_get C hw (k := 0) (v := .ref (g 6)) (j := 2) (q47 hN rfl) (sh_0 g cy _) rfl (by decide) k319 rfl dX9_demandArgument_6 ?_
    refine w_getN C hw (k := 6) (v := .int ((X 6) 5)) (j := 5) (q47 hN rfl) (sh_6 g cy _) rfl (by decide) k850 rfl dX9_demandArgument_9 ?_
    refine lv_icmp_lt (tgt := 25) hx hb dX9_demandArgument_12 (by decide) (fun c_12 => ?_) (fun c_12 => ?_)
    · have hinv := oi_t c_12 hinv
      exact hret 25 ls _ _ _ _ (Option.some.inj hinv).symm hw (by decide) (by decide) dX9_demandArgument_25
    · have hinv := oi_f c_12 hinv
      have hR0 := (Option.some.inj hinv).symm
      subst hR0
      exact hthr 15 ls _ _ _ _ 151 155 218 xIB "no such argument" (show ¬ (3 : Nat) = 0 by decide) rfl hw (List.mem_of_getElem? (i := 2) rfl) (by decide) (List.mem_of_getElem? (i := 12) rfl) hl.1 dX9_demandArgument_15 dX9_demandArgument_18 dX9_demandArgument_19 dX9_demandArgument_21 dX9_demandArgument_24 (by decide) (by decide) (by decide)
def m_X9_trySets (F : Nat) (r0 : Nat → Int32) (r16 : Nat → Int32) (r19 : Nat → Int32) (r20 : Nat → Int32) (r23 : Nat → Int32) (r24 : Nat → Int32) (r25 : Nat → Int32) (r26 : Nat → Int32) : Option ((Nat → Int32) × (Nat → Int32) × (Nat → Int32)) := if (r0 7) = 0 then (Option.bind (m_X7_tryAll F r16 r19 r20 r23 r24 r25 r26) (fun zu1 => some ((upd r0 7 1), zu1.1, zu1.2))) else (some (r0, r25, r26))
set_option maxHeartbeats 4000000 in
set_option maxRecDepth 100000 in
theorem c_X9_trySets {l : Launch} {D : va_G} {cy : Nat → Nat} {g : Nat → Nat} {N : Nat} {X : Nat → Nat → Int32} {F : Nat} {R0 : (Nat → Int32) × (Nat → Int32) × (Nat → Int32)} (hfl : l.stackTraces = false) (hN : 47 ≤ N) (hinv : m_X9_trySets F (X 0) (X 16) (X 19) (X 20) (X 23) (X 24) (X 25) (X 26) = some R0) : sWv l D cy yX9_trySets cX9_trySets 1 none 24 0 0 [.ref (g 0)] g N X (up (up (up X 0 R0.1) 25 R0.2.1) 26 R0.2.2) := by
  refine jWv (own := RX9) (by decide) rfl hfl (Nat.le_of_ble_eq_true rfl) rfl ?_
  intro p e R s m args below meth c ls A Q hRe C hw hl hret
  subst hRe
  have hx := C.1
  have hb := C.2.1
  have hl : lv_has ls 1 [(0, .ref (g 0))] := hl
  rw [m_X9_trySets] at hinv
  refine lv_aload_n hx hb dX9_trySets_0 rfl (lv_at hl 0 rfl) ?_
  refine w_get C hw (k := 0) (v := .int ((X 0) 7)) (j := 7) (q47 hN rfl) (sh_0 g cy _) rfl (by decide) k346 rfl dX9_trySets_1 ?_
  refine lv_if_ne (tgt := 19) hx hb dX9_trySets_4 (by decide) (fun c_4 => ?_) (fun c_4 => ?_)
  · have hinv := oi_f c_4 hinv
    have hR0 := (Option.some.inj hinv).symm
    subst hR0
    have hXe : X = (up (up (up X 0 (X 0)) 25 (X 25)) 26 (X 26)) := by
      funext j
      by_cases h0 : j = 0
      · subst h0; simp [up]
      by_cases h25 : j = 25
      · subst h25; simp [up]
      by_cases h26 : j = 26
      · subst h26; simp [up]
      simp [up, h0, h25, h26]
    rw [hXe] at hw
    exact hret 19 ls _ _ _ _ hw (by decide) (by decide) dX9_trySets_19
  · have hinv := oi_t c_4 hinv
    refine lv_aload_n hx hb dX9_trySets_7 rfl (lv_at hl 0 rfl) ?_
    refine w_get C hw (k := 0) (v := .ref (g 16)) (j := 5) (q47 hN rfl) (sh_0 g cy _) rfl (by decide) k328 rfl dX9_trySets_8 ?_
    obtain ⟨zu1, hzu1, hinv⟩ := ob hinv
    refine s_vWv C hw (As := []) bX7_tryAll k439 (k := 16) (q47 hN rfl) (sh_16 g cy _) rfl (c_X7_tryAll (X := X) hfl hN hzu1) rfl rfl dX9_trySets_11 ⟨rfl, rfl⟩ (by decide) hl.1 (Nat.le_of_ble_eq_true rfl) ⟨Nat.le_of_ble_eq_true rfl, Nat.le_of_ble_eq_true rfl⟩ (fun H locs hw => ?_)
    refine lv_aload_n hx hb dX9_trySets_14 rfl (lv_at hl 0 rfl) ?_
    refine lv_iconst (v := 1) hx hb dX9_trySets_15 (by decide) ?_
    refine s_put C hw (k := 0) (row := (upd (X 0) 7 1)) (ty := tyX9) (v := .int 1) (j := 7) (q47 hN rfl) (sh_0 g cy _) rfl tyX9_ok nmX9 (by decide) k346 rfl rfl rfl (Nat.le_of_ble_eq_true rfl) (sh_0 g cy _) dX9_trySets_16 (fun H locs hw => ?_)
    have hR0 := (Option.some.inj hinv).symm
    subst hR0
    have hXe : (up (up (up X 25 zu1.1) 26 zu1.2) 0 (upd (X 0) 7 1)) = (up (up (up X 0 (upd (X 0) 7 1)) 25 zu1.1) 26 zu1.2) := by
      funext j
      by_cases h0 : j = 0
      · subst h0; simp [up]
      by_cases h25 : j = 25
      · subst h25; simp [up]
      by_cases h26 : j = 26
      · subst h26; simp [up]
      simp [up, h0, h25, h26]
    rw [hXe] at hw
    exact hret 19 ls _ _ _ _ hw (by decide) (by decide) dX9_trySets_19
def m_X9_sweepSets (F : Nat) (r0 : Nat → Int32) (r16 : Nat → Int32) (r19 : Nat → Int32) (r20 : Nat → Int32) (r23 : Nat → Int32) (r24 : Nat → Int32) (r27 : Nat → Int32) (r28 : Nat → Int32) : Option ((Nat → Int32) × (Nat → Int32) × (Nat → Int32)) := if (r0 8) = 0 then (Option.bind (m_X7_sweep F r16 r19 r20 r23 r24 r27 r28) (fun zu1 => some ((upd r0 8 1), zu1.1, zu1.2))) else (some (r0, r27, r28))
set_option maxHeartbeats 4000000 in
set_option maxRecDepth 100000 in
theorem c_X9_sweepSets {l : Launch} {D : va_G} {cy : Nat → Nat} {g : Nat → Nat} {N : Nat} {X : Nat → Nat → Int32} {F : Nat} {R0 : (Nat → Int32) × (Nat → Int32) × (Nat → Int32)} (hfl : l.stackTraces = false) (hN : 47 ≤ N) (hinv : m_X9_sweepSets F (X 0) (X 16) (X 19) (X 20) (X 23) (X 24) (X 27) (X 28) = some R0) : sWv l D cy yX9_sweepSets cX9_sweepSets 1 none 3 0 0 [.ref (g 0)] g N X (up (up (up X 0 R0.1) 27 R0.2.1) 28 R0.2.2) := by
  refine jWv (own := RX9) (by decide) rfl hfl (Nat.le_of_ble_eq_true rfl) rfl ?_
  intro p e R s m args below meth c ls A Q hRe C hw hl hret
  subst hRe
  have hx := C.1
  have hb := C.2.1
  have hl : lv_has ls 1 [(0, .ref (g 0))] := hl
  rw [m_X9_sweepSets] at hinv
  refine lv_aload_n hx hb dX9_sweepSets_0 rfl (lv_at hl 0 rfl) ?_
  refine w_get C hw (k := 0) (v := .int ((X 0) 8)) (j := 8) (q47 hN rfl) (sh_0 g cy _) rfl (by decide) k347 rfl dX9_sweepSets_1 ?_
  refine lv_if_ne (tgt := 19) hx hb dX9_sweepSets_4 (by decide) (fun c_4 => ?_) (fun c_4 => ?_)
  · have hinv := oi_f c_4 hinv
    have hR0 := (Option.some.inj hinv).symm
    subst hR0
    have hXe : X = (up (up (up X 0 (X 0)) 27 (X 27)) 28 (X 28)) := by
      funext j
      by_cases h0 : j = 0
      · subst h0; simp [up]
      by_cases h27 : j = 27
      · subst h27; simp [up]
      by_cases h28 : j = 28
      · subst h28; simp [up]
      simp [up, h0, h27, h28]
    rw [hXe] at hw
    exact hret 19 ls _ _ _ _ hw (by decide) (by decide) dX9_sweepSets_19
  · have hinv := oi_t c_4 hinv
    refine lv_aload_n hx hb dX9_sweepSets_7 rfl (lv_at hl 0 rfl) ?_
    refine w_get C hw (k := 0) (v := .ref (g 16)) (j := 5) (q47 hN rfl) (sh_0 g cy _) rfl (by decide) k328 rfl dX9_sweepSets_8 ?_
    obtain ⟨zu1, hzu1, hinv⟩ := ob hinv
    refine s_vWv C hw (As := []) bX7_sweep k450 (k := 16) (q47 hN rfl) (sh_16 g cy _) rfl (c_X7_sweep (X := X) hfl hN hzu1) rfl rfl dX9_sweepSets_11 ⟨rfl, rfl⟩ (by decide) hl.1 (Nat.le_of_ble_eq_true rfl) ⟨Nat.le_of_ble_eq_true rfl, Nat.le_of_ble_eq_true rfl⟩ (fun H locs hw => ?_)
    refine lv_aload_n hx hb dX9_sweepSets_14 rfl (lv_at hl 0 rfl) ?_
    refine lv_iconst (v := 1) hx hb dX9_sweepSets_15 (by decide) ?_
    refine s_put C hw (k := 0) (row := (upd (X 0) 8 1)) (ty := tyX9) (v := .int 1) (j := 8) (q47 hN rfl) (sh_0 g cy _) rfl tyX9_ok nmX9 (by decide) k347 rfl rfl rfl (Nat.le_of_ble_eq_true rfl) (sh_0 g cy _) dX9_sweepSets_16 (fun H locs hw => ?_)
    have hR0 := (Option.some.inj hinv).symm
    subst hR0
    have hXe : (up (up (up X 27 zu1.1) 28 zu1.2) 0 (upd (X 0) 8 1)) = (up (up (up X 0 (upd (X 0) 8 1)) 27 zu1.1) 28 zu1.2) := by
      funext j
      by_cases h0 : j = 0
      · subst h0; simp [up]
      by_cases h27 : j = 27
      · subst h27; simp [up]
      by_cases h28 : j = 28
      · subst h28; simp [up]
      simp [up, h0, h27, h28]
    rw [hXe] at hw
    exact hret 19 ls _ _ _ _ hw (by decide) (by decide) dX9_sweepSets_19
def m_X9_lowestAttacker_L2 (F : Nat) (r6 : Nat → Int32) (r13 : Nat → Int32) (r14 : Nat → Int32) (y1_2 : Int32) (y2_2 : Int32) : Nat → Int32 → Option (Int32)
  | 0, _ => none
  | n + 1, x3_2 => if (r6 5) ≤ x3_2 then (some ((-1) : Int32)) else (Option.bind (m_X1_leads F r13 x3_2 y1_2) (fun zu1 => if zu1 = 0 then (m_X9_lowestAttacker_L2 F r6 r13 r14 y1_2 y2_2 n (x3_2 + 1)) else (Option.bind (m_X3_labelAt F r14 x3_2) (fun zu2 => if zu2 = y2_2 then (some x3_2) else (m_X9_lowestAttacker_L2 F r6 r13 r14 y1_2 y2_2 n (x3_2 + 1))))))
def m_X9_lowestAttacker (F : Nat) (r6 : Nat → Int32) (r13 : Nat → Int32) (r14 : Nat → Int32) (za1 : Int32) (za2 : Int32) : Option (Int32) := m_X9_lowestAttacker_L2 F r6 r13 r14 za1 za2 F 0
set_option maxHeartbeats 4000000 in
set_option maxRecDepth 100000 in
theorem c_X9_lowestAttacker {l : Launch} {D : va_G} {cy : Nat → Nat} {g : Nat → Nat} {N : Nat} {X : Nat → Nat → Int32} {F : Nat} {za1 : Int32} {za2 : Int32} {R0 : Int32} (hfl : l.stackTraces = false) (hN : 47 ≤ N) (hinv : m_X9_lowestAttacker F (X 6) (X 13) (X 14) za1 za2 = some R0) : sRi l D cy yX9_lowestAttacker cX9_lowestAttacker 4 (some .int) 2 [.ref (g 0), .int za1, .int za2] g N X R0 := by
  refine jRi (own := RX9) (by decide) rfl hfl (Nat.le_of_ble_eq_true rfl) rfl ?_
  intro p e R s m args below meth c ls A Q hRe C hw hl hret
  subst hRe
  have hx := C.1
  have hb := C.2.1
  have hl : lv_has ls 4 [(0, .ref (g 0)), (1, .int za1), (2, .int za2)] := hl
  rw [m_X9_lowestAttacker] at hinv
  refine lv_iconst (v := 0) hx hb dX9_lowestAttacker_0 (by decide) ?_
  refine lv_istore_n (lv' := [(3, .int 0), (0, .ref (g 0)), (1, .int za1), (2, .int za2)]) hx hb dX9_lowestAttacker_1 rfl hl (by decide) rfl (fun ls hl => ?_)
  have hl2 : ∀ (n : Nat) (x3_2 : Int32), m_X9_lowestAttacker_L2 F (X 6) (X 13) (X 14) za1 za2 n x3_2 = some R0 → ∀ (ls : Array Slot), lv_has ls 4 [(3, .int x3_2), (0, .ref (g 0)), (1, .int za1), (2, .int za2)] → W p l e (wR 2 0 0) s m args below meth c s.heap [] 0 0 Q (F0 m 2 ls []) := by
    intro n
    induction n with
    | zero =>
      intro x3_2 hinv
      cases hinv
    | succ n ih =>
      intro x3_2 hinv ls hl
      rw [m_X9_lowestAttacker_L2] at hinv
      refine lv_iload_n hx hb dX9_lowestAttacker_2 rfl (lv_at hl 0 rfl) ?_
      refine lv_aload_n hx hb dX9_lowestAttacker_3 rfl (lv_at hl 1 rfl) ?_
      refine w_get C hw (k := 0) (v := .ref (g 6)) (j := 2) (q47 hN rfl) (sh_0 g cy _) rfl (by decide) k319 rfl dX9_lowestAttacker_4 ?_
      refine w_getN C hw (k := 6) (v := .int ((X 6) 5)) (j := 5) (q47 hN rfl) (sh_6 g cy _) rfl (by decide) k850 rfl dX9_lowestAttacker_7 ?_
      refine lv_icmp_ge (tgt := 45) hx hb dX9_lowestAttacker_10 (by decide) (fun c_10 => ?_) (fun c_10 => ?_)
      · have hinv := oi_t c_10 hinv
        refine lv_iconst (v := (-1)) hx hb dX9_lowestAttacker_45 (by decide) ?_
        exact hret 46 ls (-1) (Option.some.inj hinv) dX9_lowestAttacker_46
      · have hinv := oi_f c_10 hinv
        refine lv_aload_n hx hb dX9_lowestAttacker_13 rfl (lv_at hl 1 rfl) ?_
        refine w_get C hw (k := 0) (v := .ref (g 12)) (j := 3) (q47 hN rfl) (sh_0 g cy _) rfl (by decide) k322 rfl dX9_lowestAttacker_14 ?_
        refine lv_iload_n hx hb dX9_lowestAttacker_17 rfl (lv_at hl 0 rfl) ?_
        refine lv_iload_n hx hb dX9_lowestAttacker_18 rfl (lv_at hl 2 rfl) ?_
        obtain ⟨zu1, hzu1, hinv⟩ := ob hinv
        refine s_vRi (r0 := zu1) C hw (As := [.int x3_2, .int za1]) bX1_leads k422 (k := 12) (q47 hN rfl) (sh_12 g cy _) rfl (c_X1_leads (X := X) hfl hN hzu1) rfl rfl dX9_lowestAttacker_19 ⟨rfl, rfl⟩ (by decide) hl.1 (Nat.le_of_ble_eq_true rfl) ⟨Nat.le_of_ble_eq_true rfl, Nat.le_of_ble_eq_true rfl⟩ ?_
        refine lv_if_eq (tgt := 39) hx hb dX9_lowestAttacker_22 (by decide) (fun c_22 => ?_) (fun c_22 => ?_)
        · have hinv := oi_t c_22 hinv
          refine lv_iinc (v := (x3_2 + 1)) (lv' := [(3, .int (x3_2 + 1)), (0, .ref (g 0)), (1, .int za1), (2, .int za2)]) hx hb dX9_lowestAttacker_39 hl (k := 0) rfl (by rfl) (by decide) rfl (fun ls hl => ?_)
          refine lv_goto (tgt := 2) hx hb dX9_lowestAttacker_42 (by decide) ?_
          exact ih (x3_2 + 1) hinv ls (lv_sub hl [0, 1, 2, 3] rfl)
        · have hinv := oi_f c_22 hinv
          refine lv_aload_n hx hb dX9_lowestAttacker_25 rfl (lv_at hl 1 rfl) ?_
          refine w_get C hw (k := 0) (v := .ref (g 14)) (j := 4) (q47 hN rfl) (sh_0 g cy _) rfl (by decide) k325 rfl dX9_lowestAttacker_26 ?_
          refine lv_iload_n hx hb dX9_lowestAttacker_29 rfl (lv_at hl 0 rfl) ?_
          obtain ⟨zu2, hzu2, hinv⟩ := ob hinv
          refine s_vRi (r0 := zu2) C hw (As := [.int x3_2]) bX3_labelAt k424 (k := 14) (q47 hN rfl) (sh_14 g cy _) rfl (c_X3_labelAt (X := X) hfl hN hzu2) rfl rfl dX9_lowestAttacker_30 ⟨rfl, rfl⟩ (by decide) hl.1 (Nat.le_of_ble_eq_true rfl) ⟨Nat.le_of_ble_eq_true rfl, Nat.le_of_ble_eq_true rfl⟩ ?_
          refine lv_iload_n hx hb dX9_lowestAttacker_33 rfl (lv_at hl 3 rfl) ?_
          refine lv_icmp_ne (tgt := 39) hx hb dX9_lowestAttacker_34 (by decide) (fun c_34 => ?_) (fun c_34 => ?_)
          · have hinv := oi_f c_34 hinv
            refine lv_iinc (v := (x3_2 + 1)) (lv' := [(3, .int (x3_2 + 1)), (0, .ref (g 0)), (1, .int za1), (2, .int za2)]) hx hb dX9_lowestAttacker_39 hl (k := 0) rfl (by rfl) (by decide) rfl (fun ls hl => ?_)
            refine lv_goto (tgt := 2) hx hb dX9_lowestAttacker_42 (by decide) ?_
            exact ih (x3_2 + 1) hinv ls (lv_sub hl [0, 1, 2, 3] rfl)
          · have hinv := oi_t c_34 hinv
            refine lv_iload_n hx hb dX9_lowestAttacker_37 rfl (lv_at hl 0 rfl) ?_
            exact hret 38 ls x3_2 (Option.some.inj hinv) dX9_lowestAttacker_38
  exact hl2 F 0 hinv ls (lv_sub hl [0, 1, 2, 3] rfl)
def m_X9_concludesInSet_L2 (F : Nat) (r6 : Nat → Int32) (r7 : Nat → Int32) (r25 : Nat → Int32) (r26 : Nat → Int32) (y1_2 : Int32) (y2_2 : Int32) : Nat → Int32 → Option (Int32)
  | 0, _ => none
  | n + 1, x3_2 => if (r6 5) ≤ x3_2 then (some (0 : Int32)) else (Option.bind (m_X0_conclusionAt F r7 x3_2) (fun zu1 => if zu1 = y2_2 then (Option.bind (m_X6_contains F r25 r26 y1_2 x3_2) (fun zu2 => if zu2 = 0 then (m_X9_concludesInSet_L2 F r6 r7 r25 r26 y1_2 y2_2 n (x3_2 + 1)) else (some (1 : Int32)))) else (m_X9_concludesInSet_L2 F r6 r7 r25 r26 y1_2 y2_2 n (x3_2 + 1))))
def m_X9_concludesInSet (F : Nat) (r6 : Nat → Int32) (r7 : Nat → Int32) (r25 : Nat → Int32) (r26 : Nat → Int32) (za1 : Int32) (za2 : Int32) : Option (Int32) := m_X9_concludesInSet_L2 F r6 r7 r25 r26 za1 za2 F 0
set_option maxHeartbeats 4000000 in
set_option maxRecDepth 100000 in
theorem c_X9_concludesInSet {l : Launch} {D : va_G} {cy : Nat → Nat} {g : Nat → Nat} {N : Nat} {X : Nat → Nat → Int32} {F : Nat} {za1 : Int32} {za2 : Int32} {R0 : Int32} (hfl : l.stackTraces = false) (hN : 47 ≤ N) (hinv : m_X9_concludesInSet F (X 6) (X 7) (X 25) (X 26) za1 za2 = some R0) : sRi l D cy yX9_concludesInSet cX9_concludesInSet 4 (some .boolean) 2 [.ref (g 0), .int za1, .int za2] g N X R0 := by
  refine jRz (own := RX9) (by decide) rfl hfl (Nat.le_of_ble_eq_true rfl) rfl ?_
  intro p e R s m args below meth c ls A Q hRe C hw hl hret
  subst hRe
  have hx := C.1
  have hb := C.2.1
  have hl : lv_has ls 4 [(0, .ref (g 0)), (1, .int za1), (2, .int za2)] := hl
  rw [m_X9_concludesInSet] at hinv
  refine lv_iconst (v := 0) hx hb dX9_concludesInSet_0 (by decide) ?_
  refine lv_istore_n (lv' := [(3, .int 0), (0, .ref (g 0)), (1, .int za1), (2, .int za2)]) hx hb dX9_concludesInSet_1 rfl hl (by decide) rfl (fun ls hl => ?_)
  have hl2 : ∀ (n : Nat) (x3_2 : Int32), m_X9_concludesInSet_L2 F (X 6) (X 7) (X 25) (X 26) za1 za2 n x3_2 = some R0 → ∀ (ls : Array Slot), lv_has ls 4 [(3, .int x3_2), (0, .ref (g 0)), (1, .int za1), (2, .int za2)] → W p l e (wR 2 0 0) s m args below meth c s.heap [] 0 0 Q (F0 m 2 ls []) := by
    intro n
    induction n with
    | zero =>
      intro x3_2 hinv
      cases hinv
    | succ n ih =>
      intro x3_2 hinv ls hl
      rw [m_X9_concludesInSet_L2] at hinv
      refine lv_iload_n hx hb dX9_concludesInSet_2 rfl (lv_at hl 0 rfl) ?_
      refine lv_aload_n hx hb dX9_concludesInSet_3 rfl (lv_at hl 1 rfl) ?_
      refine w_get C hw (k := 0) (v := .ref (g 6)) (j := 2) (q47 hN rfl) (sh_0 g cy _) rfl (by decide) k319 rfl dX9_concludesInSet_4 ?_
      refine w_getN C hw (k := 6) (v := .int ((X 6) 5)) (j := 5) (q47 hN rfl) (sh_6 g cy _) rfl (by decide) k850 rfl dX9_concludesInSet_7 ?_
      refine lv_icmp_ge (tgt := 48) hx hb dX9_concludesInSet_10 (by decide) (fun c_10 => ?_) (fun c_10 => ?_)
      · have hinv := oi_t c_10 hinv
        refine lv_iconst (v := 0) hx hb dX9_concludesInSet_48 (by decide) ?_
        exact hret 49 ls 0 (Option.some.inj hinv) (by decide) dX9_concludesInSet_49
      · have hinv := oi_f c_10 hinv
        refine lv_aload_n hx hb dX9_concludesInSet_13 rfl (lv_at hl 1 rfl) ?_
        refine w_get C hw (k := 0) (v := .ref (g 6)) (j := 2) (q47 hN rfl) (sh_0 g cy _) rfl (by decide) k319 rfl dX9_concludesInSet_14 ?_
        refine lv_iload_n hx hb dX9_concludesInSet_17 rfl (lv_at hl 0 rfl) ?_
        obtain ⟨zu1, hzu1, hinv⟩ := ob hinv
        refine s_vRi (r0 := zu1) C hw (As := [.int x3_2]) bX0_conclusionAt k414 (k := 6) (q47 hN rfl) (sh_6 g cy _) rfl (c_X0_conclusionAt (X := X) hfl hN hzu1) rfl rfl dX9_concludesInSet_18 ⟨rfl, rfl⟩ (by decide) hl.1 (Nat.le_of_ble_eq_true rfl) ⟨Nat.le_of_ble_eq_true rfl, Nat.le_of_ble_eq_true rfl⟩ ?_
        refine lv_iload_n hx hb dX9_concludesInSet_21 rfl (lv_at hl 3 rfl) ?_
        refine lv_icmp_ne (tgt := 42) hx hb dX9_concludesInSet_22 (by decide) (fun c_22 => ?_) (fun c_22 => ?_)
        · have hinv := oi_f c_22 hinv
          refine lv_iinc (v := (x3_2 + 1)) (lv' := [(3, .int (x3_2 + 1)), (0, .ref (g 0)), (1, .int za1), (2, .int za2)]) hx hb dX9_concludesInSet_42 hl (k := 0) rfl (by rfl) (by decide) rfl (fun ls hl => ?_)
          refine lv_goto (tgt := 2) hx hb dX9_concludesInSet_45 (by decide) ?_
          exact ih (x3_2 + 1) hinv ls (lv_sub hl [0, 1, 2, 3] rfl)
        · have hinv := oi_t c_22 hinv
          refine lv_aload_n hx hb dX9_concludesInSet_25 rfl (lv_at hl 1 rfl) ?_
          refine w_get C hw (k := 0) (v := .ref (g 16)) (j := 5) (q47 hN rfl) (sh_0 g cy _) rfl (by decide) k328 rfl dX9_concludesInSet_26 ?_
          refine w_getN C hw (k := 16) (v := .ref (g 25)) (j := 2) (q47 hN rfl) (sh_16 g cy _) rfl (by decide) k858 rfl dX9_concludesInSet_29 ?_
          refine lv_iload_n hx hb dX9_concludesInSet_32 rfl (lv_at hl 2 rfl) ?_
          refine lv_iload_n hx hb dX9_concludesInSet_33 rfl (lv_at hl 0 rfl) ?_
          obtain ⟨zu2, hzu2, hinv⟩ := ob hinv
          refine s_vRi (r0 := zu2) C hw (As := [.int za1, .int x3_2]) bX6_contains k458 (k := 25) (q47 hN rfl) (sh_25 g cy _) rfl (c_X6_contains (X := X) hfl hN hzu2) rfl rfl dX9_concludesInSet_34 ⟨rfl, rfl⟩ (by decide) hl.1 (Nat.le_of_ble_eq_true rfl) ⟨Nat.le_of_ble_eq_true rfl, Nat.le_of_ble_eq_true rfl⟩ ?_
          refine lv_if_eq (tgt := 42) hx hb dX9_concludesInSet_37 (by decide) (fun c_37 => ?_) (fun c_37 => ?_)
          · have hinv := oi_t c_37 hinv
            refine lv_iinc (v := (x3_2 + 1)) (lv' := [(3, .int (x3_2 + 1)), (0, .ref (g 0)), (1, .int za1), (2, .int za2)]) hx hb dX9_concludesInSet_42 hl (k := 0) rfl (by rfl) (by decide) rfl (fun ls hl => ?_)
            refine lv_goto (tgt := 2) hx hb dX9_concludesInSet_45 (by decide) ?_
            exact ih (x3_2 + 1) hinv ls (lv_sub hl [0, 1, 2, 3] rfl)
          · have hinv := oi_f c_37 hinv
            refine lv_iconst (v := 1) hx hb dX9_concludesInSet_40 (by decide) ?_
            exact hret 41 ls 1 (Option.some.inj hinv) (by decide) dX9_concludesInSet_41
  exact hl2 F 0 hinv ls (lv_sub hl [0, 1, 2, 3] rfl)

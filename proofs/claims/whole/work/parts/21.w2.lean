def m_X1_attackersOf (F : Nat) (r13 : Nat → Int32) (za1 : Int32) : Option (Int32) := if za1 < 0 then (some (0 : Int32)) else (if 24 ≤ za1 then (some (0 : Int32)) else (if ¬ (za1 < 0 ∨ 24 ≤ za1.toNatClampNeg) then (some (r13 za1.toNatClampNeg)) else none))
set_option maxHeartbeats 4000000 in
set_option maxRecDepth 100000 in
theorem c_X1_attackersOf {l : Launch} {D : va_G} {cy : Nat → Nat} {g : Nat → Nat} {N : Nat} {X : Nat → Nat → Int32} {F : Nat} {za1 : Int32} {R0 : Int32} (hfl : l.stackTraces = false) (hN : 47 ≤ N) (hinv : m_X1_attackersOf F (X 13) za1 = some R0) : sRi l D cy yX1_attackersOf cX1_attackersOf 2 (some .int) 0 [.ref (g 12), .int za1] g N X R0 := by
  refine jRi (own := RX1) (by decide) rfl hfl (Nat.le_of_ble_eq_true rfl) rfl ?_
  intro p e R s m args below meth c ls A Q hRe C hw hl hret
  subst hRe
  have hx := C.1
  have hb := C.2.1
  have hl : lv_has ls 2 [(0, .ref (g 12)), (1, .int za1)] := hl
  rw [m_X1_attackersOf] at hinv
  refine lv_iload_n hx hb dX1_attackersOf_0 rfl (lv_at hl 1 rfl) ?_
  refine lv_if_lt (tgt := 19) hx hb dX1_attackersOf_1 (by decide) (fun c_1 => ?_) (fun c_1 => ?_)
  · have hinv := oi_t c_1 hinv
    refine lv_iconst (v := 0) hx hb dX1_attackersOf_19 (by decide) ?_
    exact hret 20 ls 0 (Option.some.inj hinv) dX1_attackersOf_20
  · have hinv := oi_f c_1 hinv
    refine lv_iload_n hx hb dX1_attackersOf_4 rfl (lv_at hl 1 rfl) ?_
    refine lv_bipush (v := 24) hx hb dX1_attackersOf_5 (by decide) ?_
    refine lv_icmp_ge (tgt := 19) hx hb dX1_attackersOf_7 (by decide) (fun c_7 => ?_) (fun c_7 => ?_)
    · have hinv := oi_t c_7 hinv
      refine lv_iconst (v := 0) hx hb dX1_attackersOf_19 (by decide) ?_
      exact hret 20 ls 0 (Option.some.inj hinv) dX1_attackersOf_20
    · have hinv := oi_f c_7 hinv
      refine lv_aload_n hx hb dX1_attackersOf_10 rfl (lv_at hl 0 rfl) ?_
      refine w_get C hw (k := 12) (v := .ref (g 13)) (j := 0) (q47 hN rfl) (sh_12 g cy _) rfl (by decide) k98 rfl dX1_attackersOf_11 ?_
      refine lv_iload_n hx hb dX1_attackersOf_14 rfl (lv_at hl 1 rfl) ?_
      obtain ⟨hb_15, hinv⟩ := oi_c hinv
      refine s_iald C hw (k := 13) (a := (X 13)) (q47 hN rfl) (fun r => sh_13 g cy r) rfl hb_15 dX1_attackersOf_15 ?_
      refine lv_goto (tgt := 20) hx hb dX1_attackersOf_16 (by decide) ?_
      exact hret 20 ls ((X 13) za1.toNatClampNeg) (Option.some.inj hinv) dX1_attackersOf_20
def m_X1_leads (F : Nat) (r13 : Nat → Int32) (za1 : Int32) (za2 : Int32) : Option (Int32) := Option.bind (m_X1_attackersOf F r13 za2) (fun zu1 => if ((zu1 >>> (za1 &&& 31)) &&& 1) = 0 then (some (0 : Int32)) else (some (1 : Int32)))
set_option maxHeartbeats 4000000 in
set_option maxRecDepth 100000 in
theorem c_X1_leads {l : Launch} {D : va_G} {cy : Nat → Nat} {g : Nat → Nat} {N : Nat} {X : Nat → Nat → Int32} {F : Nat} {za1 : Int32} {za2 : Int32} {R0 : Int32} (hfl : l.stackTraces = false) (hN : 47 ≤ N) (hinv : m_X1_leads F (X 13) za1 za2 = some R0) : sRi l D cy yX1_leads cX1_leads 3 (some .boolean) 1 [.ref (g 12), .int za1, .int za2] g N X R0 := by
  refine jRz (own := RX1) (by decide) rfl hfl (Nat.le_of_ble_eq_true rfl) rfl ?_
  intro p e R s m args below meth c ls A Q hRe C hw hl hret
  subst hRe
  have hx := C.1
  have hb := C.2.1
  have hl : lv_has ls 3 [(0, .ref (g 12)), (1, .int za1), (2, .int za2)] := hl
  rw [m_X1_leads] at hinv
  refine lv_aload_n hx hb dX1_leads_0 rfl (lv_at hl 0 rfl) ?_
  refine lv_iload_n hx hb dX1_leads_1 rfl (lv_at hl 2 rfl) ?_
  obtain ⟨zu1, hzu1, hinv⟩ := ob hinv
  refine s_vRi (r0 := zu1) C hw (As := [.int za2]) bX1_attackersOf k101 (k := 12) (q47 hN rfl) (sh_12 g cy _) rfl (c_X1_attackersOf (X := X) hfl hN hzu1) rfl rfl dX1_leads_2 ⟨rfl, rfl⟩ (by decide) hl.1 (Nat.le_of_ble_eq_true rfl) ⟨Nat.le_of_ble_eq_true rfl, Nat.le_of_ble_eq_true rfl⟩ ?_
  refine lv_iload_n hx hb dX1_leads_5 rfl (lv_at hl 1 rfl) ?_
  refine lv_ishr hx hb dX1_leads_6 ?_
  refine lv_iconst (v := 1) hx hb dX1_leads_7 (by decide) ?_
  refine lv_iand hx hb dX1_leads_8 ?_
  refine lv_if_eq (tgt := 16) hx hb dX1_leads_9 (by decide) (fun c_9 => ?_) (fun c_9 => ?_)
  · have hinv := oi_t c_9 hinv
    refine lv_iconst (v := 0) hx hb dX1_leads_16 (by decide) ?_
    exact hret 17 ls 0 (Option.some.inj hinv) (by decide) dX1_leads_17
  · have hinv := oi_f c_9 hinv
    refine lv_iconst (v := 1) hx hb dX1_leads_12 (by decide) ?_
    refine lv_goto (tgt := 17) hx hb dX1_leads_13 (by decide) ?_
    exact hret 17 ls 1 (Option.some.inj hinv) (by decide) dX1_leads_17
def m_X1_strength (F : Nat) (RR : Nat → Nat → Int32) (r8 : Nat → Int32) (za2 : Int32) : Option (Int32) := Option.bind (m_X0_makerAt F r8 za2) (fun zu1 => if zu1 = (-1) then (some (10 : Int32)) else (some (RR (aid (RR 4 2) zu1) 4)))
set_option maxHeartbeats 4000000 in
set_option maxRecDepth 100000 in
theorem c_X1_strength {l : Launch} {D : va_G} {cy : Nat → Nat} {g : Nat → Nat} {N : Nat} {X : Nat → Nat → Int32} {RR : Nat → Nat → Int32} {F : Nat} {za2 : Int32} {R0 : Int32} (hfl : l.stackTraces = false) (hX : rok X RR N) (hinv : m_X1_strength F RR (X 8) za2 = some R0) : sRi l D cy yX1_strength cX1_strength 4 (some .int) 4 [.ref (g 6), .ref (g 3), .int za2] g N X R0 := by
  refine jRi (own := RX1) (by decide) rfl hfl (Nat.le_of_ble_eq_true rfl) rfl ?_
  intro p e R s m args below meth c ls A Q hRe C hw hl hret
  subst hRe
  have hx := C.1
  have hb := C.2.1
  have hN := hX.1
  have hl : lv_has ls 4 [(0, .ref (g 6)), (1, .ref (g 3)), (2, .int za2)] := hl
  rw [m_X1_strength] at hinv
  refine lv_aload_n hx hb dX1_strength_0 rfl (lv_at hl 0 rfl) ?_
  refine lv_iload_n hx hb dX1_strength_1 rfl (lv_at hl 2 rfl) ?_
  obtain ⟨zu1, hzu1, hinv⟩ := ob hinv
  refine s_vRi (r0 := zu1) C hw (As := [.int za2]) bX0_makerAt k105 (k := 6) (q47 hN rfl) (sh_6 g cy _) rfl (c_X0_makerAt (X := X) hfl hN hzu1) rfl rfl dX1_strength_2 ⟨rfl, rfl⟩ (by decide) hl.1 (Nat.le_of_ble_eq_true rfl) ⟨Nat.le_of_ble_eq_true rfl, Nat.le_of_ble_eq_true rfl⟩ ?_
  refine lv_istore_n (lv' := [(3, .int zu1), (0, .ref (g 6)), (1, .ref (g 3)), (2, .int za2)]) hx hb dX1_strength_5 rfl hl (by decide) rfl (fun ls hl => ?_)
  refine lv_iload_n hx hb dX1_strength_6 rfl (lv_at hl 0 rfl) ?_
  refine lv_iconst (v := (-1)) hx hb dX1_strength_7 (by decide) ?_
  refine lv_icmp_ne (tgt := 16) hx hb dX1_strength_8 (by decide) (fun c_8 => ?_) (fun c_8 => ?_)
  · have hinv := oi_f c_8 hinv
    refine lv_aload_n hx hb dX1_strength_16 rfl (lv_at hl 2 rfl) ?_
    refine lv_iload_n hx hb dX1_strength_17 rfl (lv_at hl 0 rfl) ?_
    refine s_vRr C hw (r0 := (aid (RR 4 2) zu1)) (As := [.int zu1]) bX5_at k108 (k := 3) (q47 hN rfl) (sh_3 g cy _) rfl (c_X5_at (X := X) hfl hX) rfl rfl dX1_strength_18 ⟨rfl, rfl⟩ (by decide) hl.1 (Nat.le_of_ble_eq_true rfl) (by decide) ?_
    refine s_getRN C hw (RR := RR) (j := 4) (hX.2.2.2.2.1 _) (by decide) k842 dX1_strength_21 ?_
    exact hret 24 ls (RR (aid (RR 4 2) zu1) 4) (Option.some.inj hinv) dX1_strength_24
  · have hinv := oi_t c_8 hinv
    refine lv_bipush (v := 10) hx hb dX1_strength_11 (by decide) ?_
    refine lv_goto (tgt := 24) hx hb dX1_strength_13 (by decide) ?_
    exact hret 24 ls 10 (Option.some.inj hinv) dX1_strength_24
def m_X1_attackersOfRule_L5 (F : Nat) (RR : Nat → Nat → Int32) (t2 : Nat) (r6 : Nat → Int32) (r7 : Nat → Int32) (r8 : Nat → Int32) : Nat → Int32 → Int32 → Option (Int32)
  | 0, _, _ => none
  | n + 1, x4_5, x3_5 => if (r6 5) ≤ x4_5 then (some x3_5) else (Option.bind (m_X0_conclusionAt F r7 x4_5) (fun zu1 => Option.bind (if zu1 = (-(RR t2 0)) then (Option.bind (m_X1_strength F RR r8 x4_5) (fun zu3 => if zu3 < (RR t2 4) then (some (0 : Int32)) else (some (1 : Int32)))) else (some (0 : Int32))) (fun zu2 => if zu2 = 0 then (if zu1 = (RR t2 5) then (m_X1_attackersOfRule_L5 F RR t2 r6 r7 r8 n (x4_5 + 1) (x3_5 ||| ((1 : Int32) <<< (x4_5 &&& 31)))) else (m_X1_attackersOfRule_L5 F RR t2 r6 r7 r8 n (x4_5 + 1) x3_5)) else (m_X1_attackersOfRule_L5 F RR t2 r6 r7 r8 n (x4_5 + 1) (x3_5 ||| ((1 : Int32) <<< (x4_5 &&& 31)))))))
def m_X1_attackersOfRule (F : Nat) (RR : Nat → Nat → Int32) (t2 : Nat) (r6 : Nat → Int32) (r7 : Nat → Int32) (r8 : Nat → Int32) : Option (Int32) := m_X1_attackersOfRule_L5 F RR t2 r6 r7 r8 F 0 0
set_option maxHeartbeats 4000000 in
set_option maxRecDepth 100000 in
theorem c_X1_attackersOfRule {l : Launch} {D : va_G} {cy : Nat → Nat} {g : Nat → Nat} {N : Nat} {X : Nat → Nat → Int32} {RR : Nat → Nat → Int32} {F : Nat} {t2 : Nat} {R0 : Int32} (hfl : l.stackTraces = false) (hX : rok X RR N) (ht2 : rkt X RR N t2) (hinv : m_X1_attackersOfRule F RR t2 (X 6) (X 7) (X 8) = some R0) : sRi l D cy yX1_attackersOfRule cX1_attackersOfRule 7 (some .int) 5 [.ref (g 6), .ref (g 3), .ref (g t2)] g N X R0 := by
  refine jRi (own := RX1) (by decide) rfl hfl (Nat.le_of_ble_eq_true rfl) rfl ?_
  intro p e R s m args below meth c ls A Q hRe C hw hl hret
  subst hRe
  have hx := C.1
  have hb := C.2.1
  have hN := hX.1
  have hl : lv_has ls 7 [(0, .ref (g 6)), (1, .ref (g 3)), (2, .ref (g t2))] := hl
  rw [m_X1_attackersOfRule] at hinv
  refine lv_iconst (v := 0) hx hb dX1_attackersOfRule_0 (by decide) ?_
  refine lv_istore_n (lv' := [(3, .int 0), (0, .ref (g 6)), (1, .ref (g 3)), (2, .ref (g t2))]) hx hb dX1_attackersOfRule_1 rfl hl (by decide) rfl (fun ls hl => ?_)
  refine lv_iconst (v := 0) hx hb dX1_attackersOfRule_2 (by decide) ?_
  refine lv_istore (lv' := [(4, .int 0), (3, .int 0), (0, .ref (g 6)), (1, .ref (g 3)), (2, .ref (g t2))]) hx hb dX1_attackersOfRule_3 hl (by decide) rfl (fun ls hl => ?_)
  have hl5 : ∀ (n : Nat) (x4_5 : Int32) (x3_5 : Int32), m_X1_attackersOfRule_L5 F RR t2 (X 6) (X 7) (X 8) n x4_5 x3_5 = some R0 → ∀ (ls : Array Slot), lv_has ls 7 [(4, .int x4_5), (3, .int x3_5), (0, .ref (g 6)), (1, .ref (g 3)), (2, .ref (g t2))] → W p l e (wR 5 0 0) s m args below meth c s.heap [] 0 0 Q (F0 m 5 ls []) := by
    intro n
    induction n with
    | zero =>
      intro x4_5 x3_5 hinv
      cases hinv
    | succ n ih =>
      intro x4_5 x3_5 hinv ls hl
      rw [m_X1_attackersOfRule_L5] at hinv
      refine lv_iload hx hb dX1_attackersOfRule_5 (lv_at hl 0 rfl) ?_
      refine lv_aload_n hx hb dX1_attackersOfRule_7 rfl (lv_at hl 2 rfl) ?_
      refine w_getN C hw (k := 6) (v := .int ((X 6) 5)) (j := 5) (q47 hN rfl) (sh_6 g cy _) rfl (by decide) k849 rfl dX1_attackersOfRule_8 ?_
      refine lv_icmp_ge (tgt := 80) hx hb dX1_attackersOfRule_11 (by decide) (fun c_11 => ?_) (fun c_11 => ?_)
      · have hinv := oi_t c_11 hinv
        refine lv_iload_n hx hb dX1_attackersOfRule_80 rfl (lv_at hl 1 rfl) ?_
        exact hret 81 ls x3_5 (Option.some.inj hinv) dX1_attackersOfRule_81
      · have hinv := oi_f c_11 hinv
        refine lv_aload_n hx hb dX1_attackersOfRule_14 rfl (lv_at hl 2 rfl) ?_
        refine lv_iload hx hb dX1_attackersOfRule_15 (lv_at hl 0 rfl) ?_
        obtain ⟨zu1, hzu1, hinv⟩ := ob hinv
        refine s_vRi (r0 := zu1) C hw (As := [.int x4_5]) bX0_conclusionAt k110 (k := 6) (q47 hN rfl) (sh_6 g cy _) rfl (c_X0_conclusionAt (X := X) hfl hN hzu1) rfl rfl dX1_attackersOfRule_17 ⟨rfl, rfl⟩ (by decide) hl.1 (Nat.le_of_ble_eq_true rfl) ⟨Nat.le_of_ble_eq_true rfl, Nat.le_of_ble_eq_true rfl⟩ ?_
        refine lv_istore (lv' := [(5, .int zu1), (4, .int x4_5), (3, .int x3_5), (0, .ref (g 6)), (1, .ref (g 3)), (2, .ref (g t2))]) hx hb dX1_attackersOfRule_20 hl (by decide) rfl (fun ls hl => ?_)
        obtain ⟨zu2, hzu2, hinv⟩ := ob hinv
        have hx22 : ∀ (ls : Array Slot), lv_has ls 7 [(5, .int zu1), (4, .int x4_5), (3, .int x3_5), (0, .ref (g 6)), (1, .ref (g 3)), (2, .ref (g t2))] → W p l e (wR 5 0 0) s m args below meth c s.heap [] 0 0 Q (F0 m 51 ls [.int zu2]) := by
          intro ls hl
          refine lv_istore (lv' := [(6, .int zu2), (5, .int zu1), (4, .int x4_5), (3, .int x3_5), (0, .ref (g 6)), (1, .ref (g 3)), (2, .ref (g t2))]) hx hb dX1_attackersOfRule_51 hl (by decide) rfl (fun ls hl => ?_)
          refine lv_iload hx hb dX1_attackersOfRule_53 (lv_at hl 0 rfl) ?_
          refine lv_if_ne (tgt := 67) hx hb dX1_attackersOfRule_55 (by decide) (fun c_55 => ?_) (fun c_55 => ?_)
          · have hinv := oi_f c_55 hinv
            refine lv_iload_n hx hb dX1_attackersOfRule_67 rfl (lv_at hl 3 rfl) ?_
            refine lv_iconst (v := 1) hx hb dX1_attackersOfRule_68 (by decide) ?_
            refine lv_iload hx hb dX1_attackersOfRule_69 (lv_at hl 2 rfl) ?_
            refine lv_ishl hx hb dX1_attackersOfRule_71 ?_
            refine lv_ior hx hb dX1_attackersOfRule_72 ?_
            refine lv_istore_n (lv' := [(3, .int (x3_5 ||| ((1 : Int32) <<< (x4_5 &&& 31)))), (6, .int zu2), (5, .int zu1), (4, .int x4_5), (0, .ref (g 6)), (1, .ref (g 3)), (2, .ref (g t2))]) hx hb dX1_attackersOfRule_73 rfl hl (by decide) rfl (fun ls hl => ?_)
            refine lv_iinc (v := (x4_5 + 1)) (lv' := [(4, .int (x4_5 + 1)), (3, .int (x3_5 ||| ((1 : Int32) <<< (x4_5 &&& 31)))), (6, .int zu2), (5, .int zu1), (0, .ref (g 6)), (1, .ref (g 3)), (2, .ref (g t2))]) hx hb dX1_attackersOfRule_74 hl (k := 3) rfl (by rfl) (by decide) rfl (fun ls hl => ?_)
            refine lv_goto (tgt := 5) hx hb dX1_attackersOfRule_77 (by decide) ?_
            exact ih (x4_5 + 1) (x3_5 ||| ((1 : Int32) <<< (x4_5 &&& 31))) hinv ls (lv_sub hl [0, 1, 4, 5, 6] rfl)
          · have hinv := oi_t c_55 hinv
            refine lv_iload hx hb dX1_attackersOfRule_58 (lv_at hl 1 rfl) ?_
            refine lv_aload_n hx hb dX1_attackersOfRule_60 rfl (lv_at hl 6 rfl) ?_
            refine s_getRN C hw (RR := RR) (j := 5) ht2 (by decide) k843 dX1_attackersOfRule_61 ?_
            refine lv_icmp_ne (tgt := 74) hx hb dX1_attackersOfRule_64 (by decide) (fun c_64 => ?_) (fun c_64 => ?_)
            · have hinv := oi_f c_64 hinv
              refine lv_iinc (v := (x4_5 + 1)) (lv' := [(4, .int (x4_5 + 1)), (6, .int zu2), (5, .int zu1), (3, .int x3_5), (0, .ref (g 6)), (1, .ref (g 3)), (2, .ref (g t2))]) hx hb dX1_attackersOfRule_74 hl (k := 2) rfl (by rfl) (by decide) rfl (fun ls hl => ?_)
              refine lv_goto (tgt := 5) hx hb dX1_attackersOfRule_77 (by decide) ?_
              exact ih (x4_5 + 1) x3_5 hinv ls (lv_sub hl [0, 3, 4, 5, 6] rfl)
            · have hinv := oi_t c_64 hinv
              refine lv_iload_n hx hb dX1_attackersOfRule_67 rfl (lv_at hl 3 rfl) ?_
              refine lv_iconst (v := 1) hx hb dX1_attackersOfRule_68 (by decide) ?_
              refine lv_iload hx hb dX1_attackersOfRule_69 (lv_at hl 2 rfl) ?_
              refine lv_ishl hx hb dX1_attackersOfRule_71 ?_
              refine lv_ior hx hb dX1_attackersOfRule_72 ?_
              refine lv_istore_n (lv' := [(3, .int (x3_5 ||| ((1 : Int32) <<< (x4_5 &&& 31)))), (6, .int zu2), (5, .int zu1), (4, .int x4_5), (0, .ref (g 6)), (1, .ref (g 3)), (2, .ref (g t2))]) hx hb dX1_attackersOfRule_73 rfl hl (by decide) rfl (fun ls hl => ?_)
              refine lv_iinc (v := (x4_5 + 1)) (lv' := [(4, .int (x4_5 + 1)), (3, .int (x3_5 ||| ((1 : Int32) <<< (x4_5 &&& 31)))), (6, .int zu2), (5, .int zu1), (0, .ref (g 6)), (1, .ref (g 3)), (2, .ref (g t2))]) hx hb dX1_attackersOfRule_74 hl (k := 3) rfl (by rfl) (by decide) rfl (fun ls hl => ?_)
              refine lv_goto (tgt := 5) hx hb dX1_attackersOfRule_77 (by decide) ?_
              exact ih (x4_5 + 1) (x3_5 ||| ((1 : Int32) <<< (x4_5 &&& 31))) hinv ls (lv_sub hl [0, 1, 4, 5, 6] rfl)
        have hinv := hzu2
        refine lv_iload hx hb dX1_attackersOfRule_22 (lv_at hl 0 rfl) ?_
        refine lv_aload_n hx hb dX1_attackersOfRule_24 rfl (lv_at hl 5 rfl) ?_
        refine s_getRN C hw (RR := RR) (j := 0) ht2 (by decide) k836 dX1_attackersOfRule_25 ?_
        refine lv_ineg hx hb dX1_attackersOfRule_28 ?_
        refine lv_icmp_ne (tgt := 50) hx hb dX1_attackersOfRule_29 (by decide) (fun c_29 => ?_) (fun c_29 => ?_)
        · have hinv := oi_f c_29 hinv
          refine lv_iconst (v := 0) hx hb dX1_attackersOfRule_50 (by decide) ?_
          have hR9 := Option.some.inj hinv
          subst hR9
          exact hx22 ls (lv_sub hl [0, 1, 2, 3, 4, 5] rfl)
        · have hinv := oi_t c_29 hinv
          refine lv_aload_n hx hb dX1_attackersOfRule_32 rfl (lv_at hl 3 rfl) ?_
          refine lv_aload_n hx hb dX1_attackersOfRule_33 rfl (lv_at hl 4 rfl) ?_
          refine lv_iload hx hb dX1_attackersOfRule_34 (lv_at hl 1 rfl) ?_
          obtain ⟨zu3, hzu3, hinv⟩ := ob hinv
          refine s_sRi (r0 := zu3) C hw (As := [.ref (g 6), .ref (g 3), .int x4_5]) bX1_strength k111 (c_X1_strength (X := X) hfl hX hzu3) rfl rfl dX1_attackersOfRule_36 ⟨rfl, rfl⟩ (by decide) hl.1 (Nat.le_of_ble_eq_true rfl) ⟨Nat.le_of_ble_eq_true rfl, Nat.le_of_ble_eq_true rfl⟩ ?_
          refine lv_aload_n hx hb dX1_attackersOfRule_39 rfl (lv_at hl 5 rfl) ?_
          refine s_getRN C hw (RR := RR) (j := 4) ht2 (by decide) k842 dX1_attackersOfRule_40 ?_
          refine lv_icmp_lt (tgt := 50) hx hb dX1_attackersOfRule_43 (by decide) (fun c_43 => ?_) (fun c_43 => ?_)
          · have hinv := oi_t c_43 hinv
            refine lv_iconst (v := 0) hx hb dX1_attackersOfRule_50 (by decide) ?_
            have hR9 := Option.some.inj hinv
            subst hR9
            exact hx22 ls (lv_sub hl [0, 1, 2, 3, 4, 5] rfl)
          · have hinv := oi_f c_43 hinv
            refine lv_iconst (v := 1) hx hb dX1_attackersOfRule_46 (by decide) ?_
            refine lv_goto (tgt := 51) hx hb dX1_attackersOfRule_47 (by decide) ?_
            have hR9 := Option.some.inj hinv
            subst hR9
            exact hx22 ls (lv_sub hl [0, 1, 2, 3, 4, 5] rfl)
  exact hl5 F 0 0 hinv ls (lv_sub hl [0, 1, 2, 3, 4] rfl)
def m_X1_build_L47 (F : Nat) (r10 : Nat → Int32) (y3_47 : Int32) : Nat → Int32 → Int32 → (Nat → Int32) → Option (Int32 × Int32 × (Nat → Int32))
  | 0, _, _, _ => none
  | n + 1, x5_47, x4_47, q13_47 => if 3 ≤ x5_47 then (some (x5_47, x4_47, q13_47)) else (Option.bind (m_X0_partAt F r10 y3_47 x5_47) (fun zu3 => Option.bind (m_X1_attackersOf F q13_47 zu3) (fun zu4 => m_X1_build_L47 F r10 y3_47 n (x5_47 + 1) (x4_47 ||| zu4) q13_47)))
def m_X1_build_L2 (F : Nat) (RR : Nat → Nat → Int32) (r6 : Nat → Int32) (r7 : Nat → Int32) (r8 : Nat → Int32) (r10 : Nat → Int32) : Nat → Int32 → (Nat → Int32) → Option ((Nat → Int32))
  | 0, _, _ => none
  | n + 1, x3_2, q13_2 => if (r6 5) ≤ x3_2 then (some q13_2) else (if 24 ≤ x3_2 then (some q13_2) else (Option.bind (Option.bind (m_X0_makerAt F r8 x3_2) (fun zu5 => if zu5 = (-1) then (some (0 : Int32)) else (Option.bind (m_X0_makerAt F r8 x3_2) (fun zu6 => Option.bind (m_X1_attackersOfRule F RR (aid (RR 4 2) zu6) r6 r7 r8) (fun zu7 => some zu7))))) (fun zu1 => Option.bind (m_X1_build_L47 F r10 x3_2 F 0 zu1 q13_2) (fun zu2 => if ¬ (x3_2 < 0 ∨ 24 ≤ x3_2.toNatClampNeg) then (m_X1_build_L2 F RR r6 r7 r8 r10 n (x3_2 + 1) (upd zu2.2.2 x3_2.toNatClampNeg zu2.2.1)) else none))))
def m_X1_build (F : Nat) (RR : Nat → Nat → Int32) (r6 : Nat → Int32) (r7 : Nat → Int32) (r8 : Nat → Int32) (r10 : Nat → Int32) (r13 : Nat → Int32) : Option ((Nat → Int32)) := m_X1_build_L2 F RR r6 r7 r8 r10 F 0 r13
set_option maxHeartbeats 4000000 in
set_option maxRecDepth 100000 in
theorem c_X1_build {l : Launch} {D : va_G} {cy : Nat → Nat} {g : Nat → Nat} {N : Nat} {X : Nat → Nat → Int32} {RR : Nat → Nat → Int32} {F : Nat} {R0 : (Nat → Int32)} (hfl : l.stackTraces = false) (hX : rok X RR N) (hinv : m_X1_build F RR (X 6) (X 7) (X 8) (X 10) (X 13) = some R0) : sWv l D cy yX1_build cX1_build 6 none 6 0 0 [.ref (g 12), .ref (g 6), .ref (g 3)] g N X (up X 13 R0) := by
  refine jWv (own := RX1) (by decide) rfl hfl (Nat.le_of_ble_eq_true rfl) rfl ?_
  intro p e R s m args below meth c ls A Q hRe C hw hl hret
  subst hRe
  have hx := C.1
  have hb := C.2.1
  have hN := hX.1
  have hl : lv_has ls 6 [(0, .ref (g 12)), (1, .ref (g 6)), (2, .ref (g 3))] := hl
  rw [m_X1_build] at hinv
  refine lv_iconst (v := 0) hx hb dX1_build_0 (by decide) ?_
  refine lv_istore_n (lv' := [(3, .int 0), (0, .ref (g 12)), (1, .ref (g 6)), (2, .ref (g 3))]) hx hb dX1_build_1 rfl hl (by decide) rfl (fun ls hl => ?_)
  have hXe : X = (up X 13 (X 13)) := by
    funext j
    by_cases h13 : j = 13
    · subst h13; simp [up]
    simp [up, h13]
  rw [hXe] at hw
  have hl2 : ∀ (n : Nat) (x3_2 : Int32) (q13_2 : Nat → Int32), m_X1_build_L2 F RR (X 6) (X 7) (X 8) (X 10) n x3_2 q13_2 = some R0 → ∀ (H : Heap) (locs : List Loc) (ls : Array Slot), Wd D A s.heap g N (shp g cy (up X 13 q13_2)) H locs → lv_has ls 6 [(3, .int x3_2), (0, .ref (g 12)), (1, .ref (g 6)), (2, .ref (g 3))] → W p l e (wR 6 0 0) s m args below meth c H locs 0 0 Q (F0 m 2 ls []) := by
    intro n
    induction n with
    | zero =>
      intro x3_2 q13_2 hinv
      cases hinv
    | succ n ih =>
      intro x3_2 q13_2 hinv H locs ls hw hl
      rw [m_X1_build_L2] at hinv
      refine lv_iload_n hx hb dX1_build_2 rfl (lv_at hl 0 rfl) ?_
      refine lv_aload_n hx hb dX1_build_3 rfl (lv_at hl 2 rfl) ?_
      refine w_getN C hw (k := 6) (v := .int ((X 6) 5)) (j := 5) (q47 hN rfl) (sh_6 g cy _) rfl (by decide) k849 rfl dX1_build_4 ?_
      refine lv_icmp_ge (tgt := 89) hx hb dX1_build_7 (by decide) (fun c_7 => ?_) (fun c_7 => ?_)
      · have hinv := oi_t c_7 hinv
        rw [Option.some.inj hinv] at hw
        exact hret 89 ls _ _ _ _ hw (by decide) (by decide) dX1_build_89
      · have hinv := oi_f c_7 hinv
        refine lv_iload_n hx hb dX1_build_10 rfl (lv_at hl 0 rfl) ?_
        refine lv_bipush (v := 24) hx hb dX1_build_11 (by decide) ?_
        refine lv_icmp_ge (tgt := 89) hx hb dX1_build_13 (by decide) (fun c_13 => ?_) (fun c_13 => ?_)
        · have hinv := oi_t c_13 hinv
          rw [Option.some.inj hinv] at hw
          exact hret 89 ls _ _ _ _ hw (by decide) (by decide) dX1_build_89
        · have hinv := oi_f c_13 hinv
          obtain ⟨zu1, hzu1, hinv⟩ := ob hinv
          have hx16 : ∀ (H : Heap) (locs : List Loc) (ls : Array Slot), Wd D A s.heap g N (shp g cy (up X 13 q13_2)) H locs → lv_has ls 6 [(4, .int zu1), (3, .int x3_2), (0, .ref (g 12)), (1, .ref (g 6)), (2, .ref (g 3))] → W p l e (wR 6 0 0) s m args below meth c H locs 0 0 Q (F0 m 44 ls []) := by
            intro H locs ls hw hl
            refine lv_iconst (v := 0) hx hb dX1_build_44 (by decide) ?_
            refine lv_istore (lv' := [(5, .int 0), (4, .int zu1), (3, .int x3_2), (0, .ref (g 12)), (1, .ref (g 6)), (2, .ref (g 3))]) hx hb dX1_build_45 hl (by decide) rfl (fun ls hl => ?_)
            obtain ⟨zu2, hzu2, hinv⟩ := ob hinv
            have hx47 : ∀ (H : Heap) (locs : List Loc) (ls : Array Slot), Wd D A s.heap g N (shp g cy (up X 13 zu2.2.2)) H locs → lv_has ls 6 [(5, .int zu2.1), (4, .int zu2.2.1), (3, .int x3_2), (0, .ref (g 12)), (1, .ref (g 6)), (2, .ref (g 3))] → W p l e (wR 6 0 0) s m args below meth c H locs 0 0 Q (F0 m 75 ls []) := by
              intro H locs ls hw hl
              refine lv_aload_n hx hb dX1_build_75 rfl (lv_at hl 3 rfl) ?_
              refine w_get C hw (k := 12) (v := .ref (g 13)) (j := 0) (q47 hN rfl) (sh_12 g cy _) rfl (by decide) k98 rfl dX1_build_76 ?_
              refine lv_iload_n hx hb dX1_build_79 rfl (lv_at hl 2 rfl) ?_
              refine lv_iload hx hb dX1_build_80 (lv_at hl 1 rfl) ?_
              obtain ⟨hb_82, hinv⟩ := oi_c hinv
              refine s_iast C hw (k := 13) (a := zu2.2.2) (q47 hN rfl) (fun r => sh_13 g cy r) rfl hb_82 dX1_build_82 (fun H locs zw82 hw82 hw => ?_)
              try rw [← hw82] at hinv
              rw [up_up] at hw
              refine lv_iinc (v := (x3_2 + 1)) (lv' := [(3, .int (x3_2 + 1)), (5, .int zu2.1), (4, .int zu2.2.1), (0, .ref (g 12)), (1, .ref (g 6)), (2, .ref (g 3))]) hx hb dX1_build_83 hl (k := 2) rfl (by rfl) (by decide) rfl (fun ls hl => ?_)
              refine lv_goto (tgt := 2) hx hb dX1_build_86 (by decide) ?_
              exact ih (x3_2 + 1) zw82 hinv _ _ ls hw (lv_sub hl [0, 3, 4, 5] rfl)
            have hl47 : ∀ (n : Nat) (x5_47 : Int32) (x4_47 : Int32) (q13_47 : Nat → Int32), m_X1_build_L47 F (X 10) x3_2 n x5_47 x4_47 q13_47 = some zu2 → ∀ (H : Heap) (locs : List Loc) (ls : Array Slot), Wd D A s.heap g N (shp g cy (up X 13 q13_47)) H locs → lv_has ls 6 [(5, .int x5_47), (4, .int x4_47), (3, .int x3_2), (0, .ref (g 12)), (1, .ref (g 6)), (2, .ref (g 3))] → W p l e (wR 6 0 0) s m args below meth c H locs 0 0 Q (F0 m 47 ls []) := by
              intro n
              induction n with
              | zero =>
                intro x5_47 x4_47 q13_47 hinv
                cases hinv
              | succ n ih =>
                intro x5_47 x4_47 q13_47 hinv H locs ls hw hl
                rw [m_X1_build_L47] at hinv
                refine lv_iload hx hb dX1_build_47 (lv_at hl 0 rfl) ?_
                refine lv_iconst (v := 3) hx hb dX1_build_49 (by decide) ?_
                refine lv_icmp_ge (tgt := 75) hx hb dX1_build_50 (by decide) (fun c_50 => ?_) (fun c_50 => ?_)
                · have hinv := oi_t c_50 hinv
                  have hR9 := Option.some.inj hinv
                  subst hR9
                  exact hx47 _ _ ls hw (lv_sub hl [0, 1, 2, 3, 4, 5] rfl)
                · have hinv := oi_f c_50 hinv
                  refine lv_iload hx hb dX1_build_53 (lv_at hl 1 rfl) ?_
                  refine lv_aload_n hx hb dX1_build_55 rfl (lv_at hl 3 rfl) ?_
                  refine lv_aload_n hx hb dX1_build_56 rfl (lv_at hl 4 rfl) ?_
                  refine lv_iload_n hx hb dX1_build_57 rfl (lv_at hl 2 rfl) ?_
                  refine lv_iload hx hb dX1_build_58 (lv_at hl 0 rfl) ?_
                  obtain ⟨zu3, hzu3, hinv⟩ := ob hinv
                  refine s_vRi (r0 := zu3) C hw (As := [.int x3_2, .int x5_47]) bX0_partAt k116 (k := 6) (q47 hN rfl) (sh_6 g cy _) rfl (c_X0_partAt (X := (up X 13 q13_47)) hfl hN hzu3) rfl rfl dX1_build_60 ⟨rfl, rfl⟩ (by decide) hl.1 (Nat.le_of_ble_eq_true rfl) ⟨Nat.le_of_ble_eq_true rfl, Nat.le_of_ble_eq_true rfl⟩ ?_
                  obtain ⟨zu4, hzu4, hinv⟩ := ob hinv
                  refine s_vRi (r0 := zu4) C hw (As := [.int zu3]) bX1_attackersOf k101 (k := 12) (q47 hN rfl) (sh_12 g cy _) rfl (c_X1_attackersOf (X := (up X 13 q13_47)) hfl hN hzu4) rfl rfl dX1_build_63 ⟨rfl, rfl⟩ (by decide) hl.1 (Nat.le_of_ble_eq_true rfl) ⟨Nat.le_of_ble_eq_true rfl, Nat.le_of_ble_eq_true rfl⟩ ?_
                  refine lv_ior hx hb dX1_build_66 ?_
                  refine lv_istore (lv' := [(4, .int (x4_47 ||| zu4)), (5, .int x5_47), (3, .int x3_2), (0, .ref (g 12)), (1, .ref (g 6)), (2, .ref (g 3))]) hx hb dX1_build_67 hl (by decide) rfl (fun ls hl => ?_)
                  refine lv_iinc (v := (x5_47 + 1)) (lv' := [(5, .int (x5_47 + 1)), (4, .int (x4_47 ||| zu4)), (3, .int x3_2), (0, .ref (g 12)), (1, .ref (g 6)), (2, .ref (g 3))]) hx hb dX1_build_69 hl (k := 1) rfl (by rfl) (by decide) rfl (fun ls hl => ?_)
                  refine lv_goto (tgt := 47) hx hb dX1_build_72 (by decide) ?_
                  exact ih (x5_47 + 1) (x4_47 ||| zu4) q13_47 hinv _ _ ls hw (lv_sub hl [0, 1, 2, 3, 4, 5] rfl)
            exact hl47 F 0 zu1 q13_2 hzu2 _ _ ls hw (lv_sub hl [0, 1, 2, 3, 4, 5] rfl)
          have hinv := hzu1
          refine lv_iconst (v := 0) hx hb dX1_build_16 (by decide) ?_
          refine lv_istore (lv' := [(4, .int 0), (3, .int x3_2), (0, .ref (g 12)), (1, .ref (g 6)), (2, .ref (g 3))]) hx hb dX1_build_17 hl (by decide) rfl (fun ls hl => ?_)
          refine lv_aload_n hx hb dX1_build_19 rfl (lv_at hl 3 rfl) ?_
          refine lv_iload_n hx hb dX1_build_20 rfl (lv_at hl 1 rfl) ?_
          obtain ⟨zu5, hzu5, hinv⟩ := ob hinv
          refine s_vRi (r0 := zu5) C hw (As := [.int x3_2]) bX0_makerAt k105 (k := 6) (q47 hN rfl) (sh_6 g cy _) rfl (c_X0_makerAt (X := (up X 13 q13_2)) hfl hN hzu5) rfl rfl dX1_build_21 ⟨rfl, rfl⟩ (by decide) hl.1 (Nat.le_of_ble_eq_true rfl) ⟨Nat.le_of_ble_eq_true rfl, Nat.le_of_ble_eq_true rfl⟩ ?_
          refine lv_iconst (v := (-1)) hx hb dX1_build_24 (by decide) ?_
          refine lv_icmp_eq (tgt := 44) hx hb dX1_build_25 (by decide) (fun c_25 => ?_) (fun c_25 => ?_)
          · have hinv := oi_t c_25 hinv
            have hR9 := Option.some.inj hinv
            subst hR9
            exact hx16 _ _ ls hw (lv_sub hl [0, 1, 2, 3, 4] rfl)
          · have hinv := oi_f c_25 hinv
            refine lv_aload_n hx hb dX1_build_28 rfl (lv_at hl 3 rfl) ?_
            refine lv_aload_n hx hb dX1_build_29 rfl (lv_at hl 4 rfl) ?_
            refine lv_aload_n hx hb dX1_build_30 rfl (lv_at hl 4 rfl) ?_
            refine lv_aload_n hx hb dX1_build_31 rfl (lv_at hl 3 rfl) ?_
            refine lv_iload_n hx hb dX1_build_32 rfl (lv_at hl 1 rfl) ?_
            obtain ⟨zu6, hzu6, hinv⟩ := ob hinv
            refine s_vRi (r0 := zu6) C hw (As := [.int x3_2]) bX0_makerAt k105 (k := 6) (q47 hN rfl) (sh_6 g cy _) rfl (c_X0_makerAt (X := (up X 13 q13_2)) hfl hN hzu6) rfl rfl dX1_build_33 ⟨rfl, rfl⟩ (by decide) hl.1 (Nat.le_of_ble_eq_true rfl) ⟨Nat.le_of_ble_eq_true rfl, Nat.le_of_ble_eq_true rfl⟩ ?_
            refine s_vRr C hw (r0 := (aid (RR 4 2) zu6)) (As := [.int zu6]) bX5_at k108 (k := 3) (q47 hN rfl) (sh_3 g cy _) rfl (c_X5_at (X := (up X 13 q13_2)) hfl (rok_up hX (by decide))) rfl rfl dX1_build_36 ⟨rfl, rfl⟩ (by decide) hl.1 (Nat.le_of_ble_eq_true rfl) (by decide) ?_
            obtain ⟨zu7, hzu7, hinv⟩ := ob hinv
            refine s_sRi (r0 := zu7) C hw (As := [.ref (g 6), .ref (g 3), .ref (g (aid (RR 4 2) zu6))]) bX1_attackersOfRule k114 (c_X1_attackersOfRule (X := (up X 13 q13_2)) hfl (rok_up hX (by decide)) (rkt_up (hX.2.2.2.2.1 _) (by decide)) hzu7) rfl rfl dX1_build_39 ⟨rfl, rfl⟩ (by decide) hl.1 (Nat.le_of_ble_eq_true rfl) ⟨Nat.le_of_ble_eq_true rfl, Nat.le_of_ble_eq_true rfl⟩ ?_
            refine lv_istore (lv' := [(4, .int zu7), (3, .int x3_2), (0, .ref (g 12)), (1, .ref (g 6)), (2, .ref (g 3))]) hx hb dX1_build_42 hl (by decide) rfl (fun ls hl => ?_)
            have hR9 := Option.some.inj hinv
            subst hR9
            exact hx16 _ _ ls hw (lv_sub hl [0, 1, 2, 3, 4] rfl)
  exact hl2 F 0 (X 13) hinv _ _ ls hw (lv_sub hl [0, 1, 2, 3] rfl)
def m_X3_labelAt (F : Nat) (r14 : Nat → Int32) (za1 : Int32) : Option (Int32) := if (((r14 1) >>> (za1 &&& 31)) &&& 1) = 0 then (if (((r14 2) >>> (za1 &&& 31)) &&& 1) = 0 then (some (1 : Int32)) else (some (0 : Int32))) else (some (2 : Int32))
set_option maxHeartbeats 4000000 in
set_option maxRecDepth 100000 in
theorem c_X3_labelAt {l : Launch} {D : va_G} {cy : Nat → Nat} {g : Nat → Nat} {N : Nat} {X : Nat → Nat → Int32} {F : Nat} {za1 : Int32} {R0 : Int32} (hfl : l.stackTraces = false) (hN : 47 ≤ N) (hinv : m_X3_labelAt F (X 14) za1 = some R0) : sRi l D cy yX3_labelAt cX3_labelAt 2 (some .int) 0 [.ref (g 14), .int za1] g N X R0 := by
  refine jRi (own := RX3) (by decide) rfl hfl (Nat.le_of_ble_eq_true rfl) rfl ?_
  intro p e R s m args below meth c ls A Q hRe C hw hl hret
  subst hRe
  have hx := C.1
  have hb := C.2.1
  have hl : lv_has ls 2 [(0, .ref (g 14)), (1, .int za1)] := hl
  rw [m_X3_labelAt] at hinv
  refine lv_aload_n hx hb dX3_labelAt_0 rfl (lv_at hl 0 rfl) ?_
  refine w_get C hw (k := 14) (v := .int ((X 14) 1)) (j := 1) (q47 hN rfl) (sh_14 g cy _) rfl (by decide) k130 rfl dX3_labelAt_1 ?_
  refine lv_iload_n hx hb dX3_labelAt_4 rfl (lv_at hl 1 rfl) ?_
  refine lv_ishr hx hb dX3_labelAt_5 ?_
  refine lv_iconst (v := 1) hx hb dX3_labelAt_6 (by decide) ?_
  refine lv_iand hx hb dX3_labelAt_7 ?_
  refine lv_if_eq (tgt := 13) hx hb dX3_labelAt_8 (by decide) (fun c_8 => ?_) (fun c_8 => ?_)
  · have hinv := oi_t c_8 hinv
    refine lv_aload_n hx hb dX3_labelAt_13 rfl (lv_at hl 0 rfl) ?_
    refine w_get C hw (k := 14) (v := .int ((X 14) 2)) (j := 2) (q47 hN rfl) (sh_14 g cy _) rfl (by decide) k131 rfl dX3_labelAt_14 ?_
    refine lv_iload_n hx hb dX3_labelAt_17 rfl (lv_at hl 1 rfl) ?_
    refine lv_ishr hx hb dX3_labelAt_18 ?_
    refine lv_iconst (v := 1) hx hb dX3_labelAt_19 (by decide) ?_
    refine lv_iand hx hb dX3_labelAt_20 ?_
    refine lv_if_eq (tgt := 28) hx hb dX3_labelAt_21 (by decide) (fun c_21 => ?_) (fun c_21 => ?_)
    · have hinv := oi_t c_21 hinv
      refine lv_iconst (v := 1) hx hb dX3_labelAt_28 (by decide) ?_
      exact hret 29 ls 1 (Option.some.inj hinv) dX3_labelAt_29
    · have hinv := oi_f c_21 hinv
      refine lv_iconst (v := 0) hx hb dX3_labelAt_24 (by decide) ?_
      refine lv_goto (tgt := 29) hx hb dX3_labelAt_25 (by decide) ?_
      exact hret 29 ls 0 (Option.some.inj hinv) dX3_labelAt_29
  · have hinv := oi_f c_8 hinv
    refine lv_iconst (v := 2) hx hb dX3_labelAt_11 (by decide) ?_
    exact hret 12 ls 2 (Option.some.inj hinv) dX3_labelAt_12
def m_X3_roundAt (F : Nat) (r15 : Nat → Int32) (za1 : Int32) : Option (Int32) := if za1 < 0 then (some (0 : Int32)) else (if 24 ≤ za1 then (some (0 : Int32)) else (if ¬ (za1 < 0 ∨ 24 ≤ za1.toNatClampNeg) then (some (r15 za1.toNatClampNeg)) else none))
set_option maxHeartbeats 4000000 in
set_option maxRecDepth 100000 in
theorem c_X3_roundAt {l : Launch} {D : va_G} {cy : Nat → Nat} {g : Nat → Nat} {N : Nat} {X : Nat → Nat → Int32} {F : Nat} {za1 : Int32} {R0 : Int32} (hfl : l.stackTraces = false) (hN : 47 ≤ N) (hinv : m_X3_roundAt F (X 15) za1 = some R0) : sRi l D cy yX3_roundAt cX3_roundAt 2 (some .int) 0 [.ref (g 14), .int za1] g N X R0 := by
  refine jRi (own := RX3) (by decide) rfl hfl (Nat.le_of_ble_eq_true rfl) rfl ?_
  intro p e R s m args below meth c ls A Q hRe C hw hl hret
  subst hRe
  have hx := C.1
  have hb := C.2.1
  have hl : lv_has ls 2 [(0, .ref (g 14)), (1, .int za1)] := hl
  rw [m_X3_roundAt] at hinv
  refine lv_iload_n hx hb dX3_roundAt_0 rfl (lv_at hl 1 rfl) ?_
  refine lv_if_lt (tgt := 19) hx hb dX3_roundAt_1 (by decide) (fun c_1 => ?_) (fun c_1 => ?_)
  · have hinv := oi_t c_1 hinv
    refine lv_iconst (v := 0) hx hb dX3_roundAt_19 (by decide) ?_
    exact hret 20 ls 0 (Option.some.inj hinv) dX3_roundAt_20
  · have hinv := oi_f c_1 hinv
    refine lv_iload_n hx hb dX3_roundAt_4 rfl (lv_at hl 1 rfl) ?_
    refine lv_bipush (v := 24) hx hb dX3_roundAt_5 (by decide) ?_
    refine lv_icmp_ge (tgt := 19) hx hb dX3_roundAt_7 (by decide) (fun c_7 => ?_) (fun c_7 => ?_)
    · have hinv := oi_t c_7 hinv
      refine lv_iconst (v := 0) hx hb dX3_roundAt_19 (by decide) ?_
      exact hret 20 ls 0 (Option.some.inj hinv) dX3_roundAt_20
    · have hinv := oi_f c_7 hinv
      refine lv_aload_n hx hb dX3_roundAt_10 rfl (lv_at hl 0 rfl) ?_
      refine w_get C hw (k := 14) (v := .ref (g 15)) (j := 0) (q47 hN rfl) (sh_14 g cy _) rfl (by decide) k128 rfl dX3_roundAt_11 ?_
      refine lv_iload_n hx hb dX3_roundAt_14 rfl (lv_at hl 1 rfl) ?_
      obtain ⟨hb_15, hinv⟩ := oi_c hinv
      refine s_iald C hw (k := 15) (a := (X 15)) (q47 hN rfl) (fun r => sh_15 g cy r) rfl hb_15 dX3_roundAt_15 ?_
      refine lv_goto (tgt := 20) hx hb dX3_roundAt_16 (by decide) ?_
      exact hret 20 ls ((X 15) za1.toNatClampNeg) (Option.some.inj hinv) dX3_roundAt_20
def m_X3_unattacked_L5 (F : Nat) (r13 : Nat → Int32) (r14 : Nat → Int32) (y2_5 : Int32) : Nat → Int32 → Int32 → Option (Int32)
  | 0, _, _ => none
  | n + 1, x4_5, x3_5 => if y2_5 ≤ x4_5 then (some x3_5) else (Option.bind (m_X3_labelAt F r14 x4_5) (fun zu1 => if zu1 = 1 then (Option.bind (m_X1_attackersOf F r13 x4_5) (fun zu2 => if (zu2 &&& ((r14 2) ^^^ (-1))) = 0 then (m_X3_unattacked_L5 F r13 r14 y2_5 n (x4_5 + 1) (x3_5 ||| ((1 : Int32) <<< (x4_5 &&& 31)))) else (m_X3_unattacked_L5 F r13 r14 y2_5 n (x4_5 + 1) x3_5))) else (m_X3_unattacked_L5 F r13 r14 y2_5 n (x4_5 + 1) x3_5)))
def m_X3_unattacked (F : Nat) (r13 : Nat → Int32) (r14 : Nat → Int32) (za2 : Int32) : Option (Int32) := m_X3_unattacked_L5 F r13 r14 za2 F 0 0
set_option maxHeartbeats 4000000 in
set_option maxRecDepth 100000 in
theorem c_X3_unattacked {l : Launch} {D : va_G} {cy : Nat → Nat} {g : Nat → Nat} {N : Nat} {X : Nat → Nat → Int32} {F : Nat} {za2 : Int32} {R0 : Int32} (hfl : l.stackTraces = false) (hN : 47 ≤ N) (hinv : m_X3_unattacked F (X 13) (X 14) za2 = some R0) : sRi l D cy yX3_unattacked cX3_unattacked 5 (some .int) 1 [.ref (g 14), .ref (g 12), .int za2] g N X R0 := by
  refine jRi (own := RX3) (by decide) rfl hfl (Nat.le_of_ble_eq_true rfl) rfl ?_
  intro p e R s m args below meth c ls A Q hRe C hw hl hret
  subst hRe
  have hx := C.1
  have hb := C.2.1
  have hl : lv_has ls 5 [(0, .ref (g 14)), (1, .ref (g 12)), (2, .int za2)] := hl
  rw [m_X3_unattacked] at hinv
  refine lv_iconst (v := 0) hx hb dX3_unattacked_0 (by decide) ?_
  refine lv_istore_n (lv' := [(3, .int 0), (0, .ref (g 14)), (1, .ref (g 12)), (2, .int za2)]) hx hb dX3_unattacked_1 rfl hl (by decide) rfl (fun ls hl => ?_)
  refine lv_iconst (v := 0) hx hb dX3_unattacked_2 (by decide) ?_
  refine lv_istore (lv' := [(4, .int 0), (3, .int 0), (0, .ref (g 14)), (1, .ref (g 12)), (2, .int za2)]) hx hb dX3_unattacked_3 hl (by decide) rfl (fun ls hl => ?_)
  have hl5 : ∀ (n : Nat) (x4_5 : Int32) (x3_5 : Int32), m_X3_unattacked_L5 F (X 13) (X 14) za2 n x4_5 x3_5 = some R0 → ∀ (ls : Array Slot), lv_has ls 5 [(4, .int x4_5), (3, .int x3_5), (0, .ref (g 14)), (1, .ref (g 12)), (2, .int za2)] → W p l e (wR 1 0 0) s m args below meth c s.heap [] 0 0 Q (F0 m 5 ls []) := by
    intro n
    induction n with
    | zero =>
      intro x4_5 x3_5 hinv
      cases hinv
    | succ n ih =>
      intro x4_5 x3_5 hinv ls hl
      rw [m_X3_unattacked_L5] at hinv
      refine lv_iload hx hb dX3_unattacked_5 (lv_at hl 0 rfl) ?_
      refine lv_iload_n hx hb dX3_unattacked_7 rfl (lv_at hl 4 rfl) ?_
      refine lv_icmp_ge (tgt := 50) hx hb dX3_unattacked_8 (by decide) (fun c_8 => ?_) (fun c_8 => ?_)
      · have hinv := oi_t c_8 hinv
        refine lv_iload_n hx hb dX3_unattacked_50 rfl (lv_at hl 1 rfl) ?_
        exact hret 51 ls x3_5 (Option.some.inj hinv) dX3_unattacked_51
      · have hinv := oi_f c_8 hinv
        refine lv_aload_n hx hb dX3_unattacked_11 rfl (lv_at hl 2 rfl) ?_
        refine lv_iload hx hb dX3_unattacked_12 (lv_at hl 0 rfl) ?_
        obtain ⟨zu1, hzu1, hinv⟩ := ob hinv
        refine s_vRi (r0 := zu1) C hw (As := [.int x4_5]) bX3_labelAt k134 (k := 14) (q47 hN rfl) (sh_14 g cy _) rfl (c_X3_labelAt (X := X) hfl hN hzu1) rfl rfl dX3_unattacked_14 ⟨rfl, rfl⟩ (by decide) hl.1 (Nat.le_of_ble_eq_true rfl) ⟨Nat.le_of_ble_eq_true rfl, Nat.le_of_ble_eq_true rfl⟩ ?_
        refine lv_iconst (v := 1) hx hb dX3_unattacked_17 (by decide) ?_
        refine lv_icmp_ne (tgt := 44) hx hb dX3_unattacked_18 (by decide) (fun c_18 => ?_) (fun c_18 => ?_)
        · have hinv := oi_f c_18 hinv
          refine lv_iinc (v := (x4_5 + 1)) (lv' := [(4, .int (x4_5 + 1)), (3, .int x3_5), (0, .ref (g 14)), (1, .ref (g 12)), (2, .int za2)]) hx hb dX3_unattacked_44 hl (k := 0) rfl (by rfl) (by decide) rfl (fun ls hl => ?_)
          refine lv_goto (tgt := 5) hx hb dX3_unattacked_47 (by decide) ?_
          exact ih (x4_5 + 1) x3_5 hinv ls (lv_sub hl [0, 1, 2, 3, 4] rfl)
        · have hinv := oi_t c_18 hinv
          refine lv_aload_n hx hb dX3_unattacked_21 rfl (lv_at hl 3 rfl) ?_
          refine lv_iload hx hb dX3_unattacked_22 (lv_at hl 0 rfl) ?_
          obtain ⟨zu2, hzu2, hinv⟩ := ob hinv
          refine s_vRi (r0 := zu2) C hw (As := [.int x4_5]) bX1_attackersOf k138 (k := 12) (q47 hN rfl) (sh_12 g cy _) rfl (c_X1_attackersOf (X := X) hfl hN hzu2) rfl rfl dX3_unattacked_24 ⟨rfl, rfl⟩ (by decide) hl.1 (Nat.le_of_ble_eq_true rfl) ⟨Nat.le_of_ble_eq_true rfl, Nat.le_of_ble_eq_true rfl⟩ ?_
          refine lv_aload_n hx hb dX3_unattacked_27 rfl (lv_at hl 2 rfl) ?_
          refine w_get C hw (k := 14) (v := .int ((X 14) 2)) (j := 2) (q47 hN rfl) (sh_14 g cy _) rfl (by decide) k131 rfl dX3_unattacked_28 ?_
          refine lv_iconst (v := (-1)) hx hb dX3_unattacked_31 (by decide) ?_
          refine lv_ixor hx hb dX3_unattacked_32 ?_
          refine lv_iand hx hb dX3_unattacked_33 ?_
          refine lv_if_ne (tgt := 44) hx hb dX3_unattacked_34 (by decide) (fun c_34 => ?_) (fun c_34 => ?_)
          · have hinv := oi_f c_34 hinv
            refine lv_iinc (v := (x4_5 + 1)) (lv' := [(4, .int (x4_5 + 1)), (3, .int x3_5), (0, .ref (g 14)), (1, .ref (g 12)), (2, .int za2)]) hx hb dX3_unattacked_44 hl (k := 0) rfl (by rfl) (by decide) rfl (fun ls hl => ?_)
            refine lv_goto (tgt := 5) hx hb dX3_unattacked_47 (by decide) ?_
            exact ih (x4_5 + 1) x3_5 hinv ls (lv_sub hl [0, 1, 2, 3, 4] rfl)
          · have hinv := oi_t c_34 hinv
            refine lv_iload_n hx hb dX3_unattacked_37 rfl (lv_at hl 1 rfl) ?_
            refine lv_iconst (v := 1) hx hb dX3_unattacked_38 (by decide) ?_
            refine lv_iload hx hb dX3_unattacked_39 (lv_at hl 0 rfl) ?_
            refine lv_ishl hx hb dX3_unattacked_41 ?_
            refine lv_ior hx hb dX3_unattacked_42 ?_
            refine lv_istore_n (lv' := [(3, .int (x3_5 ||| ((1 : Int32) <<< (x4_5 &&& 31)))), (4, .int x4_5), (0, .ref (g 14)), (1, .ref (g 12)), (2, .int za2)]) hx hb dX3_unattacked_43 rfl hl (by decide) rfl (fun ls hl => ?_)
            refine lv_iinc (v := (x4_5 + 1)) (lv' := [(4, .int (x4_5 + 1)), (3, .int (x3_5 ||| ((1 : Int32) <<< (x4_5 &&& 31)))), (0, .ref (g 14)), (1, .ref (g 12)), (2, .int za2)]) hx hb dX3_unattacked_44 hl (k := 1) rfl (by rfl) (by decide) rfl (fun ls hl => ?_)
            refine lv_goto (tgt := 5) hx hb dX3_unattacked_47 (by decide) ?_
            exact ih (x4_5 + 1) (x3_5 ||| ((1 : Int32) <<< (x4_5 &&& 31))) hinv ls (lv_sub hl [0, 1, 2, 3, 4] rfl)
  exact hl5 F 0 0 hinv ls (lv_sub hl [0, 1, 2, 3, 4] rfl)
def m_X3_defeated_L5 (F : Nat) (r13 : Nat → Int32) (r14 : Nat → Int32) (y2_5 : Int32) : Nat → Int32 → Int32 → Option (Int32)
  | 0, _, _ => none
  | n + 1, x4_5, x3_5 => if y2_5 ≤ x4_5 then (some x3_5) else (Option.bind (m_X3_labelAt F r14 x4_5) (fun zu1 => if zu1 = 1 then (Option.bind (m_X1_attackersOf F r13 x4_5) (fun zu2 => if (zu2 &&& (r14 1)) = 0 then (m_X3_defeated_L5 F r13 r14 y2_5 n (x4_5 + 1) x3_5) else (m_X3_defeated_L5 F r13 r14 y2_5 n (x4_5 + 1) (x3_5 ||| ((1 : Int32) <<< (x4_5 &&& 31)))))) else (m_X3_defeated_L5 F r13 r14 y2_5 n (x4_5 + 1) x3_5)))
def m_X3_defeated (F : Nat) (r13 : Nat → Int32) (r14 : Nat → Int32) (za2 : Int32) : Option (Int32) := m_X3_defeated_L5 F r13 r14 za2 F 0 0
set_option maxHeartbeats 4000000 in
set_option maxRecDepth 100000 in
theorem c_X3_defeated {l : Launch} {D : va_G} {cy : Nat → Nat} {g : Nat → Nat} {N : Nat} {X : Nat → Nat → Int32} {F : Nat} {za2 : Int32} {R0 : Int32} (hfl : l.stackTraces = false) (hN : 47 ≤ N) (hinv : m_X3_defeated F (X 13) (X 14) za2 = some R0) : sRi l D cy yX3_defeated cX3_defeated 5 (some .int) 1 [.ref (g 14), .ref (g 12), .int za2] g N X R0 := by
  refine jRi (own := RX3) (by decide) rfl hfl (Nat.le_of_ble_eq_true rfl) rfl ?_
  intro p e R s m args below meth c ls A Q hRe C hw hl hret
  subst hRe
  have hx := C.1
  have hb := C.2.1
  have hl : lv_has ls 5 [(0, .ref (g 14)), (1, .ref (g 12)), (2, .int za2)] := hl
  rw [m_X3_defeated] at hinv
  refine lv_iconst (v := 0) hx hb dX3_defeated_0 (by decide) ?_
  refine lv_istore_n (lv' := [(3, .int 0), (0, .ref (g 14)), (1, .ref (g 12)), (2, .int za2)]) hx hb dX3_defeated_1 rfl hl (by decide) rfl (fun ls hl => ?_)
  refine lv_iconst (v := 0) hx hb dX3_defeated_2 (by decide) ?_
  refine lv_istore (lv' := [(4, .int 0), (3, .int 0), (0, .ref (g 14)), (1, .ref (g 12)), (2, .int za2)]) hx hb dX3_defeated_3 hl (by decide) rfl (fun ls hl => ?_)
  have hl5 : ∀ (n : Nat) (x4_5 : Int32) (x3_5 : Int32), m_X3_defeated_L5 F (X 13) (X 14) za2 n x4_5 x3_5 = some R0 → ∀ (ls : Array Slot), lv_has ls 5 [(4, .int x4_5), (3, .int x3_5), (0, .ref (g 14)), (1, .ref (g 12)), (2, .int za2)] → W p l e (wR 1 0 0) s m args below meth c s.heap [] 0 0 Q (F0 m 5 ls []) := by
    intro n
    induction n with
    | zero =>
      intro x4_5 x3_5 hinv
      cases hinv
    | succ n ih =>
      intro x4_5 x3_5 hinv ls hl
      rw [m_X3_defeated_L5] at hinv
      refine lv_iload hx hb dX3_defeated_5 (lv_at hl 0 rfl) ?_
      refine lv_iload_n hx hb dX3_defeated_7 rfl (lv_at hl 4 rfl) ?_
      refine lv_icmp_ge (tgt := 48) hx hb dX3_defeated_8 (by decide) (fun c_8 => ?_) (fun c_8 => ?_)
      · have hinv := oi_t c_8 hinv
        refine lv_iload_n hx hb dX3_defeated_48 rfl (lv_at hl 1 rfl) ?_
        exact hret 49 ls x3_5 (Option.some.inj hinv) dX3_defeated_49
      · have hinv := oi_f c_8 hinv
        refine lv_aload_n hx hb dX3_defeated_11 rfl (lv_at hl 2 rfl) ?_
        refine lv_iload hx hb dX3_defeated_12 (lv_at hl 0 rfl) ?_
        obtain ⟨zu1, hzu1, hinv⟩ := ob hinv
        refine s_vRi (r0 := zu1) C hw (As := [.int x4_5]) bX3_labelAt k134 (k := 14) (q47 hN rfl) (sh_14 g cy _) rfl (c_X3_labelAt (X := X) hfl hN hzu1) rfl rfl dX3_defeated_14 ⟨rfl, rfl⟩ (by decide) hl.1 (Nat.le_of_ble_eq_true rfl) ⟨Nat.le_of_ble_eq_true rfl, Nat.le_of_ble_eq_true rfl⟩ ?_
        refine lv_iconst (v := 1) hx hb dX3_defeated_17 (by decide) ?_
        refine lv_icmp_ne (tgt := 42) hx hb dX3_defeated_18 (by decide) (fun c_18 => ?_) (fun c_18 => ?_)
        · have hinv := oi_f c_18 hinv
          refine lv_iinc (v := (x4_5 + 1)) (lv' := [(4, .int (x4_5 + 1)), (3, .int x3_5), (0, .ref (g 14)), (1, .ref (g 12)), (2, .int za2)]) hx hb dX3_defeated_42 hl (k := 0) rfl (by rfl) (by decide) rfl (fun ls hl => ?_)
          refine lv_goto (tgt := 5) hx hb dX3_defeated_45 (by decide) ?_
          exact ih (x4_5 + 1) x3_5 hinv ls (lv_sub hl [0, 1, 2, 3, 4] rfl)
        · have hinv := oi_t c_18 hinv
          refine lv_aload_n hx hb dX3_defeated_21 rfl (lv_at hl 3 rfl) ?_
          refine lv_iload hx hb dX3_defeated_22 (lv_at hl 0 rfl) ?_
          obtain ⟨zu2, hzu2, hinv⟩ := ob hinv
          refine s_vRi (r0 := zu2) C hw (As := [.int x4_5]) bX1_attackersOf k138 (k := 12) (q47 hN rfl) (sh_12 g cy _) rfl (c_X1_attackersOf (X := X) hfl hN hzu2) rfl rfl dX3_defeated_24 ⟨rfl, rfl⟩ (by decide) hl.1 (Nat.le_of_ble_eq_true rfl) ⟨Nat.le_of_ble_eq_true rfl, Nat.le_of_ble_eq_true rfl⟩ ?_
          refine lv_aload_n hx hb dX3_defeated_27 rfl (lv_at hl 2 rfl) ?_
          refine w_get C hw (k := 14) (v := .int ((X 14) 1)) (j := 1) (q47 hN rfl) (sh_14 g cy _) rfl (by decide) k130 rfl dX3_defeated_28 ?_
          refine lv_iand hx hb dX3_defeated_31 ?_
          refine lv_if_eq (tgt := 42) hx hb dX3_defeated_32 (by decide) (fun c_32 => ?_) (fun c_32 => ?_)
          · have hinv := oi_t c_32 hinv
            refine lv_iinc (v := (x4_5 + 1)) (lv' := [(4, .int (x4_5 + 1)), (3, .int x3_5), (0, .ref (g 14)), (1, .ref (g 12)), (2, .int za2)]) hx hb dX3_defeated_42 hl (k := 0) rfl (by rfl) (by decide) rfl (fun ls hl => ?_)
            refine lv_goto (tgt := 5) hx hb dX3_defeated_45 (by decide) ?_
            exact ih (x4_5 + 1) x3_5 hinv ls (lv_sub hl [0, 1, 2, 3, 4] rfl)
          · have hinv := oi_f c_32 hinv
            refine lv_iload_n hx hb dX3_defeated_35 rfl (lv_at hl 1 rfl) ?_
            refine lv_iconst (v := 1) hx hb dX3_defeated_36 (by decide) ?_
            refine lv_iload hx hb dX3_defeated_37 (lv_at hl 0 rfl) ?_
            refine lv_ishl hx hb dX3_defeated_39 ?_
            refine lv_ior hx hb dX3_defeated_40 ?_
            refine lv_istore_n (lv' := [(3, .int (x3_5 ||| ((1 : Int32) <<< (x4_5 &&& 31)))), (4, .int x4_5), (0, .ref (g 14)), (1, .ref (g 12)), (2, .int za2)]) hx hb dX3_defeated_41 rfl hl (by decide) rfl (fun ls hl => ?_)
            refine lv_iinc (v := (x4_5 + 1)) (lv' := [(4, .int (x4_5 + 1)), (3, .int (x3_5 ||| ((1 : Int32) <<< (x4_5 &&& 31)))), (0, .ref (g 14)), (1, .ref (g 12)), (2, .int za2)]) hx hb dX3_defeated_42 hl (k := 1) rfl (by rfl) (by decide) rfl (fun ls hl => ?_)
            refine lv_goto (tgt := 5) hx hb dX3_defeated_45 (by decide) ?_
            exact ih (x4_5 + 1) (x3_5 ||| ((1 : Int32) <<< (x4_5 &&& 31))) hinv ls (lv_sub hl [0, 1, 2, 3, 4] rfl)
  exact hl5 F 0 0 hinv ls (lv_sub hl [0, 1, 2, 3, 4] rfl)
def m_X3_noteRound_L2 (F : Nat) (y1_2 : Int32) (y2_2 : Int32) : Nat → Int32 → (Nat → Int32) → Option ((Nat → Int32))
  | 0, _, _ => none
  | n + 1, x3_2, q15_2 => if 24 ≤ x3_2 then (some q15_2) else (if ((y2_2 >>> (x3_2 &&& 31)) &&& 1) = 0 then (m_X3_noteRound_L2 F y1_2 y2_2 n (x3_2 + 1) q15_2) else (if ¬ (x3_2 < 0 ∨ 24 ≤ x3_2.toNatClampNeg) then (m_X3_noteRound_L2 F y1_2 y2_2 n (x3_2 + 1) (upd q15_2 x3_2.toNatClampNeg y1_2)) else none))
def m_X3_noteRound (F : Nat) (r15 : Nat → Int32) (za1 : Int32) (za2 : Int32) : Option ((Nat → Int32)) := m_X3_noteRound_L2 F za1 za2 F 0 r15
set_option maxHeartbeats 4000000 in
set_option maxRecDepth 100000 in
theorem c_X3_noteRound {l : Launch} {D : va_G} {cy : Nat → Nat} {g : Nat → Nat} {N : Nat} {X : Nat → Nat → Int32} {F : Nat} {za1 : Int32} {za2 : Int32} {R0 : (Nat → Int32)} (hfl : l.stackTraces = false) (hN : 47 ≤ N) (hinv : m_X3_noteRound F (X 15) za1 za2 = some R0) : sWv l D cy yX3_noteRound cX3_noteRound 4 none 0 0 0 [.ref (g 14), .int za1, .int za2] g N X (up X 15 R0) := by
  refine jWv (own := RX3) (by decide) rfl hfl (Nat.le_of_ble_eq_true rfl) rfl ?_
  intro p e R s m args below meth c ls A Q hRe C hw hl hret
  subst hRe
  have hx := C.1
  have hb := C.2.1
  have hl : lv_has ls 4 [(0, .ref (g 14)), (1, .int za1), (2, .int za2)] := hl
  rw [m_X3_noteRound] at hinv
  refine lv_iconst (v := 0) hx hb dX3_noteRound_0 (by decide) ?_
  refine lv_istore_n (lv' := [(3, .int 0), (0, .ref (g 14)), (1, .int za1), (2, .int za2)]) hx hb dX3_noteRound_1 rfl hl (by decide) rfl (fun ls hl => ?_)
  have hXe : X = (up X 15 (X 15)) := by
    funext j
    by_cases h15 : j = 15
    · subst h15; simp [up]
    simp [up, h15]
  rw [hXe] at hw
  have hl2 : ∀ (n : Nat) (x3_2 : Int32) (q15_2 : Nat → Int32), m_X3_noteRound_L2 F za1 za2 n x3_2 q15_2 = some R0 → ∀ (H : Heap) (locs : List Loc) (ls : Array Slot), Wd D A s.heap g N (shp g cy (up X 15 q15_2)) H locs → lv_has ls 4 [(3, .int x3_2), (0, .ref (g 14)), (1, .int za1), (2, .int za2)] → W p l e (wR 0 0 0) s m args below meth c H locs 0 0 Q (F0 m 2 ls []) := by
    intro n
    induction n with
    | zero =>
      intro x3_2 q15_2 hinv
      cases hinv
    | succ n ih =>
      intro x3_2 q15_2 hinv H locs ls hw hl
      rw [m_X3_noteRound_L2] at hinv
      refine lv_iload_n hx hb dX3_noteRound_2 rfl (lv_at hl 0 rfl) ?_
      refine lv_bipush (v := 24) hx hb dX3_noteRound_3 (by decide) ?_
      refine lv_icmp_ge (tgt := 29) hx hb dX3_noteRound_5 (by decide) (fun c_5 => ?_) (fun c_5 => ?_)
      · have hinv := oi_t c_5 hinv
        rw [Option.some.inj hinv] at hw
        exact hret 29 ls _ _ _ _ hw (by decide) (by decide) dX3_noteRound_29
      · have hinv := oi_f c_5 hinv
        refine lv_iload_n hx hb dX3_noteRound_8 rfl (lv_at hl 3 rfl) ?_
        refine lv_iload_n hx hb dX3_noteRound_9 rfl (lv_at hl 0 rfl) ?_
        refine lv_ishr hx hb dX3_noteRound_10 ?_
        refine lv_iconst (v := 1) hx hb dX3_noteRound_11 (by decide) ?_
        refine lv_iand hx hb dX3_noteRound_12 ?_
        refine lv_if_eq (tgt := 23) hx hb dX3_noteRound_13 (by decide) (fun c_13 => ?_) (fun c_13 => ?_)
        · have hinv := oi_t c_13 hinv
          refine lv_iinc (v := (x3_2 + 1)) (lv' := [(3, .int (x3_2 + 1)), (0, .ref (g 14)), (1, .int za1), (2, .int za2)]) hx hb dX3_noteRound_23 hl (k := 0) rfl (by rfl) (by decide) rfl (fun ls hl => ?_)
          refine lv_goto (tgt := 2) hx hb dX3_noteRound_26 (by decide) ?_
          exact ih (x3_2 + 1) q15_2 hinv _ _ ls hw (lv_sub hl [0, 1, 2, 3] rfl)
        · have hinv := oi_f c_13 hinv
          refine lv_aload_n hx hb dX3_noteRound_16 rfl (lv_at hl 1 rfl) ?_
          refine w_get C hw (k := 14) (v := .ref (g 15)) (j := 0) (q47 hN rfl) (sh_14 g cy _) rfl (by decide) k128 rfl dX3_noteRound_17 ?_
          refine lv_iload_n hx hb dX3_noteRound_20 rfl (lv_at hl 0 rfl) ?_
          refine lv_iload_n hx hb dX3_noteRound_21 rfl (lv_at hl 2 rfl) ?_
          obtain ⟨hb_22, hinv⟩ := oi_c hinv
          refine s_iast C hw (k := 15) (a := q15_2) (q47 hN rfl) (fun r => sh_15 g cy r) rfl hb_22 dX3_noteRound_22 (fun H locs zw22 hw22 hw => ?_)
          try rw [← hw22] at hinv
          rw [up_up] at hw
          refine lv_iinc (v := (x3_2 + 1)) (lv' := [(3, .int (x3_2 + 1)), (0, .ref (g 14)), (1, .int za1), (2, .int za2)]) hx hb dX3_noteRound_23 hl (k := 0) rfl (by rfl) (by decide) rfl (fun ls hl => ?_)
          refine lv_goto (tgt := 2) hx hb dX3_noteRound_26 (by decide) ?_
          exact ih (x3_2 + 1) zw22 hinv _ _ ls hw (lv_sub hl [0, 1, 2, 3] rfl)
  exact hl2 F 0 (X 15) hinv _ _ ls hw (lv_sub hl [0, 1, 2, 3] rfl)
def m_X3_build_L33 (F : Nat) (r13 : Nat → Int32) (y2_33 : Int32) : Nat → Int32 → (Nat → Int32) → (Nat → Int32) → Option ((Nat → Int32) × (Nat → Int32))
  | 0, _, _, _ => none
  | n + 1, x3_33, q14_33, q15_33 => if 24 < x3_33 then (some (q14_33, q15_33)) else (Option.bind (m_X3_unattacked F r13 q14_33 y2_33) (fun zu2 => Option.bind (m_X3_defeated F r13 (upd q14_33 1 ((q14_33 1) ||| zu2)) y2_33) (fun zu3 => if ((((q14_33 1) ||| zu2) ||| ((q14_33 2) ||| zu3)) &&& (((q14_33 1) ||| (q14_33 2)) ^^^ (-1))) = 0 then (some ((upd (upd q14_33 1 ((q14_33 1) ||| zu2)) 2 ((q14_33 2) ||| zu3)), q15_33)) else (Option.bind (m_X3_noteRound F q15_33 x3_33 ((((q14_33 1) ||| zu2) ||| ((q14_33 2) ||| zu3)) &&& (((q14_33 1) ||| (q14_33 2)) ^^^ (-1)))) (fun zu4 => m_X3_build_L33 F r13 y2_33 n (x3_33 + 1) (upd (upd q14_33 1 ((q14_33 1) ||| zu2)) 2 ((q14_33 2) ||| zu3)) zu4)))))
def m_X3_build_L12 (F : Nat)  : Nat → Int32 → (Nat → Int32) → (Nat → Int32) → Option (Int32 × (Nat → Int32) × (Nat → Int32))
  | 0, _, _, _ => none
  | n + 1, x3_12, q14_12, q15_12 => if 24 ≤ x3_12 then (some (x3_12, q14_12, q15_12)) else (if ¬ (x3_12 < 0 ∨ 24 ≤ x3_12.toNatClampNeg) then (m_X3_build_L12 F  n (x3_12 + 1) q14_12 (upd q15_12 x3_12.toNatClampNeg 0)) else none)
def m_X3_build (F : Nat) (r13 : Nat → Int32) (r14 : Nat → Int32) (r15 : Nat → Int32) (za2 : Int32) : Option ((Nat → Int32) × (Nat → Int32)) := Option.bind (m_X3_build_L12 F  F 0 (upd (upd r14 1 0) 2 0) r15) (fun zu1 => m_X3_build_L33 F r13 za2 F 1 zu1.2.1 zu1.2.2)
set_option maxHeartbeats 4000000 in
set_option maxRecDepth 100000 in
theorem c_X3_build {l : Launch} {D : va_G} {cy : Nat → Nat} {g : Nat → Nat} {N : Nat} {X : Nat → Nat → Int32} {F : Nat} {za2 : Int32} {R0 : (Nat → Int32) × (Nat → Int32)} (hfl : l.stackTraces = false) (hN : 47 ≤ N) (hinv : m_X3_build F (X 13) (X 14) (X 15) za2 = some R0) : sWv l D cy yX3_build cX3_build 6 none 2 0 0 [.ref (g 14), .ref (g 12), .int za2] g N X (up (up X 14 R0.1) 15 R0.2) := by
  refine jWv (own := RX3) (by decide) rfl hfl (Nat.le_of_ble_eq_true rfl) rfl ?_
  intro p e R s m args below meth c ls A Q hRe C hw hl hret
  subst hRe
  have hx := C.1
  have hb := C.2.1
  have hl : lv_has ls 6 [(0, .ref (g 14)), (1, .ref (g 12)), (2, .int za2)] := hl
  rw [m_X3_build] at hinv
  refine lv_aload_n hx hb dX3_build_0 rfl (lv_at hl 0 rfl) ?_
  refine lv_iconst (v := 0) hx hb dX3_build_1 (by decide) ?_
  refine s_put C hw (k := 14) (row := (upd (X 14) 1 0)) (ty := tyX3) (v := .int 0) (j := 1) (q47 hN rfl) (sh_14 g cy _) rfl tyX3_ok nmX3 (by decide) k130 rfl rfl rfl (Nat.le_of_ble_eq_true rfl) (sh_14 g cy _) dX3_build_2 (fun H locs hw => ?_)
  refine lv_aload_n hx hb dX3_build_5 rfl (lv_at hl 0 rfl) ?_
  refine lv_iconst (v := 0) hx hb dX3_build_6 (by decide) ?_
  refine s_put C hw (k := 14) (row := (upd (upd (X 14) 1 0) 2 0)) (ty := tyX3) (v := .int 0) (j := 2) (q47 hN rfl) (sh_14 g cy _) rfl tyX3_ok nmX3 (by decide) k131 rfl rfl rfl (Nat.le_of_ble_eq_true rfl) (sh_14 g cy _) dX3_build_7 (fun H locs hw => ?_)
  rw [up_up] at hw
  refine lv_iconst (v := 0) hx hb dX3_build_10 (by decide) ?_
  refine lv_istore_n (lv' := [(3, .int 0), (0, .ref (g 14)), (1, .ref (g 12)), (2, .int za2)]) hx hb dX3_build_11 rfl hl (by decide) rfl (fun ls hl => ?_)
  have hXe : (up X 14 (upd (upd (X 14) 1 0) 2 0)) = (up (up X 14 (upd (upd (X 14) 1 0) 2 0)) 15 (X 15)) := by
    funext j
    by_cases h14 : j = 14
    · subst h14; simp [up]
    by_cases h15 : j = 15
    · subst h15; simp [up]
    simp [up, h14, h15]
  rw [hXe] at hw
  obtain ⟨zu1, hzu1, hinv⟩ := ob hinv
  have hx12 : ∀ (H : Heap) (locs : List Loc) (ls : Array Slot), Wd D A s.heap g N (shp g cy (up (up X 14 zu1.2.1) 15 zu1.2.2)) H locs → lv_has ls 6 [(3, .int zu1.1), (0, .ref (g 14)), (1, .ref (g 12)), (2, .int za2)] → W p l e (wR 2 0 0) s m args below meth c H locs 0 0 Q (F0 m 31 ls []) := by
    intro H locs ls hw hl
    refine lv_iconst (v := 1) hx hb dX3_build_31 (by decide) ?_
    refine lv_istore_n (lv' := [(3, .int 1), (0, .ref (g 14)), (1, .ref (g 12)), (2, .int za2)]) hx hb dX3_build_32 rfl hl (by decide) rfl (fun ls hl => ?_)
    have hl33 : ∀ (n : Nat) (x3_33 : Int32) (q14_33 : Nat → Int32) (q15_33 : Nat → Int32), m_X3_build_L33 F (X 13) za2 n x3_33 q14_33 q15_33 = some R0 → ∀ (H : Heap) (locs : List Loc) (ls : Array Slot), Wd D A s.heap g N (shp g cy (up (up X 14 q14_33) 15 q15_33)) H locs → lv_has ls 6 [(3, .int x3_33), (0, .ref (g 14)), (1, .ref (g 12)), (2, .int za2)] → W p l e (wR 2 0 0) s m args below meth c H locs 0 0 Q (F0 m 33 ls []) := by
      intro n
      induction n with
      | zero =>
        intro x3_33 q14_33 q15_33 hinv
        cases hinv
      | succ n ih =>
        intro x3_33 q14_33 q15_33 hinv H locs ls hw hl
        rw [m_X3_build_L33] at hinv
        refine lv_iload_n hx hb dX3_build_33 rfl (lv_at hl 0 rfl) ?_
        refine lv_bipush (v := 24) hx hb dX3_build_34 (by decide) ?_
        refine lv_icmp_gt (tgt := 115) hx hb dX3_build_36 (by decide) (fun c_36 => ?_) (fun c_36 => ?_)
        · have hinv := oi_t c_36 hinv
          have hR0 := (Option.some.inj hinv).symm
          subst hR0
          exact hret 115 ls _ _ _ _ hw (by decide) (by decide) dX3_build_115
        · have hinv := oi_f c_36 hinv
          refine lv_aload_n hx hb dX3_build_39 rfl (lv_at hl 1 rfl) ?_
          refine w_get C hw (k := 14) (v := .int (q14_33 1)) (j := 1) (q47 hN rfl) (sh_14 g cy _) rfl (by decide) k130 rfl dX3_build_40 ?_
          refine lv_aload_n hx hb dX3_build_43 rfl (lv_at hl 1 rfl) ?_
          refine w_get C hw (k := 14) (v := .int (q14_33 2)) (j := 2) (q47 hN rfl) (sh_14 g cy _) rfl (by decide) k131 rfl dX3_build_44 ?_
          refine lv_ior hx hb dX3_build_47 ?_
          refine lv_istore (lv' := [(4, .int ((q14_33 1) ||| (q14_33 2))), (3, .int x3_33), (0, .ref (g 14)), (1, .ref (g 12)), (2, .int za2)]) hx hb dX3_build_48 hl (by decide) rfl (fun ls hl => ?_)
          refine lv_aload_n hx hb dX3_build_50 rfl (lv_at hl 2 rfl) ?_
          refine lv_dup hx hb dX3_build_51 rfl ?_
          refine w_get C hw (k := 14) (v := .int (q14_33 1)) (j := 1) (q47 hN rfl) (sh_14 g cy _) rfl (by decide) k130 rfl dX3_build_52 ?_
          refine lv_aload_n hx hb dX3_build_55 rfl (lv_at hl 2 rfl) ?_
          refine lv_aload_n hx hb dX3_build_56 rfl (lv_at hl 3 rfl) ?_
          refine lv_iload_n hx hb dX3_build_57 rfl (lv_at hl 4 rfl) ?_
          obtain ⟨zu2, hzu2, hinv⟩ := ob hinv
          refine s_vRi (r0 := zu2) C hw (As := [.ref (g 12), .int za2]) bX3_unattacked k141 (k := 14) (q47 hN rfl) (sh_14 g cy _) rfl (c_X3_unattacked (X := (up (up X 14 q14_33) 15 q15_33)) hfl hN hzu2) rfl rfl dX3_build_58 ⟨rfl, rfl⟩ (by decide) hl.1 (Nat.le_of_ble_eq_true rfl) ⟨Nat.le_of_ble_eq_true rfl, Nat.le_of_ble_eq_true rfl⟩ ?_
          refine lv_ior hx hb dX3_build_61 ?_
          refine s_put C hw (k := 14) (row := (upd q14_33 1 ((q14_33 1) ||| zu2))) (ty := tyX3) (v := .int ((q14_33 1) ||| zu2)) (j := 1) (q47 hN rfl) (sh_14 g cy _) rfl tyX3_ok nmX3 (by decide) k130 rfl rfl rfl (Nat.le_of_ble_eq_true rfl) (sh_14 g cy _) dX3_build_62 (fun H locs hw => ?_)
          refine lv_aload_n hx hb dX3_build_65 rfl (lv_at hl 2 rfl) ?_
          refine lv_dup hx hb dX3_build_66 rfl ?_
          refine w_get C hw (k := 14) (v := .int (q14_33 2)) (j := 2) (q47 hN rfl) (sh_14 g cy _) rfl (by decide) k131 rfl dX3_build_67 ?_
          refine lv_aload_n hx hb dX3_build_70 rfl (lv_at hl 2 rfl) ?_
          refine lv_aload_n hx hb dX3_build_71 rfl (lv_at hl 3 rfl) ?_
          refine lv_iload_n hx hb dX3_build_72 rfl (lv_at hl 4 rfl) ?_
          obtain ⟨zu3, hzu3, hinv⟩ := ob hinv
          refine s_vRi (r0 := zu3) C hw (As := [.ref (g 12), .int za2]) bX3_defeated k144 (k := 14) (q47 hN rfl) (sh_14 g cy _) rfl (c_X3_defeated (X := (up (up (up X 14 q14_33) 15 q15_33) 14 (upd q14_33 1 ((q14_33 1) ||| zu2)))) hfl hN hzu3) rfl rfl dX3_build_73 ⟨rfl, rfl⟩ (by decide) hl.1 (Nat.le_of_ble_eq_true rfl) ⟨Nat.le_of_ble_eq_true rfl, Nat.le_of_ble_eq_true rfl⟩ ?_
          refine lv_ior hx hb dX3_build_76 ?_
          refine s_put C hw (k := 14) (row := (upd (upd q14_33 1 ((q14_33 1) ||| zu2)) 2 ((q14_33 2) ||| zu3))) (ty := tyX3) (v := .int ((q14_33 2) ||| zu3)) (j := 2) (q47 hN rfl) (sh_14 g cy _) rfl tyX3_ok nmX3 (by decide) k131 rfl rfl rfl (Nat.le_of_ble_eq_true rfl) (sh_14 g cy _) dX3_build_77 (fun H locs hw => ?_)
          rw [up_up] at hw
          refine lv_aload_n hx hb dX3_build_80 rfl (lv_at hl 2 rfl) ?_
          refine w_get C hw (k := 14) (v := .int ((q14_33 1) ||| zu2)) (j := 1) (q47 hN rfl) (sh_14 g cy _) rfl (by decide) k130 rfl dX3_build_81 ?_
          refine lv_aload_n hx hb dX3_build_84 rfl (lv_at hl 2 rfl) ?_
          refine w_get C hw (k := 14) (v := .int ((q14_33 2) ||| zu3)) (j := 2) (q47 hN rfl) (sh_14 g cy _) rfl (by decide) k131 rfl dX3_build_85 ?_
          refine lv_ior hx hb dX3_build_88 ?_
          refine lv_iload hx hb dX3_build_89 (lv_at hl 0 rfl) ?_
          refine lv_iconst (v := (-1)) hx hb dX3_build_91 (by decide) ?_
          refine lv_ixor hx hb dX3_build_92 ?_
          refine lv_iand hx hb dX3_build_93 ?_
          refine lv_istore (lv' := [(5, .int ((((q14_33 1) ||| zu2) ||| ((q14_33 2) ||| zu3)) &&& (((q14_33 1) ||| (q14_33 2)) ^^^ (-1)))), (4, .int ((q14_33 1) ||| (q14_33 2))), (3, .int x3_33), (0, .ref (g 14)), (1, .ref (g 12)), (2, .int za2)]) hx hb dX3_build_94 hl (by decide) rfl (fun ls hl => ?_)
          refine lv_iload hx hb dX3_build_96 (lv_at hl 0 rfl) ?_
          refine lv_if_ne (tgt := 102) hx hb dX3_build_98 (by decide) (fun c_98 => ?_) (fun c_98 => ?_)
          · have hinv := oi_f c_98 hinv
            refine lv_aload_n hx hb dX3_build_102 rfl (lv_at hl 3 rfl) ?_
            refine lv_iload_n hx hb dX3_build_103 rfl (lv_at hl 2 rfl) ?_
            refine lv_iload hx hb dX3_build_104 (lv_at hl 0 rfl) ?_
            obtain ⟨zu4, hzu4, hinv⟩ := ob hinv
            refine s_vWv C hw (As := [.int x3_33, .int ((((q14_33 1) ||| zu2) ||| ((q14_33 2) ||| zu3)) &&& (((q14_33 1) ||| (q14_33 2)) ^^^ (-1)))]) bX3_noteRound k147 (k := 14) (q47 hN rfl) (sh_14 g cy _) rfl (c_X3_noteRound (X := (up (up (up X 14 q14_33) 15 q15_33) 14 (upd (upd q14_33 1 ((q14_33 1) ||| zu2)) 2 ((q14_33 2) ||| zu3)))) hfl hN hzu4) rfl rfl dX3_build_106 ⟨rfl, rfl⟩ (by decide) hl.1 (Nat.le_of_ble_eq_true rfl) ⟨Nat.le_of_ble_eq_true rfl, Nat.le_of_ble_eq_true rfl⟩ (fun H locs hw => ?_)
            refine lv_iinc (v := (x3_33 + 1)) (lv' := [(3, .int (x3_33 + 1)), (5, .int ((((q14_33 1) ||| zu2) ||| ((q14_33 2) ||| zu3)) &&& (((q14_33 1) ||| (q14_33 2)) ^^^ (-1)))), (4, .int ((q14_33 1) ||| (q14_33 2))), (0, .ref (g 14)), (1, .ref (g 12)), (2, .int za2)]) hx hb dX3_build_109 hl (k := 2) rfl (by rfl) (by decide) rfl (fun ls hl => ?_)
            refine lv_goto (tgt := 33) hx hb dX3_build_112 (by decide) ?_
            have hXe : (up (up (up (up X 14 q14_33) 15 q15_33) 14 (upd (upd q14_33 1 ((q14_33 1) ||| zu2)) 2 ((q14_33 2) ||| zu3))) 15 zu4) = (up (up X 14 (upd (upd q14_33 1 ((q14_33 1) ||| zu2)) 2 ((q14_33 2) ||| zu3))) 15 zu4) := by
              funext j
              by_cases h14 : j = 14
              · subst h14; simp [up]
              by_cases h15 : j = 15
              · subst h15; simp [up]
              simp [up, h14, h15]
            rw [hXe] at hw
            exact ih (x3_33 + 1) (upd (upd q14_33 1 ((q14_33 1) ||| zu2)) 2 ((q14_33 2) ||| zu3)) zu4 hinv _ _ ls hw (lv_sub hl [0, 3, 4, 5] rfl)
          · have hinv := oi_t c_98 hinv
            have hR0 := (Option.some.inj hinv).symm
            subst hR0
            have hXe : (up (up (up X 14 q14_33) 15 q15_33) 14 (upd (upd q14_33 1 ((q14_33 1) ||| zu2)) 2 ((q14_33 2) ||| zu3))) = (up (up X 14 (upd (upd q14_33 1 ((q14_33 1) ||| zu2)) 2 ((q14_33 2) ||| zu3))) 15 q15_33) := by
              funext j
              by_cases h14 : j = 14
              · subst h14; simp [up]
              by_cases h15 : j = 15
              · subst h15; simp [up]
              simp [up, h14, h15]
            rw [hXe] at hw
            exact hret 101 ls _ _ _ _ hw (by decide) (by decide) dX3_build_101
    exact hl33 F 1 zu1.2.1 zu1.2.2 hinv _ _ ls hw (lv_sub hl [0, 1, 2, 3] rfl)
  have hl12 : ∀ (n : Nat) (x3_12 : Int32) (q14_12 : Nat → Int32) (q15_12 : Nat → Int32), m_X3_build_L12 F  n x3_12 q14_12 q15_12 = some zu1 → ∀ (H : Heap) (locs : List Loc) (ls : Array Slot), Wd D A s.heap g N (shp g cy (up (up X 14 q14_12) 15 q15_12)) H locs → lv_has ls 6 [(3, .int x3_12), (0, .ref (g 14)), (1, .ref (g 12)), (2, .int za2)] → W p l e (wR 2 0 0) s m args below meth c H locs 0 0 Q (F0 m 12 ls []) := by
    intro n
    induction n with
    | zero =>
      intro x3_12 q14_12 q15_12 hinv
      cases hinv
    | succ n ih =>
      intro x3_12 q14_12 q15_12 hinv H locs ls hw hl
      rw [m_X3_build_L12] at hinv
      refine lv_iload_n hx hb dX3_build_12 rfl (lv_at hl 0 rfl) ?_
      refine lv_bipush (v := 24) hx hb dX3_build_13 (by decide) ?_
      refine lv_icmp_ge (tgt := 31) hx hb dX3_build_15 (by decide) (fun c_15 => ?_) (fun c_15 => ?_)
      · have hinv := oi_t c_15 hinv
        have hR9 := Option.some.inj hinv
        subst hR9
        exact hx12 _ _ ls hw (lv_sub hl [0, 1, 2, 3] rfl)
      · have hinv := oi_f c_15 hinv
        refine lv_aload_n hx hb dX3_build_18 rfl (lv_at hl 1 rfl) ?_
        refine w_get C hw (k := 14) (v := .ref (g 15)) (j := 0) (q47 hN rfl) (sh_14 g cy _) rfl (by decide) k128 rfl dX3_build_19 ?_
        refine lv_iload_n hx hb dX3_build_22 rfl (lv_at hl 0 rfl) ?_
        refine lv_iconst (v := 0) hx hb dX3_build_23 (by decide) ?_
        obtain ⟨hb_24, hinv⟩ := oi_c hinv
        refine s_iast C hw (k := 15) (a := q15_12) (q47 hN rfl) (fun r => sh_15 g cy r) rfl hb_24 dX3_build_24 (fun H locs zw24 hw24 hw => ?_)
        try rw [← hw24] at hinv
        rw [up_up] at hw
        refine lv_iinc (v := (x3_12 + 1)) (lv' := [(3, .int (x3_12 + 1)), (0, .ref (g 14)), (1, .ref (g 12)), (2, .int za2)]) hx hb dX3_build_25 hl (k := 0) rfl (by rfl) (by decide) rfl (fun ls hl => ?_)
        refine lv_goto (tgt := 12) hx hb dX3_build_28 (by decide) ?_
        exact ih (x3_12 + 1) q14_12 zw24 hinv _ _ ls hw (lv_sub hl [0, 1, 2, 3] rfl)
  exact hl12 F 0 (upd (upd (X 14) 1 0) 2 0) (X 15) hzu1 _ _ ls hw (lv_sub hl [0, 1, 2, 3] rfl)

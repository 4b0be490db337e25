def m_X9_isLiteralOrNone (F : Nat) (za0 : Int32) : Option (Int32) := if za0 < (-10) then (some (0 : Int32)) else (if 10 < za0 then (some (0 : Int32)) else (some (1 : Int32)))
set_option maxHeartbeats 4000000 in
set_option maxRecDepth 100000 in
theorem c_X9_isLiteralOrNone {l : Launch} {D : va_G} {cy : Nat → Nat} {g : Nat → Nat} {N : Nat} {X : Nat → Nat → Int32} {F : Nat} {za0 : Int32} {R0 : Int32} (hfl : l.stackTraces = false) (hN : 47 ≤ N) (hinv : m_X9_isLiteralOrNone F za0 = some R0) : sRi l D cy yX9_isLiteralOrNone cX9_isLiteralOrNone 1 (some .boolean) 0 [.int za0] g N X R0 := by
  refine jRz (own := RX9) (by decide) rfl hfl (Nat.le_of_ble_eq_true rfl) rfl ?_
  intro p e R s m args below meth c ls A Q hRe C hw hl hret
  subst hRe
  have hx := C.1
  have hb := C.2.1
  have hl : lv_has ls 1 [(0, .int za0)] := hl
  rw [m_X9_isLiteralOrNone] at hinv
  refine lv_iload_n hx hb dX9_isLiteralOrNone_0 rfl (lv_at hl 0 rfl) ?_
  refine lv_bipush (v := (-10)) hx hb dX9_isLiteralOrNone_1 (by decide) ?_
  refine lv_icmp_lt (tgt := 16) hx hb dX9_isLiteralOrNone_3 (by decide) (fun c_3 => ?_) (fun c_3 => ?_)
  · have hinv := oi_t c_3 hinv
    refine lv_iconst (v := 0) hx hb dX9_isLiteralOrNone_16 (by decide) ?_
    exact hret 17 ls 0 (Option.some.inj hinv) (by decide) dX9_isLiteralOrNone_17
  · have hinv := oi_f c_3 hinv
    refine lv_iload_n hx hb dX9_isLiteralOrNone_6 rfl (lv_at hl 0 rfl) ?_
    refine lv_bipush (v := 10) hx hb dX9_isLiteralOrNone_7 (by decide) ?_
    refine lv_icmp_gt (tgt := 16) hx hb dX9_isLiteralOrNone_9 (by decide) (fun c_9 => ?_) (fun c_9 => ?_)
    · have hinv := oi_t c_9 hinv
      refine lv_iconst (v := 0) hx hb dX9_isLiteralOrNone_16 (by decide) ?_
      exact hret 17 ls 0 (Option.some.inj hinv) (by decide) dX9_isLiteralOrNone_17
    · have hinv := oi_f c_9 hinv
      refine lv_iconst (v := 1) hx hb dX9_isLiteralOrNone_12 (by decide) ?_
      refine lv_goto (tgt := 17) hx hb dX9_isLiteralOrNone_13 (by decide) ?_
      exact hret 17 ls 1 (Option.some.inj hinv) (by decide) dX9_isLiteralOrNone_17
def m_X9_setBit (F : Nat) (za0 : Int32) : Option (Int32) := if za0 < 0 then (some (0 : Int32)) else (if 14 ≤ za0 then (some (0 : Int32)) else (some ((1 : Int32) <<< ((13 - za0) &&& 31))))
set_option maxHeartbeats 4000000 in
set_option maxRecDepth 100000 in
theorem c_X9_setBit {l : Launch} {D : va_G} {cy : Nat → Nat} {g : Nat → Nat} {N : Nat} {X : Nat → Nat → Int32} {F : Nat} {za0 : Int32} {R0 : Int32} (hfl : l.stackTraces = false) (hN : 47 ≤ N) (hinv : m_X9_setBit F za0 = some R0) : sRi l D cy yX9_setBit cX9_setBit 1 (some .int) 0 [.int za0] g N X R0 := by
  refine jRi (own := RX9) (by decide) rfl hfl (Nat.le_of_ble_eq_true rfl) rfl ?_
  intro p e R s m args below meth c ls A Q hRe C hw hl hret
  subst hRe
  have hx := C.1
  have hb := C.2.1
  have hl : lv_has ls 1 [(0, .int za0)] := hl
  rw [m_X9_setBit] at hinv
  refine lv_iload_n hx hb dX9_setBit_0 rfl (lv_at hl 0 rfl) ?_
  refine lv_if_lt (tgt := 19) hx hb dX9_setBit_1 (by decide) (fun c_1 => ?_) (fun c_1 => ?_)
  · have hinv := oi_t c_1 hinv
    refine lv_iconst (v := 0) hx hb dX9_setBit_19 (by decide) ?_
    exact hret 20 ls 0 (Option.some.inj hinv) dX9_setBit_20
  · have hinv := oi_f c_1 hinv
    refine lv_iload_n hx hb dX9_setBit_4 rfl (lv_at hl 0 rfl) ?_
    refine lv_bipush (v := 14) hx hb dX9_setBit_5 (by decide) ?_
    refine lv_icmp_ge (tgt := 19) hx hb dX9_setBit_7 (by decide) (fun c_7 => ?_) (fun c_7 => ?_)
    · have hinv := oi_t c_7 hinv
      refine lv_iconst (v := 0) hx hb dX9_setBit_19 (by decide) ?_
      exact hret 20 ls 0 (Option.some.inj hinv) dX9_setBit_20
    · have hinv := oi_f c_7 hinv
      refine lv_iconst (v := 1) hx hb dX9_setBit_10 (by decide) ?_
      refine lv_bipush (v := 13) hx hb dX9_setBit_11 (by decide) ?_
      refine lv_iload_n hx hb dX9_setBit_13 rfl (lv_at hl 0 rfl) ?_
      refine lv_isub hx hb dX9_setBit_14 ?_
      refine lv_ishl hx hb dX9_setBit_15 ?_
      refine lv_goto (tgt := 20) hx hb dX9_setBit_16 (by decide) ?_
      exact hret 20 ls ((1 : Int32) <<< ((13 - za0) &&& 31)) (Option.some.inj hinv) dX9_setBit_20
def m_X9_followsInBody (F : Nat) (za0 : Int32) (za1 : Int32) : Option (Int32) := if za0 = 0 then (some (1 : Int32)) else (if za1 = 0 then (some (0 : Int32)) else (if za0 = za1 then (some (0 : Int32)) else (some (1 : Int32))))
set_option maxHeartbeats 4000000 in
set_option maxRecDepth 100000 in
theorem c_X9_followsInBody {l : Launch} {D : va_G} {cy : Nat → Nat} {g : Nat → Nat} {N : Nat} {X : Nat → Nat → Int32} {F : Nat} {za0 : Int32} {za1 : Int32} {R0 : Int32} (hfl : l.stackTraces = false) (hN : 47 ≤ N) (hinv : m_X9_followsInBody F za0 za1 = some R0) : sRi l D cy yX9_followsInBody cX9_followsInBody 2 (some .boolean) 0 [.int za0, .int za1] g N X R0 := by
  refine jRz (own := RX9) (by decide) rfl hfl (Nat.le_of_ble_eq_true rfl) rfl ?_
  intro p e R s m args below meth c ls A Q hRe C hw hl hret
  subst hRe
  have hx := C.1
  have hb := C.2.1
  have hl : lv_has ls 2 [(0, .int za0), (1, .int za1)] := hl
  rw [m_X9_followsInBody] at hinv
  refine lv_iload_n hx hb dX9_followsInBody_0 rfl (lv_at hl 0 rfl) ?_
  refine lv_if_eq (tgt := 13) hx hb dX9_followsInBody_1 (by decide) (fun c_1 => ?_) (fun c_1 => ?_)
  · have hinv := oi_t c_1 hinv
    refine lv_iconst (v := 1) hx hb dX9_followsInBody_13 (by decide) ?_
    refine lv_goto (tgt := 18) hx hb dX9_followsInBody_14 (by decide) ?_
    exact hret 18 ls 1 (Option.some.inj hinv) (by decide) dX9_followsInBody_18
  · have hinv := oi_f c_1 hinv
    refine lv_iload_n hx hb dX9_followsInBody_4 rfl (lv_at hl 1 rfl) ?_
    refine lv_if_eq (tgt := 17) hx hb dX9_followsInBody_5 (by decide) (fun c_5 => ?_) (fun c_5 => ?_)
    · have hinv := oi_t c_5 hinv
      refine lv_iconst (v := 0) hx hb dX9_followsInBody_17 (by decide) ?_
      exact hret 18 ls 0 (Option.some.inj hinv) (by decide) dX9_followsInBody_18
    · have hinv := oi_f c_5 hinv
      refine lv_iload_n hx hb dX9_followsInBody_8 rfl (lv_at hl 0 rfl) ?_
      refine lv_iload_n hx hb dX9_followsInBody_9 rfl (lv_at hl 1 rfl) ?_
      refine lv_icmp_eq (tgt := 17) hx hb dX9_followsInBody_10 (by decide) (fun c_10 => ?_) (fun c_10 => ?_)
      · have hinv := oi_t c_10 hinv
        refine lv_iconst (v := 0) hx hb dX9_followsInBody_17 (by decide) ?_
        exact hret 18 ls 0 (Option.some.inj hinv) (by decide) dX9_followsInBody_18
      · have hinv := oi_f c_10 hinv
        refine lv_iconst (v := 1) hx hb dX9_followsInBody_13 (by decide) ?_
        refine lv_goto (tgt := 18) hx hb dX9_followsInBody_14 (by decide) ?_
        exact hret 18 ls 1 (Option.some.inj hinv) (by decide) dX9_followsInBody_18
def m_X2_has (F : Nat) (r2 : Nat → Int32) (za1 : Int32) : Option (Int32) := Option.bind (m_X9_isLiteralOrNone F za1) (fun zu1 => if zu1 = 0 then (some (0 : Int32)) else (if ¬ ((za1 + 10) < 0 ∨ 21 ≤ (za1 + 10).toNatClampNeg) then (if (r2 (za1 + 10).toNatClampNeg) = 0 then (some (0 : Int32)) else (some (1 : Int32))) else none))
set_option maxHeartbeats 4000000 in
set_option maxRecDepth 100000 in
theorem c_X2_has {l : Launch} {D : va_G} {cy : Nat → Nat} {g : Nat → Nat} {N : Nat} {X : Nat → Nat → Int32} {F : Nat} {za1 : Int32} {R0 : Int32} (hfl : l.stackTraces = false) (hN : 47 ≤ N) (hinv : m_X2_has F (X 2) za1 = some R0) : sRi l D cy yX2_has cX2_has 2 (some .boolean) 1 [.ref (g 1), .int za1] g N X R0 := by
  refine jRz (own := RX2) (by decide) rfl hfl (Nat.le_of_ble_eq_true rfl) rfl ?_
  intro p e R s m args below meth c ls A Q hRe C hw hl hret
  subst hRe
  have hx := C.1
  have hb := C.2.1
  have hl : lv_has ls 2 [(0, .ref (g 1)), (1, .int za1)] := hl
  rw [m_X2_has] at hinv
  refine lv_iload_n hx hb dX2_has_0 rfl (lv_at hl 1 rfl) ?_
  obtain ⟨zu1, hzu1, hinv⟩ := ob hinv
  refine s_nRi (r0 := zu1) C hw (As := [.int za1]) bX9_isLiteralOrNone k860 (c_X9_isLiteralOrNone (X := X) hfl hN hzu1) rfl rfl dX2_has_1 ⟨rfl, rfl⟩ (by decide) hl.1 (Nat.le_of_ble_eq_true rfl) ⟨Nat.le_of_ble_eq_true rfl, Nat.le_of_ble_eq_true rfl⟩ ?_
  refine lv_if_eq (tgt := 23) hx hb dX2_has_4 (by decide) (fun c_4 => ?_) (fun c_4 => ?_)
  · have hinv := oi_t c_4 hinv
    refine lv_iconst (v := 0) hx hb dX2_has_23 (by decide) ?_
    exact hret 24 ls 0 (Option.some.inj hinv) (by decide) dX2_has_24
  · have hinv := oi_f c_4 hinv
    refine lv_aload_n hx hb dX2_has_7 rfl (lv_at hl 0 rfl) ?_
    refine w_get C hw (k := 1) (v := .ref (g 2)) (j := 0) (q47 hN rfl) (sh_1 g cy _) rfl (by decide) k16 rfl dX2_has_8 ?_
    refine lv_iload_n hx hb dX2_has_11 rfl (lv_at hl 1 rfl) ?_
    refine lv_bipush (v := 10) hx hb dX2_has_12 (by decide) ?_
    refine lv_iadd hx hb dX2_has_14 ?_
    obtain ⟨hb_15, hinv⟩ := oi_c hinv
    refine s_zald C hw (k := 2) (a := (X 2)) (q47 hN rfl) (fun r => sh_2 g cy r) rfl hb_15 dX2_has_15 ?_
    refine lv_if_eq (tgt := 23) hx hb dX2_has_16 (by decide) (fun c_16 => ?_) (fun c_16 => ?_)
    · have hinv := oi_t c_16 hinv
      refine lv_iconst (v := 0) hx hb dX2_has_23 (by decide) ?_
      exact hret 24 ls 0 (Option.some.inj hinv) (by decide) dX2_has_24
    · have hinv := oi_f c_16 hinv
      refine lv_iconst (v := 1) hx hb dX2_has_19 (by decide) ?_
      refine lv_goto (tgt := 24) hx hb dX2_has_20 (by decide) ?_
      exact hret 24 ls 1 (Option.some.inj hinv) (by decide) dX2_has_24
def m_X2_put (F : Nat) (r1 : Nat → Int32) (r2 : Nat → Int32) (za1 : Int32) : Option ((Nat → Int32) × (Nat → Int32)) := Option.bind (m_X9_isLiteralOrNone F za1) (fun zu1 => if zu1 = 0 then (some (r1, r2)) else (Option.bind (m_X2_has F r2 za1) (fun zu2 => if zu2 = 0 then (if ¬ ((za1 + 10) < 0 ∨ 21 ≤ (za1 + 10).toNatClampNeg) then (some ((upd r1 1 ((r1 1) + 1)), (upd r2 (za1 + 10).toNatClampNeg 1))) else none) else (some (r1, r2)))))
set_option maxHeartbeats 4000000 in
set_option maxRecDepth 100000 in
theorem c_X2_put {l : Launch} {D : va_G} {cy : Nat → Nat} {g : Nat → Nat} {N : Nat} {X : Nat → Nat → Int32} {F : Nat} {za1 : Int32} {R0 : (Nat → Int32) × (Nat → Int32)} (hfl : l.stackTraces = false) (hN : 47 ≤ N) (hinv : m_X2_put F (X 1) (X 2) za1 = some R0) : sWv l D cy yX2_put cX2_put 2 none 2 0 0 [.ref (g 1), .int za1] g N X (up (up X 1 R0.1) 2 R0.2) := by
  refine jWv (own := RX2) (by decide) rfl hfl (Nat.le_of_ble_eq_true rfl) rfl ?_
  intro p e R s m args below meth c ls A Q hRe C hw hl hret
  subst hRe
  have hx := C.1
  have hb := C.2.1
  have hl : lv_has ls 2 [(0, .ref (g 1)), (1, .int za1)] := hl
  rw [m_X2_put] at hinv
  refine lv_iload_n hx hb dX2_put_0 rfl (lv_at hl 1 rfl) ?_
  obtain ⟨zu1, hzu1, hinv⟩ := ob hinv
  refine s_nRi (r0 := zu1) C hw (As := [.int za1]) bX9_isLiteralOrNone k860 (c_X9_isLiteralOrNone (X := X) hfl hN hzu1) rfl rfl dX2_put_1 ⟨rfl, rfl⟩ (by decide) hl.1 (Nat.le_of_ble_eq_true rfl) ⟨Nat.le_of_ble_eq_true rfl, Nat.le_of_ble_eq_true rfl⟩ ?_
  refine lv_if_eq (tgt := 35) hx hb dX2_put_4 (by decide) (fun c_4 => ?_) (fun c_4 => ?_)
  · have hinv := oi_t c_4 hinv
    have hR0 := (Option.some.inj hinv).symm
    subst hR0
    have hXe : X = (up (up X 1 (X 1)) 2 (X 2)) := by
      funext j
      by_cases h1 : j = 1
      · subst h1; simp [up]
      by_cases h2 : j = 2
      · subst h2; simp [up]
      simp [up, h1, h2]
    rw [hXe] at hw
    exact hret 35 ls _ _ _ _ hw (by decide) (by decide) dX2_put_35
  · have hinv := oi_f c_4 hinv
    refine lv_aload_n hx hb dX2_put_7 rfl (lv_at hl 0 rfl) ?_
    refine lv_iload_n hx hb dX2_put_8 rfl (lv_at hl 1 rfl) ?_
    obtain ⟨zu2, hzu2, hinv⟩ := ob hinv
    refine s_vRi (r0 := zu2) C hw (As := [.int za1]) bX2_has k124 (k := 1) (q47 hN rfl) (sh_1 g cy _) rfl (c_X2_has (X := X) hfl hN hzu2) rfl rfl dX2_put_9 ⟨rfl, rfl⟩ (by decide) hl.1 (Nat.le_of_ble_eq_true rfl) ⟨Nat.le_of_ble_eq_true rfl, Nat.le_of_ble_eq_true rfl⟩ ?_
    refine lv_if_ne (tgt := 35) hx hb dX2_put_12 (by decide) (fun c_12 => ?_) (fun c_12 => ?_)
    · have hinv := oi_f c_12 hinv
      have hR0 := (Option.some.inj hinv).symm
      subst hR0
      have hXe : X = (up (up X 1 (X 1)) 2 (X 2)) := by
        funext j
        by_cases h1 : j = 1
        · subst h1; simp [up]
        by_cases h2 : j = 2
        · subst h2; simp [up]
        simp [up, h1, h2]
      rw [hXe] at hw
      exact hret 35 ls _ _ _ _ hw (by decide) (by decide) dX2_put_35
    · have hinv := oi_t c_12 hinv
      refine lv_aload_n hx hb dX2_put_15 rfl (lv_at hl 0 rfl) ?_
      refine w_get C hw (k := 1) (v := .ref (g 2)) (j := 0) (q47 hN rfl) (sh_1 g cy _) rfl (by decide) k16 rfl dX2_put_16 ?_
      refine lv_iload_n hx hb dX2_put_19 rfl (lv_at hl 1 rfl) ?_
      refine lv_bipush (v := 10) hx hb dX2_put_20 (by decide) ?_
      refine lv_iadd hx hb dX2_put_22 ?_
      refine lv_iconst (v := 1) hx hb dX2_put_23 (by decide) ?_
      obtain ⟨hb_24, hinv⟩ := oi_c hinv
      refine s_zast C hw (k := 2) (a := (X 2)) (q47 hN rfl) (fun r => sh_2 g cy r) rfl (by decide) hb_24 dX2_put_24 (fun H locs zw24 hw24 hw => ?_)
      try rw [← hw24] at hinv
      refine lv_aload_n hx hb dX2_put_25 rfl (lv_at hl 0 rfl) ?_
      refine lv_dup hx hb dX2_put_26 rfl ?_
      refine w_get C hw (k := 1) (v := .int ((X 1) 1)) (j := 1) (q47 hN rfl) (sh_1 g cy _) rfl (by decide) k123 rfl dX2_put_27 ?_
      refine lv_iconst (v := 1) hx hb dX2_put_30 (by decide) ?_
      refine lv_iadd hx hb dX2_put_31 ?_
      refine s_put C hw (k := 1) (row := (upd (X 1) 1 (((X 1) 1) + 1))) (ty := tyX2) (v := .int (((X 1) 1) + 1)) (j := 1) (q47 hN rfl) (sh_1 g cy _) rfl tyX2_ok nmX2 (by decide) k123 rfl rfl rfl (Nat.le_of_ble_eq_true rfl) (sh_1 g cy _) dX2_put_32 (fun H locs hw => ?_)
      have hR0 := (Option.some.inj hinv).symm
      subst hR0
      have hXe : (up (up X 2 zw24) 1 (upd (X 1) 1 (((X 1) 1) + 1))) = (up (up X 1 (upd (X 1) 1 (((X 1) 1) + 1))) 2 zw24) := by
        funext j
        by_cases h1 : j = 1
        · subst h1; simp [up]
        by_cases h2 : j = 2
        · subst h2; simp [up]
        simp [up, h1, h2]
      rw [hXe] at hw
      exact hret 35 ls _ _ _ _ hw (by decide) (by decide) dX2_put_35
def m_X2_drop (F : Nat) (r1 : Nat → Int32) (r2 : Nat → Int32) (za1 : Int32) : Option ((Nat → Int32) × (Nat → Int32)) := Option.bind (m_X2_has F r2 za1) (fun zu1 => if zu1 = 0 then (some (r1, r2)) else (if ¬ ((za1 + 10) < 0 ∨ 21 ≤ (za1 + 10).toNatClampNeg) then (some ((upd r1 1 ((r1 1) - 1)), (upd r2 (za1 + 10).toNatClampNeg 0))) else none))
set_option maxHeartbeats 4000000 in
set_option maxRecDepth 100000 in
theorem c_X2_drop {l : Launch} {D : va_G} {cy : Nat → Nat} {g : Nat → Nat} {N : Nat} {X : Nat → Nat → Int32} {F : Nat} {za1 : Int32} {R0 : (Nat → Int32) × (Nat → Int32)} (hfl : l.stackTraces = false) (hN : 47 ≤ N) (hinv : m_X2_drop F (X 1) (X 2) za1 = some R0) : sWv l D cy yX2_drop cX2_drop 2 none 2 0 0 [.ref (g 1), .int za1] g N X (up (up X 1 R0.1) 2 R0.2) := by
  refine jWv (own := RX2) (by decide) rfl hfl (Nat.le_of_ble_eq_true rfl) rfl ?_
  intro p e R s m args below meth c ls A Q hRe C hw hl hret
  subst hRe
  have hx := C.1
  have hb := C.2.1
  have hl : lv_has ls 2 [(0, .ref (g 1)), (1, .int za1)] := hl
  rw [m_X2_drop] at hinv
  refine lv_aload_n hx hb dX2_drop_0 rfl (lv_at hl 0 rfl) ?_
  refine lv_iload_n hx hb dX2_drop_1 rfl (lv_at hl 1 rfl) ?_
  obtain ⟨zu1, hzu1, hinv⟩ := ob hinv
  refine s_vRi (r0 := zu1) C hw (As := [.int za1]) bX2_has k124 (k := 1) (q47 hN rfl) (sh_1 g cy _) rfl (c_X2_has (X := X) hfl hN hzu1) rfl rfl dX2_drop_2 ⟨rfl, rfl⟩ (by decide) hl.1 (Nat.le_of_ble_eq_true rfl) ⟨Nat.le_of_ble_eq_true rfl, Nat.le_of_ble_eq_true rfl⟩ ?_
  refine lv_if_eq (tgt := 28) hx hb dX2_drop_5 (by decide) (fun c_5 => ?_) (fun c_5 => ?_)
  · have hinv := oi_t c_5 hinv
    have hR0 := (Option.some.inj hinv).symm
    subst hR0
    have hXe : X = (up (up X 1 (X 1)) 2 (X 2)) := by
      funext j
      by_cases h1 : j = 1
      · subst h1; simp [up]
      by_cases h2 : j = 2
      · subst h2; simp [up]
      simp [up, h1, h2]
    rw [hXe] at hw
    exact hret 28 ls _ _ _ _ hw (by decide) (by decide) dX2_drop_28
  · have hinv := oi_f c_5 hinv
    refine lv_aload_n hx hb dX2_drop_8 rfl (lv_at hl 0 rfl) ?_
    refine w_get C hw (k := 1) (v := .ref (g 2)) (j := 0) (q47 hN rfl) (sh_1 g cy _) rfl (by decide) k16 rfl dX2_drop_9 ?_
    refine lv_iload_n hx hb dX2_drop_12 rfl (lv_at hl 1 rfl) ?_
    refine lv_bipush (v := 10) hx hb dX2_drop_13 (by decide) ?_
    refine lv_iadd hx hb dX2_drop_15 ?_
    refine lv_iconst (v := 0) hx hb dX2_drop_16 (by decide) ?_
    obtain ⟨hb_17, hinv⟩ := oi_c hinv
    refine s_zast C hw (k := 2) (a := (X 2)) (q47 hN rfl) (fun r => sh_2 g cy r) rfl (by decide) hb_17 dX2_drop_17 (fun H locs zw17 hw17 hw => ?_)
    try rw [← hw17] at hinv
    refine lv_aload_n hx hb dX2_drop_18 rfl (lv_at hl 0 rfl) ?_
    refine lv_dup hx hb dX2_drop_19 rfl ?_
    refine w_get C hw (k := 1) (v := .int ((X 1) 1)) (j := 1) (q47 hN rfl) (sh_1 g cy _) rfl (by decide) k123 rfl dX2_drop_20 ?_
    refine lv_iconst (v := 1) hx hb dX2_drop_23 (by decide) ?_
    refine lv_isub hx hb dX2_drop_24 ?_
    refine s_put C hw (k := 1) (row := (upd (X 1) 1 (((X 1) 1) - 1))) (ty := tyX2) (v := .int (((X 1) 1) - 1)) (j := 1) (q47 hN rfl) (sh_1 g cy _) rfl tyX2_ok nmX2 (by decide) k123 rfl rfl rfl (Nat.le_of_ble_eq_true rfl) (sh_1 g cy _) dX2_drop_25 (fun H locs hw => ?_)
    have hR0 := (Option.some.inj hinv).symm
    subst hR0
    have hXe : (up (up X 2 zw17) 1 (upd (X 1) 1 (((X 1) 1) - 1))) = (up (up X 1 (upd (X 1) 1 (((X 1) 1) - 1))) 2 zw17) := by
      funext j
      by_cases h1 : j = 1
      · subst h1; simp [up]
      by_cases h2 : j = 2
      · subst h2; simp [up]
      simp [up, h1, h2]
    rw [hXe] at hw
    exact hret 28 ls _ _ _ _ hw (by decide) (by decide) dX2_drop_28
def m_X0_conclusionAt (F : Nat) (r7 : Nat → Int32) (za1 : Int32) : Option (Int32) := if za1 < 0 then (some (0 : Int32)) else (if 24 ≤ za1 then (some (0 : Int32)) else (if ¬ (za1 < 0 ∨ 24 ≤ za1.toNatClampNeg) then (some (r7 za1.toNatClampNeg)) else none))
set_option maxHeartbeats 4000000 in
set_option maxRecDepth 100000 in
theorem c_X0_conclusionAt {l : Launch} {D : va_G} {cy : Nat → Nat} {g : Nat → Nat} {N : Nat} {X : Nat → Nat → Int32} {F : Nat} {za1 : Int32} {R0 : Int32} (hfl : l.stackTraces = false) (hN : 47 ≤ N) (hinv : m_X0_conclusionAt F (X 7) za1 = some R0) : sRi l D cy yX0_conclusionAt cX0_conclusionAt 2 (some .int) 0 [.ref (g 6), .int za1] g N X R0 := by
  refine jRi (own := RX0) (by decide) rfl hfl (Nat.le_of_ble_eq_true rfl) rfl ?_
  intro p e R s m args below meth c ls A Q hRe C hw hl hret
  subst hRe
  have hx := C.1
  have hb := C.2.1
  have hl : lv_has ls 2 [(0, .ref (g 6)), (1, .int za1)] := hl
  rw [m_X0_conclusionAt] at hinv
  refine lv_iload_n hx hb dX0_conclusionAt_0 rfl (lv_at hl 1 rfl) ?_
  refine lv_if_lt (tgt := 19) hx hb dX0_conclusionAt_1 (by decide) (fun c_1 => ?_) (fun c_1 => ?_)
  · have hinv := oi_t c_1 hinv
    refine lv_iconst (v := 0) hx hb dX0_conclusionAt_19 (by decide) ?_
    exact hret 20 ls 0 (Option.some.inj hinv) dX0_conclusionAt_20
  · have hinv := oi_f c_1 hinv
    refine lv_iload_n hx hb dX0_conclusionAt_4 rfl (lv_at hl 1 rfl) ?_
    refine lv_bipush (v := 24) hx hb dX0_conclusionAt_5 (by decide) ?_
    refine lv_icmp_ge (tgt := 19) hx hb dX0_conclusionAt_7 (by decide) (fun c_7 => ?_) (fun c_7 => ?_)
    · have hinv := oi_t c_7 hinv
      refine lv_iconst (v := 0) hx hb dX0_conclusionAt_19 (by decide) ?_
      exact hret 20 ls 0 (Option.some.inj hinv) dX0_conclusionAt_20
    · have hinv := oi_f c_7 hinv
      refine lv_aload_n hx hb dX0_conclusionAt_10 rfl (lv_at hl 0 rfl) ?_
      refine w_get C hw (k := 6) (v := .ref (g 7)) (j := 0) (q47 hN rfl) (sh_6 g cy _) rfl (by decide) k4 rfl dX0_conclusionAt_11 ?_
      refine lv_iload_n hx hb dX0_conclusionAt_14 rfl (lv_at hl 1 rfl) ?_
      obtain ⟨hb_15, hinv⟩ := oi_c hinv
      refine s_iald C hw (k := 7) (a := (X 7)) (q47 hN rfl) (fun r => sh_7 g cy r) rfl hb_15 dX0_conclusionAt_15 ?_
      refine lv_goto (tgt := 20) hx hb dX0_conclusionAt_16 (by decide) ?_
      exact hret 20 ls ((X 7) za1.toNatClampNeg) (Option.some.inj hinv) dX0_conclusionAt_20
def m_X0_makerAt (F : Nat) (r8 : Nat → Int32) (za1 : Int32) : Option (Int32) := if za1 < 0 then (some ((-1) : Int32)) else (if 24 ≤ za1 then (some ((-1) : Int32)) else (if ¬ (za1 < 0 ∨ 24 ≤ za1.toNatClampNeg) then (some (r8 za1.toNatClampNeg)) else none))
set_option maxHeartbeats 4000000 in
set_option maxRecDepth 100000 in
theorem c_X0_makerAt {l : Launch} {D : va_G} {cy : Nat → Nat} {g : Nat → Nat} {N : Nat} {X : Nat → Nat → Int32} {F : Nat} {za1 : Int32} {R0 : Int32} (hfl : l.stackTraces = false) (hN : 47 ≤ N) (hinv : m_X0_makerAt F (X 8) za1 = some R0) : sRi l D cy yX0_makerAt cX0_makerAt 2 (some .int) 0 [.ref (g 6), .int za1] g N X R0 := by
  refine jRi (own := RX0) (by decide) rfl hfl (Nat.le_of_ble_eq_true rfl) rfl ?_
  intro p e R s m args below meth c ls A Q hRe C hw hl hret
  subst hRe
  have hx := C.1
  have hb := C.2.1
  have hl : lv_has ls 2 [(0, .ref (g 6)), (1, .int za1)] := hl
  rw [m_X0_makerAt] at hinv
  refine lv_iload_n hx hb dX0_makerAt_0 rfl (lv_at hl 1 rfl) ?_
  refine lv_if_lt (tgt := 19) hx hb dX0_makerAt_1 (by decide) (fun c_1 => ?_) (fun c_1 => ?_)
  · have hinv := oi_t c_1 hinv
    refine lv_iconst (v := (-1)) hx hb dX0_makerAt_19 (by decide) ?_
    exact hret 20 ls (-1) (Option.some.inj hinv) dX0_makerAt_20
  · have hinv := oi_f c_1 hinv
    refine lv_iload_n hx hb dX0_makerAt_4 rfl (lv_at hl 1 rfl) ?_
    refine lv_bipush (v := 24) hx hb dX0_makerAt_5 (by decide) ?_
    refine lv_icmp_ge (tgt := 19) hx hb dX0_makerAt_7 (by decide) (fun c_7 => ?_) (fun c_7 => ?_)
    · have hinv := oi_t c_7 hinv
      refine lv_iconst (v := (-1)) hx hb dX0_makerAt_19 (by decide) ?_
      exact hret 20 ls (-1) (Option.some.inj hinv) dX0_makerAt_20
    · have hinv := oi_f c_7 hinv
      refine lv_aload_n hx hb dX0_makerAt_10 rfl (lv_at hl 0 rfl) ?_
      refine w_get C hw (k := 6) (v := .ref (g 8)) (j := 1) (q47 hN rfl) (sh_6 g cy _) rfl (by decide) k5 rfl dX0_makerAt_11 ?_
      refine lv_iload_n hx hb dX0_makerAt_14 rfl (lv_at hl 1 rfl) ?_
      obtain ⟨hb_15, hinv⟩ := oi_c hinv
      refine s_iald C hw (k := 8) (a := (X 8)) (q47 hN rfl) (fun r => sh_8 g cy r) rfl hb_15 dX0_makerAt_15 ?_
      refine lv_goto (tgt := 20) hx hb dX0_makerAt_16 (by decide) ?_
      exact hret 20 ls ((X 8) za1.toNatClampNeg) (Option.some.inj hinv) dX0_makerAt_20
def m_X0_depthAt (F : Nat) (r9 : Nat → Int32) (za1 : Int32) : Option (Int32) := if za1 < 0 then (some (0 : Int32)) else (if 24 ≤ za1 then (some (0 : Int32)) else (if ¬ (za1 < 0 ∨ 24 ≤ za1.toNatClampNeg) then (some (r9 za1.toNatClampNeg)) else none))
set_option maxHeartbeats 4000000 in
set_option maxRecDepth 100000 in
theorem c_X0_depthAt {l : Launch} {D : va_G} {cy : Nat → Nat} {g : Nat → Nat} {N : Nat} {X : Nat → Nat → Int32} {F : Nat} {za1 : Int32} {R0 : Int32} (hfl : l.stackTraces = false) (hN : 47 ≤ N) (hinv : m_X0_depthAt F (X 9) za1 = some R0) : sRi l D cy yX0_depthAt cX0_depthAt 2 (some .int) 0 [.ref (g 6), .int za1] g N X R0 := by
  refine jRi (own := RX0) (by decide) rfl hfl (Nat.le_of_ble_eq_true rfl) rfl ?_
  intro p e R s m args below meth c ls A Q hRe C hw hl hret
  subst hRe
  have hx := C.1
  have hb := C.2.1
  have hl : lv_has ls 2 [(0, .ref (g 6)), (1, .int za1)] := hl
  rw [m_X0_depthAt] at hinv
  refine lv_iload_n hx hb dX0_depthAt_0 rfl (lv_at hl 1 rfl) ?_
  refine lv_if_lt (tgt := 19) hx hb dX0_depthAt_1 (by decide) (fun c_1 => ?_) (fun c_1 => ?_)
  · have hinv := oi_t c_1 hinv
    refine lv_iconst (v := 0) hx hb dX0_depthAt_19 (by decide) ?_
    exact hret 20 ls 0 (Option.some.inj hinv) dX0_depthAt_20
  · have hinv := oi_f c_1 hinv
    refine lv_iload_n hx hb dX0_depthAt_4 rfl (lv_at hl 1 rfl) ?_
    refine lv_bipush (v := 24) hx hb dX0_depthAt_5 (by decide) ?_
    refine lv_icmp_ge (tgt := 19) hx hb dX0_depthAt_7 (by decide) (fun c_7 => ?_) (fun c_7 => ?_)
    · have hinv := oi_t c_7 hinv
      refine lv_iconst (v := 0) hx hb dX0_depthAt_19 (by decide) ?_
      exact hret 20 ls 0 (Option.some.inj hinv) dX0_depthAt_20
    · have hinv := oi_f c_7 hinv
      refine lv_aload_n hx hb dX0_depthAt_10 rfl (lv_at hl 0 rfl) ?_
      refine w_get C hw (k := 6) (v := .ref (g 9)) (j := 2) (q47 hN rfl) (sh_6 g cy _) rfl (by decide) k6 rfl dX0_depthAt_11 ?_
      refine lv_iload_n hx hb dX0_depthAt_14 rfl (lv_at hl 1 rfl) ?_
      obtain ⟨hb_15, hinv⟩ := oi_c hinv
      refine s_iald C hw (k := 9) (a := (X 9)) (q47 hN rfl) (fun r => sh_9 g cy r) rfl hb_15 dX0_depthAt_15 ?_
      refine lv_goto (tgt := 20) hx hb dX0_depthAt_16 (by decide) ?_
      exact hret 20 ls ((X 9) za1.toNatClampNeg) (Option.some.inj hinv) dX0_depthAt_20
def m_X0_partAt (F : Nat) (r10 : Nat → Int32) (za1 : Int32) (za2 : Int32) : Option (Int32) := if za1 < 0 then (some ((-1) : Int32)) else (if 24 ≤ za1 then (some ((-1) : Int32)) else (if za2 < 0 then (some ((-1) : Int32)) else (if za2 < 3 then (if ¬ (((za1 * 3) + za2) < 0 ∨ 72 ≤ ((za1 * 3) + za2).toNatClampNeg) then (some (r10 ((za1 * 3) + za2).toNatClampNeg)) else none) else (some ((-1) : Int32)))))
set_option maxHeartbeats 4000000 in
set_option maxRecDepth 100000 in
theorem c_X0_partAt {l : Launch} {D : va_G} {cy : Nat → Nat} {g : Nat → Nat} {N : Nat} {X : Nat → Nat → Int32} {F : Nat} {za1 : Int32} {za2 : Int32} {R0 : Int32} (hfl : l.stackTraces = false) (hN : 47 ≤ N) (hinv : m_X0_partAt F (X 10) za1 za2 = some R0) : sRi l D cy yX0_partAt cX0_partAt 3 (some .int) 0 [.ref (g 6), .int za1, .int za2] g N X R0 := by
  refine jRi (own := RX0) (by decide) rfl hfl (Nat.le_of_ble_eq_true rfl) rfl ?_
  intro p e R s m args below meth c ls A Q hRe C hw hl hret
  subst hRe
  have hx := C.1
  have hb := C.2.1
  have hl : lv_has ls 3 [(0, .ref (g 6)), (1, .int za1), (2, .int za2)] := hl
  rw [m_X0_partAt] at hinv
  refine lv_iload_n hx hb dX0_partAt_0 rfl (lv_at hl 1 rfl) ?_
  refine lv_if_lt (tgt := 19) hx hb dX0_partAt_1 (by decide) (fun c_1 => ?_) (fun c_1 => ?_)
  · have hinv := oi_t c_1 hinv
    refine lv_iconst (v := (-1)) hx hb dX0_partAt_19 (by decide) ?_
    exact hret 20 ls (-1) (Option.some.inj hinv) dX0_partAt_20
  · have hinv := oi_f c_1 hinv
    refine lv_iload_n hx hb dX0_partAt_4 rfl (lv_at hl 1 rfl) ?_
    refine lv_bipush (v := 24) hx hb dX0_partAt_5 (by decide) ?_
    refine lv_icmp_ge (tgt := 19) hx hb dX0_partAt_7 (by decide) (fun c_7 => ?_) (fun c_7 => ?_)
    · have hinv := oi_t c_7 hinv
      refine lv_iconst (v := (-1)) hx hb dX0_partAt_19 (by decide) ?_
      exact hret 20 ls (-1) (Option.some.inj hinv) dX0_partAt_20
    · have hinv := oi_f c_7 hinv
      refine lv_iload_n hx hb dX0_partAt_10 rfl (lv_at hl 2 rfl) ?_
      refine lv_if_lt (tgt := 19) hx hb dX0_partAt_11 (by decide) (fun c_11 => ?_) (fun c_11 => ?_)
      · have hinv := oi_t c_11 hinv
        refine lv_iconst (v := (-1)) hx hb dX0_partAt_19 (by decide) ?_
        exact hret 20 ls (-1) (Option.some.inj hinv) dX0_partAt_20
      · have hinv := oi_f c_11 hinv
        refine lv_iload_n hx hb dX0_partAt_14 rfl (lv_at hl 2 rfl) ?_
        refine lv_iconst (v := 3) hx hb dX0_partAt_15 (by decide) ?_
        refine lv_icmp_lt (tgt := 21) hx hb dX0_partAt_16 (by decide) (fun c_16 => ?_) (fun c_16 => ?_)
        · have hinv := oi_t c_16 hinv
          refine lv_aload_n hx hb dX0_partAt_21 rfl (lv_at hl 0 rfl) ?_
          refine w_get C hw (k := 6) (v := .ref (g 10)) (j := 3) (q47 hN rfl) (sh_6 g cy _) rfl (by decide) k7 rfl dX0_partAt_22 ?_
          refine lv_iload_n hx hb dX0_partAt_25 rfl (lv_at hl 1 rfl) ?_
          refine lv_iconst (v := 3) hx hb dX0_partAt_26 (by decide) ?_
          refine lv_imul hx hb dX0_partAt_27 ?_
          refine lv_iload_n hx hb dX0_partAt_28 rfl (lv_at hl 2 rfl) ?_
          refine lv_iadd hx hb dX0_partAt_29 ?_
          obtain ⟨hb_30, hinv⟩ := oi_c hinv
          refine s_iald C hw (k := 10) (a := (X 10)) (q47 hN rfl) (fun r => sh_10 g cy r) rfl hb_30 dX0_partAt_30 ?_
          exact hret 31 ls ((X 10) ((za1 * 3) + za2).toNatClampNeg) (Option.some.inj hinv) dX0_partAt_31
        · have hinv := oi_f c_16 hinv
          refine lv_iconst (v := (-1)) hx hb dX0_partAt_19 (by decide) ?_
          exact hret 20 ls (-1) (Option.some.inj hinv) dX0_partAt_20
def m_X0_reachedAt (F : Nat) (r11 : Nat → Int32) (za1 : Int32) : Option (Int32) := if za1 < 0 then (some (0 : Int32)) else (if 24 ≤ za1 then (some (0 : Int32)) else (if ¬ (za1 < 0 ∨ 24 ≤ za1.toNatClampNeg) then (some (r11 za1.toNatClampNeg)) else none))
set_option maxHeartbeats 4000000 in
set_option maxRecDepth 100000 in
theorem c_X0_reachedAt {l : Launch} {D : va_G} {cy : Nat → Nat} {g : Nat → Nat} {N : Nat} {X : Nat → Nat → Int32} {F : Nat} {za1 : Int32} {R0 : Int32} (hfl : l.stackTraces = false) (hN : 47 ≤ N) (hinv : m_X0_reachedAt F (X 11) za1 = some R0) : sRi l D cy yX0_reachedAt cX0_reachedAt 2 (some .int) 0 [.ref (g 6), .int za1] g N X R0 := by
  refine jRi (own := RX0) (by decide) rfl hfl (Nat.le_of_ble_eq_true rfl) rfl ?_
  intro p e R s m args below meth c ls A Q hRe C hw hl hret
  subst hRe
  have hx := C.1
  have hb := C.2.1
  have hl : lv_has ls 2 [(0, .ref (g 6)), (1, .int za1)] := hl
  rw [m_X0_reachedAt] at hinv
  refine lv_iload_n hx hb dX0_reachedAt_0 rfl (lv_at hl 1 rfl) ?_
  refine lv_if_lt (tgt := 19) hx hb dX0_reachedAt_1 (by decide) (fun c_1 => ?_) (fun c_1 => ?_)
  · have hinv := oi_t c_1 hinv
    refine lv_iconst (v := 0) hx hb dX0_reachedAt_19 (by decide) ?_
    exact hret 20 ls 0 (Option.some.inj hinv) dX0_reachedAt_20
  · have hinv := oi_f c_1 hinv
    refine lv_iload_n hx hb dX0_reachedAt_4 rfl (lv_at hl 1 rfl) ?_
    refine lv_bipush (v := 24) hx hb dX0_reachedAt_5 (by decide) ?_
    refine lv_icmp_ge (tgt := 19) hx hb dX0_reachedAt_7 (by decide) (fun c_7 => ?_) (fun c_7 => ?_)
    · have hinv := oi_t c_7 hinv
      refine lv_iconst (v := 0) hx hb dX0_reachedAt_19 (by decide) ?_
      exact hret 20 ls 0 (Option.some.inj hinv) dX0_reachedAt_20
    · have hinv := oi_f c_7 hinv
      refine lv_aload_n hx hb dX0_reachedAt_10 rfl (lv_at hl 0 rfl) ?_
      refine w_get C hw (k := 6) (v := .ref (g 11)) (j := 4) (q47 hN rfl) (sh_6 g cy _) rfl (by decide) k8 rfl dX0_reachedAt_11 ?_
      refine lv_iload_n hx hb dX0_reachedAt_14 rfl (lv_at hl 1 rfl) ?_
      obtain ⟨hb_15, hinv⟩ := oi_c hinv
      refine s_iald C hw (k := 11) (a := (X 11)) (q47 hN rfl) (fun r => sh_11 g cy r) rfl hb_15 dX0_reachedAt_15 ?_
      refine lv_goto (tgt := 20) hx hb dX0_reachedAt_16 (by decide) ?_
      exact hret 20 ls ((X 11) za1.toNatClampNeg) (Option.some.inj hinv) dX0_reachedAt_20
def m_X0_choicesStart (F : Nat) (za0 : Int32) : Option (Int32) := if za0 = 0 then (some ((-1) : Int32)) else (some (0 : Int32))
set_option maxHeartbeats 4000000 in
set_option maxRecDepth 100000 in
theorem c_X0_choicesStart {l : Launch} {D : va_G} {cy : Nat → Nat} {g : Nat → Nat} {N : Nat} {X : Nat → Nat → Int32} {F : Nat} {za0 : Int32} {R0 : Int32} (hfl : l.stackTraces = false) (hN : 47 ≤ N) (hinv : m_X0_choicesStart F za0 = some R0) : sRi l D cy yX0_choicesStart cX0_choicesStart 1 (some .int) 0 [.int za0] g N X R0 := by
  refine jRi (own := RX0) (by decide) rfl hfl (Nat.le_of_ble_eq_true rfl) rfl ?_
  intro p e R s m args below meth c ls A Q hRe C hw hl hret
  subst hRe
  have hx := C.1
  have hb := C.2.1
  have hl : lv_has ls 1 [(0, .int za0)] := hl
  rw [m_X0_choicesStart] at hinv
  refine lv_iload_n hx hb dX0_choicesStart_0 rfl (lv_at hl 0 rfl) ?_
  refine lv_if_ne (tgt := 8) hx hb dX0_choicesStart_1 (by decide) (fun c_1 => ?_) (fun c_1 => ?_)
  · have hinv := oi_f c_1 hinv
    refine lv_iconst (v := 0) hx hb dX0_choicesStart_8 (by decide) ?_
    exact hret 9 ls 0 (Option.some.inj hinv) dX0_choicesStart_9
  · have hinv := oi_t c_1 hinv
    refine lv_iconst (v := (-1)) hx hb dX0_choicesStart_4 (by decide) ?_
    refine lv_goto (tgt := 9) hx hb dX0_choicesStart_5 (by decide) ?_
    exact hret 9 ls (-1) (Option.some.inj hinv) dX0_choicesStart_9
def m_X0_choicesEnd (F : Nat) (za0 : Int32) (za1 : Int32) : Option (Int32) := if za0 = 0 then (some (0 : Int32)) else (some za1)
set_option maxHeartbeats 4000000 in
set_option maxRecDepth 100000 in
theorem c_X0_choicesEnd {l : Launch} {D : va_G} {cy : Nat → Nat} {g : Nat → Nat} {N : Nat} {X : Nat → Nat → Int32} {F : Nat} {za0 : Int32} {za1 : Int32} {R0 : Int32} (hfl : l.stackTraces = false) (hN : 47 ≤ N) (hinv : m_X0_choicesEnd F za0 za1 = some R0) : sRi l D cy yX0_choicesEnd cX0_choicesEnd 2 (some .int) 0 [.int za0, .int za1] g N X R0 := by
  refine jRi (own := RX0) (by decide) rfl hfl (Nat.le_of_ble_eq_true rfl) rfl ?_
  intro p e R s m args below meth c ls A Q hRe C hw hl hret
  subst hRe
  have hx := C.1
  have hb := C.2.1
  have hl : lv_has ls 2 [(0, .int za0), (1, .int za1)] := hl
  rw [m_X0_choicesEnd] at hinv
  refine lv_iload_n hx hb dX0_choicesEnd_0 rfl (lv_at hl 0 rfl) ?_
  refine lv_if_ne (tgt := 8) hx hb dX0_choicesEnd_1 (by decide) (fun c_1 => ?_) (fun c_1 => ?_)
  · have hinv := oi_f c_1 hinv
    refine lv_iload_n hx hb dX0_choicesEnd_8 rfl (lv_at hl 1 rfl) ?_
    exact hret 9 ls za1 (Option.some.inj hinv) dX0_choicesEnd_9
  · have hinv := oi_t c_1 hinv
    refine lv_iconst (v := 0) hx hb dX0_choicesEnd_4 (by decide) ?_
    refine lv_goto (tgt := 9) hx hb dX0_choicesEnd_5 (by decide) ?_
    exact hret 9 ls 0 (Option.some.inj hinv) dX0_choicesEnd_9
def m_X0_literalBit (F : Nat) (za0 : Int32) : Option (Int32) := some ((1 : Int32) <<< ((za0 + 10) &&& 31))
set_option maxHeartbeats 4000000 in
set_option maxRecDepth 100000 in
theorem c_X0_literalBit {l : Launch} {D : va_G} {cy : Nat → Nat} {g : Nat → Nat} {N : Nat} {X : Nat → Nat → Int32} {F : Nat} {za0 : Int32} {R0 : Int32} (hfl : l.stackTraces = false) (hN : 47 ≤ N) (hinv : m_X0_literalBit F za0 = some R0) : sRi l D cy yX0_literalBit cX0_literalBit 1 (some .int) 0 [.int za0] g N X R0 := by
  refine jRi (own := RX0) (by decide) rfl hfl (Nat.le_of_ble_eq_true rfl) rfl ?_
  intro p e R s m args below meth c ls A Q hRe C hw hl hret
  subst hRe
  have hx := C.1
  have hb := C.2.1
  have hl : lv_has ls 1 [(0, .int za0)] := hl
  rw [m_X0_literalBit] at hinv
  refine lv_iconst (v := 1) hx hb dX0_literalBit_0 (by decide) ?_
  refine lv_iload_n hx hb dX0_literalBit_1 rfl (lv_at hl 0 rfl) ?_
  refine lv_bipush (v := 10) hx hb dX0_literalBit_2 (by decide) ?_
  refine lv_iadd hx hb dX0_literalBit_4 ?_
  refine lv_ishl hx hb dX0_literalBit_5 ?_
  exact hret 6 ls ((1 : Int32) <<< ((za0 + 10) &&& 31)) (Option.some.inj hinv) dX0_literalBit_6
def m_X0_fits (F : Nat) (r9 : Nat → Int32) (r11 : Nat → Int32) (za1 : Int32) (za2 : Int32) (za3 : Int32) (za4 : Int32) (za5 : Int32) : Option (Int32) := Option.bind (m_X0_depthAt F r9 za2) (fun zu1 => Option.bind (m_X0_depthAt F r9 za3) (fun zu2 => Option.bind (m_X0_depthAt F r9 za4) (fun zu3 => Option.bind (m_X0_reachedAt F r11 za2) (fun zu4 => Option.bind (m_X0_reachedAt F r11 za3) (fun zu5 => Option.bind (m_X0_reachedAt F r11 za4) (fun zu6 => if ((if zu1 < (if zu2 < zu3 then zu3 else zu2) then (if zu2 < zu3 then zu3 else zu2) else zu1) + 1) = za5 then (Option.bind (m_X0_literalBit F za1) (fun zu7 => if (((zu4 ||| zu5) ||| zu6) &&& zu7) = 0 then (some (1 : Int32)) else (some (0 : Int32)))) else (some (0 : Int32))))))))
set_option maxHeartbeats 4000000 in
set_option maxRecDepth 100000 in
theorem c_X0_fits {l : Launch} {D : va_G} {cy : Nat → Nat} {g : Nat → Nat} {N : Nat} {X : Nat → Nat → Int32} {F : Nat} {za1 : Int32} {za2 : Int32} {za3 : Int32} {za4 : Int32} {za5 : Int32} {R0 : Int32} (hfl : l.stackTraces = false) (hN : 47 ≤ N) (hinv : m_X0_fits F (X 9) (X 11) za1 za2 za3 za4 za5 = some R0) : sRi l D cy yX0_fits cX0_fits 8 (some .boolean) 1 [.ref (g 6), .int za1, .int za2, .int za3, .int za4, .int za5] g N X R0 := by
  refine jRz (own := RX0) (by decide) rfl hfl (Nat.le_of_ble_eq_true rfl) rfl ?_
  intro p e R s m args below meth c ls A Q hRe C hw hl hret
  subst hRe
  have hx := C.1
  have hb := C.2.1
  have hl : lv_has ls 8 [(0, .ref (g 6)), (1, .int za1), (2, .int za2), (3, .int za3), (4, .int za4), (5, .int za5)] := hl
  rw [m_X0_fits] at hinv
  refine lv_aload_n hx hb dX0_fits_0 rfl (lv_at hl 0 rfl) ?_
  refine lv_iload_n hx hb dX0_fits_1 rfl (lv_at hl 2 rfl) ?_
  obtain ⟨zu1, hzu1, hinv⟩ := ob hinv
  refine s_vRi (r0 := zu1) C hw (As := [.int za2]) bX0_depthAt k64 (k := 6) (q47 hN rfl) (sh_6 g cy _) rfl (c_X0_depthAt (X := X) hfl hN hzu1) rfl rfl dX0_fits_2 ⟨rfl, rfl⟩ (by decide) hl.1 (Nat.le_of_ble_eq_true rfl) ⟨Nat.le_of_ble_eq_true rfl, Nat.le_of_ble_eq_true rfl⟩ ?_
  refine lv_aload_n hx hb dX0_fits_5 rfl (lv_at hl 0 rfl) ?_
  refine lv_iload_n hx hb dX0_fits_6 rfl (lv_at hl 3 rfl) ?_
  obtain ⟨zu2, hzu2, hinv⟩ := ob hinv
  refine s_vRi (r0 := zu2) C hw (As := [.int za3]) bX0_depthAt k64 (k := 6) (q47 hN rfl) (sh_6 g cy _) rfl (c_X0_depthAt (X := X) hfl hN hzu2) rfl rfl dX0_fits_7 ⟨rfl, rfl⟩ (by decide) hl.1 (Nat.le_of_ble_eq_true rfl) ⟨Nat.le_of_ble_eq_true rfl, Nat.le_of_ble_eq_true rfl⟩ ?_
  refine lv_aload_n hx hb dX0_fits_10 rfl (lv_at hl 0 rfl) ?_
  refine lv_iload hx hb dX0_fits_11 (lv_at hl 4 rfl) ?_
  obtain ⟨zu3, hzu3, hinv⟩ := ob hinv
  refine s_vRi (r0 := zu3) C hw (As := [.int za4]) bX0_depthAt k64 (k := 6) (q47 hN rfl) (sh_6 g cy _) rfl (c_X0_depthAt (X := X) hfl hN hzu3) rfl rfl dX0_fits_13 ⟨rfl, rfl⟩ (by decide) hl.1 (Nat.le_of_ble_eq_true rfl) ⟨Nat.le_of_ble_eq_true rfl, Nat.le_of_ble_eq_true rfl⟩ ?_
  refine va_mmax hx hb (by rw [C.2.2.1]; exact hl.1.symm) C.2.2.2.1 (C.w k60) (C.w k61) (C.w k62) (C.w k63) (Nat.le_of_ble_eq_true rfl) (Nat.le_of_ble_eq_true rfl) (Nat.le_of_ble_eq_true rfl) (Nat.le_of_ble_eq_true rfl) dX0_fits_16 ?_
  refine va_mmax hx hb (by rw [C.2.2.1]; exact hl.1.symm) C.2.2.2.1 (C.w k60) (C.w k61) (C.w k62) (C.w k63) (Nat.le_of_ble_eq_true rfl) (Nat.le_of_ble_eq_true rfl) (Nat.le_of_ble_eq_true rfl) (Nat.le_of_ble_eq_true rfl) dX0_fits_19 ?_
  refine lv_istore (lv' := [(6, .int (if zu1 < (if zu2 < zu3 then zu3 else zu2) then (if zu2 < zu3 then zu3 else zu2) else zu1)), (0, .ref (g 6)), (1, .int za1), (2, .int za2), (3, .int za3), (4, .int za4), (5, .int za5)]) hx hb dX0_fits_22 hl (by decide) rfl (fun ls hl => ?_)
  refine lv_aload_n hx hb dX0_fits_24 rfl (lv_at hl 1 rfl) ?_
  refine lv_iload_n hx hb dX0_fits_25 rfl (lv_at hl 3 rfl) ?_
  obtain ⟨zu4, hzu4, hinv⟩ := ob hinv
  refine s_vRi (r0 := zu4) C hw (As := [.int za2]) bX0_reachedAt k26 (k := 6) (q47 hN rfl) (sh_6 g cy _) rfl (c_X0_reachedAt (X := X) hfl hN hzu4) rfl rfl dX0_fits_26 ⟨rfl, rfl⟩ (by decide) hl.1 (Nat.le_of_ble_eq_true rfl) ⟨Nat.le_of_ble_eq_true rfl, Nat.le_of_ble_eq_true rfl⟩ ?_
  refine lv_aload_n hx hb dX0_fits_29 rfl (lv_at hl 1 rfl) ?_
  refine lv_iload_n hx hb dX0_fits_30 rfl (lv_at hl 4 rfl) ?_
  obtain ⟨zu5, hzu5, hinv⟩ := ob hinv
  refine s_vRi (r0 := zu5) C hw (As := [.int za3]) bX0_reachedAt k26 (k := 6) (q47 hN rfl) (sh_6 g cy _) rfl (c_X0_reachedAt (X := X) hfl hN hzu5) rfl rfl dX0_fits_31 ⟨rfl, rfl⟩ (by decide) hl.1 (Nat.le_of_ble_eq_true rfl) ⟨Nat.le_of_ble_eq_true rfl, Nat.le_of_ble_eq_true rfl⟩ ?_
  refine lv_ior hx hb dX0_fits_34 ?_
  refine lv_aload_n hx hb dX0_fits_35 rfl (lv_at hl 1 rfl) ?_
  refine lv_iload hx hb dX0_fits_36 (lv_at hl 5 rfl) ?_
  obtain ⟨zu6, hzu6, hinv⟩ := ob hinv
  refine s_vRi (r0 := zu6) C hw (As := [.int za4]) bX0_reachedAt k26 (k := 6) (q47 hN rfl) (sh_6 g cy _) rfl (c_X0_reachedAt (X := X) hfl hN hzu6) rfl rfl dX0_fits_38 ⟨rfl, rfl⟩ (by decide) hl.1 (Nat.le_of_ble_eq_true rfl) ⟨Nat.le_of_ble_eq_true rfl, Nat.le_of_ble_eq_true rfl⟩ ?_
  refine lv_ior hx hb dX0_fits_41 ?_
  refine lv_istore (lv' := [(7, .int ((zu4 ||| zu5) ||| zu6)), (6, .int (if zu1 < (if zu2 < zu3 then zu3 else zu2) then (if zu2 < zu3 then zu3 else zu2) else zu1)), (0, .ref (g 6)), (1, .int za1), (2, .int za2), (3, .int za3), (4, .int za4), (5, .int za5)]) hx hb dX0_fits_42 hl (by decide) rfl (fun ls hl => ?_)
  refine lv_iload hx hb dX0_fits_44 (lv_at hl 1 rfl) ?_
  refine lv_iconst (v := 1) hx hb dX0_fits_46 (by decide) ?_
  refine lv_iadd hx hb dX0_fits_47 ?_
  refine lv_iload hx hb dX0_fits_48 (lv_at hl 7 rfl) ?_
  refine lv_icmp_ne (tgt := 67) hx hb dX0_fits_50 (by decide) (fun c_50 => ?_) (fun c_50 => ?_)
  · have hinv := oi_f c_50 hinv
    refine lv_iconst (v := 0) hx hb dX0_fits_67 (by decide) ?_
    exact hret 68 ls 0 (Option.some.inj hinv) (by decide) dX0_fits_68
  · have hinv := oi_t c_50 hinv
    refine lv_iload hx hb dX0_fits_53 (lv_at hl 0 rfl) ?_
    refine lv_iload_n hx hb dX0_fits_55 rfl (lv_at hl 3 rfl) ?_
    obtain ⟨zu7, hzu7, hinv⟩ := ob hinv
    refine s_sRi (r0 := zu7) C hw (As := [.int za1]) bX0_literalBit k23 (c_X0_literalBit (X := X) hfl hN hzu7) rfl rfl dX0_fits_56 ⟨rfl, rfl⟩ (by decide) hl.1 (Nat.le_of_ble_eq_true rfl) ⟨Nat.le_of_ble_eq_true rfl, Nat.le_of_ble_eq_true rfl⟩ ?_
    refine lv_iand hx hb dX0_fits_59 ?_
    refine lv_if_ne (tgt := 67) hx hb dX0_fits_60 (by decide) (fun c_60 => ?_) (fun c_60 => ?_)
    · have hinv := oi_f c_60 hinv
      refine lv_iconst (v := 0) hx hb dX0_fits_67 (by decide) ?_
      exact hret 68 ls 0 (Option.some.inj hinv) (by decide) dX0_fits_68
    · have hinv := oi_t c_60 hinv
      refine lv_iconst (v := 1) hx hb dX0_fits_63 (by decide) ?_
      refine lv_goto (tgt := 68) hx hb dX0_fits_64 (by decide) ?_
      exact hret 68 ls 1 (Option.some.inj hinv) (by decide) dX0_fits_68
def m_X0_add (F : Nat) (r6 : Nat → Int32) (r7 : Nat → Int32) (r8 : Nat → Int32) (r9 : Nat → Int32) (r10 : Nat → Int32) (r11 : Nat → Int32) (za1 : Int32) (za2 : Int32) (za3 : Int32) (za4 : Int32) (za5 : Int32) (za6 : Int32) : Option ((Nat → Int32) × (Nat → Int32) × (Nat → Int32) × (Nat → Int32) × (Nat → Int32) × (Nat → Int32)) := if (r6 5) < 24 then (if ¬ ((r6 5) < 0 ∨ 24 ≤ (r6 5).toNatClampNeg) then (if ¬ ((r6 5) < 0 ∨ 24 ≤ (r6 5).toNatClampNeg) then (if ¬ ((r6 5) < 0 ∨ 24 ≤ (r6 5).toNatClampNeg) then (if ¬ (((r6 5) * 3) < 0 ∨ 72 ≤ ((r6 5) * 3).toNatClampNeg) then (if ¬ ((((r6 5) * 3) + 1) < 0 ∨ 72 ≤ (((r6 5) * 3) + 1).toNatClampNeg) then (if ¬ ((((r6 5) * 3) + 2) < 0 ∨ 72 ≤ (((r6 5) * 3) + 2).toNatClampNeg) then (Option.bind (m_X0_literalBit F za1) (fun zu1 => Option.bind (m_X0_reachedAt F r11 za4) (fun zu2 => Option.bind (m_X0_reachedAt F r11 za5) (fun zu3 => Option.bind (m_X0_reachedAt F r11 za6) (fun zu4 => if ¬ ((r6 5) < 0 ∨ 24 ≤ (r6 5).toNatClampNeg) then (some ((upd r6 5 ((r6 5) + 1)), (upd r7 (r6 5).toNatClampNeg za1), (upd r8 (r6 5).toNatClampNeg za2), (upd r9 (r6 5).toNatClampNeg za3), (upd (upd (upd r10 ((r6 5) * 3).toNatClampNeg za4) (((r6 5) * 3) + 1).toNatClampNeg za5) (((r6 5) * 3) + 2).toNatClampNeg za6), (upd r11 (r6 5).toNatClampNeg (((zu1 ||| zu2) ||| zu3) ||| zu4)))) else none))))) else none) else none) else none) else none) else none) else none) else (some ((upd r6 6 1), r7, r8, r9, r10, r11))
set_option maxHeartbeats 4000000 in
set_option maxRecDepth 100000 in
theorem c_X0_add {l : Launch} {D : va_G} {cy : Nat → Nat} {g : Nat → Nat} {N : Nat} {X : Nat → Nat → Int32} {F : Nat} {za1 : Int32} {za2 : Int32} {za3 : Int32} {za4 : Int32} {za5 : Int32} {za6 : Int32} {R0 : (Nat → Int32) × (Nat → Int32) × (Nat → Int32) × (Nat → Int32) × (Nat → Int32) × (Nat → Int32)} (hfl : l.stackTraces = false) (hN : 47 ≤ N) (hinv : m_X0_add F (X 6) (X 7) (X 8) (X 9) (X 10) (X 11) za1 za2 za3 za4 za5 za6 = some R0) : sWv l D cy yX0_add cX0_add 7 none 1 0 0 [.ref (g 6), .int za1, .int za2, .int za3, .int za4, .int za5, .int za6] g N X (up (up (up (up (up (up X 6 R0.1) 7 R0.2.1) 8 R0.2.2.1) 9 R0.2.2.2.1) 10 R0.2.2.2.2.1) 11 R0.2.2.2.2.2) := by
  refine jWv (own := RX0) (by decide) rfl hfl (Nat.le_of_ble_eq_true rfl) rfl ?_
  intro p e R s m args below meth c ls A Q hRe C hw hl hret
  subst hRe
  have hx := C.1
  have hb := C.2.1
  have hl : lv_has ls 7 [(0, .ref (g 6)), (1, .int za1), (2, .int za2), (3, .int za3), (4, .int za4), (5, .int za5), (6, .int za6)] := hl
  rw [m_X0_add] at hinv
  refine lv_aload_n hx hb dX0_add_0 rfl (lv_at hl 0 rfl) ?_
  refine w_get C hw (k := 6) (v := .int ((X 6) 5)) (j := 5) (q47 hN rfl) (sh_6 g cy _) rfl (by decide) k21 rfl dX0_add_1 ?_
  refine lv_bipush (v := 24) hx hb dX0_add_4 (by decide) ?_
  refine lv_icmp_lt (tgt := 15) hx hb dX0_add_6 (by decide) (fun c_6 => ?_) (fun c_6 => ?_)
  · have hinv := oi_t c_6 hinv
    refine lv_aload_n hx hb dX0_add_15 rfl (lv_at hl 0 rfl) ?_
    refine w_get C hw (k := 6) (v := .ref (g 7)) (j := 0) (q47 hN rfl) (sh_6 g cy _) rfl (by decide) k4 rfl dX0_add_16 ?_
    refine lv_aload_n hx hb dX0_add_19 rfl (lv_at hl 0 rfl) ?_
    refine w_get C hw (k := 6) (v := .int ((X 6) 5)) (j := 5) (q47 hN rfl) (sh_6 g cy _) rfl (by decide) k21 rfl dX0_add_20 ?_
    refine lv_iload_n hx hb dX0_add_23 rfl (lv_at hl 1 rfl) ?_
    obtain ⟨hb_24, hinv⟩ := oi_c hinv
    refine s_iast C hw (k := 7) (a := (X 7)) (q47 hN rfl) (fun r => sh_7 g cy r) rfl hb_24 dX0_add_24 (fun H locs zw24 hw24 hw => ?_)
    try rw [← hw24] at hinv
    refine lv_aload_n hx hb dX0_add_25 rfl (lv_at hl 0 rfl) ?_
    refine w_get C hw (k := 6) (v := .ref (g 8)) (j := 1) (q47 hN rfl) (sh_6 g cy _) rfl (by decide) k5 rfl dX0_add_26 ?_
    refine lv_aload_n hx hb dX0_add_29 rfl (lv_at hl 0 rfl) ?_
    refine w_get C hw (k := 6) (v := .int ((X 6) 5)) (j := 5) (q47 hN rfl) (sh_6 g cy _) rfl (by decide) k21 rfl dX0_add_30 ?_
    refine lv_iload_n hx hb dX0_add_33 rfl (lv_at hl 2 rfl) ?_
    obtain ⟨hb_34, hinv⟩ := oi_c hinv
    refine s_iast C hw (k := 8) (a := (X 8)) (q47 hN rfl) (fun r => sh_8 g cy r) rfl hb_34 dX0_add_34 (fun H locs zw34 hw34 hw => ?_)
    try rw [← hw34] at hinv
    refine lv_aload_n hx hb dX0_add_35 rfl (lv_at hl 0 rfl) ?_
    refine w_get C hw (k := 6) (v := .ref (g 9)) (j := 2) (q47 hN rfl) (sh_6 g cy _) rfl (by decide) k6 rfl dX0_add_36 ?_
    refine lv_aload_n hx hb dX0_add_39 rfl (lv_at hl 0 rfl) ?_
    refine w_get C hw (k := 6) (v := .int ((X 6) 5)) (j := 5) (q47 hN rfl) (sh_6 g cy _) rfl (by decide) k21 rfl dX0_add_40 ?_
    refine lv_iload_n hx hb dX0_add_43 rfl (lv_at hl 3 rfl) ?_
    obtain ⟨hb_44, hinv⟩ := oi_c hinv
    refine s_iast C hw (k := 9) (a := (X 9)) (q47 hN rfl) (fun r => sh_9 g cy r) rfl hb_44 dX0_add_44 (fun H locs zw44 hw44 hw => ?_)
    try rw [← hw44] at hinv
    refine lv_aload_n hx hb dX0_add_45 rfl (lv_at hl 0 rfl) ?_
    refine w_get C hw (k := 6) (v := .ref (g 10)) (j := 3) (q47 hN rfl) (sh_6 g cy _) rfl (by decide) k7 rfl dX0_add_46 ?_
    refine lv_aload_n hx hb dX0_add_49 rfl (lv_at hl 0 rfl) ?_
    refine w_get C hw (k := 6) (v := .int ((X 6) 5)) (j := 5) (q47 hN rfl) (sh_6 g cy _) rfl (by decide) k21 rfl dX0_add_50 ?_
    refine lv_iconst (v := 3) hx hb dX0_add_53 (by decide) ?_
    refine lv_imul hx hb dX0_add_54 ?_
    refine lv_iload hx hb dX0_add_55 (lv_at hl 4 rfl) ?_
    obtain ⟨hb_57, hinv⟩ := oi_c hinv
    refine s_iast C hw (k := 10) (a := (X 10)) (q47 hN rfl) (fun r => sh_10 g cy r) rfl hb_57 dX0_add_57 (fun H locs zw57 hw57 hw => ?_)
    try rw [← hw57] at hinv
    refine lv_aload_n hx hb dX0_add_58 rfl (lv_at hl 0 rfl) ?_
    refine w_get C hw (k := 6) (v := .ref (g 10)) (j := 3) (q47 hN rfl) (sh_6 g cy _) rfl (by decide) k7 rfl dX0_add_59 ?_
    refine lv_aload_n hx hb dX0_add_62 rfl (lv_at hl 0 rfl) ?_
    refine w_get C hw (k := 6) (v := .int ((X 6) 5)) (j := 5) (q47 hN rfl) (sh_6 g cy _) rfl (by decide) k21 rfl dX0_add_63 ?_
    refine lv_iconst (v := 3) hx hb dX0_add_66 (by decide) ?_
    refine lv_imul hx hb dX0_add_67 ?_
    refine lv_iconst (v := 1) hx hb dX0_add_68 (by decide) ?_
    refine lv_iadd hx hb dX0_add_69 ?_
    refine lv_iload hx hb dX0_add_70 (lv_at hl 5 rfl) ?_
    obtain ⟨hb_72, hinv⟩ := oi_c hinv
    refine s_iast C hw (k := 10) (a := zw57) (q47 hN rfl) (fun r => sh_10 g cy r) rfl hb_72 dX0_add_72 (fun H locs zw72 hw72 hw => ?_)
    try rw [← hw72] at hinv
    rw [up_up] at hw
    refine lv_aload_n hx hb dX0_add_73 rfl (lv_at hl 0 rfl) ?_
    refine w_get C hw (k := 6) (v := .ref (g 10)) (j := 3) (q47 hN rfl) (sh_6 g cy _) rfl (by decide) k7 rfl dX0_add_74 ?_
    refine lv_aload_n hx hb dX0_add_77 rfl (lv_at hl 0 rfl) ?_
    refine w_get C hw (k := 6) (v := .int ((X 6) 5)) (j := 5) (q47 hN rfl) (sh_6 g cy _) rfl (by decide) k21 rfl dX0_add_78 ?_
    refine lv_iconst (v := 3) hx hb dX0_add_81 (by decide) ?_
    refine lv_imul hx hb dX0_add_82 ?_
    refine lv_iconst (v := 2) hx hb dX0_add_83 (by decide) ?_
    refine lv_iadd hx hb dX0_add_84 ?_
    refine lv_iload hx hb dX0_add_85 (lv_at hl 6 rfl) ?_
    obtain ⟨hb_87, hinv⟩ := oi_c hinv
    refine s_iast C hw (k := 10) (a := zw72) (q47 hN rfl) (fun r => sh_10 g cy r) rfl hb_87 dX0_add_87 (fun H locs zw87 hw87 hw => ?_)
    try rw [← hw87] at hinv
    rw [up_up] at hw
    refine lv_aload_n hx hb dX0_add_88 rfl (lv_at hl 0 rfl) ?_
    refine w_get C hw (k := 6) (v := .ref (g 11)) (j := 4) (q47 hN rfl) (sh_6 g cy _) rfl (by decide) k8 rfl dX0_add_89 ?_
    refine lv_aload_n hx hb dX0_add_92 rfl (lv_at hl 0 rfl) ?_
    refine w_get C hw (k := 6) (v := .int ((X 6) 5)) (j := 5) (q47 hN rfl) (sh_6 g cy _) rfl (by decide) k21 rfl dX0_add_93 ?_
    refine lv_iload_n hx hb dX0_add_96 rfl (lv_at hl 1 rfl) ?_
    obtain ⟨zu1, hzu1, hinv⟩ := ob hinv
    refine s_sRi (r0 := zu1) C hw (As := [.int za1]) bX0_literalBit k23 (c_X0_literalBit (X := (up (up (up (up X 7 zw24) 8 zw34) 9 zw44) 10 zw87)) hfl hN hzu1) rfl rfl dX0_add_97 ⟨rfl, rfl⟩ (by decide) hl.1 (Nat.le_of_ble_eq_true rfl) ⟨Nat.le_of_ble_eq_true rfl, Nat.le_of_ble_eq_true rfl⟩ ?_
    refine lv_aload_n hx hb dX0_add_100 rfl (lv_at hl 0 rfl) ?_
    refine lv_iload hx hb dX0_add_101 (lv_at hl 4 rfl) ?_
    obtain ⟨zu2, hzu2, hinv⟩ := ob hinv
    refine s_vRi (r0 := zu2) C hw (As := [.int za4]) bX0_reachedAt k26 (k := 6) (q47 hN rfl) (sh_6 g cy _) rfl (c_X0_reachedAt (X := (up (up (up (up X 7 zw24) 8 zw34) 9 zw44) 10 zw87)) hfl hN hzu2) rfl rfl dX0_add_103 ⟨rfl, rfl⟩ (by decide) hl.1 (Nat.le_of_ble_eq_true rfl) ⟨Nat.le_of_ble_eq_true rfl, Nat.le_of_ble_eq_true rfl⟩ ?_
    refine lv_ior hx hb dX0_add_106 ?_
    refine lv_aload_n hx hb dX0_add_107 rfl (lv_at hl 0 rfl) ?_
    refine lv_iload hx hb dX0_add_108 (lv_at hl 5 rfl) ?_
    obtain ⟨zu3, hzu3, hinv⟩ := ob hinv
    refine s_vRi (r0 := zu3) C hw (As := [.int za5]) bX0_reachedAt k26 (k := 6) (q47 hN rfl) (sh_6 g cy _) rfl (c_X0_reachedAt (X := (up (up (up (up X 7 zw24) 8 zw34) 9 zw44) 10 zw87)) hfl hN hzu3) rfl rfl dX0_add_110 ⟨rfl, rfl⟩ (by decide) hl.1 (Nat.le_of_ble_eq_true rfl) ⟨Nat.le_of_ble_eq_true rfl, Nat.le_of_ble_eq_true rfl⟩ ?_
    refine lv_ior hx hb dX0_add_113 ?_
    refine lv_aload_n hx hb dX0_add_114 rfl (lv_at hl 0 rfl) ?_
    refine lv_iload hx hb dX0_add_115 (lv_at hl 6 rfl) ?_
    obtain ⟨zu4, hzu4, hinv⟩ := ob hinv
    refine s_vRi (r0 := zu4) C hw (As := [.int za6]) bX0_reachedAt k26 (k := 6) (q47 hN rfl) (sh_6 g cy _) rfl (c_X0_reachedAt (X := (up (up (up (up X 7 zw24) 8 zw34) 9 zw44) 10 zw87)) hfl hN hzu4) rfl rfl dX0_add_117 ⟨rfl, rfl⟩ (by decide) hl.1 (Nat.le_of_ble_eq_true rfl) ⟨Nat.le_of_ble_eq_true rfl, Nat.le_of_ble_eq_true rfl⟩ ?_
    refine lv_ior hx hb dX0_add_120 ?_
    obtain ⟨hb_121, hinv⟩ := oi_c hinv
    refine s_iast C hw (k := 11) (a := (X 11)) (q47 hN rfl) (fun r => sh_11 g cy r) rfl hb_121 dX0_add_121 (fun H locs zw121 hw121 hw => ?_)
    try rw [← hw121] at hinv
    refine lv_aload_n hx hb dX0_add_122 rfl (lv_at hl 0 rfl) ?_
    refine lv_dup hx hb dX0_add_123 rfl ?_
    refine w_get C hw (k := 6) (v := .int ((X 6) 5)) (j := 5) (q47 hN rfl) (sh_6 g cy _) rfl (by decide) k21 rfl dX0_add_124 ?_
    refine lv_iconst (v := 1) hx hb dX0_add_127 (by decide) ?_
    refine lv_iadd hx hb dX0_add_128 ?_
    refine s_put C hw (k := 6) (row := (upd (X 6) 5 (((X 6) 5) + 1))) (ty := tyX0) (v := .int (((X 6) 5) + 1)) (j := 5) (q47 hN rfl) (sh_6 g cy _) rfl tyX0_ok nmX0 (by decide) k21 rfl rfl rfl (Nat.le_of_ble_eq_true rfl) (sh_6 g cy _) dX0_add_129 (fun H locs hw => ?_)
    have hR0 := (Option.some.inj hinv).symm
    subst hR0
    have hXe : (up (up (up (up (up (up X 7 zw24) 8 zw34) 9 zw44) 10 zw87) 11 zw121) 6 (upd (X 6) 5 (((X 6) 5) + 1))) = (up (up (up (up (up (up X 6 (upd (X 6) 5 (((X 6) 5) + 1))) 7 zw24) 8 zw34) 9 zw44) 10 zw87) 11 zw121) := by
      funext j
      by_cases h6 : j = 6
      · subst h6; simp [up]
      by_cases h7 : j = 7
      · subst h7; simp [up]
      by_cases h8 : j = 8
      · subst h8; simp [up]
      by_cases h9 : j = 9
      · subst h9; simp [up]
      by_cases h10 : j = 10
      · subst h10; simp [up]
      by_cases h11 : j = 11
      · subst h11; simp [up]
      simp [up, h6, h7, h8, h9, h10, h11]
    rw [hXe] at hw
    exact hret 132 ls _ _ _ _ hw (by decide) (by decide) dX0_add_132
  · have hinv := oi_f c_6 hinv
    refine lv_aload_n hx hb dX0_add_9 rfl (lv_at hl 0 rfl) ?_
    refine lv_iconst (v := 1) hx hb dX0_add_10 (by decide) ?_
    refine s_put C hw (k := 6) (row := (upd (X 6) 6 1)) (ty := tyX0) (v := .int 1) (j := 6) (q47 hN rfl) (sh_6 g cy _) rfl tyX0_ok nmX0 (by decide) k22 rfl rfl rfl (Nat.le_of_ble_eq_true rfl) (sh_6 g cy _) dX0_add_11 (fun H locs hw => ?_)
    have hR0 := (Option.some.inj hinv).symm
    subst hR0
    have hXe : (up X 6 (upd (X 6) 6 1)) = (up (up (up (up (up (up X 6 (upd (X 6) 6 1)) 7 (X 7)) 8 (X 8)) 9 (X 9)) 10 (X 10)) 11 (X 11)) := by
      funext j
      by_cases h6 : j = 6
      · subst h6; simp [up]
      by_cases h7 : j = 7
      · subst h7; simp [up]
      by_cases h8 : j = 8
      · subst h8; simp [up]
      by_cases h9 : j = 9
      · subst h9; simp [up]
      by_cases h10 : j = 10
      · subst h10; simp [up]
      by_cases h11 : j = 11
      · subst h11; simp [up]
      simp [up, h6, h7, h8, h9, h10, h11]
    rw [hXe] at hw
    exact hret 14 ls _ _ _ _ hw (by decide) (by decide) dX0_add_14

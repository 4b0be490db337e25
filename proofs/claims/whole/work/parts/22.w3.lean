def m_X6_clear (F : Nat) (r25 : Nat → Int32) : Option ((Nat → Int32)) := some (upd r25 1 0)
set_option maxHeartbeats 4000000 in
set_option maxRecDepth 100000 in
theorem c_X6_clear {l : Launch} {D : va_G} {cy : Nat → Nat} {g : Nat → Nat} {N : Nat} {X : Nat → Nat → Int32} {F : Nat} {R0 : (Nat → Int32)} (hfl : l.stackTraces = false) (hN : 47 ≤ N) (hinv : m_X6_clear F (X 25) = some R0) : sWv l D cy yX6_clear cX6_clear 1 none 0 0 0 [.ref (g 25)] g N X (up X 25 R0) := by
  refine jWv (own := RX6) (by decide) rfl hfl (Nat.le_of_ble_eq_true rfl) rfl ?_
  intro p e R s m args below meth c ls A Q hRe C hw hl hret
  subst hRe
  have hx := C.1
  have hb := C.2.1
  have hl : lv_has ls 1 [(0, .ref (g 25))] := hl
  rw [m_X6_clear] at hinv
  refine lv_aload_n hx hb dX6_clear_0 rfl (lv_at hl 0 rfl) ?_
  refine lv_iconst (v := 0) hx hb dX6_clear_1 (by decide) ?_
  refine s_put C hw (k := 25) (row := (upd (X 25) 1 0)) (ty := tyX6) (v := .int 0) (j := 1) (q47 hN rfl) (sh_25 g cy _) rfl tyX6_ok nmX6 (by decide) k236 rfl rfl rfl (Nat.le_of_ble_eq_true rfl) (sh_25 g cy _) dX6_clear_2 (fun H locs hw => ?_)
  rw [Option.some.inj hinv] at hw
  exact hret 5 ls _ _ _ _ hw (by decide) (by decide) dX6_clear_5
def m_X6_keep (F : Nat) (r25 : Nat → Int32) (r26 : Nat → Int32) (za1 : Int32) : Option ((Nat → Int32) × (Nat → Int32)) := if 162 ≤ (r25 1) then (some (r25, r26)) else (if ¬ ((r25 1) < 0 ∨ 162 ≤ (r25 1).toNatClampNeg) then (some ((upd r25 1 ((r25 1) + 1)), (upd r26 (r25 1).toNatClampNeg za1))) else none)
set_option maxHeartbeats 4000000 in
set_option maxRecDepth 100000 in
theorem c_X6_keep {l : Launch} {D : va_G} {cy : Nat → Nat} {g : Nat → Nat} {N : Nat} {X : Nat → Nat → Int32} {F : Nat} {za1 : Int32} {R0 : (Nat → Int32) × (Nat → Int32)} (hfl : l.stackTraces = false) (hN : 47 ≤ N) (hinv : m_X6_keep F (X 25) (X 26) za1 = some R0) : sWv l D cy yX6_keep cX6_keep 2 none 0 0 0 [.ref (g 25), .int za1] g N X (up (up X 25 R0.1) 26 R0.2) := by
  refine jWv (own := RX6) (by decide) rfl hfl (Nat.le_of_ble_eq_true rfl) rfl ?_
  intro p e R s m args below meth c ls A Q hRe C hw hl hret
  subst hRe
  have hx := C.1
  have hb := C.2.1
  have hl : lv_has ls 2 [(0, .ref (g 25)), (1, .int za1)] := hl
  rw [m_X6_keep] at hinv
  refine lv_aload_n hx hb dX6_keep_0 rfl (lv_at hl 0 rfl) ?_
  refine w_get C hw (k := 25) (v := .int ((X 25) 1)) (j := 1) (q47 hN rfl) (sh_25 g cy _) rfl (by decide) k236 rfl dX6_keep_1 ?_
  refine lv_sipush (v := 162) hx hb dX6_keep_4 (by decide) ?_
  refine lv_icmp_ge (tgt := 30) hx hb dX6_keep_7 (by decide) (fun c_7 => ?_) (fun c_7 => ?_)
  · have hinv := oi_t c_7 hinv
    have hR0 := (Option.some.inj hinv).symm
    subst hR0
    have hXe : X = (up (up X 25 (X 25)) 26 (X 26)) := by
      funext j
      by_cases h25 : j = 25
      · subst h25; simp [up]
      by_cases h26 : j = 26
      · subst h26; simp [up]
      simp [up, h25, h26]
    rw [hXe] at hw
    exact hret 30 ls _ _ _ _ hw (by decide) (by decide) dX6_keep_30
  · have hinv := oi_f c_7 hinv
    refine lv_aload_n hx hb dX6_keep_10 rfl (lv_at hl 0 rfl) ?_
    refine w_get C hw (k := 25) (v := .ref (g 26)) (j := 0) (q47 hN rfl) (sh_25 g cy _) rfl (by decide) k234 rfl dX6_keep_11 ?_
    refine lv_aload_n hx hb dX6_keep_14 rfl (lv_at hl 0 rfl) ?_
    refine w_get C hw (k := 25) (v := .int ((X 25) 1)) (j := 1) (q47 hN rfl) (sh_25 g cy _) rfl (by decide) k236 rfl dX6_keep_15 ?_
    refine lv_iload_n hx hb dX6_keep_18 rfl (lv_at hl 1 rfl) ?_
    obtain ⟨hb_19, hinv⟩ := oi_c hinv
    refine s_iast C hw (k := 26) (a := (X 26)) (q47 hN rfl) (fun r => sh_26 g cy r) rfl hb_19 dX6_keep_19 (fun H locs zw19 hw19 hw => ?_)
    try rw [← hw19] at hinv
    refine lv_aload_n hx hb dX6_keep_20 rfl (lv_at hl 0 rfl) ?_
    refine lv_dup hx hb dX6_keep_21 rfl ?_
    refine w_get C hw (k := 25) (v := .int ((X 25) 1)) (j := 1) (q47 hN rfl) (sh_25 g cy _) rfl (by decide) k236 rfl dX6_keep_22 ?_
    refine lv_iconst (v := 1) hx hb dX6_keep_25 (by decide) ?_
    refine lv_iadd hx hb dX6_keep_26 ?_
    refine s_put C hw (k := 25) (row := (upd (X 25) 1 (((X 25) 1) + 1))) (ty := tyX6) (v := .int (((X 25) 1) + 1)) (j := 1) (q47 hN rfl) (sh_25 g cy _) rfl tyX6_ok nmX6 (by decide) k236 rfl rfl rfl (Nat.le_of_ble_eq_true rfl) (sh_25 g cy _) dX6_keep_27 (fun H locs hw => ?_)
    have hR0 := (Option.some.inj hinv).symm
    subst hR0
    have hXe : (up (up X 26 zw19) 25 (upd (X 25) 1 (((X 25) 1) + 1))) = (up (up X 25 (upd (X 25) 1 (((X 25) 1) + 1))) 26 zw19) := by
      funext j
      by_cases h25 : j = 25
      · subst h25; simp [up]
      by_cases h26 : j = 26
      · subst h26; simp [up]
      simp [up, h25, h26]
    rw [hXe] at hw
    exact hret 30 ls _ _ _ _ hw (by decide) (by decide) dX6_keep_30
def m_X6_covers_L2 (F : Nat) (r25 : Nat → Int32) (r26 : Nat → Int32) (y1_2 : Int32) : Nat → Int32 → Option (Int32)
  | 0, _ => none
  | n + 1, x2_2 => if (r25 1) ≤ x2_2 then (some (0 : Int32)) else (if 162 ≤ x2_2 then (some (0 : Int32)) else (if ¬ (x2_2 < 0 ∨ 162 ≤ x2_2.toNatClampNeg) then (if (y1_2 &&& ((r26 x2_2.toNatClampNeg) ^^^ (-1))) = 0 then (some (1 : Int32)) else (m_X6_covers_L2 F r25 r26 y1_2 n (x2_2 + 1))) else none))
def m_X6_covers (F : Nat) (r25 : Nat → Int32) (r26 : Nat → Int32) (za1 : Int32) : Option (Int32) := m_X6_covers_L2 F r25 r26 za1 F 0
set_option maxHeartbeats 4000000 in
set_option maxRecDepth 100000 in
theorem c_X6_covers {l : Launch} {D : va_G} {cy : Nat → Nat} {g : Nat → Nat} {N : Nat} {X : Nat → Nat → Int32} {F : Nat} {za1 : Int32} {R0 : Int32} (hfl : l.stackTraces = false) (hN : 47 ≤ N) (hinv : m_X6_covers F (X 25) (X 26) za1 = some R0) : sRi l D cy yX6_covers cX6_covers 3 (some .boolean) 0 [.ref (g 25), .int za1] g N X R0 := by
  refine jRz (own := RX6) (by decide) rfl hfl (Nat.le_of_ble_eq_true rfl) rfl ?_
  intro p e R s m args below meth c ls A Q hRe C hw hl hret
  subst hRe
  have hx := C.1
  have hb := C.2.1
  have hl : lv_has ls 3 [(0, .ref (g 25)), (1, .int za1)] := hl
  rw [m_X6_covers] at hinv
  refine lv_iconst (v := 0) hx hb dX6_covers_0 (by decide) ?_
  refine lv_istore_n (lv' := [(2, .int 0), (0, .ref (g 25)), (1, .int za1)]) hx hb dX6_covers_1 rfl hl (by decide) rfl (fun ls hl => ?_)
  have hl2 : ∀ (n : Nat) (x2_2 : Int32), m_X6_covers_L2 F (X 25) (X 26) za1 n x2_2 = some R0 → ∀ (ls : Array Slot), lv_has ls 3 [(2, .int x2_2), (0, .ref (g 25)), (1, .int za1)] → W p l e (wR 0 0 0) s m args below meth c s.heap [] 0 0 Q (F0 m 2 ls []) := by
    intro n
    induction n with
    | zero =>
      intro x2_2 hinv
      cases hinv
    | succ n ih =>
      intro x2_2 hinv ls hl
      rw [m_X6_covers_L2] at hinv
      refine lv_iload_n hx hb dX6_covers_2 rfl (lv_at hl 0 rfl) ?_
      refine lv_aload_n hx hb dX6_covers_3 rfl (lv_at hl 1 rfl) ?_
      refine w_get C hw (k := 25) (v := .int ((X 25) 1)) (j := 1) (q47 hN rfl) (sh_25 g cy _) rfl (by decide) k236 rfl dX6_covers_4 ?_
      refine lv_icmp_ge (tgt := 38) hx hb dX6_covers_7 (by decide) (fun c_7 => ?_) (fun c_7 => ?_)
      · have hinv := oi_t c_7 hinv
        refine lv_iconst (v := 0) hx hb dX6_covers_38 (by decide) ?_
        exact hret 39 ls 0 (Option.some.inj hinv) (by decide) dX6_covers_39
      · have hinv := oi_f c_7 hinv
        refine lv_iload_n hx hb dX6_covers_10 rfl (lv_at hl 0 rfl) ?_
        refine lv_sipush (v := 162) hx hb dX6_covers_11 (by decide) ?_
        refine lv_icmp_ge (tgt := 38) hx hb dX6_covers_14 (by decide) (fun c_14 => ?_) (fun c_14 => ?_)
        · have hinv := oi_t c_14 hinv
          refine lv_iconst (v := 0) hx hb dX6_covers_38 (by decide) ?_
          exact hret 39 ls 0 (Option.some.inj hinv) (by decide) dX6_covers_39
        · have hinv := oi_f c_14 hinv
          refine lv_iload_n hx hb dX6_covers_17 rfl (lv_at hl 2 rfl) ?_
          refine lv_aload_n hx hb dX6_covers_18 rfl (lv_at hl 1 rfl) ?_
          refine w_get C hw (k := 25) (v := .ref (g 26)) (j := 0) (q47 hN rfl) (sh_25 g cy _) rfl (by decide) k234 rfl dX6_covers_19 ?_
          refine lv_iload_n hx hb dX6_covers_22 rfl (lv_at hl 0 rfl) ?_
          obtain ⟨hb_23, hinv⟩ := oi_c hinv
          refine s_iald C hw (k := 26) (a := (X 26)) (q47 hN rfl) (fun r => sh_26 g cy r) rfl hb_23 dX6_covers_23 ?_
          refine lv_iconst (v := (-1)) hx hb dX6_covers_24 (by decide) ?_
          refine lv_ixor hx hb dX6_covers_25 ?_
          refine lv_iand hx hb dX6_covers_26 ?_
          refine lv_if_ne (tgt := 32) hx hb dX6_covers_27 (by decide) (fun c_27 => ?_) (fun c_27 => ?_)
          · have hinv := oi_f c_27 hinv
            refine lv_iinc (v := (x2_2 + 1)) (lv' := [(2, .int (x2_2 + 1)), (0, .ref (g 25)), (1, .int za1)]) hx hb dX6_covers_32 hl (k := 0) rfl (by rfl) (by decide) rfl (fun ls hl => ?_)
            refine lv_goto (tgt := 2) hx hb dX6_covers_35 (by decide) ?_
            exact ih (x2_2 + 1) hinv ls (lv_sub hl [0, 1, 2] rfl)
          · have hinv := oi_t c_27 hinv
            refine lv_iconst (v := 1) hx hb dX6_covers_30 (by decide) ?_
            exact hret 31 ls 1 (Option.some.inj hinv) (by decide) dX6_covers_31
  exact hl2 F 0 hinv ls (lv_sub hl [0, 1, 2] rfl)
set_option maxHeartbeats 4000000 in
set_option maxRecDepth 100000 in
theorem c_X6_clear_27 {l : Launch} {D : va_G} {cy : Nat → Nat} {g : Nat → Nat} {N : Nat} {X : Nat → Nat → Int32} {F : Nat} {R0 : (Nat → Int32)} (hfl : l.stackTraces = false) (hN : 47 ≤ N) (hinv : m_X6_clear F (X 27) = some R0) : sWv l D cy yX6_clear cX6_clear 1 none 0 0 0 [.ref (g 27)] g N X (up X 27 R0) := by
  refine jWv (own := RX6) (by decide) rfl hfl (Nat.le_of_ble_eq_true rfl) rfl ?_
  intro p e R s m args below meth c ls A Q hRe C hw hl hret
  subst hRe
  have hx := C.1
  have hb := C.2.1
  have hl : lv_has ls 1 [(0, .ref (g 27))] := hl
  rw [m_X6_clear] at hinv
  refine lv_aload_n hx hb dX6_clear_0 rfl (lv_at hl 0 rfl) ?_
  refine lv_iconst (v := 0) hx hb dX6_clear_1 (by decide) ?_
  refine s_put C hw (k := 27) (row := (upd (X 27) 1 0)) (ty := tyX6) (v := .int 0) (j := 1) (q47 hN rfl) (sh_27 g cy _) rfl tyX6_ok nmX6 (by decide) k236 rfl rfl rfl (Nat.le_of_ble_eq_true rfl) (sh_27 g cy _) dX6_clear_2 (fun H locs hw => ?_)
  rw [Option.some.inj hinv] at hw
  exact hret 5 ls _ _ _ _ hw (by decide) (by decide) dX6_clear_5
set_option maxHeartbeats 4000000 in
set_option maxRecDepth 100000 in
theorem c_X6_keep_27 {l : Launch} {D : va_G} {cy : Nat → Nat} {g : Nat → Nat} {N : Nat} {X : Nat → Nat → Int32} {F : Nat} {za1 : Int32} {R0 : (Nat → Int32) × (Nat → Int32)} (hfl : l.stackTraces = false) (hN : 47 ≤ N) (hinv : m_X6_keep F (X 27) (X 28) za1 = some R0) : sWv l D cy yX6_keep cX6_keep 2 none 0 0 0 [.ref (g 27), .int za1] g N X (up (up X 27 R0.1) 28 R0.2) := by
  refine jWv (own := RX6) (by decide) rfl hfl (Nat.le_of_ble_eq_true rfl) rfl ?_
  intro p e R s m args below meth c ls A Q hRe C hw hl hret
  subst hRe
  have hx := C.1
  have hb := C.2.1
  have hl : lv_has ls 2 [(0, .ref (g 27)), (1, .int za1)] := hl
  rw [m_X6_keep] at hinv
  refine lv_aload_n hx hb dX6_keep_0 rfl (lv_at hl 0 rfl) ?_
  refine w_get C hw (k := 27) (v := .int ((X 27) 1)) (j := 1) (q47 hN rfl) (sh_27 g cy _) rfl (by decide) k236 rfl dX6_keep_1 ?_
  refine lv_sipush (v := 162) hx hb dX6_keep_4 (by decide) ?_
  refine lv_icmp_ge (tgt := 30) hx hb dX6_keep_7 (by decide) (fun c_7 => ?_) (fun c_7 => ?_)
  · have hinv := oi_t c_7 hinv
    have hR0 := (Option.some.inj hinv).symm
    subst hR0
    have hXe : X = (up (up X 27 (X 27)) 28 (X 28)) := by
      funext j
      by_cases h27 : j = 27
      · subst h27; simp [up]
      by_cases h28 : j = 28
      · subst h28; simp [up]
      simp [up, h27, h28]
    rw [hXe] at hw
    exact hret 30 ls _ _ _ _ hw (by decide) (by decide) dX6_keep_30
  · have hinv := oi_f c_7 hinv
    refine lv_aload_n hx hb dX6_keep_10 rfl (lv_at hl 0 rfl) ?_
    refine w_get C hw (k := 27) (v := .ref (g 28)) (j := 0) (q47 hN rfl) (sh_27 g cy _) rfl (by decide) k234 rfl dX6_keep_11 ?_
    refine lv_aload_n hx hb dX6_keep_14 rfl (lv_at hl 0 rfl) ?_
    refine w_get C hw (k := 27) (v := .int ((X 27) 1)) (j := 1) (q47 hN rfl) (sh_27 g cy _) rfl (by decide) k236 rfl dX6_keep_15 ?_
    refine lv_iload_n hx hb dX6_keep_18 rfl (lv_at hl 1 rfl) ?_
    obtain ⟨hb_19, hinv⟩ := oi_c hinv
    refine s_iast C hw (k := 28) (a := (X 28)) (q47 hN rfl) (fun r => sh_28 g cy r) rfl hb_19 dX6_keep_19 (fun H locs zw19 hw19 hw => ?_)
    try rw [← hw19] at hinv
    refine lv_aload_n hx hb dX6_keep_20 rfl (lv_at hl 0 rfl) ?_
    refine lv_dup hx hb dX6_keep_21 rfl ?_
    refine w_get C hw (k := 27) (v := .int ((X 27) 1)) (j := 1) (q47 hN rfl) (sh_27 g cy _) rfl (by decide) k236 rfl dX6_keep_22 ?_
    refine lv_iconst (v := 1) hx hb dX6_keep_25 (by decide) ?_
    refine lv_iadd hx hb dX6_keep_26 ?_
    refine s_put C hw (k := 27) (row := (upd (X 27) 1 (((X 27) 1) + 1))) (ty := tyX6) (v := .int (((X 27) 1) + 1)) (j := 1) (q47 hN rfl) (sh_27 g cy _) rfl tyX6_ok nmX6 (by decide) k236 rfl rfl rfl (Nat.le_of_ble_eq_true rfl) (sh_27 g cy _) dX6_keep_27 (fun H locs hw => ?_)
    have hR0 := (Option.some.inj hinv).symm
    subst hR0
    have hXe : (up (up X 28 zw19) 27 (upd (X 27) 1 (((X 27) 1) + 1))) = (up (up X 27 (upd (X 27) 1 (((X 27) 1) + 1))) 28 zw19) := by
      funext j
      by_cases h27 : j = 27
      · subst h27; simp [up]
      by_cases h28 : j = 28
      · subst h28; simp [up]
      simp [up, h27, h28]
    rw [hXe] at hw
    exact hret 30 ls _ _ _ _ hw (by decide) (by decide) dX6_keep_30
set_option maxHeartbeats 4000000 in
set_option maxRecDepth 100000 in
theorem c_X6_covers_27 {l : Launch} {D : va_G} {cy : Nat → Nat} {g : Nat → Nat} {N : Nat} {X : Nat → Nat → Int32} {F : Nat} {za1 : Int32} {R0 : Int32} (hfl : l.stackTraces = false) (hN : 47 ≤ N) (hinv : m_X6_covers F (X 27) (X 28) za1 = some R0) : sRi l D cy yX6_covers cX6_covers 3 (some .boolean) 0 [.ref (g 27), .int za1] g N X R0 := by
  refine jRz (own := RX6) (by decide) rfl hfl (Nat.le_of_ble_eq_true rfl) rfl ?_
  intro p e R s m args below meth c ls A Q hRe C hw hl hret
  subst hRe
  have hx := C.1
  have hb := C.2.1
  have hl : lv_has ls 3 [(0, .ref (g 27)), (1, .int za1)] := hl
  rw [m_X6_covers] at hinv
  refine lv_iconst (v := 0) hx hb dX6_covers_0 (by decide) ?_
  refine lv_istore_n (lv' := [(2, .int 0), (0, .ref (g 27)), (1, .int za1)]) hx hb dX6_covers_1 rfl hl (by decide) rfl (fun ls hl => ?_)
  have hl2 : ∀ (n : Nat) (x2_2 : Int32), m_X6_covers_L2 F (X 27) (X 28) za1 n x2_2 = some R0 → ∀ (ls : Array Slot), lv_has ls 3 [(2, .int x2_2), (0, .ref (g 27)), (1, .int za1)] → W p l e (wR 0 0 0) s m args below meth c s.heap [] 0 0 Q (F0 m 2 ls []) := by
    intro n
    induction n with
    | zero =>
      intro x2_2 hinv
      cases hinv
    | succ n ih =>
      intro x2_2 hinv ls hl
      rw [m_X6_covers_L2] at hinv
      refine lv_iload_n hx hb dX6_covers_2 rfl (lv_at hl 0 rfl) ?_
      refine lv_aload_n hx hb dX6_covers_3 rfl (lv_at hl 1 rfl) ?_
      refine w_get C hw (k := 27) (v := .int ((X 27) 1)) (j := 1) (q47 hN rfl) (sh_27 g cy _) rfl (by decide) k236 rfl dX6_covers_4 ?_
      refine lv_icmp_ge (tgt := 38) hx hb dX6_covers_7 (by decide) (fun c_7 => ?_) (fun c_7 => ?_)
      · have hinv := oi_t c_7 hinv
        refine lv_iconst (v := 0) hx hb dX6_covers_38 (by decide) ?_
        exact hret 39 ls 0 (Option.some.inj hinv) (by decide) dX6_covers_39
      · have hinv := oi_f c_7 hinv
        refine lv_iload_n hx hb dX6_covers_10 rfl (lv_at hl 0 rfl) ?_
        refine lv_sipush (v := 162) hx hb dX6_covers_11 (by decide) ?_
        refine lv_icmp_ge (tgt := 38) hx hb dX6_covers_14 (by decide) (fun c_14 => ?_) (fun c_14 => ?_)
        · have hinv := oi_t c_14 hinv
          refine lv_iconst (v := 0) hx hb dX6_covers_38 (by decide) ?_
          exact hret 39 ls 0 (Option.some.inj hinv) (by decide) dX6_covers_39
        · have hinv := oi_f c_14 hinv
          refine lv_iload_n hx hb dX6_covers_17 rfl (lv_at hl 2 rfl) ?_
          refine lv_aload_n hx hb dX6_covers_18 rfl (lv_at hl 1 rfl) ?_
          refine w_get C hw (k := 27) (v := .ref (g 28)) (j := 0) (q47 hN rfl) (sh_27 g cy _) rfl (by decide) k234 rfl dX6_covers_19 ?_
          refine lv_iload_n hx hb dX6_covers_22 rfl (lv_at hl 0 rfl) ?_
          obtain ⟨hb_23, hinv⟩ := oi_c hinv
          refine s_iald C hw (k := 28) (a := (X 28)) (q47 hN rfl) (fun r => sh_28 g cy r) rfl hb_23 dX6_covers_23 ?_
          refine lv_iconst (v := (-1)) hx hb dX6_covers_24 (by decide) ?_
          refine lv_ixor hx hb dX6_covers_25 ?_
          refine lv_iand hx hb dX6_covers_26 ?_
          refine lv_if_ne (tgt := 32) hx hb dX6_covers_27 (by decide) (fun c_27 => ?_) (fun c_27 => ?_)
          · have hinv := oi_f c_27 hinv
            refine lv_iinc (v := (x2_2 + 1)) (lv' := [(2, .int (x2_2 + 1)), (0, .ref (g 27)), (1, .int za1)]) hx hb dX6_covers_32 hl (k := 0) rfl (by rfl) (by decide) rfl (fun ls hl => ?_)
            refine lv_goto (tgt := 2) hx hb dX6_covers_35 (by decide) ?_
            exact ih (x2_2 + 1) hinv ls (lv_sub hl [0, 1, 2] rfl)
          · have hinv := oi_t c_27 hinv
            refine lv_iconst (v := 1) hx hb dX6_covers_30 (by decide) ?_
            exact hret 31 ls 1 (Option.some.inj hinv) (by decide) dX6_covers_31
  exact hl2 F 0 hinv ls (lv_sub hl [0, 1, 2] rfl)
def m_X6_contains (F : Nat) (r25 : Nat → Int32) (r26 : Nat → Int32) (za1 : Int32) (za2 : Int32) : Option (Int32) := if za1 < 0 then (some (0 : Int32)) else (if (r25 1) ≤ za1 then (some (0 : Int32)) else (if 162 ≤ za1 then (some (0 : Int32)) else (if ¬ (za1 < 0 ∨ 162 ≤ za1.toNatClampNeg) then (Option.bind (m_X9_setBit F za2) (fun zu1 => if ((r26 za1.toNatClampNeg) &&& zu1) = 0 then (some (0 : Int32)) else (some (1 : Int32)))) else none)))
set_option maxHeartbeats 4000000 in
set_option maxRecDepth 100000 in
theorem c_X6_contains {l : Launch} {D : va_G} {cy : Nat → Nat} {g : Nat → Nat} {N : Nat} {X : Nat → Nat → Int32} {F : Nat} {za1 : Int32} {za2 : Int32} {R0 : Int32} (hfl : l.stackTraces = false) (hN : 47 ≤ N) (hinv : m_X6_contains F (X 25) (X 26) za1 za2 = some R0) : sRi l D cy yX6_contains cX6_contains 4 (some .boolean) 1 [.ref (g 25), .int za1, .int za2] g N X R0 := by
  refine jRz (own := RX6) (by decide) rfl hfl (Nat.le_of_ble_eq_true rfl) rfl ?_
  intro p e R s m args below meth c ls A Q hRe C hw hl hret
  subst hRe
  have hx := C.1
  have hb := C.2.1
  have hl : lv_has ls 4 [(0, .ref (g 25)), (1, .int za1), (2, .int za2)] := hl
  rw [m_X6_contains] at hinv
  refine lv_iload_n hx hb dX6_contains_0 rfl (lv_at hl 1 rfl) ?_
  refine lv_if_lt (tgt := 23) hx hb dX6_contains_1 (by decide) (fun c_1 => ?_) (fun c_1 => ?_)
  · have hinv := oi_t c_1 hinv
    refine lv_iconst (v := 0) hx hb dX6_contains_23 (by decide) ?_
    refine lv_istore_n (lv' := [(3, .int 0), (0, .ref (g 25)), (1, .int za1), (2, .int za2)]) hx hb dX6_contains_24 rfl hl (by decide) rfl (fun ls hl => ?_)
    refine lv_iload_n hx hb dX6_contains_25 rfl (lv_at hl 0 rfl) ?_
    refine lv_if_eq (tgt := 47) hx hb dX6_contains_26 (by decide) (fun _ => ?_) (fun cz => (cz (by decide)).elim)
    refine lv_iconst (v := 0) hx hb dX6_contains_47 (by decide) ?_
    exact hret 48 ls 0 (Option.some.inj hinv) (by decide) dX6_contains_48
  · have hinv := oi_f c_1 hinv
    refine lv_iload_n hx hb dX6_contains_4 rfl (lv_at hl 1 rfl) ?_
    refine lv_aload_n hx hb dX6_contains_5 rfl (lv_at hl 0 rfl) ?_
    refine w_get C hw (k := 25) (v := .int ((X 25) 1)) (j := 1) (q47 hN rfl) (sh_25 g cy _) rfl (by decide) k236 rfl dX6_contains_6 ?_
    refine lv_icmp_ge (tgt := 23) hx hb dX6_contains_9 (by decide) (fun c_9 => ?_) (fun c_9 => ?_)
    · have hinv := oi_t c_9 hinv
      refine lv_iconst (v := 0) hx hb dX6_contains_23 (by decide) ?_
      refine lv_istore_n (lv' := [(3, .int 0), (0, .ref (g 25)), (1, .int za1), (2, .int za2)]) hx hb dX6_contains_24 rfl hl (by decide) rfl (fun ls hl => ?_)
      refine lv_iload_n hx hb dX6_contains_25 rfl (lv_at hl 0 rfl) ?_
      refine lv_if_eq (tgt := 47) hx hb dX6_contains_26 (by decide) (fun _ => ?_) (fun cz => (cz (by decide)).elim)
      refine lv_iconst (v := 0) hx hb dX6_contains_47 (by decide) ?_
      exact hret 48 ls 0 (Option.some.inj hinv) (by decide) dX6_contains_48
    · have hinv := oi_f c_9 hinv
      refine lv_iload_n hx hb dX6_contains_12 rfl (lv_at hl 1 rfl) ?_
      refine lv_sipush (v := 162) hx hb dX6_contains_13 (by decide) ?_
      refine lv_icmp_ge (tgt := 23) hx hb dX6_contains_16 (by decide) (fun c_16 => ?_) (fun c_16 => ?_)
      · have hinv := oi_t c_16 hinv
        refine lv_iconst (v := 0) hx hb dX6_contains_23 (by decide) ?_
        refine lv_istore_n (lv' := [(3, .int 0), (0, .ref (g 25)), (1, .int za1), (2, .int za2)]) hx hb dX6_contains_24 rfl hl (by decide) rfl (fun ls hl => ?_)
        refine lv_iload_n hx hb dX6_contains_25 rfl (lv_at hl 0 rfl) ?_
        refine lv_if_eq (tgt := 47) hx hb dX6_contains_26 (by decide) (fun _ => ?_) (fun cz => (cz (by decide)).elim)
        refine lv_iconst (v := 0) hx hb dX6_contains_47 (by decide) ?_
        exact hret 48 ls 0 (Option.some.inj hinv) (by decide) dX6_contains_48
      · have hinv := oi_f c_16 hinv
        refine lv_iconst (v := 1) hx hb dX6_contains_19 (by decide) ?_
        refine lv_goto (tgt := 24) hx hb dX6_contains_20 (by decide) ?_
        refine lv_istore_n (lv' := [(3, .int 1), (0, .ref (g 25)), (1, .int za1), (2, .int za2)]) hx hb dX6_contains_24 rfl hl (by decide) rfl (fun ls hl => ?_)
        refine lv_iload_n hx hb dX6_contains_25 rfl (lv_at hl 0 rfl) ?_
        refine lv_if_eq (tgt := 47) hx hb dX6_contains_26 (by decide) (fun cz => absurd cz (by decide)) (fun _ => ?_)
        refine lv_aload_n hx hb dX6_contains_29 rfl (lv_at hl 1 rfl) ?_
        refine w_get C hw (k := 25) (v := .ref (g 26)) (j := 0) (q47 hN rfl) (sh_25 g cy _) rfl (by decide) k234 rfl dX6_contains_30 ?_
        refine lv_iload_n hx hb dX6_contains_33 rfl (lv_at hl 2 rfl) ?_
        obtain ⟨hb_34, hinv⟩ := oi_c hinv
        refine s_iald C hw (k := 26) (a := (X 26)) (q47 hN rfl) (fun r => sh_26 g cy r) rfl hb_34 dX6_contains_34 ?_
        refine lv_iload_n hx hb dX6_contains_35 rfl (lv_at hl 3 rfl) ?_
        obtain ⟨zu1, hzu1, hinv⟩ := ob hinv
        refine s_nRi (r0 := zu1) C hw (As := [.int za2]) bX9_setBit k862 (c_X9_setBit (X := X) hfl hN hzu1) rfl rfl dX6_contains_36 ⟨rfl, rfl⟩ (by decide) hl.1 (Nat.le_of_ble_eq_true rfl) ⟨Nat.le_of_ble_eq_true rfl, Nat.le_of_ble_eq_true rfl⟩ ?_
        refine lv_iand hx hb dX6_contains_39 ?_
        refine lv_if_eq (tgt := 47) hx hb dX6_contains_40 (by decide) (fun c_40 => ?_) (fun c_40 => ?_)
        · have hinv := oi_t c_40 hinv
          refine lv_iconst (v := 0) hx hb dX6_contains_47 (by decide) ?_
          exact hret 48 ls 0 (Option.some.inj hinv) (by decide) dX6_contains_48
        · have hinv := oi_f c_40 hinv
          refine lv_iconst (v := 1) hx hb dX6_contains_43 (by decide) ?_
          refine lv_goto (tgt := 48) hx hb dX6_contains_44 (by decide) ?_
          exact hret 48 ls 1 (Option.some.inj hinv) (by decide) dX6_contains_48
def m_X8_clearRows_L2 (F : Nat)  : Nat → Int32 → (Nat → Int32) → Option ((Nat → Int32))
  | 0, _, _ => none
  | n + 1, x1_2, q18_2 => if 14 ≤ x1_2 then (some q18_2) else (if ¬ (x1_2 < 0 ∨ 14 ≤ x1_2.toNatClampNeg) then (m_X8_clearRows_L2 F  n (x1_2 + 1) (upd q18_2 x1_2.toNatClampNeg 0)) else none)
def m_X8_clearRows (F : Nat) (r18 : Nat → Int32) : Option ((Nat → Int32)) := m_X8_clearRows_L2 F  F 0 r18
set_option maxHeartbeats 4000000 in
set_option maxRecDepth 100000 in
theorem c_X8_clearRows {l : Launch} {D : va_G} {cy : Nat → Nat} {g : Nat → Nat} {N : Nat} {X : Nat → Nat → Int32} {F : Nat} {R0 : (Nat → Int32)} (hfl : l.stackTraces = false) (hN : 47 ≤ N) (hinv : m_X8_clearRows F (X 18) = some R0) : sWv l D cy yX8_clearRows cX8_clearRows 2 none 0 0 0 [.ref (g 17)] g N X (up X 18 R0) := by
  refine jWv (own := RX8) (by decide) rfl hfl (Nat.le_of_ble_eq_true rfl) rfl ?_
  intro p e R s m args below meth c ls A Q hRe C hw hl hret
  subst hRe
  have hx := C.1
  have hb := C.2.1
  have hl : lv_has ls 2 [(0, .ref (g 17))] := hl
  rw [m_X8_clearRows] at hinv
  refine lv_iconst (v := 0) hx hb dX8_clearRows_0 (by decide) ?_
  refine lv_istore_n (lv' := [(1, .int 0), (0, .ref (g 17))]) hx hb dX8_clearRows_1 rfl hl (by decide) rfl (fun ls hl => ?_)
  have hXe : X = (up X 18 (X 18)) := by
    funext j
    by_cases h18 : j = 18
    · subst h18; simp [up]
    simp [up, h18]
  rw [hXe] at hw
  have hl2 : ∀ (n : Nat) (x1_2 : Int32) (q18_2 : Nat → Int32), m_X8_clearRows_L2 F  n x1_2 q18_2 = some R0 → ∀ (H : Heap) (locs : List Loc) (ls : Array Slot), Wd D A s.heap g N (shp g cy (up X 18 q18_2)) H locs → lv_has ls 2 [(1, .int x1_2), (0, .ref (g 17))] → W p l e (wR 0 0 0) s m args below meth c H locs 0 0 Q (F0 m 2 ls []) := by
    intro n
    induction n with
    | zero =>
      intro x1_2 q18_2 hinv
      cases hinv
    | succ n ih =>
      intro x1_2 q18_2 hinv H locs ls hw hl
      rw [m_X8_clearRows_L2] at hinv
      refine lv_iload_n hx hb dX8_clearRows_2 rfl (lv_at hl 0 rfl) ?_
      refine lv_bipush (v := 14) hx hb dX8_clearRows_3 (by decide) ?_
      refine lv_icmp_ge (tgt := 21) hx hb dX8_clearRows_5 (by decide) (fun c_5 => ?_) (fun c_5 => ?_)
      · have hinv := oi_t c_5 hinv
        rw [Option.some.inj hinv] at hw
        exact hret 21 ls _ _ _ _ hw (by decide) (by decide) dX8_clearRows_21
      · have hinv := oi_f c_5 hinv
        refine lv_aload_n hx hb dX8_clearRows_8 rfl (lv_at hl 1 rfl) ?_
        refine w_get C hw (k := 17) (v := .ref (g 18)) (j := 0) (q47 hN rfl) (sh_17 g cy _) rfl (by decide) k244 rfl dX8_clearRows_9 ?_
        refine lv_iload_n hx hb dX8_clearRows_12 rfl (lv_at hl 0 rfl) ?_
        refine lv_iconst (v := 0) hx hb dX8_clearRows_13 (by decide) ?_
        obtain ⟨hb_14, hinv⟩ := oi_c hinv
        refine s_iast C hw (k := 18) (a := q18_2) (q47 hN rfl) (fun r => sh_18 g cy r) rfl hb_14 dX8_clearRows_14 (fun H locs zw14 hw14 hw => ?_)
        try rw [← hw14] at hinv
        rw [up_up] at hw
        refine lv_iinc (v := (x1_2 + 1)) (lv' := [(1, .int (x1_2 + 1)), (0, .ref (g 17))]) hx hb dX8_clearRows_15 hl (k := 0) rfl (by rfl) (by decide) rfl (fun ls hl => ?_)
        refine lv_goto (tgt := 2) hx hb dX8_clearRows_18 (by decide) ?_
        exact ih (x1_2 + 1) zw14 hinv _ _ ls hw (lv_sub hl [0, 1] rfl)
  exact hl2 F 0 (X 18) hinv _ _ ls hw (lv_sub hl [0, 1] rfl)
def m_X8_addToRow (F : Nat) (r18 : Nat → Int32) (za1 : Int32) (za2 : Int32) : Option ((Nat → Int32)) := if za1 < 0 then (some r18) else (if 14 ≤ za1 then (some r18) else (if ¬ ((13 - za1) < 0 ∨ 14 ≤ (13 - za1).toNatClampNeg) then (if ¬ ((13 - za1) < 0 ∨ 14 ≤ (13 - za1).toNatClampNeg) then (some (upd r18 (13 - za1).toNatClampNeg ((r18 (13 - za1).toNatClampNeg) ||| za2))) else none) else none))
set_option maxHeartbeats 4000000 in
set_option maxRecDepth 100000 in
theorem c_X8_addToRow {l : Launch} {D : va_G} {cy : Nat → Nat} {g : Nat → Nat} {N : Nat} {X : Nat → Nat → Int32} {F : Nat} {za1 : Int32} {za2 : Int32} {R0 : (Nat → Int32)} (hfl : l.stackTraces = false) (hN : 47 ≤ N) (hinv : m_X8_addToRow F (X 18) za1 za2 = some R0) : sWv l D cy yX8_addToRow cX8_addToRow 3 none 0 0 0 [.ref (g 17), .int za1, .int za2] g N X (up X 18 R0) := by
  refine jWv (own := RX8) (by decide) rfl hfl (Nat.le_of_ble_eq_true rfl) rfl ?_
  intro p e R s m args below meth c ls A Q hRe C hw hl hret
  subst hRe
  have hx := C.1
  have hb := C.2.1
  have hl : lv_has ls 3 [(0, .ref (g 17)), (1, .int za1), (2, .int za2)] := hl
  rw [m_X8_addToRow] at hinv
  refine lv_iload_n hx hb dX8_addToRow_0 rfl (lv_at hl 1 rfl) ?_
  refine lv_if_lt (tgt := 23) hx hb dX8_addToRow_1 (by decide) (fun c_1 => ?_) (fun c_1 => ?_)
  · have hinv := oi_t c_1 hinv
    have hXe : X = (up X 18 (X 18)) := by
      funext j
      by_cases h18 : j = 18
      · subst h18; simp [up]
      simp [up, h18]
    rw [hXe] at hw
    rw [Option.some.inj hinv] at hw
    exact hret 23 ls _ _ _ _ hw (by decide) (by decide) dX8_addToRow_23
  · have hinv := oi_f c_1 hinv
    refine lv_iload_n hx hb dX8_addToRow_4 rfl (lv_at hl 1 rfl) ?_
    refine lv_bipush (v := 14) hx hb dX8_addToRow_5 (by decide) ?_
    refine lv_icmp_ge (tgt := 23) hx hb dX8_addToRow_7 (by decide) (fun c_7 => ?_) (fun c_7 => ?_)
    · have hinv := oi_t c_7 hinv
      have hXe : X = (up X 18 (X 18)) := by
        funext j
        by_cases h18 : j = 18
        · subst h18; simp [up]
        simp [up, h18]
      rw [hXe] at hw
      rw [Option.some.inj hinv] at hw
      exact hret 23 ls _ _ _ _ hw (by decide) (by decide) dX8_addToRow_23
    · have hinv := oi_f c_7 hinv
      refine lv_aload_n hx hb dX8_addToRow_10 rfl (lv_at hl 0 rfl) ?_
      refine w_get C hw (k := 17) (v := .ref (g 18)) (j := 0) (q47 hN rfl) (sh_17 g cy _) rfl (by decide) k244 rfl dX8_addToRow_11 ?_
      refine lv_bipush (v := 13) hx hb dX8_addToRow_14 (by decide) ?_
      refine lv_iload_n hx hb dX8_addToRow_16 rfl (lv_at hl 1 rfl) ?_
      refine lv_isub hx hb dX8_addToRow_17 ?_
      refine w_dup2 hx hb rfl rfl dX8_addToRow_18 ?_
      obtain ⟨hb_19, hinv⟩ := oi_c hinv
      refine s_iald C hw (k := 18) (a := (X 18)) (q47 hN rfl) (fun r => sh_18 g cy r) rfl hb_19 dX8_addToRow_19 ?_
      refine lv_iload_n hx hb dX8_addToRow_20 rfl (lv_at hl 2 rfl) ?_
      refine lv_ior hx hb dX8_addToRow_21 ?_
      obtain ⟨hb_22, hinv⟩ := oi_c hinv
      refine s_iast C hw (k := 18) (a := (X 18)) (q47 hN rfl) (fun r => sh_18 g cy r) rfl hb_22 dX8_addToRow_22 (fun H locs zw22 hw22 hw => ?_)
      try rw [← hw22] at hinv
      rw [Option.some.inj hinv] at hw
      exact hret 23 ls _ _ _ _ hw (by decide) (by decide) dX8_addToRow_23
def m_X8_fillHalves_L14 (F : Nat) (r18 : Nat → Int32) (y2_14 : Int32) (y1_14 : Int32) : Nat → Int32 → (Nat → Int32) → (Nat → Int32) → Option (Int32 × (Nat → Int32) × (Nat → Int32))
  | 0, _, _, _ => none
  | n + 1, x3_14, q19_14, q20_14 => if y2_14 ≤ x3_14 then (some (x3_14, q19_14, q20_14)) else (if ¬ (x3_14 < 0 ∨ 128 ≤ x3_14.toNatClampNeg) then (if ¬ (y1_14 < 0 ∨ 14 ≤ y1_14.toNatClampNeg) then (if ¬ ((y2_14 + x3_14) < 0 ∨ 128 ≤ (y2_14 + x3_14).toNatClampNeg) then (if ¬ (x3_14 < 0 ∨ 128 ≤ x3_14.toNatClampNeg) then (if ¬ ((y1_14 + 7) < 0 ∨ 14 ≤ (y1_14 + 7).toNatClampNeg) then (if ¬ ((y2_14 + x3_14) < 0 ∨ 128 ≤ (y2_14 + x3_14).toNatClampNeg) then (m_X8_fillHalves_L14 F r18 y2_14 y1_14 n (x3_14 + 1) (upd q19_14 (y2_14 + x3_14).toNatClampNeg ((q19_14 x3_14.toNatClampNeg) ||| (r18 y1_14.toNatClampNeg))) (upd q20_14 (y2_14 + x3_14).toNatClampNeg ((q20_14 x3_14.toNatClampNeg) ||| (r18 (y1_14 + 7).toNatClampNeg)))) else none) else none) else none) else none) else none) else none)
def m_X8_fillHalves_L2 (F : Nat) (r18 : Nat → Int32) : Nat → Int32 → (Nat → Int32) → (Nat → Int32) → Option ((Nat → Int32) × (Nat → Int32))
  | 0, _, _, _ => none
  | n + 1, x1_2, q19_2, q20_2 => if 7 ≤ x1_2 then (some (q19_2, q20_2)) else (Option.bind (m_X8_fillHalves_L14 F r18 ((1 : Int32) <<< (x1_2 &&& 31)) x1_2 F 0 q19_2 q20_2) (fun zu1 => m_X8_fillHalves_L2 F r18 n (x1_2 + 1) zu1.2.1 zu1.2.2))
def m_X8_fillHalves (F : Nat) (r18 : Nat → Int32) (r19 : Nat → Int32) (r20 : Nat → Int32) : Option ((Nat → Int32) × (Nat → Int32)) := m_X8_fillHalves_L2 F r18 F 0 r19 r20
set_option maxHeartbeats 4000000 in
set_option maxRecDepth 100000 in
theorem c_X8_fillHalves {l : Launch} {D : va_G} {cy : Nat → Nat} {g : Nat → Nat} {N : Nat} {X : Nat → Nat → Int32} {F : Nat} {R0 : (Nat → Int32) × (Nat → Int32)} (hfl : l.stackTraces = false) (hN : 47 ≤ N) (hinv : m_X8_fillHalves F (X 18) (X 19) (X 20) = some R0) : sWv l D cy yX8_fillHalves cX8_fillHalves 4 none 0 0 0 [.ref (g 17)] g N X (up (up X 19 R0.1) 20 R0.2) := by
  refine jWv (own := RX8) (by decide) rfl hfl (Nat.le_of_ble_eq_true rfl) rfl ?_
  intro p e R s m args below meth c ls A Q hRe C hw hl hret
  subst hRe
  have hx := C.1
  have hb := C.2.1
  have hl : lv_has ls 4 [(0, .ref (g 17))] := hl
  rw [m_X8_fillHalves] at hinv
  refine lv_iconst (v := 0) hx hb dX8_fillHalves_0 (by decide) ?_
  refine lv_istore_n (lv' := [(1, .int 0), (0, .ref (g 17))]) hx hb dX8_fillHalves_1 rfl hl (by decide) rfl (fun ls hl => ?_)
  have hXe : X = (up (up X 19 (X 19)) 20 (X 20)) := by
    funext j
    by_cases h19 : j = 19
    · subst h19; simp [up]
    by_cases h20 : j = 20
    · subst h20; simp [up]
    simp [up, h19, h20]
  rw [hXe] at hw
  have hl2 : ∀ (n : Nat) (x1_2 : Int32) (q19_2 : Nat → Int32) (q20_2 : Nat → Int32), m_X8_fillHalves_L2 F (X 18) n x1_2 q19_2 q20_2 = some R0 → ∀ (H : Heap) (locs : List Loc) (ls : Array Slot), Wd D A s.heap g N (shp g cy (up (up X 19 q19_2) 20 q20_2)) H locs → lv_has ls 4 [(1, .int x1_2), (0, .ref (g 17))] → W p l e (wR 0 0 0) s m args below meth c H locs 0 0 Q (F0 m 2 ls []) := by
    intro n
    induction n with
    | zero =>
      intro x1_2 q19_2 q20_2 hinv
      cases hinv
    | succ n ih =>
      intro x1_2 q19_2 q20_2 hinv H locs ls hw hl
      rw [m_X8_fillHalves_L2] at hinv
      refine lv_iload_n hx hb dX8_fillHalves_2 rfl (lv_at hl 0 rfl) ?_
      refine lv_bipush (v := 7) hx hb dX8_fillHalves_3 (by decide) ?_
      refine lv_icmp_ge (tgt := 76) hx hb dX8_fillHalves_5 (by decide) (fun c_5 => ?_) (fun c_5 => ?_)
      · have hinv := oi_t c_5 hinv
        have hR0 := (Option.some.inj hinv).symm
        subst hR0
        exact hret 76 ls _ _ _ _ hw (by decide) (by decide) dX8_fillHalves_76
      · have hinv := oi_f c_5 hinv
        refine lv_iconst (v := 1) hx hb dX8_fillHalves_8 (by decide) ?_
        refine lv_iload_n hx hb dX8_fillHalves_9 rfl (lv_at hl 0 rfl) ?_
        refine lv_ishl hx hb dX8_fillHalves_10 ?_
        refine lv_istore_n (lv' := [(2, .int ((1 : Int32) <<< (x1_2 &&& 31))), (1, .int x1_2), (0, .ref (g 17))]) hx hb dX8_fillHalves_11 rfl hl (by decide) rfl (fun ls hl => ?_)
        refine lv_iconst (v := 0) hx hb dX8_fillHalves_12 (by decide) ?_
        refine lv_istore_n (lv' := [(3, .int 0), (2, .int ((1 : Int32) <<< (x1_2 &&& 31))), (1, .int x1_2), (0, .ref (g 17))]) hx hb dX8_fillHalves_13 rfl hl (by decide) rfl (fun ls hl => ?_)
        obtain ⟨zu1, hzu1, hinv⟩ := ob hinv
        have hx14 : ∀ (H : Heap) (locs : List Loc) (ls : Array Slot), Wd D A s.heap g N (shp g cy (up (up X 19 zu1.2.1) 20 zu1.2.2)) H locs → lv_has ls 4 [(3, .int zu1.1), (2, .int ((1 : Int32) <<< (x1_2 &&& 31))), (1, .int x1_2), (0, .ref (g 17))] → W p l e (wR 0 0 0) s m args below meth c H locs 0 0 Q (F0 m 70 ls []) := by
          intro H locs ls hw hl
          refine lv_iinc (v := (x1_2 + 1)) (lv' := [(1, .int (x1_2 + 1)), (3, .int zu1.1), (2, .int ((1 : Int32) <<< (x1_2 &&& 31))), (0, .ref (g 17))]) hx hb dX8_fillHalves_70 hl (k := 2) rfl (by rfl) (by decide) rfl (fun ls hl => ?_)
          refine lv_goto (tgt := 2) hx hb dX8_fillHalves_73 (by decide) ?_
          exact ih (x1_2 + 1) zu1.2.1 zu1.2.2 hinv _ _ ls hw (lv_sub hl [0, 3] rfl)
        have hl14 : ∀ (n : Nat) (x3_14 : Int32) (q19_14 : Nat → Int32) (q20_14 : Nat → Int32), m_X8_fillHalves_L14 F (X 18) ((1 : Int32) <<< (x1_2 &&& 31)) x1_2 n x3_14 q19_14 q20_14 = some zu1 → ∀ (H : Heap) (locs : List Loc) (ls : Array Slot), Wd D A s.heap g N (shp g cy (up (up X 19 q19_14) 20 q20_14)) H locs → lv_has ls 4 [(3, .int x3_14), (2, .int ((1 : Int32) <<< (x1_2 &&& 31))), (1, .int x1_2), (0, .ref (g 17))] → W p l e (wR 0 0 0) s m args below meth c H locs 0 0 Q (F0 m 14 ls []) := by
          intro n
          induction n with
          | zero =>
            intro x3_14 q19_14 q20_14 hinv
            cases hinv
          | succ n ih =>
            intro x3_14 q19_14 q20_14 hinv H locs ls hw hl
            rw [m_X8_fillHalves_L14] at hinv
            refine lv_iload_n hx hb dX8_fillHalves_14 rfl (lv_at hl 0 rfl) ?_
            refine lv_iload_n hx hb dX8_fillHalves_15 rfl (lv_at hl 1 rfl) ?_
            refine lv_icmp_ge (tgt := 70) hx hb dX8_fillHalves_16 (by decide) (fun c_16 => ?_) (fun c_16 => ?_)
            · have hinv := oi_t c_16 hinv
              have hR9 := Option.some.inj hinv
              subst hR9
              exact hx14 _ _ ls hw (lv_sub hl [0, 1, 2, 3] rfl)
            · have hinv := oi_f c_16 hinv
              refine lv_aload_n hx hb dX8_fillHalves_19 rfl (lv_at hl 3 rfl) ?_
              refine w_get C hw (k := 17) (v := .ref (g 19)) (j := 1) (q47 hN rfl) (sh_17 g cy _) rfl (by decide) k245 rfl dX8_fillHalves_20 ?_
              refine lv_iload_n hx hb dX8_fillHalves_23 rfl (lv_at hl 1 rfl) ?_
              refine lv_iload_n hx hb dX8_fillHalves_24 rfl (lv_at hl 0 rfl) ?_
              refine lv_iadd hx hb dX8_fillHalves_25 ?_
              refine lv_aload_n hx hb dX8_fillHalves_26 rfl (lv_at hl 3 rfl) ?_
              refine w_get C hw (k := 17) (v := .ref (g 19)) (j := 1) (q47 hN rfl) (sh_17 g cy _) rfl (by decide) k245 rfl dX8_fillHalves_27 ?_
              refine lv_iload_n hx hb dX8_fillHalves_30 rfl (lv_at hl 0 rfl) ?_
              obtain ⟨hb_31, hinv⟩ := oi_c hinv
              refine s_iald C hw (k := 19) (a := q19_14) (q47 hN rfl) (fun r => sh_19 g cy r) rfl hb_31 dX8_fillHalves_31 ?_
              refine lv_aload_n hx hb dX8_fillHalves_32 rfl (lv_at hl 3 rfl) ?_
              refine w_get C hw (k := 17) (v := .ref (g 18)) (j := 0) (q47 hN rfl) (sh_17 g cy _) rfl (by decide) k244 rfl dX8_fillHalves_33 ?_
              refine lv_iload_n hx hb dX8_fillHalves_36 rfl (lv_at hl 2 rfl) ?_
              obtain ⟨hb_37, hinv⟩ := oi_c hinv
              refine s_iald C hw (k := 18) (a := (X 18)) (q47 hN rfl) (fun r => sh_18 g cy r) rfl hb_37 dX8_fillHalves_37 ?_
              refine lv_ior hx hb dX8_fillHalves_38 ?_
              obtain ⟨hb_39, hinv⟩ := oi_c hinv
              refine s_iast C hw (k := 19) (a := q19_14) (q47 hN rfl) (fun r => sh_19 g cy r) rfl hb_39 dX8_fillHalves_39 (fun H locs zw39 hw39 hw => ?_)
              try rw [← hw39] at hinv
              refine lv_aload_n hx hb dX8_fillHalves_40 rfl (lv_at hl 3 rfl) ?_
              refine w_get C hw (k := 17) (v := .ref (g 20)) (j := 2) (q47 hN rfl) (sh_17 g cy _) rfl (by decide) k246 rfl dX8_fillHalves_41 ?_
              refine lv_iload_n hx hb dX8_fillHalves_44 rfl (lv_at hl 1 rfl) ?_
              refine lv_iload_n hx hb dX8_fillHalves_45 rfl (lv_at hl 0 rfl) ?_
              refine lv_iadd hx hb dX8_fillHalves_46 ?_
              refine lv_aload_n hx hb dX8_fillHalves_47 rfl (lv_at hl 3 rfl) ?_
              refine w_get C hw (k := 17) (v := .ref (g 20)) (j := 2) (q47 hN rfl) (sh_17 g cy _) rfl (by decide) k246 rfl dX8_fillHalves_48 ?_
              refine lv_iload_n hx hb dX8_fillHalves_51 rfl (lv_at hl 0 rfl) ?_
              obtain ⟨hb_52, hinv⟩ := oi_c hinv
              refine s_iald C hw (k := 20) (a := q20_14) (q47 hN rfl) (fun r => sh_20 g cy r) rfl hb_52 dX8_fillHalves_52 ?_
              refine lv_aload_n hx hb dX8_fillHalves_53 rfl (lv_at hl 3 rfl) ?_
              refine w_get C hw (k := 17) (v := .ref (g 18)) (j := 0) (q47 hN rfl) (sh_17 g cy _) rfl (by decide) k244 rfl dX8_fillHalves_54 ?_
              refine lv_iload_n hx hb dX8_fillHalves_57 rfl (lv_at hl 2 rfl) ?_
              refine lv_bipush (v := 7) hx hb dX8_fillHalves_58 (by decide) ?_
              refine lv_iadd hx hb dX8_fillHalves_60 ?_
              obtain ⟨hb_61, hinv⟩ := oi_c hinv
              refine s_iald C hw (k := 18) (a := (X 18)) (q47 hN rfl) (fun r => sh_18 g cy r) rfl hb_61 dX8_fillHalves_61 ?_
              refine lv_ior hx hb dX8_fillHalves_62 ?_
              obtain ⟨hb_63, hinv⟩ := oi_c hinv
              refine s_iast C hw (k := 20) (a := q20_14) (q47 hN rfl) (fun r => sh_20 g cy r) rfl hb_63 dX8_fillHalves_63 (fun H locs zw63 hw63 hw => ?_)
              try rw [← hw63] at hinv
              refine lv_iinc (v := (x3_14 + 1)) (lv' := [(3, .int (x3_14 + 1)), (2, .int ((1 : Int32) <<< (x1_2 &&& 31))), (1, .int x1_2), (0, .ref (g 17))]) hx hb dX8_fillHalves_64 hl (k := 0) rfl (by rfl) (by decide) rfl (fun ls hl => ?_)
              refine lv_goto (tgt := 14) hx hb dX8_fillHalves_67 (by decide) ?_
              have hXe : (up (up (up (up X 19 q19_14) 20 q20_14) 19 zw39) 20 zw63) = (up (up X 19 zw39) 20 zw63) := by
                funext j
                by_cases h19 : j = 19
                · subst h19; simp [up]
                by_cases h20 : j = 20
                · subst h20; simp [up]
                simp [up, h19, h20]
              rw [hXe] at hw
              exact ih (x3_14 + 1) zw39 zw63 hinv _ _ ls hw (lv_sub hl [0, 1, 2, 3] rfl)
        exact hl14 F 0 q19_2 q20_2 hzu1 _ _ ls hw (lv_sub hl [0, 1, 2, 3] rfl)
  exact hl2 F 0 (X 19) (X 20) hinv _ _ ls hw (lv_sub hl [0, 1] rfl)
def m_X8_of (F : Nat) (r19 : Nat → Int32) (r20 : Nat → Int32) (za1 : Int32) : Option (Int32) := if ¬ ((za1 &&& 127) < 0 ∨ 128 ≤ (za1 &&& 127).toNatClampNeg) then (if ¬ (((za1 >>> (7 &&& 31)) &&& 127) < 0 ∨ 128 ≤ ((za1 >>> (7 &&& 31)) &&& 127).toNatClampNeg) then (some ((r19 (za1 &&& 127).toNatClampNeg) ||| (r20 ((za1 >>> (7 &&& 31)) &&& 127).toNatClampNeg))) else none) else none
set_option maxHeartbeats 4000000 in
set_option maxRecDepth 100000 in
theorem c_X8_of {l : Launch} {D : va_G} {cy : Nat → Nat} {g : Nat → Nat} {N : Nat} {X : Nat → Nat → Int32} {F : Nat} {za1 : Int32} {R0 : Int32} (hfl : l.stackTraces = false) (hN : 47 ≤ N) (hinv : m_X8_of F (X 19) (X 20) za1 = some R0) : sRi l D cy yX8_of cX8_of 2 (some .int) 0 [.ref (g 17), .int za1] g N X R0 := by
  refine jRi (own := RX8) (by decide) rfl hfl (Nat.le_of_ble_eq_true rfl) rfl ?_
  intro p e R s m args below meth c ls A Q hRe C hw hl hret
  subst hRe
  have hx := C.1
  have hb := C.2.1
  have hl : lv_has ls 2 [(0, .ref (g 17)), (1, .int za1)] := hl
  rw [m_X8_of] at hinv
  refine lv_aload_n hx hb dX8_of_0 rfl (lv_at hl 0 rfl) ?_
  refine w_get C hw (k := 17) (v := .ref (g 19)) (j := 1) (q47 hN rfl) (sh_17 g cy _) rfl (by decide) k245 rfl dX8_of_1 ?_
  refine lv_iload_n hx hb dX8_of_4 rfl (lv_at hl 1 rfl) ?_
  refine lv_bipush (v := 127) hx hb dX8_of_5 (by decide) ?_
  refine lv_iand hx hb dX8_of_7 ?_
  obtain ⟨hb_8, hinv⟩ := oi_c hinv
  refine s_iald C hw (k := 19) (a := (X 19)) (q47 hN rfl) (fun r => sh_19 g cy r) rfl hb_8 dX8_of_8 ?_
  refine lv_aload_n hx hb dX8_of_9 rfl (lv_at hl 0 rfl) ?_
  refine w_get C hw (k := 17) (v := .ref (g 20)) (j := 2) (q47 hN rfl) (sh_17 g cy _) rfl (by decide) k246 rfl dX8_of_10 ?_
  refine lv_iload_n hx hb dX8_of_13 rfl (lv_at hl 1 rfl) ?_
  refine lv_bipush (v := 7) hx hb dX8_of_14 (by decide) ?_
  refine lv_ishr hx hb dX8_of_16 ?_
  refine lv_bipush (v := 127) hx hb dX8_of_17 (by decide) ?_
  refine lv_iand hx hb dX8_of_19 ?_
  obtain ⟨hb_20, hinv⟩ := oi_c hinv
  refine s_iald C hw (k := 20) (a := (X 20)) (q47 hN rfl) (fun r => sh_20 g cy r) rfl hb_20 dX8_of_20 ?_
  refine lv_ior hx hb dX8_of_21 ?_
  exact hret 22 ls (((X 19) (za1 &&& 127).toNatClampNeg) ||| ((X 20) ((za1 >>> (7 &&& 31)) &&& 127).toNatClampNeg)) (Option.some.inj hinv) dX8_of_22
set_option maxHeartbeats 4000000 in
set_option maxRecDepth 100000 in
theorem c_X8_clearRows_21 {l : Launch} {D : va_G} {cy : Nat → Nat} {g : Nat → Nat} {N : Nat} {X : Nat → Nat → Int32} {F : Nat} {R0 : (Nat → Int32)} (hfl : l.stackTraces = false) (hN : 47 ≤ N) (hinv : m_X8_clearRows F (X 22) = some R0) : sWv l D cy yX8_clearRows cX8_clearRows 2 none 0 0 0 [.ref (g 21)] g N X (up X 22 R0) := by
  refine jWv (own := RX8) (by decide) rfl hfl (Nat.le_of_ble_eq_true rfl) rfl ?_
  intro p e R s m args below meth c ls A Q hRe C hw hl hret
  subst hRe
  have hx := C.1
  have hb := C.2.1
  have hl : lv_has ls 2 [(0, .ref (g 21))] := hl
  rw [m_X8_clearRows] at hinv
  refine lv_iconst (v := 0) hx hb dX8_clearRows_0 (by decide) ?_
  refine lv_istore_n (lv' := [(1, .int 0), (0, .ref (g 21))]) hx hb dX8_clearRows_1 rfl hl (by decide) rfl (fun ls hl => ?_)
  have hXe : X = (up X 22 (X 22)) := by
    funext j
    by_cases h22 : j = 22
    · subst h22; simp [up]
    simp [up, h22]
  rw [hXe] at hw
  have hl2 : ∀ (n : Nat) (x1_2 : Int32) (q22_2 : Nat → Int32), m_X8_clearRows_L2 F  n x1_2 q22_2 = some R0 → ∀ (H : Heap) (locs : List Loc) (ls : Array Slot), Wd D A s.heap g N (shp g cy (up X 22 q22_2)) H locs → lv_has ls 2 [(1, .int x1_2), (0, .ref (g 21))] → W p l e (wR 0 0 0) s m args below meth c H locs 0 0 Q (F0 m 2 ls []) := by
    intro n
    induction n with
    | zero =>
      intro x1_2 q22_2 hinv
      cases hinv
    | succ n ih =>
      intro x1_2 q22_2 hinv H locs ls hw hl
      rw [m_X8_clearRows_L2] at hinv
      refine lv_iload_n hx hb dX8_clearRows_2 rfl (lv_at hl 0 rfl) ?_
      refine lv_bipush (v := 14) hx hb dX8_clearRows_3 (by decide) ?_
      refine lv_icmp_ge (tgt := 21) hx hb dX8_clearRows_5 (by decide) (fun c_5 => ?_) (fun c_5 => ?_)
      · have hinv := oi_t c_5 hinv
        rw [Option.some.inj hinv] at hw
        exact hret 21 ls _ _ _ _ hw (by decide) (by decide) dX8_clearRows_21
      · have hinv := oi_f c_5 hinv
        refine lv_aload_n hx hb dX8_clearRows_8 rfl (lv_at hl 1 rfl) ?_
        refine w_get C hw (k := 21) (v := .ref (g 22)) (j := 0) (q47 hN rfl) (sh_21 g cy _) rfl (by decide) k244 rfl dX8_clearRows_9 ?_
        refine lv_iload_n hx hb dX8_clearRows_12 rfl (lv_at hl 0 rfl) ?_
        refine lv_iconst (v := 0) hx hb dX8_clearRows_13 (by decide) ?_
        obtain ⟨hb_14, hinv⟩ := oi_c hinv
        refine s_iast C hw (k := 22) (a := q22_2) (q47 hN rfl) (fun r => sh_22 g cy r) rfl hb_14 dX8_clearRows_14 (fun H locs zw14 hw14 hw => ?_)
        try rw [← hw14] at hinv
        rw [up_up] at hw
        refine lv_iinc (v := (x1_2 + 1)) (lv' := [(1, .int (x1_2 + 1)), (0, .ref (g 21))]) hx hb dX8_clearRows_15 hl (k := 0) rfl (by rfl) (by decide) rfl (fun ls hl => ?_)
        refine lv_goto (tgt := 2) hx hb dX8_clearRows_18 (by decide) ?_
        exact ih (x1_2 + 1) zw14 hinv _ _ ls hw (lv_sub hl [0, 1] rfl)
  exact hl2 F 0 (X 22) hinv _ _ ls hw (lv_sub hl [0, 1] rfl)
set_option maxHeartbeats 4000000 in
set_option maxRecDepth 100000 in
theorem c_X8_addToRow_21 {l : Launch} {D : va_G} {cy : Nat → Nat} {g : Nat → Nat} {N : Nat} {X : Nat → Nat → Int32} {F : Nat} {za1 : Int32} {za2 : Int32} {R0 : (Nat → Int32)} (hfl : l.stackTraces = false) (hN : 47 ≤ N) (hinv : m_X8_addToRow F (X 22) za1 za2 = some R0) : sWv l D cy yX8_addToRow cX8_addToRow 3 none 0 0 0 [.ref (g 21), .int za1, .int za2] g N X (up X 22 R0) := by
  refine jWv (own := RX8) (by decide) rfl hfl (Nat.le_of_ble_eq_true rfl) rfl ?_
  intro p e R s m args below meth c ls A Q hRe C hw hl hret
  subst hRe
  have hx := C.1
  have hb := C.2.1
  have hl : lv_has ls 3 [(0, .ref (g 21)), (1, .int za1), (2, .int za2)] := hl
  rw [m_X8_addToRow] at hinv
  refine lv_iload_n hx hb dX8_addToRow_0 rfl (lv_at hl 1 rfl) ?_
  refine lv_if_lt (tgt := 23) hx hb dX8_addToRow_1 (by decide) (fun c_1 => ?_) (fun c_1 => ?_)
  · have hinv := oi_t c_1 hinv
    have hXe : X = (up X 22 (X 22)) := by
      funext j
      by_cases h22 : j = 22
      · subst h22; simp [up]
      simp [up, h22]
    rw [hXe] at hw
    rw [Option.some.inj hinv] at hw
    exact hret 23 ls _ _ _ _ hw (by decide) (by decide) dX8_addToRow_23
  · have hinv := oi_f c_1 hinv
    refine lv_iload_n hx hb dX8_addToRow_4 rfl (lv_at hl 1 rfl) ?_
    refine lv_bipush (v := 14) hx hb dX8_addToRow_5 (by decide) ?_
    refine lv_icmp_ge (tgt := 23) hx hb dX8_addToRow_7 (by decide) (fun c_7 => ?_) (fun c_7 => ?_)
    · have hinv := oi_t c_7 hinv
      have hXe : X = (up X 22 (X 22)) := by
        funext j
        by_cases h22 : j = 22
        · subst h22; simp [up]
        simp [up, h22]
      rw [hXe] at hw
      rw [Option.some.inj hinv] at hw
      exact hret 23 ls _ _ _ _ hw (by decide) (by decide) dX8_addToRow_23
    · have hinv := oi_f c_7 hinv
      refine lv_aload_n hx hb dX8_addToRow_10 rfl (lv_at hl 0 rfl) ?_
      refine w_get C hw (k := 21) (v := .ref (g 22)) (j := 0) (q47 hN rfl) (sh_21 g cy _) rfl (by decide) k244 rfl dX8_addToRow_11 ?_
      refine lv_bipush (v := 13) hx hb dX8_addToRow_14 (by decide) ?_
      refine lv_iload_n hx hb dX8_addToRow_16 rfl (lv_at hl 1 rfl) ?_
      refine lv_isub hx hb dX8_addToRow_17 ?_
      refine w_dup2 hx hb rfl rfl dX8_addToRow_18 ?_
      obtain ⟨hb_19, hinv⟩ := oi_c hinv
      refine s_iald C hw (k := 22) (a := (X 22)) (q47 hN rfl) (fun r => sh_22 g cy r) rfl hb_19 dX8_addToRow_19 ?_
      refine lv_iload_n hx hb dX8_addToRow_20 rfl (lv_at hl 2 rfl) ?_
      refine lv_ior hx hb dX8_addToRow_21 ?_
      obtain ⟨hb_22, hinv⟩ := oi_c hinv
      refine s_iast C hw (k := 22) (a := (X 22)) (q47 hN rfl) (fun r => sh_22 g cy r) rfl hb_22 dX8_addToRow_22 (fun H locs zw22 hw22 hw => ?_)
      try rw [← hw22] at hinv
      rw [Option.some.inj hinv] at hw
      exact hret 23 ls _ _ _ _ hw (by decide) (by decide) dX8_addToRow_23
set_option maxHeartbeats 4000000 in
set_option maxRecDepth 100000 in
theorem c_X8_fillHalves_21 {l : Launch} {D : va_G} {cy : Nat → Nat} {g : Nat → Nat} {N : Nat} {X : Nat → Nat → Int32} {F : Nat} {R0 : (Nat → Int32) × (Nat → Int32)} (hfl : l.stackTraces = false) (hN : 47 ≤ N) (hinv : m_X8_fillHalves F (X 22) (X 23) (X 24) = some R0) : sWv l D cy yX8_fillHalves cX8_fillHalves 4 none 0 0 0 [.ref (g 21)] g N X (up (up X 23 R0.1) 24 R0.2) := by
  refine jWv (own := RX8) (by decide) rfl hfl (Nat.le_of_ble_eq_true rfl) rfl ?_
  intro p e R s m args below meth c ls A Q hRe C hw hl hret
  subst hRe
  have hx := C.1
  have hb := C.2.1
  have hl : lv_has ls 4 [(0, .ref (g 21))] := hl
  rw [m_X8_fillHalves] at hinv
  refine lv_iconst (v := 0) hx hb dX8_fillHalves_0 (by decide) ?_
  refine lv_istore_n (lv' := [(1, .int 0), (0, .ref (g 21))]) hx hb dX8_fillHalves_1 rfl hl (by decide) rfl (fun ls hl => ?_)
  have hXe : X = (up (up X 23 (X 23)) 24 (X 24)) := by
    funext j
    by_cases h23 : j = 23
    · subst h23; simp [up]
    by_cases h24 : j = 24
    · subst h24; simp [up]
    simp [up, h23, h24]
  rw [hXe] at hw
  have hl2 : ∀ (n : Nat) (x1_2 : Int32) (q23_2 : Nat → Int32) (q24_2 : Nat → Int32), m_X8_fillHalves_L2 F (X 22) n x1_2 q23_2 q24_2 = some R0 → ∀ (H : Heap) (locs : List Loc) (ls : Array Slot), Wd D A s.heap g N (shp g cy (up (up X 23 q23_2) 24 q24_2)) H locs → lv_has ls 4 [(1, .int x1_2), (0, .ref (g 21))] → W p l e (wR 0 0 0) s m args below meth c H locs 0 0 Q (F0 m 2 ls []) := by
    intro n
    induction n with
    | zero =>
      intro x1_2 q23_2 q24_2 hinv
      cases hinv
    | succ n ih =>
      intro x1_2 q23_2 q24_2 hinv H locs ls hw hl
      rw [m_X8_fillHalves_L2] at hinv
      refine lv_iload_n hx hb dX8_fillHalves_2 rfl (lv_at hl 0 rfl) ?_
      refine lv_bipush (v := 7) hx hb dX8_fillHalves_3 (by decide) ?_
      refine lv_icmp_ge (tgt := 76) hx hb dX8_fillHalves_5 (by decide) (fun c_5 => ?_) (fun c_5 => ?_)
      · have hinv := oi_t c_5 hinv
        have hR0 := (Option.some.inj hinv).symm
        subst hR0
        exact hret 76 ls _ _ _ _ hw (by decide) (by decide) dX8_fillHalves_76
      · have hinv := oi_f c_5 hinv
        refine lv_iconst (v := 1) hx hb dX8_fillHalves_8 (by decide) ?_
        refine lv_iload_n hx hb dX8_fillHalves_9 rfl (lv_at hl 0 rfl) ?_
        refine lv_ishl hx hb dX8_fillHalves_10 ?_
        refine lv_istore_n (lv' := [(2, .int ((1 : Int32) <<< (x1_2 &&& 31))), (1, .int x1_2), (0, .ref (g 21))]) hx hb dX8_fillHalves_11 rfl hl (by decide) rfl (fun ls hl => ?_)
        refine lv_iconst (v := 0) hx hb dX8_fillHalves_12 (by decide) ?_
        refine lv_istore_n (lv' := [(3, .int 0), (2, .int ((1 : Int32) <<< (x1_2 &&& 31))), (1, .int x1_2), (0, .ref (g 21))]) hx hb dX8_fillHalves_13 rfl hl (by decide) rfl (fun ls hl => ?_)
        obtain ⟨zu1, hzu1, hinv⟩ := ob hinv
        have hx14 : ∀ (H : Heap) (locs : List Loc) (ls : Array Slot), Wd D A s.heap g N (shp g cy (up (up X 23 zu1.2.1) 24 zu1.2.2)) H locs → lv_has ls 4 [(3, .int zu1.1), (2, .int ((1 : Int32) <<< (x1_2 &&& 31))), (1, .int x1_2), (0, .ref (g 21))] → W p l e (wR 0 0 0) s m args below meth c H locs 0 0 Q (F0 m 70 ls []) := by
          intro H locs ls hw hl
          refine lv_iinc (v := (x1_2 + 1)) (lv' := [(1, .int (x1_2 + 1)), (3, .int zu1.1), (2, .int ((1 : Int32) <<< (x1_2 &&& 31))), (0, .ref (g 21))]) hx hb dX8_fillHalves_70 hl (k := 2) rfl (by rfl) (by decide) rfl (fun ls hl => ?_)
          refine lv_goto (tgt := 2) hx hb dX8_fillHalves_73 (by decide) ?_
          exact ih (x1_2 + 1) zu1.2.1 zu1.2.2 hinv _ _ ls hw (lv_sub hl [0, 3] rfl)
        have hl14 : ∀ (n : Nat) (x3_14 : Int32) (q23_14 : Nat → Int32) (q24_14 : Nat → Int32), m_X8_fillHalves_L14 F (X 22) ((1 : Int32) <<< (x1_2 &&& 31)) x1_2 n x3_14 q23_14 q24_14 = some zu1 → ∀ (H : Heap) (locs : List Loc) (ls : Array Slot), Wd D A s.heap g N (shp g cy (up (up X 23 q23_14) 24 q24_14)) H locs → lv_has ls 4 [(3, .int x3_14), (2, .int ((1 : Int32) <<< (x1_2 &&& 31))), (1, .int x1_2), (0, .ref (g 21))] → W p l e (wR 0 0 0) s m args below meth c H locs 0 0 Q (F0 m 14 ls []) := by
          intro n
          induction n with
          | zero =>
            intro x3_14 q23_14 q24_14 hinv
            cases hinv
          | succ n ih =>
            intro x3_14 q23_14 q24_14 hinv H locs ls hw hl
            rw [m_X8_fillHalves_L14] at hinv
            refine lv_iload_n hx hb dX8_fillHalves_14 rfl (lv_at hl 0 rfl) ?_
            refine lv_iload_n hx hb dX8_fillHalves_15 rfl (lv_at hl 1 rfl) ?_
            refine lv_icmp_ge (tgt := 70) hx hb dX8_fillHalves_16 (by decide) (fun c_16 => ?_) (fun c_16 => ?_)
            · have hinv := oi_t c_16 hinv
              have hR9 := Option.some.inj hinv
              subst hR9
              exact hx14 _ _ ls hw (lv_sub hl [0, 1, 2, 3] rfl)
            · have hinv := oi_f c_16 hinv
              refine lv_aload_n hx hb dX8_fillHalves_19 rfl (lv_at hl 3 rfl) ?_
              refine w_get C hw (k := 21) (v := .ref (g 23)) (j := 1) (q47 hN rfl) (sh_21 g cy _) rfl (by decide) k245 rfl dX8_fillHalves_20 ?_
              refine lv_iload_n hx hb dX8_fillHalves_23 rfl (lv_at hl 1 rfl) ?_
              refine lv_iload_n hx hb dX8_fillHalves_24 rfl (lv_at hl 0 rfl) ?_
              refine lv_iadd hx hb dX8_fillHalves_25 ?_
              refine lv_aload_n hx hb dX8_fillHalves_26 rfl (lv_at hl 3 rfl) ?_
              refine w_get C hw (k := 21) (v := .ref (g 23)) (j := 1) (q47 hN rfl) (sh_21 g cy _) rfl (by decide) k245 rfl dX8_fillHalves_27 ?_
              refine lv_iload_n hx hb dX8_fillHalves_30 rfl (lv_at hl 0 rfl) ?_
              obtain ⟨hb_31, hinv⟩ := oi_c hinv
              refine s_iald C hw (k := 23) (a := q23_14) (q47 hN rfl) (fun r => sh_23 g cy r) rfl hb_31 dX8_fillHalves_31 ?_
              refine lv_aload_n hx hb dX8_fillHalves_32 rfl (lv_at hl 3 rfl) ?_
              refine w_get C hw (k := 21) (v := .ref (g 22)) (j := 0) (q47 hN rfl) (sh_21 g cy _) rfl (by decide) k244 rfl dX8_fillHalves_33 ?_
              refine lv_iload_n hx hb dX8_fillHalves_36 rfl (lv_at hl 2 rfl) ?_
              obtain ⟨hb_37, hinv⟩ := oi_c hinv
              refine s_iald C hw (k := 22) (a := (X 22)) (q47 hN rfl) (fun r => sh_22 g cy r) rfl hb_37 dX8_fillHalves_37 ?_
              refine lv_ior hx hb dX8_fillHalves_38 ?_
              obtain ⟨hb_39, hinv⟩ := oi_c hinv
              refine s_iast C hw (k := 23) (a := q23_14) (q47 hN rfl) (fun r => sh_23 g cy r) rfl hb_39 dX8_fillHalves_39 (fun H locs zw39 hw39 hw => ?_)
              try rw [← hw39] at hinv
              refine lv_aload_n hx hb dX8_fillHalves_40 rfl (lv_at hl 3 rfl) ?_
              refine w_get C hw (k := 21) (v := .ref (g 24)) (j := 2) (q47 hN rfl) (sh_21 g cy _) rfl (by decide) k246 rfl dX8_fillHalves_41 ?_
              refine lv_iload_n hx hb dX8_fillHalves_44 rfl (lv_at hl 1 rfl) ?_
              refine lv_iload_n hx hb dX8_fillHalves_45 rfl (lv_at hl 0 rfl) ?_
              refine lv_iadd hx hb dX8_fillHalves_46 ?_
              refine lv_aload_n hx hb dX8_fillHalves_47 rfl (lv_at hl 3 rfl) ?_
              refine w_get C hw (k := 21) (v := .ref (g 24)) (j := 2) (q47 hN rfl) (sh_21 g cy _) rfl (by decide) k246 rfl dX8_fillHalves_48 ?_
              refine lv_iload_n hx hb dX8_fillHalves_51 rfl (lv_at hl 0 rfl) ?_
              obtain ⟨hb_52, hinv⟩ := oi_c hinv
              refine s_iald C hw (k := 24) (a := q24_14) (q47 hN rfl) (fun r => sh_24 g cy r) rfl hb_52 dX8_fillHalves_52 ?_
              refine lv_aload_n hx hb dX8_fillHalves_53 rfl (lv_at hl 3 rfl) ?_
              refine w_get C hw (k := 21) (v := .ref (g 22)) (j := 0) (q47 hN rfl) (sh_21 g cy _) rfl (by decide) k244 rfl dX8_fillHalves_54 ?_
              refine lv_iload_n hx hb dX8_fillHalves_57 rfl (lv_at hl 2 rfl) ?_
              refine lv_bipush (v := 7) hx hb dX8_fillHalves_58 (by decide) ?_
              refine lv_iadd hx hb dX8_fillHalves_60 ?_
              obtain ⟨hb_61, hinv⟩ := oi_c hinv
              refine s_iald C hw (k := 22) (a := (X 22)) (q47 hN rfl) (fun r => sh_22 g cy r) rfl hb_61 dX8_fillHalves_61 ?_
              refine lv_ior hx hb dX8_fillHalves_62 ?_
              obtain ⟨hb_63, hinv⟩ := oi_c hinv
              refine s_iast C hw (k := 24) (a := q24_14) (q47 hN rfl) (fun r => sh_24 g cy r) rfl hb_63 dX8_fillHalves_63 (fun H locs zw63 hw63 hw => ?_)
              try rw [← hw63] at hinv
              refine lv_iinc (v := (x3_14 + 1)) (lv' := [(3, .int (x3_14 + 1)), (2, .int ((1 : Int32) <<< (x1_2 &&& 31))), (1, .int x1_2), (0, .ref (g 21))]) hx hb dX8_fillHalves_64 hl (k := 0) rfl (by rfl) (by decide) rfl (fun ls hl => ?_)
              refine lv_goto (tgt := 14) hx hb dX8_fillHalves_67 (by decide) ?_
              have hXe : (up (up (up (up X 23 q23_14) 24 q24_14) 23 zw39) 24 zw63) = (up (up X 23 zw39) 24 zw63) := by
                funext j
                by_cases h23 : j = 23
                · subst h23; simp [up]
                by_cases h24 : j = 24
                · subst h24; simp [up]
                simp [up, h23, h24]
              rw [hXe] at hw
              exact ih (x3_14 + 1) zw39 zw63 hinv _ _ ls hw (lv_sub hl [0, 1, 2, 3] rfl)
        exact hl14 F 0 q23_2 q24_2 hzu1 _ _ ls hw (lv_sub hl [0, 1, 2, 3] rfl)
  exact hl2 F 0 (X 23) (X 24) hinv _ _ ls hw (lv_sub hl [0, 1] rfl)
set_option maxHeartbeats 4000000 in
set_option maxRecDepth 100000 in
theorem c_X8_of_21 {l : Launch} {D : va_G} {cy : Nat → Nat} {g : Nat → Nat} {N : Nat} {X : Nat → Nat → Int32} {F : Nat} {za1 : Int32} {R0 : Int32} (hfl : l.stackTraces = false) (hN : 47 ≤ N) (hinv : m_X8_of F (X 23) (X 24) za1 = some R0) : sRi l D cy yX8_of cX8_of 2 (some .int) 0 [.ref (g 21), .int za1] g N X R0 := by
  refine jRi (own := RX8) (by decide) rfl hfl (Nat.le_of_ble_eq_true rfl) rfl ?_
  intro p e R s m args below meth c ls A Q hRe C hw hl hret
  subst hRe
  have hx := C.1
  have hb := C.2.1
  have hl : lv_has ls 2 [(0, .ref (g 21)), (1, .int za1)] := hl
  rw [m_X8_of] at hinv
  refine lv_aload_n hx hb dX8_of_0 rfl (lv_at hl 0 rfl) ?_
  refine w_get C hw (k := 21) (v := .ref (g 23)) (j := 1) (q47 hN rfl) (sh_21 g cy _) rfl (by decide) k245 rfl dX8_of_1 ?_
  refine lv_iload_n hx hb dX8_of_4 rfl (lv_at hl 1 rfl) ?_
  refine lv_bipush (v := 127) hx hb dX8_of_5 (by decide) ?_
  refine lv_iand hx hb dX8_of_7 ?_
  obtain ⟨hb_8, hinv⟩ := oi_c hinv
  refine s_iald C hw (k := 23) (a := (X 23)) (q47 hN rfl) (fun r => sh_23 g cy r) rfl hb_8 dX8_of_8 ?_
  refine lv_aload_n hx hb dX8_of_9 rfl (lv_at hl 0 rfl) ?_
  refine w_get C hw (k := 21) (v := .ref (g 24)) (j := 2) (q47 hN rfl) (sh_21 g cy _) rfl (by decide) k246 rfl dX8_of_10 ?_
  refine lv_iload_n hx hb dX8_of_13 rfl (lv_at hl 1 rfl) ?_
  refine lv_bipush (v := 7) hx hb dX8_of_14 (by decide) ?_
  refine lv_ishr hx hb dX8_of_16 ?_
  refine lv_bipush (v := 127) hx hb dX8_of_17 (by decide) ?_
  refine lv_iand hx hb dX8_of_19 ?_
  obtain ⟨hb_20, hinv⟩ := oi_c hinv
  refine s_iald C hw (k := 24) (a := (X 24)) (q47 hN rfl) (fun r => sh_24 g cy r) rfl hb_20 dX8_of_20 ?_
  refine lv_ior hx hb dX8_of_21 ?_
  exact hret 22 ls (((X 23) (za1 &&& 127).toNatClampNeg) ||| ((X 24) ((za1 >>> (7 &&& 31)) &&& 127).toNatClampNeg)) (Option.some.inj hinv) dX8_of_22
def m_X7_restFrom (F : Nat) (r16 : Nat → Int32) (za1 : Int32) : Option (Int32) := some (((((1 : Int32) <<< ((r16 4) &&& 31)) - 1) <<< ((14 - (r16 4)) &&& 31)) &&& (((1 : Int32) <<< ((14 - za1) &&& 31)) - 1))
set_option maxHeartbeats 4000000 in
set_option maxRecDepth 100000 in
theorem c_X7_restFrom {l : Launch} {D : va_G} {cy : Nat → Nat} {g : Nat → Nat} {N : Nat} {X : Nat → Nat → Int32} {F : Nat} {za1 : Int32} {R0 : Int32} (hfl : l.stackTraces = false) (hN : 47 ≤ N) (hinv : m_X7_restFrom F (X 16) za1 = some R0) : sRi l D cy yX7_restFrom cX7_restFrom 3 (some .int) 0 [.ref (g 16), .int za1] g N X R0 := by
  refine jRi (own := RX7) (by decide) rfl hfl (Nat.le_of_ble_eq_true rfl) rfl ?_
  intro p e R s m args below meth c ls A Q hRe C hw hl hret
  subst hRe
  have hx := C.1
  have hb := C.2.1
  have hl : lv_has ls 3 [(0, .ref (g 16)), (1, .int za1)] := hl
  rw [m_X7_restFrom] at hinv
  refine lv_iconst (v := 1) hx hb dX7_restFrom_0 (by decide) ?_
  refine lv_aload_n hx hb dX7_restFrom_1 rfl (lv_at hl 0 rfl) ?_
  refine w_get C hw (k := 16) (v := .int ((X 16) 4)) (j := 4) (q47 hN rfl) (sh_16 g cy _) rfl (by decide) k265 rfl dX7_restFrom_2 ?_
  refine lv_ishl hx hb dX7_restFrom_5 ?_
  refine lv_iconst (v := 1) hx hb dX7_restFrom_6 (by decide) ?_
  refine lv_isub hx hb dX7_restFrom_7 ?_
  refine lv_bipush (v := 14) hx hb dX7_restFrom_8 (by decide) ?_
  refine lv_aload_n hx hb dX7_restFrom_10 rfl (lv_at hl 0 rfl) ?_
  refine w_get C hw (k := 16) (v := .int ((X 16) 4)) (j := 4) (q47 hN rfl) (sh_16 g cy _) rfl (by decide) k265 rfl dX7_restFrom_11 ?_
  refine lv_isub hx hb dX7_restFrom_14 ?_
  refine lv_ishl hx hb dX7_restFrom_15 ?_
  refine lv_istore_n (lv' := [(2, .int ((((1 : Int32) <<< (((X 16) 4) &&& 31)) - 1) <<< ((14 - ((X 16) 4)) &&& 31))), (0, .ref (g 16)), (1, .int za1)]) hx hb dX7_restFrom_16 rfl hl (by decide) rfl (fun ls hl => ?_)
  refine lv_iload_n hx hb dX7_restFrom_17 rfl (lv_at hl 0 rfl) ?_
  refine lv_iconst (v := 1) hx hb dX7_restFrom_18 (by decide) ?_
  refine lv_bipush (v := 14) hx hb dX7_restFrom_19 (by decide) ?_
  refine lv_iload_n hx hb dX7_restFrom_21 rfl (lv_at hl 2 rfl) ?_
  refine lv_isub hx hb dX7_restFrom_22 ?_
  refine lv_ishl hx hb dX7_restFrom_23 ?_
  refine lv_iconst (v := 1) hx hb dX7_restFrom_24 (by decide) ?_
  refine lv_isub hx hb dX7_restFrom_25 ?_
  refine lv_iand hx hb dX7_restFrom_26 ?_
  exact hret 27 ls (((((1 : Int32) <<< (((X 16) 4) &&& 31)) - 1) <<< ((14 - ((X 16) 4)) &&& 31)) &&& (((1 : Int32) <<< ((14 - za1) &&& 31)) - 1)) (Option.some.inj hinv) dX7_restFrom_27
def m_X7_isPeaceful (F : Nat) (r19 : Nat → Int32) (r20 : Nat → Int32) (za1 : Int32) : Option (Int32) := Option.bind (m_X8_of F r19 r20 za1) (fun zu1 => if (zu1 &&& za1) = 0 then (some (1 : Int32)) else (some (0 : Int32)))
set_option maxHeartbeats 4000000 in
set_option maxRecDepth 100000 in
theorem c_X7_isPeaceful {l : Launch} {D : va_G} {cy : Nat → Nat} {g : Nat → Nat} {N : Nat} {X : Nat → Nat → Int32} {F : Nat} {za1 : Int32} {R0 : Int32} (hfl : l.stackTraces = false) (hN : 47 ≤ N) (hinv : m_X7_isPeaceful F (X 19) (X 20) za1 = some R0) : sRi l D cy yX7_isPeaceful cX7_isPeaceful 2 (some .boolean) 1 [.ref (g 16), .int za1] g N X R0 := by
  refine jRz (own := RX7) (by decide) rfl hfl (Nat.le_of_ble_eq_true rfl) rfl ?_
  intro p e R s m args below meth c ls A Q hRe C hw hl hret
  subst hRe
  have hx := C.1
  have hb := C.2.1
  have hl : lv_has ls 2 [(0, .ref (g 16)), (1, .int za1)] := hl
  rw [m_X7_isPeaceful] at hinv
  refine lv_aload_n hx hb dX7_isPeaceful_0 rfl (lv_at hl 0 rfl) ?_
  refine w_get C hw (k := 16) (v := .ref (g 17)) (j := 0) (q47 hN rfl) (sh_16 g cy _) rfl (by decide) k252 rfl dX7_isPeaceful_1 ?_
  refine lv_iload_n hx hb dX7_isPeaceful_4 rfl (lv_at hl 1 rfl) ?_
  obtain ⟨zu1, hzu1, hinv⟩ := ob hinv
  refine s_vRi (r0 := zu1) C hw (As := [.int za1]) bX8_of k282 (k := 17) (q47 hN rfl) (sh_17 g cy _) rfl (c_X8_of (X := X) hfl hN hzu1) rfl rfl dX7_isPeaceful_5 ⟨rfl, rfl⟩ (by decide) hl.1 (Nat.le_of_ble_eq_true rfl) ⟨Nat.le_of_ble_eq_true rfl, Nat.le_of_ble_eq_true rfl⟩ ?_
  refine lv_iload_n hx hb dX7_isPeaceful_8 rfl (lv_at hl 1 rfl) ?_
  refine lv_iand hx hb dX7_isPeaceful_9 ?_
  refine lv_if_ne (tgt := 17) hx hb dX7_isPeaceful_10 (by decide) (fun c_10 => ?_) (fun c_10 => ?_)
  · have hinv := oi_f c_10 hinv
    refine lv_iconst (v := 0) hx hb dX7_isPeaceful_17 (by decide) ?_
    exact hret 18 ls 0 (Option.some.inj hinv) (by decide) dX7_isPeaceful_18
  · have hinv := oi_t c_10 hinv
    refine lv_iconst (v := 1) hx hb dX7_isPeaceful_13 (by decide) ?_
    refine lv_goto (tgt := 18) hx hb dX7_isPeaceful_14 (by decide) ?_
    exact hret 18 ls 1 (Option.some.inj hinv) (by decide) dX7_isPeaceful_18
def m_X7_canDefend (F : Nat) (r19 : Nat → Int32) (r20 : Nat → Int32) (r23 : Nat → Int32) (r24 : Nat → Int32) (za1 : Int32) (za2 : Int32) : Option (Int32) := Option.bind (m_X8_of F r19 r20 za1) (fun zu1 => Option.bind (m_X8_of F r23 r24 za2) (fun zu2 => if (zu1 &&& (zu2 ^^^ (-1))) = 0 then (some (1 : Int32)) else (some (0 : Int32))))
set_option maxHeartbeats 4000000 in
set_option maxRecDepth 100000 in
theorem c_X7_canDefend {l : Launch} {D : va_G} {cy : Nat → Nat} {g : Nat → Nat} {N : Nat} {X : Nat → Nat → Int32} {F : Nat} {za1 : Int32} {za2 : Int32} {R0 : Int32} (hfl : l.stackTraces = false) (hN : 47 ≤ N) (hinv : m_X7_canDefend F (X 19) (X 20) (X 23) (X 24) za1 za2 = some R0) : sRi l D cy yX7_canDefend cX7_canDefend 3 (some .boolean) 1 [.ref (g 16), .int za1, .int za2] g N X R0 := by
  refine jRz (own := RX7) (by decide) rfl hfl (Nat.le_of_ble_eq_true rfl) rfl ?_
  intro p e R s m args below meth c ls A Q hRe C hw hl hret
  subst hRe
  have hx := C.1
  have hb := C.2.1
  have hl : lv_has ls 3 [(0, .ref (g 16)), (1, .int za1), (2, .int za2)] := hl
  rw [m_X7_canDefend] at hinv
  refine lv_aload_n hx hb dX7_canDefend_0 rfl (lv_at hl 0 rfl) ?_
  refine w_get C hw (k := 16) (v := .ref (g 17)) (j := 0) (q47 hN rfl) (sh_16 g cy _) rfl (by decide) k252 rfl dX7_canDefend_1 ?_
  refine lv_iload_n hx hb dX7_canDefend_4 rfl (lv_at hl 1 rfl) ?_
  obtain ⟨zu1, hzu1, hinv⟩ := ob hinv
  refine s_vRi (r0 := zu1) C hw (As := [.int za1]) bX8_of k282 (k := 17) (q47 hN rfl) (sh_17 g cy _) rfl (c_X8_of (X := X) hfl hN hzu1) rfl rfl dX7_canDefend_5 ⟨rfl, rfl⟩ (by decide) hl.1 (Nat.le_of_ble_eq_true rfl) ⟨Nat.le_of_ble_eq_true rfl, Nat.le_of_ble_eq_true rfl⟩ ?_
  refine lv_aload_n hx hb dX7_canDefend_8 rfl (lv_at hl 0 rfl) ?_
  refine w_get C hw (k := 16) (v := .ref (g 21)) (j := 1) (q47 hN rfl) (sh_16 g cy _) rfl (by decide) k253 rfl dX7_canDefend_9 ?_
  refine lv_iload_n hx hb dX7_canDefend_12 rfl (lv_at hl 2 rfl) ?_
  obtain ⟨zu2, hzu2, hinv⟩ := ob hinv
  refine s_vRi (r0 := zu2) C hw (As := [.int za2]) bX8_of k282 (k := 21) (q47 hN rfl) (sh_21 g cy _) rfl (c_X8_of_21 (X := X) hfl hN hzu2) rfl rfl dX7_canDefend_13 ⟨rfl, rfl⟩ (by decide) hl.1 (Nat.le_of_ble_eq_true rfl) ⟨Nat.le_of_ble_eq_true rfl, Nat.le_of_ble_eq_true rfl⟩ ?_
  refine lv_iconst (v := (-1)) hx hb dX7_canDefend_16 (by decide) ?_
  refine lv_ixor hx hb dX7_canDefend_17 ?_
  refine lv_iand hx hb dX7_canDefend_18 ?_
  refine lv_if_ne (tgt := 26) hx hb dX7_canDefend_19 (by decide) (fun c_19 => ?_) (fun c_19 => ?_)
  · have hinv := oi_f c_19 hinv
    refine lv_iconst (v := 0) hx hb dX7_canDefend_26 (by decide) ?_
    exact hret 27 ls 0 (Option.some.inj hinv) (by decide) dX7_canDefend_27
  · have hinv := oi_t c_19 hinv
    refine lv_iconst (v := 1) hx hb dX7_canDefend_22 (by decide) ?_
    refine lv_goto (tgt := 27) hx hb dX7_canDefend_23 (by decide) ?_
    exact hret 27 ls 1 (Option.some.inj hinv) (by decide) dX7_canDefend_27
def m_X7_prepare_L37 (F : Nat) (r13 : Nat → Int32) (y3_37 : Int32) : Nat → Int32 → (Nat → Int32) → (Nat → Int32) → (Nat → Int32) → Option (Int32 × (Nat → Int32) × (Nat → Int32) × (Nat → Int32))
  | 0, _, _, _, _ => none
  | n + 1, x4_37, q16_37, q18_37, q22_37 => if (q16_37 4) ≤ x4_37 then (some (x4_37, q16_37, q18_37, q22_37)) else (Option.bind (m_X1_leads F r13 y3_37 x4_37) (fun zu7 => if zu7 = 0 then (m_X7_prepare_L37 F r13 y3_37 n (x4_37 + 1) q16_37 q18_37 q22_37) else (Option.bind (m_X9_setBit F y3_37) (fun zu8 => Option.bind (m_X8_addToRow F q18_37 x4_37 zu8) (fun zu9 => Option.bind (m_X9_setBit F x4_37) (fun zu10 => Option.bind (m_X8_addToRow F q22_37 y3_37 zu10) (fun zu11 => m_X7_prepare_L37 F r13 y3_37 n (x4_37 + 1) q16_37 zu9 zu11)))))))
def m_X7_prepare_L26 (F : Nat) (r13 : Nat → Int32) : Nat → Int32 → (Nat → Int32) → (Nat → Int32) → (Nat → Int32) → Option (Int32 × (Nat → Int32) × (Nat → Int32) × (Nat → Int32))
  | 0, _, _, _, _ => none
  | n + 1, x3_26, q16_26, q18_26, q22_26 => if (q16_26 4) ≤ x3_26 then (some (x3_26, q16_26, q18_26, q22_26)) else (Option.bind (m_X7_prepare_L37 F r13 x3_26 F 0 q16_26 q18_26 q22_26) (fun zu6 => m_X7_prepare_L26 F r13 n (x3_26 + 1) zu6.2.1 zu6.2.2.1 zu6.2.2.2))
def m_X7_prepare (F : Nat) (r13 : Nat → Int32) (r16 : Nat → Int32) (r18 : Nat → Int32) (r19 : Nat → Int32) (r20 : Nat → Int32) (r22 : Nat → Int32) (r23 : Nat → Int32) (r24 : Nat → Int32) (za2 : Int32) : Option ((Nat → Int32) × (Nat → Int32) × (Nat → Int32) × (Nat → Int32) × (Nat → Int32) × (Nat → Int32) × (Nat → Int32)) := Option.bind (m_X8_clearRows F r18) (fun zu1 => Option.bind (m_X8_clearRows F r22) (fun zu2 => Option.bind (m_X7_prepare_L26 F r13 F 0 (upd r16 4 (if 14 < za2 then 14 else za2)) zu1 zu2) (fun zu3 => Option.bind (m_X8_fillHalves F zu3.2.2.1 r19 r20) (fun zu4 => Option.bind (m_X8_fillHalves F zu3.2.2.2 r23 r24) (fun zu5 => some (zu3.2.1, zu3.2.2.1, zu4.1, zu4.2, zu3.2.2.2, zu5.1, zu5.2))))))
set_option maxHeartbeats 4000000 in
set_option maxRecDepth 100000 in
theorem c_X7_prepare {l : Launch} {D : va_G} {cy : Nat → Nat} {g : Nat → Nat} {N : Nat} {X : Nat → Nat → Int32} {F : Nat} {za2 : Int32} {R0 : (Nat → Int32) × (Nat → Int32) × (Nat → Int32) × (Nat → Int32) × (Nat → Int32) × (Nat → Int32) × (Nat → Int32)} (hfl : l.stackTraces = false) (hN : 47 ≤ N) (hinv : m_X7_prepare F (X 13) (X 16) (X 18) (X 19) (X 20) (X 22) (X 23) (X 24) za2 = some R0) : sWv l D cy yX7_prepare cX7_prepare 5 none 2 0 0 [.ref (g 16), .ref (g 12), .int za2] g N X (up (up (up (up (up (up (up X 16 R0.1) 18 R0.2.1) 19 R0.2.2.1) 20 R0.2.2.2.1) 22 R0.2.2.2.2.1) 23 R0.2.2.2.2.2.1) 24 R0.2.2.2.2.2.2) := by
  refine jWv (own := RX7) (by decide) rfl hfl (Nat.le_of_ble_eq_true rfl) rfl ?_
  intro p e R s m args below meth c ls A Q hRe C hw hl hret
  subst hRe
  have hx := C.1
  have hb := C.2.1
  have hl : lv_has ls 5 [(0, .ref (g 16)), (1, .ref (g 12)), (2, .int za2)] := hl
  rw [m_X7_prepare] at hinv
  refine lv_aload_n hx hb dX7_prepare_0 rfl (lv_at hl 0 rfl) ?_
  refine lv_iload_n hx hb dX7_prepare_1 rfl (lv_at hl 2 rfl) ?_
  refine lv_bipush (v := 14) hx hb dX7_prepare_2 (by decide) ?_
  refine va_mmin hx hb (by rw [C.2.2.1]; exact hl.1.symm) C.2.2.2.1 (C.w k264) (C.w k193) (C.w k62) (C.w k194) (Nat.le_of_ble_eq_true rfl) (Nat.le_of_ble_eq_true rfl) (Nat.le_of_ble_eq_true rfl) (Nat.le_of_ble_eq_true rfl) dX7_prepare_4 ?_
  refine s_put C hw (k := 16) (row := (upd (X 16) 4 (if 14 < za2 then 14 else za2))) (ty := tyX7) (v := .int (if 14 < za2 then 14 else za2)) (j := 4) (q47 hN rfl) (sh_16 g cy _) rfl tyX7_ok nmX7 (by decide) k265 rfl rfl rfl (Nat.le_of_ble_eq_true rfl) (sh_16 g cy _) dX7_prepare_7 (fun H locs hw => ?_)
  refine lv_aload_n hx hb dX7_prepare_10 rfl (lv_at hl 0 rfl) ?_
  refine w_get C hw (k := 16) (v := .ref (g 17)) (j := 0) (q47 hN rfl) (sh_16 g cy _) rfl (by decide) k252 rfl dX7_prepare_11 ?_
  obtain ⟨zu1, hzu1, hinv⟩ := ob hinv
  refine s_vWv C hw (As := []) bX8_clearRows k266 (k := 17) (q47 hN rfl) (sh_17 g cy _) rfl (c_X8_clearRows (X := (up X 16 (upd (X 16) 4 (if 14 < za2 then 14 else za2)))) hfl hN hzu1) rfl rfl dX7_prepare_14 ⟨rfl, rfl⟩ (by decide) hl.1 (Nat.le_of_ble_eq_true rfl) ⟨Nat.le_of_ble_eq_true rfl, Nat.le_of_ble_eq_true rfl⟩ (fun H locs hw => ?_)
  refine lv_aload_n hx hb dX7_prepare_17 rfl (lv_at hl 0 rfl) ?_
  refine w_get C hw (k := 16) (v := .ref (g 21)) (j := 1) (q47 hN rfl) (sh_16 g cy _) rfl (by decide) k253 rfl dX7_prepare_18 ?_
  obtain ⟨zu2, hzu2, hinv⟩ := ob hinv
  refine s_vWv C hw (As := []) bX8_clearRows k266 (k := 21) (q47 hN rfl) (sh_21 g cy _) rfl (c_X8_clearRows_21 (X := (up (up X 16 (upd (X 16) 4 (if 14 < za2 then 14 else za2))) 18 zu1)) hfl hN hzu2) rfl rfl dX7_prepare_21 ⟨rfl, rfl⟩ (by decide) hl.1 (Nat.le_of_ble_eq_true rfl) ⟨Nat.le_of_ble_eq_true rfl, Nat.le_of_ble_eq_true rfl⟩ (fun H locs hw => ?_)
  refine lv_iconst (v := 0) hx hb dX7_prepare_24 (by decide) ?_
  refine lv_istore_n (lv' := [(3, .int 0), (0, .ref (g 16)), (1, .ref (g 12)), (2, .int za2)]) hx hb dX7_prepare_25 rfl hl (by decide) rfl (fun ls hl => ?_)
  obtain ⟨zu3, hzu3, hinv⟩ := ob hinv
  have hx26 : ∀ (H : Heap) (locs : List Loc) (ls : Array Slot), Wd D A s.heap g N (shp g cy (up (up (up X 16 zu3.2.1) 18 zu3.2.2.1) 22 zu3.2.2.2)) H locs → lv_has ls 5 [(3, .int zu3.1), (0, .ref (g 16)), (1, .ref (g 12)), (2, .int za2)] → W p l e (wR 2 0 0) s m args below meth c H locs 0 0 Q (F0 m 94 ls []) := by
    intro H locs ls hw hl
    refine lv_aload_n hx hb dX7_prepare_94 rfl (lv_at hl 1 rfl) ?_
    refine w_get C hw (k := 16) (v := .ref (g 17)) (j := 0) (q47 hN rfl) (sh_16 g cy _) rfl (by decide) k252 rfl dX7_prepare_95 ?_
    obtain ⟨zu4, hzu4, hinv⟩ := ob hinv
    refine s_vWv C hw (As := []) bX8_fillHalves k275 (k := 17) (q47 hN rfl) (sh_17 g cy _) rfl (c_X8_fillHalves (X := (up (up (up X 16 zu3.2.1) 18 zu3.2.2.1) 22 zu3.2.2.2)) hfl hN hzu4) rfl rfl dX7_prepare_98 ⟨rfl, rfl⟩ (by decide) hl.1 (Nat.le_of_ble_eq_true rfl) ⟨Nat.le_of_ble_eq_true rfl, Nat.le_of_ble_eq_true rfl⟩ (fun H locs hw => ?_)
    refine lv_aload_n hx hb dX7_prepare_101 rfl (lv_at hl 1 rfl) ?_
    refine w_get C hw (k := 16) (v := .ref (g 21)) (j := 1) (q47 hN rfl) (sh_16 g cy _) rfl (by decide) k253 rfl dX7_prepare_102 ?_
    obtain ⟨zu5, hzu5, hinv⟩ := ob hinv
    refine s_vWv C hw (As := []) bX8_fillHalves k275 (k := 21) (q47 hN rfl) (sh_21 g cy _) rfl (c_X8_fillHalves_21 (X := (up (up (up (up (up X 16 zu3.2.1) 18 zu3.2.2.1) 22 zu3.2.2.2) 19 zu4.1) 20 zu4.2)) hfl hN hzu5) rfl rfl dX7_prepare_105 ⟨rfl, rfl⟩ (by decide) hl.1 (Nat.le_of_ble_eq_true rfl) ⟨Nat.le_of_ble_eq_true rfl, Nat.le_of_ble_eq_true rfl⟩ (fun H locs hw => ?_)
    have hR0 := (Option.some.inj hinv).symm
    subst hR0
    have hXe : (up (up (up (up (up (up (up X 16 zu3.2.1) 18 zu3.2.2.1) 22 zu3.2.2.2) 19 zu4.1) 20 zu4.2) 23 zu5.1) 24 zu5.2) = (up (up (up (up (up (up (up X 16 zu3.2.1) 18 zu3.2.2.1) 19 zu4.1) 20 zu4.2) 22 zu3.2.2.2) 23 zu5.1) 24 zu5.2) := by
      funext j
      by_cases h16 : j = 16
      · subst h16; simp [up]
      by_cases h18 : j = 18
      · subst h18; simp [up]
      by_cases h19 : j = 19
      · subst h19; simp [up]
      by_cases h20 : j = 20
      · subst h20; simp [up]
      by_cases h22 : j = 22
      · subst h22; simp [up]
      by_cases h23 : j = 23
      · subst h23; simp [up]
      by_cases h24 : j = 24
      · subst h24; simp [up]
      simp [up, h16, h18, h19, h20, h22, h23, h24]
    rw [hXe] at hw
    exact hret 108 ls _ _ _ _ hw (by decide) (by decide) dX7_prepare_108
  have hl26 : ∀ (n : Nat) (x3_26 : Int32) (q16_26 : Nat → Int32) (q18_26 : Nat → Int32) (q22_26 : Nat → Int32), m_X7_prepare_L26 F (X 13) n x3_26 q16_26 q18_26 q22_26 = some zu3 → ∀ (H : Heap) (locs : List Loc) (ls : Array Slot), Wd D A s.heap g N (shp g cy (up (up (up X 16 q16_26) 18 q18_26) 22 q22_26)) H locs → lv_has ls 5 [(3, .int x3_26), (0, .ref (g 16)), (1, .ref (g 12)), (2, .int za2)] → W p l e (wR 2 0 0) s m args below meth c H locs 0 0 Q (F0 m 26 ls []) := by
    intro n
    induction n with
    | zero =>
      intro x3_26 q16_26 q18_26 q22_26 hinv
      cases hinv
    | succ n ih =>
      intro x3_26 q16_26 q18_26 q22_26 hinv H locs ls hw hl
      rw [m_X7_prepare_L26] at hinv
      refine lv_iload_n hx hb dX7_prepare_26 rfl (lv_at hl 0 rfl) ?_
      refine lv_aload_n hx hb dX7_prepare_27 rfl (lv_at hl 1 rfl) ?_
      refine w_get C hw (k := 16) (v := .int (q16_26 4)) (j := 4) (q47 hN rfl) (sh_16 g cy _) rfl (by decide) k265 rfl dX7_prepare_28 ?_
      refine lv_icmp_ge (tgt := 94) hx hb dX7_prepare_31 (by decide) (fun c_31 => ?_) (fun c_31 => ?_)
      · have hinv := oi_t c_31 hinv
        have hR9 := Option.some.inj hinv
        subst hR9
        exact hx26 _ _ ls hw (lv_sub hl [0, 1, 2, 3] rfl)
      · have hinv := oi_f c_31 hinv
        refine lv_iconst (v := 0) hx hb dX7_prepare_34 (by decide) ?_
        refine lv_istore (lv' := [(4, .int 0), (3, .int x3_26), (0, .ref (g 16)), (1, .ref (g 12)), (2, .int za2)]) hx hb dX7_prepare_35 hl (by decide) rfl (fun ls hl => ?_)
        obtain ⟨zu6, hzu6, hinv⟩ := ob hinv
        have hx37 : ∀ (H : Heap) (locs : List Loc) (ls : Array Slot), Wd D A s.heap g N (shp g cy (up (up (up X 16 zu6.2.1) 18 zu6.2.2.1) 22 zu6.2.2.2)) H locs → lv_has ls 5 [(4, .int zu6.1), (3, .int x3_26), (0, .ref (g 16)), (1, .ref (g 12)), (2, .int za2)] → W p l e (wR 2 0 0) s m args below meth c H locs 0 0 Q (F0 m 88 ls []) := by
          intro H locs ls hw hl
          refine lv_iinc (v := (x3_26 + 1)) (lv' := [(3, .int (x3_26 + 1)), (4, .int zu6.1), (0, .ref (g 16)), (1, .ref (g 12)), (2, .int za2)]) hx hb dX7_prepare_88 hl (k := 1) rfl (by rfl) (by decide) rfl (fun ls hl => ?_)
          refine lv_goto (tgt := 26) hx hb dX7_prepare_91 (by decide) ?_
          exact ih (x3_26 + 1) zu6.2.1 zu6.2.2.1 zu6.2.2.2 hinv _ _ ls hw (lv_sub hl [0, 2, 3, 4] rfl)
        have hl37 : ∀ (n : Nat) (x4_37 : Int32) (q16_37 : Nat → Int32) (q18_37 : Nat → Int32) (q22_37 : Nat → Int32), m_X7_prepare_L37 F (X 13) x3_26 n x4_37 q16_37 q18_37 q22_37 = some zu6 → ∀ (H : Heap) (locs : List Loc) (ls : Array Slot), Wd D A s.heap g N (shp g cy (up (up (up X 16 q16_37) 18 q18_37) 22 q22_37)) H locs → lv_has ls 5 [(4, .int x4_37), (3, .int x3_26), (0, .ref (g 16)), (1, .ref (g 12)), (2, .int za2)] → W p l e (wR 2 0 0) s m args below meth c H locs 0 0 Q (F0 m 37 ls []) := by
          intro n
          induction n with
          | zero =>
            intro x4_37 q16_37 q18_37 q22_37 hinv
            cases hinv
          | succ n ih =>
            intro x4_37 q16_37 q18_37 q22_37 hinv H locs ls hw hl
            rw [m_X7_prepare_L37] at hinv
            refine lv_iload hx hb dX7_prepare_37 (lv_at hl 0 rfl) ?_
            refine lv_aload_n hx hb dX7_prepare_39 rfl (lv_at hl 2 rfl) ?_
            refine w_get C hw (k := 16) (v := .int (q16_37 4)) (j := 4) (q47 hN rfl) (sh_16 g cy _) rfl (by decide) k265 rfl dX7_prepare_40 ?_
            refine lv_icmp_ge (tgt := 88) hx hb dX7_prepare_43 (by decide) (fun c_43 => ?_) (fun c_43 => ?_)
            · have hinv := oi_t c_43 hinv
              have hR9 := Option.some.inj hinv
              subst hR9
              exact hx37 _ _ ls hw (lv_sub hl [0, 1, 2, 3, 4] rfl)
            · have hinv := oi_f c_43 hinv
              refine lv_aload_n hx hb dX7_prepare_46 rfl (lv_at hl 3 rfl) ?_
              refine lv_iload_n hx hb dX7_prepare_47 rfl (lv_at hl 1 rfl) ?_
              refine lv_iload hx hb dX7_prepare_48 (lv_at hl 0 rfl) ?_
              obtain ⟨zu7, hzu7, hinv⟩ := ob hinv
              refine s_vRi (r0 := zu7) C hw (As := [.int x3_26, .int x4_37]) bX1_leads k269 (k := 12) (q47 hN rfl) (sh_12 g cy _) rfl (c_X1_leads (X := (up (up (up X 16 q16_37) 18 q18_37) 22 q22_37)) hfl hN hzu7) rfl rfl dX7_prepare_50 ⟨rfl, rfl⟩ (by decide) hl.1 (Nat.le_of_ble_eq_true rfl) ⟨Nat.le_of_ble_eq_true rfl, Nat.le_of_ble_eq_true rfl⟩ ?_
              refine lv_if_eq (tgt := 82) hx hb dX7_prepare_53 (by decide) (fun c_53 => ?_) (fun c_53 => ?_)
              · have hinv := oi_t c_53 hinv
                refine lv_iinc (v := (x4_37 + 1)) (lv' := [(4, .int (x4_37 + 1)), (3, .int x3_26), (0, .ref (g 16)), (1, .ref (g 12)), (2, .int za2)]) hx hb dX7_prepare_82 hl (k := 0) rfl (by rfl) (by decide) rfl (fun ls hl => ?_)
                refine lv_goto (tgt := 37) hx hb dX7_prepare_85 (by decide) ?_
                exact ih (x4_37 + 1) q16_37 q18_37 q22_37 hinv _ _ ls hw (lv_sub hl [0, 1, 2, 3, 4] rfl)
              · have hinv := oi_f c_53 hinv
                refine lv_aload_n hx hb dX7_prepare_56 rfl (lv_at hl 2 rfl) ?_
                refine w_get C hw (k := 16) (v := .ref (g 17)) (j := 0) (q47 hN rfl) (sh_16 g cy _) rfl (by decide) k252 rfl dX7_prepare_57 ?_
                refine lv_iload hx hb dX7_prepare_60 (lv_at hl 0 rfl) ?_
                refine lv_iload_n hx hb dX7_prepare_62 rfl (lv_at hl 1 rfl) ?_
                obtain ⟨zu8, hzu8, hinv⟩ := ob hinv
                refine s_nRi (r0 := zu8) C hw (As := [.int x3_26]) bX9_setBit k861 (c_X9_setBit (X := (up (up (up X 16 q16_37) 18 q18_37) 22 q22_37)) hfl hN hzu8) rfl rfl dX7_prepare_63 ⟨rfl, rfl⟩ (by decide) hl.1 (Nat.le_of_ble_eq_true rfl) ⟨Nat.le_of_ble_eq_true rfl, Nat.le_of_ble_eq_true rfl⟩ ?_
                obtain ⟨zu9, hzu9, hinv⟩ := ob hinv
                refine s_vWv C hw (As := [.int x4_37, .int zu8]) bX8_addToRow k272 (k := 17) (q47 hN rfl) (sh_17 g cy _) rfl (c_X8_addToRow (X := (up (up (up X 16 q16_37) 18 q18_37) 22 q22_37)) hfl hN hzu9) rfl rfl dX7_prepare_66 ⟨rfl, rfl⟩ (by decide) hl.1 (Nat.le_of_ble_eq_true rfl) ⟨Nat.le_of_ble_eq_true rfl, Nat.le_of_ble_eq_true rfl⟩ (fun H locs hw => ?_)
                refine lv_aload_n hx hb dX7_prepare_69 rfl (lv_at hl 2 rfl) ?_
                refine w_get C hw (k := 16) (v := .ref (g 21)) (j := 1) (q47 hN rfl) (sh_16 g cy _) rfl (by decide) k253 rfl dX7_prepare_70 ?_
                refine lv_iload_n hx hb dX7_prepare_73 rfl (lv_at hl 1 rfl) ?_
                refine lv_iload hx hb dX7_prepare_74 (lv_at hl 0 rfl) ?_
                obtain ⟨zu10, hzu10, hinv⟩ := ob hinv
                refine s_nRi (r0 := zu10) C hw (As := [.int x4_37]) bX9_setBit k861 (c_X9_setBit (X := (up (up (up (up X 16 q16_37) 18 q18_37) 22 q22_37) 18 zu9)) hfl hN hzu10) rfl rfl dX7_prepare_76 ⟨rfl, rfl⟩ (by decide) hl.1 (Nat.le_of_ble_eq_true rfl) ⟨Nat.le_of_ble_eq_true rfl, Nat.le_of_ble_eq_true rfl⟩ ?_
                obtain ⟨zu11, hzu11, hinv⟩ := ob hinv
                refine s_vWv C hw (As := [.int x3_26, .int zu10]) bX8_addToRow k272 (k := 21) (q47 hN rfl) (sh_21 g cy _) rfl (c_X8_addToRow_21 (X := (up (up (up (up X 16 q16_37) 18 q18_37) 22 q22_37) 18 zu9)) hfl hN hzu11) rfl rfl dX7_prepare_79 ⟨rfl, rfl⟩ (by decide) hl.1 (Nat.le_of_ble_eq_true rfl) ⟨Nat.le_of_ble_eq_true rfl, Nat.le_of_ble_eq_true rfl⟩ (fun H locs hw => ?_)
                refine lv_iinc (v := (x4_37 + 1)) (lv' := [(4, .int (x4_37 + 1)), (3, .int x3_26), (0, .ref (g 16)), (1, .ref (g 12)), (2, .int za2)]) hx hb dX7_prepare_82 hl (k := 0) rfl (by rfl) (by decide) rfl (fun ls hl => ?_)
                refine lv_goto (tgt := 37) hx hb dX7_prepare_85 (by decide) ?_
                have hXe : (up (up (up (up (up X 16 q16_37) 18 q18_37) 22 q22_37) 18 zu9) 22 zu11) = (up (up (up X 16 q16_37) 18 zu9) 22 zu11) := by
                  funext j
                  by_cases h16 : j = 16
                  · subst h16; simp [up]
                  by_cases h18 : j = 18
                  · subst h18; simp [up]
                  by_cases h22 : j = 22
                  · subst h22; simp [up]
                  simp [up, h16, h18, h22]
                rw [hXe] at hw
                exact ih (x4_37 + 1) q16_37 zu9 zu11 hinv _ _ ls hw (lv_sub hl [0, 1, 2, 3, 4] rfl)
        exact hl37 F 0 q16_26 q18_26 q22_26 hzu6 _ _ ls hw (lv_sub hl [0, 1, 2, 3, 4] rfl)
  exact hl26 F 0 (upd (X 16) 4 (if 14 < za2 then 14 else za2)) zu1 zu2 hzu3 _ _ ls hw (lv_sub hl [0, 1, 2, 3] rfl)
def m_X7_sweep_L16 (F : Nat) (r16 : Nat → Int32) (r19 : Nat → Int32) (r20 : Nat → Int32) (r23 : Nat → Int32) (r24 : Nat → Int32) : Nat → Int32 → (Nat → Int32) → (Nat → Int32) → Option ((Nat → Int32) × (Nat → Int32))
  | 0, _, _, _ => none
  | n + 1, x1_16, q27_16, q28_16 => if x1_16 < 0 then (some (q27_16, q28_16)) else (Option.bind (m_X7_isPeaceful F r19 r20 (x1_16 <<< ((14 - (r16 4)) &&& 31))) (fun zu2 => if zu2 = 0 then (m_X7_sweep_L16 F r16 r19 r20 r23 r24 n (x1_16 + (-1)) q27_16 q28_16) else (Option.bind (m_X7_canDefend F r19 r20 r23 r24 (x1_16 <<< ((14 - (r16 4)) &&& 31)) (x1_16 <<< ((14 - (r16 4)) &&& 31))) (fun zu3 => if zu3 = 0 then (m_X7_sweep_L16 F r16 r19 r20 r23 r24 n (x1_16 + (-1)) q27_16 q28_16) else (Option.bind (m_X6_covers F q27_16 q28_16 (x1_16 <<< ((14 - (r16 4)) &&& 31))) (fun zu4 => if zu4 = 0 then (Option.bind (m_X6_keep F q27_16 q28_16 (x1_16 <<< ((14 - (r16 4)) &&& 31))) (fun zu5 => m_X7_sweep_L16 F r16 r19 r20 r23 r24 n (x1_16 + (-1)) zu5.1 zu5.2)) else (m_X7_sweep_L16 F r16 r19 r20 r23 r24 n (x1_16 + (-1)) q27_16 q28_16)))))))
def m_X7_sweep (F : Nat) (r16 : Nat → Int32) (r19 : Nat → Int32) (r20 : Nat → Int32) (r23 : Nat → Int32) (r24 : Nat → Int32) (r27 : Nat → Int32) (r28 : Nat → Int32) : Option ((Nat → Int32) × (Nat → Int32)) := Option.bind (m_X6_clear F r27) (fun zu1 => m_X7_sweep_L16 F r16 r19 r20 r23 r24 F (((1 : Int32) <<< ((r16 4) &&& 31)) - 1) zu1 r28)
set_option maxHeartbeats 4000000 in
set_option maxRecDepth 100000 in
theorem c_X7_sweep {l : Launch} {D : va_G} {cy : Nat → Nat} {g : Nat → Nat} {N : Nat} {X : Nat → Nat → Int32} {F : Nat} {R0 : (Nat → Int32) × (Nat → Int32)} (hfl : l.stackTraces = false) (hN : 47 ≤ N) (hinv : m_X7_sweep F (X 16) (X 19) (X 20) (X 23) (X 24) (X 27) (X 28) = some R0) : sWv l D cy yX7_sweep cX7_sweep 3 none 2 0 0 [.ref (g 16)] g N X (up (up X 27 R0.1) 28 R0.2) := by
  refine jWv (own := RX7) (by decide) rfl hfl (Nat.le_of_ble_eq_true rfl) rfl ?_
  intro p e R s m args below meth c ls A Q hRe C hw hl hret
  subst hRe
  have hx := C.1
  have hb := C.2.1
  have hl : lv_has ls 3 [(0, .ref (g 16))] := hl
  rw [m_X7_sweep] at hinv
  refine lv_aload_n hx hb dX7_sweep_0 rfl (lv_at hl 0 rfl) ?_
  refine w_get C hw (k := 16) (v := .ref (g 27)) (j := 3) (q47 hN rfl) (sh_16 g cy _) rfl (by decide) k258 rfl dX7_sweep_1 ?_
  obtain ⟨zu1, hzu1, hinv⟩ := ob hinv
  refine s_vWv C hw (As := []) bX6_clear k305 (k := 27) (q47 hN rfl) (sh_27 g cy _) rfl (c_X6_clear_27 (X := X) hfl hN hzu1) rfl rfl dX7_sweep_4 ⟨rfl, rfl⟩ (by decide) hl.1 (Nat.le_of_ble_eq_true rfl) ⟨Nat.le_of_ble_eq_true rfl, Nat.le_of_ble_eq_true rfl⟩ (fun H locs hw => ?_)
  refine lv_iconst (v := 1) hx hb dX7_sweep_7 (by decide) ?_
  refine lv_aload_n hx hb dX7_sweep_8 rfl (lv_at hl 0 rfl) ?_
  refine w_get C hw (k := 16) (v := .int ((X 16) 4)) (j := 4) (q47 hN rfl) (sh_16 g cy _) rfl (by decide) k265 rfl dX7_sweep_9 ?_
  refine lv_ishl hx hb dX7_sweep_12 ?_
  refine lv_iconst (v := 1) hx hb dX7_sweep_13 (by decide) ?_
  refine lv_isub hx hb dX7_sweep_14 ?_
  refine lv_istore_n (lv' := [(1, .int (((1 : Int32) <<< (((X 16) 4) &&& 31)) - 1)), (0, .ref (g 16))]) hx hb dX7_sweep_15 rfl hl (by decide) rfl (fun ls hl => ?_)
  have hXe : (up X 27 zu1) = (up (up X 27 zu1) 28 (X 28)) := by
    funext j
    by_cases h27 : j = 27
    · subst h27; simp [up]
    by_cases h28 : j = 28
    · subst h28; simp [up]
    simp [up, h27, h28]
  rw [hXe] at hw
  have hl16 : ∀ (n : Nat) (x1_16 : Int32) (q27_16 : Nat → Int32) (q28_16 : Nat → Int32), m_X7_sweep_L16 F (X 16) (X 19) (X 20) (X 23) (X 24) n x1_16 q27_16 q28_16 = some R0 → ∀ (H : Heap) (locs : List Loc) (ls : Array Slot), Wd D A s.heap g N (shp g cy (up (up X 27 q27_16) 28 q28_16)) H locs → lv_has ls 3 [(1, .int x1_16), (0, .ref (g 16))] → W p l e (wR 2 0 0) s m args below meth c H locs 0 0 Q (F0 m 16 ls []) := by
    intro n
    induction n with
    | zero =>
      intro x1_16 q27_16 q28_16 hinv
      cases hinv
    | succ n ih =>
      intro x1_16 q27_16 q28_16 hinv H locs ls hw hl
      rw [m_X7_sweep_L16] at hinv
      refine lv_iload_n hx hb dX7_sweep_16 rfl (lv_at hl 0 rfl) ?_
      refine lv_if_lt (tgt := 72) hx hb dX7_sweep_17 (by decide) (fun c_17 => ?_) (fun c_17 => ?_)
      · have hinv := oi_t c_17 hinv
        have hR0 := (Option.some.inj hinv).symm
        subst hR0
        exact hret 72 ls _ _ _ _ hw (by decide) (by decide) dX7_sweep_72
      · have hinv := oi_f c_17 hinv
        refine lv_iload_n hx hb dX7_sweep_20 rfl (lv_at hl 0 rfl) ?_
        refine lv_bipush (v := 14) hx hb dX7_sweep_21 (by decide) ?_
        refine lv_aload_n hx hb dX7_sweep_23 rfl (lv_at hl 1 rfl) ?_
        refine w_get C hw (k := 16) (v := .int ((X 16) 4)) (j := 4) (q47 hN rfl) (sh_16 g cy _) rfl (by decide) k265 rfl dX7_sweep_24 ?_
        refine lv_isub hx hb dX7_sweep_27 ?_
        refine lv_ishl hx hb dX7_sweep_28 ?_
        refine lv_istore_n (lv' := [(2, .int (x1_16 <<< ((14 - ((X 16) 4)) &&& 31))), (1, .int x1_16), (0, .ref (g 16))]) hx hb dX7_sweep_29 rfl hl (by decide) rfl (fun ls hl => ?_)
        refine lv_aload_n hx hb dX7_sweep_30 rfl (lv_at hl 2 rfl) ?_
        refine lv_iload_n hx hb dX7_sweep_31 rfl (lv_at hl 0 rfl) ?_
        obtain ⟨zu2, hzu2, hinv⟩ := ob hinv
        refine s_vRi (r0 := zu2) C hw (As := [.int (x1_16 <<< ((14 - ((X 16) 4)) &&& 31))]) bX7_isPeaceful k299 (k := 16) (q47 hN rfl) (sh_16 g cy _) rfl (c_X7_isPeaceful (X := (up (up X 27 q27_16) 28 q28_16)) hfl hN hzu2) rfl rfl dX7_sweep_32 ⟨rfl, rfl⟩ (by decide) hl.1 (Nat.le_of_ble_eq_true rfl) ⟨Nat.le_of_ble_eq_true rfl, Nat.le_of_ble_eq_true rfl⟩ ?_
        refine lv_if_eq (tgt := 66) hx hb dX7_sweep_35 (by decide) (fun c_35 => ?_) (fun c_35 => ?_)
        · have hinv := oi_t c_35 hinv
          refine lv_iinc (v := (x1_16 + (-1))) (lv' := [(1, .int (x1_16 + (-1))), (2, .int (x1_16 <<< ((14 - ((X 16) 4)) &&& 31))), (0, .ref (g 16))]) hx hb dX7_sweep_66 hl (k := 1) rfl (by rfl) (by decide) rfl (fun ls hl => ?_)
          refine lv_goto (tgt := 16) hx hb dX7_sweep_69 (by decide) ?_
          exact ih (x1_16 + (-1)) q27_16 q28_16 hinv _ _ ls hw (lv_sub hl [0, 2] rfl)
        · have hinv := oi_f c_35 hinv
          refine lv_aload_n hx hb dX7_sweep_38 rfl (lv_at hl 2 rfl) ?_
          refine lv_iload_n hx hb dX7_sweep_39 rfl (lv_at hl 0 rfl) ?_
          refine lv_iload_n hx hb dX7_sweep_40 rfl (lv_at hl 0 rfl) ?_
          obtain ⟨zu3, hzu3, hinv⟩ := ob hinv
          refine s_vRi (r0 := zu3) C hw (As := [.int (x1_16 <<< ((14 - ((X 16) 4)) &&& 31)), .int (x1_16 <<< ((14 - ((X 16) 4)) &&& 31))]) bX7_canDefend k293 (k := 16) (q47 hN rfl) (sh_16 g cy _) rfl (c_X7_canDefend (X := (up (up X 27 q27_16) 28 q28_16)) hfl hN hzu3) rfl rfl dX7_sweep_41 ⟨rfl, rfl⟩ (by decide) hl.1 (Nat.le_of_ble_eq_true rfl) ⟨Nat.le_of_ble_eq_true rfl, Nat.le_of_ble_eq_true rfl⟩ ?_
          refine lv_if_eq (tgt := 66) hx hb dX7_sweep_44 (by decide) (fun c_44 => ?_) (fun c_44 => ?_)
          · have hinv := oi_t c_44 hinv
            refine lv_iinc (v := (x1_16 + (-1))) (lv' := [(1, .int (x1_16 + (-1))), (2, .int (x1_16 <<< ((14 - ((X 16) 4)) &&& 31))), (0, .ref (g 16))]) hx hb dX7_sweep_66 hl (k := 1) rfl (by rfl) (by decide) rfl (fun ls hl => ?_)
            refine lv_goto (tgt := 16) hx hb dX7_sweep_69 (by decide) ?_
            exact ih (x1_16 + (-1)) q27_16 q28_16 hinv _ _ ls hw (lv_sub hl [0, 2] rfl)
          · have hinv := oi_f c_44 hinv
            refine lv_aload_n hx hb dX7_sweep_47 rfl (lv_at hl 2 rfl) ?_
            refine w_get C hw (k := 16) (v := .ref (g 27)) (j := 3) (q47 hN rfl) (sh_16 g cy _) rfl (by decide) k258 rfl dX7_sweep_48 ?_
            refine lv_iload_n hx hb dX7_sweep_51 rfl (lv_at hl 0 rfl) ?_
            obtain ⟨zu4, hzu4, hinv⟩ := ob hinv
            refine s_vRi (r0 := zu4) C hw (As := [.int (x1_16 <<< ((14 - ((X 16) 4)) &&& 31))]) bX6_covers k290 (k := 27) (q47 hN rfl) (sh_27 g cy _) rfl (c_X6_covers_27 (X := (up (up X 27 q27_16) 28 q28_16)) hfl hN hzu4) rfl rfl dX7_sweep_52 ⟨rfl, rfl⟩ (by decide) hl.1 (Nat.le_of_ble_eq_true rfl) ⟨Nat.le_of_ble_eq_true rfl, Nat.le_of_ble_eq_true rfl⟩ ?_
            refine lv_if_ne (tgt := 66) hx hb dX7_sweep_55 (by decide) (fun c_55 => ?_) (fun c_55 => ?_)
            · have hinv := oi_f c_55 hinv
              refine lv_iinc (v := (x1_16 + (-1))) (lv' := [(1, .int (x1_16 + (-1))), (2, .int (x1_16 <<< ((14 - ((X 16) 4)) &&& 31))), (0, .ref (g 16))]) hx hb dX7_sweep_66 hl (k := 1) rfl (by rfl) (by decide) rfl (fun ls hl => ?_)
              refine lv_goto (tgt := 16) hx hb dX7_sweep_69 (by decide) ?_
              exact ih (x1_16 + (-1)) q27_16 q28_16 hinv _ _ ls hw (lv_sub hl [0, 2] rfl)
            · have hinv := oi_t c_55 hinv
              refine lv_aload_n hx hb dX7_sweep_58 rfl (lv_at hl 2 rfl) ?_
              refine w_get C hw (k := 16) (v := .ref (g 27)) (j := 3) (q47 hN rfl) (sh_16 g cy _) rfl (by decide) k258 rfl dX7_sweep_59 ?_
              refine lv_iload_n hx hb dX7_sweep_62 rfl (lv_at hl 0 rfl) ?_
              obtain ⟨zu5, hzu5, hinv⟩ := ob hinv
              refine s_vWv C hw (As := [.int (x1_16 <<< ((14 - ((X 16) 4)) &&& 31))]) bX6_keep k296 (k := 27) (q47 hN rfl) (sh_27 g cy _) rfl (c_X6_keep_27 (X := (up (up X 27 q27_16) 28 q28_16)) hfl hN hzu5) rfl rfl dX7_sweep_63 ⟨rfl, rfl⟩ (by decide) hl.1 (Nat.le_of_ble_eq_true rfl) ⟨Nat.le_of_ble_eq_true rfl, Nat.le_of_ble_eq_true rfl⟩ (fun H locs hw => ?_)
              refine lv_iinc (v := (x1_16 + (-1))) (lv' := [(1, .int (x1_16 + (-1))), (2, .int (x1_16 <<< ((14 - ((X 16) 4)) &&& 31))), (0, .ref (g 16))]) hx hb dX7_sweep_66 hl (k := 1) rfl (by rfl) (by decide) rfl (fun ls hl => ?_)
              refine lv_goto (tgt := 16) hx hb dX7_sweep_69 (by decide) ?_
              have hXe : (up (up (up (up X 27 q27_16) 28 q28_16) 27 zu5.1) 28 zu5.2) = (up (up X 27 zu5.1) 28 zu5.2) := by
                funext j
                by_cases h27 : j = 27
                · subst h27; simp [up]
                by_cases h28 : j = 28
                · subst h28; simp [up]
                simp [up, h27, h28]
              rw [hXe] at hw
              exact ih (x1_16 + (-1)) zu5.1 zu5.2 hinv _ _ ls hw (lv_sub hl [0, 2] rfl)
  exact hl16 F (((1 : Int32) <<< (((X 16) 4) &&& 31)) - 1) zu1 (X 28) hinv _ _ ls hw (lv_sub hl [0, 1] rfl)

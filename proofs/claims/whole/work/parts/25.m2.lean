def m_X10_isTold (F : Nat) (r29 : Nat → Int32) (r30 : Nat → Int32) (r31 : Nat → Int32) (r32 : Nat → Int32) (r33 : Nat → Int32) (r34 : Nat → Int32) (r35 : Nat → Int32) (r36 : Nat → Int32) (r37 : Nat → Int32) (r38 : Nat → Int32) (r39 : Nat → Int32) (r40 : Nat → Int32) (r41 : Nat → Int32) (za1 : Int32) : Option (Int32 × (Nat → Int32) × (Nat → Int32) × (Nat → Int32) × (Nat → Int32) × (Nat → Int32) × (Nat → Int32) × (Nat → Int32)) := Option.bind (m_X10_builds F r29 r30 r31 r32 r35 r36 r37 r38 r39 r40) (fun zu1 => if (zu1.1 9) = 0 then (Option.bind (m_X10_laysAttacks F zu1.1 r33 r34 zu1.2.1 zu1.2.2.1 zu1.2.2.2.2.2 r41) (fun zu2 => some (1, zu1.1, zu1.2.1, zu1.2.2.1, zu1.2.2.2.1, zu1.2.2.2.2.1, zu1.2.2.2.2.2, zu2))) else (some (0, (upd zu1.1 0 za1), zu1.2.1, zu1.2.2.1, zu1.2.2.2.1, zu1.2.2.2.2.1, zu1.2.2.2.2.2, r41)))
set_option maxHeartbeats 4000000 in
set_option maxRecDepth 100000 in
theorem c_X10_isTold {l : Launch} {D : va_G} {cy : Nat → Nat} {g : Nat → Nat} {N : Nat} {X : Nat → Nat → Int32} {F : Nat} {za1 : Int32} {R0 : Int32 × (Nat → Int32) × (Nat → Int32) × (Nat → Int32) × (Nat → Int32) × (Nat → Int32) × (Nat → Int32) × (Nat → Int32)} (hfl : l.stackTraces = false) (hN : 47 ≤ N) (hinv : m_X10_isTold F (X 29) (X 30) (X 31) (X 32) (X 33) (X 34) (X 35) (X 36) (X 37) (X 38) (X 39) (X 40) (X 41) za1 = some R0) : sWi l D cy yX10_isTold cX10_isTold 2 (some .boolean) 4 0 0 [.ref (g 29), .int za1] g N X R0.1 (up (up (up (up (up (up (up X 29 R0.2.1) 36 R0.2.2.1) 37 R0.2.2.2.1) 38 R0.2.2.2.2.1) 39 R0.2.2.2.2.2.1) 40 R0.2.2.2.2.2.2.1) 41 R0.2.2.2.2.2.2.2) := by
  refine jWz (own := RX10) (by decide) rfl hfl (Nat.le_of_ble_eq_true rfl) rfl ?_
  intro p e R s m args below meth c ls A Q hRe C hw hl hret
  subst hRe
  have hx := C.1
  have hb := C.2.1
  have hl : lv_has ls 2 [(0, .ref (g 29)), (1, .int za1)] := hl
  rw [m_X10_isTold] at hinv
  refine lv_aload_n hx hb dX10_isTold_0 rfl (lv_at hl 0 rfl) ?_
  obtain ⟨zu1, hzu1, hinv⟩ := ob hinv
  refine s_vWv C hw (As := []) bX10_builds k551 (k := 29) (q47 hN rfl) (sh_29 g cy _) rfl (c_X10_builds (X := X) hfl hN hzu1) rfl rfl dX10_isTold_1 ⟨rfl, rfl⟩ (by decide) hl.1 (Nat.le_of_ble_eq_true rfl) ⟨Nat.le_of_ble_eq_true rfl, Nat.le_of_ble_eq_true rfl⟩ (fun H locs hw => ?_)
  refine lv_aload_n hx hb dX10_isTold_4 rfl (lv_at hl 0 rfl) ?_
  refine w_get C hw (k := 29) (v := .int (zu1.1 9)) (j := 9) (q47 hN rfl) (sh_29 g cy _) rfl (by decide) k518 rfl dX10_isTold_5 ?_
  refine lv_if_eq (tgt := 18) hx hb dX10_isTold_8 (by decide) (fun c_8 => ?_) (fun c_8 => ?_)
  · have hinv := oi_t c_8 hinv
    refine lv_aload_n hx hb dX10_isTold_18 rfl (lv_at hl 0 rfl) ?_
    obtain ⟨zu2, hzu2, hinv⟩ := ob hinv
    refine s_vWv C hw (As := []) bX10_laysAttacks k554 (k := 29) (q47 hN rfl) (sh_29 g cy _) rfl (c_X10_laysAttacks (X := (up (up (up (up (up (up X 29 zu1.1) 36 zu1.2.1) 37 zu1.2.2.1) 38 zu1.2.2.2.1) 39 zu1.2.2.2.2.1) 40 zu1.2.2.2.2.2)) hfl hN hzu2) rfl rfl dX10_isTold_19 ⟨rfl, rfl⟩ (by decide) hl.1 (Nat.le_of_ble_eq_true rfl) ⟨Nat.le_of_ble_eq_true rfl, Nat.le_of_ble_eq_true rfl⟩ (fun H locs hw => ?_)
    refine lv_iconst (v := 1) hx hb dX10_isTold_22 (by decide) ?_
    have hR0 := (Option.some.inj hinv).symm
    subst hR0
    exact hret 23 ls 1 _ _ _ _ rfl (by decide) hw (by decide) (by decide) dX10_isTold_23
  · have hinv := oi_f c_8 hinv
    refine lv_aload_n hx hb dX10_isTold_11 rfl (lv_at hl 0 rfl) ?_
    refine lv_iload_n hx hb dX10_isTold_12 rfl (lv_at hl 1 rfl) ?_
    refine s_put C hw (k := 29) (row := (upd zu1.1 0 za1)) (ty := tyX10) (v := .int za1) (j := 0) (q47 hN rfl) (sh_29 g cy _) rfl tyX10_ok nmX10 (by decide) k486 rfl rfl rfl (Nat.le_of_ble_eq_true rfl) (sh_29 g cy _) dX10_isTold_13 (fun H locs hw => ?_)
    refine lv_iconst (v := 0) hx hb dX10_isTold_16 (by decide) ?_
    have hR0 := (Option.some.inj hinv).symm
    subst hR0
    have hXe : (up (up (up (up (up (up (up X 29 zu1.1) 36 zu1.2.1) 37 zu1.2.2.1) 38 zu1.2.2.2.1) 39 zu1.2.2.2.2.1) 40 zu1.2.2.2.2.2) 29 (upd zu1.1 0 za1)) = (up (up (up (up (up (up (up X 29 (upd zu1.1 0 za1)) 36 zu1.2.1) 37 zu1.2.2.1) 38 zu1.2.2.2.1) 39 zu1.2.2.2.2.1) 40 zu1.2.2.2.2.2) 41 (X 41)) := by
      funext j
      by_cases h29 : j = 29
      · subst h29; simp [up]
      by_cases h36 : j = 36
      · subst h36; simp [up]
      by_cases h37 : j = 37
      · subst h37; simp [up]
      by_cases h38 : j = 38
      · subst h38; simp [up]
      by_cases h39 : j = 39
      · subst h39; simp [up]
      by_cases h40 : j = 40
      · subst h40; simp [up]
      by_cases h41 : j = 41
      · subst h41; simp [up]
      simp [up, h29, h36, h37, h38, h39, h40, h41]
    rw [hXe] at hw
    exact hret 17 ls 0 _ _ _ _ rfl (by decide) hw (by decide) (by decide) dX10_isTold_17
def m_X10_isArgument (F : Nat) (r29 : Nat → Int32) (r30 : Nat → Int32) (r31 : Nat → Int32) (r32 : Nat → Int32) (r33 : Nat → Int32) (r34 : Nat → Int32) (r35 : Nat → Int32) (r36 : Nat → Int32) (r37 : Nat → Int32) (r38 : Nat → Int32) (r39 : Nat → Int32) (r40 : Nat → Int32) (r41 : Nat → Int32) (za1 : Int32) : Option (Int32 × (Nat → Int32) × (Nat → Int32) × (Nat → Int32) × (Nat → Int32) × (Nat → Int32) × (Nat → Int32) × (Nat → Int32)) := Option.bind (m_X10_isTold F r29 r30 r31 r32 r33 r34 r35 r36 r37 r38 r39 r40 r41 1) (fun zu1 => if zu1.1 = 0 then (some (0, zu1.2.1, zu1.2.2.1, zu1.2.2.2.1, zu1.2.2.2.2.1, zu1.2.2.2.2.2.1, zu1.2.2.2.2.2.2.1, zu1.2.2.2.2.2.2.2)) else (Option.bind (if za1 < 0 then (some (2 : Int32)) else (if (zu1.2.1 8) ≤ za1 then (some (2 : Int32)) else (some (0 : Int32)))) (fun zu2 => Option.bind (m_X10_passes F zu1.2.1 zu2) (fun zu3 => if zu3.1 = 0 ∨ zu3.1 = 1 then (some (zu3.1, zu3.2, zu1.2.2.1, zu1.2.2.2.1, zu1.2.2.2.2.1, zu1.2.2.2.2.2.1, zu1.2.2.2.2.2.2.1, zu1.2.2.2.2.2.2.2)) else none))))
set_option maxHeartbeats 4000000 in
set_option maxRecDepth 100000 in
theorem c_X10_isArgument {l : Launch} {D : va_G} {cy : Nat → Nat} {g : Nat → Nat} {N : Nat} {X : Nat → Nat → Int32} {F : Nat} {za1 : Int32} {R0 : Int32 × (Nat → Int32) × (Nat → Int32) × (Nat → Int32) × (Nat → Int32) × (Nat → Int32) × (Nat → Int32) × (Nat → Int32)} (hfl : l.stackTraces = false) (hN : 47 ≤ N) (hinv : m_X10_isArgument F (X 29) (X 30) (X 31) (X 32) (X 33) (X 34) (X 35) (X 36) (X 37) (X 38) (X 39) (X 40) (X 41) za1 = some R0) : sWi l D cy yX10_isArgument cX10_isArgument 2 (some .boolean) 5 0 0 [.ref (g 29), .int za1] g N X R0.1 (up (up (up (up (up (up (up X 29 R0.2.1) 36 R0.2.2.1) 37 R0.2.2.2.1) 38 R0.2.2.2.2.1) 39 R0.2.2.2.2.2.1) 40 R0.2.2.2.2.2.2.1) 41 R0.2.2.2.2.2.2.2) := by
  refine jWz (own := RX10) (by decide) rfl hfl (Nat.le_of_ble_eq_true rfl) rfl ?_
  intro p e R s m args below meth c ls A Q hRe C hw hl hret
  subst hRe
  have hx := C.1
  have hb := C.2.1
  have hl : lv_has ls 2 [(0, .ref (g 29)), (1, .int za1)] := hl
  rw [m_X10_isArgument] at hinv
  refine lv_aload_n hx hb dX10_isArgument_0 rfl (lv_at hl 0 rfl) ?_
  refine lv_iconst (v := 1) hx hb dX10_isArgument_1 (by decide) ?_
  obtain ⟨zu1, hzu1, hinv⟩ := ob hinv
  refine s_vWi (r0 := zu1.1) C hw (As := [.int 1]) bX10_isTold k558 (k := 29) (q47 hN rfl) (sh_29 g cy _) rfl (c_X10_isTold (X := X) hfl hN hzu1) rfl rfl dX10_isArgument_2 ⟨rfl, rfl⟩ (by decide) hl.1 (Nat.le_of_ble_eq_true rfl) ⟨Nat.le_of_ble_eq_true rfl, Nat.le_of_ble_eq_true rfl⟩ (fun H locs hw => ?_)
  refine lv_if_ne (tgt := 10) hx hb dX10_isArgument_5 (by decide) (fun c_5 => ?_) (fun c_5 => ?_)
  · have hinv := oi_f c_5 hinv
    refine lv_aload_n hx hb dX10_isArgument_10 rfl (lv_at hl 0 rfl) ?_
    obtain ⟨zu2, hzu2, hinv⟩ := ob hinv
    have hx11 : ∀ (H : Heap) (locs : List Loc) (ls : Array Slot), Wd D A s.heap g N (shp g cy (up (up (up (up (up (up (up X 29 zu1.2.1) 36 zu1.2.2.1) 37 zu1.2.2.2.1) 38 zu1.2.2.2.2.1) 39 zu1.2.2.2.2.2.1) 40 zu1.2.2.2.2.2.2.1) 41 zu1.2.2.2.2.2.2.2)) H locs → lv_has ls 2 [(0, .ref (g 29)), (1, .int za1)] → W p l e (wR 5 0 0) s m args below meth c H locs 0 0 Q (F0 m 28 ls [.int zu2, .ref (g 29)]) := by
      intro H locs ls hw hl
      obtain ⟨zu3, hzu3, hinv⟩ := ob hinv
      refine s_vWi (r0 := zu3.1) C hw (As := [.int zu2]) bX10_passes k495 (k := 29) (q47 hN rfl) (sh_29 g cy _) rfl (c_X10_passes (X := (up (up (up (up (up (up (up X 29 zu1.2.1) 36 zu1.2.2.1) 37 zu1.2.2.2.1) 38 zu1.2.2.2.2.1) 39 zu1.2.2.2.2.2.1) 40 zu1.2.2.2.2.2.2.1) 41 zu1.2.2.2.2.2.2.2)) hfl hN hzu3) rfl rfl dX10_isArgument_28 ⟨rfl, rfl⟩ (by decide) hl.1 (Nat.le_of_ble_eq_true rfl) ⟨Nat.le_of_ble_eq_true rfl, Nat.le_of_ble_eq_true rfl⟩ (fun H locs hw => ?_)
      obtain ⟨hz9, hinv⟩ := oi_c hinv
      have hR0 := (Option.some.inj hinv).symm
      subst hR0
      have hXe : (up (up (up (up (up (up (up (up X 29 zu1.2.1) 36 zu1.2.2.1) 37 zu1.2.2.2.1) 38 zu1.2.2.2.2.1) 39 zu1.2.2.2.2.2.1) 40 zu1.2.2.2.2.2.2.1) 41 zu1.2.2.2.2.2.2.2) 29 zu3.2) = (up (up (up (up (up (up (up X 29 zu3.2) 36 zu1.2.2.1) 37 zu1.2.2.2.1) 38 zu1.2.2.2.2.1) 39 zu1.2.2.2.2.2.1) 40 zu1.2.2.2.2.2.2.1) 41 zu1.2.2.2.2.2.2.2) := by
        funext j
        by_cases h29 : j = 29
        · subst h29; simp [up]
        by_cases h36 : j = 36
        · subst h36; simp [up]
        by_cases h37 : j = 37
        · subst h37; simp [up]
        by_cases h38 : j = 38
        · subst h38; simp [up]
        by_cases h39 : j = 39
        · subst h39; simp [up]
        by_cases h40 : j = 40
        · subst h40; simp [up]
        by_cases h41 : j = 41
        · subst h41; simp [up]
        simp [up, h29, h36, h37, h38, h39, h40, h41]
      rw [hXe] at hw
      exact hret 31 ls zu3.1 _ _ _ _ rfl hz9 hw (by decide) (by decide) dX10_isArgument_31
    have hinv := hzu2
    refine lv_iload_n hx hb dX10_isArgument_11 rfl (lv_at hl 1 rfl) ?_
    refine lv_if_lt (tgt := 27) hx hb dX10_isArgument_12 (by decide) (fun c_12 => ?_) (fun c_12 => ?_)
    · have hinv := oi_t c_12 hinv
      refine lv_iconst (v := 2) hx hb dX10_isArgument_27 (by decide) ?_
      have hR9 := Option.some.inj hinv
      subst hR9
      exact hx11 _ _ ls hw (lv_sub hl [0, 1] rfl)
    · have hinv := oi_f c_12 hinv
      refine lv_iload_n hx hb dX10_isArgument_15 rfl (lv_at hl 1 rfl) ?_
      refine lv_aload_n hx hb dX10_isArgument_16 rfl (lv_at hl 0 rfl) ?_
      refine w_get C hw (k := 29) (v := .int (zu1.2.1 8)) (j := 8) (q47 hN rfl) (sh_29 g cy _) rfl (by decide) k517 rfl dX10_isArgument_17 ?_
      refine lv_icmp_ge (tgt := 27) hx hb dX10_isArgument_20 (by decide) (fun c_20 => ?_) (fun c_20 => ?_)
      · have hinv := oi_t c_20 hinv
        refine lv_iconst (v := 2) hx hb dX10_isArgument_27 (by decide) ?_
        have hR9 := Option.some.inj hinv
        subst hR9
        exact hx11 _ _ ls hw (lv_sub hl [0, 1] rfl)
      · have hinv := oi_f c_20 hinv
        refine lv_iconst (v := 0) hx hb dX10_isArgument_23 (by decide) ?_
        refine lv_goto (tgt := 28) hx hb dX10_isArgument_24 (by decide) ?_
        have hR9 := Option.some.inj hinv
        subst hR9
        exact hx11 _ _ ls hw (lv_sub hl [0, 1] rfl)
  · have hinv := oi_t c_5 hinv
    refine lv_iconst (v := 0) hx hb dX10_isArgument_8 (by decide) ?_
    have hR0 := (Option.some.inj hinv).symm
    subst hR0
    exact hret 9 ls 0 _ _ _ _ rfl (by decide) hw (by decide) (by decide) dX10_isArgument_9
def m_X10_arguments (F : Nat) (r29 : Nat → Int32) (r30 : Nat → Int32) (r31 : Nat → Int32) (r32 : Nat → Int32) (r35 : Nat → Int32) (r36 : Nat → Int32) (r37 : Nat → Int32) (r38 : Nat → Int32) (r39 : Nat → Int32) (r40 : Nat → Int32) : Option (Int32 × (Nat → Int32) × (Nat → Int32) × (Nat → Int32) × (Nat → Int32) × (Nat → Int32) × (Nat → Int32)) := Option.bind (m_X10_builds F (upd r29 0 0) r30 r31 r32 r35 r36 r37 r38 r39 r40) (fun zu1 => if (zu1.1 9) = 0 then (some ((zu1.1 8), zu1.1, zu1.2.1, zu1.2.2.1, zu1.2.2.2.1, zu1.2.2.2.2.1, zu1.2.2.2.2.2)) else (some ((-1), zu1.1, zu1.2.1, zu1.2.2.1, zu1.2.2.2.1, zu1.2.2.2.2.1, zu1.2.2.2.2.2)))
set_option maxHeartbeats 4000000 in
set_option maxRecDepth 100000 in
theorem c_X10_arguments {l : Launch} {D : va_G} {cy : Nat → Nat} {g : Nat → Nat} {N : Nat} {X : Nat → Nat → Int32} {F : Nat} {R0 : Int32 × (Nat → Int32) × (Nat → Int32) × (Nat → Int32) × (Nat → Int32) × (Nat → Int32) × (Nat → Int32)} (hfl : l.stackTraces = false) (hN : 47 ≤ N) (hinv : m_X10_arguments F (X 29) (X 30) (X 31) (X 32) (X 35) (X 36) (X 37) (X 38) (X 39) (X 40) = some R0) : sWi l D cy yX10_arguments cX10_arguments 1 (some .int) 4 0 0 [.ref (g 29)] g N X R0.1 (up (up (up (up (up (up X 29 R0.2.1) 36 R0.2.2.1) 37 R0.2.2.2.1) 38 R0.2.2.2.2.1) 39 R0.2.2.2.2.2.1) 40 R0.2.2.2.2.2.2) := by
  refine jWi (own := RX10) (by decide) rfl hfl (Nat.le_of_ble_eq_true rfl) rfl ?_
  intro p e R s m args below meth c ls A Q hRe C hw hl hret
  subst hRe
  have hx := C.1
  have hb := C.2.1
  have hl : lv_has ls 1 [(0, .ref (g 29))] := hl
  rw [m_X10_arguments] at hinv
  refine lv_aload_n hx hb dX10_arguments_0 rfl (lv_at hl 0 rfl) ?_
  refine lv_iconst (v := 0) hx hb dX10_arguments_1 (by decide) ?_
  refine s_put C hw (k := 29) (row := (upd (X 29) 0 0)) (ty := tyX10) (v := .int 0) (j := 0) (q47 hN rfl) (sh_29 g cy _) rfl tyX10_ok nmX10 (by decide) k486 rfl rfl rfl (Nat.le_of_ble_eq_true rfl) (sh_29 g cy _) dX10_arguments_2 (fun H locs hw => ?_)
  refine lv_aload_n hx hb dX10_arguments_5 rfl (lv_at hl 0 rfl) ?_
  obtain ⟨zu1, hzu1, hinv⟩ := ob hinv
  refine s_vWv C hw (As := []) bX10_builds k551 (k := 29) (q47 hN rfl) (sh_29 g cy _) rfl (c_X10_builds (X := (up X 29 (upd (X 29) 0 0))) hfl hN hzu1) rfl rfl dX10_arguments_6 ⟨rfl, rfl⟩ (by decide) hl.1 (Nat.le_of_ble_eq_true rfl) ⟨Nat.le_of_ble_eq_true rfl, Nat.le_of_ble_eq_true rfl⟩ (fun H locs hw => ?_)
  refine lv_aload_n hx hb dX10_arguments_9 rfl (lv_at hl 0 rfl) ?_
  refine w_get C hw (k := 29) (v := .int (zu1.1 9)) (j := 9) (q47 hN rfl) (sh_29 g cy _) rfl (by decide) k518 rfl dX10_arguments_10 ?_
  refine lv_if_eq (tgt := 20) hx hb dX10_arguments_13 (by decide) (fun c_13 => ?_) (fun c_13 => ?_)
  · have hinv := oi_t c_13 hinv
    refine lv_aload_n hx hb dX10_arguments_20 rfl (lv_at hl 0 rfl) ?_
    refine w_get C hw (k := 29) (v := .int (zu1.1 8)) (j := 8) (q47 hN rfl) (sh_29 g cy _) rfl (by decide) k517 rfl dX10_arguments_21 ?_
    have hR0 := (Option.some.inj hinv).symm
    subst hR0
    have hXe : (up (up (up (up (up (up (up X 29 (upd (X 29) 0 0)) 29 zu1.1) 36 zu1.2.1) 37 zu1.2.2.1) 38 zu1.2.2.2.1) 39 zu1.2.2.2.2.1) 40 zu1.2.2.2.2.2) = (up (up (up (up (up (up X 29 zu1.1) 36 zu1.2.1) 37 zu1.2.2.1) 38 zu1.2.2.2.1) 39 zu1.2.2.2.2.1) 40 zu1.2.2.2.2.2) := by
      funext j
      by_cases h29 : j = 29
      · subst h29; simp [up]
      by_cases h36 : j = 36
      · subst h36; simp [up]
      by_cases h37 : j = 37
      · subst h37; simp [up]
      by_cases h38 : j = 38
      · subst h38; simp [up]
      by_cases h39 : j = 39
      · subst h39; simp [up]
      by_cases h40 : j = 40
      · subst h40; simp [up]
      simp [up, h29, h36, h37, h38, h39, h40]
    rw [hXe] at hw
    exact hret 24 ls (zu1.1 8) _ _ _ _ rfl hw (by decide) (by decide) dX10_arguments_24
  · have hinv := oi_f c_13 hinv
    refine lv_iconst (v := (-1)) hx hb dX10_arguments_16 (by decide) ?_
    refine lv_goto (tgt := 24) hx hb dX10_arguments_17 (by decide) ?_
    have hR0 := (Option.some.inj hinv).symm
    subst hR0
    have hXe : (up (up (up (up (up (up (up X 29 (upd (X 29) 0 0)) 29 zu1.1) 36 zu1.2.1) 37 zu1.2.2.1) 38 zu1.2.2.2.1) 39 zu1.2.2.2.2.1) 40 zu1.2.2.2.2.2) = (up (up (up (up (up (up X 29 zu1.1) 36 zu1.2.1) 37 zu1.2.2.1) 38 zu1.2.2.2.1) 39 zu1.2.2.2.2.1) 40 zu1.2.2.2.2.2) := by
      funext j
      by_cases h29 : j = 29
      · subst h29; simp [up]
      by_cases h36 : j = 36
      · subst h36; simp [up]
      by_cases h37 : j = 37
      · subst h37; simp [up]
      by_cases h38 : j = 38
      · subst h38; simp [up]
      by_cases h39 : j = 39
      · subst h39; simp [up]
      by_cases h40 : j = 40
      · subst h40; simp [up]
      simp [up, h29, h36, h37, h38, h39, h40]
    rw [hXe] at hw
    exact hret 24 ls (-1) _ _ _ _ rfl hw (by decide) (by decide) dX10_arguments_24
def m_X10_conclusion (F : Nat) (r29 : Nat → Int32) (r30 : Nat → Int32) (r31 : Nat → Int32) (r32 : Nat → Int32) (r33 : Nat → Int32) (r34 : Nat → Int32) (r35 : Nat → Int32) (r36 : Nat → Int32) (r37 : Nat → Int32) (r38 : Nat → Int32) (r39 : Nat → Int32) (r40 : Nat → Int32) (r41 : Nat → Int32) (za1 : Int32) : Option (Int32 × (Nat → Int32) × (Nat → Int32) × (Nat → Int32) × (Nat → Int32) × (Nat → Int32) × (Nat → Int32) × (Nat → Int32)) := Option.bind (m_X10_isArgument F r29 r30 r31 r32 r33 r34 r35 r36 r37 r38 r39 r40 r41 za1) (fun zu1 => if zu1.1 = 0 then (some (0, zu1.2.1, zu1.2.2.1, zu1.2.2.2.1, zu1.2.2.2.2.1, zu1.2.2.2.2.2.1, zu1.2.2.2.2.2.2.1, zu1.2.2.2.2.2.2.2)) else (if ¬ (za1 < 0 ∨ 24 ≤ za1.toNatClampNeg) then (some ((zu1.2.2.1 za1.toNatClampNeg), zu1.2.1, zu1.2.2.1, zu1.2.2.2.1, zu1.2.2.2.2.1, zu1.2.2.2.2.2.1, zu1.2.2.2.2.2.2.1, zu1.2.2.2.2.2.2.2)) else none))
set_option maxHeartbeats 4000000 in
set_option maxRecDepth 100000 in
theorem c_X10_conclusion {l : Launch} {D : va_G} {cy : Nat → Nat} {g : Nat → Nat} {N : Nat} {X : Nat → Nat → Int32} {F : Nat} {za1 : Int32} {R0 : Int32 × (Nat → Int32) × (Nat → Int32) × (Nat → Int32) × (Nat → Int32) × (Nat → Int32) × (Nat → Int32) × (Nat → Int32)} (hfl : l.stackTraces = false) (hN : 47 ≤ N) (hinv : m_X10_conclusion F (X 29) (X 30) (X 31) (X 32) (X 33) (X 34) (X 35) (X 36) (X 37) (X 38) (X 39) (X 40) (X 41) za1 = some R0) : sWi l D cy yX10_conclusion cX10_conclusion 2 (some .int) 6 0 0 [.ref (g 29), .int za1] g N X R0.1 (up (up (up (up (up (up (up X 29 R0.2.1) 36 R0.2.2.1) 37 R0.2.2.2.1) 38 R0.2.2.2.2.1) 39 R0.2.2.2.2.2.1) 40 R0.2.2.2.2.2.2.1) 41 R0.2.2.2.2.2.2.2) := by
  refine jWi (own := RX10) (by decide) rfl hfl (Nat.le_of_ble_eq_true rfl) rfl ?_
  intro p e R s m args below meth c ls A Q hRe C hw hl hret
  subst hRe
  have hx := C.1
  have hb := C.2.1
  have hl : lv_has ls 2 [(0, .ref (g 29)), (1, .int za1)] := hl
  rw [m_X10_conclusion] at hinv
  refine lv_aload_n hx hb dX10_conclusion_0 rfl (lv_at hl 0 rfl) ?_
  refine lv_iload_n hx hb dX10_conclusion_1 rfl (lv_at hl 1 rfl) ?_
  obtain ⟨zu1, hzu1, hinv⟩ := ob hinv
  refine s_vWi (r0 := zu1.1) C hw (As := [.int za1]) bX10_isArgument k563 (k := 29) (q47 hN rfl) (sh_29 g cy _) rfl (c_X10_isArgument (X := X) hfl hN hzu1) rfl rfl dX10_conclusion_2 ⟨rfl, rfl⟩ (by decide) hl.1 (Nat.le_of_ble_eq_true rfl) ⟨Nat.le_of_ble_eq_true rfl, Nat.le_of_ble_eq_true rfl⟩ (fun H locs hw => ?_)
  refine lv_if_eq (tgt := 17) hx hb dX10_conclusion_5 (by decide) (fun c_5 => ?_) (fun c_5 => ?_)
  · have hinv := oi_t c_5 hinv
    refine lv_iconst (v := 0) hx hb dX10_conclusion_17 (by decide) ?_
    have hR0 := (Option.some.inj hinv).symm
    subst hR0
    exact hret 18 ls 0 _ _ _ _ rfl hw (by decide) (by decide) dX10_conclusion_18
  · have hinv := oi_f c_5 hinv
    refine lv_aload_n hx hb dX10_conclusion_8 rfl (lv_at hl 0 rfl) ?_
    refine w_get C hw (k := 29) (v := .ref (g 36)) (j := 10) (q47 hN rfl) (sh_29 g cy _) rfl (by decide) k475 rfl dX10_conclusion_9 ?_
    refine lv_iload_n hx hb dX10_conclusion_12 rfl (lv_at hl 1 rfl) ?_
    obtain ⟨hb_13, hinv⟩ := oi_c hinv
    refine s_iald C hw (k := 36) (a := zu1.2.2.1) (q47 hN rfl) (fun r => sh_36 g cy r) rfl hb_13 dX10_conclusion_13 ?_
    refine lv_goto (tgt := 18) hx hb dX10_conclusion_14 (by decide) ?_
    have hR0 := (Option.some.inj hinv).symm
    subst hR0
    exact hret 18 ls (zu1.2.2.1 za1.toNatClampNeg) _ _ _ _ rfl hw (by decide) (by decide) dX10_conclusion_18
def m_X10_madeBy (F : Nat) (r29 : Nat → Int32) (r30 : Nat → Int32) (r31 : Nat → Int32) (r32 : Nat → Int32) (r33 : Nat → Int32) (r34 : Nat → Int32) (r35 : Nat → Int32) (r36 : Nat → Int32) (r37 : Nat → Int32) (r38 : Nat → Int32) (r39 : Nat → Int32) (r40 : Nat → Int32) (r41 : Nat → Int32) (za1 : Int32) : Option (Int32 × (Nat → Int32) × (Nat → Int32) × (Nat → Int32) × (Nat → Int32) × (Nat → Int32) × (Nat → Int32) × (Nat → Int32)) := Option.bind (m_X10_isArgument F r29 r30 r31 r32 r33 r34 r35 r36 r37 r38 r39 r40 r41 za1) (fun zu1 => if zu1.1 = 0 then (some (0, zu1.2.1, zu1.2.2.1, zu1.2.2.2.1, zu1.2.2.2.2.1, zu1.2.2.2.2.2.1, zu1.2.2.2.2.2.2.1, zu1.2.2.2.2.2.2.2)) else (if ¬ (za1 < 0 ∨ 24 ≤ za1.toNatClampNeg) then (some ((zu1.2.2.2.1 za1.toNatClampNeg), zu1.2.1, zu1.2.2.1, zu1.2.2.2.1, zu1.2.2.2.2.1, zu1.2.2.2.2.2.1, zu1.2.2.2.2.2.2.1, zu1.2.2.2.2.2.2.2)) else none))
set_option maxHeartbeats 4000000 in
set_option maxRecDepth 100000 in
theorem c_X10_madeBy {l : Launch} {D : va_G} {cy : Nat → Nat} {g : Nat → Nat} {N : Nat} {X : Nat → Nat → Int32} {F : Nat} {za1 : Int32} {R0 : Int32 × (Nat → Int32) × (Nat → Int32) × (Nat → Int32) × (Nat → Int32) × (Nat → Int32) × (Nat → Int32) × (Nat → Int32)} (hfl : l.stackTraces = false) (hN : 47 ≤ N) (hinv : m_X10_madeBy F (X 29) (X 30) (X 31) (X 32) (X 33) (X 34) (X 35) (X 36) (X 37) (X 38) (X 39) (X 40) (X 41) za1 = some R0) : sWi l D cy yX10_madeBy cX10_madeBy 2 (some .int) 6 0 0 [.ref (g 29), .int za1] g N X R0.1 (up (up (up (up (up (up (up X 29 R0.2.1) 36 R0.2.2.1) 37 R0.2.2.2.1) 38 R0.2.2.2.2.1) 39 R0.2.2.2.2.2.1) 40 R0.2.2.2.2.2.2.1) 41 R0.2.2.2.2.2.2.2) := by
  refine jWi (own := RX10) (by decide) rfl hfl (Nat.le_of_ble_eq_true rfl) rfl ?_
  intro p e R s m args below meth c ls A Q hRe C hw hl hret
  subst hRe
  have hx := C.1
  have hb := C.2.1
  have hl : lv_has ls 2 [(0, .ref (g 29)), (1, .int za1)] := hl
  rw [m_X10_madeBy] at hinv
  refine lv_aload_n hx hb dX10_madeBy_0 rfl (lv_at hl 0 rfl) ?_
  refine lv_iload_n hx hb dX10_madeBy_1 rfl (lv_at hl 1 rfl) ?_
  obtain ⟨zu1, hzu1, hinv⟩ := ob hinv
  refine s_vWi (r0 := zu1.1) C hw (As := [.int za1]) bX10_isArgument k563 (k := 29) (q47 hN rfl) (sh_29 g cy _) rfl (c_X10_isArgument (X := X) hfl hN hzu1) rfl rfl dX10_madeBy_2 ⟨rfl, rfl⟩ (by decide) hl.1 (Nat.le_of_ble_eq_true rfl) ⟨Nat.le_of_ble_eq_true rfl, Nat.le_of_ble_eq_true rfl⟩ (fun H locs hw => ?_)
  refine lv_if_eq (tgt := 17) hx hb dX10_madeBy_5 (by decide) (fun c_5 => ?_) (fun c_5 => ?_)
  · have hinv := oi_t c_5 hinv
    refine lv_iconst (v := 0) hx hb dX10_madeBy_17 (by decide) ?_
    have hR0 := (Option.some.inj hinv).symm
    subst hR0
    exact hret 18 ls 0 _ _ _ _ rfl hw (by decide) (by decide) dX10_madeBy_18
  · have hinv := oi_f c_5 hinv
    refine lv_aload_n hx hb dX10_madeBy_8 rfl (lv_at hl 0 rfl) ?_
    refine w_get C hw (k := 29) (v := .ref (g 37)) (j := 11) (q47 hN rfl) (sh_29 g cy _) rfl (by decide) k476 rfl dX10_madeBy_9 ?_
    refine lv_iload_n hx hb dX10_madeBy_12 rfl (lv_at hl 1 rfl) ?_
    obtain ⟨hb_13, hinv⟩ := oi_c hinv
    refine s_iald C hw (k := 37) (a := zu1.2.2.2.1) (q47 hN rfl) (fun r => sh_37 g cy r) rfl hb_13 dX10_madeBy_13 ?_
    refine lv_goto (tgt := 18) hx hb dX10_madeBy_14 (by decide) ?_
    have hR0 := (Option.some.inj hinv).symm
    subst hR0
    exact hret 18 ls (zu1.2.2.2.1 za1.toNatClampNeg) _ _ _ _ rfl hw (by decide) (by decide) dX10_madeBy_18
def m_X10_depth (F : Nat) (r29 : Nat → Int32) (r30 : Nat → Int32) (r31 : Nat → Int32) (r32 : Nat → Int32) (r33 : Nat → Int32) (r34 : Nat → Int32) (r35 : Nat → Int32) (r36 : Nat → Int32) (r37 : Nat → Int32) (r38 : Nat → Int32) (r39 : Nat → Int32) (r40 : Nat → Int32) (r41 : Nat → Int32) (za1 : Int32) : Option (Int32 × (Nat → Int32) × (Nat → Int32) × (Nat → Int32) × (Nat → Int32) × (Nat → Int32) × (Nat → Int32) × (Nat → Int32)) := Option.bind (m_X10_isArgument F r29 r30 r31 r32 r33 r34 r35 r36 r37 r38 r39 r40 r41 za1) (fun zu1 => if zu1.1 = 0 then (some (0, zu1.2.1, zu1.2.2.1, zu1.2.2.2.1, zu1.2.2.2.2.1, zu1.2.2.2.2.2.1, zu1.2.2.2.2.2.2.1, zu1.2.2.2.2.2.2.2)) else (if ¬ (za1 < 0 ∨ 24 ≤ za1.toNatClampNeg) then (some ((zu1.2.2.2.2.2.1 za1.toNatClampNeg), zu1.2.1, zu1.2.2.1, zu1.2.2.2.1, zu1.2.2.2.2.1, zu1.2.2.2.2.2.1, zu1.2.2.2.2.2.2.1, zu1.2.2.2.2.2.2.2)) else none))
set_option maxHeartbeats 4000000 in
set_option maxRecDepth 100000 in
theorem c_X10_depth {l : Launch} {D : va_G} {cy : Nat → Nat} {g : Nat → Nat} {N : Nat} {X : Nat → Nat → Int32} {F : Nat} {za1 : Int32} {R0 : Int32 × (Nat → Int32) × (Nat → Int32) × (Nat → Int32) × (Nat → Int32) × (Nat → Int32) × (Nat → Int32) × (Nat → Int32)} (hfl : l.stackTraces = false) (hN : 47 ≤ N) (hinv : m_X10_depth F (X 29) (X 30) (X 31) (X 32) (X 33) (X 34) (X 35) (X 36) (X 37) (X 38) (X 39) (X 40) (X 41) za1 = some R0) : sWi l D cy yX10_depth cX10_depth 2 (some .int) 6 0 0 [.ref (g 29), .int za1] g N X R0.1 (up (up (up (up (up (up (up X 29 R0.2.1) 36 R0.2.2.1) 37 R0.2.2.2.1) 38 R0.2.2.2.2.1) 39 R0.2.2.2.2.2.1) 40 R0.2.2.2.2.2.2.1) 41 R0.2.2.2.2.2.2.2) := by
  refine jWi (own := RX10) (by decide) rfl hfl (Nat.le_of_ble_eq_true rfl) rfl ?_
  intro p e R s m args below meth c ls A Q hRe C hw hl hret
  subst hRe
  have hx := C.1
  have hb := C.2.1
  have hl : lv_has ls 2 [(0, .ref (g 29)), (1, .int za1)] := hl
  rw [m_X10_depth] at hinv
  refine lv_aload_n hx hb dX10_depth_0 rfl (lv_at hl 0 rfl) ?_
  refine lv_iload_n hx hb dX10_depth_1 rfl (lv_at hl 1 rfl) ?_
  obtain ⟨zu1, hzu1, hinv⟩ := ob hinv
  refine s_vWi (r0 := zu1.1) C hw (As := [.int za1]) bX10_isArgument k563 (k := 29) (q47 hN rfl) (sh_29 g cy _) rfl (c_X10_isArgument (X := X) hfl hN hzu1) rfl rfl dX10_depth_2 ⟨rfl, rfl⟩ (by decide) hl.1 (Nat.le_of_ble_eq_true rfl) ⟨Nat.le_of_ble_eq_true rfl, Nat.le_of_ble_eq_true rfl⟩ (fun H locs hw => ?_)
  refine lv_if_eq (tgt := 17) hx hb dX10_depth_5 (by decide) (fun c_5 => ?_) (fun c_5 => ?_)
  · have hinv := oi_t c_5 hinv
    refine lv_iconst (v := 0) hx hb dX10_depth_17 (by decide) ?_
    have hR0 := (Option.some.inj hinv).symm
    subst hR0
    exact hret 18 ls 0 _ _ _ _ rfl hw (by decide) (by decide) dX10_depth_18
  · have hinv := oi_f c_5 hinv
    refine lv_aload_n hx hb dX10_depth_8 rfl (lv_at hl 0 rfl) ?_
    refine w_get C hw (k := 29) (v := .ref (g 39)) (j := 13) (q47 hN rfl) (sh_29 g cy _) rfl (by decide) k478 rfl dX10_depth_9 ?_
    refine lv_iload_n hx hb dX10_depth_12 rfl (lv_at hl 1 rfl) ?_
    obtain ⟨hb_13, hinv⟩ := oi_c hinv
    refine s_iald C hw (k := 39) (a := zu1.2.2.2.2.2.1) (q47 hN rfl) (fun r => sh_39 g cy r) rfl hb_13 dX10_depth_13 ?_
    refine lv_goto (tgt := 18) hx hb dX10_depth_14 (by decide) ?_
    have hR0 := (Option.some.inj hinv).symm
    subst hR0
    exact hret 18 ls (zu1.2.2.2.2.2.1 za1.toNatClampNeg) _ _ _ _ rfl hw (by decide) (by decide) dX10_depth_18
def m_X10_part (F : Nat) (r29 : Nat → Int32) (r30 : Nat → Int32) (r31 : Nat → Int32) (r32 : Nat → Int32) (r33 : Nat → Int32) (r34 : Nat → Int32) (r35 : Nat → Int32) (r36 : Nat → Int32) (r37 : Nat → Int32) (r38 : Nat → Int32) (r39 : Nat → Int32) (r40 : Nat → Int32) (r41 : Nat → Int32) (za1 : Int32) (za2 : Int32) : Option (Int32 × (Nat → Int32) × (Nat → Int32) × (Nat → Int32) × (Nat → Int32) × (Nat → Int32) × (Nat → Int32) × (Nat → Int32)) := Option.bind (m_X10_isArgument F r29 r30 r31 r32 r33 r34 r35 r36 r37 r38 r39 r40 r41 za1) (fun zu1 => if zu1.1 = 0 then (some (0, zu1.2.1, zu1.2.2.1, zu1.2.2.2.1, zu1.2.2.2.2.1, zu1.2.2.2.2.2.1, zu1.2.2.2.2.2.2.1, zu1.2.2.2.2.2.2.2)) else (Option.bind (if za2 < 0 then (some ((-1) : Int32)) else (if 3 ≤ za2 then (some ((-1) : Int32)) else (if ¬ (((3 * za1) + za2) < 0 ∨ 72 ≤ ((3 * za1) + za2).toNatClampNeg) then (some (zu1.2.2.2.2.1 ((3 * za1) + za2).toNatClampNeg)) else none))) (fun zu2 => Option.bind (if zu2 = (-1) then (some (2 : Int32)) else (some (0 : Int32))) (fun zu3 => Option.bind (m_X10_passes F zu1.2.1 zu3) (fun zu4 => if zu4.1 = 0 then (some (0, zu4.2, zu1.2.2.1, zu1.2.2.2.1, zu1.2.2.2.2.1, zu1.2.2.2.2.2.1, zu1.2.2.2.2.2.2.1, zu1.2.2.2.2.2.2.2)) else (some (zu2, zu4.2, zu1.2.2.1, zu1.2.2.2.1, zu1.2.2.2.2.1, zu1.2.2.2.2.2.1, zu1.2.2.2.2.2.2.1, zu1.2.2.2.2.2.2.2)))))))
set_option maxHeartbeats 4000000 in
set_option maxRecDepth 100000 in
theorem c_X10_part {l : Launch} {D : va_G} {cy : Nat → Nat} {g : Nat → Nat} {N : Nat} {X : Nat → Nat → Int32} {F : Nat} {za1 : Int32} {za2 : Int32} {R0 : Int32 × (Nat → Int32) × (Nat → Int32) × (Nat → Int32) × (Nat → Int32) × (Nat → Int32) × (Nat → Int32) × (Nat → Int32)} (hfl : l.stackTraces = false) (hN : 47 ≤ N) (hinv : m_X10_part F (X 29) (X 30) (X 31) (X 32) (X 33) (X 34) (X 35) (X 36) (X 37) (X 38) (X 39) (X 40) (X 41) za1 za2 = some R0) : sWi l D cy yX10_part cX10_part 4 (some .int) 6 0 0 [.ref (g 29), .int za1, .int za2] g N X R0.1 (up (up (up (up (up (up (up X 29 R0.2.1) 36 R0.2.2.1) 37 R0.2.2.2.1) 38 R0.2.2.2.2.1) 39 R0.2.2.2.2.2.1) 40 R0.2.2.2.2.2.2.1) 41 R0.2.2.2.2.2.2.2) := by
  refine jWi (own := RX10) (by decide) rfl hfl (Nat.le_of_ble_eq_true rfl) rfl ?_
  intro p e R s m args below meth c ls A Q hRe C hw hl hret
  subst hRe
  have hx := C.1
  have hb := C.2.1
  have hl : lv_has ls 4 [(0, .ref (g 29)), (1, .int za1), (2, .int za2)] := hl
  rw [m_X10_part] at hinv
  refine lv_aload_n hx hb dX10_part_0 rfl (lv_at hl 0 rfl) ?_
  refine lv_iload_n hx hb dX10_part_1 rfl (lv_at hl 1 rfl) ?_
  obtain ⟨zu1, hzu1, hinv⟩ := ob hinv
  refine s_vWi (r0 := zu1.1) C hw (As := [.int za1]) bX10_isArgument k563 (k := 29) (q47 hN rfl) (sh_29 g cy _) rfl (c_X10_isArgument (X := X) hfl hN hzu1) rfl rfl dX10_part_2 ⟨rfl, rfl⟩ (by decide) hl.1 (Nat.le_of_ble_eq_true rfl) ⟨Nat.le_of_ble_eq_true rfl, Nat.le_of_ble_eq_true rfl⟩ (fun H locs hw => ?_)
  refine lv_if_ne (tgt := 10) hx hb dX10_part_5 (by decide) (fun c_5 => ?_) (fun c_5 => ?_)
  · have hinv := oi_f c_5 hinv
    obtain ⟨zu2, hzu2, hinv⟩ := ob hinv
    have hx10 : ∀ (H : Heap) (locs : List Loc) (ls : Array Slot), Wd D A s.heap g N (shp g cy (up (up (up (up (up (up (up X 29 zu1.2.1) 36 zu1.2.2.1) 37 zu1.2.2.2.1) 38 zu1.2.2.2.2.1) 39 zu1.2.2.2.2.2.1) 40 zu1.2.2.2.2.2.2.1) 41 zu1.2.2.2.2.2.2.2)) H locs → lv_has ls 4 [(0, .ref (g 29)), (1, .int za1), (2, .int za2)] → W p l e (wR 6 0 0) s m args below meth c H locs 0 0 Q (F0 m 33 ls [.int zu2]) := by
      intro H locs ls hw hl
      refine lv_istore_n (lv' := [(3, .int zu2), (0, .ref (g 29)), (1, .int za1), (2, .int za2)]) hx hb dX10_part_33 rfl hl (by decide) rfl (fun ls hl => ?_)
      refine lv_aload_n hx hb dX10_part_34 rfl (lv_at hl 1 rfl) ?_
      obtain ⟨zu3, hzu3, hinv⟩ := ob hinv
      have hx35 : ∀ (H : Heap) (locs : List Loc) (ls : Array Slot), Wd D A s.heap g N (shp g cy (up (up (up (up (up (up (up X 29 zu1.2.1) 36 zu1.2.2.1) 37 zu1.2.2.2.1) 38 zu1.2.2.2.2.1) 39 zu1.2.2.2.2.2.1) 40 zu1.2.2.2.2.2.2.1) 41 zu1.2.2.2.2.2.2.2)) H locs → lv_has ls 4 [(3, .int zu2), (0, .ref (g 29)), (1, .int za1), (2, .int za2)] → W p l e (wR 6 0 0) s m args below meth c H locs 0 0 Q (F0 m 45 ls [.int zu3, .ref (g 29)]) := by
        intro H locs ls hw hl
        obtain ⟨zu4, hzu4, hinv⟩ := ob hinv
        refine s_vWi (r0 := zu4.1) C hw (As := [.int zu3]) bX10_passes k495 (k := 29) (q47 hN rfl) (sh_29 g cy _) rfl (c_X10_passes (X := (up (up (up (up (up (up (up X 29 zu1.2.1) 36 zu1.2.2.1) 37 zu1.2.2.2.1) 38 zu1.2.2.2.2.1) 39 zu1.2.2.2.2.2.1) 40 zu1.2.2.2.2.2.2.1) 41 zu1.2.2.2.2.2.2.2)) hfl hN hzu4) rfl rfl dX10_part_45 ⟨rfl, rfl⟩ (by decide) hl.1 (Nat.le_of_ble_eq_true rfl) ⟨Nat.le_of_ble_eq_true rfl, Nat.le_of_ble_eq_true rfl⟩ (fun H locs hw => ?_)
        refine lv_if_eq (tgt := 55) hx hb dX10_part_48 (by decide) (fun c_48 => ?_) (fun c_48 => ?_)
        · have hinv := oi_t c_48 hinv
          refine lv_iconst (v := 0) hx hb dX10_part_55 (by decide) ?_
          have hR0 := (Option.some.inj hinv).symm
          subst hR0
          have hXe : (up (up (up (up (up (up (up (up X 29 zu1.2.1) 36 zu1.2.2.1) 37 zu1.2.2.2.1) 38 zu1.2.2.2.2.1) 39 zu1.2.2.2.2.2.1) 40 zu1.2.2.2.2.2.2.1) 41 zu1.2.2.2.2.2.2.2) 29 zu4.2) = (up (up (up (up (up (up (up X 29 zu4.2) 36 zu1.2.2.1) 37 zu1.2.2.2.1) 38 zu1.2.2.2.2.1) 39 zu1.2.2.2.2.2.1) 40 zu1.2.2.2.2.2.2.1) 41 zu1.2.2.2.2.2.2.2) := by
            funext j
            by_cases h29 : j = 29
            · subst h29; simp [up]
            by_cases h36 : j = 36
            · subst h36; simp [up]
            by_cases h37 : j = 37
            · subst h37; simp [up]
            by_cases h38 : j = 38
            · subst h38; simp [up]
            by_cases h39 : j = 39
            · subst h39; simp [up]
            by_cases h40 : j = 40
            · subst h40; simp [up]
            by_cases h41 : j = 41
            · subst h41; simp [up]
            simp [up, h29, h36, h37, h38, h39, h40, h41]
          rw [hXe] at hw
          exact hret 56 ls 0 _ _ _ _ rfl hw (by decide) (by decide) dX10_part_56
        · have hinv := oi_f c_48 hinv
          refine lv_iload_n hx hb dX10_part_51 rfl (lv_at hl 0 rfl) ?_
          refine lv_goto (tgt := 56) hx hb dX10_part_52 (by decide) ?_
          have hR0 := (Option.some.inj hinv).symm
          subst hR0
          have hXe : (up (up (up (up (up (up (up (up X 29 zu1.2.1) 36 zu1.2.2.1) 37 zu1.2.2.2.1) 38 zu1.2.2.2.2.1) 39 zu1.2.2.2.2.2.1) 40 zu1.2.2.2.2.2.2.1) 41 zu1.2.2.2.2.2.2.2) 29 zu4.2) = (up (up (up (up (up (up (up X 29 zu4.2) 36 zu1.2.2.1) 37 zu1.2.2.2.1) 38 zu1.2.2.2.2.1) 39 zu1.2.2.2.2.2.1) 40 zu1.2.2.2.2.2.2.1) 41 zu1.2.2.2.2.2.2.2) := by
            funext j
            by_cases h29 : j = 29
            · subst h29; simp [up]
            by_cases h36 : j = 36
            · subst h36; simp [up]
            by_cases h37 : j = 37
            · subst h37; simp [up]
            by_cases h38 : j = 38
            · subst h38; simp [up]
            by_cases h39 : j = 39
            · subst h39; simp [up]
            by_cases h40 : j = 40
            · subst h40; simp [up]
            by_cases h41 : j = 41
            · subst h41; simp [up]
            simp [up, h29, h36, h37, h38, h39, h40, h41]
          rw [hXe] at hw
          exact hret 56 ls zu2 _ _ _ _ rfl hw (by decide) (by decide) dX10_part_56
      have hinv := hzu3
      refine lv_iload_n hx hb dX10_part_35 rfl (lv_at hl 0 rfl) ?_
      refine lv_iconst (v := (-1)) hx hb dX10_part_36 (by decide) ?_
      refine lv_icmp_ne (tgt := 44) hx hb dX10_part_37 (by decide) (fun c_37 => ?_) (fun c_37 => ?_)
      · have hinv := oi_f c_37 hinv
        refine lv_iconst (v := 0) hx hb dX10_part_44 (by decide) ?_
        have hR9 := Option.some.inj hinv
        subst hR9
        exact hx35 _ _ ls hw (lv_sub hl [0, 1, 2, 3] rfl)
      · have hinv := oi_t c_37 hinv
        refine lv_iconst (v := 2) hx hb dX10_part_40 (by decide) ?_
        refine lv_goto (tgt := 45) hx hb dX10_part_41 (by decide) ?_
        have hR9 := Option.some.inj hinv
        subst hR9
        exact hx35 _ _ ls hw (lv_sub hl [0, 1, 2, 3] rfl)
    have hinv := hzu2
    refine lv_iload_n hx hb dX10_part_10 rfl (lv_at hl 2 rfl) ?_
    refine lv_if_lt (tgt := 32) hx hb dX10_part_11 (by decide) (fun c_11 => ?_) (fun c_11 => ?_)
    · have hinv := oi_t c_11 hinv
      refine lv_iconst (v := (-1)) hx hb dX10_part_32 (by decide) ?_
      have hR9 := Option.some.inj hinv
      subst hR9
      exact hx10 _ _ ls hw (lv_sub hl [0, 1, 2] rfl)
    · have hinv := oi_f c_11 hinv
      refine lv_iload_n hx hb dX10_part_14 rfl (lv_at hl 2 rfl) ?_
      refine lv_iconst (v := 3) hx hb dX10_part_15 (by decide) ?_
      refine lv_icmp_ge (tgt := 32) hx hb dX10_part_16 (by decide) (fun c_16 => ?_) (fun c_16 => ?_)
      · have hinv := oi_t c_16 hinv
        refine lv_iconst (v := (-1)) hx hb dX10_part_32 (by decide) ?_
        have hR9 := Option.some.inj hinv
        subst hR9
        exact hx10 _ _ ls hw (lv_sub hl [0, 1, 2] rfl)
      · have hinv := oi_f c_16 hinv
        refine lv_aload_n hx hb dX10_part_19 rfl (lv_at hl 0 rfl) ?_
        refine w_get C hw (k := 29) (v := .ref (g 38)) (j := 12) (q47 hN rfl) (sh_29 g cy _) rfl (by decide) k477 rfl dX10_part_20 ?_
        refine lv_iconst (v := 3) hx hb dX10_part_23 (by decide) ?_
        refine lv_iload_n hx hb dX10_part_24 rfl (lv_at hl 1 rfl) ?_
        refine lv_imul hx hb dX10_part_25 ?_
        refine lv_iload_n hx hb dX10_part_26 rfl (lv_at hl 2 rfl) ?_
        refine lv_iadd hx hb dX10_part_27 ?_
        obtain ⟨hb_28, hinv⟩ := oi_c hinv
        refine s_iald C hw (k := 38) (a := zu1.2.2.2.2.1) (q47 hN rfl) (fun r => sh_38 g cy r) rfl hb_28 dX10_part_28 ?_
        refine lv_goto (tgt := 33) hx hb dX10_part_29 (by decide) ?_
        have hR9 := Option.some.inj hinv
        subst hR9
        exact hx10 _ _ ls hw (lv_sub hl [0, 1, 2] rfl)
  · have hinv := oi_t c_5 hinv
    refine lv_iconst (v := 0) hx hb dX10_part_8 (by decide) ?_
    have hR0 := (Option.some.inj hinv).symm
    subst hR0
    exact hret 9 ls 0 _ _ _ _ rfl hw (by decide) (by decide) dX10_part_9
def m_X10_attacks (F : Nat) (r29 : Nat → Int32) (r30 : Nat → Int32) (r31 : Nat → Int32) (r32 : Nat → Int32) (r33 : Nat → Int32) (r34 : Nat → Int32) (r35 : Nat → Int32) (r36 : Nat → Int32) (r37 : Nat → Int32) (r38 : Nat → Int32) (r39 : Nat → Int32) (r40 : Nat → Int32) (r41 : Nat → Int32) (za1 : Int32) (za2 : Int32) : Option (Int32 × (Nat → Int32) × (Nat → Int32) × (Nat → Int32) × (Nat → Int32) × (Nat → Int32) × (Nat → Int32) × (Nat → Int32)) := Option.bind (m_X10_isArgument F r29 r30 r31 r32 r33 r34 r35 r36 r37 r38 r39 r40 r41 za1) (fun zu1 => if zu1.1 = 0 then (some (0, zu1.2.1, zu1.2.2.1, zu1.2.2.2.1, zu1.2.2.2.2.1, zu1.2.2.2.2.2.1, zu1.2.2.2.2.2.2.1, zu1.2.2.2.2.2.2.2)) else (Option.bind (m_X10_isArgument F zu1.2.1 r30 r31 r32 r33 r34 r35 zu1.2.2.1 zu1.2.2.2.1 zu1.2.2.2.2.1 zu1.2.2.2.2.2.1 zu1.2.2.2.2.2.2.1 zu1.2.2.2.2.2.2.2 za2) (fun zu2 => if zu2.1 = 0 then (some (0, zu2.2.1, zu2.2.2.1, zu2.2.2.2.1, zu2.2.2.2.2.1, zu2.2.2.2.2.2.1, zu2.2.2.2.2.2.2.1, zu2.2.2.2.2.2.2.2)) else (if ¬ (za2 < 0 ∨ 24 ≤ za2.toNatClampNeg) then (if (((zu2.2.2.2.2.2.2.2 za2.toNatClampNeg) >>> (za1 &&& 31)) &&& 1) = 1 then (some (1, zu2.2.1, zu2.2.2.1, zu2.2.2.2.1, zu2.2.2.2.2.1, zu2.2.2.2.2.2.1, zu2.2.2.2.2.2.2.1, zu2.2.2.2.2.2.2.2)) else (some (0, zu2.2.1, zu2.2.2.1, zu2.2.2.2.1, zu2.2.2.2.2.1, zu2.2.2.2.2.2.1, zu2.2.2.2.2.2.2.1, zu2.2.2.2.2.2.2.2))) else none))))
set_option maxHeartbeats 4000000 in
set_option maxRecDepth 100000 in
theorem c_X10_attacks {l : Launch} {D : va_G} {cy : Nat → Nat} {g : Nat → Nat} {N : Nat} {X : Nat → Nat → Int32} {F : Nat} {za1 : Int32} {za2 : Int32} {R0 : Int32 × (Nat → Int32) × (Nat → Int32) × (Nat → Int32) × (Nat → Int32) × (Nat → Int32) × (Nat → Int32) × (Nat → Int32)} (hfl : l.stackTraces = false) (hN : 47 ≤ N) (hinv : m_X10_attacks F (X 29) (X 30) (X 31) (X 32) (X 33) (X 34) (X 35) (X 36) (X 37) (X 38) (X 39) (X 40) (X 41) za1 za2 = some R0) : sWi l D cy yX10_attacks cX10_attacks 3 (some .boolean) 6 0 0 [.ref (g 29), .int za1, .int za2] g N X R0.1 (up (up (up (up (up (up (up X 29 R0.2.1) 36 R0.2.2.1) 37 R0.2.2.2.1) 38 R0.2.2.2.2.1) 39 R0.2.2.2.2.2.1) 40 R0.2.2.2.2.2.2.1) 41 R0.2.2.2.2.2.2.2) := by
  refine jWz (own := RX10) (by decide) rfl hfl (Nat.le_of_ble_eq_true rfl) rfl ?_
  intro p e R s m args below meth c ls A Q hRe C hw hl hret
  subst hRe
  have hx := C.1
  have hb := C.2.1
  have hl : lv_has ls 3 [(0, .ref (g 29)), (1, .int za1), (2, .int za2)] := hl
  rw [m_X10_attacks] at hinv
  refine lv_aload_n hx hb dX10_attacks_0 rfl (lv_at hl 0 rfl) ?_
  refine lv_iload_n hx hb dX10_attacks_1 rfl (lv_at hl 1 rfl) ?_
  obtain ⟨zu1, hzu1, hinv⟩ := ob hinv
  refine s_vWi (r0 := zu1.1) C hw (As := [.int za1]) bX10_isArgument k563 (k := 29) (q47 hN rfl) (sh_29 g cy _) rfl (c_X10_isArgument (X := X) hfl hN hzu1) rfl rfl dX10_attacks_2 ⟨rfl, rfl⟩ (by decide) hl.1 (Nat.le_of_ble_eq_true rfl) ⟨Nat.le_of_ble_eq_true rfl, Nat.le_of_ble_eq_true rfl⟩ (fun H locs hw => ?_)
  refine lv_if_eq (tgt := 34) hx hb dX10_attacks_5 (by decide) (fun c_5 => ?_) (fun c_5 => ?_)
  · have hinv := oi_t c_5 hinv
    refine lv_iconst (v := 0) hx hb dX10_attacks_34 (by decide) ?_
    have hR0 := (Option.some.inj hinv).symm
    subst hR0
    exact hret 35 ls 0 _ _ _ _ rfl (by decide) hw (by decide) (by decide) dX10_attacks_35
  · have hinv := oi_f c_5 hinv
    refine lv_aload_n hx hb dX10_attacks_8 rfl (lv_at hl 0 rfl) ?_
    refine lv_iload_n hx hb dX10_attacks_9 rfl (lv_at hl 2 rfl) ?_
    obtain ⟨zu2, hzu2, hinv⟩ := ob hinv
    refine s_vWi (r0 := zu2.1) C hw (As := [.int za2]) bX10_isArgument k563 (k := 29) (q47 hN rfl) (sh_29 g cy _) rfl (c_X10_isArgument (X := (up (up (up (up (up (up (up X 29 zu1.2.1) 36 zu1.2.2.1) 37 zu1.2.2.2.1) 38 zu1.2.2.2.2.1) 39 zu1.2.2.2.2.2.1) 40 zu1.2.2.2.2.2.2.1) 41 zu1.2.2.2.2.2.2.2)) hfl hN hzu2) rfl rfl dX10_attacks_10 ⟨rfl, rfl⟩ (by decide) hl.1 (Nat.le_of_ble_eq_true rfl) ⟨Nat.le_of_ble_eq_true rfl, Nat.le_of_ble_eq_true rfl⟩ (fun H locs hw => ?_)
    refine lv_if_eq (tgt := 34) hx hb dX10_attacks_13 (by decide) (fun c_13 => ?_) (fun c_13 => ?_)
    · have hinv := oi_t c_13 hinv
      refine lv_iconst (v := 0) hx hb dX10_attacks_34 (by decide) ?_
      have hR0 := (Option.some.inj hinv).symm
      subst hR0
      have hXe : (up (up (up (up (up (up (up (up (up (up (up (up (up (up X 29 zu1.2.1) 36 zu1.2.2.1) 37 zu1.2.2.2.1) 38 zu1.2.2.2.2.1) 39 zu1.2.2.2.2.2.1) 40 zu1.2.2.2.2.2.2.1) 41 zu1.2.2.2.2.2.2.2) 29 zu2.2.1) 36 zu2.2.2.1) 37 zu2.2.2.2.1) 38 zu2.2.2.2.2.1) 39 zu2.2.2.2.2.2.1) 40 zu2.2.2.2.2.2.2.1) 41 zu2.2.2.2.2.2.2.2) = (up (up (up (up (up (up (up X 29 zu2.2.1) 36 zu2.2.2.1) 37 zu2.2.2.2.1) 38 zu2.2.2.2.2.1) 39 zu2.2.2.2.2.2.1) 40 zu2.2.2.2.2.2.2.1) 41 zu2.2.2.2.2.2.2.2) := by
        funext j
        by_cases h29 : j = 29
        · subst h29; simp [up]
        by_cases h36 : j = 36
        · subst h36; simp [up]
        by_cases h37 : j = 37
        · subst h37; simp [up]
        by_cases h38 : j = 38
        · subst h38; simp [up]
        by_cases h39 : j = 39
        · subst h39; simp [up]
        by_cases h40 : j = 40
        · subst h40; simp [up]
        by_cases h41 : j = 41
        · subst h41; simp [up]
        simp [up, h29, h36, h37, h38, h39, h40, h41]
      rw [hXe] at hw
      exact hret 35 ls 0 _ _ _ _ rfl (by decide) hw (by decide) (by decide) dX10_attacks_35
    · have hinv := oi_f c_13 hinv
      refine lv_aload_n hx hb dX10_attacks_16 rfl (lv_at hl 0 rfl) ?_
      refine w_get C hw (k := 29) (v := .ref (g 41)) (j := 15) (q47 hN rfl) (sh_29 g cy _) rfl (by decide) k480 rfl dX10_attacks_17 ?_
      refine lv_iload_n hx hb dX10_attacks_20 rfl (lv_at hl 2 rfl) ?_
      obtain ⟨hb_21, hinv⟩ := oi_c hinv
      refine s_iald C hw (k := 41) (a := zu2.2.2.2.2.2.2.2) (q47 hN rfl) (fun r => sh_41 g cy r) rfl hb_21 dX10_attacks_21 ?_
      refine lv_iload_n hx hb dX10_attacks_22 rfl (lv_at hl 1 rfl) ?_
      refine lv_ishr hx hb dX10_attacks_23 ?_
      refine lv_iconst (v := 1) hx hb dX10_attacks_24 (by decide) ?_
      refine lv_iand hx hb dX10_attacks_25 ?_
      refine lv_iconst (v := 1) hx hb dX10_attacks_26 (by decide) ?_
      refine lv_icmp_ne (tgt := 34) hx hb dX10_attacks_27 (by decide) (fun c_27 => ?_) (fun c_27 => ?_)
      · have hinv := oi_f c_27 hinv
        refine lv_iconst (v := 0) hx hb dX10_attacks_34 (by decide) ?_
        have hR0 := (Option.some.inj hinv).symm
        subst hR0
        have hXe : (up (up (up (up (up (up (up (up (up (up (up (up (up (up X 29 zu1.2.1) 36 zu1.2.2.1) 37 zu1.2.2.2.1) 38 zu1.2.2.2.2.1) 39 zu1.2.2.2.2.2.1) 40 zu1.2.2.2.2.2.2.1) 41 zu1.2.2.2.2.2.2.2) 29 zu2.2.1) 36 zu2.2.2.1) 37 zu2.2.2.2.1) 38 zu2.2.2.2.2.1) 39 zu2.2.2.2.2.2.1) 40 zu2.2.2.2.2.2.2.1) 41 zu2.2.2.2.2.2.2.2) = (up (up (up (up (up (up (up X 29 zu2.2.1) 36 zu2.2.2.1) 37 zu2.2.2.2.1) 38 zu2.2.2.2.2.1) 39 zu2.2.2.2.2.2.1) 40 zu2.2.2.2.2.2.2.1) 41 zu2.2.2.2.2.2.2.2) := by
          funext j
          by_cases h29 : j = 29
          · subst h29; simp [up]
          by_cases h36 : j = 36
          · subst h36; simp [up]
          by_cases h37 : j = 37
          · subst h37; simp [up]
          by_cases h38 : j = 38
          · subst h38; simp [up]
          by_cases h39 : j = 39
          · subst h39; simp [up]
          by_cases h40 : j = 40
          · subst h40; simp [up]
          by_cases h41 : j = 41
          · subst h41; simp [up]
          simp [up, h29, h36, h37, h38, h39, h40, h41]
        rw [hXe] at hw
        exact hret 35 ls 0 _ _ _ _ rfl (by decide) hw (by decide) (by decide) dX10_attacks_35
      · have hinv := oi_t c_27 hinv
        refine lv_iconst (v := 1) hx hb dX10_attacks_30 (by decide) ?_
        refine lv_goto (tgt := 35) hx hb dX10_attacks_31 (by decide) ?_
        have hR0 := (Option.some.inj hinv).symm
        subst hR0
        have hXe : (up (up (up (up (up (up (up (up (up (up (up (up (up (up X 29 zu1.2.1) 36 zu1.2.2.1) 37 zu1.2.2.2.1) 38 zu1.2.2.2.2.1) 39 zu1.2.2.2.2.2.1) 40 zu1.2.2.2.2.2.2.1) 41 zu1.2.2.2.2.2.2.2) 29 zu2.2.1) 36 zu2.2.2.1) 37 zu2.2.2.2.1) 38 zu2.2.2.2.2.1) 39 zu2.2.2.2.2.2.1) 40 zu2.2.2.2.2.2.2.1) 41 zu2.2.2.2.2.2.2.2) = (up (up (up (up (up (up (up X 29 zu2.2.1) 36 zu2.2.2.1) 37 zu2.2.2.2.1) 38 zu2.2.2.2.2.1) 39 zu2.2.2.2.2.2.1) 40 zu2.2.2.2.2.2.2.1) 41 zu2.2.2.2.2.2.2.2) := by
          funext j
          by_cases h29 : j = 29
          · subst h29; simp [up]
          by_cases h36 : j = 36
          · subst h36; simp [up]
          by_cases h37 : j = 37
          · subst h37; simp [up]
          by_cases h38 : j = 38
          · subst h38; simp [up]
          by_cases h39 : j = 39
          · subst h39; simp [up]
          by_cases h40 : j = 40
          · subst h40; simp [up]
          by_cases h41 : j = 41
          · subst h41; simp [up]
          simp [up, h29, h36, h37, h38, h39, h40, h41]
        rw [hXe] at hw
        exact hret 35 ls 1 _ _ _ _ rfl (by decide) hw (by decide) (by decide) dX10_attacks_35
def m_X10_withLabel_L4 (F : Nat) (r29 : Nat → Int32) (r42 : Nat → Int32) (y1_4 : Int32) : Nat → Int32 → Int32 → Option (Int32)
  | 0, _, _ => none
  | n + 1, x3_4, x2_4 => if (r29 8) ≤ x3_4 then (some x2_4) else (if ¬ (x3_4 < 0 ∨ 24 ≤ x3_4.toNatClampNeg) then (if (r42 x3_4.toNatClampNeg) = y1_4 then (m_X10_withLabel_L4 F r29 r42 y1_4 n (x3_4 + 1) (x2_4 ||| ((1 : Int32) <<< (x3_4 &&& 31)))) else (m_X10_withLabel_L4 F r29 r42 y1_4 n (x3_4 + 1) (x2_4 ||| 0))) else none)
def m_X10_withLabel (F : Nat) (r29 : Nat → Int32) (r42 : Nat → Int32) (za1 : Int32) : Option (Int32) := m_X10_withLabel_L4 F r29 r42 za1 F 0 0
set_option maxHeartbeats 4000000 in
set_option maxRecDepth 100000 in
theorem c_X10_withLabel {l : Launch} {D : va_G} {cy : Nat → Nat} {g : Nat → Nat} {N : Nat} {X : Nat → Nat → Int32} {F : Nat} {za1 : Int32} {R0 : Int32} (hfl : l.stackTraces = false) (hN : 47 ≤ N) (hinv : m_X10_withLabel F (X 29) (X 42) za1 = some R0) : sRi l D cy yX10_withLabel cX10_withLabel 4 (some .int) 0 [.ref (g 29), .int za1] g N X R0 := by
  refine jRi (own := RX10) (by decide) rfl hfl (Nat.le_of_ble_eq_true rfl) rfl ?_
  intro p e R s m args below meth c ls A Q hRe C hw hl hret
  subst hRe
  have hx := C.1
  have hb := C.2.1
  have hl : lv_has ls 4 [(0, .ref (g 29)), (1, .int za1)] := hl
  rw [m_X10_withLabel] at hinv
  refine lv_iconst (v := 0) hx hb dX10_withLabel_0 (by decide) ?_
  refine lv_istore_n (lv' := [(2, .int 0), (0, .ref (g 29)), (1, .int za1)]) hx hb dX10_withLabel_1 rfl hl (by decide) rfl (fun ls hl => ?_)
  refine lv_iconst (v := 0) hx hb dX10_withLabel_2 (by decide) ?_
  refine lv_istore_n (lv' := [(3, .int 0), (2, .int 0), (0, .ref (g 29)), (1, .int za1)]) hx hb dX10_withLabel_3 rfl hl (by decide) rfl (fun ls hl => ?_)
  have hl4 : ∀ (n : Nat) (x3_4 : Int32) (x2_4 : Int32), m_X10_withLabel_L4 F (X 29) (X 42) za1 n x3_4 x2_4 = some R0 → ∀ (ls : Array Slot), lv_has ls 4 [(3, .int x3_4), (2, .int x2_4), (0, .ref (g 29)), (1, .int za1)] → W p l e (wR 0 0 0) s m args below meth c s.heap [] 0 0 Q (F0 m 4 ls []) := by
    intro n
    induction n with
    | zero =>
      intro x3_4 x2_4 hinv
      cases hinv
    | succ n ih =>
      intro x3_4 x2_4 hinv ls hl
      rw [m_X10_withLabel_L4] at hinv
      refine lv_iload_n hx hb dX10_withLabel_4 rfl (lv_at hl 0 rfl) ?_
      refine lv_aload_n hx hb dX10_withLabel_5 rfl (lv_at hl 2 rfl) ?_
      refine w_get C hw (k := 29) (v := .int ((X 29) 8)) (j := 8) (q47 hN rfl) (sh_29 g cy _) rfl (by decide) k517 rfl dX10_withLabel_6 ?_
      refine lv_icmp_ge (tgt := 38) hx hb dX10_withLabel_9 (by decide) (fun c_9 => ?_) (fun c_9 => ?_)
      · have hinv := oi_t c_9 hinv
        refine lv_iload_n hx hb dX10_withLabel_38 rfl (lv_at hl 1 rfl) ?_
        exact hret 39 ls x2_4 (Option.some.inj hinv) dX10_withLabel_39
      · have hinv := oi_f c_9 hinv
        refine lv_iload_n hx hb dX10_withLabel_12 rfl (lv_at hl 1 rfl) ?_
        refine lv_aload_n hx hb dX10_withLabel_13 rfl (lv_at hl 2 rfl) ?_
        refine w_get C hw (k := 29) (v := .ref (g 42)) (j := 16) (q47 hN rfl) (sh_29 g cy _) rfl (by decide) k481 rfl dX10_withLabel_14 ?_
        refine lv_iload_n hx hb dX10_withLabel_17 rfl (lv_at hl 0 rfl) ?_
        obtain ⟨hb_18, hinv⟩ := oi_c hinv
        refine s_iald C hw (k := 42) (a := (X 42)) (q47 hN rfl) (fun r => sh_42 g cy r) rfl hb_18 dX10_withLabel_18 ?_
        refine lv_iload_n hx hb dX10_withLabel_19 rfl (lv_at hl 3 rfl) ?_
        refine lv_icmp_ne (tgt := 29) hx hb dX10_withLabel_20 (by decide) (fun c_20 => ?_) (fun c_20 => ?_)
        · have hinv := oi_f c_20 hinv
          refine lv_iconst (v := 0) hx hb dX10_withLabel_29 (by decide) ?_
          refine lv_ior hx hb dX10_withLabel_30 ?_
          refine lv_istore_n (lv' := [(2, .int (x2_4 ||| 0)), (3, .int x3_4), (0, .ref (g 29)), (1, .int za1)]) hx hb dX10_withLabel_31 rfl hl (by decide) rfl (fun ls hl => ?_)
          refine lv_iinc (v := (x3_4 + 1)) (lv' := [(3, .int (x3_4 + 1)), (2, .int (x2_4 ||| 0)), (0, .ref (g 29)), (1, .int za1)]) hx hb dX10_withLabel_32 hl (k := 1) rfl (by rfl) (by decide) rfl (fun ls hl => ?_)
          refine lv_goto (tgt := 4) hx hb dX10_withLabel_35 (by decide) ?_
          exact ih (x3_4 + 1) (x2_4 ||| 0) hinv ls (lv_sub hl [0, 1, 2, 3] rfl)
        · have hinv := oi_t c_20 hinv
          refine lv_iconst (v := 1) hx hb dX10_withLabel_23 (by decide) ?_
          refine lv_iload_n hx hb dX10_withLabel_24 rfl (lv_at hl 0 rfl) ?_
          refine lv_ishl hx hb dX10_withLabel_25 ?_
          refine lv_goto (tgt := 30) hx hb dX10_withLabel_26 (by decide) ?_
          refine lv_ior hx hb dX10_withLabel_30 ?_
          refine lv_istore_n (lv' := [(2, .int (x2_4 ||| ((1 : Int32) <<< (x3_4 &&& 31)))), (3, .int x3_4), (0, .ref (g 29)), (1, .int za1)]) hx hb dX10_withLabel_31 rfl hl (by decide) rfl (fun ls hl => ?_)
          refine lv_iinc (v := (x3_4 + 1)) (lv' := [(3, .int (x3_4 + 1)), (2, .int (x2_4 ||| ((1 : Int32) <<< (x3_4 &&& 31)))), (0, .ref (g 29)), (1, .int za1)]) hx hb dX10_withLabel_32 hl (k := 1) rfl (by rfl) (by decide) rfl (fun ls hl => ?_)
          refine lv_goto (tgt := 4) hx hb dX10_withLabel_35 (by decide) ?_
          exact ih (x3_4 + 1) (x2_4 ||| ((1 : Int32) <<< (x3_4 &&& 31))) hinv ls (lv_sub hl [0, 1, 2, 3] rfl)
  exact hl4 F 0 0 hinv ls (lv_sub hl [0, 1, 2, 3] rfl)
def m_X10_labelsAll_L124 (F : Nat) (r29 : Nat → Int32) (r41 : Nat → Int32) (y4_124 : Int32) (y2_124 : Int32) : Nat → Int32 → (Nat → Int32) → (Nat → Int32) → Option (Int32 × (Nat → Int32) × (Nat → Int32))
  | 0, _, _, _ => none
  | n + 1, x5_124, q42_124, q43_124 => if (r29 8) ≤ x5_124 then (some (x5_124, q42_124, q43_124)) else (if ¬ (x5_124 < 0 ∨ 24 ≤ x5_124.toNatClampNeg) then (if (q42_124 x5_124.toNatClampNeg) = 1 then (if ¬ (x5_124 < 0 ∨ 24 ≤ x5_124.toNatClampNeg) then (if ((r41 x5_124.toNatClampNeg) &&& y4_124) = 0 then (m_X10_labelsAll_L124 F r29 r41 y4_124 y2_124 n (x5_124 + 1) q42_124 q43_124) else (if ¬ (x5_124 < 0 ∨ 24 ≤ x5_124.toNatClampNeg) then (if ¬ (x5_124 < 0 ∨ 24 ≤ x5_124.toNatClampNeg) then (m_X10_labelsAll_L124 F r29 r41 y4_124 y2_124 n (x5_124 + 1) (upd q42_124 x5_124.toNatClampNeg 0) (upd q43_124 x5_124.toNatClampNeg y2_124)) else none) else none)) else none) else (m_X10_labelsAll_L124 F r29 r41 y4_124 y2_124 n (x5_124 + 1) q42_124 q43_124)) else none)
def m_X10_labelsAll_L58 (F : Nat) (r29 : Nat → Int32) (r41 : Nat → Int32) (y3_58 : Int32) (y2_58 : Int32) : Nat → Int32 → (Nat → Int32) → (Nat → Int32) → Option (Int32 × (Nat → Int32) × (Nat → Int32))
  | 0, _, _, _ => none
  | n + 1, x4_58, q42_58, q43_58 => if (r29 8) ≤ x4_58 then (some (x4_58, q42_58, q43_58)) else (if ¬ (x4_58 < 0 ∨ 24 ≤ x4_58.toNatClampNeg) then (if (q42_58 x4_58.toNatClampNeg) = 1 then (if ¬ (x4_58 < 0 ∨ 24 ≤ x4_58.toNatClampNeg) then (if ((r41 x4_58.toNatClampNeg) &&& (y3_58 ^^^ (-1))) = 0 then (if ¬ (x4_58 < 0 ∨ 24 ≤ x4_58.toNatClampNeg) then (if ¬ (x4_58 < 0 ∨ 24 ≤ x4_58.toNatClampNeg) then (m_X10_labelsAll_L58 F r29 r41 y3_58 y2_58 n (x4_58 + 1) (upd q42_58 x4_58.toNatClampNeg 2) (upd q43_58 x4_58.toNatClampNeg y2_58)) else none) else none) else (m_X10_labelsAll_L58 F r29 r41 y3_58 y2_58 n (x4_58 + 1) q42_58 q43_58)) else none) else (m_X10_labelsAll_L58 F r29 r41 y3_58 y2_58 n (x4_58 + 1) q42_58 q43_58)) else none)
def m_X10_labelsAll_L34 (F : Nat) (r29 : Nat → Int32) (r41 : Nat → Int32) : Nat → Int32 → Int32 → (Nat → Int32) → (Nat → Int32) → Option ((Nat → Int32) × (Nat → Int32))
  | 0, _, _, _, _ => none
  | n + 1, x2_34, x1_34, q42_34, q43_34 => Option.bind (m_X10_withLabel F r29 q42_34 1) (fun zu2 => if x1_34 = zu2 then (some (q42_34, q43_34)) else (Option.bind (m_X10_withLabel F r29 q42_34 1) (fun zu3 => Option.bind (m_X10_withLabel F r29 q42_34 0) (fun zu4 => Option.bind (m_X10_labelsAll_L58 F r29 r41 zu4 x2_34 F 0 q42_34 q43_34) (fun zu5 => Option.bind (m_X10_withLabel F r29 zu5.2.1 2) (fun zu6 => Option.bind (m_X10_labelsAll_L124 F r29 r41 zu6 x2_34 F 0 zu5.2.1 zu5.2.2) (fun zu7 => m_X10_labelsAll_L34 F r29 r41 n (x2_34 + 1) zu3 zu7.2.1 zu7.2.2)))))))
def m_X10_labelsAll_L2 (F : Nat) (r29 : Nat → Int32) : Nat → Int32 → (Nat → Int32) → (Nat → Int32) → Option (Int32 × (Nat → Int32) × (Nat → Int32))
  | 0, _, _, _ => none
  | n + 1, x1_2, q42_2, q43_2 => if (r29 8) ≤ x1_2 then (some (x1_2, q42_2, q43_2)) else (if ¬ (x1_2 < 0 ∨ 24 ≤ x1_2.toNatClampNeg) then (if ¬ (x1_2 < 0 ∨ 24 ≤ x1_2.toNatClampNeg) then (m_X10_labelsAll_L2 F r29 n (x1_2 + 1) (upd q42_2 x1_2.toNatClampNeg 1) (upd q43_2 x1_2.toNatClampNeg 0)) else none) else none)
def m_X10_labelsAll (F : Nat) (r29 : Nat → Int32) (r41 : Nat → Int32) (r42 : Nat → Int32) (r43 : Nat → Int32) : Option ((Nat → Int32) × (Nat → Int32)) := Option.bind (m_X10_labelsAll_L2 F r29 F 0 r42 r43) (fun zu1 => m_X10_labelsAll_L34 F r29 r41 F 1 (-1) zu1.2.1 zu1.2.2)
set_option maxHeartbeats 4000000 in
set_option maxRecDepth 100000 in
theorem c_X10_labelsAll {l : Launch} {D : va_G} {cy : Nat → Nat} {g : Nat → Nat} {N : Nat} {X : Nat → Nat → Int32} {F : Nat} {R0 : (Nat → Int32) × (Nat → Int32)} (hfl : l.stackTraces = false) (hN : 47 ≤ N) (hinv : m_X10_labelsAll F (X 29) (X 41) (X 42) (X 43) = some R0) : sWv l D cy yX10_labelsAll cX10_labelsAll 6 none 1 0 0 [.ref (g 29)] g N X (up (up X 42 R0.1) 43 R0.2) := by
  refine jWv (own := RX10) (by decide) rfl hfl (Nat.le_of_ble_eq_true rfl) rfl ?_
  intro p e R s m args below meth c ls A Q hRe C hw hl hret
  subst hRe
  have hx := C.1
  have hb := C.2.1
  have hl : lv_has ls 6 [(0, .ref (g 29))] := hl
  rw [m_X10_labelsAll] at hinv
  refine lv_iconst (v := 0) hx hb dX10_labelsAll_0 (by decide) ?_
  refine lv_istore_n (lv' := [(1, .int 0), (0, .ref (g 29))]) hx hb dX10_labelsAll_1 rfl hl (by decide) rfl (fun ls hl => ?_)
  have hXe : X = (up (up X 42 (X 42)) 43 (X 43)) := by
    funext j
    by_cases h42 : j = 42
    · subst h42; simp [up]
    by_cases h43 : j = 43
    · subst h43; simp [up]
    simp [up, h42, h43]
  rw [hXe] at hw
  obtain ⟨zu1, hzu1, hinv⟩ := ob hinv
  have hx2 : ∀ (H : Heap) (locs : List Loc) (ls : Array Slot), Wd D A s.heap g N (shp g cy (up (up X 42 zu1.2.1) 43 zu1.2.2)) H locs → lv_has ls 6 [(1, .int zu1.1), (0, .ref (g 29))] → W p l e (wR 1 0 0) s m args below meth c H locs 0 0 Q (F0 m 30 ls []) := by
    intro H locs ls hw hl
    refine lv_iconst (v := (-1)) hx hb dX10_labelsAll_30 (by decide) ?_
    refine lv_istore_n (lv' := [(1, .int (-1)), (0, .ref (g 29))]) hx hb dX10_labelsAll_31 rfl hl (by decide) rfl (fun ls hl => ?_)
    refine lv_iconst (v := 1) hx hb dX10_labelsAll_32 (by decide) ?_
    refine lv_istore_n (lv' := [(2, .int 1), (1, .int (-1)), (0, .ref (g 29))]) hx hb dX10_labelsAll_33 rfl hl (by decide) rfl (fun ls hl => ?_)
    have hl34 : ∀ (n : Nat) (x2_34 : Int32) (x1_34 : Int32) (q42_34 : Nat → Int32) (q43_34 : Nat → Int32), m_X10_labelsAll_L34 F (X 29) (X 41) n x2_34 x1_34 q42_34 q43_34 = some R0 → ∀ (H : Heap) (locs : List Loc) (ls : Array Slot), Wd D A s.heap g N (shp g cy (up (up X 42 q42_34) 43 q43_34)) H locs → lv_has ls 6 [(2, .int x2_34), (1, .int x1_34), (0, .ref (g 29))] → W p l e (wR 1 0 0) s m args below meth c H locs 0 0 Q (F0 m 34 ls []) := by
      intro n
      induction n with
      | zero =>
        intro x2_34 x1_34 q42_34 q43_34 hinv
        cases hinv
      | succ n ih =>
        intro x2_34 x1_34 q42_34 q43_34 hinv H locs ls hw hl
        rw [m_X10_labelsAll_L34] at hinv
        refine lv_iload_n hx hb dX10_labelsAll_34 rfl (lv_at hl 1 rfl) ?_
        refine lv_aload_n hx hb dX10_labelsAll_35 rfl (lv_at hl 2 rfl) ?_
        refine lv_iconst (v := 1) hx hb dX10_labelsAll_36 (by decide) ?_
        obtain ⟨zu2, hzu2, hinv⟩ := ob hinv
        refine s_vRi (r0 := zu2) C hw (As := [.int 1]) bX10_withLabel k573 (k := 29) (q47 hN rfl) (sh_29 g cy _) rfl (c_X10_withLabel (X := (up (up X 42 q42_34) 43 q43_34)) hfl hN hzu2) rfl rfl dX10_labelsAll_37 ⟨rfl, rfl⟩ (by decide) hl.1 (Nat.le_of_ble_eq_true rfl) ⟨Nat.le_of_ble_eq_true rfl, Nat.le_of_ble_eq_true rfl⟩ ?_
        refine lv_icmp_eq (tgt := 185) hx hb dX10_labelsAll_40 (by decide) (fun c_40 => ?_) (fun c_40 => ?_)
        · have hinv := oi_t c_40 hinv
          have hR0 := (Option.some.inj hinv).symm
          subst hR0
          exact hret 185 ls _ _ _ _ hw (by decide) (by decide) dX10_labelsAll_185
        · have hinv := oi_f c_40 hinv
          refine lv_aload_n hx hb dX10_labelsAll_43 rfl (lv_at hl 2 rfl) ?_
          refine lv_iconst (v := 1) hx hb dX10_labelsAll_44 (by decide) ?_
          obtain ⟨zu3, hzu3, hinv⟩ := ob hinv
          refine s_vRi (r0 := zu3) C hw (As := [.int 1]) bX10_withLabel k573 (k := 29) (q47 hN rfl) (sh_29 g cy _) rfl (c_X10_withLabel (X := (up (up X 42 q42_34) 43 q43_34)) hfl hN hzu3) rfl rfl dX10_labelsAll_45 ⟨rfl, rfl⟩ (by decide) hl.1 (Nat.le_of_ble_eq_true rfl) ⟨Nat.le_of_ble_eq_true rfl, Nat.le_of_ble_eq_true rfl⟩ ?_
          refine lv_istore_n (lv' := [(1, .int zu3), (2, .int x2_34), (0, .ref (g 29))]) hx hb dX10_labelsAll_48 rfl hl (by decide) rfl (fun ls hl => ?_)
          refine lv_aload_n hx hb dX10_labelsAll_49 rfl (lv_at hl 2 rfl) ?_
          refine lv_iconst (v := 0) hx hb dX10_labelsAll_50 (by decide) ?_
          obtain ⟨zu4, hzu4, hinv⟩ := ob hinv
          refine s_vRi (r0 := zu4) C hw (As := [.int 0]) bX10_withLabel k573 (k := 29) (q47 hN rfl) (sh_29 g cy _) rfl (c_X10_withLabel (X := (up (up X 42 q42_34) 43 q43_34)) hfl hN hzu4) rfl rfl dX10_labelsAll_51 ⟨rfl, rfl⟩ (by decide) hl.1 (Nat.le_of_ble_eq_true rfl) ⟨Nat.le_of_ble_eq_true rfl, Nat.le_of_ble_eq_true rfl⟩ ?_
          refine lv_istore_n (lv' := [(3, .int zu4), (1, .int zu3), (2, .int x2_34), (0, .ref (g 29))]) hx hb dX10_labelsAll_54 rfl hl (by decide) rfl (fun ls hl => ?_)
          refine lv_iconst (v := 0) hx hb dX10_labelsAll_55 (by decide) ?_
          refine lv_istore (lv' := [(4, .int 0), (3, .int zu4), (1, .int zu3), (2, .int x2_34), (0, .ref (g 29))]) hx hb dX10_labelsAll_56 hl (by decide) rfl (fun ls hl => ?_)
          obtain ⟨zu5, hzu5, hinv⟩ := ob hinv
          have hx58 : ∀ (H : Heap) (locs : List Loc) (ls : Array Slot), Wd D A s.heap g N (shp g cy (up (up X 42 zu5.2.1) 43 zu5.2.2)) H locs → lv_has ls 6 [(4, .int zu5.1), (3, .int zu4), (1, .int zu3), (2, .int x2_34), (0, .ref (g 29))] → W p l e (wR 1 0 0) s m args below meth c H locs 0 0 Q (F0 m 114 ls []) := by
            intro H locs ls hw hl
            refine lv_aload_n hx hb dX10_labelsAll_114 rfl (lv_at hl 4 rfl) ?_
            refine lv_iconst (v := 2) hx hb dX10_labelsAll_115 (by decide) ?_
            obtain ⟨zu6, hzu6, hinv⟩ := ob hinv
            refine s_vRi (r0 := zu6) C hw (As := [.int 2]) bX10_withLabel k573 (k := 29) (q47 hN rfl) (sh_29 g cy _) rfl (c_X10_withLabel (X := (up (up X 42 zu5.2.1) 43 zu5.2.2)) hfl hN hzu6) rfl rfl dX10_labelsAll_116 ⟨rfl, rfl⟩ (by decide) hl.1 (Nat.le_of_ble_eq_true rfl) ⟨Nat.le_of_ble_eq_true rfl, Nat.le_of_ble_eq_true rfl⟩ ?_
            refine lv_istore (lv' := [(4, .int zu6), (3, .int zu4), (1, .int zu3), (2, .int x2_34), (0, .ref (g 29))]) hx hb dX10_labelsAll_119 hl (by decide) rfl (fun ls hl => ?_)
            refine lv_iconst (v := 0) hx hb dX10_labelsAll_121 (by decide) ?_
            refine lv_istore (lv' := [(5, .int 0), (4, .int zu6), (3, .int zu4), (1, .int zu3), (2, .int x2_34), (0, .ref (g 29))]) hx hb dX10_labelsAll_122 hl (by decide) rfl (fun ls hl => ?_)
            obtain ⟨zu7, hzu7, hinv⟩ := ob hinv
            have hx124 : ∀ (H : Heap) (locs : List Loc) (ls : Array Slot), Wd D A s.heap g N (shp g cy (up (up X 42 zu7.2.1) 43 zu7.2.2)) H locs → lv_has ls 6 [(5, .int zu7.1), (4, .int zu6), (3, .int zu4), (1, .int zu3), (2, .int x2_34), (0, .ref (g 29))] → W p l e (wR 1 0 0) s m args below meth c H locs 0 0 Q (F0 m 179 ls []) := by
              intro H locs ls hw hl
              refine lv_iinc (v := (x2_34 + 1)) (lv' := [(2, .int (x2_34 + 1)), (5, .int zu7.1), (4, .int zu6), (3, .int zu4), (1, .int zu3), (0, .ref (g 29))]) hx hb dX10_labelsAll_179 hl (k := 4) rfl (by rfl) (by decide) rfl (fun ls hl => ?_)
              refine lv_goto (tgt := 34) hx hb dX10_labelsAll_182 (by decide) ?_
              exact ih (x2_34 + 1) zu3 zu7.2.1 zu7.2.2 hinv _ _ ls hw (lv_sub hl [0, 4, 5] rfl)
            have hl124 : ∀ (n : Nat) (x5_124 : Int32) (q42_124 : Nat → Int32) (q43_124 : Nat → Int32), m_X10_labelsAll_L124 F (X 29) (X 41) zu6 x2_34 n x5_124 q42_124 q43_124 = some zu7 → ∀ (H : Heap) (locs : List Loc) (ls : Array Slot), Wd D A s.heap g N (shp g cy (up (up X 42 q42_124) 43 q43_124)) H locs → lv_has ls 6 [(5, .int x5_124), (4, .int zu6), (3, .int zu4), (1, .int zu3), (2, .int x2_34), (0, .ref (g 29))] → W p l e (wR 1 0 0) s m args below meth c H locs 0 0 Q (F0 m 124 ls []) := by
              intro n
              induction n with
              | zero =>
                intro x5_124 q42_124 q43_124 hinv
                cases hinv
              | succ n ih =>
                intro x5_124 q42_124 q43_124 hinv H locs ls hw hl
                rw [m_X10_labelsAll_L124] at hinv
                refine lv_iload hx hb dX10_labelsAll_124 (lv_at hl 0 rfl) ?_
                refine lv_aload_n hx hb dX10_labelsAll_126 rfl (lv_at hl 5 rfl) ?_
                refine w_get C hw (k := 29) (v := .int ((X 29) 8)) (j := 8) (q47 hN rfl) (sh_29 g cy _) rfl (by decide) k517 rfl dX10_labelsAll_127 ?_
                refine lv_icmp_ge (tgt := 179) hx hb dX10_labelsAll_130 (by decide) (fun c_130 => ?_) (fun c_130 => ?_)
                · have hinv := oi_t c_130 hinv
                  have hR9 := Option.some.inj hinv
                  subst hR9
                  exact hx124 _ _ ls hw (lv_sub hl [0, 1, 2, 3, 4, 5] rfl)
                · have hinv := oi_f c_130 hinv
                  refine lv_aload_n hx hb dX10_labelsAll_133 rfl (lv_at hl 5 rfl) ?_
                  refine w_get C hw (k := 29) (v := .ref (g 42)) (j := 16) (q47 hN rfl) (sh_29 g cy _) rfl (by decide) k481 rfl dX10_labelsAll_134 ?_
                  refine lv_iload hx hb dX10_labelsAll_137 (lv_at hl 0 rfl) ?_
                  obtain ⟨hb_139, hinv⟩ := oi_c hinv
                  refine s_iald C hw (k := 42) (a := q42_124) (q47 hN rfl) (fun r => sh_42 g cy r) rfl hb_139 dX10_labelsAll_139 ?_
                  refine lv_iconst (v := 1) hx hb dX10_labelsAll_140 (by decide) ?_
                  refine lv_icmp_ne (tgt := 173) hx hb dX10_labelsAll_141 (by decide) (fun c_141 => ?_) (fun c_141 => ?_)
                  · have hinv := oi_f c_141 hinv
                    refine lv_iinc (v := (x5_124 + 1)) (lv' := [(5, .int (x5_124 + 1)), (4, .int zu6), (3, .int zu4), (1, .int zu3), (2, .int x2_34), (0, .ref (g 29))]) hx hb dX10_labelsAll_173 hl (k := 0) rfl (by rfl) (by decide) rfl (fun ls hl => ?_)
                    refine lv_goto (tgt := 124) hx hb dX10_labelsAll_176 (by decide) ?_
                    exact ih (x5_124 + 1) q42_124 q43_124 hinv _ _ ls hw (lv_sub hl [0, 1, 2, 3, 4, 5] rfl)
                  · have hinv := oi_t c_141 hinv
                    refine lv_aload_n hx hb dX10_labelsAll_144 rfl (lv_at hl 5 rfl) ?_
                    refine w_get C hw (k := 29) (v := .ref (g 41)) (j := 15) (q47 hN rfl) (sh_29 g cy _) rfl (by decide) k480 rfl dX10_labelsAll_145 ?_
                    refine lv_iload hx hb dX10_labelsAll_148 (lv_at hl 0 rfl) ?_
                    obtain ⟨hb_150, hinv⟩ := oi_c hinv
                    refine s_iald C hw (k := 41) (a := (X 41)) (q47 hN rfl) (fun r => sh_41 g cy r) rfl hb_150 dX10_labelsAll_150 ?_
                    refine lv_iload hx hb dX10_labelsAll_151 (lv_at hl 1 rfl) ?_
                    refine lv_iand hx hb dX10_labelsAll_153 ?_
                    refine lv_if_eq (tgt := 173) hx hb dX10_labelsAll_154 (by decide) (fun c_154 => ?_) (fun c_154 => ?_)
                    · have hinv := oi_t c_154 hinv
                      refine lv_iinc (v := (x5_124 + 1)) (lv' := [(5, .int (x5_124 + 1)), (4, .int zu6), (3, .int zu4), (1, .int zu3), (2, .int x2_34), (0, .ref (g 29))]) hx hb dX10_labelsAll_173 hl (k := 0) rfl (by rfl) (by decide) rfl (fun ls hl => ?_)
                      refine lv_goto (tgt := 124) hx hb dX10_labelsAll_176 (by decide) ?_
                      exact ih (x5_124 + 1) q42_124 q43_124 hinv _ _ ls hw (lv_sub hl [0, 1, 2, 3, 4, 5] rfl)
                    · have hinv := oi_f c_154 hinv
                      refine lv_aload_n hx hb dX10_labelsAll_157 rfl (lv_at hl 5 rfl) ?_
                      refine w_get C hw (k := 29) (v := .ref (g 42)) (j := 16) (q47 hN rfl) (sh_29 g cy _) rfl (by decide) k481 rfl dX10_labelsAll_158 ?_
                      refine lv_iload hx hb dX10_labelsAll_161 (lv_at hl 0 rfl) ?_
                      refine lv_iconst (v := 0) hx hb dX10_labelsAll_163 (by decide) ?_
                      obtain ⟨hb_164, hinv⟩ := oi_c hinv
                      refine s_iast C hw (k := 42) (a := q42_124) (q47 hN rfl) (fun r => sh_42 g cy r) rfl hb_164 dX10_labelsAll_164 (fun H locs zw164 hw164 hw => ?_)
                      try rw [← hw164] at hinv
                      refine lv_aload_n hx hb dX10_labelsAll_165 rfl (lv_at hl 5 rfl) ?_
                      refine w_get C hw (k := 29) (v := .ref (g 43)) (j := 17) (q47 hN rfl) (sh_29 g cy _) rfl (by decide) k482 rfl dX10_labelsAll_166 ?_
                      refine lv_iload hx hb dX10_labelsAll_169 (lv_at hl 0 rfl) ?_
                      refine lv_iload_n hx hb dX10_labelsAll_171 rfl (lv_at hl 4 rfl) ?_
                      obtain ⟨hb_172, hinv⟩ := oi_c hinv
                      refine s_iast C hw (k := 43) (a := q43_124) (q47 hN rfl) (fun r => sh_43 g cy r) rfl hb_172 dX10_labelsAll_172 (fun H locs zw172 hw172 hw => ?_)
                      try rw [← hw172] at hinv
                      refine lv_iinc (v := (x5_124 + 1)) (lv' := [(5, .int (x5_124 + 1)), (4, .int zu6), (3, .int zu4), (1, .int zu3), (2, .int x2_34), (0, .ref (g 29))]) hx hb dX10_labelsAll_173 hl (k := 0) rfl (by rfl) (by decide) rfl (fun ls hl => ?_)
                      refine lv_goto (tgt := 124) hx hb dX10_labelsAll_176 (by decide) ?_
                      have hXe : (up (up (up (up X 42 q42_124) 43 q43_124) 42 zw164) 43 zw172) = (up (up X 42 zw164) 43 zw172) := by
                        funext j
                        by_cases h42 : j = 42
                        · subst h42; simp [up]
                        by_cases h43 : j = 43
                        · subst h43; simp [up]
                        simp [up, h42, h43]
                      rw [hXe] at hw
                      exact ih (x5_124 + 1) zw164 zw172 hinv _ _ ls hw (lv_sub hl [0, 1, 2, 3, 4, 5] rfl)
            exact hl124 F 0 zu5.2.1 zu5.2.2 hzu7 _ _ ls hw (lv_sub hl [0, 1, 2, 3, 4, 5] rfl)
          have hl58 : ∀ (n : Nat) (x4_58 : Int32) (q42_58 : Nat → Int32) (q43_58 : Nat → Int32), m_X10_labelsAll_L58 F (X 29) (X 41) zu4 x2_34 n x4_58 q42_58 q43_58 = some zu5 → ∀ (H : Heap) (locs : List Loc) (ls : Array Slot), Wd D A s.heap g N (shp g cy (up (up X 42 q42_58) 43 q43_58)) H locs → lv_has ls 6 [(4, .int x4_58), (3, .int zu4), (1, .int zu3), (2, .int x2_34), (0, .ref (g 29))] → W p l e (wR 1 0 0) s m args below meth c H locs 0 0 Q (F0 m 58 ls []) := by
            intro n
            induction n with
            | zero =>
              intro x4_58 q42_58 q43_58 hinv
              cases hinv
            | succ n ih =>
              intro x4_58 q42_58 q43_58 hinv H locs ls hw hl
              rw [m_X10_labelsAll_L58] at hinv
              refine lv_iload hx hb dX10_labelsAll_58 (lv_at hl 0 rfl) ?_
              refine lv_aload_n hx hb dX10_labelsAll_60 rfl (lv_at hl 4 rfl) ?_
              refine w_get C hw (k := 29) (v := .int ((X 29) 8)) (j := 8) (q47 hN rfl) (sh_29 g cy _) rfl (by decide) k517 rfl dX10_labelsAll_61 ?_
              refine lv_icmp_ge (tgt := 114) hx hb dX10_labelsAll_64 (by decide) (fun c_64 => ?_) (fun c_64 => ?_)
              · have hinv := oi_t c_64 hinv
                have hR9 := Option.some.inj hinv
                subst hR9
                exact hx58 _ _ ls hw (lv_sub hl [0, 1, 2, 3, 4] rfl)
              · have hinv := oi_f c_64 hinv
                refine lv_aload_n hx hb dX10_labelsAll_67 rfl (lv_at hl 4 rfl) ?_
                refine w_get C hw (k := 29) (v := .ref (g 42)) (j := 16) (q47 hN rfl) (sh_29 g cy _) rfl (by decide) k481 rfl dX10_labelsAll_68 ?_
                refine lv_iload hx hb dX10_labelsAll_71 (lv_at hl 0 rfl) ?_
                obtain ⟨hb_73, hinv⟩ := oi_c hinv
                refine s_iald C hw (k := 42) (a := q42_58) (q47 hN rfl) (fun r => sh_42 g cy r) rfl hb_73 dX10_labelsAll_73 ?_
                refine lv_iconst (v := 1) hx hb dX10_labelsAll_74 (by decide) ?_
                refine lv_icmp_ne (tgt := 108) hx hb dX10_labelsAll_75 (by decide) (fun c_75 => ?_) (fun c_75 => ?_)
                · have hinv := oi_f c_75 hinv
                  refine lv_iinc (v := (x4_58 + 1)) (lv' := [(4, .int (x4_58 + 1)), (3, .int zu4), (1, .int zu3), (2, .int x2_34), (0, .ref (g 29))]) hx hb dX10_labelsAll_108 hl (k := 0) rfl (by rfl) (by decide) rfl (fun ls hl => ?_)
                  refine lv_goto (tgt := 58) hx hb dX10_labelsAll_111 (by decide) ?_
                  exact ih (x4_58 + 1) q42_58 q43_58 hinv _ _ ls hw (lv_sub hl [0, 1, 2, 3, 4] rfl)
                · have hinv := oi_t c_75 hinv
                  refine lv_aload_n hx hb dX10_labelsAll_78 rfl (lv_at hl 4 rfl) ?_
                  refine w_get C hw (k := 29) (v := .ref (g 41)) (j := 15) (q47 hN rfl) (sh_29 g cy _) rfl (by decide) k480 rfl dX10_labelsAll_79 ?_
                  refine lv_iload hx hb dX10_labelsAll_82 (lv_at hl 0 rfl) ?_
                  obtain ⟨hb_84, hinv⟩ := oi_c hinv
                  refine s_iald C hw (k := 41) (a := (X 41)) (q47 hN rfl) (fun r => sh_41 g cy r) rfl hb_84 dX10_labelsAll_84 ?_
                  refine lv_iload_n hx hb dX10_labelsAll_85 rfl (lv_at hl 1 rfl) ?_
                  refine lv_iconst (v := (-1)) hx hb dX10_labelsAll_86 (by decide) ?_
                  refine lv_ixor hx hb dX10_labelsAll_87 ?_
                  refine lv_iand hx hb dX10_labelsAll_88 ?_
                  refine lv_if_ne (tgt := 108) hx hb dX10_labelsAll_89 (by decide) (fun c_89 => ?_) (fun c_89 => ?_)
                  · have hinv := oi_f c_89 hinv
                    refine lv_iinc (v := (x4_58 + 1)) (lv' := [(4, .int (x4_58 + 1)), (3, .int zu4), (1, .int zu3), (2, .int x2_34), (0, .ref (g 29))]) hx hb dX10_labelsAll_108 hl (k := 0) rfl (by rfl) (by decide) rfl (fun ls hl => ?_)
                    refine lv_goto (tgt := 58) hx hb dX10_labelsAll_111 (by decide) ?_
                    exact ih (x4_58 + 1) q42_58 q43_58 hinv _ _ ls hw (lv_sub hl [0, 1, 2, 3, 4] rfl)
                  · have hinv := oi_t c_89 hinv
                    refine lv_aload_n hx hb dX10_labelsAll_92 rfl (lv_at hl 4 rfl) ?_
                    refine w_get C hw (k := 29) (v := .ref (g 42)) (j := 16) (q47 hN rfl) (sh_29 g cy _) rfl (by decide) k481 rfl dX10_labelsAll_93 ?_
                    refine lv_iload hx hb dX10_labelsAll_96 (lv_at hl 0 rfl) ?_
                    refine lv_iconst (v := 2) hx hb dX10_labelsAll_98 (by decide) ?_
                    obtain ⟨hb_99, hinv⟩ := oi_c hinv
                    refine s_iast C hw (k := 42) (a := q42_58) (q47 hN rfl) (fun r => sh_42 g cy r) rfl hb_99 dX10_labelsAll_99 (fun H locs zw99 hw99 hw => ?_)
                    try rw [← hw99] at hinv
                    refine lv_aload_n hx hb dX10_labelsAll_100 rfl (lv_at hl 4 rfl) ?_
                    refine w_get C hw (k := 29) (v := .ref (g 43)) (j := 17) (q47 hN rfl) (sh_29 g cy _) rfl (by decide) k482 rfl dX10_labelsAll_101 ?_
                    refine lv_iload hx hb dX10_labelsAll_104 (lv_at hl 0 rfl) ?_
                    refine lv_iload_n hx hb dX10_labelsAll_106 rfl (lv_at hl 3 rfl) ?_
                    obtain ⟨hb_107, hinv⟩ := oi_c hinv
                    refine s_iast C hw (k := 43) (a := q43_58) (q47 hN rfl) (fun r => sh_43 g cy r) rfl hb_107 dX10_labelsAll_107 (fun H locs zw107 hw107 hw => ?_)
                    try rw [← hw107] at hinv
                    refine lv_iinc (v := (x4_58 + 1)) (lv' := [(4, .int (x4_58 + 1)), (3, .int zu4), (1, .int zu3), (2, .int x2_34), (0, .ref (g 29))]) hx hb dX10_labelsAll_108 hl (k := 0) rfl (by rfl) (by decide) rfl (fun ls hl => ?_)
                    refine lv_goto (tgt := 58) hx hb dX10_labelsAll_111 (by decide) ?_
                    have hXe : (up (up (up (up X 42 q42_58) 43 q43_58) 42 zw99) 43 zw107) = (up (up X 42 zw99) 43 zw107) := by
                      funext j
                      by_cases h42 : j = 42
                      · subst h42; simp [up]
                      by_cases h43 : j = 43
                      · subst h43; simp [up]
                      simp [up, h42, h43]
                    rw [hXe] at hw
                    exact ih (x4_58 + 1) zw99 zw107 hinv _ _ ls hw (lv_sub hl [0, 1, 2, 3, 4] rfl)
          exact hl58 F 0 q42_34 q43_34 hzu5 _ _ ls hw (lv_sub hl [0, 1, 2, 3, 4] rfl)
    exact hl34 F 1 (-1) zu1.2.1 zu1.2.2 hinv _ _ ls hw (lv_sub hl [0, 1, 2] rfl)
  have hl2 : ∀ (n : Nat) (x1_2 : Int32) (q42_2 : Nat → Int32) (q43_2 : Nat → Int32), m_X10_labelsAll_L2 F (X 29) n x1_2 q42_2 q43_2 = some zu1 → ∀ (H : Heap) (locs : List Loc) (ls : Array Slot), Wd D A s.heap g N (shp g cy (up (up X 42 q42_2) 43 q43_2)) H locs → lv_has ls 6 [(1, .int x1_2), (0, .ref (g 29))] → W p l e (wR 1 0 0) s m args below meth c H locs 0 0 Q (F0 m 2 ls []) := by
    intro n
    induction n with
    | zero =>
      intro x1_2 q42_2 q43_2 hinv
      cases hinv
    | succ n ih =>
      intro x1_2 q42_2 q43_2 hinv H locs ls hw hl
      rw [m_X10_labelsAll_L2] at hinv
      refine lv_iload_n hx hb dX10_labelsAll_2 rfl (lv_at hl 0 rfl) ?_
      refine lv_aload_n hx hb dX10_labelsAll_3 rfl (lv_at hl 1 rfl) ?_
      refine w_get C hw (k := 29) (v := .int ((X 29) 8)) (j := 8) (q47 hN rfl) (sh_29 g cy _) rfl (by decide) k517 rfl dX10_labelsAll_4 ?_
      refine lv_icmp_ge (tgt := 30) hx hb dX10_labelsAll_7 (by decide) (fun c_7 => ?_) (fun c_7 => ?_)
      · have hinv := oi_t c_7 hinv
        have hR9 := Option.some.inj hinv
        subst hR9
        exact hx2 _ _ ls hw (lv_sub hl [0, 1] rfl)
      · have hinv := oi_f c_7 hinv
        refine lv_aload_n hx hb dX10_labelsAll_10 rfl (lv_at hl 1 rfl) ?_
        refine w_get C hw (k := 29) (v := .ref (g 42)) (j := 16) (q47 hN rfl) (sh_29 g cy _) rfl (by decide) k481 rfl dX10_labelsAll_11 ?_
        refine lv_iload_n hx hb dX10_labelsAll_14 rfl (lv_at hl 0 rfl) ?_
        refine lv_iconst (v := 1) hx hb dX10_labelsAll_15 (by decide) ?_
        obtain ⟨hb_16, hinv⟩ := oi_c hinv
        refine s_iast C hw (k := 42) (a := q42_2) (q47 hN rfl) (fun r => sh_42 g cy r) rfl hb_16 dX10_labelsAll_16 (fun H locs zw16 hw16 hw => ?_)
        try rw [← hw16] at hinv
        refine lv_aload_n hx hb dX10_labelsAll_17 rfl (lv_at hl 1 rfl) ?_
        refine w_get C hw (k := 29) (v := .ref (g 43)) (j := 17) (q47 hN rfl) (sh_29 g cy _) rfl (by decide) k482 rfl dX10_labelsAll_18 ?_
        refine lv_iload_n hx hb dX10_labelsAll_21 rfl (lv_at hl 0 rfl) ?_
        refine lv_iconst (v := 0) hx hb dX10_labelsAll_22 (by decide) ?_
        obtain ⟨hb_23, hinv⟩ := oi_c hinv
        refine s_iast C hw (k := 43) (a := q43_2) (q47 hN rfl) (fun r => sh_43 g cy r) rfl hb_23 dX10_labelsAll_23 (fun H locs zw23 hw23 hw => ?_)
        try rw [← hw23] at hinv
        refine lv_iinc (v := (x1_2 + 1)) (lv' := [(1, .int (x1_2 + 1)), (0, .ref (g 29))]) hx hb dX10_labelsAll_24 hl (k := 0) rfl (by rfl) (by decide) rfl (fun ls hl => ?_)
        refine lv_goto (tgt := 2) hx hb dX10_labelsAll_27 (by decide) ?_
        have hXe : (up (up (up (up X 42 q42_2) 43 q43_2) 42 zw16) 43 zw23) = (up (up X 42 zw16) 43 zw23) := by
          funext j
          by_cases h42 : j = 42
          · subst h42; simp [up]
          by_cases h43 : j = 43
          · subst h43; simp [up]
          simp [up, h42, h43]
        rw [hXe] at hw
        exact ih (x1_2 + 1) zw16 zw23 hinv _ _ ls hw (lv_sub hl [0, 1] rfl)
  exact hl2 F 0 (X 42) (X 43) hzu1 _ _ ls hw (lv_sub hl [0, 1] rfl)
def m_X10_label (F : Nat) (r29 : Nat → Int32) (r30 : Nat → Int32) (r31 : Nat → Int32) (r32 : Nat → Int32) (r33 : Nat → Int32) (r34 : Nat → Int32) (r35 : Nat → Int32) (r36 : Nat → Int32) (r37 : Nat → Int32) (r38 : Nat → Int32) (r39 : Nat → Int32) (r40 : Nat → Int32) (r41 : Nat → Int32) (r42 : Nat → Int32) (r43 : Nat → Int32) (za1 : Int32) : Option (Int32 × (Nat → Int32) × (Nat → Int32) × (Nat → Int32) × (Nat → Int32) × (Nat → Int32) × (Nat → Int32) × (Nat → Int32) × (Nat → Int32) × (Nat → Int32)) := Option.bind (m_X10_isArgument F r29 r30 r31 r32 r33 r34 r35 r36 r37 r38 r39 r40 r41 za1) (fun zu1 => if zu1.1 = 0 then (some (0, zu1.2.1, zu1.2.2.1, zu1.2.2.2.1, zu1.2.2.2.2.1, zu1.2.2.2.2.2.1, zu1.2.2.2.2.2.2.1, zu1.2.2.2.2.2.2.2, r42, r43)) else (Option.bind (m_X10_labelsAll F zu1.2.1 zu1.2.2.2.2.2.2.2 r42 r43) (fun zu2 => if ¬ (za1 < 0 ∨ 24 ≤ za1.toNatClampNeg) then (some ((zu2.1 za1.toNatClampNeg), zu1.2.1, zu1.2.2.1, zu1.2.2.2.1, zu1.2.2.2.2.1, zu1.2.2.2.2.2.1, zu1.2.2.2.2.2.2.1, zu1.2.2.2.2.2.2.2, zu2.1, zu2.2)) else none)))
set_option maxHeartbeats 4000000 in
set_option maxRecDepth 100000 in
theorem c_X10_label {l : Launch} {D : va_G} {cy : Nat → Nat} {g : Nat → Nat} {N : Nat} {X : Nat → Nat → Int32} {F : Nat} {za1 : Int32} {R0 : Int32 × (Nat → Int32) × (Nat → Int32) × (Nat → Int32) × (Nat → Int32) × (Nat → Int32) × (Nat → Int32) × (Nat → Int32) × (Nat → Int32) × (Nat → Int32)} (hfl : l.stackTraces = false) (hN : 47 ≤ N) (hinv : m_X10_label F (X 29) (X 30) (X 31) (X 32) (X 33) (X 34) (X 35) (X 36) (X 37) (X 38) (X 39) (X 40) (X 41) (X 42) (X 43) za1 = some R0) : sWi l D cy yX10_label cX10_label 2 (some .int) 6 0 0 [.ref (g 29), .int za1] g N X R0.1 (up (up (up (up (up (up (up (up (up X 29 R0.2.1) 36 R0.2.2.1) 37 R0.2.2.2.1) 38 R0.2.2.2.2.1) 39 R0.2.2.2.2.2.1) 40 R0.2.2.2.2.2.2.1) 41 R0.2.2.2.2.2.2.2.1) 42 R0.2.2.2.2.2.2.2.2.1) 43 R0.2.2.2.2.2.2.2.2.2) := by
  refine jWi (own := RX10) (by decide) rfl hfl (Nat.le_of_ble_eq_true rfl) rfl ?_
  intro p e R s m args below meth c ls A Q hRe C hw hl hret
  subst hRe
  have hx := C.1
  have hb := C.2.1
  have hl : lv_has ls 2 [(0, .ref (g 29)), (1, .int za1)] := hl
  rw [m_X10_label] at hinv
  refine lv_aload_n hx hb dX10_label_0 rfl (lv_at hl 0 rfl) ?_
  refine lv_iload_n hx hb dX10_label_1 rfl (lv_at hl 1 rfl) ?_
  obtain ⟨zu1, hzu1, hinv⟩ := ob hinv
  refine s_vWi (r0 := zu1.1) C hw (As := [.int za1]) bX10_isArgument k563 (k := 29) (q47 hN rfl) (sh_29 g cy _) rfl (c_X10_isArgument (X := X) hfl hN hzu1) rfl rfl dX10_label_2 ⟨rfl, rfl⟩ (by decide) hl.1 (Nat.le_of_ble_eq_true rfl) ⟨Nat.le_of_ble_eq_true rfl, Nat.le_of_ble_eq_true rfl⟩ (fun H locs hw => ?_)
  refine lv_if_ne (tgt := 10) hx hb dX10_label_5 (by decide) (fun c_5 => ?_) (fun c_5 => ?_)
  · have hinv := oi_f c_5 hinv
    refine lv_aload_n hx hb dX10_label_10 rfl (lv_at hl 0 rfl) ?_
    obtain ⟨zu2, hzu2, hinv⟩ := ob hinv
    refine s_vWv C hw (As := []) bX10_labelsAll k576 (k := 29) (q47 hN rfl) (sh_29 g cy _) rfl (c_X10_labelsAll (X := (up (up (up (up (up (up (up X 29 zu1.2.1) 36 zu1.2.2.1) 37 zu1.2.2.2.1) 38 zu1.2.2.2.2.1) 39 zu1.2.2.2.2.2.1) 40 zu1.2.2.2.2.2.2.1) 41 zu1.2.2.2.2.2.2.2)) hfl hN hzu2) rfl rfl dX10_label_11 ⟨rfl, rfl⟩ (by decide) hl.1 (Nat.le_of_ble_eq_true rfl) ⟨Nat.le_of_ble_eq_true rfl, Nat.le_of_ble_eq_true rfl⟩ (fun H locs hw => ?_)
    refine lv_aload_n hx hb dX10_label_14 rfl (lv_at hl 0 rfl) ?_
    refine w_get C hw (k := 29) (v := .ref (g 42)) (j := 16) (q47 hN rfl) (sh_29 g cy _) rfl (by decide) k481 rfl dX10_label_15 ?_
    refine lv_iload_n hx hb dX10_label_18 rfl (lv_at hl 1 rfl) ?_
    obtain ⟨hb_19, hinv⟩ := oi_c hinv
    refine s_iald C hw (k := 42) (a := zu2.1) (q47 hN rfl) (fun r => sh_42 g cy r) rfl hb_19 dX10_label_19 ?_
    have hR0 := (Option.some.inj hinv).symm
    subst hR0
    exact hret 20 ls (zu2.1 za1.toNatClampNeg) _ _ _ _ rfl hw (by decide) (by decide) dX10_label_20
  · have hinv := oi_t c_5 hinv
    refine lv_iconst (v := 0) hx hb dX10_label_8 (by decide) ?_
    have hR0 := (Option.some.inj hinv).symm
    subst hR0
    have hXe : (up (up (up (up (up (up (up X 29 zu1.2.1) 36 zu1.2.2.1) 37 zu1.2.2.2.1) 38 zu1.2.2.2.2.1) 39 zu1.2.2.2.2.2.1) 40 zu1.2.2.2.2.2.2.1) 41 zu1.2.2.2.2.2.2.2) = (up (up (up (up (up (up (up (up (up X 29 zu1.2.1) 36 zu1.2.2.1) 37 zu1.2.2.2.1) 38 zu1.2.2.2.2.1) 39 zu1.2.2.2.2.2.1) 40 zu1.2.2.2.2.2.2.1) 41 zu1.2.2.2.2.2.2.2) 42 (X 42)) 43 (X 43)) := by
      funext j
      by_cases h29 : j = 29
      · subst h29; simp [up]
      by_cases h36 : j = 36
      · subst h36; simp [up]
      by_cases h37 : j = 37
      · subst h37; simp [up]
      by_cases h38 : j = 38
      · subst h38; simp [up]
      by_cases h39 : j = 39
      · subst h39; simp [up]
      by_cases h40 : j = 40
      · subst h40; simp [up]
      by_cases h41 : j = 41
      · subst h41; simp [up]
      by_cases h42 : j = 42
      · subst h42; simp [up]
      by_cases h43 : j = 43
      · subst h43; simp [up]
      simp [up, h29, h36, h37, h38, h39, h40, h41, h42, h43]
    rw [hXe] at hw
    exact hret 9 ls 0 _ _ _ _ rfl hw (by decide) (by decide) dX10_label_9
def m_X10_round (F : Nat) (r29 : Nat → Int32) (r30 : Nat → Int32) (r31 : Nat → Int32) (r32 : Nat → Int32) (r33 : Nat → Int32) (r34 : Nat → Int32) (r35 : Nat → Int32) (r36 : Nat → Int32) (r37 : Nat → Int32) (r38 : Nat → Int32) (r39 : Nat → Int32) (r40 : Nat → Int32) (r41 : Nat → Int32) (r42 : Nat → Int32) (r43 : Nat → Int32) (za1 : Int32) : Option (Int32 × (Nat → Int32) × (Nat → Int32) × (Nat → Int32) × (Nat → Int32) × (Nat → Int32) × (Nat → Int32) × (Nat → Int32) × (Nat → Int32) × (Nat → Int32)) := Option.bind (m_X10_isArgument F r29 r30 r31 r32 r33 r34 r35 r36 r37 r38 r39 r40 r41 za1) (fun zu1 => if zu1.1 = 0 then (some (0, zu1.2.1, zu1.2.2.1, zu1.2.2.2.1, zu1.2.2.2.2.1, zu1.2.2.2.2.2.1, zu1.2.2.2.2.2.2.1, zu1.2.2.2.2.2.2.2, r42, r43)) else (Option.bind (m_X10_labelsAll F zu1.2.1 zu1.2.2.2.2.2.2.2 r42 r43) (fun zu2 => if ¬ (za1 < 0 ∨ 24 ≤ za1.toNatClampNeg) then (some ((zu2.2 za1.toNatClampNeg), zu1.2.1, zu1.2.2.1, zu1.2.2.2.1, zu1.2.2.2.2.1, zu1.2.2.2.2.2.1, zu1.2.2.2.2.2.2.1, zu1.2.2.2.2.2.2.2, zu2.1, zu2.2)) else none)))
set_option maxHeartbeats 4000000 in
set_option maxRecDepth 100000 in
theorem c_X10_round {l : Launch} {D : va_G} {cy : Nat → Nat} {g : Nat → Nat} {N : Nat} {X : Nat → Nat → Int32} {F : Nat} {za1 : Int32} {R0 : Int32 × (Nat → Int32) × (Nat → Int32) × (Nat → Int32) × (Nat → Int32) × (Nat → Int32) × (Nat → Int32) × (Nat → Int32) × (Nat → Int32) × (Nat → Int32)} (hfl : l.stackTraces = false) (hN : 47 ≤ N) (hinv : m_X10_round F (X 29) (X 30) (X 31) (X 32) (X 33) (X 34) (X 35) (X 36) (X 37) (X 38) (X 39) (X 40) (X 41) (X 42) (X 43) za1 = some R0) : sWi l D cy yX10_round cX10_round 2 (some .int) 6 0 0 [.ref (g 29), .int za1] g N X R0.1 (up (up (up (up (up (up (up (up (up X 29 R0.2.1) 36 R0.2.2.1) 37 R0.2.2.2.1) 38 R0.2.2.2.2.1) 39 R0.2.2.2.2.2.1) 40 R0.2.2.2.2.2.2.1) 41 R0.2.2.2.2.2.2.2.1) 42 R0.2.2.2.2.2.2.2.2.1) 43 R0.2.2.2.2.2.2.2.2.2) := by
  refine jWi (own := RX10) (by decide) rfl hfl (Nat.le_of_ble_eq_true rfl) rfl ?_
  intro p e R s m args below meth c ls A Q hRe C hw hl hret
  subst hRe
  have hx := C.1
  have hb := C.2.1
  have hl : lv_has ls 2 [(0, .ref (g 29)), (1, .int za1)] := hl
  rw [m_X10_round] at hinv
  refine lv_aload_n hx hb dX10_round_0 rfl (lv_at hl 0 rfl) ?_
  refine lv_iload_n hx hb dX10_round_1 rfl (lv_at hl 1 rfl) ?_
  obtain ⟨zu1, hzu1, hinv⟩ := ob hinv
  refine s_vWi (r0 := zu1.1) C hw (As := [.int za1]) bX10_isArgument k563 (k := 29) (q47 hN rfl) (sh_29 g cy _) rfl (c_X10_isArgument (X := X) hfl hN hzu1) rfl rfl dX10_round_2 ⟨rfl, rfl⟩ (by decide) hl.1 (Nat.le_of_ble_eq_true rfl) ⟨Nat.le_of_ble_eq_true rfl, Nat.le_of_ble_eq_true rfl⟩ (fun H locs hw => ?_)
  refine lv_if_ne (tgt := 10) hx hb dX10_round_5 (by decide) (fun c_5 => ?_) (fun c_5 => ?_)
  · have hinv := oi_f c_5 hinv
    refine lv_aload_n hx hb dX10_round_10 rfl (lv_at hl 0 rfl) ?_
    obtain ⟨zu2, hzu2, hinv⟩ := ob hinv
    refine s_vWv C hw (As := []) bX10_labelsAll k576 (k := 29) (q47 hN rfl) (sh_29 g cy _) rfl (c_X10_labelsAll (X := (up (up (up (up (up (up (up X 29 zu1.2.1) 36 zu1.2.2.1) 37 zu1.2.2.2.1) 38 zu1.2.2.2.2.1) 39 zu1.2.2.2.2.2.1) 40 zu1.2.2.2.2.2.2.1) 41 zu1.2.2.2.2.2.2.2)) hfl hN hzu2) rfl rfl dX10_round_11 ⟨rfl, rfl⟩ (by decide) hl.1 (Nat.le_of_ble_eq_true rfl) ⟨Nat.le_of_ble_eq_true rfl, Nat.le_of_ble_eq_true rfl⟩ (fun H locs hw => ?_)
    refine lv_aload_n hx hb dX10_round_14 rfl (lv_at hl 0 rfl) ?_
    refine w_get C hw (k := 29) (v := .ref (g 43)) (j := 17) (q47 hN rfl) (sh_29 g cy _) rfl (by decide) k482 rfl dX10_round_15 ?_
    refine lv_iload_n hx hb dX10_round_18 rfl (lv_at hl 1 rfl) ?_
    obtain ⟨hb_19, hinv⟩ := oi_c hinv
    refine s_iald C hw (k := 43) (a := zu2.2) (q47 hN rfl) (fun r => sh_43 g cy r) rfl hb_19 dX10_round_19 ?_
    have hR0 := (Option.some.inj hinv).symm
    subst hR0
    exact hret 20 ls (zu2.2 za1.toNatClampNeg) _ _ _ _ rfl hw (by decide) (by decide) dX10_round_20
  · have hinv := oi_t c_5 hinv
    refine lv_iconst (v := 0) hx hb dX10_round_8 (by decide) ?_
    have hR0 := (Option.some.inj hinv).symm
    subst hR0
    have hXe : (up (up (up (up (up (up (up X 29 zu1.2.1) 36 zu1.2.2.1) 37 zu1.2.2.2.1) 38 zu1.2.2.2.2.1) 39 zu1.2.2.2.2.2.1) 40 zu1.2.2.2.2.2.2.1) 41 zu1.2.2.2.2.2.2.2) = (up (up (up (up (up (up (up (up (up X 29 zu1.2.1) 36 zu1.2.2.1) 37 zu1.2.2.2.1) 38 zu1.2.2.2.2.1) 39 zu1.2.2.2.2.2.1) 40 zu1.2.2.2.2.2.2.1) 41 zu1.2.2.2.2.2.2.2) 42 (X 42)) 43 (X 43)) := by
      funext j
      by_cases h29 : j = 29
      · subst h29; simp [up]
      by_cases h36 : j = 36
      · subst h36; simp [up]
      by_cases h37 : j = 37
      · subst h37; simp [up]
      by_cases h38 : j = 38
      · subst h38; simp [up]
      by_cases h39 : j = 39
      · subst h39; simp [up]
      by_cases h40 : j = 40
      · subst h40; simp [up]
      by_cases h41 : j = 41
      · subst h41; simp [up]
      by_cases h42 : j = 42
      · subst h42; simp [up]
      by_cases h43 : j = 43
      · subst h43; simp [up]
      simp [up, h29, h36, h37, h38, h39, h40, h41, h42, h43]
    rw [hXe] at hw
    exact hret 9 ls 0 _ _ _ _ rfl hw (by decide) (by decide) dX10_round_9
def m_X10_isAsked (F : Nat) (r29 : Nat → Int32) (r30 : Nat → Int32) (r31 : Nat → Int32) (r32 : Nat → Int32) (r33 : Nat → Int32) (r34 : Nat → Int32) (r35 : Nat → Int32) (r36 : Nat → Int32) (r37 : Nat → Int32) (r38 : Nat → Int32) (r39 : Nat → Int32) (r40 : Nat → Int32) (r41 : Nat → Int32) (r42 : Nat → Int32) (r43 : Nat → Int32) (za1 : Int32) : Option (Int32 × (Nat → Int32) × (Nat → Int32) × (Nat → Int32) × (Nat → Int32) × (Nat → Int32) × (Nat → Int32) × (Nat → Int32) × (Nat → Int32) × (Nat → Int32)) := Option.bind (Option.bind (m_X10_isLiteral F za1) (fun zu5 => if zu5 = 0 then (some (1 : Int32)) else (some (0 : Int32)))) (fun zu1 => Option.bind (m_X10_passes F r29 zu1) (fun zu2 => if zu2.1 = 0 then (some (0, zu2.2, r36, r37, r38, r39, r40, r41, r42, r43)) else (Option.bind (m_X10_isTold F zu2.2 r30 r31 r32 r33 r34 r35 r36 r37 r38 r39 r40 r41 2) (fun zu3 => if zu3.1 = 0 then (some (0, zu3.2.1, zu3.2.2.1, zu3.2.2.2.1, zu3.2.2.2.2.1, zu3.2.2.2.2.2.1, zu3.2.2.2.2.2.2.1, zu3.2.2.2.2.2.2.2, r42, r43)) else (Option.bind (m_X10_labelsAll F zu3.2.1 zu3.2.2.2.2.2.2.2 r42 r43) (fun zu4 => some (1, zu3.2.1, zu3.2.2.1, zu3.2.2.2.1, zu3.2.2.2.2.1, zu3.2.2.2.2.2.1, zu3.2.2.2.2.2.2.1, zu3.2.2.2.2.2.2.2, zu4.1, zu4.2)))))))
set_option maxHeartbeats 4000000 in
set_option maxRecDepth 100000 in
theorem c_X10_isAsked {l : Launch} {D : va_G} {cy : Nat → Nat} {g : Nat → Nat} {N : Nat} {X : Nat → Nat → Int32} {F : Nat} {za1 : Int32} {R0 : Int32 × (Nat → Int32) × (Nat → Int32) × (Nat → Int32) × (Nat → Int32) × (Nat → Int32) × (Nat → Int32) × (Nat → Int32) × (Nat → Int32) × (Nat → Int32)} (hfl : l.stackTraces = false) (hN : 47 ≤ N) (hinv : m_X10_isAsked F (X 29) (X 30) (X 31) (X 32) (X 33) (X 34) (X 35) (X 36) (X 37) (X 38) (X 39) (X 40) (X 41) (X 42) (X 43) za1 = some R0) : sWi l D cy yX10_isAsked cX10_isAsked 2 (some .boolean) 5 0 0 [.ref (g 29), .int za1] g N X R0.1 (up (up (up (up (up (up (up (up (up X 29 R0.2.1) 36 R0.2.2.1) 37 R0.2.2.2.1) 38 R0.2.2.2.2.1) 39 R0.2.2.2.2.2.1) 40 R0.2.2.2.2.2.2.1) 41 R0.2.2.2.2.2.2.2.1) 42 R0.2.2.2.2.2.2.2.2.1) 43 R0.2.2.2.2.2.2.2.2.2) := by
  refine jWz (own := RX10) (by decide) rfl hfl (Nat.le_of_ble_eq_true rfl) rfl ?_
  intro p e R s m args below meth c ls A Q hRe C hw hl hret
  subst hRe
  have hx := C.1
  have hb := C.2.1
  have hl : lv_has ls 2 [(0, .ref (g 29)), (1, .int za1)] := hl
  rw [m_X10_isAsked] at hinv
  refine lv_aload_n hx hb dX10_isAsked_0 rfl (lv_at hl 0 rfl) ?_
  obtain ⟨zu1, hzu1, hinv⟩ := ob hinv
  have hx1 : ∀ (H : Heap) (locs : List Loc) (ls : Array Slot), Wd D A s.heap g N (shp g cy X) H locs → lv_has ls 2 [(0, .ref (g 29)), (1, .int za1)] → W p l e (wR 5 0 0) s m args below meth c H locs 0 0 Q (F0 m 13 ls [.int zu1, .ref (g 29)]) := by
    intro H locs ls hw hl
    obtain ⟨zu2, hzu2, hinv⟩ := ob hinv
    refine s_vWi (r0 := zu2.1) C hw (As := [.int zu1]) bX10_passes k495 (k := 29) (q47 hN rfl) (sh_29 g cy _) rfl (c_X10_passes (X := X) hfl hN hzu2) rfl rfl dX10_isAsked_13 ⟨rfl, rfl⟩ (by decide) hl.1 (Nat.le_of_ble_eq_true rfl) ⟨Nat.le_of_ble_eq_true rfl, Nat.le_of_ble_eq_true rfl⟩ (fun H locs hw => ?_)
    refine lv_if_eq (tgt := 27) hx hb dX10_isAsked_16 (by decide) (fun c_16 => ?_) (fun c_16 => ?_)
    · have hinv := oi_t c_16 hinv
      refine lv_iconst (v := 0) hx hb dX10_isAsked_27 (by decide) ?_
      have hR0 := (Option.some.inj hinv).symm
      subst hR0
      have hXe : (up X 29 zu2.2) = (up (up (up (up (up (up (up (up (up X 29 zu2.2) 36 (X 36)) 37 (X 37)) 38 (X 38)) 39 (X 39)) 40 (X 40)) 41 (X 41)) 42 (X 42)) 43 (X 43)) := by
        funext j
        by_cases h29 : j = 29
        · subst h29; simp [up]
        by_cases h36 : j = 36
        · subst h36; simp [up]
        by_cases h37 : j = 37
        · subst h37; simp [up]
        by_cases h38 : j = 38
        · subst h38; simp [up]
        by_cases h39 : j = 39
        · subst h39; simp [up]
        by_cases h40 : j = 40
        · subst h40; simp [up]
        by_cases h41 : j = 41
        · subst h41; simp [up]
        by_cases h42 : j = 42
        · subst h42; simp [up]
        by_cases h43 : j = 43
        · subst h43; simp [up]
        simp [up, h29, h36, h37, h38, h39, h40, h41, h42, h43]
      rw [hXe] at hw
      exact hret 28 ls 0 _ _ _ _ rfl (by decide) hw (by decide) (by decide) dX10_isAsked_28
    · have hinv := oi_f c_16 hinv
      refine lv_aload_n hx hb dX10_isAsked_19 rfl (lv_at hl 0 rfl) ?_
      refine lv_iconst (v := 2) hx hb dX10_isAsked_20 (by decide) ?_
      obtain ⟨zu3, hzu3, hinv⟩ := ob hinv
      refine s_vWi (r0 := zu3.1) C hw (As := [.int 2]) bX10_isTold k558 (k := 29) (q47 hN rfl) (sh_29 g cy _) rfl (c_X10_isTold (X := (up X 29 zu2.2)) hfl hN hzu3) rfl rfl dX10_isAsked_21 ⟨rfl, rfl⟩ (by decide) hl.1 (Nat.le_of_ble_eq_true rfl) ⟨Nat.le_of_ble_eq_true rfl, Nat.le_of_ble_eq_true rfl⟩ (fun H locs hw => ?_)
      refine lv_if_ne (tgt := 29) hx hb dX10_isAsked_24 (by decide) (fun c_24 => ?_) (fun c_24 => ?_)
      · have hinv := oi_f c_24 hinv
        refine lv_aload_n hx hb dX10_isAsked_29 rfl (lv_at hl 0 rfl) ?_
        obtain ⟨zu4, hzu4, hinv⟩ := ob hinv
        refine s_vWv C hw (As := []) bX10_labelsAll k576 (k := 29) (q47 hN rfl) (sh_29 g cy _) rfl (c_X10_labelsAll (X := (up (up (up (up (up (up (up (up X 29 zu2.2) 29 zu3.2.1) 36 zu3.2.2.1) 37 zu3.2.2.2.1) 38 zu3.2.2.2.2.1) 39 zu3.2.2.2.2.2.1) 40 zu3.2.2.2.2.2.2.1) 41 zu3.2.2.2.2.2.2.2)) hfl hN hzu4) rfl rfl dX10_isAsked_30 ⟨rfl, rfl⟩ (by decide) hl.1 (Nat.le_of_ble_eq_true rfl) ⟨Nat.le_of_ble_eq_true rfl, Nat.le_of_ble_eq_true rfl⟩ (fun H locs hw => ?_)
        refine lv_iconst (v := 1) hx hb dX10_isAsked_33 (by decide) ?_
        have hR0 := (Option.some.inj hinv).symm
        subst hR0
        have hXe : (up (up (up (up (up (up (up (up (up (up X 29 zu2.2) 29 zu3.2.1) 36 zu3.2.2.1) 37 zu3.2.2.2.1) 38 zu3.2.2.2.2.1) 39 zu3.2.2.2.2.2.1) 40 zu3.2.2.2.2.2.2.1) 41 zu3.2.2.2.2.2.2.2) 42 zu4.1) 43 zu4.2) = (up (up (up (up (up (up (up (up (up X 29 zu3.2.1) 36 zu3.2.2.1) 37 zu3.2.2.2.1) 38 zu3.2.2.2.2.1) 39 zu3.2.2.2.2.2.1) 40 zu3.2.2.2.2.2.2.1) 41 zu3.2.2.2.2.2.2.2) 42 zu4.1) 43 zu4.2) := by
          funext j
          by_cases h29 : j = 29
          · subst h29; simp [up]
          by_cases h36 : j = 36
          · subst h36; simp [up]
          by_cases h37 : j = 37
          · subst h37; simp [up]
          by_cases h38 : j = 38
          · subst h38; simp [up]
          by_cases h39 : j = 39
          · subst h39; simp [up]
          by_cases h40 : j = 40
          · subst h40; simp [up]
          by_cases h41 : j = 41
          · subst h41; simp [up]
          by_cases h42 : j = 42
          · subst h42; simp [up]
          by_cases h43 : j = 43
          · subst h43; simp [up]
          simp [up, h29, h36, h37, h38, h39, h40, h41, h42, h43]
        rw [hXe] at hw
        exact hret 34 ls 1 _ _ _ _ rfl (by decide) hw (by decide) (by decide) dX10_isAsked_34
      · have hinv := oi_t c_24 hinv
        refine lv_iconst (v := 0) hx hb dX10_isAsked_27 (by decide) ?_
        have hR0 := (Option.some.inj hinv).symm
        subst hR0
        have hXe : (up (up (up (up (up (up (up (up X 29 zu2.2) 29 zu3.2.1) 36 zu3.2.2.1) 37 zu3.2.2.2.1) 38 zu3.2.2.2.2.1) 39 zu3.2.2.2.2.2.1) 40 zu3.2.2.2.2.2.2.1) 41 zu3.2.2.2.2.2.2.2) = (up (up (up (up (up (up (up (up (up X 29 zu3.2.1) 36 zu3.2.2.1) 37 zu3.2.2.2.1) 38 zu3.2.2.2.2.1) 39 zu3.2.2.2.2.2.1) 40 zu3.2.2.2.2.2.2.1) 41 zu3.2.2.2.2.2.2.2) 42 (X 42)) 43 (X 43)) := by
          funext j
          by_cases h29 : j = 29
          · subst h29; simp [up]
          by_cases h36 : j = 36
          · subst h36; simp [up]
          by_cases h37 : j = 37
          · subst h37; simp [up]
          by_cases h38 : j = 38
          · subst h38; simp [up]
          by_cases h39 : j = 39
          · subst h39; simp [up]
          by_cases h40 : j = 40
          · subst h40; simp [up]
          by_cases h41 : j = 41
          · subst h41; simp [up]
          by_cases h42 : j = 42
          · subst h42; simp [up]
          by_cases h43 : j = 43
          · subst h43; simp [up]
          simp [up, h29, h36, h37, h38, h39, h40, h41, h42, h43]
        rw [hXe] at hw
        exact hret 28 ls 0 _ _ _ _ rfl (by decide) hw (by decide) (by decide) dX10_isAsked_28
  have hinv := hzu1
  refine lv_iload_n hx hb dX10_isAsked_1 rfl (lv_at hl 1 rfl) ?_
  obtain ⟨zu5, hzu5, hinv⟩ := ob hinv
  refine s_sRi (r0 := zu5) C hw (As := [.int za1]) bX10_isLiteral k492 (c_X10_isLiteral (X := X) hfl hN hzu5) rfl rfl dX10_isAsked_2 ⟨rfl, rfl⟩ (by decide) hl.1 (Nat.le_of_ble_eq_true rfl) ⟨Nat.le_of_ble_eq_true rfl, Nat.le_of_ble_eq_true rfl⟩ ?_
  refine lv_if_eq (tgt := 12) hx hb dX10_isAsked_5 (by decide) (fun c_5 => ?_) (fun c_5 => ?_)
  · have hinv := oi_t c_5 hinv
    refine lv_iconst (v := 1) hx hb dX10_isAsked_12 (by decide) ?_
    have hR9 := Option.some.inj hinv
    subst hR9
    exact hx1 _ _ ls hw (lv_sub hl [0, 1] rfl)
  · have hinv := oi_f c_5 hinv
    refine lv_iconst (v := 0) hx hb dX10_isAsked_8 (by decide) ?_
    refine lv_goto (tgt := 13) hx hb dX10_isAsked_9 (by decide) ?_
    have hR9 := Option.some.inj hinv
    subst hR9
    exact hx1 _ _ ls hw (lv_sub hl [0, 1] rfl)
def m_X10_holds_L12 (F : Nat) (y1_12 : Int32) : Nat → Int32 → Int32 → (Nat → Int32) → (Nat → Int32) → (Nat → Int32) → (Nat → Int32) → (Nat → Int32) → (Nat → Int32) → (Nat → Int32) → (Nat → Int32) → (Nat → Int32) → Option (Int32 × (Nat → Int32) × (Nat → Int32) × (Nat → Int32) × (Nat → Int32) × (Nat → Int32) × (Nat → Int32) × (Nat → Int32) × (Nat → Int32) × (Nat → Int32))
  | 0, _, _, _, _, _, _, _, _, _, _, _ => none
  | n + 1, x3_12, x2_12, q29_12, q36_12, q37_12, q38_12, q39_12, q40_12, q41_12, q42_12, q43_12 => if (q29_12 8) ≤ x3_12 then (some (x2_12, q29_12, q36_12, q37_12, q38_12, q39_12, q40_12, q41_12, q42_12, q43_12)) else (if ¬ (x3_12 < 0 ∨ 24 ≤ x3_12.toNatClampNeg) then (if (q36_12 x3_12.toNatClampNeg) = y1_12 then (if ¬ (x3_12 < 0 ∨ 24 ≤ x3_12.toNatClampNeg) then (if (q42_12 x3_12.toNatClampNeg) ≤ x2_12 then (m_X10_holds_L12 F y1_12 n (x3_12 + 1) x2_12 q29_12 q36_12 q37_12 q38_12 q39_12 q40_12 q41_12 q42_12 q43_12) else (if ¬ (x3_12 < 0 ∨ 24 ≤ x3_12.toNatClampNeg) then (m_X10_holds_L12 F y1_12 n (x3_12 + 1) (q42_12 x3_12.toNatClampNeg) q29_12 q36_12 q37_12 q38_12 q39_12 q40_12 q41_12 q42_12 q43_12) else none)) else none) else (m_X10_holds_L12 F y1_12 n (x3_12 + 1) x2_12 q29_12 q36_12 q37_12 q38_12 q39_12 q40_12 q41_12 q42_12 q43_12)) else none)
def m_X10_holds (F : Nat) (r29 : Nat → Int32) (r30 : Nat → Int32) (r31 : Nat → Int32) (r32 : Nat → Int32) (r33 : Nat → Int32) (r34 : Nat → Int32) (r35 : Nat → Int32) (r36 : Nat → Int32) (r37 : Nat → Int32) (r38 : Nat → Int32) (r39 : Nat → Int32) (r40 : Nat → Int32) (r41 : Nat → Int32) (r42 : Nat → Int32) (r43 : Nat → Int32) (za1 : Int32) : Option (Int32 × (Nat → Int32) × (Nat → Int32) × (Nat → Int32) × (Nat → Int32) × (Nat → Int32) × (Nat → Int32) × (Nat → Int32) × (Nat → Int32) × (Nat → Int32)) := Option.bind (m_X10_isAsked F r29 r30 r31 r32 r33 r34 r35 r36 r37 r38 r39 r40 r41 r42 r43 za1) (fun zu1 => if zu1.1 = 0 then (some (0, zu1.2.1, zu1.2.2.1, zu1.2.2.2.1, zu1.2.2.2.2.1, zu1.2.2.2.2.2.1, zu1.2.2.2.2.2.2.1, zu1.2.2.2.2.2.2.2.1, zu1.2.2.2.2.2.2.2.2.1, zu1.2.2.2.2.2.2.2.2.2)) else (m_X10_holds_L12 F za1 F 0 0 zu1.2.1 zu1.2.2.1 zu1.2.2.2.1 zu1.2.2.2.2.1 zu1.2.2.2.2.2.1 zu1.2.2.2.2.2.2.1 zu1.2.2.2.2.2.2.2.1 zu1.2.2.2.2.2.2.2.2.1 zu1.2.2.2.2.2.2.2.2.2))
set_option maxHeartbeats 4000000 in
set_option maxRecDepth 100000 in
theorem c_X10_holds {l : Launch} {D : va_G} {cy : Nat → Nat} {g : Nat → Nat} {N : Nat} {X : Nat → Nat → Int32} {F : Nat} {za1 : Int32} {R0 : Int32 × (Nat → Int32) × (Nat → Int32) × (Nat → Int32) × (Nat → Int32) × (Nat → Int32) × (Nat → Int32) × (Nat → Int32) × (Nat → Int32) × (Nat → Int32)} (hfl : l.stackTraces = false) (hN : 47 ≤ N) (hinv : m_X10_holds F (X 29) (X 30) (X 31) (X 32) (X 33) (X 34) (X 35) (X 36) (X 37) (X 38) (X 39) (X 40) (X 41) (X 42) (X 43) za1 = some R0) : sWi l D cy yX10_holds cX10_holds 4 (some .int) 6 0 0 [.ref (g 29), .int za1] g N X R0.1 (up (up (up (up (up (up (up (up (up X 29 R0.2.1) 36 R0.2.2.1) 37 R0.2.2.2.1) 38 R0.2.2.2.2.1) 39 R0.2.2.2.2.2.1) 40 R0.2.2.2.2.2.2.1) 41 R0.2.2.2.2.2.2.2.1) 42 R0.2.2.2.2.2.2.2.2.1) 43 R0.2.2.2.2.2.2.2.2.2) := by
  refine jWi (own := RX10) (by decide) rfl hfl (Nat.le_of_ble_eq_true rfl) rfl ?_
  intro p e R s m args below meth c ls A Q hRe C hw hl hret
  subst hRe
  have hx := C.1
  have hb := C.2.1
  have hl : lv_has ls 4 [(0, .ref (g 29)), (1, .int za1)] := hl
  rw [m_X10_holds] at hinv
  refine lv_iconst (v := 0) hx hb dX10_holds_0 (by decide) ?_
  refine lv_istore_n (lv' := [(2, .int 0), (0, .ref (g 29)), (1, .int za1)]) hx hb dX10_holds_1 rfl hl (by decide) rfl (fun ls hl => ?_)
  refine lv_aload_n hx hb dX10_holds_2 rfl (lv_at hl 1 rfl) ?_
  refine lv_iload_n hx hb dX10_holds_3 rfl (lv_at hl 2 rfl) ?_
  obtain ⟨zu1, hzu1, hinv⟩ := ob hinv
  refine s_vWi (r0 := zu1.1) C hw (As := [.int za1]) bX10_isAsked k582 (k := 29) (q47 hN rfl) (sh_29 g cy _) rfl (c_X10_isAsked (X := X) hfl hN hzu1) rfl rfl dX10_holds_4 ⟨rfl, rfl⟩ (by decide) hl.1 (Nat.le_of_ble_eq_true rfl) ⟨Nat.le_of_ble_eq_true rfl, Nat.le_of_ble_eq_true rfl⟩ (fun H locs hw => ?_)
  refine lv_if_eq (tgt := 57) hx hb dX10_holds_7 (by decide) (fun c_7 => ?_) (fun c_7 => ?_)
  · have hinv := oi_t c_7 hinv
    refine lv_iload_n hx hb dX10_holds_57 rfl (lv_at hl 0 rfl) ?_
    have hR0 := (Option.some.inj hinv).symm
    subst hR0
    exact hret 58 ls 0 _ _ _ _ rfl hw (by decide) (by decide) dX10_holds_58
  · have hinv := oi_f c_7 hinv
    refine lv_iconst (v := 0) hx hb dX10_holds_10 (by decide) ?_
    refine lv_istore_n (lv' := [(3, .int 0), (2, .int 0), (0, .ref (g 29)), (1, .int za1)]) hx hb dX10_holds_11 rfl hl (by decide) rfl (fun ls hl => ?_)
    have hl12 : ∀ (n : Nat) (x3_12 : Int32) (x2_12 : Int32) (q29_12 : Nat → Int32) (q36_12 : Nat → Int32) (q37_12 : Nat → Int32) (q38_12 : Nat → Int32) (q39_12 : Nat → Int32) (q40_12 : Nat → Int32) (q41_12 : Nat → Int32) (q42_12 : Nat → Int32) (q43_12 : Nat → Int32), m_X10_holds_L12 F za1 n x3_12 x2_12 q29_12 q36_12 q37_12 q38_12 q39_12 q40_12 q41_12 q42_12 q43_12 = some R0 → ∀ (H : Heap) (locs : List Loc) (ls : Array Slot), Wd D A s.heap g N (shp g cy (up (up (up (up (up (up (up (up (up X 29 q29_12) 36 q36_12) 37 q37_12) 38 q38_12) 39 q39_12) 40 q40_12) 41 q41_12) 42 q42_12) 43 q43_12)) H locs → lv_has ls 4 [(3, .int x3_12), (2, .int x2_12), (0, .ref (g 29)), (1, .int za1)] → W p l e (wR 6 0 0) s m args below meth c H locs 0 0 Q (F0 m 12 ls []) := by
      intro n
      induction n with
      | zero =>
        intro x3_12 x2_12 q29_12 q36_12 q37_12 q38_12 q39_12 q40_12 q41_12 q42_12 q43_12 hinv
        cases hinv
      | succ n ih =>
        intro x3_12 x2_12 q29_12 q36_12 q37_12 q38_12 q39_12 q40_12 q41_12 q42_12 q43_12 hinv H locs ls hw hl
        rw [m_X10_holds_L12] at hinv
        refine lv_iload_n hx hb dX10_holds_12 rfl (lv_at hl 0 rfl) ?_
        refine lv_aload_n hx hb dX10_holds_13 rfl (lv_at hl 2 rfl) ?_
        refine w_get C hw (k := 29) (v := .int (q29_12 8)) (j := 8) (q47 hN rfl) (sh_29 g cy _) rfl (by decide) k517 rfl dX10_holds_14 ?_
        refine lv_icmp_ge (tgt := 57) hx hb dX10_holds_17 (by decide) (fun c_17 => ?_) (fun c_17 => ?_)
        · have hinv := oi_t c_17 hinv
          refine lv_iload_n hx hb dX10_holds_57 rfl (lv_at hl 1 rfl) ?_
          have hR0 := (Option.some.inj hinv).symm
          subst hR0
          exact hret 58 ls x2_12 _ _ _ _ rfl hw (by decide) (by decide) dX10_holds_58
        · have hinv := oi_f c_17 hinv
          refine lv_aload_n hx hb dX10_holds_20 rfl (lv_at hl 2 rfl) ?_
          refine w_get C hw (k := 29) (v := .ref (g 36)) (j := 10) (q47 hN rfl) (sh_29 g cy _) rfl (by decide) k475 rfl dX10_holds_21 ?_
          refine lv_iload_n hx hb dX10_holds_24 rfl (lv_at hl 0 rfl) ?_
          obtain ⟨hb_25, hinv⟩ := oi_c hinv
          refine s_iald C hw (k := 36) (a := q36_12) (q47 hN rfl) (fun r => sh_36 g cy r) rfl hb_25 dX10_holds_25 ?_
          refine lv_iload_n hx hb dX10_holds_26 rfl (lv_at hl 3 rfl) ?_
          refine lv_icmp_ne (tgt := 49) hx hb dX10_holds_27 (by decide) (fun c_27 => ?_) (fun c_27 => ?_)
          · have hinv := oi_f c_27 hinv
            refine lv_iload_n hx hb dX10_holds_49 rfl (lv_at hl 1 rfl) ?_
            refine lv_istore_n (lv' := [(2, .int x2_12), (3, .int x3_12), (0, .ref (g 29)), (1, .int za1)]) hx hb dX10_holds_50 rfl hl (by decide) rfl (fun ls hl => ?_)
            refine lv_iinc (v := (x3_12 + 1)) (lv' := [(3, .int (x3_12 + 1)), (2, .int x2_12), (0, .ref (g 29)), (1, .int za1)]) hx hb dX10_holds_51 hl (k := 1) rfl (by rfl) (by decide) rfl (fun ls hl => ?_)
            refine lv_goto (tgt := 12) hx hb dX10_holds_54 (by decide) ?_
            exact ih (x3_12 + 1) x2_12 q29_12 q36_12 q37_12 q38_12 q39_12 q40_12 q41_12 q42_12 q43_12 hinv _ _ ls hw (lv_sub hl [0, 1, 2, 3] rfl)
          · have hinv := oi_t c_27 hinv
            refine lv_aload_n hx hb dX10_holds_30 rfl (lv_at hl 2 rfl) ?_
            refine w_get C hw (k := 29) (v := .ref (g 42)) (j := 16) (q47 hN rfl) (sh_29 g cy _) rfl (by decide) k481 rfl dX10_holds_31 ?_
            refine lv_iload_n hx hb dX10_holds_34 rfl (lv_at hl 0 rfl) ?_
            obtain ⟨hb_35, hinv⟩ := oi_c hinv
            refine s_iald C hw (k := 42) (a := q42_12) (q47 hN rfl) (fun r => sh_42 g cy r) rfl hb_35 dX10_holds_35 ?_
            refine lv_iload_n hx hb dX10_holds_36 rfl (lv_at hl 1 rfl) ?_
            refine lv_icmp_le (tgt := 49) hx hb dX10_holds_37 (by decide) (fun c_37 => ?_) (fun c_37 => ?_)
            · have hinv := oi_t c_37 hinv
              refine lv_iload_n hx hb dX10_holds_49 rfl (lv_at hl 1 rfl) ?_
              refine lv_istore_n (lv' := [(2, .int x2_12), (3, .int x3_12), (0, .ref (g 29)), (1, .int za1)]) hx hb dX10_holds_50 rfl hl (by decide) rfl (fun ls hl => ?_)
              refine lv_iinc (v := (x3_12 + 1)) (lv' := [(3, .int (x3_12 + 1)), (2, .int x2_12), (0, .ref (g 29)), (1, .int za1)]) hx hb dX10_holds_51 hl (k := 1) rfl (by rfl) (by decide) rfl (fun ls hl => ?_)
              refine lv_goto (tgt := 12) hx hb dX10_holds_54 (by decide) ?_
              exact ih (x3_12 + 1) x2_12 q29_12 q36_12 q37_12 q38_12 q39_12 q40_12 q41_12 q42_12 q43_12 hinv _ _ ls hw (lv_sub hl [0, 1, 2, 3] rfl)
            · have hinv := oi_f c_37 hinv
              refine lv_aload_n hx hb dX10_holds_40 rfl (lv_at hl 2 rfl) ?_
              refine w_get C hw (k := 29) (v := .ref (g 42)) (j := 16) (q47 hN rfl) (sh_29 g cy _) rfl (by decide) k481 rfl dX10_holds_41 ?_
              refine lv_iload_n hx hb dX10_holds_44 rfl (lv_at hl 0 rfl) ?_
              obtain ⟨hb_45, hinv⟩ := oi_c hinv
              refine s_iald C hw (k := 42) (a := q42_12) (q47 hN rfl) (fun r => sh_42 g cy r) rfl hb_45 dX10_holds_45 ?_
              refine lv_goto (tgt := 50) hx hb dX10_holds_46 (by decide) ?_
              refine lv_istore_n (lv' := [(2, .int (q42_12 x3_12.toNatClampNeg)), (3, .int x3_12), (0, .ref (g 29)), (1, .int za1)]) hx hb dX10_holds_50 rfl hl (by decide) rfl (fun ls hl => ?_)
              refine lv_iinc (v := (x3_12 + 1)) (lv' := [(3, .int (x3_12 + 1)), (2, .int (q42_12 x3_12.toNatClampNeg)), (0, .ref (g 29)), (1, .int za1)]) hx hb dX10_holds_51 hl (k := 1) rfl (by rfl) (by decide) rfl (fun ls hl => ?_)
              refine lv_goto (tgt := 12) hx hb dX10_holds_54 (by decide) ?_
              exact ih (x3_12 + 1) (q42_12 x3_12.toNatClampNeg) q29_12 q36_12 q37_12 q38_12 q39_12 q40_12 q41_12 q42_12 q43_12 hinv _ _ ls hw (lv_sub hl [0, 1, 2, 3] rfl)
    exact hl12 F 0 0 zu1.2.1 zu1.2.2.1 zu1.2.2.2.1 zu1.2.2.2.2.1 zu1.2.2.2.2.2.1 zu1.2.2.2.2.2.2.1 zu1.2.2.2.2.2.2.2.1 zu1.2.2.2.2.2.2.2.2.1 zu1.2.2.2.2.2.2.2.2.2 hinv _ _ ls hw (lv_sub hl [0, 1, 2, 3] rfl)
def m_X10_reasonFor_L19 (F : Nat) (y1_19 : Int32) : Nat → Int32 → Int32 → (Nat → Int32) → (Nat → Int32) → (Nat → Int32) → (Nat → Int32) → (Nat → Int32) → (Nat → Int32) → (Nat → Int32) → (Nat → Int32) → (Nat → Int32) → Option (Int32 × (Nat → Int32) × (Nat → Int32) × (Nat → Int32) × (Nat → Int32) × (Nat → Int32) × (Nat → Int32) × (Nat → Int32) × (Nat → Int32) × (Nat → Int32))
  | 0, _, _, _, _, _, _, _, _, _, _, _ => none
  | n + 1, x3_19, x2_19, q29_19, q36_19, q37_19, q38_19, q39_19, q40_19, q41_19, q42_19, q43_19 => if x3_19 < 0 then (some (x2_19, q29_19, q36_19, q37_19, q38_19, q39_19, q40_19, q41_19, q42_19, q43_19)) else (if ¬ (x3_19 < 0 ∨ 24 ≤ x3_19.toNatClampNeg) then (if (q36_19 x3_19.toNatClampNeg) = y1_19 then (if ¬ (x3_19 < 0 ∨ 24 ≤ x3_19.toNatClampNeg) then (if (q42_19 x3_19.toNatClampNeg) = 2 then (m_X10_reasonFor_L19 F y1_19 n (x3_19 + (-1)) x3_19 q29_19 q36_19 q37_19 q38_19 q39_19 q40_19 q41_19 q42_19 q43_19) else (m_X10_reasonFor_L19 F y1_19 n (x3_19 + (-1)) x2_19 q29_19 q36_19 q37_19 q38_19 q39_19 q40_19 q41_19 q42_19 q43_19)) else none) else (m_X10_reasonFor_L19 F y1_19 n (x3_19 + (-1)) x2_19 q29_19 q36_19 q37_19 q38_19 q39_19 q40_19 q41_19 q42_19 q43_19)) else none)
def m_X10_reasonFor (F : Nat) (r29 : Nat → Int32) (r30 : Nat → Int32) (r31 : Nat → Int32) (r32 : Nat → Int32) (r33 : Nat → Int32) (r34 : Nat → Int32) (r35 : Nat → Int32) (r36 : Nat → Int32) (r37 : Nat → Int32) (r38 : Nat → Int32) (r39 : Nat → Int32) (r40 : Nat → Int32) (r41 : Nat → Int32) (r42 : Nat → Int32) (r43 : Nat → Int32) (za1 : Int32) : Option (Int32 × (Nat → Int32) × (Nat → Int32) × (Nat → Int32) × (Nat → Int32) × (Nat → Int32) × (Nat → Int32) × (Nat → Int32) × (Nat → Int32) × (Nat → Int32)) := Option.bind (m_X10_isAsked F r29 r30 r31 r32 r33 r34 r35 r36 r37 r38 r39 r40 r41 r42 r43 za1) (fun zu1 => if zu1.1 = 0 then (some (0, zu1.2.1, zu1.2.2.1, zu1.2.2.2.1, zu1.2.2.2.2.1, zu1.2.2.2.2.2.1, zu1.2.2.2.2.2.2.1, zu1.2.2.2.2.2.2.2.1, zu1.2.2.2.2.2.2.2.2.1, zu1.2.2.2.2.2.2.2.2.2)) else (m_X10_reasonFor_L19 F za1 F ((zu1.2.1 8) - 1) (-1) zu1.2.1 zu1.2.2.1 zu1.2.2.2.1 zu1.2.2.2.2.1 zu1.2.2.2.2.2.1 zu1.2.2.2.2.2.2.1 zu1.2.2.2.2.2.2.2.1 zu1.2.2.2.2.2.2.2.2.1 zu1.2.2.2.2.2.2.2.2.2))
set_option maxHeartbeats 4000000 in
set_option maxRecDepth 100000 in
theorem c_X10_reasonFor {l : Launch} {D : va_G} {cy : Nat → Nat} {g : Nat → Nat} {N : Nat} {X : Nat → Nat → Int32} {F : Nat} {za1 : Int32} {R0 : Int32 × (Nat → Int32) × (Nat → Int32) × (Nat → Int32) × (Nat → Int32) × (Nat → Int32) × (Nat → Int32) × (Nat → Int32) × (Nat → Int32) × (Nat → Int32)} (hfl : l.stackTraces = false) (hN : 47 ≤ N) (hinv : m_X10_reasonFor F (X 29) (X 30) (X 31) (X 32) (X 33) (X 34) (X 35) (X 36) (X 37) (X 38) (X 39) (X 40) (X 41) (X 42) (X 43) za1 = some R0) : sWi l D cy yX10_reasonFor cX10_reasonFor 4 (some .int) 6 0 0 [.ref (g 29), .int za1] g N X R0.1 (up (up (up (up (up (up (up (up (up X 29 R0.2.1) 36 R0.2.2.1) 37 R0.2.2.2.1) 38 R0.2.2.2.2.1) 39 R0.2.2.2.2.2.1) 40 R0.2.2.2.2.2.2.1) 41 R0.2.2.2.2.2.2.2.1) 42 R0.2.2.2.2.2.2.2.2.1) 43 R0.2.2.2.2.2.2.2.2.2) := by
  refine jWi (own := RX10) (by decide) rfl hfl (Nat.le_of_ble_eq_true rfl) rfl ?_
  intro p e R s m args below meth c ls A Q hRe C hw hl hret
  subst hRe
  have hx := C.1
  have hb := C.2.1
  have hl : lv_has ls 4 [(0, .ref (g 29)), (1, .int za1)] := hl
  rw [m_X10_reasonFor] at hinv
  refine lv_aload_n hx hb dX10_reasonFor_0 rfl (lv_at hl 0 rfl) ?_
  refine lv_iload_n hx hb dX10_reasonFor_1 rfl (lv_at hl 1 rfl) ?_
  obtain ⟨zu1, hzu1, hinv⟩ := ob hinv
  refine s_vWi (r0 := zu1.1) C hw (As := [.int za1]) bX10_isAsked k582 (k := 29) (q47 hN rfl) (sh_29 g cy _) rfl (c_X10_isAsked (X := X) hfl hN hzu1) rfl rfl dX10_reasonFor_2 ⟨rfl, rfl⟩ (by decide) hl.1 (Nat.le_of_ble_eq_true rfl) ⟨Nat.le_of_ble_eq_true rfl, Nat.le_of_ble_eq_true rfl⟩ (fun H locs hw => ?_)
  refine lv_if_ne (tgt := 10) hx hb dX10_reasonFor_5 (by decide) (fun c_5 => ?_) (fun c_5 => ?_)
  · have hinv := oi_f c_5 hinv
    refine lv_iconst (v := (-1)) hx hb dX10_reasonFor_10 (by decide) ?_
    refine lv_istore_n (lv' := [(2, .int (-1)), (0, .ref (g 29)), (1, .int za1)]) hx hb dX10_reasonFor_11 rfl hl (by decide) rfl (fun ls hl => ?_)
    refine lv_aload_n hx hb dX10_reasonFor_12 rfl (lv_at hl 1 rfl) ?_
    refine w_get C hw (k := 29) (v := .int (zu1.2.1 8)) (j := 8) (q47 hN rfl) (sh_29 g cy _) rfl (by decide) k517 rfl dX10_reasonFor_13 ?_
    refine lv_iconst (v := 1) hx hb dX10_reasonFor_16 (by decide) ?_
    refine lv_isub hx hb dX10_reasonFor_17 ?_
    refine lv_istore_n (lv' := [(3, .int ((zu1.2.1 8) - 1)), (2, .int (-1)), (0, .ref (g 29)), (1, .int za1)]) hx hb dX10_reasonFor_18 rfl hl (by decide) rfl (fun ls hl => ?_)
    have hl19 : ∀ (n : Nat) (x3_19 : Int32) (x2_19 : Int32) (q29_19 : Nat → Int32) (q36_19 : Nat → Int32) (q37_19 : Nat → Int32) (q38_19 : Nat → Int32) (q39_19 : Nat → Int32) (q40_19 : Nat → Int32) (q41_19 : Nat → Int32) (q42_19 : Nat → Int32) (q43_19 : Nat → Int32), m_X10_reasonFor_L19 F za1 n x3_19 x2_19 q29_19 q36_19 q37_19 q38_19 q39_19 q40_19 q41_19 q42_19 q43_19 = some R0 → ∀ (H : Heap) (locs : List Loc) (ls : Array Slot), Wd D A s.heap g N (shp g cy (up (up (up (up (up (up (up (up (up X 29 q29_19) 36 q36_19) 37 q37_19) 38 q38_19) 39 q39_19) 40 q40_19) 41 q41_19) 42 q42_19) 43 q43_19)) H locs → lv_has ls 4 [(3, .int x3_19), (2, .int x2_19), (0, .ref (g 29)), (1, .int za1)] → W p l e (wR 6 0 0) s m args below meth c H locs 0 0 Q (F0 m 19 ls []) := by
      intro n
      induction n with
      | zero =>
        intro x3_19 x2_19 q29_19 q36_19 q37_19 q38_19 q39_19 q40_19 q41_19 q42_19 q43_19 hinv
        cases hinv
      | succ n ih =>
        intro x3_19 x2_19 q29_19 q36_19 q37_19 q38_19 q39_19 q40_19 q41_19 q42_19 q43_19 hinv H locs ls hw hl
        rw [m_X10_reasonFor_L19] at hinv
        refine lv_iload_n hx hb dX10_reasonFor_19 rfl (lv_at hl 0 rfl) ?_
        refine lv_if_lt (tgt := 55) hx hb dX10_reasonFor_20 (by decide) (fun c_20 => ?_) (fun c_20 => ?_)
        · have hinv := oi_t c_20 hinv
          refine lv_iload_n hx hb dX10_reasonFor_55 rfl (lv_at hl 1 rfl) ?_
          have hR0 := (Option.some.inj hinv).symm
          subst hR0
          exact hret 56 ls x2_19 _ _ _ _ rfl hw (by decide) (by decide) dX10_reasonFor_56
        · have hinv := oi_f c_20 hinv
          refine lv_aload_n hx hb dX10_reasonFor_23 rfl (lv_at hl 2 rfl) ?_
          refine w_get C hw (k := 29) (v := .ref (g 36)) (j := 10) (q47 hN rfl) (sh_29 g cy _) rfl (by decide) k475 rfl dX10_reasonFor_24 ?_
          refine lv_iload_n hx hb dX10_reasonFor_27 rfl (lv_at hl 0 rfl) ?_
          obtain ⟨hb_28, hinv⟩ := oi_c hinv
          refine s_iald C hw (k := 36) (a := q36_19) (q47 hN rfl) (fun r => sh_36 g cy r) rfl hb_28 dX10_reasonFor_28 ?_
          refine lv_iload_n hx hb dX10_reasonFor_29 rfl (lv_at hl 3 rfl) ?_
          refine lv_icmp_ne (tgt := 47) hx hb dX10_reasonFor_30 (by decide) (fun c_30 => ?_) (fun c_30 => ?_)
          · have hinv := oi_f c_30 hinv
            refine lv_iload_n hx hb dX10_reasonFor_47 rfl (lv_at hl 1 rfl) ?_
            refine lv_istore_n (lv' := [(2, .int x2_19), (3, .int x3_19), (0, .ref (g 29)), (1, .int za1)]) hx hb dX10_reasonFor_48 rfl hl (by decide) rfl (fun ls hl => ?_)
            refine lv_iinc (v := (x3_19 + (-1))) (lv' := [(3, .int (x3_19 + (-1))), (2, .int x2_19), (0, .ref (g 29)), (1, .int za1)]) hx hb dX10_reasonFor_49 hl (k := 1) rfl (by rfl) (by decide) rfl (fun ls hl => ?_)
            refine lv_goto (tgt := 19) hx hb dX10_reasonFor_52 (by decide) ?_
            exact ih (x3_19 + (-1)) x2_19 q29_19 q36_19 q37_19 q38_19 q39_19 q40_19 q41_19 q42_19 q43_19 hinv _ _ ls hw (lv_sub hl [0, 1, 2, 3] rfl)
          · have hinv := oi_t c_30 hinv
            refine lv_aload_n hx hb dX10_reasonFor_33 rfl (lv_at hl 2 rfl) ?_
            refine w_get C hw (k := 29) (v := .ref (g 42)) (j := 16) (q47 hN rfl) (sh_29 g cy _) rfl (by decide) k481 rfl dX10_reasonFor_34 ?_
            refine lv_iload_n hx hb dX10_reasonFor_37 rfl (lv_at hl 0 rfl) ?_
            obtain ⟨hb_38, hinv⟩ := oi_c hinv
            refine s_iald C hw (k := 42) (a := q42_19) (q47 hN rfl) (fun r => sh_42 g cy r) rfl hb_38 dX10_reasonFor_38 ?_
            refine lv_iconst (v := 2) hx hb dX10_reasonFor_39 (by decide) ?_
            refine lv_icmp_ne (tgt := 47) hx hb dX10_reasonFor_40 (by decide) (fun c_40 => ?_) (fun c_40 => ?_)
            · have hinv := oi_f c_40 hinv
              refine lv_iload_n hx hb dX10_reasonFor_47 rfl (lv_at hl 1 rfl) ?_
              refine lv_istore_n (lv' := [(2, .int x2_19), (3, .int x3_19), (0, .ref (g 29)), (1, .int za1)]) hx hb dX10_reasonFor_48 rfl hl (by decide) rfl (fun ls hl => ?_)
              refine lv_iinc (v := (x3_19 + (-1))) (lv' := [(3, .int (x3_19 + (-1))), (2, .int x2_19), (0, .ref (g 29)), (1, .int za1)]) hx hb dX10_reasonFor_49 hl (k := 1) rfl (by rfl) (by decide) rfl (fun ls hl => ?_)
              refine lv_goto (tgt := 19) hx hb dX10_reasonFor_52 (by decide) ?_
              exact ih (x3_19 + (-1)) x2_19 q29_19 q36_19 q37_19 q38_19 q39_19 q40_19 q41_19 q42_19 q43_19 hinv _ _ ls hw (lv_sub hl [0, 1, 2, 3] rfl)
            · have hinv := oi_t c_40 hinv
              refine lv_iload_n hx hb dX10_reasonFor_43 rfl (lv_at hl 0 rfl) ?_
              refine lv_goto (tgt := 48) hx hb dX10_reasonFor_44 (by decide) ?_
              refine lv_istore_n (lv' := [(2, .int x3_19), (3, .int x3_19), (0, .ref (g 29)), (1, .int za1)]) hx hb dX10_reasonFor_48 rfl hl (by decide) rfl (fun ls hl => ?_)
              refine lv_iinc (v := (x3_19 + (-1))) (lv' := [(3, .int (x3_19 + (-1))), (2, .int x3_19), (0, .ref (g 29)), (1, .int za1)]) hx hb dX10_reasonFor_49 hl (k := 1) rfl (by rfl) (by decide) rfl (fun ls hl => ?_)
              refine lv_goto (tgt := 19) hx hb dX10_reasonFor_52 (by decide) ?_
              exact ih (x3_19 + (-1)) x3_19 q29_19 q36_19 q37_19 q38_19 q39_19 q40_19 q41_19 q42_19 q43_19 hinv _ _ ls hw (lv_sub hl [0, 1, 2, 3] rfl)
    exact hl19 F ((zu1.2.1 8) - 1) (-1) zu1.2.1 zu1.2.2.1 zu1.2.2.2.1 zu1.2.2.2.2.1 zu1.2.2.2.2.2.1 zu1.2.2.2.2.2.2.1 zu1.2.2.2.2.2.2.2.1 zu1.2.2.2.2.2.2.2.2.1 zu1.2.2.2.2.2.2.2.2.2 hinv _ _ ls hw (lv_sub hl [0, 1, 2, 3] rfl)
  · have hinv := oi_t c_5 hinv
    refine lv_iconst (v := 0) hx hb dX10_reasonFor_8 (by decide) ?_
    have hR0 := (Option.some.inj hinv).symm
    subst hR0
    exact hret 9 ls 0 _ _ _ _ rfl hw (by decide) (by decide) dX10_reasonFor_9
def m_X10_lowest_L5 (F : Nat) (y0_5 : Int32) : Nat → Int32 → Int32 → Option (Int32)
  | 0, _, _ => none
  | n + 1, x2_5, x1_5 => if x2_5 < 0 then (some x1_5) else (if ((y0_5 >>> (x2_5 &&& 31)) &&& 1) = 1 then (m_X10_lowest_L5 F y0_5 n (x2_5 + (-1)) x2_5) else (m_X10_lowest_L5 F y0_5 n (x2_5 + (-1)) x1_5))
def m_X10_lowest (F : Nat) (za0 : Int32) : Option (Int32) := m_X10_lowest_L5 F za0 F 23 (-1)
set_option maxHeartbeats 4000000 in
set_option maxRecDepth 100000 in
theorem c_X10_lowest {l : Launch} {D : va_G} {cy : Nat → Nat} {g : Nat → Nat} {N : Nat} {X : Nat → Nat → Int32} {F : Nat} {za0 : Int32} {R0 : Int32} (hfl : l.stackTraces = false) (hN : 47 ≤ N) (hinv : m_X10_lowest F za0 = some R0) : sRi l D cy yX10_lowest cX10_lowest 3 (some .int) 0 [.int za0] g N X R0 := by
  refine jRi (own := RX10) (by decide) rfl hfl (Nat.le_of_ble_eq_true rfl) rfl ?_
  intro p e R s m args below meth c ls A Q hRe C hw hl hret
  subst hRe
  have hx := C.1
  have hb := C.2.1
  have hl : lv_has ls 3 [(0, .int za0)] := hl
  rw [m_X10_lowest] at hinv
  refine lv_iconst (v := (-1)) hx hb dX10_lowest_0 (by decide) ?_
  refine lv_istore_n (lv' := [(1, .int (-1)), (0, .int za0)]) hx hb dX10_lowest_1 rfl hl (by decide) rfl (fun ls hl => ?_)
  refine lv_bipush (v := 23) hx hb dX10_lowest_2 (by decide) ?_
  refine lv_istore_n (lv' := [(2, .int 23), (1, .int (-1)), (0, .int za0)]) hx hb dX10_lowest_4 rfl hl (by decide) rfl (fun ls hl => ?_)
  have hl5 : ∀ (n : Nat) (x2_5 : Int32) (x1_5 : Int32), m_X10_lowest_L5 F za0 n x2_5 x1_5 = some R0 → ∀ (ls : Array Slot), lv_has ls 3 [(2, .int x2_5), (1, .int x1_5), (0, .int za0)] → W p l e (wR 0 0 0) s m args below meth c s.heap [] 0 0 Q (F0 m 5 ls []) := by
    intro n
    induction n with
    | zero =>
      intro x2_5 x1_5 hinv
      cases hinv
    | succ n ih =>
      intro x2_5 x1_5 hinv ls hl
      rw [m_X10_lowest_L5] at hinv
      refine lv_iload_n hx hb dX10_lowest_5 rfl (lv_at hl 0 rfl) ?_
      refine lv_if_lt (tgt := 30) hx hb dX10_lowest_6 (by decide) (fun c_6 => ?_) (fun c_6 => ?_)
      · have hinv := oi_t c_6 hinv
        refine lv_iload_n hx hb dX10_lowest_30 rfl (lv_at hl 1 rfl) ?_
        exact hret 31 ls x1_5 (Option.some.inj hinv) dX10_lowest_31
      · have hinv := oi_f c_6 hinv
        refine lv_iload_n hx hb dX10_lowest_9 rfl (lv_at hl 2 rfl) ?_
        refine lv_iload_n hx hb dX10_lowest_10 rfl (lv_at hl 0 rfl) ?_
        refine lv_ishr hx hb dX10_lowest_11 ?_
        refine lv_iconst (v := 1) hx hb dX10_lowest_12 (by decide) ?_
        refine lv_iand hx hb dX10_lowest_13 ?_
        refine lv_iconst (v := 1) hx hb dX10_lowest_14 (by decide) ?_
        refine lv_icmp_ne (tgt := 22) hx hb dX10_lowest_15 (by decide) (fun c_15 => ?_) (fun c_15 => ?_)
        · have hinv := oi_f c_15 hinv
          refine lv_iload_n hx hb dX10_lowest_22 rfl (lv_at hl 1 rfl) ?_
          refine lv_istore_n (lv' := [(1, .int x1_5), (2, .int x2_5), (0, .int za0)]) hx hb dX10_lowest_23 rfl hl (by decide) rfl (fun ls hl => ?_)
          refine lv_iinc (v := (x2_5 + (-1))) (lv' := [(2, .int (x2_5 + (-1))), (1, .int x1_5), (0, .int za0)]) hx hb dX10_lowest_24 hl (k := 1) rfl (by rfl) (by decide) rfl (fun ls hl => ?_)
          refine lv_goto (tgt := 5) hx hb dX10_lowest_27 (by decide) ?_
          exact ih (x2_5 + (-1)) x1_5 hinv ls (lv_sub hl [0, 1, 2] rfl)
        · have hinv := oi_t c_15 hinv
          refine lv_iload_n hx hb dX10_lowest_18 rfl (lv_at hl 0 rfl) ?_
          refine lv_goto (tgt := 23) hx hb dX10_lowest_19 (by decide) ?_
          refine lv_istore_n (lv' := [(1, .int x2_5), (2, .int x2_5), (0, .int za0)]) hx hb dX10_lowest_23 rfl hl (by decide) rfl (fun ls hl => ?_)
          refine lv_iinc (v := (x2_5 + (-1))) (lv' := [(2, .int (x2_5 + (-1))), (1, .int x2_5), (0, .int za0)]) hx hb dX10_lowest_24 hl (k := 1) rfl (by rfl) (by decide) rfl (fun ls hl => ?_)
          refine lv_goto (tgt := 5) hx hb dX10_lowest_27 (by decide) ?_
          exact ih (x2_5 + (-1)) x2_5 hinv ls (lv_sub hl [0, 1, 2] rfl)
  exact hl5 F 23 (-1) hinv ls (lv_sub hl [0, 1, 2] rfl)
def m_X10_reasonAgainst (F : Nat) (r29 : Nat → Int32) (r30 : Nat → Int32) (r31 : Nat → Int32) (r32 : Nat → Int32) (r33 : Nat → Int32) (r34 : Nat → Int32) (r35 : Nat → Int32) (r36 : Nat → Int32) (r37 : Nat → Int32) (r38 : Nat → Int32) (r39 : Nat → Int32) (r40 : Nat → Int32) (r41 : Nat → Int32) (r42 : Nat → Int32) (r43 : Nat → Int32) (za1 : Int32) : Option (Int32 × (Nat → Int32) × (Nat → Int32) × (Nat → Int32) × (Nat → Int32) × (Nat → Int32) × (Nat → Int32) × (Nat → Int32) × (Nat → Int32) × (Nat → Int32)) := Option.bind (m_X10_isArgument F r29 r30 r31 r32 r33 r34 r35 r36 r37 r38 r39 r40 r41 za1) (fun zu1 => if zu1.1 = 0 then (some (0, zu1.2.1, zu1.2.2.1, zu1.2.2.2.1, zu1.2.2.2.2.1, zu1.2.2.2.2.2.1, zu1.2.2.2.2.2.2.1, zu1.2.2.2.2.2.2.2, r42, r43)) else (Option.bind (m_X10_labelsAll F zu1.2.1 zu1.2.2.2.2.2.2.2 r42 r43) (fun zu2 => if ¬ (za1 < 0 ∨ 24 ≤ za1.toNatClampNeg) then (Option.bind (m_X10_withLabel F zu1.2.1 zu2.1 2) (fun zu3 => if ((zu1.2.2.2.2.2.2.2 za1.toNatClampNeg) &&& zu3) = 0 then (if ¬ (za1 < 0 ∨ 24 ≤ za1.toNatClampNeg) then (Option.bind (m_X10_withLabel F zu1.2.1 zu2.1 1) (fun zu4 => Option.bind (m_X10_lowest F ((zu1.2.2.2.2.2.2.2 za1.toNatClampNeg) &&& zu4)) (fun zu5 => some (zu5, zu1.2.1, zu1.2.2.1, zu1.2.2.2.1, zu1.2.2.2.2.1, zu1.2.2.2.2.2.1, zu1.2.2.2.2.2.2.1, zu1.2.2.2.2.2.2.2, zu2.1, zu2.2)))) else none) else (Option.bind (m_X10_lowest F ((zu1.2.2.2.2.2.2.2 za1.toNatClampNeg) &&& zu3)) (fun zu6 => some (zu6, zu1.2.1, zu1.2.2.1, zu1.2.2.2.1, zu1.2.2.2.2.1, zu1.2.2.2.2.2.1, zu1.2.2.2.2.2.2.1, zu1.2.2.2.2.2.2.2, zu2.1, zu2.2))))) else none)))
set_option maxHeartbeats 4000000 in
set_option maxRecDepth 100000 in
theorem c_X10_reasonAgainst {l : Launch} {D : va_G} {cy : Nat → Nat} {g : Nat → Nat} {N : Nat} {X : Nat → Nat → Int32} {F : Nat} {za1 : Int32} {R0 : Int32 × (Nat → Int32) × (Nat → Int32) × (Nat → Int32) × (Nat → Int32) × (Nat → Int32) × (Nat → Int32) × (Nat → Int32) × (Nat → Int32) × (Nat → Int32)} (hfl : l.stackTraces = false) (hN : 47 ≤ N) (hinv : m_X10_reasonAgainst F (X 29) (X 30) (X 31) (X 32) (X 33) (X 34) (X 35) (X 36) (X 37) (X 38) (X 39) (X 40) (X 41) (X 42) (X 43) za1 = some R0) : sWi l D cy yX10_reasonAgainst cX10_reasonAgainst 3 (some .int) 6 0 0 [.ref (g 29), .int za1] g N X R0.1 (up (up (up (up (up (up (up (up (up X 29 R0.2.1) 36 R0.2.2.1) 37 R0.2.2.2.1) 38 R0.2.2.2.2.1) 39 R0.2.2.2.2.2.1) 40 R0.2.2.2.2.2.2.1) 41 R0.2.2.2.2.2.2.2.1) 42 R0.2.2.2.2.2.2.2.2.1) 43 R0.2.2.2.2.2.2.2.2.2) := by
  refine jWi (own := RX10) (by decide) rfl hfl (Nat.le_of_ble_eq_true rfl) rfl ?_
  intro p e R s m args below meth c ls A Q hRe C hw hl hret
  subst hRe
  have hx := C.1
  have hb := C.2.1
  have hl : lv_has ls 3 [(0, .ref (g 29)), (1, .int za1)] := hl
  rw [m_X10_reasonAgainst] at hinv
  refine lv_aload_n hx hb dX10_reasonAgainst_0 rfl (lv_at hl 0 rfl) ?_
  refine lv_iload_n hx hb dX10_reasonAgainst_1 rfl (lv_at hl 1 rfl) ?_
  obtain ⟨zu1, hzu1, hinv⟩ := ob hinv
  refine s_vWi (r0 := zu1.1) C hw (As := [.int za1]) bX10_isArgument k563 (k := 29) (q47 hN rfl) (sh_29 g cy _) rfl (c_X10_isArgument (X := X) hfl hN hzu1) rfl rfl dX10_reasonAgainst_2 ⟨rfl, rfl⟩ (by decide) hl.1 (Nat.le_of_ble_eq_true rfl) ⟨Nat.le_of_ble_eq_true rfl, Nat.le_of_ble_eq_true rfl⟩ (fun H locs hw => ?_)
  refine lv_if_ne (tgt := 10) hx hb dX10_reasonAgainst_5 (by decide) (fun c_5 => ?_) (fun c_5 => ?_)
  · have hinv := oi_f c_5 hinv
    refine lv_aload_n hx hb dX10_reasonAgainst_10 rfl (lv_at hl 0 rfl) ?_
    obtain ⟨zu2, hzu2, hinv⟩ := ob hinv
    refine s_vWv C hw (As := []) bX10_labelsAll k576 (k := 29) (q47 hN rfl) (sh_29 g cy _) rfl (c_X10_labelsAll (X := (up (up (up (up (up (up (up X 29 zu1.2.1) 36 zu1.2.2.1) 37 zu1.2.2.2.1) 38 zu1.2.2.2.2.1) 39 zu1.2.2.2.2.2.1) 40 zu1.2.2.2.2.2.2.1) 41 zu1.2.2.2.2.2.2.2)) hfl hN hzu2) rfl rfl dX10_reasonAgainst_11 ⟨rfl, rfl⟩ (by decide) hl.1 (Nat.le_of_ble_eq_true rfl) ⟨Nat.le_of_ble_eq_true rfl, Nat.le_of_ble_eq_true rfl⟩ (fun H locs hw => ?_)
    refine lv_aload_n hx hb dX10_reasonAgainst_14 rfl (lv_at hl 0 rfl) ?_
    refine w_get C hw (k := 29) (v := .ref (g 41)) (j := 15) (q47 hN rfl) (sh_29 g cy _) rfl (by decide) k480 rfl dX10_reasonAgainst_15 ?_
    refine lv_iload_n hx hb dX10_reasonAgainst_18 rfl (lv_at hl 1 rfl) ?_
    obtain ⟨hb_19, hinv⟩ := oi_c hinv
    refine s_iald C hw (k := 41) (a := zu1.2.2.2.2.2.2.2) (q47 hN rfl) (fun r => sh_41 g cy r) rfl hb_19 dX10_reasonAgainst_19 ?_
    refine lv_aload_n hx hb dX10_reasonAgainst_20 rfl (lv_at hl 0 rfl) ?_
    refine lv_iconst (v := 2) hx hb dX10_reasonAgainst_21 (by decide) ?_
    obtain ⟨zu3, hzu3, hinv⟩ := ob hinv
    refine s_vRi (r0 := zu3) C hw (As := [.int 2]) bX10_withLabel k573 (k := 29) (q47 hN rfl) (sh_29 g cy _) rfl (c_X10_withLabel (X := (up (up (up (up (up (up (up (up (up X 29 zu1.2.1) 36 zu1.2.2.1) 37 zu1.2.2.2.1) 38 zu1.2.2.2.2.1) 39 zu1.2.2.2.2.2.1) 40 zu1.2.2.2.2.2.2.1) 41 zu1.2.2.2.2.2.2.2) 42 zu2.1) 43 zu2.2)) hfl hN hzu3) rfl rfl dX10_reasonAgainst_22 ⟨rfl, rfl⟩ (by decide) hl.1 (Nat.le_of_ble_eq_true rfl) ⟨Nat.le_of_ble_eq_true rfl, Nat.le_of_ble_eq_true rfl⟩ ?_
    refine lv_iand hx hb dX10_reasonAgainst_25 ?_
    refine lv_istore_n (lv' := [(2, .int ((zu1.2.2.2.2.2.2.2 za1.toNatClampNeg) &&& zu3)), (0, .ref (g 29)), (1, .int za1)]) hx hb dX10_reasonAgainst_26 rfl hl (by decide) rfl (fun ls hl => ?_)
    refine lv_iload_n hx hb dX10_reasonAgainst_27 rfl (lv_at hl 0 rfl) ?_
    refine lv_if_eq (tgt := 35) hx hb dX10_reasonAgainst_28 (by decide) (fun c_28 => ?_) (fun c_28 => ?_)
    · have hinv := oi_t c_28 hinv
      refine lv_aload_n hx hb dX10_reasonAgainst_35 rfl (lv_at hl 1 rfl) ?_
      refine w_get C hw (k := 29) (v := .ref (g 41)) (j := 15) (q47 hN rfl) (sh_29 g cy _) rfl (by decide) k480 rfl dX10_reasonAgainst_36 ?_
      refine lv_iload_n hx hb dX10_reasonAgainst_39 rfl (lv_at hl 2 rfl) ?_
      obtain ⟨hb_40, hinv⟩ := oi_c hinv
      refine s_iald C hw (k := 41) (a := zu1.2.2.2.2.2.2.2) (q47 hN rfl) (fun r => sh_41 g cy r) rfl hb_40 dX10_reasonAgainst_40 ?_
      refine lv_aload_n hx hb dX10_reasonAgainst_41 rfl (lv_at hl 1 rfl) ?_
      refine lv_iconst (v := 1) hx hb dX10_reasonAgainst_42 (by decide) ?_
      obtain ⟨zu4, hzu4, hinv⟩ := ob hinv
      refine s_vRi (r0 := zu4) C hw (As := [.int 1]) bX10_withLabel k573 (k := 29) (q47 hN rfl) (sh_29 g cy _) rfl (c_X10_withLabel (X := (up (up (up (up (up (up (up (up (up X 29 zu1.2.1) 36 zu1.2.2.1) 37 zu1.2.2.2.1) 38 zu1.2.2.2.2.1) 39 zu1.2.2.2.2.2.1) 40 zu1.2.2.2.2.2.2.1) 41 zu1.2.2.2.2.2.2.2) 42 zu2.1) 43 zu2.2)) hfl hN hzu4) rfl rfl dX10_reasonAgainst_43 ⟨rfl, rfl⟩ (by decide) hl.1 (Nat.le_of_ble_eq_true rfl) ⟨Nat.le_of_ble_eq_true rfl, Nat.le_of_ble_eq_true rfl⟩ ?_
      refine lv_iand hx hb dX10_reasonAgainst_46 ?_
      obtain ⟨zu5, hzu5, hinv⟩ := ob hinv
      refine s_sRi (r0 := zu5) C hw (As := [.int ((zu1.2.2.2.2.2.2.2 za1.toNatClampNeg) &&& zu4)]) bX10_lowest k588 (c_X10_lowest (X := (up (up (up (up (up (up (up (up (up X 29 zu1.2.1) 36 zu1.2.2.1) 37 zu1.2.2.2.1) 38 zu1.2.2.2.2.1) 39 zu1.2.2.2.2.2.1) 40 zu1.2.2.2.2.2.2.1) 41 zu1.2.2.2.2.2.2.2) 42 zu2.1) 43 zu2.2)) hfl hN hzu5) rfl rfl dX10_reasonAgainst_47 ⟨rfl, rfl⟩ (by decide) hl.1 (Nat.le_of_ble_eq_true rfl) ⟨Nat.le_of_ble_eq_true rfl, Nat.le_of_ble_eq_true rfl⟩ ?_
      have hR0 := (Option.some.inj hinv).symm
      subst hR0
      exact hret 50 ls zu5 _ _ _ _ rfl hw (by decide) (by decide) dX10_reasonAgainst_50
    · have hinv := oi_f c_28 hinv
      refine lv_iload_n hx hb dX10_reasonAgainst_31 rfl (lv_at hl 0 rfl) ?_
      refine lv_goto (tgt := 47) hx hb dX10_reasonAgainst_32 (by decide) ?_
      obtain ⟨zu6, hzu6, hinv⟩ := ob hinv
      refine s_sRi (r0 := zu6) C hw (As := [.int ((zu1.2.2.2.2.2.2.2 za1.toNatClampNeg) &&& zu3)]) bX10_lowest k588 (c_X10_lowest (X := (up (up (up (up (up (up (up (up (up X 29 zu1.2.1) 36 zu1.2.2.1) 37 zu1.2.2.2.1) 38 zu1.2.2.2.2.1) 39 zu1.2.2.2.2.2.1) 40 zu1.2.2.2.2.2.2.1) 41 zu1.2.2.2.2.2.2.2) 42 zu2.1) 43 zu2.2)) hfl hN hzu6) rfl rfl dX10_reasonAgainst_47 ⟨rfl, rfl⟩ (by decide) hl.1 (Nat.le_of_ble_eq_true rfl) ⟨Nat.le_of_ble_eq_true rfl, Nat.le_of_ble_eq_true rfl⟩ ?_
      have hR0 := (Option.some.inj hinv).symm
      subst hR0
      exact hret 50 ls zu6 _ _ _ _ rfl hw (by decide) (by decide) dX10_reasonAgainst_50
  · have hinv := oi_t c_5 hinv
    refine lv_iconst (v := 0) hx hb dX10_reasonAgainst_8 (by decide) ?_
    have hR0 := (Option.some.inj hinv).symm
    subst hR0
    have hXe : (up (up (up (up (up (up (up X 29 zu1.2.1) 36 zu1.2.2.1) 37 zu1.2.2.2.1) 38 zu1.2.2.2.2.1) 39 zu1.2.2.2.2.2.1) 40 zu1.2.2.2.2.2.2.1) 41 zu1.2.2.2.2.2.2.2) = (up (up (up (up (up (up (up (up (up X 29 zu1.2.1) 36 zu1.2.2.1) 37 zu1.2.2.2.1) 38 zu1.2.2.2.2.1) 39 zu1.2.2.2.2.2.1) 40 zu1.2.2.2.2.2.2.1) 41 zu1.2.2.2.2.2.2.2) 42 (X 42)) 43 (X 43)) := by
      funext j
      by_cases h29 : j = 29
      · subst h29; simp [up]
      by_cases h36 : j = 36
      · subst h36; simp [up]
      by_cases h37 : j = 37
      · subst h37; simp [up]
      by_cases h38 : j = 38
      · subst h38; simp [up]
      by_cases h39 : j = 39
      · subst h39; simp [up]
      by_cases h40 : j = 40
      · subst h40; simp [up]
      by_cases h41 : j = 41
      · subst h41; simp [up]
      by_cases h42 : j = 42
      · subst h42; simp [up]
      by_cases h43 : j = 43
      · subst h43; simp [up]
      simp [up, h29, h36, h37, h38, h39, h40, h41, h42, h43]
    rw [hXe] at hw
    exact hret 9 ls 0 _ _ _ _ rfl hw (by decide) (by decide) dX10_reasonAgainst_9
def m_X10_has (F : Nat) (r29 : Nat → Int32) (za1 : Int32) (za2 : Int32) : Option (Int32) := if ((za1 >>> ((((r29 8) - 1) - za2) &&& 31)) &&& 1) = 1 then (some (1 : Int32)) else (some (0 : Int32))
set_option maxHeartbeats 4000000 in
set_option maxRecDepth 100000 in
theorem c_X10_has {l : Launch} {D : va_G} {cy : Nat → Nat} {g : Nat → Nat} {N : Nat} {X : Nat → Nat → Int32} {F : Nat} {za1 : Int32} {za2 : Int32} {R0 : Int32} (hfl : l.stackTraces = false) (hN : 47 ≤ N) (hinv : m_X10_has F (X 29) za1 za2 = some R0) : sRi l D cy yX10_has cX10_has 3 (some .boolean) 0 [.ref (g 29), .int za1, .int za2] g N X R0 := by
  refine jRz (own := RX10) (by decide) rfl hfl (Nat.le_of_ble_eq_true rfl) rfl ?_
  intro p e R s m args below meth c ls A Q hRe C hw hl hret
  subst hRe
  have hx := C.1
  have hb := C.2.1
  have hl : lv_has ls 3 [(0, .ref (g 29)), (1, .int za1), (2, .int za2)] := hl
  rw [m_X10_has] at hinv
  refine lv_iload_n hx hb dX10_has_0 rfl (lv_at hl 1 rfl) ?_
  refine lv_aload_n hx hb dX10_has_1 rfl (lv_at hl 0 rfl) ?_
  refine w_get C hw (k := 29) (v := .int ((X 29) 8)) (j := 8) (q47 hN rfl) (sh_29 g cy _) rfl (by decide) k517 rfl dX10_has_2 ?_
  refine lv_iconst (v := 1) hx hb dX10_has_5 (by decide) ?_
  refine lv_isub hx hb dX10_has_6 ?_
  refine lv_iload_n hx hb dX10_has_7 rfl (lv_at hl 2 rfl) ?_
  refine lv_isub hx hb dX10_has_8 ?_
  refine lv_ishr hx hb dX10_has_9 ?_
  refine lv_iconst (v := 1) hx hb dX10_has_10 (by decide) ?_
  refine lv_iand hx hb dX10_has_11 ?_
  refine lv_iconst (v := 1) hx hb dX10_has_12 (by decide) ?_
  refine lv_icmp_ne (tgt := 20) hx hb dX10_has_13 (by decide) (fun c_13 => ?_) (fun c_13 => ?_)
  · have hinv := oi_f c_13 hinv
    refine lv_iconst (v := 0) hx hb dX10_has_20 (by decide) ?_
    exact hret 21 ls 0 (Option.some.inj hinv) (by decide) dX10_has_21
  · have hinv := oi_t c_13 hinv
    refine lv_iconst (v := 1) hx hb dX10_has_16 (by decide) ?_
    refine lv_goto (tgt := 21) hx hb dX10_has_17 (by decide) ?_
    exact hret 21 ls 1 (Option.some.inj hinv) (by decide) dX10_has_21
def m_X10_turned_L4 (F : Nat) (r29 : Nat → Int32) (y1_4 : Int32) : Nat → Int32 → Int32 → Option (Int32)
  | 0, _, _ => none
  | n + 1, x3_4, x2_4 => if (r29 8) ≤ x3_4 then (some x2_4) else (Option.bind (m_X10_has F r29 y1_4 x3_4) (fun zu1 => if zu1 = 0 then (m_X10_turned_L4 F r29 y1_4 n (x3_4 + 1) (x2_4 ||| 0)) else (m_X10_turned_L4 F r29 y1_4 n (x3_4 + 1) (x2_4 ||| ((1 : Int32) <<< (x3_4 &&& 31))))))
def m_X10_turned (F : Nat) (r29 : Nat → Int32) (za1 : Int32) : Option (Int32) := m_X10_turned_L4 F r29 za1 F 0 0
set_option maxHeartbeats 4000000 in
set_option maxRecDepth 100000 in
theorem c_X10_turned {l : Launch} {D : va_G} {cy : Nat → Nat} {g : Nat → Nat} {N : Nat} {X : Nat → Nat → Int32} {F : Nat} {za1 : Int32} {R0 : Int32} (hfl : l.stackTraces = false) (hN : 47 ≤ N) (hinv : m_X10_turned F (X 29) za1 = some R0) : sRi l D cy yX10_turned cX10_turned 4 (some .int) 1 [.ref (g 29), .int za1] g N X R0 := by
  refine jRi (own := RX10) (by decide) rfl hfl (Nat.le_of_ble_eq_true rfl) rfl ?_
  intro p e R s m args below meth c ls A Q hRe C hw hl hret
  subst hRe
  have hx := C.1
  have hb := C.2.1
  have hl : lv_has ls 4 [(0, .ref (g 29)), (1, .int za1)] := hl
  rw [m_X10_turned] at hinv
  refine lv_iconst (v := 0) hx hb dX10_turned_0 (by decide) ?_
  refine lv_istore_n (lv' := [(2, .int 0), (0, .ref (g 29)), (1, .int za1)]) hx hb dX10_turned_1 rfl hl (by decide) rfl (fun ls hl => ?_)
  refine lv_iconst (v := 0) hx hb dX10_turned_2 (by decide) ?_
  refine lv_istore_n (lv' := [(3, .int 0), (2, .int 0), (0, .ref (g 29)), (1, .int za1)]) hx hb dX10_turned_3 rfl hl (by decide) rfl (fun ls hl => ?_)
  have hl4 : ∀ (n : Nat) (x3_4 : Int32) (x2_4 : Int32), m_X10_turned_L4 F (X 29) za1 n x3_4 x2_4 = some R0 → ∀ (ls : Array Slot), lv_has ls 4 [(3, .int x3_4), (2, .int x2_4), (0, .ref (g 29)), (1, .int za1)] → W p l e (wR 1 0 0) s m args below meth c s.heap [] 0 0 Q (F0 m 4 ls []) := by
    intro n
    induction n with
    | zero =>
      intro x3_4 x2_4 hinv
      cases hinv
    | succ n ih =>
      intro x3_4 x2_4 hinv ls hl
      rw [m_X10_turned_L4] at hinv
      refine lv_iload_n hx hb dX10_turned_4 rfl (lv_at hl 0 rfl) ?_
      refine lv_aload_n hx hb dX10_turned_5 rfl (lv_at hl 2 rfl) ?_
      refine w_get C hw (k := 29) (v := .int ((X 29) 8)) (j := 8) (q47 hN rfl) (sh_29 g cy _) rfl (by decide) k517 rfl dX10_turned_6 ?_
      refine lv_icmp_ge (tgt := 37) hx hb dX10_turned_9 (by decide) (fun c_9 => ?_) (fun c_9 => ?_)
      · have hinv := oi_t c_9 hinv
        refine lv_iload_n hx hb dX10_turned_37 rfl (lv_at hl 1 rfl) ?_
        exact hret 38 ls x2_4 (Option.some.inj hinv) dX10_turned_38
      · have hinv := oi_f c_9 hinv
        refine lv_iload_n hx hb dX10_turned_12 rfl (lv_at hl 1 rfl) ?_
        refine lv_aload_n hx hb dX10_turned_13 rfl (lv_at hl 2 rfl) ?_
        refine lv_iload_n hx hb dX10_turned_14 rfl (lv_at hl 3 rfl) ?_
        refine lv_iload_n hx hb dX10_turned_15 rfl (lv_at hl 0 rfl) ?_
        obtain ⟨zu1, hzu1, hinv⟩ := ob hinv
        refine s_vRi (r0 := zu1) C hw (As := [.int za1, .int x3_4]) bX10_has k593 (k := 29) (q47 hN rfl) (sh_29 g cy _) rfl (c_X10_has (X := X) hfl hN hzu1) rfl rfl dX10_turned_16 ⟨rfl, rfl⟩ (by decide) hl.1 (Nat.le_of_ble_eq_true rfl) ⟨Nat.le_of_ble_eq_true rfl, Nat.le_of_ble_eq_true rfl⟩ ?_
        refine lv_if_eq (tgt := 28) hx hb dX10_turned_19 (by decide) (fun c_19 => ?_) (fun c_19 => ?_)
        · have hinv := oi_t c_19 hinv
          refine lv_iconst (v := 0) hx hb dX10_turned_28 (by decide) ?_
          refine lv_ior hx hb dX10_turned_29 ?_
          refine lv_istore_n (lv' := [(2, .int (x2_4 ||| 0)), (3, .int x3_4), (0, .ref (g 29)), (1, .int za1)]) hx hb dX10_turned_30 rfl hl (by decide) rfl (fun ls hl => ?_)
          refine lv_iinc (v := (x3_4 + 1)) (lv' := [(3, .int (x3_4 + 1)), (2, .int (x2_4 ||| 0)), (0, .ref (g 29)), (1, .int za1)]) hx hb dX10_turned_31 hl (k := 1) rfl (by rfl) (by decide) rfl (fun ls hl => ?_)
          refine lv_goto (tgt := 4) hx hb dX10_turned_34 (by decide) ?_
          exact ih (x3_4 + 1) (x2_4 ||| 0) hinv ls (lv_sub hl [0, 1, 2, 3] rfl)
        · have hinv := oi_f c_19 hinv
          refine lv_iconst (v := 1) hx hb dX10_turned_22 (by decide) ?_
          refine lv_iload_n hx hb dX10_turned_23 rfl (lv_at hl 0 rfl) ?_
          refine lv_ishl hx hb dX10_turned_24 ?_
          refine lv_goto (tgt := 29) hx hb dX10_turned_25 (by decide) ?_
          refine lv_ior hx hb dX10_turned_29 ?_
          refine lv_istore_n (lv' := [(2, .int (x2_4 ||| ((1 : Int32) <<< (x3_4 &&& 31)))), (3, .int x3_4), (0, .ref (g 29)), (1, .int za1)]) hx hb dX10_turned_30 rfl hl (by decide) rfl (fun ls hl => ?_)
          refine lv_iinc (v := (x3_4 + 1)) (lv' := [(3, .int (x3_4 + 1)), (2, .int (x2_4 ||| ((1 : Int32) <<< (x3_4 &&& 31)))), (0, .ref (g 29)), (1, .int za1)]) hx hb dX10_turned_31 hl (k := 1) rfl (by rfl) (by decide) rfl (fun ls hl => ?_)
          refine lv_goto (tgt := 4) hx hb dX10_turned_34 (by decide) ?_
          exact ih (x3_4 + 1) (x2_4 ||| ((1 : Int32) <<< (x3_4 &&& 31))) hinv ls (lv_sub hl [0, 1, 2, 3] rfl)
  exact hl4 F 0 0 hinv ls (lv_sub hl [0, 1, 2, 3] rfl)
def m_X10_isAdmissible_L66 (F : Nat) (r29 : Nat → Int32) (r41 : Nat → Int32) (y3_66 : Int32) (y2_66 : Int32) : Nat → Int32 → Int32 → Option (Int32)
  | 0, _, _ => none
  | n + 1, x5_66, x4_66 => if (r29 8) ≤ x5_66 then (if x4_66 = 0 ∨ x4_66 = 1 then (some x4_66) else none) else (if x4_66 = 0 then (if x4_66 = 0 ∨ x4_66 = 1 then (some x4_66) else none) else (if ((y3_66 >>> (x5_66 &&& 31)) &&& 1) = 0 then (m_X10_isAdmissible_L66 F r29 r41 y3_66 y2_66 n (x5_66 + 1) 1) else (if ¬ (x5_66 < 0 ∨ 24 ≤ x5_66.toNatClampNeg) then (if ((r41 x5_66.toNatClampNeg) &&& y2_66) = 0 then (m_X10_isAdmissible_L66 F r29 r41 y3_66 y2_66 n (x5_66 + 1) 0) else (m_X10_isAdmissible_L66 F r29 r41 y3_66 y2_66 n (x5_66 + 1) 1)) else none)))
def m_X10_isAdmissible_L11 (F : Nat) (r29 : Nat → Int32) (r41 : Nat → Int32) (y1_11 : Int32) : Nat → Int32 → Int32 → Option (Int32 × Int32)
  | 0, _, _ => none
  | n + 1, x4_11, x3_11 => if (r29 8) ≤ x4_11 then (some (x4_11, x3_11)) else (Option.bind (m_X10_has F r29 y1_11 x4_11) (fun zu4 => if zu4 = 0 then (m_X10_isAdmissible_L11 F r29 r41 y1_11 n (x4_11 + 1) (x3_11 ||| 0)) else (if ¬ (x4_11 < 0 ∨ 24 ≤ x4_11.toNatClampNeg) then (m_X10_isAdmissible_L11 F r29 r41 y1_11 n (x4_11 + 1) (x3_11 ||| (r41 x4_11.toNatClampNeg))) else none)))
def m_X10_isAdmissible (F : Nat) (r29 : Nat → Int32) (r41 : Nat → Int32) (za1 : Int32) : Option (Int32) := Option.bind (m_X10_turned F r29 za1) (fun zu1 => Option.bind (m_X10_isAdmissible_L11 F r29 r41 za1 F 0 0) (fun zu2 => Option.bind (if (zu2.2 &&& zu1) = 0 then (some (1 : Int32)) else (some (0 : Int32))) (fun zu3 => m_X10_isAdmissible_L66 F r29 r41 zu2.2 zu1 F 0 zu3)))
set_option maxHeartbeats 4000000 in
set_option maxRecDepth 100000 in
theorem c_X10_isAdmissible {l : Launch} {D : va_G} {cy : Nat → Nat} {g : Nat → Nat} {N : Nat} {X : Nat → Nat → Int32} {F : Nat} {za1 : Int32} {R0 : Int32} (hfl : l.stackTraces = false) (hN : 47 ≤ N) (hinv : m_X10_isAdmissible F (X 29) (X 41) za1 = some R0) : sRi l D cy yX10_isAdmissible cX10_isAdmissible 6 (some .boolean) 2 [.ref (g 29), .int za1] g N X R0 := by
  refine jRz (own := RX10) (by decide) rfl hfl (Nat.le_of_ble_eq_true rfl) rfl ?_
  intro p e R s m args below meth c ls A Q hRe C hw hl hret
  subst hRe
  have hx := C.1
  have hb := C.2.1
  have hl : lv_has ls 6 [(0, .ref (g 29)), (1, .int za1)] := hl
  rw [m_X10_isAdmissible] at hinv
  refine lv_aload_n hx hb dX10_isAdmissible_0 rfl (lv_at hl 0 rfl) ?_
  refine lv_iload_n hx hb dX10_isAdmissible_1 rfl (lv_at hl 1 rfl) ?_
  obtain ⟨zu1, hzu1, hinv⟩ := ob hinv
  refine s_vRi (r0 := zu1) C hw (As := [.int za1]) bX10_turned k597 (k := 29) (q47 hN rfl) (sh_29 g cy _) rfl (c_X10_turned (X := X) hfl hN hzu1) rfl rfl dX10_isAdmissible_2 ⟨rfl, rfl⟩ (by decide) hl.1 (Nat.le_of_ble_eq_true rfl) ⟨Nat.le_of_ble_eq_true rfl, Nat.le_of_ble_eq_true rfl⟩ ?_
  refine lv_istore_n (lv' := [(2, .int zu1), (0, .ref (g 29)), (1, .int za1)]) hx hb dX10_isAdmissible_5 rfl hl (by decide) rfl (fun ls hl => ?_)
  refine lv_iconst (v := 0) hx hb dX10_isAdmissible_6 (by decide) ?_
  refine lv_istore_n (lv' := [(3, .int 0), (2, .int zu1), (0, .ref (g 29)), (1, .int za1)]) hx hb dX10_isAdmissible_7 rfl hl (by decide) rfl (fun ls hl => ?_)
  refine lv_iconst (v := 0) hx hb dX10_isAdmissible_8 (by decide) ?_
  refine lv_istore (lv' := [(4, .int 0), (3, .int 0), (2, .int zu1), (0, .ref (g 29)), (1, .int za1)]) hx hb dX10_isAdmissible_9 hl (by decide) rfl (fun ls hl => ?_)
  obtain ⟨zu2, hzu2, hinv⟩ := ob hinv
  have hx11 : ∀ (ls : Array Slot), lv_has ls 6 [(4, .int zu2.1), (3, .int zu2.2), (2, .int zu1), (0, .ref (g 29)), (1, .int za1)] → W p l e (wR 2 0 0) s m args below meth c s.heap [] 0 0 Q (F0 m 50 ls []) := by
    intro ls hl
    obtain ⟨zu3, hzu3, hinv⟩ := ob hinv
    have hx50 : ∀ (ls : Array Slot), lv_has ls 6 [(4, .int zu2.1), (3, .int zu2.2), (2, .int zu1), (0, .ref (g 29)), (1, .int za1)] → W p l e (wR 2 0 0) s m args below meth c s.heap [] 0 0 Q (F0 m 61 ls [.int zu3]) := by
      intro ls hl
      refine lv_istore (lv' := [(4, .int zu3), (3, .int zu2.2), (2, .int zu1), (0, .ref (g 29)), (1, .int za1)]) hx hb dX10_isAdmissible_61 hl (by decide) rfl (fun ls hl => ?_)
      refine lv_iconst (v := 0) hx hb dX10_isAdmissible_63 (by decide) ?_
      refine lv_istore (lv' := [(5, .int 0), (4, .int zu3), (3, .int zu2.2), (2, .int zu1), (0, .ref (g 29)), (1, .int za1)]) hx hb dX10_isAdmissible_64 hl (by decide) rfl (fun ls hl => ?_)
      have hl66 : ∀ (n : Nat) (x5_66 : Int32) (x4_66 : Int32), m_X10_isAdmissible_L66 F (X 29) (X 41) zu2.2 zu1 n x5_66 x4_66 = some R0 → ∀ (ls : Array Slot), lv_has ls 6 [(5, .int x5_66), (4, .int x4_66), (3, .int zu2.2), (2, .int zu1), (0, .ref (g 29)), (1, .int za1)] → W p l e (wR 2 0 0) s m args below meth c s.heap [] 0 0 Q (F0 m 66 ls []) := by
        intro n
        induction n with
        | zero =>
          intro x5_66 x4_66 hinv
          cases hinv
        | succ n ih =>
          intro x5_66 x4_66 hinv ls hl
          rw [m_X10_isAdmissible_L66] at hinv
          refine lv_iload hx hb dX10_isAdmissible_66 (lv_at hl 0 rfl) ?_
          refine lv_aload_n hx hb dX10_isAdmissible_68 rfl (lv_at hl 4 rfl) ?_
          refine w_get C hw (k := 29) (v := .int ((X 29) 8)) (j := 8) (q47 hN rfl) (sh_29 g cy _) rfl (by decide) k517 rfl dX10_isAdmissible_69 ?_
          refine lv_icmp_ge (tgt := 114) hx hb dX10_isAdmissible_72 (by decide) (fun c_72 => ?_) (fun c_72 => ?_)
          · have hinv := oi_t c_72 hinv
            refine lv_iload hx hb dX10_isAdmissible_114 (lv_at hl 1 rfl) ?_
            obtain ⟨hz9, hinv⟩ := oi_c hinv
            exact hret 116 ls x4_66 (Option.some.inj hinv) hz9 dX10_isAdmissible_116
          · have hinv := oi_f c_72 hinv
            refine lv_iload hx hb dX10_isAdmissible_75 (lv_at hl 1 rfl) ?_
            refine lv_if_eq (tgt := 114) hx hb dX10_isAdmissible_77 (by decide) (fun c_77 => ?_) (fun c_77 => ?_)
            · have hinv := oi_t c_77 hinv
              refine lv_iload hx hb dX10_isAdmissible_114 (lv_at hl 1 rfl) ?_
              obtain ⟨hz9, hinv⟩ := oi_c hinv
              exact hret 116 ls x4_66 (Option.some.inj hinv) hz9 dX10_isAdmissible_116
            · have hinv := oi_f c_77 hinv
              refine lv_iload_n hx hb dX10_isAdmissible_80 rfl (lv_at hl 2 rfl) ?_
              refine lv_iload hx hb dX10_isAdmissible_81 (lv_at hl 0 rfl) ?_
              refine lv_ishr hx hb dX10_isAdmissible_83 ?_
              refine lv_iconst (v := 1) hx hb dX10_isAdmissible_84 (by decide) ?_
              refine lv_iand hx hb dX10_isAdmissible_85 ?_
              refine lv_if_eq (tgt := 101) hx hb dX10_isAdmissible_86 (by decide) (fun c_86 => ?_) (fun c_86 => ?_)
              · have hinv := oi_t c_86 hinv
                refine lv_iconst (v := 1) hx hb dX10_isAdmissible_101 (by decide) ?_
                refine lv_goto (tgt := 106) hx hb dX10_isAdmissible_102 (by decide) ?_
                refine lv_istore (lv' := [(4, .int 1), (5, .int x5_66), (3, .int zu2.2), (2, .int zu1), (0, .ref (g 29)), (1, .int za1)]) hx hb dX10_isAdmissible_106 hl (by decide) rfl (fun ls hl => ?_)
                refine lv_iinc (v := (x5_66 + 1)) (lv' := [(5, .int (x5_66 + 1)), (4, .int 1), (3, .int zu2.2), (2, .int zu1), (0, .ref (g 29)), (1, .int za1)]) hx hb dX10_isAdmissible_108 hl (k := 1) rfl (by rfl) (by decide) rfl (fun ls hl => ?_)
                refine lv_goto (tgt := 66) hx hb dX10_isAdmissible_111 (by decide) ?_
                exact ih (x5_66 + 1) 1 hinv ls (lv_sub hl [0, 1, 2, 3, 4, 5] rfl)
              · have hinv := oi_f c_86 hinv
                refine lv_aload_n hx hb dX10_isAdmissible_89 rfl (lv_at hl 4 rfl) ?_
                refine w_get C hw (k := 29) (v := .ref (g 41)) (j := 15) (q47 hN rfl) (sh_29 g cy _) rfl (by decide) k480 rfl dX10_isAdmissible_90 ?_
                refine lv_iload hx hb dX10_isAdmissible_93 (lv_at hl 0 rfl) ?_
                obtain ⟨hb_95, hinv⟩ := oi_c hinv
                refine s_iald C hw (k := 41) (a := (X 41)) (q47 hN rfl) (fun r => sh_41 g cy r) rfl hb_95 dX10_isAdmissible_95 ?_
                refine lv_iload_n hx hb dX10_isAdmissible_96 rfl (lv_at hl 3 rfl) ?_
                refine lv_iand hx hb dX10_isAdmissible_97 ?_
                refine lv_if_eq (tgt := 105) hx hb dX10_isAdmissible_98 (by decide) (fun c_98 => ?_) (fun c_98 => ?_)
                · have hinv := oi_t c_98 hinv
                  refine lv_iconst (v := 0) hx hb dX10_isAdmissible_105 (by decide) ?_
                  refine lv_istore (lv' := [(4, .int 0), (5, .int x5_66), (3, .int zu2.2), (2, .int zu1), (0, .ref (g 29)), (1, .int za1)]) hx hb dX10_isAdmissible_106 hl (by decide) rfl (fun ls hl => ?_)
                  refine lv_iinc (v := (x5_66 + 1)) (lv' := [(5, .int (x5_66 + 1)), (4, .int 0), (3, .int zu2.2), (2, .int zu1), (0, .ref (g 29)), (1, .int za1)]) hx hb dX10_isAdmissible_108 hl (k := 1) rfl (by rfl) (by decide) rfl (fun ls hl => ?_)
                  refine lv_goto (tgt := 66) hx hb dX10_isAdmissible_111 (by decide) ?_
                  exact ih (x5_66 + 1) 0 hinv ls (lv_sub hl [0, 1, 2, 3, 4, 5] rfl)
                · have hinv := oi_f c_98 hinv
                  refine lv_iconst (v := 1) hx hb dX10_isAdmissible_101 (by decide) ?_
                  refine lv_goto (tgt := 106) hx hb dX10_isAdmissible_102 (by decide) ?_
                  refine lv_istore (lv' := [(4, .int 1), (5, .int x5_66), (3, .int zu2.2), (2, .int zu1), (0, .ref (g 29)), (1, .int za1)]) hx hb dX10_isAdmissible_106 hl (by decide) rfl (fun ls hl => ?_)
                  refine lv_iinc (v := (x5_66 + 1)) (lv' := [(5, .int (x5_66 + 1)), (4, .int 1), (3, .int zu2.2), (2, .int zu1), (0, .ref (g 29)), (1, .int za1)]) hx hb dX10_isAdmissible_108 hl (k := 1) rfl (by rfl) (by decide) rfl (fun ls hl => ?_)
                  refine lv_goto (tgt := 66) hx hb dX10_isAdmissible_111 (by decide) ?_
                  exact ih (x5_66 + 1) 1 hinv ls (lv_sub hl [0, 1, 2, 3, 4, 5] rfl)
      exact hl66 F 0 zu3 hinv ls (lv_sub hl [0, 1, 2, 3, 4, 5] rfl)
    have hinv := hzu3
    refine lv_iload_n hx hb dX10_isAdmissible_50 rfl (lv_at hl 1 rfl) ?_
    refine lv_iload_n hx hb dX10_isAdmissible_51 rfl (lv_at hl 2 rfl) ?_
    refine lv_iand hx hb dX10_isAdmissible_52 ?_
    refine lv_if_ne (tgt := 60) hx hb dX10_isAdmissible_53 (by decide) (fun c_53 => ?_) (fun c_53 => ?_)
    · have hinv := oi_f c_53 hinv
      refine lv_iconst (v := 0) hx hb dX10_isAdmissible_60 (by decide) ?_
      have hR9 := Option.some.inj hinv
      subst hR9
      exact hx50 ls (lv_sub hl [0, 1, 2, 3, 4] rfl)
    · have hinv := oi_t c_53 hinv
      refine lv_iconst (v := 1) hx hb dX10_isAdmissible_56 (by decide) ?_
      refine lv_goto (tgt := 61) hx hb dX10_isAdmissible_57 (by decide) ?_
      have hR9 := Option.some.inj hinv
      subst hR9
      exact hx50 ls (lv_sub hl [0, 1, 2, 3, 4] rfl)
  have hl11 : ∀ (n : Nat) (x4_11 : Int32) (x3_11 : Int32), m_X10_isAdmissible_L11 F (X 29) (X 41) za1 n x4_11 x3_11 = some zu2 → ∀ (ls : Array Slot), lv_has ls 6 [(4, .int x4_11), (3, .int x3_11), (2, .int zu1), (0, .ref (g 29)), (1, .int za1)] → W p l e (wR 2 0 0) s m args below meth c s.heap [] 0 0 Q (F0 m 11 ls []) := by
    intro n
    induction n with
    | zero =>
      intro x4_11 x3_11 hinv
      cases hinv
    | succ n ih =>
      intro x4_11 x3_11 hinv ls hl
      rw [m_X10_isAdmissible_L11] at hinv
      refine lv_iload hx hb dX10_isAdmissible_11 (lv_at hl 0 rfl) ?_
      refine lv_aload_n hx hb dX10_isAdmissible_13 rfl (lv_at hl 3 rfl) ?_
      refine w_get C hw (k := 29) (v := .int ((X 29) 8)) (j := 8) (q47 hN rfl) (sh_29 g cy _) rfl (by decide) k517 rfl dX10_isAdmissible_14 ?_
      refine lv_icmp_ge (tgt := 50) hx hb dX10_isAdmissible_17 (by decide) (fun c_17 => ?_) (fun c_17 => ?_)
      · have hinv := oi_t c_17 hinv
        have hR9 := Option.some.inj hinv
        subst hR9
        exact hx11 ls (lv_sub hl [0, 1, 2, 3, 4] rfl)
      · have hinv := oi_f c_17 hinv
        refine lv_iload_n hx hb dX10_isAdmissible_20 rfl (lv_at hl 1 rfl) ?_
        refine lv_aload_n hx hb dX10_isAdmissible_21 rfl (lv_at hl 3 rfl) ?_
        refine lv_iload_n hx hb dX10_isAdmissible_22 rfl (lv_at hl 4 rfl) ?_
        refine lv_iload hx hb dX10_isAdmissible_23 (lv_at hl 0 rfl) ?_
        obtain ⟨zu4, hzu4, hinv⟩ := ob hinv
        refine s_vRi (r0 := zu4) C hw (As := [.int za1, .int x4_11]) bX10_has k593 (k := 29) (q47 hN rfl) (sh_29 g cy _) rfl (c_X10_has (X := X) hfl hN hzu4) rfl rfl dX10_isAdmissible_25 ⟨rfl, rfl⟩ (by decide) hl.1 (Nat.le_of_ble_eq_true rfl) ⟨Nat.le_of_ble_eq_true rfl, Nat.le_of_ble_eq_true rfl⟩ ?_
        refine lv_if_eq (tgt := 41) hx hb dX10_isAdmissible_28 (by decide) (fun c_28 => ?_) (fun c_28 => ?_)
        · have hinv := oi_t c_28 hinv
          refine lv_iconst (v := 0) hx hb dX10_isAdmissible_41 (by decide) ?_
          refine lv_ior hx hb dX10_isAdmissible_42 ?_
          refine lv_istore_n (lv' := [(3, .int (x3_11 ||| 0)), (4, .int x4_11), (2, .int zu1), (0, .ref (g 29)), (1, .int za1)]) hx hb dX10_isAdmissible_43 rfl hl (by decide) rfl (fun ls hl => ?_)
          refine lv_iinc (v := (x4_11 + 1)) (lv' := [(4, .int (x4_11 + 1)), (3, .int (x3_11 ||| 0)), (2, .int zu1), (0, .ref (g 29)), (1, .int za1)]) hx hb dX10_isAdmissible_44 hl (k := 1) rfl (by rfl) (by decide) rfl (fun ls hl => ?_)
          refine lv_goto (tgt := 11) hx hb dX10_isAdmissible_47 (by decide) ?_
          exact ih (x4_11 + 1) (x3_11 ||| 0) hinv ls (lv_sub hl [0, 1, 2, 3, 4] rfl)
        · have hinv := oi_f c_28 hinv
          refine lv_aload_n hx hb dX10_isAdmissible_31 rfl (lv_at hl 3 rfl) ?_
          refine w_get C hw (k := 29) (v := .ref (g 41)) (j := 15) (q47 hN rfl) (sh_29 g cy _) rfl (by decide) k480 rfl dX10_isAdmissible_32 ?_
          refine lv_iload hx hb dX10_isAdmissible_35 (lv_at hl 0 rfl) ?_
          obtain ⟨hb_37, hinv⟩ := oi_c hinv
          refine s_iald C hw (k := 41) (a := (X 41)) (q47 hN rfl) (fun r => sh_41 g cy r) rfl hb_37 dX10_isAdmissible_37 ?_
          refine lv_goto (tgt := 42) hx hb dX10_isAdmissible_38 (by decide) ?_
          refine lv_ior hx hb dX10_isAdmissible_42 ?_
          refine lv_istore_n (lv' := [(3, .int (x3_11 ||| ((X 41) x4_11.toNatClampNeg))), (4, .int x4_11), (2, .int zu1), (0, .ref (g 29)), (1, .int za1)]) hx hb dX10_isAdmissible_43 rfl hl (by decide) rfl (fun ls hl => ?_)
          refine lv_iinc (v := (x4_11 + 1)) (lv' := [(4, .int (x4_11 + 1)), (3, .int (x3_11 ||| ((X 41) x4_11.toNatClampNeg))), (2, .int zu1), (0, .ref (g 29)), (1, .int za1)]) hx hb dX10_isAdmissible_44 hl (k := 1) rfl (by rfl) (by decide) rfl (fun ls hl => ?_)
          refine lv_goto (tgt := 11) hx hb dX10_isAdmissible_47 (by decide) ?_
          exact ih (x4_11 + 1) (x3_11 ||| ((X 41) x4_11.toNatClampNeg)) hinv ls (lv_sub hl [0, 1, 2, 3, 4] rfl)
  exact hl11 F 0 0 hzu2 ls (lv_sub hl [0, 1, 2, 3, 4] rfl)
def m_X10_prefers_L35 (F : Nat) (r29 : Nat → Int32) (y2_35 : Int32) : Nat → Int32 → (Nat → Int32) → (Nat → Int32) → Option (Int32 × (Nat → Int32) × (Nat → Int32))
  | 0, _, _, _ => none
  | n + 1, x3_35, q44_35, q45_35 => if (r29 8) ≤ x3_35 then (some (x3_35, q44_35, q45_35)) else (Option.bind (if ¬ (y2_35 < 0 ∨ 16384 ≤ y2_35.toNatClampNeg) then (if (q45_35 y2_35.toNatClampNeg) = 0 then (if (y2_35 ||| ((1 : Int32) <<< (x3_35 &&& 31))) = y2_35 then (some (0 : Int32)) else (if ¬ ((y2_35 ||| ((1 : Int32) <<< (x3_35 &&& 31))) < 0 ∨ 16384 ≤ (y2_35 ||| ((1 : Int32) <<< (x3_35 &&& 31))).toNatClampNeg) then (if (q44_35 (y2_35 ||| ((1 : Int32) <<< (x3_35 &&& 31))).toNatClampNeg) = 0 then (if ¬ ((y2_35 ||| ((1 : Int32) <<< (x3_35 &&& 31))) < 0 ∨ 16384 ≤ (y2_35 ||| ((1 : Int32) <<< (x3_35 &&& 31))).toNatClampNeg) then (if (q45_35 (y2_35 ||| ((1 : Int32) <<< (x3_35 &&& 31))).toNatClampNeg) = 0 then (some (0 : Int32)) else (some (1 : Int32))) else none) else (some (1 : Int32))) else none)) else (some (1 : Int32))) else none) (fun zu3 => if zu3 = 0 ∨ zu3 = 1 then (if ¬ (y2_35 < 0 ∨ 16384 ≤ y2_35.toNatClampNeg) then (m_X10_prefers_L35 F r29 y2_35 n (x3_35 + 1) q44_35 (upd q45_35 y2_35.toNatClampNeg zu3)) else none) else none))
def m_X10_prefers_L11 (F : Nat) (r29 : Nat → Int32) (r41 : Nat → Int32) : Nat → Int32 → Int32 → (Nat → Int32) → (Nat → Int32) → Option (Int32 × (Nat → Int32) × (Nat → Int32))
  | 0, _, _, _, _ => none
  | n + 1, x2_11, x1_11, q44_11, q45_11 => if x2_11 < 0 then (some (x1_11, q44_11, q45_11)) else (Option.bind (m_X10_isAdmissible F r29 r41 x2_11) (fun zu1 => if zu1 = 0 ∨ zu1 = 1 then (if ¬ (x2_11 < 0 ∨ 16384 ≤ x2_11.toNatClampNeg) then (if ¬ (x2_11 < 0 ∨ 16384 ≤ x2_11.toNatClampNeg) then (Option.bind (m_X10_prefers_L35 F r29 x2_11 F 0 (upd q44_11 x2_11.toNatClampNeg zu1) (upd q45_11 x2_11.toNatClampNeg 0)) (fun zu2 => if ¬ (x2_11 < 0 ∨ 16384 ≤ x2_11.toNatClampNeg) then (if (zu2.2.1 x2_11.toNatClampNeg) = 0 then (m_X10_prefers_L11 F r29 r41 n (x2_11 + (-1)) (x1_11 + 0) zu2.2.1 zu2.2.2) else (if ¬ (x2_11 < 0 ∨ 16384 ≤ x2_11.toNatClampNeg) then (if (zu2.2.2 x2_11.toNatClampNeg) = 0 then (m_X10_prefers_L11 F r29 r41 n (x2_11 + (-1)) (x1_11 + 1) zu2.2.1 zu2.2.2) else (m_X10_prefers_L11 F r29 r41 n (x2_11 + (-1)) (x1_11 + 0) zu2.2.1 zu2.2.2)) else none)) else none)) else none) else none) else none))
def m_X10_prefers (F : Nat) (r29 : Nat → Int32) (r41 : Nat → Int32) (r44 : Nat → Int32) (r45 : Nat → Int32) : Option (Int32 × (Nat → Int32) × (Nat → Int32)) := m_X10_prefers_L11 F r29 r41 F (((1 : Int32) <<< ((r29 8) &&& 31)) - 1) 0 r44 r45
set_option maxHeartbeats 4000000 in
set_option maxRecDepth 100000 in
theorem c_X10_prefers {l : Launch} {D : va_G} {cy : Nat → Nat} {g : Nat → Nat} {N : Nat} {X : Nat → Nat → Int32} {F : Nat} {R0 : Int32 × (Nat → Int32) × (Nat → Int32)} (hfl : l.stackTraces = false) (hN : 47 ≤ N) (hinv : m_X10_prefers F (X 29) (X 41) (X 44) (X 45) = some R0) : sWi l D cy yX10_prefers cX10_prefers 5 (some .int) 3 0 0 [.ref (g 29)] g N X R0.1 (up (up X 44 R0.2.1) 45 R0.2.2) := by
  refine jWi (own := RX10) (by decide) rfl hfl (Nat.le_of_ble_eq_true rfl) rfl ?_
  intro p e R s m args below meth c ls A Q hRe C hw hl hret
  subst hRe
  have hx := C.1
  have hb := C.2.1
  have hl : lv_has ls 5 [(0, .ref (g 29))] := hl
  rw [m_X10_prefers] at hinv
  refine lv_iconst (v := 0) hx hb dX10_prefers_0 (by decide) ?_
  refine lv_istore_n (lv' := [(1, .int 0), (0, .ref (g 29))]) hx hb dX10_prefers_1 rfl hl (by decide) rfl (fun ls hl => ?_)
  refine lv_iconst (v := 1) hx hb dX10_prefers_2 (by decide) ?_
  refine lv_aload_n hx hb dX10_prefers_3 rfl (lv_at hl 1 rfl) ?_
  refine w_get C hw (k := 29) (v := .int ((X 29) 8)) (j := 8) (q47 hN rfl) (sh_29 g cy _) rfl (by decide) k517 rfl dX10_prefers_4 ?_
  refine lv_ishl hx hb dX10_prefers_7 ?_
  refine lv_iconst (v := 1) hx hb dX10_prefers_8 (by decide) ?_
  refine lv_isub hx hb dX10_prefers_9 ?_
  refine lv_istore_n (lv' := [(2, .int (((1 : Int32) <<< (((X 29) 8) &&& 31)) - 1)), (1, .int 0), (0, .ref (g 29))]) hx hb dX10_prefers_10 rfl hl (by decide) rfl (fun ls hl => ?_)
  have hXe : X = (up (up X 44 (X 44)) 45 (X 45)) := by
    funext j
    by_cases h44 : j = 44
    · subst h44; simp [up]
    by_cases h45 : j = 45
    · subst h45; simp [up]
    simp [up, h44, h45]
  rw [hXe] at hw
  have hl11 : ∀ (n : Nat) (x2_11 : Int32) (x1_11 : Int32) (q44_11 : Nat → Int32) (q45_11 : Nat → Int32), m_X10_prefers_L11 F (X 29) (X 41) n x2_11 x1_11 q44_11 q45_11 = some R0 → ∀ (H : Heap) (locs : List Loc) (ls : Array Slot), Wd D A s.heap g N (shp g cy (up (up X 44 q44_11) 45 q45_11)) H locs → lv_has ls 5 [(2, .int x2_11), (1, .int x1_11), (0, .ref (g 29))] → W p l e (wR 3 0 0) s m args below meth c H locs 0 0 Q (F0 m 11 ls []) := by
    intro n
    induction n with
    | zero =>
      intro x2_11 x1_11 q44_11 q45_11 hinv
      cases hinv
    | succ n ih =>
      intro x2_11 x1_11 q44_11 q45_11 hinv H locs ls hw hl
      rw [m_X10_prefers_L11] at hinv
      refine lv_iload_n hx hb dX10_prefers_11 rfl (lv_at hl 0 rfl) ?_
      refine lv_if_lt (tgt := 134) hx hb dX10_prefers_12 (by decide) (fun c_12 => ?_) (fun c_12 => ?_)
      · have hinv := oi_t c_12 hinv
        refine lv_iload_n hx hb dX10_prefers_134 rfl (lv_at hl 1 rfl) ?_
        have hR0 := (Option.some.inj hinv).symm
        subst hR0
        exact hret 135 ls x1_11 _ _ _ _ rfl hw (by decide) (by decide) dX10_prefers_135
      · have hinv := oi_f c_12 hinv
        refine lv_aload_n hx hb dX10_prefers_15 rfl (lv_at hl 2 rfl) ?_
        refine w_get C hw (k := 29) (v := .ref (g 44)) (j := 18) (q47 hN rfl) (sh_29 g cy _) rfl (by decide) k483 rfl dX10_prefers_16 ?_
        refine lv_iload_n hx hb dX10_prefers_19 rfl (lv_at hl 0 rfl) ?_
        refine lv_aload_n hx hb dX10_prefers_20 rfl (lv_at hl 2 rfl) ?_
        refine lv_iload_n hx hb dX10_prefers_21 rfl (lv_at hl 0 rfl) ?_
        obtain ⟨zu1, hzu1, hinv⟩ := ob hinv
        refine s_vRi (r0 := zu1) C hw (As := [.int x2_11]) bX10_isAdmissible k601 (k := 29) (q47 hN rfl) (sh_29 g cy _) rfl (c_X10_isAdmissible (X := (up (up X 44 q44_11) 45 q45_11)) hfl hN hzu1) rfl rfl dX10_prefers_22 ⟨rfl, rfl⟩ (by decide) hl.1 (Nat.le_of_ble_eq_true rfl) ⟨Nat.le_of_ble_eq_true rfl, Nat.le_of_ble_eq_true rfl⟩ ?_
        obtain ⟨hz_25, hinv⟩ := oi_c hinv
        obtain ⟨hb_25, hinv⟩ := oi_c hinv
        refine s_zast C hw (k := 44) (a := q44_11) (q47 hN rfl) (fun r => sh_44 g cy r) rfl hz_25 hb_25 dX10_prefers_25 (fun H locs zw25 hw25 hw => ?_)
        try rw [← hw25] at hinv
        refine lv_aload_n hx hb dX10_prefers_26 rfl (lv_at hl 2 rfl) ?_
        refine w_get C hw (k := 29) (v := .ref (g 45)) (j := 19) (q47 hN rfl) (sh_29 g cy _) rfl (by decide) k484 rfl dX10_prefers_27 ?_
        refine lv_iload_n hx hb dX10_prefers_30 rfl (lv_at hl 0 rfl) ?_
        refine lv_iconst (v := 0) hx hb dX10_prefers_31 (by decide) ?_
        obtain ⟨hb_32, hinv⟩ := oi_c hinv
        refine s_zast C hw (k := 45) (a := q45_11) (q47 hN rfl) (fun r => sh_45 g cy r) rfl (by decide) hb_32 dX10_prefers_32 (fun H locs zw32 hw32 hw => ?_)
        try rw [← hw32] at hinv
        refine lv_iconst (v := 0) hx hb dX10_prefers_33 (by decide) ?_
        refine lv_istore_n (lv' := [(3, .int 0), (2, .int x2_11), (1, .int x1_11), (0, .ref (g 29))]) hx hb dX10_prefers_34 rfl hl (by decide) rfl (fun ls hl => ?_)
        have hXe : (up (up (up (up X 44 q44_11) 45 q45_11) 44 zw25) 45 zw32) = (up (up X 44 zw25) 45 zw32) := by
          funext j
          by_cases h44 : j = 44
          · subst h44; simp [up]
          by_cases h45 : j = 45
          · subst h45; simp [up]
          simp [up, h44, h45]
        rw [hXe] at hw
        obtain ⟨zu2, hzu2, hinv⟩ := ob hinv
        have hx35 : ∀ (H : Heap) (locs : List Loc) (ls : Array Slot), Wd D A s.heap g N (shp g cy (up (up X 44 zu2.2.1) 45 zu2.2.2)) H locs → lv_has ls 5 [(3, .int zu2.1), (2, .int x2_11), (1, .int x1_11), (0, .ref (g 29))] → W p l e (wR 3 0 0) s m args below meth c H locs 0 0 Q (F0 m 102 ls []) := by
          intro H locs ls hw hl
          refine lv_iload_n hx hb dX10_prefers_102 rfl (lv_at hl 2 rfl) ?_
          refine lv_aload_n hx hb dX10_prefers_103 rfl (lv_at hl 3 rfl) ?_
          refine w_get C hw (k := 29) (v := .ref (g 44)) (j := 18) (q47 hN rfl) (sh_29 g cy _) rfl (by decide) k483 rfl dX10_prefers_104 ?_
          refine lv_iload_n hx hb dX10_prefers_107 rfl (lv_at hl 1 rfl) ?_
          obtain ⟨hb_108, hinv⟩ := oi_c hinv
          refine s_zald C hw (k := 44) (a := zu2.2.1) (q47 hN rfl) (fun r => sh_44 g cy r) rfl hb_108 dX10_prefers_108 ?_
          refine lv_if_eq (tgt := 125) hx hb dX10_prefers_109 (by decide) (fun c_109 => ?_) (fun c_109 => ?_)
          · have hinv := oi_t c_109 hinv
            refine lv_iconst (v := 0) hx hb dX10_prefers_125 (by decide) ?_
            refine lv_iadd hx hb dX10_prefers_126 ?_
            refine lv_istore_n (lv' := [(1, .int (x1_11 + 0)), (3, .int zu2.1), (2, .int x2_11), (0, .ref (g 29))]) hx hb dX10_prefers_127 rfl hl (by decide) rfl (fun ls hl => ?_)
            refine lv_iinc (v := (x2_11 + (-1))) (lv' := [(2, .int (x2_11 + (-1))), (1, .int (x1_11 + 0)), (3, .int zu2.1), (0, .ref (g 29))]) hx hb dX10_prefers_128 hl (k := 2) rfl (by rfl) (by decide) rfl (fun ls hl => ?_)
            refine lv_goto (tgt := 11) hx hb dX10_prefers_131 (by decide) ?_
            exact ih (x2_11 + (-1)) (x1_11 + 0) zu2.2.1 zu2.2.2 hinv _ _ ls hw (lv_sub hl [0, 1, 3] rfl)
          · have hinv := oi_f c_109 hinv
            refine lv_aload_n hx hb dX10_prefers_112 rfl (lv_at hl 3 rfl) ?_
            refine w_get C hw (k := 29) (v := .ref (g 45)) (j := 19) (q47 hN rfl) (sh_29 g cy _) rfl (by decide) k484 rfl dX10_prefers_113 ?_
            refine lv_iload_n hx hb dX10_prefers_116 rfl (lv_at hl 1 rfl) ?_
            obtain ⟨hb_117, hinv⟩ := oi_c hinv
            refine s_zald C hw (k := 45) (a := zu2.2.2) (q47 hN rfl) (fun r => sh_45 g cy r) rfl hb_117 dX10_prefers_117 ?_
            refine lv_if_ne (tgt := 125) hx hb dX10_prefers_118 (by decide) (fun c_118 => ?_) (fun c_118 => ?_)
            · have hinv := oi_f c_118 hinv
              refine lv_iconst (v := 0) hx hb dX10_prefers_125 (by decide) ?_
              refine lv_iadd hx hb dX10_prefers_126 ?_
              refine lv_istore_n (lv' := [(1, .int (x1_11 + 0)), (3, .int zu2.1), (2, .int x2_11), (0, .ref (g 29))]) hx hb dX10_prefers_127 rfl hl (by decide) rfl (fun ls hl => ?_)
              refine lv_iinc (v := (x2_11 + (-1))) (lv' := [(2, .int (x2_11 + (-1))), (1, .int (x1_11 + 0)), (3, .int zu2.1), (0, .ref (g 29))]) hx hb dX10_prefers_128 hl (k := 2) rfl (by rfl) (by decide) rfl (fun ls hl => ?_)
              refine lv_goto (tgt := 11) hx hb dX10_prefers_131 (by decide) ?_
              exact ih (x2_11 + (-1)) (x1_11 + 0) zu2.2.1 zu2.2.2 hinv _ _ ls hw (lv_sub hl [0, 1, 3] rfl)
            · have hinv := oi_t c_118 hinv
              refine lv_iconst (v := 1) hx hb dX10_prefers_121 (by decide) ?_
              refine lv_goto (tgt := 126) hx hb dX10_prefers_122 (by decide) ?_
              refine lv_iadd hx hb dX10_prefers_126 ?_
              refine lv_istore_n (lv' := [(1, .int (x1_11 + 1)), (3, .int zu2.1), (2, .int x2_11), (0, .ref (g 29))]) hx hb dX10_prefers_127 rfl hl (by decide) rfl (fun ls hl => ?_)
              refine lv_iinc (v := (x2_11 + (-1))) (lv' := [(2, .int (x2_11 + (-1))), (1, .int (x1_11 + 1)), (3, .int zu2.1), (0, .ref (g 29))]) hx hb dX10_prefers_128 hl (k := 2) rfl (by rfl) (by decide) rfl (fun ls hl => ?_)
              refine lv_goto (tgt := 11) hx hb dX10_prefers_131 (by decide) ?_
              exact ih (x2_11 + (-1)) (x1_11 + 1) zu2.2.1 zu2.2.2 hinv _ _ ls hw (lv_sub hl [0, 1, 3] rfl)
        have hl35 : ∀ (n : Nat) (x3_35 : Int32) (q44_35 : Nat → Int32) (q45_35 : Nat → Int32), m_X10_prefers_L35 F (X 29) x2_11 n x3_35 q44_35 q45_35 = some zu2 → ∀ (H : Heap) (locs : List Loc) (ls : Array Slot), Wd D A s.heap g N (shp g cy (up (up X 44 q44_35) 45 q45_35)) H locs → lv_has ls 5 [(3, .int x3_35), (2, .int x2_11), (1, .int x1_11), (0, .ref (g 29))] → W p l e (wR 3 0 0) s m args below meth c H locs 0 0 Q (F0 m 35 ls []) := by
          intro n
          induction n with
          | zero =>
            intro x3_35 q44_35 q45_35 hinv
            cases hinv
          | succ n ih =>
            intro x3_35 q44_35 q45_35 hinv H locs ls hw hl
            rw [m_X10_prefers_L35] at hinv
            refine lv_iload_n hx hb dX10_prefers_35 rfl (lv_at hl 0 rfl) ?_
            refine lv_aload_n hx hb dX10_prefers_36 rfl (lv_at hl 3 rfl) ?_
            refine w_get C hw (k := 29) (v := .int ((X 29) 8)) (j := 8) (q47 hN rfl) (sh_29 g cy _) rfl (by decide) k517 rfl dX10_prefers_37 ?_
            refine lv_icmp_ge (tgt := 102) hx hb dX10_prefers_40 (by decide) (fun c_40 => ?_) (fun c_40 => ?_)
            · have hinv := oi_t c_40 hinv
              have hR9 := Option.some.inj hinv
              subst hR9
              exact hx35 _ _ ls hw (lv_sub hl [0, 1, 2, 3] rfl)
            · have hinv := oi_f c_40 hinv
              refine lv_iload_n hx hb dX10_prefers_43 rfl (lv_at hl 1 rfl) ?_
              refine lv_iconst (v := 1) hx hb dX10_prefers_44 (by decide) ?_
              refine lv_iload_n hx hb dX10_prefers_45 rfl (lv_at hl 0 rfl) ?_
              refine lv_ishl hx hb dX10_prefers_46 ?_
              refine lv_ior hx hb dX10_prefers_47 ?_
              refine lv_istore (lv' := [(4, .int (x2_11 ||| ((1 : Int32) <<< (x3_35 &&& 31)))), (3, .int x3_35), (2, .int x2_11), (1, .int x1_11), (0, .ref (g 29))]) hx hb dX10_prefers_48 hl (by decide) rfl (fun ls hl => ?_)
              refine lv_aload_n hx hb dX10_prefers_50 rfl (lv_at hl 4 rfl) ?_
              refine w_get C hw (k := 29) (v := .ref (g 45)) (j := 19) (q47 hN rfl) (sh_29 g cy _) rfl (by decide) k484 rfl dX10_prefers_51 ?_
              refine lv_iload_n hx hb dX10_prefers_54 rfl (lv_at hl 2 rfl) ?_
              obtain ⟨zu3, hzu3, hinv⟩ := ob hinv
              have hx55 : ∀ (H : Heap) (locs : List Loc) (ls : Array Slot), Wd D A s.heap g N (shp g cy (up (up X 44 q44_35) 45 q45_35)) H locs → lv_has ls 5 [(4, .int (x2_11 ||| ((1 : Int32) <<< (x3_35 &&& 31)))), (3, .int x3_35), (2, .int x2_11), (1, .int x1_11), (0, .ref (g 29))] → W p l e (wR 3 0 0) s m args below meth c H locs 0 0 Q (F0 m 95 ls [.int zu3, .int x2_11, .ref (g 45)]) := by
                intro H locs ls hw hl
                obtain ⟨hz_95, hinv⟩ := oi_c hinv
                obtain ⟨hb_95, hinv⟩ := oi_c hinv
                refine s_zast C hw (k := 45) (a := q45_35) (q47 hN rfl) (fun r => sh_45 g cy r) rfl hz_95 hb_95 dX10_prefers_95 (fun H locs zw95 hw95 hw => ?_)
                try rw [← hw95] at hinv
                rw [up_up] at hw
                refine lv_iinc (v := (x3_35 + 1)) (lv' := [(3, .int (x3_35 + 1)), (4, .int (x2_11 ||| ((1 : Int32) <<< (x3_35 &&& 31)))), (2, .int x2_11), (1, .int x1_11), (0, .ref (g 29))]) hx hb dX10_prefers_96 hl (k := 1) rfl (by rfl) (by decide) rfl (fun ls hl => ?_)
                refine lv_goto (tgt := 35) hx hb dX10_prefers_99 (by decide) ?_
                exact ih (x3_35 + 1) q44_35 zw95 hinv _ _ ls hw (lv_sub hl [0, 2, 3, 4] rfl)
              have hinv := hzu3
              refine lv_aload_n hx hb dX10_prefers_55 rfl (lv_at hl 4 rfl) ?_
              refine w_get C hw (k := 29) (v := .ref (g 45)) (j := 19) (q47 hN rfl) (sh_29 g cy _) rfl (by decide) k484 rfl dX10_prefers_56 ?_
              refine lv_iload_n hx hb dX10_prefers_59 rfl (lv_at hl 2 rfl) ?_
              obtain ⟨hb_60, hinv⟩ := oi_c hinv
              refine s_zald C hw (k := 45) (a := q45_35) (q47 hN rfl) (fun r => sh_45 g cy r) rfl hb_60 dX10_prefers_60 ?_
              refine lv_if_ne (tgt := 90) hx hb dX10_prefers_61 (by decide) (fun c_61 => ?_) (fun c_61 => ?_)
              · have hinv := oi_f c_61 hinv
                refine lv_iconst (v := 1) hx hb dX10_prefers_90 (by decide) ?_
                refine lv_goto (tgt := 95) hx hb dX10_prefers_91 (by decide) ?_
                have hR9 := Option.some.inj hinv
                subst hR9
                exact hx55 _ _ ls hw (lv_sub hl [0, 1, 2, 3, 4] rfl)
              · have hinv := oi_t c_61 hinv
                refine lv_iload hx hb dX10_prefers_64 (lv_at hl 0 rfl) ?_
                refine lv_iload_n hx hb dX10_prefers_66 rfl (lv_at hl 2 rfl) ?_
                refine lv_icmp_eq (tgt := 94) hx hb dX10_prefers_67 (by decide) (fun c_67 => ?_) (fun c_67 => ?_)
                · have hinv := oi_t c_67 hinv
                  refine lv_iconst (v := 0) hx hb dX10_prefers_94 (by decide) ?_
                  have hR9 := Option.some.inj hinv
                  subst hR9
                  exact hx55 _ _ ls hw (lv_sub hl [0, 1, 2, 3, 4] rfl)
                · have hinv := oi_f c_67 hinv
                  refine lv_aload_n hx hb dX10_prefers_70 rfl (lv_at hl 4 rfl) ?_
                  refine w_get C hw (k := 29) (v := .ref (g 44)) (j := 18) (q47 hN rfl) (sh_29 g cy _) rfl (by decide) k483 rfl dX10_prefers_71 ?_
                  refine lv_iload hx hb dX10_prefers_74 (lv_at hl 0 rfl) ?_
                  obtain ⟨hb_76, hinv⟩ := oi_c hinv
                  refine s_zald C hw (k := 44) (a := q44_35) (q47 hN rfl) (fun r => sh_44 g cy r) rfl hb_76 dX10_prefers_76 ?_
                  refine lv_if_ne (tgt := 90) hx hb dX10_prefers_77 (by decide) (fun c_77 => ?_) (fun c_77 => ?_)
                  · have hinv := oi_f c_77 hinv
                    refine lv_iconst (v := 1) hx hb dX10_prefers_90 (by decide) ?_
                    refine lv_goto (tgt := 95) hx hb dX10_prefers_91 (by decide) ?_
                    have hR9 := Option.some.inj hinv
                    subst hR9
                    exact hx55 _ _ ls hw (lv_sub hl [0, 1, 2, 3, 4] rfl)
                  · have hinv := oi_t c_77 hinv
                    refine lv_aload_n hx hb dX10_prefers_80 rfl (lv_at hl 4 rfl) ?_
                    refine w_get C hw (k := 29) (v := .ref (g 45)) (j := 19) (q47 hN rfl) (sh_29 g cy _) rfl (by decide) k484 rfl dX10_prefers_81 ?_
                    refine lv_iload hx hb dX10_prefers_84 (lv_at hl 0 rfl) ?_
                    obtain ⟨hb_86, hinv⟩ := oi_c hinv
                    refine s_zald C hw (k := 45) (a := q45_35) (q47 hN rfl) (fun r => sh_45 g cy r) rfl hb_86 dX10_prefers_86 ?_
                    refine lv_if_eq (tgt := 94) hx hb dX10_prefers_87 (by decide) (fun c_87 => ?_) (fun c_87 => ?_)
                    · have hinv := oi_t c_87 hinv
                      refine lv_iconst (v := 0) hx hb dX10_prefers_94 (by decide) ?_
                      have hR9 := Option.some.inj hinv
                      subst hR9
                      exact hx55 _ _ ls hw (lv_sub hl [0, 1, 2, 3, 4] rfl)
                    · have hinv := oi_f c_87 hinv
                      refine lv_iconst (v := 1) hx hb dX10_prefers_90 (by decide) ?_
                      refine lv_goto (tgt := 95) hx hb dX10_prefers_91 (by decide) ?_
                      have hR9 := Option.some.inj hinv
                      subst hR9
                      exact hx55 _ _ ls hw (lv_sub hl [0, 1, 2, 3, 4] rfl)
        exact hl35 F 0 zw25 zw32 hzu2 _ _ ls hw (lv_sub hl [0, 1, 2, 3] rfl)
  exact hl11 F (((1 : Int32) <<< (((X 29) 8) &&& 31)) - 1) 0 (X 44) (X 45) hinv _ _ ls hw (lv_sub hl [0, 1, 2] rfl)
def m_X10_areFew (F : Nat) (r29 : Nat → Int32) (r30 : Nat → Int32) (r31 : Nat → Int32) (r32 : Nat → Int32) (r33 : Nat → Int32) (r34 : Nat → Int32) (r35 : Nat → Int32) (r36 : Nat → Int32) (r37 : Nat → Int32) (r38 : Nat → Int32) (r39 : Nat → Int32) (r40 : Nat → Int32) (r41 : Nat → Int32) (za1 : Int32) : Option (Int32 × (Nat → Int32) × (Nat → Int32) × (Nat → Int32) × (Nat → Int32) × (Nat → Int32) × (Nat → Int32) × (Nat → Int32)) := Option.bind (m_X10_builds F r29 r30 r31 r32 r35 r36 r37 r38 r39 r40) (fun zu1 => if (zu1.1 9) = 0 then (if (zu1.1 8) ≤ 14 then (Option.bind (m_X10_laysAttacks F zu1.1 r33 r34 zu1.2.1 zu1.2.2.1 zu1.2.2.2.2.2 r41) (fun zu2 => some (1, (upd zu1.1 0 0), zu1.2.1, zu1.2.2.1, zu1.2.2.2.1, zu1.2.2.2.2.1, zu1.2.2.2.2.2, zu2))) else (some (0, (upd zu1.1 0 za1), zu1.2.1, zu1.2.2.1, zu1.2.2.2.1, zu1.2.2.2.2.1, zu1.2.2.2.2.2, r41))) else (some (0, (upd zu1.1 0 za1), zu1.2.1, zu1.2.2.1, zu1.2.2.2.1, zu1.2.2.2.2.1, zu1.2.2.2.2.2, r41)))
set_option maxHeartbeats 4000000 in
set_option maxRecDepth 100000 in
theorem c_X10_areFew {l : Launch} {D : va_G} {cy : Nat → Nat} {g : Nat → Nat} {N : Nat} {X : Nat → Nat → Int32} {F : Nat} {za1 : Int32} {R0 : Int32 × (Nat → Int32) × (Nat → Int32) × (Nat → Int32) × (Nat → Int32) × (Nat → Int32) × (Nat → Int32) × (Nat → Int32)} (hfl : l.stackTraces = false) (hN : 47 ≤ N) (hinv : m_X10_areFew F (X 29) (X 30) (X 31) (X 32) (X 33) (X 34) (X 35) (X 36) (X 37) (X 38) (X 39) (X 40) (X 41) za1 = some R0) : sWi l D cy yX10_areFew cX10_areFew 2 (some .boolean) 4 0 0 [.ref (g 29), .int za1] g N X R0.1 (up (up (up (up (up (up (up X 29 R0.2.1) 36 R0.2.2.1) 37 R0.2.2.2.1) 38 R0.2.2.2.2.1) 39 R0.2.2.2.2.2.1) 40 R0.2.2.2.2.2.2.1) 41 R0.2.2.2.2.2.2.2) := by
  refine jWz (own := RX10) (by decide) rfl hfl (Nat.le_of_ble_eq_true rfl) rfl ?_
  intro p e R s m args below meth c ls A Q hRe C hw hl hret
  subst hRe
  have hx := C.1
  have hb := C.2.1
  have hl : lv_has ls 2 [(0, .ref (g 29)), (1, .int za1)] := hl
  rw [m_X10_areFew] at hinv
  refine lv_aload_n hx hb dX10_areFew_0 rfl (lv_at hl 0 rfl) ?_
  obtain ⟨zu1, hzu1, hinv⟩ := ob hinv
  refine s_vWv C hw (As := []) bX10_builds k551 (k := 29) (q47 hN rfl) (sh_29 g cy _) rfl (c_X10_builds (X := X) hfl hN hzu1) rfl rfl dX10_areFew_1 ⟨rfl, rfl⟩ (by decide) hl.1 (Nat.le_of_ble_eq_true rfl) ⟨Nat.le_of_ble_eq_true rfl, Nat.le_of_ble_eq_true rfl⟩ (fun H locs hw => ?_)
  refine lv_aload_n hx hb dX10_areFew_4 rfl (lv_at hl 0 rfl) ?_
  refine w_get C hw (k := 29) (v := .int (zu1.1 9)) (j := 9) (q47 hN rfl) (sh_29 g cy _) rfl (by decide) k518 rfl dX10_areFew_5 ?_
  refine lv_if_ne (tgt := 20) hx hb dX10_areFew_8 (by decide) (fun c_8 => ?_) (fun c_8 => ?_)
  · have hinv := oi_f c_8 hinv
    refine lv_aload_n hx hb dX10_areFew_20 rfl (lv_at hl 0 rfl) ?_
    refine lv_iload_n hx hb dX10_areFew_21 rfl (lv_at hl 1 rfl) ?_
    refine s_put C hw (k := 29) (row := (upd zu1.1 0 za1)) (ty := tyX10) (v := .int za1) (j := 0) (q47 hN rfl) (sh_29 g cy _) rfl tyX10_ok nmX10 (by decide) k486 rfl rfl rfl (Nat.le_of_ble_eq_true rfl) (sh_29 g cy _) dX10_areFew_22 (fun H locs hw => ?_)
    refine lv_iconst (v := 0) hx hb dX10_areFew_25 (by decide) ?_
    have hR0 := (Option.some.inj hinv).symm
    subst hR0
    have hXe : (up (up (up (up (up (up (up X 29 zu1.1) 36 zu1.2.1) 37 zu1.2.2.1) 38 zu1.2.2.2.1) 39 zu1.2.2.2.2.1) 40 zu1.2.2.2.2.2) 29 (upd zu1.1 0 za1)) = (up (up (up (up (up (up (up X 29 (upd zu1.1 0 za1)) 36 zu1.2.1) 37 zu1.2.2.1) 38 zu1.2.2.2.1) 39 zu1.2.2.2.2.1) 40 zu1.2.2.2.2.2) 41 (X 41)) := by
      funext j
      by_cases h29 : j = 29
      · subst h29; simp [up]
      by_cases h36 : j = 36
      · subst h36; simp [up]
      by_cases h37 : j = 37
      · subst h37; simp [up]
      by_cases h38 : j = 38
      · subst h38; simp [up]
      by_cases h39 : j = 39
      · subst h39; simp [up]
      by_cases h40 : j = 40
      · subst h40; simp [up]
      by_cases h41 : j = 41
      · subst h41; simp [up]
      simp [up, h29, h36, h37, h38, h39, h40, h41]
    rw [hXe] at hw
    exact hret 26 ls 0 _ _ _ _ rfl (by decide) hw (by decide) (by decide) dX10_areFew_26
  · have hinv := oi_t c_8 hinv
    refine lv_aload_n hx hb dX10_areFew_11 rfl (lv_at hl 0 rfl) ?_
    refine w_get C hw (k := 29) (v := .int (zu1.1 8)) (j := 8) (q47 hN rfl) (sh_29 g cy _) rfl (by decide) k517 rfl dX10_areFew_12 ?_
    refine lv_bipush (v := 14) hx hb dX10_areFew_15 (by decide) ?_
    refine lv_icmp_le (tgt := 27) hx hb dX10_areFew_17 (by decide) (fun c_17 => ?_) (fun c_17 => ?_)
    · have hinv := oi_t c_17 hinv
      refine lv_aload_n hx hb dX10_areFew_27 rfl (lv_at hl 0 rfl) ?_
      obtain ⟨zu2, hzu2, hinv⟩ := ob hinv
      refine s_vWv C hw (As := []) bX10_laysAttacks k554 (k := 29) (q47 hN rfl) (sh_29 g cy _) rfl (c_X10_laysAttacks (X := (up (up (up (up (up (up X 29 zu1.1) 36 zu1.2.1) 37 zu1.2.2.1) 38 zu1.2.2.2.1) 39 zu1.2.2.2.2.1) 40 zu1.2.2.2.2.2)) hfl hN hzu2) rfl rfl dX10_areFew_28 ⟨rfl, rfl⟩ (by decide) hl.1 (Nat.le_of_ble_eq_true rfl) ⟨Nat.le_of_ble_eq_true rfl, Nat.le_of_ble_eq_true rfl⟩ (fun H locs hw => ?_)
      refine lv_aload_n hx hb dX10_areFew_31 rfl (lv_at hl 0 rfl) ?_
      refine lv_iconst (v := 0) hx hb dX10_areFew_32 (by decide) ?_
      refine s_put C hw (k := 29) (row := (upd zu1.1 0 0)) (ty := tyX10) (v := .int 0) (j := 0) (q47 hN rfl) (sh_29 g cy _) rfl tyX10_ok nmX10 (by decide) k486 rfl rfl rfl (Nat.le_of_ble_eq_true rfl) (sh_29 g cy _) dX10_areFew_33 (fun H locs hw => ?_)
      refine lv_iconst (v := 1) hx hb dX10_areFew_36 (by decide) ?_
      have hR0 := (Option.some.inj hinv).symm
      subst hR0
      have hXe : (up (up (up (up (up (up (up (up X 29 zu1.1) 36 zu1.2.1) 37 zu1.2.2.1) 38 zu1.2.2.2.1) 39 zu1.2.2.2.2.1) 40 zu1.2.2.2.2.2) 41 zu2) 29 (upd zu1.1 0 0)) = (up (up (up (up (up (up (up X 29 (upd zu1.1 0 0)) 36 zu1.2.1) 37 zu1.2.2.1) 38 zu1.2.2.2.1) 39 zu1.2.2.2.2.1) 40 zu1.2.2.2.2.2) 41 zu2) := by
        funext j
        by_cases h29 : j = 29
        · subst h29; simp [up]
        by_cases h36 : j = 36
        · subst h36; simp [up]
        by_cases h37 : j = 37
        · subst h37; simp [up]
        by_cases h38 : j = 38
        · subst h38; simp [up]
        by_cases h39 : j = 39
        · subst h39; simp [up]
        by_cases h40 : j = 40
        · subst h40; simp [up]
        by_cases h41 : j = 41
        · subst h41; simp [up]
        simp [up, h29, h36, h37, h38, h39, h40, h41]
      rw [hXe] at hw
      exact hret 37 ls 1 _ _ _ _ rfl (by decide) hw (by decide) (by decide) dX10_areFew_37
    · have hinv := oi_f c_17 hinv
      refine lv_aload_n hx hb dX10_areFew_20 rfl (lv_at hl 0 rfl) ?_
      refine lv_iload_n hx hb dX10_areFew_21 rfl (lv_at hl 1 rfl) ?_
      refine s_put C hw (k := 29) (row := (upd zu1.1 0 za1)) (ty := tyX10) (v := .int za1) (j := 0) (q47 hN rfl) (sh_29 g cy _) rfl tyX10_ok nmX10 (by decide) k486 rfl rfl rfl (Nat.le_of_ble_eq_true rfl) (sh_29 g cy _) dX10_areFew_22 (fun H locs hw => ?_)
      refine lv_iconst (v := 0) hx hb dX10_areFew_25 (by decide) ?_
      have hR0 := (Option.some.inj hinv).symm
      subst hR0
      have hXe : (up (up (up (up (up (up (up X 29 zu1.1) 36 zu1.2.1) 37 zu1.2.2.1) 38 zu1.2.2.2.1) 39 zu1.2.2.2.2.1) 40 zu1.2.2.2.2.2) 29 (upd zu1.1 0 za1)) = (up (up (up (up (up (up (up X 29 (upd zu1.1 0 za1)) 36 zu1.2.1) 37 zu1.2.2.1) 38 zu1.2.2.2.1) 39 zu1.2.2.2.2.1) 40 zu1.2.2.2.2.2) 41 (X 41)) := by
        funext j
        by_cases h29 : j = 29
        · subst h29; simp [up]
        by_cases h36 : j = 36
        · subst h36; simp [up]
        by_cases h37 : j = 37
        · subst h37; simp [up]
        by_cases h38 : j = 38
        · subst h38; simp [up]
        by_cases h39 : j = 39
        · subst h39; simp [up]
        by_cases h40 : j = 40
        · subst h40; simp [up]
        by_cases h41 : j = 41
        · subst h41; simp [up]
        simp [up, h29, h36, h37, h38, h39, h40, h41]
      rw [hXe] at hw
      exact hret 26 ls 0 _ _ _ _ rfl (by decide) hw (by decide) (by decide) dX10_areFew_26
def m_X10_preferred (F : Nat) (r29 : Nat → Int32) (r30 : Nat → Int32) (r31 : Nat → Int32) (r32 : Nat → Int32) (r33 : Nat → Int32) (r34 : Nat → Int32) (r35 : Nat → Int32) (r36 : Nat → Int32) (r37 : Nat → Int32) (r38 : Nat → Int32) (r39 : Nat → Int32) (r40 : Nat → Int32) (r41 : Nat → Int32) (r44 : Nat → Int32) (r45 : Nat → Int32) : Option (Int32 × (Nat → Int32) × (Nat → Int32) × (Nat → Int32) × (Nat → Int32) × (Nat → Int32) × (Nat → Int32) × (Nat → Int32) × (Nat → Int32) × (Nat → Int32)) := Option.bind (m_X10_areFew F r29 r30 r31 r32 r33 r34 r35 r36 r37 r38 r39 r40 r41 1) (fun zu1 => if zu1.1 = 0 then (some (0, zu1.2.1, zu1.2.2.1, zu1.2.2.2.1, zu1.2.2.2.2.1, zu1.2.2.2.2.2.1, zu1.2.2.2.2.2.2.1, zu1.2.2.2.2.2.2.2, r44, r45)) else (Option.bind (m_X10_prefers F zu1.2.1 zu1.2.2.2.2.2.2.2 r44 r45) (fun zu2 => some (zu2.1, zu1.2.1, zu1.2.2.1, zu1.2.2.2.1, zu1.2.2.2.2.1, zu1.2.2.2.2.2.1, zu1.2.2.2.2.2.2.1, zu1.2.2.2.2.2.2.2, zu2.2.1, zu2.2.2))))
set_option maxHeartbeats 4000000 in
set_option maxRecDepth 100000 in
theorem c_X10_preferred {l : Launch} {D : va_G} {cy : Nat → Nat} {g : Nat → Nat} {N : Nat} {X : Nat → Nat → Int32} {F : Nat} {R0 : Int32 × (Nat → Int32) × (Nat → Int32) × (Nat → Int32) × (Nat → Int32) × (Nat → Int32) × (Nat → Int32) × (Nat → Int32) × (Nat → Int32) × (Nat → Int32)} (hfl : l.stackTraces = false) (hN : 47 ≤ N) (hinv : m_X10_preferred F (X 29) (X 30) (X 31) (X 32) (X 33) (X 34) (X 35) (X 36) (X 37) (X 38) (X 39) (X 40) (X 41) (X 44) (X 45) = some R0) : sWi l D cy yX10_preferred cX10_preferred 1 (some .int) 5 0 0 [.ref (g 29)] g N X R0.1 (up (up (up (up (up (up (up (up (up X 29 R0.2.1) 36 R0.2.2.1) 37 R0.2.2.2.1) 38 R0.2.2.2.2.1) 39 R0.2.2.2.2.2.1) 40 R0.2.2.2.2.2.2.1) 41 R0.2.2.2.2.2.2.2.1) 44 R0.2.2.2.2.2.2.2.2.1) 45 R0.2.2.2.2.2.2.2.2.2) := by
  refine jWi (own := RX10) (by decide) rfl hfl (Nat.le_of_ble_eq_true rfl) rfl ?_
  intro p e R s m args below meth c ls A Q hRe C hw hl hret
  subst hRe
  have hx := C.1
  have hb := C.2.1
  have hl : lv_has ls 1 [(0, .ref (g 29))] := hl
  rw [m_X10_preferred] at hinv
  refine lv_aload_n hx hb dX10_preferred_0 rfl (lv_at hl 0 rfl) ?_
  refine lv_iconst (v := 1) hx hb dX10_preferred_1 (by decide) ?_
  obtain ⟨zu1, hzu1, hinv⟩ := ob hinv
  refine s_vWi (r0 := zu1.1) C hw (As := [.int 1]) bX10_areFew k605 (k := 29) (q47 hN rfl) (sh_29 g cy _) rfl (c_X10_areFew (X := X) hfl hN hzu1) rfl rfl dX10_preferred_2 ⟨rfl, rfl⟩ (by decide) hl.1 (Nat.le_of_ble_eq_true rfl) ⟨Nat.le_of_ble_eq_true rfl, Nat.le_of_ble_eq_true rfl⟩ (fun H locs hw => ?_)
  refine lv_if_eq (tgt := 15) hx hb dX10_preferred_5 (by decide) (fun c_5 => ?_) (fun c_5 => ?_)
  · have hinv := oi_t c_5 hinv
    refine lv_iconst (v := 0) hx hb dX10_preferred_15 (by decide) ?_
    have hR0 := (Option.some.inj hinv).symm
    subst hR0
    have hXe : (up (up (up (up (up (up (up X 29 zu1.2.1) 36 zu1.2.2.1) 37 zu1.2.2.2.1) 38 zu1.2.2.2.2.1) 39 zu1.2.2.2.2.2.1) 40 zu1.2.2.2.2.2.2.1) 41 zu1.2.2.2.2.2.2.2) = (up (up (up (up (up (up (up (up (up X 29 zu1.2.1) 36 zu1.2.2.1) 37 zu1.2.2.2.1) 38 zu1.2.2.2.2.1) 39 zu1.2.2.2.2.2.1) 40 zu1.2.2.2.2.2.2.1) 41 zu1.2.2.2.2.2.2.2) 44 (X 44)) 45 (X 45)) := by
      funext j
      by_cases h29 : j = 29
      · subst h29; simp [up]
      by_cases h36 : j = 36
      · subst h36; simp [up]
      by_cases h37 : j = 37
      · subst h37; simp [up]
      by_cases h38 : j = 38
      · subst h38; simp [up]
      by_cases h39 : j = 39
      · subst h39; simp [up]
      by_cases h40 : j = 40
      · subst h40; simp [up]
      by_cases h41 : j = 41
      · subst h41; simp [up]
      by_cases h44 : j = 44
      · subst h44; simp [up]
      by_cases h45 : j = 45
      · subst h45; simp [up]
      simp [up, h29, h36, h37, h38, h39, h40, h41, h44, h45]
    rw [hXe] at hw
    exact hret 16 ls 0 _ _ _ _ rfl hw (by decide) (by decide) dX10_preferred_16
  · have hinv := oi_f c_5 hinv
    refine lv_aload_n hx hb dX10_preferred_8 rfl (lv_at hl 0 rfl) ?_
    obtain ⟨zu2, hzu2, hinv⟩ := ob hinv
    refine s_vWi (r0 := zu2.1) C hw (As := []) bX10_prefers k608 (k := 29) (q47 hN rfl) (sh_29 g cy _) rfl (c_X10_prefers (X := (up (up (up (up (up (up (up X 29 zu1.2.1) 36 zu1.2.2.1) 37 zu1.2.2.2.1) 38 zu1.2.2.2.2.1) 39 zu1.2.2.2.2.2.1) 40 zu1.2.2.2.2.2.2.1) 41 zu1.2.2.2.2.2.2.2)) hfl hN hzu2) rfl rfl dX10_preferred_9 ⟨rfl, rfl⟩ (by decide) hl.1 (Nat.le_of_ble_eq_true rfl) ⟨Nat.le_of_ble_eq_true rfl, Nat.le_of_ble_eq_true rfl⟩ (fun H locs hw => ?_)
    refine lv_goto (tgt := 16) hx hb dX10_preferred_12 (by decide) ?_
    have hR0 := (Option.some.inj hinv).symm
    subst hR0
    exact hret 16 ls zu2.1 _ _ _ _ rfl hw (by decide) (by decide) dX10_preferred_16
def m_X10_preferredByAllSets (F : Nat) (r29 : Nat → Int32) (r30 : Nat → Int32) (r31 : Nat → Int32) (r32 : Nat → Int32) (r33 : Nat → Int32) (r34 : Nat → Int32) (r35 : Nat → Int32) (r36 : Nat → Int32) (r37 : Nat → Int32) (r38 : Nat → Int32) (r39 : Nat → Int32) (r40 : Nat → Int32) (r41 : Nat → Int32) (r44 : Nat → Int32) (r45 : Nat → Int32) : Option (Int32 × (Nat → Int32) × (Nat → Int32) × (Nat → Int32) × (Nat → Int32) × (Nat → Int32) × (Nat → Int32) × (Nat → Int32) × (Nat → Int32) × (Nat → Int32)) := Option.bind (m_X10_areFew F r29 r30 r31 r32 r33 r34 r35 r36 r37 r38 r39 r40 r41 1) (fun zu1 => if zu1.1 = 0 then (some (0, zu1.2.1, zu1.2.2.1, zu1.2.2.2.1, zu1.2.2.2.2.1, zu1.2.2.2.2.2.1, zu1.2.2.2.2.2.2.1, zu1.2.2.2.2.2.2.2, r44, r45)) else (Option.bind (m_X10_prefers F zu1.2.1 zu1.2.2.2.2.2.2.2 r44 r45) (fun zu2 => some (zu2.1, zu1.2.1, zu1.2.2.1, zu1.2.2.2.1, zu1.2.2.2.2.1, zu1.2.2.2.2.2.1, zu1.2.2.2.2.2.2.1, zu1.2.2.2.2.2.2.2, zu2.2.1, zu2.2.2))))
set_option maxHeartbeats 4000000 in
set_option maxRecDepth 100000 in
theorem c_X10_preferredByAllSets {l : Launch} {D : va_G} {cy : Nat → Nat} {g : Nat → Nat} {N : Nat} {X : Nat → Nat → Int32} {F : Nat} {R0 : Int32 × (Nat → Int32) × (Nat → Int32) × (Nat → Int32) × (Nat → Int32) × (Nat → Int32) × (Nat → Int32) × (Nat → Int32) × (Nat → Int32) × (Nat → Int32)} (hfl : l.stackTraces = false) (hN : 47 ≤ N) (hinv : m_X10_preferredByAllSets F (X 29) (X 30) (X 31) (X 32) (X 33) (X 34) (X 35) (X 36) (X 37) (X 38) (X 39) (X 40) (X 41) (X 44) (X 45) = some R0) : sWi l D cy yX10_preferredByAllSets cX10_preferredByAllSets 1 (some .int) 5 0 0 [.ref (g 29)] g N X R0.1 (up (up (up (up (up (up (up (up (up X 29 R0.2.1) 36 R0.2.2.1) 37 R0.2.2.2.1) 38 R0.2.2.2.2.1) 39 R0.2.2.2.2.2.1) 40 R0.2.2.2.2.2.2.1) 41 R0.2.2.2.2.2.2.2.1) 44 R0.2.2.2.2.2.2.2.2.1) 45 R0.2.2.2.2.2.2.2.2.2) := by
  refine jWi (own := RX10) (by decide) rfl hfl (Nat.le_of_ble_eq_true rfl) rfl ?_
  intro p e R s m args below meth c ls A Q hRe C hw hl hret
  subst hRe
  have hx := C.1
  have hb := C.2.1
  have hl : lv_has ls 1 [(0, .ref (g 29))] := hl
  rw [m_X10_preferredByAllSets] at hinv
  refine lv_aload_n hx hb dX10_preferredByAllSets_0 rfl (lv_at hl 0 rfl) ?_
  refine lv_iconst (v := 1) hx hb dX10_preferredByAllSets_1 (by decide) ?_
  obtain ⟨zu1, hzu1, hinv⟩ := ob hinv
  refine s_vWi (r0 := zu1.1) C hw (As := [.int 1]) bX10_areFew k605 (k := 29) (q47 hN rfl) (sh_29 g cy _) rfl (c_X10_areFew (X := X) hfl hN hzu1) rfl rfl dX10_preferredByAllSets_2 ⟨rfl, rfl⟩ (by decide) hl.1 (Nat.le_of_ble_eq_true rfl) ⟨Nat.le_of_ble_eq_true rfl, Nat.le_of_ble_eq_true rfl⟩ (fun H locs hw => ?_)
  refine lv_if_eq (tgt := 15) hx hb dX10_preferredByAllSets_5 (by decide) (fun c_5 => ?_) (fun c_5 => ?_)
  · have hinv := oi_t c_5 hinv
    refine lv_iconst (v := 0) hx hb dX10_preferredByAllSets_15 (by decide) ?_
    have hR0 := (Option.some.inj hinv).symm
    subst hR0
    have hXe : (up (up (up (up (up (up (up X 29 zu1.2.1) 36 zu1.2.2.1) 37 zu1.2.2.2.1) 38 zu1.2.2.2.2.1) 39 zu1.2.2.2.2.2.1) 40 zu1.2.2.2.2.2.2.1) 41 zu1.2.2.2.2.2.2.2) = (up (up (up (up (up (up (up (up (up X 29 zu1.2.1) 36 zu1.2.2.1) 37 zu1.2.2.2.1) 38 zu1.2.2.2.2.1) 39 zu1.2.2.2.2.2.1) 40 zu1.2.2.2.2.2.2.1) 41 zu1.2.2.2.2.2.2.2) 44 (X 44)) 45 (X 45)) := by
      funext j
      by_cases h29 : j = 29
      · subst h29; simp [up]
      by_cases h36 : j = 36
      · subst h36; simp [up]
      by_cases h37 : j = 37
      · subst h37; simp [up]
      by_cases h38 : j = 38
      · subst h38; simp [up]
      by_cases h39 : j = 39
      · subst h39; simp [up]
      by_cases h40 : j = 40
      · subst h40; simp [up]
      by_cases h41 : j = 41
      · subst h41; simp [up]
      by_cases h44 : j = 44
      · subst h44; simp [up]
      by_cases h45 : j = 45
      · subst h45; simp [up]
      simp [up, h29, h36, h37, h38, h39, h40, h41, h44, h45]
    rw [hXe] at hw
    exact hret 16 ls 0 _ _ _ _ rfl hw (by decide) (by decide) dX10_preferredByAllSets_16
  · have hinv := oi_f c_5 hinv
    refine lv_aload_n hx hb dX10_preferredByAllSets_8 rfl (lv_at hl 0 rfl) ?_
    obtain ⟨zu2, hzu2, hinv⟩ := ob hinv
    refine s_vWi (r0 := zu2.1) C hw (As := []) bX10_prefers k608 (k := 29) (q47 hN rfl) (sh_29 g cy _) rfl (c_X10_prefers (X := (up (up (up (up (up (up (up X 29 zu1.2.1) 36 zu1.2.2.1) 37 zu1.2.2.2.1) 38 zu1.2.2.2.2.1) 39 zu1.2.2.2.2.2.1) 40 zu1.2.2.2.2.2.2.1) 41 zu1.2.2.2.2.2.2.2)) hfl hN hzu2) rfl rfl dX10_preferredByAllSets_9 ⟨rfl, rfl⟩ (by decide) hl.1 (Nat.le_of_ble_eq_true rfl) ⟨Nat.le_of_ble_eq_true rfl, Nat.le_of_ble_eq_true rfl⟩ (fun H locs hw => ?_)
    refine lv_goto (tgt := 16) hx hb dX10_preferredByAllSets_12 (by decide) ?_
    have hR0 := (Option.some.inj hinv).symm
    subst hR0
    exact hret 16 ls zu2.1 _ _ _ _ rfl hw (by decide) (by decide) dX10_preferredByAllSets_16
def m_X10_setAt_L9 (F : Nat) (r44 : Nat → Int32) (r45 : Nat → Int32) : Nat → Int32 → Int32 → Option (Int32)
  | 0, _, _ => none
  | n + 1, x3_9, x2_9 => if x2_9 < 0 then (some x3_9) else (if ¬ ((x3_9 + (-1)) < 0 ∨ 16384 ≤ (x3_9 + (-1)).toNatClampNeg) then (if (r44 (x3_9 + (-1)).toNatClampNeg) = 0 then (m_X10_setAt_L9 F r44 r45 n (x3_9 + (-1)) (x2_9 - 0)) else (if ¬ ((x3_9 + (-1)) < 0 ∨ 16384 ≤ (x3_9 + (-1)).toNatClampNeg) then (if (r45 (x3_9 + (-1)).toNatClampNeg) = 0 then (m_X10_setAt_L9 F r44 r45 n (x3_9 + (-1)) (x2_9 - 1)) else (m_X10_setAt_L9 F r44 r45 n (x3_9 + (-1)) (x2_9 - 0))) else none)) else none)
def m_X10_setAt (F : Nat) (r29 : Nat → Int32) (r44 : Nat → Int32) (r45 : Nat → Int32) (za1 : Int32) : Option (Int32) := m_X10_setAt_L9 F r44 r45 F ((1 : Int32) <<< ((r29 8) &&& 31)) za1
set_option maxHeartbeats 4000000 in
set_option maxRecDepth 100000 in
theorem c_X10_setAt {l : Launch} {D : va_G} {cy : Nat → Nat} {g : Nat → Nat} {N : Nat} {X : Nat → Nat → Int32} {F : Nat} {za1 : Int32} {R0 : Int32} (hfl : l.stackTraces = false) (hN : 47 ≤ N) (hinv : m_X10_setAt F (X 29) (X 44) (X 45) za1 = some R0) : sRi l D cy yX10_setAt cX10_setAt 4 (some .int) 0 [.ref (g 29), .int za1] g N X R0 := by
  refine jRi (own := RX10) (by decide) rfl hfl (Nat.le_of_ble_eq_true rfl) rfl ?_
  intro p e R s m args below meth c ls A Q hRe C hw hl hret
  subst hRe
  have hx := C.1
  have hb := C.2.1
  have hl : lv_has ls 4 [(0, .ref (g 29)), (1, .int za1)] := hl
  rw [m_X10_setAt] at hinv
  refine lv_iload_n hx hb dX10_setAt_0 rfl (lv_at hl 1 rfl) ?_
  refine lv_istore_n (lv' := [(2, .int za1), (0, .ref (g 29)), (1, .int za1)]) hx hb dX10_setAt_1 rfl hl (by decide) rfl (fun ls hl => ?_)
  refine lv_iconst (v := 1) hx hb dX10_setAt_2 (by decide) ?_
  refine lv_aload_n hx hb dX10_setAt_3 rfl (lv_at hl 1 rfl) ?_
  refine w_get C hw (k := 29) (v := .int ((X 29) 8)) (j := 8) (q47 hN rfl) (sh_29 g cy _) rfl (by decide) k517 rfl dX10_setAt_4 ?_
  refine lv_ishl hx hb dX10_setAt_7 ?_
  refine lv_istore_n (lv' := [(3, .int ((1 : Int32) <<< (((X 29) 8) &&& 31))), (2, .int za1), (0, .ref (g 29)), (1, .int za1)]) hx hb dX10_setAt_8 rfl hl (by decide) rfl (fun ls hl => ?_)
  have hl9 : ∀ (n : Nat) (x3_9 : Int32) (x2_9 : Int32), m_X10_setAt_L9 F (X 44) (X 45) n x3_9 x2_9 = some R0 → ∀ (ls : Array Slot), lv_has ls 4 [(3, .int x3_9), (2, .int x2_9), (0, .ref (g 29)), (1, .int za1)] → W p l e (wR 0 0 0) s m args below meth c s.heap [] 0 0 Q (F0 m 9 ls []) := by
    intro n
    induction n with
    | zero =>
      intro x3_9 x2_9 hinv
      cases hinv
    | succ n ih =>
      intro x3_9 x2_9 hinv ls hl
      rw [m_X10_setAt_L9] at hinv
      refine lv_iload_n hx hb dX10_setAt_9 rfl (lv_at hl 1 rfl) ?_
      refine lv_if_lt (tgt := 45) hx hb dX10_setAt_10 (by decide) (fun c_10 => ?_) (fun c_10 => ?_)
      · have hinv := oi_t c_10 hinv
        refine lv_iload_n hx hb dX10_setAt_45 rfl (lv_at hl 0 rfl) ?_
        exact hret 46 ls x3_9 (Option.some.inj hinv) dX10_setAt_46
      · have hinv := oi_f c_10 hinv
        refine lv_iinc (v := (x3_9 + (-1))) (lv' := [(3, .int (x3_9 + (-1))), (2, .int x2_9), (0, .ref (g 29)), (1, .int za1)]) hx hb dX10_setAt_13 hl (k := 0) rfl (by rfl) (by decide) rfl (fun ls hl => ?_)
        refine lv_iload_n hx hb dX10_setAt_16 rfl (lv_at hl 1 rfl) ?_
        refine lv_aload_n hx hb dX10_setAt_17 rfl (lv_at hl 2 rfl) ?_
        refine w_get C hw (k := 29) (v := .ref (g 44)) (j := 18) (q47 hN rfl) (sh_29 g cy _) rfl (by decide) k483 rfl dX10_setAt_18 ?_
        refine lv_iload_n hx hb dX10_setAt_21 rfl (lv_at hl 0 rfl) ?_
        obtain ⟨hb_22, hinv⟩ := oi_c hinv
        refine s_zald C hw (k := 44) (a := (X 44)) (q47 hN rfl) (fun r => sh_44 g cy r) rfl hb_22 dX10_setAt_22 ?_
        refine lv_if_eq (tgt := 39) hx hb dX10_setAt_23 (by decide) (fun c_23 => ?_) (fun c_23 => ?_)
        · have hinv := oi_t c_23 hinv
          refine lv_iconst (v := 0) hx hb dX10_setAt_39 (by decide) ?_
          refine lv_isub hx hb dX10_setAt_40 ?_
          refine lv_istore_n (lv' := [(2, .int (x2_9 - 0)), (3, .int (x3_9 + (-1))), (0, .ref (g 29)), (1, .int za1)]) hx hb dX10_setAt_41 rfl hl (by decide) rfl (fun ls hl => ?_)
          refine lv_goto (tgt := 9) hx hb dX10_setAt_42 (by decide) ?_
          exact ih (x3_9 + (-1)) (x2_9 - 0) hinv ls (lv_sub hl [1, 0, 2, 3] rfl)
        · have hinv := oi_f c_23 hinv
          refine lv_aload_n hx hb dX10_setAt_26 rfl (lv_at hl 2 rfl) ?_
          refine w_get C hw (k := 29) (v := .ref (g 45)) (j := 19) (q47 hN rfl) (sh_29 g cy _) rfl (by decide) k484 rfl dX10_setAt_27 ?_
          refine lv_iload_n hx hb dX10_setAt_30 rfl (lv_at hl 0 rfl) ?_
          obtain ⟨hb_31, hinv⟩ := oi_c hinv
          refine s_zald C hw (k := 45) (a := (X 45)) (q47 hN rfl) (fun r => sh_45 g cy r) rfl hb_31 dX10_setAt_31 ?_
          refine lv_if_ne (tgt := 39) hx hb dX10_setAt_32 (by decide) (fun c_32 => ?_) (fun c_32 => ?_)
          · have hinv := oi_f c_32 hinv
            refine lv_iconst (v := 0) hx hb dX10_setAt_39 (by decide) ?_
            refine lv_isub hx hb dX10_setAt_40 ?_
            refine lv_istore_n (lv' := [(2, .int (x2_9 - 0)), (3, .int (x3_9 + (-1))), (0, .ref (g 29)), (1, .int za1)]) hx hb dX10_setAt_41 rfl hl (by decide) rfl (fun ls hl => ?_)
            refine lv_goto (tgt := 9) hx hb dX10_setAt_42 (by decide) ?_
            exact ih (x3_9 + (-1)) (x2_9 - 0) hinv ls (lv_sub hl [1, 0, 2, 3] rfl)
          · have hinv := oi_t c_32 hinv
            refine lv_iconst (v := 1) hx hb dX10_setAt_35 (by decide) ?_
            refine lv_goto (tgt := 40) hx hb dX10_setAt_36 (by decide) ?_
            refine lv_isub hx hb dX10_setAt_40 ?_
            refine lv_istore_n (lv' := [(2, .int (x2_9 - 1)), (3, .int (x3_9 + (-1))), (0, .ref (g 29)), (1, .int za1)]) hx hb dX10_setAt_41 rfl hl (by decide) rfl (fun ls hl => ?_)
            refine lv_goto (tgt := 9) hx hb dX10_setAt_42 (by decide) ?_
            exact ih (x3_9 + (-1)) (x2_9 - 1) hinv ls (lv_sub hl [1, 0, 2, 3] rfl)
  exact hl9 F ((1 : Int32) <<< (((X 29) 8) &&& 31)) za1 hinv ls (lv_sub hl [0, 1, 2, 3] rfl)
def m_X10_isInSet (F : Nat) (r29 : Nat → Int32) (r30 : Nat → Int32) (r31 : Nat → Int32) (r32 : Nat → Int32) (r33 : Nat → Int32) (r34 : Nat → Int32) (r35 : Nat → Int32) (r36 : Nat → Int32) (r37 : Nat → Int32) (r38 : Nat → Int32) (r39 : Nat → Int32) (r40 : Nat → Int32) (r41 : Nat → Int32) (r44 : Nat → Int32) (r45 : Nat → Int32) (za1 : Int32) (za2 : Int32) : Option (Int32 × (Nat → Int32) × (Nat → Int32) × (Nat → Int32) × (Nat → Int32) × (Nat → Int32) × (Nat → Int32) × (Nat → Int32) × (Nat → Int32) × (Nat → Int32)) := Option.bind (m_X10_areFew F r29 r30 r31 r32 r33 r34 r35 r36 r37 r38 r39 r40 r41 1) (fun zu1 => if zu1.1 = 0 then (some (0, zu1.2.1, zu1.2.2.1, zu1.2.2.2.1, zu1.2.2.2.2.1, zu1.2.2.2.2.2.1, zu1.2.2.2.2.2.2.1, zu1.2.2.2.2.2.2.2, r44, r45)) else (Option.bind (m_X10_prefers F zu1.2.1 zu1.2.2.2.2.2.2.2 r44 r45) (fun zu2 => Option.bind (if za1 < 0 then (some (2 : Int32)) else (if zu2.1 ≤ za1 then (some (2 : Int32)) else (if za2 < 0 then (some (2 : Int32)) else (if (zu1.2.1 8) ≤ za2 then (some (2 : Int32)) else (some (0 : Int32)))))) (fun zu3 => Option.bind (m_X10_passes F zu1.2.1 zu3) (fun zu4 => if zu4.1 = 0 then (some (0, zu4.2, zu1.2.2.1, zu1.2.2.2.1, zu1.2.2.2.2.1, zu1.2.2.2.2.2.1, zu1.2.2.2.2.2.2.1, zu1.2.2.2.2.2.2.2, zu2.2.1, zu2.2.2)) else (Option.bind (m_X10_setAt F zu4.2 zu2.2.1 zu2.2.2 za1) (fun zu5 => Option.bind (m_X10_has F zu4.2 zu5 za2) (fun zu6 => if zu6 = 0 then (some (0, zu4.2, zu1.2.2.1, zu1.2.2.2.1, zu1.2.2.2.2.1, zu1.2.2.2.2.2.1, zu1.2.2.2.2.2.2.1, zu1.2.2.2.2.2.2.2, zu2.2.1, zu2.2.2)) else (some (1, zu4.2, zu1.2.2.1, zu1.2.2.2.1, zu1.2.2.2.2.1, zu1.2.2.2.2.2.1, zu1.2.2.2.2.2.2.1, zu1.2.2.2.2.2.2.2, zu2.2.1, zu2.2.2))))))))))
set_option maxHeartbeats 4000000 in
set_option maxRecDepth 100000 in
theorem c_X10_isInSet {l : Launch} {D : va_G} {cy : Nat → Nat} {g : Nat → Nat} {N : Nat} {X : Nat → Nat → Int32} {F : Nat} {za1 : Int32} {za2 : Int32} {R0 : Int32 × (Nat → Int32) × (Nat → Int32) × (Nat → Int32) × (Nat → Int32) × (Nat → Int32) × (Nat → Int32) × (Nat → Int32) × (Nat → Int32) × (Nat → Int32)} (hfl : l.stackTraces = false) (hN : 47 ≤ N) (hinv : m_X10_isInSet F (X 29) (X 30) (X 31) (X 32) (X 33) (X 34) (X 35) (X 36) (X 37) (X 38) (X 39) (X 40) (X 41) (X 44) (X 45) za1 za2 = some R0) : sWi l D cy yX10_isInSet cX10_isInSet 4 (some .boolean) 5 0 0 [.ref (g 29), .int za1, .int za2] g N X R0.1 (up (up (up (up (up (up (up (up (up X 29 R0.2.1) 36 R0.2.2.1) 37 R0.2.2.2.1) 38 R0.2.2.2.2.1) 39 R0.2.2.2.2.2.1) 40 R0.2.2.2.2.2.2.1) 41 R0.2.2.2.2.2.2.2.1) 44 R0.2.2.2.2.2.2.2.2.1) 45 R0.2.2.2.2.2.2.2.2.2) := by
  refine jWz (own := RX10) (by decide) rfl hfl (Nat.le_of_ble_eq_true rfl) rfl ?_
  intro p e R s m args below meth c ls A Q hRe C hw hl hret
  subst hRe
  have hx := C.1
  have hb := C.2.1
  have hl : lv_has ls 4 [(0, .ref (g 29)), (1, .int za1), (2, .int za2)] := hl
  rw [m_X10_isInSet] at hinv
  refine lv_aload_n hx hb dX10_isInSet_0 rfl (lv_at hl 0 rfl) ?_
  refine lv_iconst (v := 1) hx hb dX10_isInSet_1 (by decide) ?_
  obtain ⟨zu1, hzu1, hinv⟩ := ob hinv
  refine s_vWi (r0 := zu1.1) C hw (As := [.int 1]) bX10_areFew k605 (k := 29) (q47 hN rfl) (sh_29 g cy _) rfl (c_X10_areFew (X := X) hfl hN hzu1) rfl rfl dX10_isInSet_2 ⟨rfl, rfl⟩ (by decide) hl.1 (Nat.le_of_ble_eq_true rfl) ⟨Nat.le_of_ble_eq_true rfl, Nat.le_of_ble_eq_true rfl⟩ (fun H locs hw => ?_)
  refine lv_if_ne (tgt := 10) hx hb dX10_isInSet_5 (by decide) (fun c_5 => ?_) (fun c_5 => ?_)
  · have hinv := oi_f c_5 hinv
    refine lv_aload_n hx hb dX10_isInSet_10 rfl (lv_at hl 0 rfl) ?_
    obtain ⟨zu2, hzu2, hinv⟩ := ob hinv
    refine s_vWi (r0 := zu2.1) C hw (As := []) bX10_prefers k608 (k := 29) (q47 hN rfl) (sh_29 g cy _) rfl (c_X10_prefers (X := (up (up (up (up (up (up (up X 29 zu1.2.1) 36 zu1.2.2.1) 37 zu1.2.2.2.1) 38 zu1.2.2.2.2.1) 39 zu1.2.2.2.2.2.1) 40 zu1.2.2.2.2.2.2.1) 41 zu1.2.2.2.2.2.2.2)) hfl hN hzu2) rfl rfl dX10_isInSet_11 ⟨rfl, rfl⟩ (by decide) hl.1 (Nat.le_of_ble_eq_true rfl) ⟨Nat.le_of_ble_eq_true rfl, Nat.le_of_ble_eq_true rfl⟩ (fun H locs hw => ?_)
    refine lv_istore_n (lv' := [(3, .int zu2.1), (0, .ref (g 29)), (1, .int za1), (2, .int za2)]) hx hb dX10_isInSet_14 rfl hl (by decide) rfl (fun ls hl => ?_)
    refine lv_aload_n hx hb dX10_isInSet_15 rfl (lv_at hl 1 rfl) ?_
    obtain ⟨zu3, hzu3, hinv⟩ := ob hinv
    have hx16 : ∀ (H : Heap) (locs : List Loc) (ls : Array Slot), Wd D A s.heap g N (shp g cy (up (up (up (up (up (up (up (up (up X 29 zu1.2.1) 36 zu1.2.2.1) 37 zu1.2.2.2.1) 38 zu1.2.2.2.2.1) 39 zu1.2.2.2.2.2.1) 40 zu1.2.2.2.2.2.2.1) 41 zu1.2.2.2.2.2.2.2) 44 zu2.2.1) 45 zu2.2.2)) H locs → lv_has ls 4 [(3, .int zu2.1), (0, .ref (g 29)), (1, .int za1), (2, .int za2)] → W p l e (wR 5 0 0) s m args below meth c H locs 0 0 Q (F0 m 42 ls [.int zu3, .ref (g 29)]) := by
      intro H locs ls hw hl
      obtain ⟨zu4, hzu4, hinv⟩ := ob hinv
      refine s_vWi (r0 := zu4.1) C hw (As := [.int zu3]) bX10_passes k495 (k := 29) (q47 hN rfl) (sh_29 g cy _) rfl (c_X10_passes (X := (up (up (up (up (up (up (up (up (up X 29 zu1.2.1) 36 zu1.2.2.1) 37 zu1.2.2.2.1) 38 zu1.2.2.2.2.1) 39 zu1.2.2.2.2.2.1) 40 zu1.2.2.2.2.2.2.1) 41 zu1.2.2.2.2.2.2.2) 44 zu2.2.1) 45 zu2.2.2)) hfl hN hzu4) rfl rfl dX10_isInSet_42 ⟨rfl, rfl⟩ (by decide) hl.1 (Nat.le_of_ble_eq_true rfl) ⟨Nat.le_of_ble_eq_true rfl, Nat.le_of_ble_eq_true rfl⟩ (fun H locs hw => ?_)
      refine lv_if_eq (tgt := 65) hx hb dX10_isInSet_45 (by decide) (fun c_45 => ?_) (fun c_45 => ?_)
      · have hinv := oi_t c_45 hinv
        refine lv_iconst (v := 0) hx hb dX10_isInSet_65 (by decide) ?_
        have hR0 := (Option.some.inj hinv).symm
        subst hR0
        have hXe : (up (up (up (up (up (up (up (up (up (up X 29 zu1.2.1) 36 zu1.2.2.1) 37 zu1.2.2.2.1) 38 zu1.2.2.2.2.1) 39 zu1.2.2.2.2.2.1) 40 zu1.2.2.2.2.2.2.1) 41 zu1.2.2.2.2.2.2.2) 44 zu2.2.1) 45 zu2.2.2) 29 zu4.2) = (up (up (up (up (up (up (up (up (up X 29 zu4.2) 36 zu1.2.2.1) 37 zu1.2.2.2.1) 38 zu1.2.2.2.2.1) 39 zu1.2.2.2.2.2.1) 40 zu1.2.2.2.2.2.2.1) 41 zu1.2.2.2.2.2.2.2) 44 zu2.2.1) 45 zu2.2.2) := by
          funext j
          by_cases h29 : j = 29
          · subst h29; simp [up]
          by_cases h36 : j = 36
          · subst h36; simp [up]
          by_cases h37 : j = 37
          · subst h37; simp [up]
          by_cases h38 : j = 38
          · subst h38; simp [up]
          by_cases h39 : j = 39
          · subst h39; simp [up]
          by_cases h40 : j = 40
          · subst h40; simp [up]
          by_cases h41 : j = 41
          · subst h41; simp [up]
          by_cases h44 : j = 44
          · subst h44; simp [up]
          by_cases h45 : j = 45
          · subst h45; simp [up]
          simp [up, h29, h36, h37, h38, h39, h40, h41, h44, h45]
        rw [hXe] at hw
        exact hret 66 ls 0 _ _ _ _ rfl (by decide) hw (by decide) (by decide) dX10_isInSet_66
      · have hinv := oi_f c_45 hinv
        refine lv_aload_n hx hb dX10_isInSet_48 rfl (lv_at hl 1 rfl) ?_
        refine lv_aload_n hx hb dX10_isInSet_49 rfl (lv_at hl 1 rfl) ?_
        refine lv_iload_n hx hb dX10_isInSet_50 rfl (lv_at hl 2 rfl) ?_
        obtain ⟨zu5, hzu5, hinv⟩ := ob hinv
        refine s_vRi (r0 := zu5) C hw (As := [.int za1]) bX10_setAt k614 (k := 29) (q47 hN rfl) (sh_29 g cy _) rfl (c_X10_setAt (X := (up (up (up (up (up (up (up (up (up (up X 29 zu1.2.1) 36 zu1.2.2.1) 37 zu1.2.2.2.1) 38 zu1.2.2.2.2.1) 39 zu1.2.2.2.2.2.1) 40 zu1.2.2.2.2.2.2.1) 41 zu1.2.2.2.2.2.2.2) 44 zu2.2.1) 45 zu2.2.2) 29 zu4.2)) hfl hN hzu5) rfl rfl dX10_isInSet_51 ⟨rfl, rfl⟩ (by decide) hl.1 (Nat.le_of_ble_eq_true rfl) ⟨Nat.le_of_ble_eq_true rfl, Nat.le_of_ble_eq_true rfl⟩ ?_
        refine lv_iload_n hx hb dX10_isInSet_54 rfl (lv_at hl 3 rfl) ?_
        obtain ⟨zu6, hzu6, hinv⟩ := ob hinv
        refine s_vRi (r0 := zu6) C hw (As := [.int zu5, .int za2]) bX10_has k593 (k := 29) (q47 hN rfl) (sh_29 g cy _) rfl (c_X10_has (X := (up (up (up (up (up (up (up (up (up (up X 29 zu1.2.1) 36 zu1.2.2.1) 37 zu1.2.2.2.1) 38 zu1.2.2.2.2.1) 39 zu1.2.2.2.2.2.1) 40 zu1.2.2.2.2.2.2.1) 41 zu1.2.2.2.2.2.2.2) 44 zu2.2.1) 45 zu2.2.2) 29 zu4.2)) hfl hN hzu6) rfl rfl dX10_isInSet_55 ⟨rfl, rfl⟩ (by decide) hl.1 (Nat.le_of_ble_eq_true rfl) ⟨Nat.le_of_ble_eq_true rfl, Nat.le_of_ble_eq_true rfl⟩ ?_
        refine lv_if_eq (tgt := 65) hx hb dX10_isInSet_58 (by decide) (fun c_58 => ?_) (fun c_58 => ?_)
        · have hinv := oi_t c_58 hinv
          refine lv_iconst (v := 0) hx hb dX10_isInSet_65 (by decide) ?_
          have hR0 := (Option.some.inj hinv).symm
          subst hR0
          have hXe : (up (up (up (up (up (up (up (up (up (up X 29 zu1.2.1) 36 zu1.2.2.1) 37 zu1.2.2.2.1) 38 zu1.2.2.2.2.1) 39 zu1.2.2.2.2.2.1) 40 zu1.2.2.2.2.2.2.1) 41 zu1.2.2.2.2.2.2.2) 44 zu2.2.1) 45 zu2.2.2) 29 zu4.2) = (up (up (up (up (up (up (up (up (up X 29 zu4.2) 36 zu1.2.2.1) 37 zu1.2.2.2.1) 38 zu1.2.2.2.2.1) 39 zu1.2.2.2.2.2.1) 40 zu1.2.2.2.2.2.2.1) 41 zu1.2.2.2.2.2.2.2) 44 zu2.2.1) 45 zu2.2.2) := by
            funext j
            by_cases h29 : j = 29
            · subst h29; simp [up]
            by_cases h36 : j = 36
            · subst h36; simp [up]
            by_cases h37 : j = 37
            · subst h37; simp [up]
            by_cases h38 : j = 38
            · subst h38; simp [up]
            by_cases h39 : j = 39
            · subst h39; simp [up]
            by_cases h40 : j = 40
            · subst h40; simp [up]
            by_cases h41 : j = 41
            · subst h41; simp [up]
            by_cases h44 : j = 44
            · subst h44; simp [up]
            by_cases h45 : j = 45
            · subst h45; simp [up]
            simp [up, h29, h36, h37, h38, h39, h40, h41, h44, h45]
          rw [hXe] at hw
          exact hret 66 ls 0 _ _ _ _ rfl (by decide) hw (by decide) (by decide) dX10_isInSet_66
        · have hinv := oi_f c_58 hinv
          refine lv_iconst (v := 1) hx hb dX10_isInSet_61 (by decide) ?_
          refine lv_goto (tgt := 66) hx hb dX10_isInSet_62 (by decide) ?_
          have hR0 := (Option.some.inj hinv).symm
          subst hR0
          have hXe : (up (up (up (up (up (up (up (up (up (up X 29 zu1.2.1) 36 zu1.2.2.1) 37 zu1.2.2.2.1) 38 zu1.2.2.2.2.1) 39 zu1.2.2.2.2.2.1) 40 zu1.2.2.2.2.2.2.1) 41 zu1.2.2.2.2.2.2.2) 44 zu2.2.1) 45 zu2.2.2) 29 zu4.2) = (up (up (up (up (up (up (up (up (up X 29 zu4.2) 36 zu1.2.2.1) 37 zu1.2.2.2.1) 38 zu1.2.2.2.2.1) 39 zu1.2.2.2.2.2.1) 40 zu1.2.2.2.2.2.2.1) 41 zu1.2.2.2.2.2.2.2) 44 zu2.2.1) 45 zu2.2.2) := by
            funext j
            by_cases h29 : j = 29
            · subst h29; simp [up]
            by_cases h36 : j = 36
            · subst h36; simp [up]
            by_cases h37 : j = 37
            · subst h37; simp [up]
            by_cases h38 : j = 38
            · subst h38; simp [up]
            by_cases h39 : j = 39
            · subst h39; simp [up]
            by_cases h40 : j = 40
            · subst h40; simp [up]
            by_cases h41 : j = 41
            · subst h41; simp [up]
            by_cases h44 : j = 44
            · subst h44; simp [up]
            by_cases h45 : j = 45
            · subst h45; simp [up]
            simp [up, h29, h36, h37, h38, h39, h40, h41, h44, h45]
          rw [hXe] at hw
          exact hret 66 ls 1 _ _ _ _ rfl (by decide) hw (by decide) (by decide) dX10_isInSet_66
    have hinv := hzu3
    refine lv_iload_n hx hb dX10_isInSet_16 rfl (lv_at hl 2 rfl) ?_
    refine lv_if_lt (tgt := 41) hx hb dX10_isInSet_17 (by decide) (fun c_17 => ?_) (fun c_17 => ?_)
    · have hinv := oi_t c_17 hinv
      refine lv_iconst (v := 2) hx hb dX10_isInSet_41 (by decide) ?_
      have hR9 := Option.some.inj hinv
      subst hR9
      exact hx16 _ _ ls hw (lv_sub hl [0, 1, 2, 3] rfl)
    · have hinv := oi_f c_17 hinv
      refine lv_iload_n hx hb dX10_isInSet_20 rfl (lv_at hl 2 rfl) ?_
      refine lv_iload_n hx hb dX10_isInSet_21 rfl (lv_at hl 0 rfl) ?_
      refine lv_icmp_ge (tgt := 41) hx hb dX10_isInSet_22 (by decide) (fun c_22 => ?_) (fun c_22 => ?_)
      · have hinv := oi_t c_22 hinv
        refine lv_iconst (v := 2) hx hb dX10_isInSet_41 (by decide) ?_
        have hR9 := Option.some.inj hinv
        subst hR9
        exact hx16 _ _ ls hw (lv_sub hl [0, 1, 2, 3] rfl)
      · have hinv := oi_f c_22 hinv
        refine lv_iload_n hx hb dX10_isInSet_25 rfl (lv_at hl 3 rfl) ?_
        refine lv_if_lt (tgt := 41) hx hb dX10_isInSet_26 (by decide) (fun c_26 => ?_) (fun c_26 => ?_)
        · have hinv := oi_t c_26 hinv
          refine lv_iconst (v := 2) hx hb dX10_isInSet_41 (by decide) ?_
          have hR9 := Option.some.inj hinv
          subst hR9
          exact hx16 _ _ ls hw (lv_sub hl [0, 1, 2, 3] rfl)
        · have hinv := oi_f c_26 hinv
          refine lv_iload_n hx hb dX10_isInSet_29 rfl (lv_at hl 3 rfl) ?_
          refine lv_aload_n hx hb dX10_isInSet_30 rfl (lv_at hl 1 rfl) ?_
          refine w_get C hw (k := 29) (v := .int (zu1.2.1 8)) (j := 8) (q47 hN rfl) (sh_29 g cy _) rfl (by decide) k517 rfl dX10_isInSet_31 ?_
          refine lv_icmp_ge (tgt := 41) hx hb dX10_isInSet_34 (by decide) (fun c_34 => ?_) (fun c_34 => ?_)
          · have hinv := oi_t c_34 hinv
            refine lv_iconst (v := 2) hx hb dX10_isInSet_41 (by decide) ?_
            have hR9 := Option.some.inj hinv
            subst hR9
            exact hx16 _ _ ls hw (lv_sub hl [0, 1, 2, 3] rfl)
          · have hinv := oi_f c_34 hinv
            refine lv_iconst (v := 0) hx hb dX10_isInSet_37 (by decide) ?_
            refine lv_goto (tgt := 42) hx hb dX10_isInSet_38 (by decide) ?_
            have hR9 := Option.some.inj hinv
            subst hR9
            exact hx16 _ _ ls hw (lv_sub hl [0, 1, 2, 3] rfl)
  · have hinv := oi_t c_5 hinv
    refine lv_iconst (v := 0) hx hb dX10_isInSet_8 (by decide) ?_
    have hR0 := (Option.some.inj hinv).symm
    subst hR0
    have hXe : (up (up (up (up (up (up (up X 29 zu1.2.1) 36 zu1.2.2.1) 37 zu1.2.2.2.1) 38 zu1.2.2.2.2.1) 39 zu1.2.2.2.2.2.1) 40 zu1.2.2.2.2.2.2.1) 41 zu1.2.2.2.2.2.2.2) = (up (up (up (up (up (up (up (up (up X 29 zu1.2.1) 36 zu1.2.2.1) 37 zu1.2.2.2.1) 38 zu1.2.2.2.2.1) 39 zu1.2.2.2.2.2.1) 40 zu1.2.2.2.2.2.2.1) 41 zu1.2.2.2.2.2.2.2) 44 (X 44)) 45 (X 45)) := by
      funext j
      by_cases h29 : j = 29
      · subst h29; simp [up]
      by_cases h36 : j = 36
      · subst h36; simp [up]
      by_cases h37 : j = 37
      · subst h37; simp [up]
      by_cases h38 : j = 38
      · subst h38; simp [up]
      by_cases h39 : j = 39
      · subst h39; simp [up]
      by_cases h40 : j = 40
      · subst h40; simp [up]
      by_cases h41 : j = 41
      · subst h41; simp [up]
      by_cases h44 : j = 44
      · subst h44; simp [up]
      by_cases h45 : j = 45
      · subst h45; simp [up]
      simp [up, h29, h36, h37, h38, h39, h40, h41, h44, h45]
    rw [hXe] at hw
    exact hret 9 ls 0 _ _ _ _ rfl (by decide) hw (by decide) (by decide) dX10_isInSet_9
def m_X10_setsFor_L59 (F : Nat) (y5_59 : Int32) (y1_59 : Int32) : Nat → Int32 → Int32 → (Nat → Int32) → (Nat → Int32) → (Nat → Int32) → (Nat → Int32) → (Nat → Int32) → (Nat → Int32) → (Nat → Int32) → (Nat → Int32) → (Nat → Int32) → Option (Int32 × Int32 × (Nat → Int32) × (Nat → Int32) × (Nat → Int32) × (Nat → Int32) × (Nat → Int32) × (Nat → Int32) × (Nat → Int32) × (Nat → Int32) × (Nat → Int32))
  | 0, _, _, _, _, _, _, _, _, _, _, _ => none
  | n + 1, x7_59, x6_59, q29_59, q36_59, q37_59, q38_59, q39_59, q40_59, q41_59, q44_59, q45_59 => if (q29_59 8) ≤ x7_59 then (some (x7_59, x6_59, q29_59, q36_59, q37_59, q38_59, q39_59, q40_59, q41_59, q44_59, q45_59)) else (if x6_59 = 0 then (Option.bind (m_X10_has F q29_59 y5_59 x7_59) (fun zu7 => if zu7 = 0 then (m_X10_setsFor_L59 F y5_59 y1_59 n (x7_59 + 1) 0 q29_59 q36_59 q37_59 q38_59 q39_59 q40_59 q41_59 q44_59 q45_59) else (if ¬ (x7_59 < 0 ∨ 24 ≤ x7_59.toNatClampNeg) then (if (q36_59 x7_59.toNatClampNeg) = y1_59 then (m_X10_setsFor_L59 F y5_59 y1_59 n (x7_59 + 1) 1 q29_59 q36_59 q37_59 q38_59 q39_59 q40_59 q41_59 q44_59 q45_59) else (m_X10_setsFor_L59 F y5_59 y1_59 n (x7_59 + 1) 0 q29_59 q36_59 q37_59 q38_59 q39_59 q40_59 q41_59 q44_59 q45_59)) else none))) else (m_X10_setsFor_L59 F y5_59 y1_59 n (x7_59 + 1) 1 q29_59 q36_59 q37_59 q38_59 q39_59 q40_59 q41_59 q44_59 q45_59))
def m_X10_setsFor_L39 (F : Nat) (y2_39 : Int32) (y1_39 : Int32) : Nat → Int32 → Int32 → (Nat → Int32) → (Nat → Int32) → (Nat → Int32) → (Nat → Int32) → (Nat → Int32) → (Nat → Int32) → (Nat → Int32) → (Nat → Int32) → (Nat → Int32) → Option (Int32 × (Nat → Int32) × (Nat → Int32) × (Nat → Int32) × (Nat → Int32) × (Nat → Int32) × (Nat → Int32) × (Nat → Int32) × (Nat → Int32) × (Nat → Int32))
  | 0, _, _, _, _, _, _, _, _, _, _, _ => none
  | n + 1, x4_39, x3_39, q29_39, q36_39, q37_39, q38_39, q39_39, q40_39, q41_39, q44_39, q45_39 => if y2_39 ≤ x4_39 then (some (x3_39, q29_39, q36_39, q37_39, q38_39, q39_39, q40_39, q41_39, q44_39, q45_39)) else (Option.bind (m_X10_setAt F q29_39 q44_39 q45_39 x4_39) (fun zu5 => Option.bind (m_X10_setsFor_L59 F zu5 y1_39 F 0 0 q29_39 q36_39 q37_39 q38_39 q39_39 q40_39 q41_39 q44_39 q45_39) (fun zu6 => if zu6.2.1 = 0 then (m_X10_setsFor_L39 F y2_39 y1_39 n (x4_39 + 1) (x3_39 + 0) zu6.2.2.1 zu6.2.2.2.1 zu6.2.2.2.2.1 zu6.2.2.2.2.2.1 zu6.2.2.2.2.2.2.1 zu6.2.2.2.2.2.2.2.1 zu6.2.2.2.2.2.2.2.2.1 zu6.2.2.2.2.2.2.2.2.2.1 zu6.2.2.2.2.2.2.2.2.2.2) else (m_X10_setsFor_L39 F y2_39 y1_39 n (x4_39 + 1) (x3_39 + 1) zu6.2.2.1 zu6.2.2.2.1 zu6.2.2.2.2.1 zu6.2.2.2.2.2.1 zu6.2.2.2.2.2.2.1 zu6.2.2.2.2.2.2.2.1 zu6.2.2.2.2.2.2.2.2.1 zu6.2.2.2.2.2.2.2.2.2.1 zu6.2.2.2.2.2.2.2.2.2.2))))
def m_X10_setsFor (F : Nat) (r29 : Nat → Int32) (r30 : Nat → Int32) (r31 : Nat → Int32) (r32 : Nat → Int32) (r33 : Nat → Int32) (r34 : Nat → Int32) (r35 : Nat → Int32) (r36 : Nat → Int32) (r37 : Nat → Int32) (r38 : Nat → Int32) (r39 : Nat → Int32) (r40 : Nat → Int32) (r41 : Nat → Int32) (r44 : Nat → Int32) (r45 : Nat → Int32) (za1 : Int32) : Option (Int32 × (Nat → Int32) × (Nat → Int32) × (Nat → Int32) × (Nat → Int32) × (Nat → Int32) × (Nat → Int32) × (Nat → Int32) × (Nat → Int32) × (Nat → Int32)) := Option.bind (Option.bind (m_X10_isLiteral F za1) (fun zu8 => if zu8 = 0 then (some (1 : Int32)) else (some (0 : Int32)))) (fun zu1 => Option.bind (m_X10_passes F r29 zu1) (fun zu2 => if zu2.1 = 0 then (some (0, zu2.2, r36, r37, r38, r39, r40, r41, r44, r45)) else (Option.bind (m_X10_areFew F zu2.2 r30 r31 r32 r33 r34 r35 r36 r37 r38 r39 r40 r41 2) (fun zu3 => if zu3.1 = 0 then (some (0, zu3.2.1, zu3.2.2.1, zu3.2.2.2.1, zu3.2.2.2.2.1, zu3.2.2.2.2.2.1, zu3.2.2.2.2.2.2.1, zu3.2.2.2.2.2.2.2, r44, r45)) else (Option.bind (m_X10_prefers F zu3.2.1 zu3.2.2.2.2.2.2.2 r44 r45) (fun zu4 => m_X10_setsFor_L39 F zu4.1 za1 F 0 0 zu3.2.1 zu3.2.2.1 zu3.2.2.2.1 zu3.2.2.2.2.1 zu3.2.2.2.2.2.1 zu3.2.2.2.2.2.2.1 zu3.2.2.2.2.2.2.2 zu4.2.1 zu4.2.2))))))
set_option maxHeartbeats 4000000 in
set_option maxRecDepth 100000 in
theorem c_X10_setsFor {l : Launch} {D : va_G} {cy : Nat → Nat} {g : Nat → Nat} {N : Nat} {X : Nat → Nat → Int32} {F : Nat} {za1 : Int32} {R0 : Int32 × (Nat → Int32) × (Nat → Int32) × (Nat → Int32) × (Nat → Int32) × (Nat → Int32) × (Nat → Int32) × (Nat → Int32) × (Nat → Int32) × (Nat → Int32)} (hfl : l.stackTraces = false) (hN : 47 ≤ N) (hinv : m_X10_setsFor F (X 29) (X 30) (X 31) (X 32) (X 33) (X 34) (X 35) (X 36) (X 37) (X 38) (X 39) (X 40) (X 41) (X 44) (X 45) za1 = some R0) : sWi l D cy yX10_setsFor cX10_setsFor 8 (some .int) 5 0 0 [.ref (g 29), .int za1] g N X R0.1 (up (up (up (up (up (up (up (up (up X 29 R0.2.1) 36 R0.2.2.1) 37 R0.2.2.2.1) 38 R0.2.2.2.2.1) 39 R0.2.2.2.2.2.1) 40 R0.2.2.2.2.2.2.1) 41 R0.2.2.2.2.2.2.2.1) 44 R0.2.2.2.2.2.2.2.2.1) 45 R0.2.2.2.2.2.2.2.2.2) := by
  refine jWi (own := RX10) (by decide) rfl hfl (Nat.le_of_ble_eq_true rfl) rfl ?_
  intro p e R s m args below meth c ls A Q hRe C hw hl hret
  subst hRe
  have hx := C.1
  have hb := C.2.1
  have hl : lv_has ls 8 [(0, .ref (g 29)), (1, .int za1)] := hl
  rw [m_X10_setsFor] at hinv
  refine lv_aload_n hx hb dX10_setsFor_0 rfl (lv_at hl 0 rfl) ?_
  obtain ⟨zu1, hzu1, hinv⟩ := ob hinv
  have hx1 : ∀ (H : Heap) (locs : List Loc) (ls : Array Slot), Wd D A s.heap g N (shp g cy X) H locs → lv_has ls 8 [(0, .ref (g 29)), (1, .int za1)] → W p l e (wR 5 0 0) s m args below meth c H locs 0 0 Q (F0 m 13 ls [.int zu1, .ref (g 29)]) := by
    intro H locs ls hw hl
    obtain ⟨zu2, hzu2, hinv⟩ := ob hinv
    refine s_vWi (r0 := zu2.1) C hw (As := [.int zu1]) bX10_passes k495 (k := 29) (q47 hN rfl) (sh_29 g cy _) rfl (c_X10_passes (X := X) hfl hN hzu2) rfl rfl dX10_setsFor_13 ⟨rfl, rfl⟩ (by decide) hl.1 (Nat.le_of_ble_eq_true rfl) ⟨Nat.le_of_ble_eq_true rfl, Nat.le_of_ble_eq_true rfl⟩ (fun H locs hw => ?_)
    refine lv_if_eq (tgt := 27) hx hb dX10_setsFor_16 (by decide) (fun c_16 => ?_) (fun c_16 => ?_)
    · have hinv := oi_t c_16 hinv
      refine lv_iconst (v := 0) hx hb dX10_setsFor_27 (by decide) ?_
      have hR0 := (Option.some.inj hinv).symm
      subst hR0
      have hXe : (up X 29 zu2.2) = (up (up (up (up (up (up (up (up (up X 29 zu2.2) 36 (X 36)) 37 (X 37)) 38 (X 38)) 39 (X 39)) 40 (X 40)) 41 (X 41)) 44 (X 44)) 45 (X 45)) := by
        funext j
        by_cases h29 : j = 29
        · subst h29; simp [up]
        by_cases h36 : j = 36
        · subst h36; simp [up]
        by_cases h37 : j = 37
        · subst h37; simp [up]
        by_cases h38 : j = 38
        · subst h38; simp [up]
        by_cases h39 : j = 39
        · subst h39; simp [up]
        by_cases h40 : j = 40
        · subst h40; simp [up]
        by_cases h41 : j = 41
        · subst h41; simp [up]
        by_cases h44 : j = 44
        · subst h44; simp [up]
        by_cases h45 : j = 45
        · subst h45; simp [up]
        simp [up, h29, h36, h37, h38, h39, h40, h41, h44, h45]
      rw [hXe] at hw
      exact hret 28 ls 0 _ _ _ _ rfl hw (by decide) (by decide) dX10_setsFor_28
    · have hinv := oi_f c_16 hinv
      refine lv_aload_n hx hb dX10_setsFor_19 rfl (lv_at hl 0 rfl) ?_
      refine lv_iconst (v := 2) hx hb dX10_setsFor_20 (by decide) ?_
      obtain ⟨zu3, hzu3, hinv⟩ := ob hinv
      refine s_vWi (r0 := zu3.1) C hw (As := [.int 2]) bX10_areFew k605 (k := 29) (q47 hN rfl) (sh_29 g cy _) rfl (c_X10_areFew (X := (up X 29 zu2.2)) hfl hN hzu3) rfl rfl dX10_setsFor_21 ⟨rfl, rfl⟩ (by decide) hl.1 (Nat.le_of_ble_eq_true rfl) ⟨Nat.le_of_ble_eq_true rfl, Nat.le_of_ble_eq_true rfl⟩ (fun H locs hw => ?_)
      refine lv_if_ne (tgt := 29) hx hb dX10_setsFor_24 (by decide) (fun c_24 => ?_) (fun c_24 => ?_)
      · have hinv := oi_f c_24 hinv
        refine lv_aload_n hx hb dX10_setsFor_29 rfl (lv_at hl 0 rfl) ?_
        obtain ⟨zu4, hzu4, hinv⟩ := ob hinv
        refine s_vWi (r0 := zu4.1) C hw (As := []) bX10_prefers k608 (k := 29) (q47 hN rfl) (sh_29 g cy _) rfl (c_X10_prefers (X := (up (up (up (up (up (up (up (up X 29 zu2.2) 29 zu3.2.1) 36 zu3.2.2.1) 37 zu3.2.2.2.1) 38 zu3.2.2.2.2.1) 39 zu3.2.2.2.2.2.1) 40 zu3.2.2.2.2.2.2.1) 41 zu3.2.2.2.2.2.2.2)) hfl hN hzu4) rfl rfl dX10_setsFor_30 ⟨rfl, rfl⟩ (by decide) hl.1 (Nat.le_of_ble_eq_true rfl) ⟨Nat.le_of_ble_eq_true rfl, Nat.le_of_ble_eq_true rfl⟩ (fun H locs hw => ?_)
        refine lv_istore_n (lv' := [(2, .int zu4.1), (0, .ref (g 29)), (1, .int za1)]) hx hb dX10_setsFor_33 rfl hl (by decide) rfl (fun ls hl => ?_)
        refine lv_iconst (v := 0) hx hb dX10_setsFor_34 (by decide) ?_
        refine lv_istore_n (lv' := [(3, .int 0), (2, .int zu4.1), (0, .ref (g 29)), (1, .int za1)]) hx hb dX10_setsFor_35 rfl hl (by decide) rfl (fun ls hl => ?_)
        refine lv_iconst (v := 0) hx hb dX10_setsFor_36 (by decide) ?_
        refine lv_istore (lv' := [(4, .int 0), (3, .int 0), (2, .int zu4.1), (0, .ref (g 29)), (1, .int za1)]) hx hb dX10_setsFor_37 hl (by decide) rfl (fun ls hl => ?_)
        have hXe : (up (up (up (up (up (up (up (up (up (up X 29 zu2.2) 29 zu3.2.1) 36 zu3.2.2.1) 37 zu3.2.2.2.1) 38 zu3.2.2.2.2.1) 39 zu3.2.2.2.2.2.1) 40 zu3.2.2.2.2.2.2.1) 41 zu3.2.2.2.2.2.2.2) 44 zu4.2.1) 45 zu4.2.2) = (up (up (up (up (up (up (up (up (up X 29 zu3.2.1) 36 zu3.2.2.1) 37 zu3.2.2.2.1) 38 zu3.2.2.2.2.1) 39 zu3.2.2.2.2.2.1) 40 zu3.2.2.2.2.2.2.1) 41 zu3.2.2.2.2.2.2.2) 44 zu4.2.1) 45 zu4.2.2) := by
          funext j
          by_cases h29 : j = 29
          · subst h29; simp [up]
          by_cases h36 : j = 36
          · subst h36; simp [up]
          by_cases h37 : j = 37
          · subst h37; simp [up]
          by_cases h38 : j = 38
          · subst h38; simp [up]
          by_cases h39 : j = 39
          · subst h39; simp [up]
          by_cases h40 : j = 40
          · subst h40; simp [up]
          by_cases h41 : j = 41
          · subst h41; simp [up]
          by_cases h44 : j = 44
          · subst h44; simp [up]
          by_cases h45 : j = 45
          · subst h45; simp [up]
          simp [up, h29, h36, h37, h38, h39, h40, h41, h44, h45]
        rw [hXe] at hw
        have hl39 : ∀ (n : Nat) (x4_39 : Int32) (x3_39 : Int32) (q29_39 : Nat → Int32) (q36_39 : Nat → Int32) (q37_39 : Nat → Int32) (q38_39 : Nat → Int32) (q39_39 : Nat → Int32) (q40_39 : Nat → Int32) (q41_39 : Nat → Int32) (q44_39 : Nat → Int32) (q45_39 : Nat → Int32), m_X10_setsFor_L39 F zu4.1 za1 n x4_39 x3_39 q29_39 q36_39 q37_39 q38_39 q39_39 q40_39 q41_39 q44_39 q45_39 = some R0 → ∀ (H : Heap) (locs : List Loc) (ls : Array Slot), Wd D A s.heap g N (shp g cy (up (up (up (up (up (up (up (up (up X 29 q29_39) 36 q36_39) 37 q37_39) 38 q38_39) 39 q39_39) 40 q40_39) 41 q41_39) 44 q44_39) 45 q45_39)) H locs → lv_has ls 8 [(4, .int x4_39), (3, .int x3_39), (2, .int zu4.1), (0, .ref (g 29)), (1, .int za1)] → W p l e (wR 5 0 0) s m args below meth c H locs 0 0 Q (F0 m 39 ls []) := by
          intro n
          induction n with
          | zero =>
            intro x4_39 x3_39 q29_39 q36_39 q37_39 q38_39 q39_39 q40_39 q41_39 q44_39 q45_39 hinv
            cases hinv
          | succ n ih =>
            intro x4_39 x3_39 q29_39 q36_39 q37_39 q38_39 q39_39 q40_39 q41_39 q44_39 q45_39 hinv H locs ls hw hl
            rw [m_X10_setsFor_L39] at hinv
            refine lv_iload hx hb dX10_setsFor_39 (lv_at hl 0 rfl) ?_
            refine lv_iload_n hx hb dX10_setsFor_41 rfl (lv_at hl 2 rfl) ?_
            refine lv_icmp_ge (tgt := 127) hx hb dX10_setsFor_42 (by decide) (fun c_42 => ?_) (fun c_42 => ?_)
            · have hinv := oi_t c_42 hinv
              refine lv_iload_n hx hb dX10_setsFor_127 rfl (lv_at hl 1 rfl) ?_
              have hR0 := (Option.some.inj hinv).symm
              subst hR0
              exact hret 128 ls x3_39 _ _ _ _ rfl hw (by decide) (by decide) dX10_setsFor_128
            · have hinv := oi_f c_42 hinv
              refine lv_aload_n hx hb dX10_setsFor_45 rfl (lv_at hl 3 rfl) ?_
              refine lv_iload hx hb dX10_setsFor_46 (lv_at hl 0 rfl) ?_
              obtain ⟨zu5, hzu5, hinv⟩ := ob hinv
              refine s_vRi (r0 := zu5) C hw (As := [.int x4_39]) bX10_setAt k614 (k := 29) (q47 hN rfl) (sh_29 g cy _) rfl (c_X10_setAt (X := (up (up (up (up (up (up (up (up (up X 29 q29_39) 36 q36_39) 37 q37_39) 38 q38_39) 39 q39_39) 40 q40_39) 41 q41_39) 44 q44_39) 45 q45_39)) hfl hN hzu5) rfl rfl dX10_setsFor_48 ⟨rfl, rfl⟩ (by decide) hl.1 (Nat.le_of_ble_eq_true rfl) ⟨Nat.le_of_ble_eq_true rfl, Nat.le_of_ble_eq_true rfl⟩ ?_
              refine lv_istore (lv' := [(5, .int zu5), (4, .int x4_39), (3, .int x3_39), (2, .int zu4.1), (0, .ref (g 29)), (1, .int za1)]) hx hb dX10_setsFor_51 hl (by decide) rfl (fun ls hl => ?_)
              refine lv_iconst (v := 0) hx hb dX10_setsFor_53 (by decide) ?_
              refine lv_istore (lv' := [(6, .int 0), (5, .int zu5), (4, .int x4_39), (3, .int x3_39), (2, .int zu4.1), (0, .ref (g 29)), (1, .int za1)]) hx hb dX10_setsFor_54 hl (by decide) rfl (fun ls hl => ?_)
              refine lv_iconst (v := 0) hx hb dX10_setsFor_56 (by decide) ?_
              refine lv_istore (lv' := [(7, .int 0), (6, .int 0), (5, .int zu5), (4, .int x4_39), (3, .int x3_39), (2, .int zu4.1), (0, .ref (g 29)), (1, .int za1)]) hx hb dX10_setsFor_57 hl (by decide) rfl (fun ls hl => ?_)
              obtain ⟨zu6, hzu6, hinv⟩ := ob hinv
              have hx59 : ∀ (H : Heap) (locs : List Loc) (ls : Array Slot), Wd D A s.heap g N (shp g cy (up (up (up (up (up (up (up (up (up X 29 zu6.2.2.1) 36 zu6.2.2.2.1) 37 zu6.2.2.2.2.1) 38 zu6.2.2.2.2.2.1) 39 zu6.2.2.2.2.2.2.1) 40 zu6.2.2.2.2.2.2.2.1) 41 zu6.2.2.2.2.2.2.2.2.1) 44 zu6.2.2.2.2.2.2.2.2.2.1) 45 zu6.2.2.2.2.2.2.2.2.2.2)) H locs → lv_has ls 8 [(7, .int zu6.1), (6, .int zu6.2.1), (5, .int zu5), (4, .int x4_39), (3, .int x3_39), (2, .int zu4.1), (0, .ref (g 29)), (1, .int za1)] → W p l e (wR 5 0 0) s m args below meth c H locs 0 0 Q (F0 m 108 ls []) := by
                intro H locs ls hw hl
                refine lv_iload_n hx hb dX10_setsFor_108 rfl (lv_at hl 4 rfl) ?_
                refine lv_iload hx hb dX10_setsFor_109 (lv_at hl 1 rfl) ?_
                refine lv_if_eq (tgt := 118) hx hb dX10_setsFor_111 (by decide) (fun c_111 => ?_) (fun c_111 => ?_)
                · have hinv := oi_t c_111 hinv
                  refine lv_iconst (v := 0) hx hb dX10_setsFor_118 (by decide) ?_
                  refine lv_iadd hx hb dX10_setsFor_119 ?_
                  refine lv_istore_n (lv' := [(3, .int (x3_39 + 0)), (7, .int zu6.1), (6, .int zu6.2.1), (5, .int zu5), (4, .int x4_39), (2, .int zu4.1), (0, .ref (g 29)), (1, .int za1)]) hx hb dX10_setsFor_120 rfl hl (by decide) rfl (fun ls hl => ?_)
                  refine lv_iinc (v := (x4_39 + 1)) (lv' := [(4, .int (x4_39 + 1)), (3, .int (x3_39 + 0)), (7, .int zu6.1), (6, .int zu6.2.1), (5, .int zu5), (2, .int zu4.1), (0, .ref (g 29)), (1, .int za1)]) hx hb dX10_setsFor_121 hl (k := 4) rfl (by rfl) (by decide) rfl (fun ls hl => ?_)
                  refine lv_goto (tgt := 39) hx hb dX10_setsFor_124 (by decide) ?_
                  exact ih (x4_39 + 1) (x3_39 + 0) zu6.2.2.1 zu6.2.2.2.1 zu6.2.2.2.2.1 zu6.2.2.2.2.2.1 zu6.2.2.2.2.2.2.1 zu6.2.2.2.2.2.2.2.1 zu6.2.2.2.2.2.2.2.2.1 zu6.2.2.2.2.2.2.2.2.2.1 zu6.2.2.2.2.2.2.2.2.2.2 hinv _ _ ls hw (lv_sub hl [0, 1, 5, 6, 7] rfl)
                · have hinv := oi_f c_111 hinv
                  refine lv_iconst (v := 1) hx hb dX10_setsFor_114 (by decide) ?_
                  refine lv_goto (tgt := 119) hx hb dX10_setsFor_115 (by decide) ?_
                  refine lv_iadd hx hb dX10_setsFor_119 ?_
                  refine lv_istore_n (lv' := [(3, .int (x3_39 + 1)), (7, .int zu6.1), (6, .int zu6.2.1), (5, .int zu5), (4, .int x4_39), (2, .int zu4.1), (0, .ref (g 29)), (1, .int za1)]) hx hb dX10_setsFor_120 rfl hl (by decide) rfl (fun ls hl => ?_)
                  refine lv_iinc (v := (x4_39 + 1)) (lv' := [(4, .int (x4_39 + 1)), (3, .int (x3_39 + 1)), (7, .int zu6.1), (6, .int zu6.2.1), (5, .int zu5), (2, .int zu4.1), (0, .ref (g 29)), (1, .int za1)]) hx hb dX10_setsFor_121 hl (k := 4) rfl (by rfl) (by decide) rfl (fun ls hl => ?_)
                  refine lv_goto (tgt := 39) hx hb dX10_setsFor_124 (by decide) ?_
                  exact ih (x4_39 + 1) (x3_39 + 1) zu6.2.2.1 zu6.2.2.2.1 zu6.2.2.2.2.1 zu6.2.2.2.2.2.1 zu6.2.2.2.2.2.2.1 zu6.2.2.2.2.2.2.2.1 zu6.2.2.2.2.2.2.2.2.1 zu6.2.2.2.2.2.2.2.2.2.1 zu6.2.2.2.2.2.2.2.2.2.2 hinv _ _ ls hw (lv_sub hl [0, 1, 5, 6, 7] rfl)
              have hl59 : ∀ (n : Nat) (x7_59 : Int32) (x6_59 : Int32) (q29_59 : Nat → Int32) (q36_59 : Nat → Int32) (q37_59 : Nat → Int32) (q38_59 : Nat → Int32) (q39_59 : Nat → Int32) (q40_59 : Nat → Int32) (q41_59 : Nat → Int32) (q44_59 : Nat → Int32) (q45_59 : Nat → Int32), m_X10_setsFor_L59 F zu5 za1 n x7_59 x6_59 q29_59 q36_59 q37_59 q38_59 q39_59 q40_59 q41_59 q44_59 q45_59 = some zu6 → ∀ (H : Heap) (locs : List Loc) (ls : Array Slot), Wd D A s.heap g N (shp g cy (up (up (up (up (up (up (up (up (up X 29 q29_59) 36 q36_59) 37 q37_59) 38 q38_59) 39 q39_59) 40 q40_59) 41 q41_59) 44 q44_59) 45 q45_59)) H locs → lv_has ls 8 [(7, .int x7_59), (6, .int x6_59), (5, .int zu5), (4, .int x4_39), (3, .int x3_39), (2, .int zu4.1), (0, .ref (g 29)), (1, .int za1)] → W p l e (wR 5 0 0) s m args below meth c H locs 0 0 Q (F0 m 59 ls []) := by
                intro n
                induction n with
                | zero =>
                  intro x7_59 x6_59 q29_59 q36_59 q37_59 q38_59 q39_59 q40_59 q41_59 q44_59 q45_59 hinv
                  cases hinv
                | succ n ih =>
                  intro x7_59 x6_59 q29_59 q36_59 q37_59 q38_59 q39_59 q40_59 q41_59 q44_59 q45_59 hinv H locs ls hw hl
                  rw [m_X10_setsFor_L59] at hinv
                  refine lv_iload hx hb dX10_setsFor_59 (lv_at hl 0 rfl) ?_
                  refine lv_aload_n hx hb dX10_setsFor_61 rfl (lv_at hl 6 rfl) ?_
                  refine w_get C hw (k := 29) (v := .int (q29_59 8)) (j := 8) (q47 hN rfl) (sh_29 g cy _) rfl (by decide) k517 rfl dX10_setsFor_62 ?_
                  refine lv_icmp_ge (tgt := 108) hx hb dX10_setsFor_65 (by decide) (fun c_65 => ?_) (fun c_65 => ?_)
                  · have hinv := oi_t c_65 hinv
                    have hR9 := Option.some.inj hinv
                    subst hR9
                    exact hx59 _ _ ls hw (lv_sub hl [0, 1, 2, 3, 4, 5, 6, 7] rfl)
                  · have hinv := oi_f c_65 hinv
                    refine lv_iload hx hb dX10_setsFor_68 (lv_at hl 1 rfl) ?_
                    refine lv_if_ne (tgt := 95) hx hb dX10_setsFor_70 (by decide) (fun c_70 => ?_) (fun c_70 => ?_)
                    · have hinv := oi_f c_70 hinv
                      refine lv_iconst (v := 1) hx hb dX10_setsFor_95 (by decide) ?_
                      refine lv_goto (tgt := 100) hx hb dX10_setsFor_96 (by decide) ?_
                      refine lv_istore (lv' := [(6, .int 1), (7, .int x7_59), (5, .int zu5), (4, .int x4_39), (3, .int x3_39), (2, .int zu4.1), (0, .ref (g 29)), (1, .int za1)]) hx hb dX10_setsFor_100 hl (by decide) rfl (fun ls hl => ?_)
                      refine lv_iinc (v := (x7_59 + 1)) (lv' := [(7, .int (x7_59 + 1)), (6, .int 1), (5, .int zu5), (4, .int x4_39), (3, .int x3_39), (2, .int zu4.1), (0, .ref (g 29)), (1, .int za1)]) hx hb dX10_setsFor_102 hl (k := 1) rfl (by rfl) (by decide) rfl (fun ls hl => ?_)
                      refine lv_goto (tgt := 59) hx hb dX10_setsFor_105 (by decide) ?_
                      exact ih (x7_59 + 1) 1 q29_59 q36_59 q37_59 q38_59 q39_59 q40_59 q41_59 q44_59 q45_59 hinv _ _ ls hw (lv_sub hl [0, 1, 2, 3, 4, 5, 6, 7] rfl)
                    · have hinv := oi_t c_70 hinv
                      refine lv_aload_n hx hb dX10_setsFor_73 rfl (lv_at hl 6 rfl) ?_
                      refine lv_iload hx hb dX10_setsFor_74 (lv_at hl 2 rfl) ?_
                      refine lv_iload hx hb dX10_setsFor_76 (lv_at hl 0 rfl) ?_
                      obtain ⟨zu7, hzu7, hinv⟩ := ob hinv
                      refine s_vRi (r0 := zu7) C hw (As := [.int zu5, .int x7_59]) bX10_has k593 (k := 29) (q47 hN rfl) (sh_29 g cy _) rfl (c_X10_has (X := (up (up (up (up (up (up (up (up (up X 29 q29_59) 36 q36_59) 37 q37_59) 38 q38_59) 39 q39_59) 40 q40_59) 41 q41_59) 44 q44_59) 45 q45_59)) hfl hN hzu7) rfl rfl dX10_setsFor_78 ⟨rfl, rfl⟩ (by decide) hl.1 (Nat.le_of_ble_eq_true rfl) ⟨Nat.le_of_ble_eq_true rfl, Nat.le_of_ble_eq_true rfl⟩ ?_
                      refine lv_if_eq (tgt := 99) hx hb dX10_setsFor_81 (by decide) (fun c_81 => ?_) (fun c_81 => ?_)
                      · have hinv := oi_t c_81 hinv
                        refine lv_iconst (v := 0) hx hb dX10_setsFor_99 (by decide) ?_
                        refine lv_istore (lv' := [(6, .int 0), (7, .int x7_59), (5, .int zu5), (4, .int x4_39), (3, .int x3_39), (2, .int zu4.1), (0, .ref (g 29)), (1, .int za1)]) hx hb dX10_setsFor_100 hl (by decide) rfl (fun ls hl => ?_)
                        refine lv_iinc (v := (x7_59 + 1)) (lv' := [(7, .int (x7_59 + 1)), (6, .int 0), (5, .int zu5), (4, .int x4_39), (3, .int x3_39), (2, .int zu4.1), (0, .ref (g 29)), (1, .int za1)]) hx hb dX10_setsFor_102 hl (k := 1) rfl (by rfl) (by decide) rfl (fun ls hl => ?_)
                        refine lv_goto (tgt := 59) hx hb dX10_setsFor_105 (by decide) ?_
                        exact ih (x7_59 + 1) 0 q29_59 q36_59 q37_59 q38_59 q39_59 q40_59 q41_59 q44_59 q45_59 hinv _ _ ls hw (lv_sub hl [0, 1, 2, 3, 4, 5, 6, 7] rfl)
                      · have hinv := oi_f c_81 hinv
                        refine lv_aload_n hx hb dX10_setsFor_84 rfl (lv_at hl 6 rfl) ?_
                        refine w_get C hw (k := 29) (v := .ref (g 36)) (j := 10) (q47 hN rfl) (sh_29 g cy _) rfl (by decide) k475 rfl dX10_setsFor_85 ?_
                        refine lv_iload hx hb dX10_setsFor_88 (lv_at hl 0 rfl) ?_
                        obtain ⟨hb_90, hinv⟩ := oi_c hinv
                        refine s_iald C hw (k := 36) (a := q36_59) (q47 hN rfl) (fun r => sh_36 g cy r) rfl hb_90 dX10_setsFor_90 ?_
                        refine lv_iload_n hx hb dX10_setsFor_91 rfl (lv_at hl 7 rfl) ?_
                        refine lv_icmp_ne (tgt := 99) hx hb dX10_setsFor_92 (by decide) (fun c_92 => ?_) (fun c_92 => ?_)
                        · have hinv := oi_f c_92 hinv
                          refine lv_iconst (v := 0) hx hb dX10_setsFor_99 (by decide) ?_
                          refine lv_istore (lv' := [(6, .int 0), (7, .int x7_59), (5, .int zu5), (4, .int x4_39), (3, .int x3_39), (2, .int zu4.1), (0, .ref (g 29)), (1, .int za1)]) hx hb dX10_setsFor_100 hl (by decide) rfl (fun ls hl => ?_)
                          refine lv_iinc (v := (x7_59 + 1)) (lv' := [(7, .int (x7_59 + 1)), (6, .int 0), (5, .int zu5), (4, .int x4_39), (3, .int x3_39), (2, .int zu4.1), (0, .ref (g 29)), (1, .int za1)]) hx hb dX10_setsFor_102 hl (k := 1) rfl (by rfl) (by decide) rfl (fun ls hl => ?_)
                          refine lv_goto (tgt := 59) hx hb dX10_setsFor_105 (by decide) ?_
                          exact ih (x7_59 + 1) 0 q29_59 q36_59 q37_59 q38_59 q39_59 q40_59 q41_59 q44_59 q45_59 hinv _ _ ls hw (lv_sub hl [0, 1, 2, 3, 4, 5, 6, 7] rfl)
                        · have hinv := oi_t c_92 hinv
                          refine lv_iconst (v := 1) hx hb dX10_setsFor_95 (by decide) ?_
                          refine lv_goto (tgt := 100) hx hb dX10_setsFor_96 (by decide) ?_
                          refine lv_istore (lv' := [(6, .int 1), (7, .int x7_59), (5, .int zu5), (4, .int x4_39), (3, .int x3_39), (2, .int zu4.1), (0, .ref (g 29)), (1, .int za1)]) hx hb dX10_setsFor_100 hl (by decide) rfl (fun ls hl => ?_)
                          refine lv_iinc (v := (x7_59 + 1)) (lv' := [(7, .int (x7_59 + 1)), (6, .int 1), (5, .int zu5), (4, .int x4_39), (3, .int x3_39), (2, .int zu4.1), (0, .ref (g 29)), (1, .int za1)]) hx hb dX10_setsFor_102 hl (k := 1) rfl (by rfl) (by decide) rfl (fun ls hl => ?_)
                          refine lv_goto (tgt := 59) hx hb dX10_setsFor_105 (by decide) ?_
                          exact ih (x7_59 + 1) 1 q29_59 q36_59 q37_59 q38_59 q39_59 q40_59 q41_59 q44_59 q45_59 hinv _ _ ls hw (lv_sub hl [0, 1, 2, 3, 4, 5, 6, 7] rfl)
              exact hl59 F 0 0 q29_39 q36_39 q37_39 q38_39 q39_39 q40_39 q41_39 q44_39 q45_39 hzu6 _ _ ls hw (lv_sub hl [0, 1, 2, 3, 4, 5, 6, 7] rfl)
        exact hl39 F 0 0 zu3.2.1 zu3.2.2.1 zu3.2.2.2.1 zu3.2.2.2.2.1 zu3.2.2.2.2.2.1 zu3.2.2.2.2.2.2.1 zu3.2.2.2.2.2.2.2 zu4.2.1 zu4.2.2 hinv _ _ ls hw (lv_sub hl [0, 1, 2, 3, 4] rfl)
      · have hinv := oi_t c_24 hinv
        refine lv_iconst (v := 0) hx hb dX10_setsFor_27 (by decide) ?_
        have hR0 := (Option.some.inj hinv).symm
        subst hR0
        have hXe : (up (up (up (up (up (up (up (up X 29 zu2.2) 29 zu3.2.1) 36 zu3.2.2.1) 37 zu3.2.2.2.1) 38 zu3.2.2.2.2.1) 39 zu3.2.2.2.2.2.1) 40 zu3.2.2.2.2.2.2.1) 41 zu3.2.2.2.2.2.2.2) = (up (up (up (up (up (up (up (up (up X 29 zu3.2.1) 36 zu3.2.2.1) 37 zu3.2.2.2.1) 38 zu3.2.2.2.2.1) 39 zu3.2.2.2.2.2.1) 40 zu3.2.2.2.2.2.2.1) 41 zu3.2.2.2.2.2.2.2) 44 (X 44)) 45 (X 45)) := by
          funext j
          by_cases h29 : j = 29
          · subst h29; simp [up]
          by_cases h36 : j = 36
          · subst h36; simp [up]
          by_cases h37 : j = 37
          · subst h37; simp [up]
          by_cases h38 : j = 38
          · subst h38; simp [up]
          by_cases h39 : j = 39
          · subst h39; simp [up]
          by_cases h40 : j = 40
          · subst h40; simp [up]
          by_cases h41 : j = 41
          · subst h41; simp [up]
          by_cases h44 : j = 44
          · subst h44; simp [up]
          by_cases h45 : j = 45
          · subst h45; simp [up]
          simp [up, h29, h36, h37, h38, h39, h40, h41, h44, h45]
        rw [hXe] at hw
        exact hret 28 ls 0 _ _ _ _ rfl hw (by decide) (by decide) dX10_setsFor_28
  have hinv := hzu1
  refine lv_iload_n hx hb dX10_setsFor_1 rfl (lv_at hl 1 rfl) ?_
  obtain ⟨zu8, hzu8, hinv⟩ := ob hinv
  refine s_sRi (r0 := zu8) C hw (As := [.int za1]) bX10_isLiteral k492 (c_X10_isLiteral (X := X) hfl hN hzu8) rfl rfl dX10_setsFor_2 ⟨rfl, rfl⟩ (by decide) hl.1 (Nat.le_of_ble_eq_true rfl) ⟨Nat.le_of_ble_eq_true rfl, Nat.le_of_ble_eq_true rfl⟩ ?_
  refine lv_if_eq (tgt := 12) hx hb dX10_setsFor_5 (by decide) (fun c_5 => ?_) (fun c_5 => ?_)
  · have hinv := oi_t c_5 hinv
    refine lv_iconst (v := 1) hx hb dX10_setsFor_12 (by decide) ?_
    have hR9 := Option.some.inj hinv
    subst hR9
    exact hx1 _ _ ls hw (lv_sub hl [0, 1] rfl)
  · have hinv := oi_f c_5 hinv
    refine lv_iconst (v := 0) hx hb dX10_setsFor_8 (by decide) ?_
    refine lv_goto (tgt := 13) hx hb dX10_setsFor_9 (by decide) ?_
    have hR9 := Option.some.inj hinv
    subst hR9
    exact hx1 _ _ ls hw (lv_sub hl [0, 1] rfl)

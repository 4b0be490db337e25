def m_X7_tryFrom (F : Nat) (r16 r19 r20 r23 r24 : Nat → Int32) : Nat → (Nat → Int32) → (Nat → Int32) → Int32 → Int32 → Option ((Nat → Int32) × (Nat → Int32))
  | 0, _, _, _, _ => none
  | n + 1, r25, r26, za1, za2 => if (r16 4) < za1 then (some (r25, r26)) else (if za1 ≤ 14 then (Option.bind (m_X7_restFrom F r16 za1) (fun zu1 => Option.bind (m_X6_covers F r25 r26 (za2 ||| zu1)) (fun zu2 => if zu2 = 0 then (Option.bind (m_X7_canDefend F r19 r20 r23 r24 za2 (za2 ||| zu1)) (fun zu3 => if zu3 = 0 then (some (r25, r26)) else (if za1 = (r16 4) then (Option.bind (m_X6_keep F r25 r26 za2) (fun zu9 => some (zu9.1, zu9.2))) else (Option.bind (m_X9_setBit F za1) (fun zu4 => Option.bind (m_X7_isPeaceful F r19 r20 (za2 ||| zu4)) (fun zu5 => if zu5 = 0 then (Option.bind (m_X7_tryFrom F r16 r19 r20 r23 r24 n r25 r26 (za1 + 1) za2) (fun zu6 => some (zu6.1, zu6.2))) else (Option.bind (m_X7_tryFrom F r16 r19 r20 r23 r24 n r25 r26 (za1 + 1) (za2 ||| zu4)) (fun zu7 => Option.bind (m_X7_tryFrom F r16 r19 r20 r23 r24 n zu7.1 zu7.2 (za1 + 1) za2) (fun zu8 => some (zu8.1, zu8.2)))))))))) else (some (r25, r26))))) else (some (r25, r26)))
set_option maxHeartbeats 4000000 in
set_option maxRecDepth 100000 in
theorem c_X7_tryFrom {l : Launch} {D : va_G} {cy : Nat → Nat} {g : Nat → Nat} {N : Nat} {F : Nat} (hfl : l.stackTraces = false) {r16 r19 r20 r23 r24 : Nat → Int32} : ∀ (n : Nat) {X : Nat → Nat → Int32} {za1 za2 : Int32} {R0 : (Nat → Int32) × (Nat → Int32)} (hN : 47 ≤ N) (h16 : X 16 = r16 ∧ X 19 = r19 ∧ X 20 = r20 ∧ X 23 = r23 ∧ X 24 = r24) (hinv : m_X7_tryFrom F r16 r19 r20 r23 r24 n (X 25) (X 26) za1 za2 = some R0), sWv l D cy yX7_tryFrom cX7_tryFrom 5 none (6 + n) 0 0 [.ref (g 16), .int za1, .int za2] g N X (up (up X 25 R0.1) 26 R0.2) := by
  intro n
  induction n with
  | zero =>
    intro X za1 za2 R0 hN h16 hinv
    cases hinv
  | succ n ih =>
    intro X za1 za2 R0 hN h16 hinv
    obtain ⟨rfl, rfl, rfl, rfl, rfl⟩ := h16
    refine jWv (own := RX7) (by decide) rfl hfl (Nat.le_of_ble_eq_true rfl) rfl ?_
    intro p e R s m args below meth c ls A Q hRe C hw hl hret
    subst hRe
    have hx := C.1
    have hb := C.2.1
    have hl : lv_has ls 5 [(0, .ref (g 16)), (1, .int za1), (2, .int za2)] := hl
    rw [m_X7_tryFrom] at hinv
    refine lv_iload_n hx hb dX7_tryFrom_0 rfl (lv_at hl 1 rfl) ?_
    refine lv_aload_n hx hb dX7_tryFrom_1 rfl (lv_at hl 0 rfl) ?_
    refine w_get C hw (k := 16) (v := .int ((X 16) 4)) (j := 4) (q47 hN rfl) (sh_16 g cy _) rfl (by decide) k265 rfl dX7_tryFrom_2 ?_
    refine lv_icmp_gt (tgt := 14) hx hb dX7_tryFrom_5 (by decide) (fun c_5 => ?_) (fun c_5 => ?_)
    · have hinv := oi_t c_5 hinv
      have hR0 := (Option.some.inj hinv).symm
      subst hR0
      have hXe : X = (up (up X 25 (X 25)) 26 (X 26)) := by
        funext j
        by_cases h25 : j = 25
        · subst h25; simp [up]
        by_cases h26 : j = 26
        · subst h26; simp [up]
        simp [up, h25, h26]
      rw [hXe] at hw
      exact hret 14 ls _ _ _ _ hw (by decide) (by decide) dX7_tryFrom_14
    · have hinv := oi_f c_5 hinv
      refine lv_iload_n hx hb dX7_tryFrom_8 rfl (lv_at hl 1 rfl) ?_
      refine lv_bipush (v := 14) hx hb dX7_tryFrom_9 (by decide) ?_
      refine lv_icmp_le (tgt := 15) hx hb dX7_tryFrom_11 (by decide) (fun c_11 => ?_) (fun c_11 => ?_)
      · have hinv := oi_t c_11 hinv
        refine lv_iload_n hx hb dX7_tryFrom_15 rfl (lv_at hl 2 rfl) ?_
        refine lv_aload_n hx hb dX7_tryFrom_16 rfl (lv_at hl 0 rfl) ?_
        refine lv_iload_n hx hb dX7_tryFrom_17 rfl (lv_at hl 1 rfl) ?_
        obtain ⟨zu1, hzu1, hinv⟩ := ob hinv
        refine s_vRi (r0 := zu1) C hw (As := [.int za1]) bX7_restFrom k286 (k := 16) (q47 hN rfl) (sh_16 g cy _) rfl (c_X7_restFrom (X := X) hfl hN hzu1) rfl rfl dX7_tryFrom_18 ⟨rfl, rfl⟩ (show _ + 1 ≤ 6 + (n + 1) by omega) hl.1 (Nat.le_of_ble_eq_true rfl) ⟨Nat.le_of_ble_eq_true rfl, Nat.le_of_ble_eq_true rfl⟩ ?_
        refine lv_ior hx hb dX7_tryFrom_21 ?_
        refine lv_istore_n (lv' := [(3, .int (za2 ||| zu1)), (0, .ref (g 16)), (1, .int za1), (2, .int za2)]) hx hb dX7_tryFrom_22 rfl hl (by decide) rfl (fun ls hl => ?_)
        refine lv_aload_n hx hb dX7_tryFrom_23 rfl (lv_at hl 1 rfl) ?_
        refine w_get C hw (k := 16) (v := .ref (g 25)) (j := 2) (q47 hN rfl) (sh_16 g cy _) rfl (by decide) k257 rfl dX7_tryFrom_24 ?_
        refine lv_iload_n hx hb dX7_tryFrom_27 rfl (lv_at hl 0 rfl) ?_
        obtain ⟨zu2, hzu2, hinv⟩ := ob hinv
        refine s_vRi (r0 := zu2) C hw (As := [.int (za2 ||| zu1)]) bX6_covers k290 (k := 25) (q47 hN rfl) (sh_25 g cy _) rfl (c_X6_covers (X := X) hfl hN hzu2) rfl rfl dX7_tryFrom_28 ⟨rfl, rfl⟩ (show _ + 1 ≤ 6 + (n + 1) by omega) hl.1 (Nat.le_of_ble_eq_true rfl) ⟨Nat.le_of_ble_eq_true rfl, Nat.le_of_ble_eq_true rfl⟩ ?_
        refine lv_if_ne (tgt := 43) hx hb dX7_tryFrom_31 (by decide) (fun c_31 => ?_) (fun c_31 => ?_)
        · have hinv := oi_f c_31 hinv
          have hR0 := (Option.some.inj hinv).symm
          subst hR0
          have hXe : X = (up (up X 25 (X 25)) 26 (X 26)) := by
            funext j
            by_cases h25 : j = 25
            · subst h25; simp [up]
            by_cases h26 : j = 26
            · subst h26; simp [up]
            simp [up, h25, h26]
          rw [hXe] at hw
          exact hret 43 ls _ _ _ _ hw (by decide) (by decide) dX7_tryFrom_43
        · have hinv := oi_t c_31 hinv
          refine lv_aload_n hx hb dX7_tryFrom_34 rfl (lv_at hl 1 rfl) ?_
          refine lv_iload_n hx hb dX7_tryFrom_35 rfl (lv_at hl 3 rfl) ?_
          refine lv_iload_n hx hb dX7_tryFrom_36 rfl (lv_at hl 0 rfl) ?_
          obtain ⟨zu3, hzu3, hinv⟩ := ob hinv
          refine s_vRi (r0 := zu3) C hw (As := [.int za2, .int (za2 ||| zu1)]) bX7_canDefend k293 (k := 16) (q47 hN rfl) (sh_16 g cy _) rfl (c_X7_canDefend (X := X) hfl hN hzu3) rfl rfl dX7_tryFrom_37 ⟨rfl, rfl⟩ (show _ + 1 ≤ 6 + (n + 1) by omega) hl.1 (Nat.le_of_ble_eq_true rfl) ⟨Nat.le_of_ble_eq_true rfl, Nat.le_of_ble_eq_true rfl⟩ ?_
          refine lv_if_ne (tgt := 44) hx hb dX7_tryFrom_40 (by decide) (fun c_40 => ?_) (fun c_40 => ?_)
          · have hinv := oi_f c_40 hinv
            refine lv_iload_n hx hb dX7_tryFrom_44 rfl (lv_at hl 2 rfl) ?_
            refine lv_aload_n hx hb dX7_tryFrom_45 rfl (lv_at hl 1 rfl) ?_
            refine w_get C hw (k := 16) (v := .int ((X 16) 4)) (j := 4) (q47 hN rfl) (sh_16 g cy _) rfl (by decide) k265 rfl dX7_tryFrom_46 ?_
            refine lv_icmp_ne (tgt := 61) hx hb dX7_tryFrom_49 (by decide) (fun c_49 => ?_) (fun c_49 => ?_)
            · have hinv := oi_f c_49 hinv
              refine lv_iload_n hx hb dX7_tryFrom_61 rfl (lv_at hl 3 rfl) ?_
              refine lv_iload_n hx hb dX7_tryFrom_62 rfl (lv_at hl 2 rfl) ?_
              obtain ⟨zu4, hzu4, hinv⟩ := ob hinv
              refine s_nRi (r0 := zu4) C hw (As := [.int za1]) bX9_setBit k861 (c_X9_setBit (X := X) hfl hN hzu4) rfl rfl dX7_tryFrom_63 ⟨rfl, rfl⟩ (show _ + 1 ≤ 6 + (n + 1) by omega) hl.1 (Nat.le_of_ble_eq_true rfl) ⟨Nat.le_of_ble_eq_true rfl, Nat.le_of_ble_eq_true rfl⟩ ?_
              refine lv_ior hx hb dX7_tryFrom_66 ?_
              refine lv_istore (lv' := [(4, .int (za2 ||| zu4)), (3, .int (za2 ||| zu1)), (0, .ref (g 16)), (1, .int za1), (2, .int za2)]) hx hb dX7_tryFrom_67 hl (by decide) rfl (fun ls hl => ?_)
              refine lv_aload_n hx hb dX7_tryFrom_69 rfl (lv_at hl 2 rfl) ?_
              refine lv_iload hx hb dX7_tryFrom_70 (lv_at hl 0 rfl) ?_
              obtain ⟨zu5, hzu5, hinv⟩ := ob hinv
              refine s_vRi (r0 := zu5) C hw (As := [.int (za2 ||| zu4)]) bX7_isPeaceful k299 (k := 16) (q47 hN rfl) (sh_16 g cy _) rfl (c_X7_isPeaceful (X := X) hfl hN hzu5) rfl rfl dX7_tryFrom_72 ⟨rfl, rfl⟩ (show _ + 1 ≤ 6 + (n + 1) by omega) hl.1 (Nat.le_of_ble_eq_true rfl) ⟨Nat.le_of_ble_eq_true rfl, Nat.le_of_ble_eq_true rfl⟩ ?_
              refine lv_if_eq (tgt := 87) hx hb dX7_tryFrom_75 (by decide) (fun c_75 => ?_) (fun c_75 => ?_)
              · have hinv := oi_t c_75 hinv
                refine lv_aload_n hx hb dX7_tryFrom_87 rfl (lv_at hl 2 rfl) ?_
                refine lv_iload_n hx hb dX7_tryFrom_88 rfl (lv_at hl 3 rfl) ?_
                refine lv_iconst (v := 1) hx hb dX7_tryFrom_89 (by decide) ?_
                refine lv_iadd hx hb dX7_tryFrom_90 ?_
                refine lv_iload_n hx hb dX7_tryFrom_91 rfl (lv_at hl 4 rfl) ?_
                obtain ⟨zu6, hzu6, hinv⟩ := ob hinv
                refine s_sWv C hw (As := [.ref (g 16), .int (za1 + 1), .int za2]) bX7_tryFrom k302 (ih (X := X) hN ⟨rfl, rfl, rfl, rfl, rfl⟩ hzu6) rfl rfl dX7_tryFrom_92 ⟨rfl, rfl⟩ (show _ + 1 ≤ 6 + (n + 1) by omega) hl.1 (Nat.le_of_ble_eq_true rfl) ⟨Nat.le_of_ble_eq_true rfl, Nat.le_of_ble_eq_true rfl⟩ (fun H locs hw => ?_)
                have hR0 := (Option.some.inj hinv).symm
                subst hR0
                exact hret 95 ls _ _ _ _ hw (by decide) (by decide) dX7_tryFrom_95
              · have hinv := oi_f c_75 hinv
                refine lv_aload_n hx hb dX7_tryFrom_78 rfl (lv_at hl 2 rfl) ?_
                refine lv_iload_n hx hb dX7_tryFrom_79 rfl (lv_at hl 3 rfl) ?_
                refine lv_iconst (v := 1) hx hb dX7_tryFrom_80 (by decide) ?_
                refine lv_iadd hx hb dX7_tryFrom_81 ?_
                refine lv_iload hx hb dX7_tryFrom_82 (lv_at hl 0 rfl) ?_
                obtain ⟨zu7, hzu7, hinv⟩ := ob hinv
                refine s_sWv C hw (As := [.ref (g 16), .int (za1 + 1), .int (za2 ||| zu4)]) bX7_tryFrom k302 (ih (X := X) hN ⟨rfl, rfl, rfl, rfl, rfl⟩ hzu7) rfl rfl dX7_tryFrom_84 ⟨rfl, rfl⟩ (show _ + 1 ≤ 6 + (n + 1) by omega) hl.1 (Nat.le_of_ble_eq_true rfl) ⟨Nat.le_of_ble_eq_true rfl, Nat.le_of_ble_eq_true rfl⟩ (fun H locs hw => ?_)
                refine lv_aload_n hx hb dX7_tryFrom_87 rfl (lv_at hl 2 rfl) ?_
                refine lv_iload_n hx hb dX7_tryFrom_88 rfl (lv_at hl 3 rfl) ?_
                refine lv_iconst (v := 1) hx hb dX7_tryFrom_89 (by decide) ?_
                refine lv_iadd hx hb dX7_tryFrom_90 ?_
                refine lv_iload_n hx hb dX7_tryFrom_91 rfl (lv_at hl 4 rfl) ?_
                obtain ⟨zu8, hzu8, hinv⟩ := ob hinv
                refine s_sWv C hw (As := [.ref (g 16), .int (za1 + 1), .int za2]) bX7_tryFrom k302 (ih (X := (up (up X 25 zu7.1) 26 zu7.2)) hN ⟨rfl, rfl, rfl, rfl, rfl⟩ hzu8) rfl rfl dX7_tryFrom_92 ⟨rfl, rfl⟩ (show _ + 1 ≤ 6 + (n + 1) by omega) hl.1 (Nat.le_of_ble_eq_true rfl) ⟨Nat.le_of_ble_eq_true rfl, Nat.le_of_ble_eq_true rfl⟩ (fun H locs hw => ?_)
                have hR0 := (Option.some.inj hinv).symm
                subst hR0
                have hXe : (up (up (up (up X 25 zu7.1) 26 zu7.2) 25 zu8.1) 26 zu8.2) = (up (up X 25 zu8.1) 26 zu8.2) := by
                  funext j
                  by_cases h25 : j = 25
                  · subst h25; simp [up]
                  by_cases h26 : j = 26
                  · subst h26; simp [up]
                  simp [up, h25, h26]
                rw [hXe] at hw
                exact hret 95 ls _ _ _ _ hw (by decide) (by decide) dX7_tryFrom_95
            · have hinv := oi_t c_49 hinv
              refine lv_aload_n hx hb dX7_tryFrom_52 rfl (lv_at hl 1 rfl) ?_
              refine w_get C hw (k := 16) (v := .ref (g 25)) (j := 2) (q47 hN rfl) (sh_16 g cy _) rfl (by decide) k257 rfl dX7_tryFrom_53 ?_
              refine lv_iload_n hx hb dX7_tryFrom_56 rfl (lv_at hl 3 rfl) ?_
              obtain ⟨zu9, hzu9, hinv⟩ := ob hinv
              refine s_vWv C hw (As := [.int za2]) bX6_keep k296 (k := 25) (q47 hN rfl) (sh_25 g cy _) rfl (c_X6_keep (X := X) hfl hN hzu9) rfl rfl dX7_tryFrom_57 ⟨rfl, rfl⟩ (show _ + 1 ≤ 6 + (n + 1) by omega) hl.1 (Nat.le_of_ble_eq_true rfl) ⟨Nat.le_of_ble_eq_true rfl, Nat.le_of_ble_eq_true rfl⟩ (fun H locs hw => ?_)
              have hR0 := (Option.some.inj hinv).symm
              subst hR0
              exact hret 60 ls _ _ _ _ hw (by decide) (by decide) dX7_tryFrom_60
          · have hinv := oi_t c_40 hinv
            have hR0 := (Option.some.inj hinv).symm
            subst hR0
            have hXe : X = (up (up X 25 (X 25)) 26 (X 26)) := by
              funext j
              by_cases h25 : j = 25
              · subst h25; simp [up]
              by_cases h26 : j = 26
              · subst h26; simp [up]
              simp [up, h25, h26]
            rw [hXe] at hw
            exact hret 43 ls _ _ _ _ hw (by decide) (by decide) dX7_tryFrom_43
      · have hinv := oi_f c_11 hinv
        have hR0 := (Option.some.inj hinv).symm
        subst hR0
        have hXe : X = (up (up X 25 (X 25)) 26 (X 26)) := by
          funext j
          by_cases h25 : j = 25
          · subst h25; simp [up]
          by_cases h26 : j = 26
          · subst h26; simp [up]
          simp [up, h25, h26]
        rw [hXe] at hw
        exact hret 14 ls _ _ _ _ hw (by decide) (by decide) dX7_tryFrom_14
def m_X7_tryAll (F : Nat) (r16 : Nat → Int32) (r19 : Nat → Int32) (r20 : Nat → Int32) (r23 : Nat → Int32) (r24 : Nat → Int32) (r25 : Nat → Int32) (r26 : Nat → Int32) : Option ((Nat → Int32) × (Nat → Int32)) := Option.bind (m_X6_clear F r25) (fun zu1 => Option.bind (m_X7_tryFrom F r16 r19 r20 r23 r24 16 zu1 r26 0 0) (fun zu2 => some (zu2.1, zu2.2)))
set_option maxHeartbeats 4000000 in
set_option maxRecDepth 100000 in
theorem c_X7_tryAll {l : Launch} {D : va_G} {cy : Nat → Nat} {g : Nat → Nat} {N : Nat} {X : Nat → Nat → Int32} {F : Nat} {R0 : (Nat → Int32) × (Nat → Int32)} (hfl : l.stackTraces = false) (hN : 47 ≤ N) (hinv : m_X7_tryAll F (X 16) (X 19) (X 20) (X 23) (X 24) (X 25) (X 26) = some R0) : sWv l D cy yX7_tryAll cX7_tryAll 1 none 23 0 0 [.ref (g 16)] g N X (up (up X 25 R0.1) 26 R0.2) := by
  refine jWv (own := RX7) (by decide) rfl hfl (Nat.le_of_ble_eq_true rfl) rfl ?_
  intro p e R s m args below meth c ls A Q hRe C hw hl hret
  subst hRe
  have hx := C.1
  have hb := C.2.1
  have hl : lv_has ls 1 [(0, .ref (g 16))] := hl
  rw [m_X7_tryAll] at hinv
  refine lv_aload_n hx hb dX7_tryAll_0 rfl (lv_at hl 0 rfl) ?_
  refine w_get C hw (k := 16) (v := .ref (g 25)) (j := 2) (q47 hN rfl) (sh_16 g cy _) rfl (by decide) k257 rfl dX7_tryAll_1 ?_
  obtain ⟨zu1, hzu1, hinv⟩ := ob hinv
  refine s_vWv C hw (As := []) bX6_clear k305 (k := 25) (q47 hN rfl) (sh_25 g cy _) rfl (c_X6_clear (X := X) hfl hN hzu1) rfl rfl dX7_tryAll_4 ⟨rfl, rfl⟩ (by decide) hl.1 (Nat.le_of_ble_eq_true rfl) ⟨Nat.le_of_ble_eq_true rfl, Nat.le_of_ble_eq_true rfl⟩ (fun H locs hw => ?_)
  refine lv_aload_n hx hb dX7_tryAll_7 rfl (lv_at hl 0 rfl) ?_
  refine lv_iconst (v := 0) hx hb dX7_tryAll_8 (by decide) ?_
  refine lv_iconst (v := 0) hx hb dX7_tryAll_9 (by decide) ?_
  obtain ⟨zu2, hzu2, hinv⟩ := ob hinv
  refine s_sWv C hw (As := [.ref (g 16), .int 0, .int 0]) bX7_tryFrom k302 (c_X7_tryFrom hfl 16 (X := (up X 25 zu1)) hN ⟨rfl, rfl, rfl, rfl, rfl⟩ hzu2) rfl rfl dX7_tryAll_10 ⟨rfl, rfl⟩ (by decide) hl.1 (Nat.le_of_ble_eq_true rfl) ⟨Nat.le_of_ble_eq_true rfl, Nat.le_of_ble_eq_true rfl⟩ (fun H locs hw => ?_)
  have hR0 := (Option.some.inj hinv).symm
  subst hR0
  have hXe : (up (up (up X 25 zu1) 25 zu2.1) 26 zu2.2) = (up (up X 25 zu2.1) 26 zu2.2) := by
    funext j
    by_cases h25 : j = 25
    · subst h25; simp [up]
    by_cases h26 : j = 26
    · subst h26; simp [up]
    simp [up, h25, h26]
  rw [hXe] at hw
  exact hret 13 ls _ _ _ _ hw (by decide) (by decide) dX7_tryAll_13

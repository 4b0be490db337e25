def m_X0_addMadeBy_L106 (F : Nat) (RR : Nat → Nat → Int32) (t2 : Nat) (y9_106 : Int32) (y8_106 : Int32) (y7_106 : Int32) (y1_106 : Int32) (y3_106 : Int32) : Nat → Int32 → (Nat → Int32) → (Nat → Int32) → (Nat → Int32) → (Nat → Int32) → (Nat → Int32) → (Nat → Int32) → Option (Int32 × (Nat → Int32) × (Nat → Int32) × (Nat → Int32) × (Nat → Int32) × (Nat → Int32) × (Nat → Int32))
  | 0, _, _, _, _, _, _, _ => none
  | n + 1, x10_106, q6_106, q7_106, q8_106, q9_106, q10_106, q11_106 => if y7_106 ≤ x10_106 then (some (x10_106, q6_106, q7_106, q8_106, q9_106, q10_106, q11_106)) else (Option.bind (m_X0_conclusionAt F q7_106 x10_106) (fun zu11 => if zu11 = (RR t2 3) then (Option.bind (m_X0_fits F q9_106 q11_106 (RR t2 0) y8_106 y9_106 x10_106 y3_106) (fun zu12 => if zu12 = 0 then (m_X0_addMadeBy_L106 F RR t2 y9_106 y8_106 y7_106 y1_106 y3_106 n (x10_106 + 1) q6_106 q7_106 q8_106 q9_106 q10_106 q11_106) else (Option.bind (m_X0_add F q6_106 q7_106 q8_106 q9_106 q10_106 q11_106 (RR t2 0) y1_106 y3_106 y8_106 y9_106 x10_106) (fun zu13 => m_X0_addMadeBy_L106 F RR t2 y9_106 y8_106 y7_106 y1_106 y3_106 n (x10_106 + 1) zu13.1 zu13.2.1 zu13.2.2.1 zu13.2.2.2.1 zu13.2.2.2.2.1 zu13.2.2.2.2.2)))) else (m_X0_addMadeBy_L106 F RR t2 y9_106 y8_106 y7_106 y1_106 y3_106 n (x10_106 + 1) q6_106 q7_106 q8_106 q9_106 q10_106 q11_106)))
def m_X0_addMadeBy_L74 (F : Nat) (RR : Nat → Nat → Int32) (t2 : Nat) (y8_74 : Int32) (y7_74 : Int32) (y6_74 : Int32) (y1_74 : Int32) (y3_74 : Int32) : Nat → Int32 → (Nat → Int32) → (Nat → Int32) → (Nat → Int32) → (Nat → Int32) → (Nat → Int32) → (Nat → Int32) → Option (Int32 × (Nat → Int32) × (Nat → Int32) × (Nat → Int32) × (Nat → Int32) × (Nat → Int32) × (Nat → Int32))
  | 0, _, _, _, _, _, _, _ => none
  | n + 1, x9_74, q6_74, q7_74, q8_74, q9_74, q10_74, q11_74 => if y6_74 ≤ x9_74 then (some (x9_74, q6_74, q7_74, q8_74, q9_74, q10_74, q11_74)) else (Option.bind (m_X0_conclusionAt F q7_74 x9_74) (fun zu8 => if zu8 = (RR t2 2) then (Option.bind (m_X0_choicesStart F (RR t2 3)) (fun zu9 => Option.bind (m_X0_addMadeBy_L106 F RR t2 x9_74 y8_74 y7_74 y1_74 y3_74 F zu9 q6_74 q7_74 q8_74 q9_74 q10_74 q11_74) (fun zu10 => m_X0_addMadeBy_L74 F RR t2 y8_74 y7_74 y6_74 y1_74 y3_74 n (x9_74 + 1) zu10.2.1 zu10.2.2.1 zu10.2.2.2.1 zu10.2.2.2.2.1 zu10.2.2.2.2.2.1 zu10.2.2.2.2.2.2))) else (m_X0_addMadeBy_L74 F RR t2 y8_74 y7_74 y6_74 y1_74 y3_74 n (x9_74 + 1) q6_74 q7_74 q8_74 q9_74 q10_74 q11_74)))
def m_X0_addMadeBy_L42 (F : Nat) (RR : Nat → Nat → Int32) (t2 : Nat) (y7_42 : Int32) (y6_42 : Int32) (y5_42 : Int32) (y1_42 : Int32) (y3_42 : Int32) : Nat → Int32 → (Nat → Int32) → (Nat → Int32) → (Nat → Int32) → (Nat → Int32) → (Nat → Int32) → (Nat → Int32) → Option ((Nat → Int32) × (Nat → Int32) × (Nat → Int32) × (Nat → Int32) × (Nat → Int32) × (Nat → Int32))
  | 0, _, _, _, _, _, _, _ => none
  | n + 1, x8_42, q6_42, q7_42, q8_42, q9_42, q10_42, q11_42 => if y5_42 ≤ x8_42 then (some (q6_42, q7_42, q8_42, q9_42, q10_42, q11_42)) else (Option.bind (m_X0_conclusionAt F q7_42 x8_42) (fun zu5 => if zu5 = (RR t2 1) then (Option.bind (m_X0_choicesStart F (RR t2 2)) (fun zu6 => Option.bind (m_X0_addMadeBy_L74 F RR t2 x8_42 y7_42 y6_42 y1_42 y3_42 F zu6 q6_42 q7_42 q8_42 q9_42 q10_42 q11_42) (fun zu7 => m_X0_addMadeBy_L42 F RR t2 y7_42 y6_42 y5_42 y1_42 y3_42 n (x8_42 + 1) zu7.2.1 zu7.2.2.1 zu7.2.2.2.1 zu7.2.2.2.2.1 zu7.2.2.2.2.2.1 zu7.2.2.2.2.2.2))) else (m_X0_addMadeBy_L42 F RR t2 y7_42 y6_42 y5_42 y1_42 y3_42 n (x8_42 + 1) q6_42 q7_42 q8_42 q9_42 q10_42 q11_42)))
def m_X0_addMadeBy (F : Nat) (RR : Nat → Nat → Int32) (t2 : Nat) (r6 : Nat → Int32) (r7 : Nat → Int32) (r8 : Nat → Int32) (r9 : Nat → Int32) (r10 : Nat → Int32) (r11 : Nat → Int32) (za1 : Int32) (za3 : Int32) (za4 : Int32) : Option ((Nat → Int32) × (Nat → Int32) × (Nat → Int32) × (Nat → Int32) × (Nat → Int32) × (Nat → Int32)) := Option.bind (m_X0_choicesEnd F (RR t2 1) za4) (fun zu1 => Option.bind (m_X0_choicesEnd F (RR t2 2) za4) (fun zu2 => Option.bind (m_X0_choicesEnd F (RR t2 3) za4) (fun zu3 => Option.bind (m_X0_choicesStart F (RR t2 1)) (fun zu4 => m_X0_addMadeBy_L42 F RR t2 zu3 zu2 zu1 za1 za3 F zu4 r6 r7 r8 r9 r10 r11))))
set_option maxHeartbeats 4000000 in
set_option maxRecDepth 100000 in
theorem c_X0_addMadeBy {l : Launch} {D : va_G} {cy : Nat → Nat} {g : Nat → Nat} {N : Nat} {X : Nat → Nat → Int32} {RR : Nat → Nat → Int32} {F : Nat} {t2 : Nat} {za1 : Int32} {za3 : Int32} {za4 : Int32} {R0 : (Nat → Int32) × (Nat → Int32) × (Nat → Int32) × (Nat → Int32) × (Nat → Int32) × (Nat → Int32)} (hfl : l.stackTraces = false) (hX : rok X RR N) (ht2 : rkt X RR N t2) (hinv : m_X0_addMadeBy F RR t2 (X 6) (X 7) (X 8) (X 9) (X 10) (X 11) za1 za3 za4 = some R0) : sWv l D cy yX0_addMadeBy cX0_addMadeBy 11 none 2 0 0 [.ref (g 6), .int za1, .ref (g t2), .int za3, .int za4] g N X (up (up (up (up (up (up X 6 R0.1) 7 R0.2.1) 8 R0.2.2.1) 9 R0.2.2.2.1) 10 R0.2.2.2.2.1) 11 R0.2.2.2.2.2) := by
  refine jWv (own := RX0) (by decide) rfl hfl (Nat.le_of_ble_eq_true rfl) rfl ?_
  intro p e R s m args below meth c ls A Q hRe C hw hl hret
  subst hRe
  have hx := C.1
  have hb := C.2.1
  have hN := hX.1
  have hl : lv_has ls 11 [(0, .ref (g 6)), (1, .int za1), (2, .ref (g t2)), (3, .int za3), (4, .int za4)] := hl
  rw [m_X0_addMadeBy] at hinv
  refine lv_aload_n hx hb dX0_addMadeBy_0 rfl (lv_at hl 2 rfl) ?_
  refine s_getRN C hw (RR := RR) (j := 1) ht2 (by decide) k838 dX0_addMadeBy_1 ?_
  refine lv_iload hx hb dX0_addMadeBy_4 (lv_at hl 4 rfl) ?_
  obtain ⟨zu1, hzu1, hinv⟩ := ob hinv
  refine s_sRi (r0 := zu1) C hw (As := [.int (RR t2 1), .int za4]) bX0_choicesEnd k67 (c_X0_choicesEnd (X := X) hfl hN hzu1) rfl rfl dX0_addMadeBy_6 ⟨rfl, rfl⟩ (by decide) hl.1 (Nat.le_of_ble_eq_true rfl) ⟨Nat.le_of_ble_eq_true rfl, Nat.le_of_ble_eq_true rfl⟩ ?_
  refine lv_istore (lv' := [(5, .int zu1), (0, .ref (g 6)), (1, .int za1), (2, .ref (g t2)), (3, .int za3), (4, .int za4)]) hx hb dX0_addMadeBy_9 hl (by decide) rfl (fun ls hl => ?_)
  refine lv_aload_n hx hb dX0_addMadeBy_11 rfl (lv_at hl 3 rfl) ?_
  refine s_getRN C hw (RR := RR) (j := 2) ht2 (by decide) k839 dX0_addMadeBy_12 ?_
  refine lv_iload hx hb dX0_addMadeBy_15 (lv_at hl 5 rfl) ?_
  obtain ⟨zu2, hzu2, hinv⟩ := ob hinv
  refine s_sRi (r0 := zu2) C hw (As := [.int (RR t2 2), .int za4]) bX0_choicesEnd k67 (c_X0_choicesEnd (X := X) hfl hN hzu2) rfl rfl dX0_addMadeBy_17 ⟨rfl, rfl⟩ (by decide) hl.1 (Nat.le_of_ble_eq_true rfl) ⟨Nat.le_of_ble_eq_true rfl, Nat.le_of_ble_eq_true rfl⟩ ?_
  refine lv_istore (lv' := [(6, .int zu2), (5, .int zu1), (0, .ref (g 6)), (1, .int za1), (2, .ref (g t2)), (3, .int za3), (4, .int za4)]) hx hb dX0_addMadeBy_20 hl (by decide) rfl (fun ls hl => ?_)
  refine lv_aload_n hx hb dX0_addMadeBy_22 rfl (lv_at hl 4 rfl) ?_
  refine s_getRN C hw (RR := RR) (j := 3) ht2 (by decide) k840 dX0_addMadeBy_23 ?_
  refine lv_iload hx hb dX0_addMadeBy_26 (lv_at hl 6 rfl) ?_
  obtain ⟨zu3, hzu3, hinv⟩ := ob hinv
  refine s_sRi (r0 := zu3) C hw (As := [.int (RR t2 3), .int za4]) bX0_choicesEnd k67 (c_X0_choicesEnd (X := X) hfl hN hzu3) rfl rfl dX0_addMadeBy_28 ⟨rfl, rfl⟩ (by decide) hl.1 (Nat.le_of_ble_eq_true rfl) ⟨Nat.le_of_ble_eq_true rfl, Nat.le_of_ble_eq_true rfl⟩ ?_
  refine lv_istore (lv' := [(7, .int zu3), (6, .int zu2), (5, .int zu1), (0, .ref (g 6)), (1, .int za1), (2, .ref (g t2)), (3, .int za3), (4, .int za4)]) hx hb dX0_addMadeBy_31 hl (by decide) rfl (fun ls hl => ?_)
  refine lv_aload_n hx hb dX0_addMadeBy_33 rfl (lv_at hl 5 rfl) ?_
  refine s_getRN C hw (RR := RR) (j := 1) ht2 (by decide) k838 dX0_addMadeBy_34 ?_
  obtain ⟨zu4, hzu4, hinv⟩ := ob hinv
  refine s_sRi (r0 := zu4) C hw (As := [.int (RR t2 1)]) bX0_choicesStart k69 (c_X0_choicesStart (X := X) hfl hN hzu4) rfl rfl dX0_addMadeBy_37 ⟨rfl, rfl⟩ (by decide) hl.1 (Nat.le_of_ble_eq_true rfl) ⟨Nat.le_of_ble_eq_true rfl, Nat.le_of_ble_eq_true rfl⟩ ?_
  refine lv_istore (lv' := [(8, .int zu4), (7, .int zu3), (6, .int zu2), (5, .int zu1), (0, .ref (g 6)), (1, .int za1), (2, .ref (g t2)), (3, .int za3), (4, .int za4)]) hx hb dX0_addMadeBy_40 hl (by decide) rfl (fun ls hl => ?_)
  have hXe : X = (up (up (up (up (up (up X 6 (X 6)) 7 (X 7)) 8 (X 8)) 9 (X 9)) 10 (X 10)) 11 (X 11)) := by
    funext j
    by_cases h6 : j = 6
    · subst h6; simp [up]
    by_cases h7 : j = 7
    · subst h7; simp [up]
    by_cases h8 : j = 8
    · subst h8; simp [up]
    by_cases h9 : j = 9
    · subst h9; simp [up]
    by_cases h10 : j = 10
    · subst h10; simp [up]
    by_cases h11 : j = 11
    · subst h11; simp [up]
    simp [up, h6, h7, h8, h9, h10, h11]
  rw [hXe] at hw
  have hl42 : ∀ (n : Nat) (x8_42 : Int32) (q6_42 : Nat → Int32) (q7_42 : Nat → Int32) (q8_42 : Nat → Int32) (q9_42 : Nat → Int32) (q10_42 : Nat → Int32) (q11_42 : Nat → Int32), m_X0_addMadeBy_L42 F RR t2 zu3 zu2 zu1 za1 za3 n x8_42 q6_42 q7_42 q8_42 q9_42 q10_42 q11_42 = some R0 → ∀ (H : Heap) (locs : List Loc) (ls : Array Slot), Wd D A s.heap g N (shp g cy (up (up (up (up (up (up X 6 q6_42) 7 q7_42) 8 q8_42) 9 q9_42) 10 q10_42) 11 q11_42)) H locs → lv_has ls 11 [(8, .int x8_42), (7, .int zu3), (6, .int zu2), (5, .int zu1), (0, .ref (g 6)), (1, .int za1), (2, .ref (g t2)), (3, .int za3), (4, .int za4)] → W p l e (wR 2 0 0) s m args below meth c H locs 0 0 Q (F0 m 42 ls []) := by
    intro n
    induction n with
    | zero =>
      intro x8_42 q6_42 q7_42 q8_42 q9_42 q10_42 q11_42 hinv
      cases hinv
    | succ n ih =>
      intro x8_42 q6_42 q7_42 q8_42 q9_42 q10_42 q11_42 hinv H locs ls hw hl
      rw [m_X0_addMadeBy_L42] at hinv
      refine lv_iload hx hb dX0_addMadeBy_42 (lv_at hl 0 rfl) ?_
      refine lv_iload hx hb dX0_addMadeBy_44 (lv_at hl 3 rfl) ?_
      refine lv_icmp_ge (tgt := 178) hx hb dX0_addMadeBy_46 (by decide) (fun c_46 => ?_) (fun c_46 => ?_)
      · have hinv := oi_t c_46 hinv
        have hR0 := (Option.some.inj hinv).symm
        subst hR0
        exact hret 178 ls _ _ _ _ hw (by decide) (by decide) dX0_addMadeBy_178
      · have hinv := oi_f c_46 hinv
        refine lv_aload_n hx hb dX0_addMadeBy_49 rfl (lv_at hl 4 rfl) ?_
        refine lv_iload hx hb dX0_addMadeBy_50 (lv_at hl 0 rfl) ?_
        obtain ⟨zu5, hzu5, hinv⟩ := ob hinv
        refine s_vRi (r0 := zu5) C hw (As := [.int x8_42]) bX0_conclusionAt k71 (k := 6) (q47 hN rfl) (sh_6 g cy _) rfl (c_X0_conclusionAt (X := (up (up (up (up (up (up X 6 q6_42) 7 q7_42) 8 q8_42) 9 q9_42) 10 q10_42) 11 q11_42)) hfl hN hzu5) rfl rfl dX0_addMadeBy_52 ⟨rfl, rfl⟩ (by decide) hl.1 (Nat.le_of_ble_eq_true rfl) ⟨Nat.le_of_ble_eq_true rfl, Nat.le_of_ble_eq_true rfl⟩ ?_
        refine lv_aload_n hx hb dX0_addMadeBy_55 rfl (lv_at hl 6 rfl) ?_
        refine s_getRN C hw (RR := RR) (j := 1) (rkt_up (rkt_up (rkt_up (rkt_up (rkt_up (rkt_up ht2 (by decide)) (by decide)) (by decide)) (by decide)) (by decide)) (by decide)) (by decide) k838 dX0_addMadeBy_56 ?_
        refine lv_icmp_eq (tgt := 65) hx hb dX0_addMadeBy_59 (by decide) (fun c_59 => ?_) (fun c_59 => ?_)
        · have hinv := oi_t c_59 hinv
          refine lv_aload_n hx hb dX0_addMadeBy_65 rfl (lv_at hl 6 rfl) ?_
          refine s_getRN C hw (RR := RR) (j := 2) (rkt_up (rkt_up (rkt_up (rkt_up (rkt_up (rkt_up ht2 (by decide)) (by decide)) (by decide)) (by decide)) (by decide)) (by decide)) (by decide) k839 dX0_addMadeBy_66 ?_
          obtain ⟨zu6, hzu6, hinv⟩ := ob hinv
          refine s_sRi (r0 := zu6) C hw (As := [.int (RR t2 2)]) bX0_choicesStart k69 (c_X0_choicesStart (X := (up (up (up (up (up (up X 6 q6_42) 7 q7_42) 8 q8_42) 9 q9_42) 10 q10_42) 11 q11_42)) hfl hN hzu6) rfl rfl dX0_addMadeBy_69 ⟨rfl, rfl⟩ (by decide) hl.1 (Nat.le_of_ble_eq_true rfl) ⟨Nat.le_of_ble_eq_true rfl, Nat.le_of_ble_eq_true rfl⟩ ?_
          refine lv_istore (lv' := [(9, .int zu6), (8, .int x8_42), (7, .int zu3), (6, .int zu2), (5, .int zu1), (0, .ref (g 6)), (1, .int za1), (2, .ref (g t2)), (3, .int za3), (4, .int za4)]) hx hb dX0_addMadeBy_72 hl (by decide) rfl (fun ls hl => ?_)
          obtain ⟨zu7, hzu7, hinv⟩ := ob hinv
          have hx74 : ∀ (H : Heap) (locs : List Loc) (ls : Array Slot), Wd D A s.heap g N (shp g cy (up (up (up (up (up (up X 6 zu7.2.1) 7 zu7.2.2.1) 8 zu7.2.2.2.1) 9 zu7.2.2.2.2.1) 10 zu7.2.2.2.2.2.1) 11 zu7.2.2.2.2.2.2)) H locs → lv_has ls 11 [(9, .int zu7.1), (8, .int x8_42), (7, .int zu3), (6, .int zu2), (5, .int zu1), (0, .ref (g 6)), (1, .int za1), (2, .ref (g t2)), (3, .int za3), (4, .int za4)] → W p l e (wR 2 0 0) s m args below meth c H locs 0 0 Q (F0 m 172 ls []) := by
            intro H locs ls hw hl
            refine lv_iinc (v := (x8_42 + 1)) (lv' := [(8, .int (x8_42 + 1)), (9, .int zu7.1), (7, .int zu3), (6, .int zu2), (5, .int zu1), (0, .ref (g 6)), (1, .int za1), (2, .ref (g t2)), (3, .int za3), (4, .int za4)]) hx hb dX0_addMadeBy_172 hl (k := 1) rfl (by rfl) (by decide) rfl (fun ls hl => ?_)
            refine lv_goto (tgt := 42) hx hb dX0_addMadeBy_175 (by decide) ?_
            exact ih (x8_42 + 1) zu7.2.1 zu7.2.2.1 zu7.2.2.2.1 zu7.2.2.2.2.1 zu7.2.2.2.2.2.1 zu7.2.2.2.2.2.2 hinv _ _ ls hw (lv_sub hl [0, 2, 3, 4, 5, 6, 7, 8, 9] rfl)
          have hl74 : ∀ (n : Nat) (x9_74 : Int32) (q6_74 : Nat → Int32) (q7_74 : Nat → Int32) (q8_74 : Nat → Int32) (q9_74 : Nat → Int32) (q10_74 : Nat → Int32) (q11_74 : Nat → Int32), m_X0_addMadeBy_L74 F RR t2 x8_42 zu3 zu2 za1 za3 n x9_74 q6_74 q7_74 q8_74 q9_74 q10_74 q11_74 = some zu7 → ∀ (H : Heap) (locs : List Loc) (ls : Array Slot), Wd D A s.heap g N (shp g cy (up (up (up (up (up (up X 6 q6_74) 7 q7_74) 8 q8_74) 9 q9_74) 10 q10_74) 11 q11_74)) H locs → lv_has ls 11 [(9, .int x9_74), (8, .int x8_42), (7, .int zu3), (6, .int zu2), (5, .int zu1), (0, .ref (g 6)), (1, .int za1), (2, .ref (g t2)), (3, .int za3), (4, .int za4)] → W p l e (wR 2 0 0) s m args below meth c H locs 0 0 Q (F0 m 74 ls []) := by
            intro n
            induction n with
            | zero =>
              intro x9_74 q6_74 q7_74 q8_74 q9_74 q10_74 q11_74 hinv
              cases hinv
            | succ n ih =>
              intro x9_74 q6_74 q7_74 q8_74 q9_74 q10_74 q11_74 hinv H locs ls hw hl
              rw [m_X0_addMadeBy_L74] at hinv
              refine lv_iload hx hb dX0_addMadeBy_74 (lv_at hl 0 rfl) ?_
              refine lv_iload hx hb dX0_addMadeBy_76 (lv_at hl 3 rfl) ?_
              refine lv_icmp_ge (tgt := 172) hx hb dX0_addMadeBy_78 (by decide) (fun c_78 => ?_) (fun c_78 => ?_)
              · have hinv := oi_t c_78 hinv
                have hR9 := Option.some.inj hinv
                subst hR9
                exact hx74 _ _ ls hw (lv_sub hl [0, 1, 2, 3, 4, 5, 6, 7, 8, 9] rfl)
              · have hinv := oi_f c_78 hinv
                refine lv_aload_n hx hb dX0_addMadeBy_81 rfl (lv_at hl 5 rfl) ?_
                refine lv_iload hx hb dX0_addMadeBy_82 (lv_at hl 0 rfl) ?_
                obtain ⟨zu8, hzu8, hinv⟩ := ob hinv
                refine s_vRi (r0 := zu8) C hw (As := [.int x9_74]) bX0_conclusionAt k71 (k := 6) (q47 hN rfl) (sh_6 g cy _) rfl (c_X0_conclusionAt (X := (up (up (up (up (up (up X 6 q6_74) 7 q7_74) 8 q8_74) 9 q9_74) 10 q10_74) 11 q11_74)) hfl hN hzu8) rfl rfl dX0_addMadeBy_84 ⟨rfl, rfl⟩ (by decide) hl.1 (Nat.le_of_ble_eq_true rfl) ⟨Nat.le_of_ble_eq_true rfl, Nat.le_of_ble_eq_true rfl⟩ ?_
                refine lv_aload_n hx hb dX0_addMadeBy_87 rfl (lv_at hl 7 rfl) ?_
                refine s_getRN C hw (RR := RR) (j := 2) (rkt_up (rkt_up (rkt_up (rkt_up (rkt_up (rkt_up ht2 (by decide)) (by decide)) (by decide)) (by decide)) (by decide)) (by decide)) (by decide) k839 dX0_addMadeBy_88 ?_
                refine lv_icmp_eq (tgt := 97) hx hb dX0_addMadeBy_91 (by decide) (fun c_91 => ?_) (fun c_91 => ?_)
                · have hinv := oi_t c_91 hinv
                  refine lv_aload_n hx hb dX0_addMadeBy_97 rfl (lv_at hl 7 rfl) ?_
                  refine s_getRN C hw (RR := RR) (j := 3) (rkt_up (rkt_up (rkt_up (rkt_up (rkt_up (rkt_up ht2 (by decide)) (by decide)) (by decide)) (by decide)) (by decide)) (by decide)) (by decide) k840 dX0_addMadeBy_98 ?_
                  obtain ⟨zu9, hzu9, hinv⟩ := ob hinv
                  refine s_sRi (r0 := zu9) C hw (As := [.int (RR t2 3)]) bX0_choicesStart k69 (c_X0_choicesStart (X := (up (up (up (up (up (up X 6 q6_74) 7 q7_74) 8 q8_74) 9 q9_74) 10 q10_74) 11 q11_74)) hfl hN hzu9) rfl rfl dX0_addMadeBy_101 ⟨rfl, rfl⟩ (by decide) hl.1 (Nat.le_of_ble_eq_true rfl) ⟨Nat.le_of_ble_eq_true rfl, Nat.le_of_ble_eq_true rfl⟩ ?_
                  refine lv_istore (lv' := [(10, .int zu9), (9, .int x9_74), (8, .int x8_42), (7, .int zu3), (6, .int zu2), (5, .int zu1), (0, .ref (g 6)), (1, .int za1), (2, .ref (g t2)), (3, .int za3), (4, .int za4)]) hx hb dX0_addMadeBy_104 hl (by decide) rfl (fun ls hl => ?_)
                  obtain ⟨zu10, hzu10, hinv⟩ := ob hinv
                  have hx106 : ∀ (H : Heap) (locs : List Loc) (ls : Array Slot), Wd D A s.heap g N (shp g cy (up (up (up (up (up (up X 6 zu10.2.1) 7 zu10.2.2.1) 8 zu10.2.2.2.1) 9 zu10.2.2.2.2.1) 10 zu10.2.2.2.2.2.1) 11 zu10.2.2.2.2.2.2)) H locs → lv_has ls 11 [(10, .int zu10.1), (9, .int x9_74), (8, .int x8_42), (7, .int zu3), (6, .int zu2), (5, .int zu1), (0, .ref (g 6)), (1, .int za1), (2, .ref (g t2)), (3, .int za3), (4, .int za4)] → W p l e (wR 2 0 0) s m args below meth c H locs 0 0 Q (F0 m 166 ls []) := by
                    intro H locs ls hw hl
                    refine lv_iinc (v := (x9_74 + 1)) (lv' := [(9, .int (x9_74 + 1)), (10, .int zu10.1), (8, .int x8_42), (7, .int zu3), (6, .int zu2), (5, .int zu1), (0, .ref (g 6)), (1, .int za1), (2, .ref (g t2)), (3, .int za3), (4, .int za4)]) hx hb dX0_addMadeBy_166 hl (k := 1) rfl (by rfl) (by decide) rfl (fun ls hl => ?_)
                    refine lv_goto (tgt := 74) hx hb dX0_addMadeBy_169 (by decide) ?_
                    exact ih (x9_74 + 1) zu10.2.1 zu10.2.2.1 zu10.2.2.2.1 zu10.2.2.2.2.1 zu10.2.2.2.2.2.1 zu10.2.2.2.2.2.2 hinv _ _ ls hw (lv_sub hl [0, 2, 3, 4, 5, 6, 7, 8, 9, 10] rfl)
                  have hl106 : ∀ (n : Nat) (x10_106 : Int32) (q6_106 : Nat → Int32) (q7_106 : Nat → Int32) (q8_106 : Nat → Int32) (q9_106 : Nat → Int32) (q10_106 : Nat → Int32) (q11_106 : Nat → Int32), m_X0_addMadeBy_L106 F RR t2 x9_74 x8_42 zu3 za1 za3 n x10_106 q6_106 q7_106 q8_106 q9_106 q10_106 q11_106 = some zu10 → ∀ (H : Heap) (locs : List Loc) (ls : Array Slot), Wd D A s.heap g N (shp g cy (up (up (up (up (up (up X 6 q6_106) 7 q7_106) 8 q8_106) 9 q9_106) 10 q10_106) 11 q11_106)) H locs → lv_has ls 11 [(10, .int x10_106), (9, .int x9_74), (8, .int x8_42), (7, .int zu3), (6, .int zu2), (5, .int zu1), (0, .ref (g 6)), (1, .int za1), (2, .ref (g t2)), (3, .int za3), (4, .int za4)] → W p l e (wR 2 0 0) s m args below meth c H locs 0 0 Q (F0 m 106 ls []) := by
                    intro n
                    induction n with
                    | zero =>
                      intro x10_106 q6_106 q7_106 q8_106 q9_106 q10_106 q11_106 hinv
                      cases hinv
                    | succ n ih =>
                      intro x10_106 q6_106 q7_106 q8_106 q9_106 q10_106 q11_106 hinv H locs ls hw hl
                      rw [m_X0_addMadeBy_L106] at hinv
                      refine lv_iload hx hb dX0_addMadeBy_106 (lv_at hl 0 rfl) ?_
                      refine lv_iload hx hb dX0_addMadeBy_108 (lv_at hl 3 rfl) ?_
                      refine lv_icmp_ge (tgt := 166) hx hb dX0_addMadeBy_110 (by decide) (fun c_110 => ?_) (fun c_110 => ?_)
                      · have hinv := oi_t c_110 hinv
                        have hR9 := Option.some.inj hinv
                        subst hR9
                        exact hx106 _ _ ls hw (lv_sub hl [0, 1, 2, 3, 4, 5, 6, 7, 8, 9, 10] rfl)
                      · have hinv := oi_f c_110 hinv
                        refine lv_aload_n hx hb dX0_addMadeBy_113 rfl (lv_at hl 6 rfl) ?_
                        refine lv_iload hx hb dX0_addMadeBy_114 (lv_at hl 0 rfl) ?_
                        obtain ⟨zu11, hzu11, hinv⟩ := ob hinv
                        refine s_vRi (r0 := zu11) C hw (As := [.int x10_106]) bX0_conclusionAt k71 (k := 6) (q47 hN rfl) (sh_6 g cy _) rfl (c_X0_conclusionAt (X := (up (up (up (up (up (up X 6 q6_106) 7 q7_106) 8 q8_106) 9 q9_106) 10 q10_106) 11 q11_106)) hfl hN hzu11) rfl rfl dX0_addMadeBy_116 ⟨rfl, rfl⟩ (by decide) hl.1 (Nat.le_of_ble_eq_true rfl) ⟨Nat.le_of_ble_eq_true rfl, Nat.le_of_ble_eq_true rfl⟩ ?_
                        refine lv_aload_n hx hb dX0_addMadeBy_119 rfl (lv_at hl 8 rfl) ?_
                        refine s_getRN C hw (RR := RR) (j := 3) (rkt_up (rkt_up (rkt_up (rkt_up (rkt_up (rkt_up ht2 (by decide)) (by decide)) (by decide)) (by decide)) (by decide)) (by decide)) (by decide) k840 dX0_addMadeBy_120 ?_
                        refine lv_icmp_ne (tgt := 160) hx hb dX0_addMadeBy_123 (by decide) (fun c_123 => ?_) (fun c_123 => ?_)
                        · have hinv := oi_f c_123 hinv
                          refine lv_iinc (v := (x10_106 + 1)) (lv' := [(10, .int (x10_106 + 1)), (9, .int x9_74), (8, .int x8_42), (7, .int zu3), (6, .int zu2), (5, .int zu1), (0, .ref (g 6)), (1, .int za1), (2, .ref (g t2)), (3, .int za3), (4, .int za4)]) hx hb dX0_addMadeBy_160 hl (k := 0) rfl (by rfl) (by decide) rfl (fun ls hl => ?_)
                          refine lv_goto (tgt := 106) hx hb dX0_addMadeBy_163 (by decide) ?_
                          exact ih (x10_106 + 1) q6_106 q7_106 q8_106 q9_106 q10_106 q11_106 hinv _ _ ls hw (lv_sub hl [0, 1, 2, 3, 4, 5, 6, 7, 8, 9, 10] rfl)
                        · have hinv := oi_t c_123 hinv
                          refine lv_aload_n hx hb dX0_addMadeBy_126 rfl (lv_at hl 6 rfl) ?_
                          refine lv_aload_n hx hb dX0_addMadeBy_127 rfl (lv_at hl 8 rfl) ?_
                          refine s_getRN C hw (RR := RR) (j := 0) (rkt_up (rkt_up (rkt_up (rkt_up (rkt_up (rkt_up ht2 (by decide)) (by decide)) (by decide)) (by decide)) (by decide)) (by decide)) (by decide) k837 dX0_addMadeBy_128 ?_
                          refine lv_iload hx hb dX0_addMadeBy_131 (lv_at hl 2 rfl) ?_
                          refine lv_iload hx hb dX0_addMadeBy_133 (lv_at hl 1 rfl) ?_
                          refine lv_iload hx hb dX0_addMadeBy_135 (lv_at hl 0 rfl) ?_
                          refine lv_iload_n hx hb dX0_addMadeBy_137 rfl (lv_at hl 9 rfl) ?_
                          obtain ⟨zu12, hzu12, hinv⟩ := ob hinv
                          refine s_vRi (r0 := zu12) C hw (As := [.int (RR t2 0), .int x8_42, .int x9_74, .int x10_106, .int za3]) bX0_fits k74 (k := 6) (q47 hN rfl) (sh_6 g cy _) rfl (c_X0_fits (X := (up (up (up (up (up (up X 6 q6_106) 7 q7_106) 8 q8_106) 9 q9_106) 10 q10_106) 11 q11_106)) hfl hN hzu12) rfl rfl dX0_addMadeBy_138 ⟨rfl, rfl⟩ (by decide) hl.1 (Nat.le_of_ble_eq_true rfl) ⟨Nat.le_of_ble_eq_true rfl, Nat.le_of_ble_eq_true rfl⟩ ?_
                          refine lv_if_eq (tgt := 160) hx hb dX0_addMadeBy_141 (by decide) (fun c_141 => ?_) (fun c_141 => ?_)
                          · have hinv := oi_t c_141 hinv
                            refine lv_iinc (v := (x10_106 + 1)) (lv' := [(10, .int (x10_106 + 1)), (9, .int x9_74), (8, .int x8_42), (7, .int zu3), (6, .int zu2), (5, .int zu1), (0, .ref (g 6)), (1, .int za1), (2, .ref (g t2)), (3, .int za3), (4, .int za4)]) hx hb dX0_addMadeBy_160 hl (k := 0) rfl (by rfl) (by decide) rfl (fun ls hl => ?_)
                            refine lv_goto (tgt := 106) hx hb dX0_addMadeBy_163 (by decide) ?_
                            exact ih (x10_106 + 1) q6_106 q7_106 q8_106 q9_106 q10_106 q11_106 hinv _ _ ls hw (lv_sub hl [0, 1, 2, 3, 4, 5, 6, 7, 8, 9, 10] rfl)
                          · have hinv := oi_f c_141 hinv
                            refine lv_aload_n hx hb dX0_addMadeBy_144 rfl (lv_at hl 6 rfl) ?_
                            refine lv_aload_n hx hb dX0_addMadeBy_145 rfl (lv_at hl 8 rfl) ?_
                            refine s_getRN C hw (RR := RR) (j := 0) (rkt_up (rkt_up (rkt_up (rkt_up (rkt_up (rkt_up ht2 (by decide)) (by decide)) (by decide)) (by decide)) (by decide)) (by decide)) (by decide) k837 dX0_addMadeBy_146 ?_
                            refine lv_iload_n hx hb dX0_addMadeBy_149 rfl (lv_at hl 7 rfl) ?_
                            refine lv_iload_n hx hb dX0_addMadeBy_150 rfl (lv_at hl 9 rfl) ?_
                            refine lv_iload hx hb dX0_addMadeBy_151 (lv_at hl 2 rfl) ?_
                            refine lv_iload hx hb dX0_addMadeBy_153 (lv_at hl 1 rfl) ?_
                            refine lv_iload hx hb dX0_addMadeBy_155 (lv_at hl 0 rfl) ?_
                            obtain ⟨zu13, hzu13, hinv⟩ := ob hinv
                            refine s_vWv C hw (As := [.int (RR t2 0), .int za1, .int za3, .int x8_42, .int x9_74, .int x10_106]) bX0_add k77 (k := 6) (q47 hN rfl) (sh_6 g cy _) rfl (c_X0_add (X := (up (up (up (up (up (up X 6 q6_106) 7 q7_106) 8 q8_106) 9 q9_106) 10 q10_106) 11 q11_106)) hfl hN hzu13) rfl rfl dX0_addMadeBy_157 ⟨rfl, rfl⟩ (by decide) hl.1 (Nat.le_of_ble_eq_true rfl) ⟨Nat.le_of_ble_eq_true rfl, Nat.le_of_ble_eq_true rfl⟩ (fun H locs hw => ?_)
                            refine lv_iinc (v := (x10_106 + 1)) (lv' := [(10, .int (x10_106 + 1)), (9, .int x9_74), (8, .int x8_42), (7, .int zu3), (6, .int zu2), (5, .int zu1), (0, .ref (g 6)), (1, .int za1), (2, .ref (g t2)), (3, .int za3), (4, .int za4)]) hx hb dX0_addMadeBy_160 hl (k := 0) rfl (by rfl) (by decide) rfl (fun ls hl => ?_)
                            refine lv_goto (tgt := 106) hx hb dX0_addMadeBy_163 (by decide) ?_
                            have hXe : (up (up (up (up (up (up (up (up (up (up (up (up X 6 q6_106) 7 q7_106) 8 q8_106) 9 q9_106) 10 q10_106) 11 q11_106) 6 zu13.1) 7 zu13.2.1) 8 zu13.2.2.1) 9 zu13.2.2.2.1) 10 zu13.2.2.2.2.1) 11 zu13.2.2.2.2.2) = (up (up (up (up (up (up X 6 zu13.1) 7 zu13.2.1) 8 zu13.2.2.1) 9 zu13.2.2.2.1) 10 zu13.2.2.2.2.1) 11 zu13.2.2.2.2.2) := by
                              funext j
                              by_cases h6 : j = 6
                              · subst h6; simp [up]
                              by_cases h7 : j = 7
                              · subst h7; simp [up]
                              by_cases h8 : j = 8
                              · subst h8; simp [up]
                              by_cases h9 : j = 9
                              · subst h9; simp [up]
                              by_cases h10 : j = 10
                              · subst h10; simp [up]
                              by_cases h11 : j = 11
                              · subst h11; simp [up]
                              simp [up, h6, h7, h8, h9, h10, h11]
                            rw [hXe] at hw
                            exact ih (x10_106 + 1) zu13.1 zu13.2.1 zu13.2.2.1 zu13.2.2.2.1 zu13.2.2.2.2.1 zu13.2.2.2.2.2 hinv _ _ ls hw (lv_sub hl [0, 1, 2, 3, 4, 5, 6, 7, 8, 9, 10] rfl)
                  exact hl106 F zu9 q6_74 q7_74 q8_74 q9_74 q10_74 q11_74 hzu10 _ _ ls hw (lv_sub hl [0, 1, 2, 3, 4, 5, 6, 7, 8, 9, 10] rfl)
                · have hinv := oi_f c_91 hinv
                  refine lv_goto (tgt := 166) hx hb dX0_addMadeBy_94 (by decide) ?_
                  refine lv_iinc (v := (x9_74 + 1)) (lv' := [(9, .int (x9_74 + 1)), (8, .int x8_42), (7, .int zu3), (6, .int zu2), (5, .int zu1), (0, .ref (g 6)), (1, .int za1), (2, .ref (g t2)), (3, .int za3), (4, .int za4)]) hx hb dX0_addMadeBy_166 hl (k := 0) rfl (by rfl) (by decide) rfl (fun ls hl => ?_)
                  refine lv_goto (tgt := 74) hx hb dX0_addMadeBy_169 (by decide) ?_
                  exact ih (x9_74 + 1) q6_74 q7_74 q8_74 q9_74 q10_74 q11_74 hinv _ _ ls hw (lv_sub hl [0, 1, 2, 3, 4, 5, 6, 7, 8, 9] rfl)
          exact hl74 F zu6 q6_42 q7_42 q8_42 q9_42 q10_42 q11_42 hzu7 _ _ ls hw (lv_sub hl [0, 1, 2, 3, 4, 5, 6, 7, 8, 9] rfl)
        · have hinv := oi_f c_59 hinv
          refine lv_goto (tgt := 172) hx hb dX0_addMadeBy_62 (by decide) ?_
          refine lv_iinc (v := (x8_42 + 1)) (lv' := [(8, .int (x8_42 + 1)), (7, .int zu3), (6, .int zu2), (5, .int zu1), (0, .ref (g 6)), (1, .int za1), (2, .ref (g t2)), (3, .int za3), (4, .int za4)]) hx hb dX0_addMadeBy_172 hl (k := 0) rfl (by rfl) (by decide) rfl (fun ls hl => ?_)
          refine lv_goto (tgt := 42) hx hb dX0_addMadeBy_175 (by decide) ?_
          exact ih (x8_42 + 1) q6_42 q7_42 q8_42 q9_42 q10_42 q11_42 hinv _ _ ls hw (lv_sub hl [0, 1, 2, 3, 4, 5, 6, 7, 8] rfl)
  exact hl42 F zu4 (X 6) (X 7) (X 8) (X 9) (X 10) (X 11) hinv _ _ ls hw (lv_sub hl [0, 1, 2, 3, 4, 5, 6, 7, 8] rfl)
def m_X0_build_L67 (F : Nat) (RR : Nat → Nat → Int32) (r4 : Nat → Int32) (y4_67 : Int32) (y3_67 : Int32) : Nat → Int32 → (Nat → Int32) → (Nat → Int32) → (Nat → Int32) → (Nat → Int32) → (Nat → Int32) → (Nat → Int32) → Option (Int32 × (Nat → Int32) × (Nat → Int32) × (Nat → Int32) × (Nat → Int32) × (Nat → Int32) × (Nat → Int32))
  | 0, _, _, _, _, _, _, _ => none
  | n + 1, x5_67, q6_67, q7_67, q8_67, q9_67, q10_67, q11_67 => Option.bind (m_X5_size F r4) (fun zu3 => if zu3 ≤ x5_67 then (some (x5_67, q6_67, q7_67, q8_67, q9_67, q10_67, q11_67)) else (if (q6_67 6) = 0 then (if (RR (aid (RR 4 2) x5_67) 6) = 0 then (m_X0_build_L67 F RR r4 y4_67 y3_67 n (x5_67 + 1) q6_67 q7_67 q8_67 q9_67 q10_67 q11_67) else (Option.bind (m_X0_addMadeBy F RR (aid (RR 4 2) x5_67) q6_67 q7_67 q8_67 q9_67 q10_67 q11_67 x5_67 y3_67 y4_67) (fun zu4 => m_X0_build_L67 F RR r4 y4_67 y3_67 n (x5_67 + 1) zu4.1 zu4.2.1 zu4.2.2.1 zu4.2.2.2.1 zu4.2.2.2.2.1 zu4.2.2.2.2.2))) else (some (x5_67, q6_67, q7_67, q8_67, q9_67, q10_67, q11_67))))
def m_X0_build_L45 (F : Nat) (RR : Nat → Nat → Int32) (r4 : Nat → Int32) : Nat → Int32 → (Nat → Int32) → (Nat → Int32) → (Nat → Int32) → (Nat → Int32) → (Nat → Int32) → (Nat → Int32) → Option ((Nat → Int32) × (Nat → Int32) × (Nat → Int32) × (Nat → Int32) × (Nat → Int32) × (Nat → Int32))
  | 0, _, _, _, _, _, _, _ => none
  | n + 1, x3_45, q6_45, q7_45, q8_45, q9_45, q10_45, q11_45 => if 12 < x3_45 then (some (q6_45, q7_45, q8_45, q9_45, q10_45, q11_45)) else (if (q6_45 6) = 0 then (Option.bind (m_X0_build_L67 F RR r4 (q6_45 5) x3_45 F 0 q6_45 q7_45 q8_45 q9_45 q10_45 q11_45) (fun zu2 => if (zu2.2.1 5) = (q6_45 5) then (some (zu2.2.1, zu2.2.2.1, zu2.2.2.2.1, zu2.2.2.2.2.1, zu2.2.2.2.2.2.1, zu2.2.2.2.2.2.2)) else (m_X0_build_L45 F RR r4 n (x3_45 + 1) zu2.2.1 zu2.2.2.1 zu2.2.2.2.1 zu2.2.2.2.2.1 zu2.2.2.2.2.2.1 zu2.2.2.2.2.2.2))) else (some (q6_45, q7_45, q8_45, q9_45, q10_45, q11_45)))
def m_X0_build_L13 (F : Nat) (r2 : Nat → Int32) : Nat → Int32 → (Nat → Int32) → (Nat → Int32) → (Nat → Int32) → (Nat → Int32) → (Nat → Int32) → (Nat → Int32) → Option (Int32 × (Nat → Int32) × (Nat → Int32) × (Nat → Int32) × (Nat → Int32) × (Nat → Int32) × (Nat → Int32))
  | 0, _, _, _, _, _, _, _ => none
  | n + 1, x3_13, q6_13, q7_13, q8_13, q9_13, q10_13, q11_13 => if 10 < x3_13 then (some (x3_13, q6_13, q7_13, q8_13, q9_13, q10_13, q11_13)) else (Option.bind (m_X2_has F r2 x3_13) (fun zu5 => if zu5 = 0 then (m_X0_build_L13 F r2 n (x3_13 + 1) q6_13 q7_13 q8_13 q9_13 q10_13 q11_13) else (Option.bind (m_X0_add F q6_13 q7_13 q8_13 q9_13 q10_13 q11_13 x3_13 (-1) 0 (-1) (-1) (-1)) (fun zu6 => m_X0_build_L13 F r2 n (x3_13 + 1) zu6.1 zu6.2.1 zu6.2.2.1 zu6.2.2.2.1 zu6.2.2.2.2.1 zu6.2.2.2.2.2))))
def m_X0_build (F : Nat) (RR : Nat → Nat → Int32) (r2 : Nat → Int32) (r4 : Nat → Int32) (r6 : Nat → Int32) (r7 : Nat → Int32) (r8 : Nat → Int32) (r9 : Nat → Int32) (r10 : Nat → Int32) (r11 : Nat → Int32) : Option ((Nat → Int32) × (Nat → Int32) × (Nat → Int32) × (Nat → Int32) × (Nat → Int32) × (Nat → Int32)) := Option.bind (m_X0_build_L13 F r2 F (-10) (upd (upd r6 5 0) 6 0) r7 r8 r9 r10 r11) (fun zu1 => m_X0_build_L45 F RR r4 F 1 zu1.2.1 zu1.2.2.1 zu1.2.2.2.1 zu1.2.2.2.2.1 zu1.2.2.2.2.2.1 zu1.2.2.2.2.2.2)
set_option maxHeartbeats 4000000 in
set_option maxRecDepth 100000 in
theorem c_X0_build {l : Launch} {D : va_G} {cy : Nat → Nat} {g : Nat → Nat} {N : Nat} {X : Nat → Nat → Int32} {RR : Nat → Nat → Int32} {F : Nat} {R0 : (Nat → Int32) × (Nat → Int32) × (Nat → Int32) × (Nat → Int32) × (Nat → Int32) × (Nat → Int32)} (hfl : l.stackTraces = false) (hX : rok X RR N) (hinv : m_X0_build F RR (X 2) (X 4) (X 6) (X 7) (X 8) (X 9) (X 10) (X 11) = some R0) : sWv l D cy yX0_build cX0_build 6 none 4 0 0 [.ref (g 6), .ref (g 1), .ref (g 3)] g N X (up (up (up (up (up (up X 6 R0.1) 7 R0.2.1) 8 R0.2.2.1) 9 R0.2.2.2.1) 10 R0.2.2.2.2.1) 11 R0.2.2.2.2.2) := by
  refine jWv (own := RX0) (by decide) rfl hfl (Nat.le_of_ble_eq_true rfl) rfl ?_
  intro p e R s m args below meth c ls A Q hRe C hw hl hret
  subst hRe
  have hx := C.1
  have hb := C.2.1
  have hN := hX.1
  have hl : lv_has ls 6 [(0, .ref (g 6)), (1, .ref (g 1)), (2, .ref (g 3))] := hl
  rw [m_X0_build] at hinv
  refine lv_aload_n hx hb dX0_build_0 rfl (lv_at hl 0 rfl) ?_
  refine lv_iconst (v := 0) hx hb dX0_build_1 (by decide) ?_
  refine s_put C hw (k := 6) (row := (upd (X 6) 5 0)) (ty := tyX0) (v := .int 0) (j := 5) (q47 hN rfl) (sh_6 g cy _) rfl tyX0_ok nmX0 (by decide) k21 rfl rfl rfl (Nat.le_of_ble_eq_true rfl) (sh_6 g cy _) dX0_build_2 (fun H locs hw => ?_)
  refine lv_aload_n hx hb dX0_build_5 rfl (lv_at hl 0 rfl) ?_
  refine lv_iconst (v := 0) hx hb dX0_build_6 (by decide) ?_
  refine s_put C hw (k := 6) (row := (upd (upd (X 6) 5 0) 6 0)) (ty := tyX0) (v := .int 0) (j := 6) (q47 hN rfl) (sh_6 g cy _) rfl tyX0_ok nmX0 (by decide) k22 rfl rfl rfl (Nat.le_of_ble_eq_true rfl) (sh_6 g cy _) dX0_build_7 (fun H locs hw => ?_)
  rw [up_up] at hw
  refine lv_bipush (v := (-10)) hx hb dX0_build_10 (by decide) ?_
  refine lv_istore_n (lv' := [(3, .int (-10)), (0, .ref (g 6)), (1, .ref (g 1)), (2, .ref (g 3))]) hx hb dX0_build_12 rfl hl (by decide) rfl (fun ls hl => ?_)
  have hXe : (up X 6 (upd (upd (X 6) 5 0) 6 0)) = (up (up (up (up (up (up X 6 (upd (upd (X 6) 5 0) 6 0)) 7 (X 7)) 8 (X 8)) 9 (X 9)) 10 (X 10)) 11 (X 11)) := by
    funext j
    by_cases h6 : j = 6
    · subst h6; simp [up]
    by_cases h7 : j = 7
    · subst h7; simp [up]
    by_cases h8 : j = 8
    · subst h8; simp [up]
    by_cases h9 : j = 9
    · subst h9; simp [up]
    by_cases h10 : j = 10
    · subst h10; simp [up]
    by_cases h11 : j = 11
    · subst h11; simp [up]
    simp [up, h6, h7, h8, h9, h10, h11]
  rw [hXe] at hw
  obtain ⟨zu1, hzu1, hinv⟩ := ob hinv
  have hx13 : ∀ (H : Heap) (locs : List Loc) (ls : Array Slot), Wd D A s.heap g N (shp g cy (up (up (up (up (up (up X 6 zu1.2.1) 7 zu1.2.2.1) 8 zu1.2.2.2.1) 9 zu1.2.2.2.2.1) 10 zu1.2.2.2.2.2.1) 11 zu1.2.2.2.2.2.2)) H locs → lv_has ls 6 [(3, .int zu1.1), (0, .ref (g 6)), (1, .ref (g 1)), (2, .ref (g 3))] → W p l e (wR 4 0 0) s m args below meth c H locs 0 0 Q (F0 m 43 ls []) := by
    intro H locs ls hw hl
    refine lv_iconst (v := 1) hx hb dX0_build_43 (by decide) ?_
    refine lv_istore_n (lv' := [(3, .int 1), (0, .ref (g 6)), (1, .ref (g 1)), (2, .ref (g 3))]) hx hb dX0_build_44 rfl hl (by decide) rfl (fun ls hl => ?_)
    have hl45 : ∀ (n : Nat) (x3_45 : Int32) (q6_45 : Nat → Int32) (q7_45 : Nat → Int32) (q8_45 : Nat → Int32) (q9_45 : Nat → Int32) (q10_45 : Nat → Int32) (q11_45 : Nat → Int32), m_X0_build_L45 F RR (X 4) n x3_45 q6_45 q7_45 q8_45 q9_45 q10_45 q11_45 = some R0 → ∀ (H : Heap) (locs : List Loc) (ls : Array Slot), Wd D A s.heap g N (shp g cy (up (up (up (up (up (up X 6 q6_45) 7 q7_45) 8 q8_45) 9 q9_45) 10 q10_45) 11 q11_45)) H locs → lv_has ls 6 [(3, .int x3_45), (0, .ref (g 6)), (1, .ref (g 1)), (2, .ref (g 3))] → W p l e (wR 4 0 0) s m args below meth c H locs 0 0 Q (F0 m 45 ls []) := by
      intro n
      induction n with
      | zero =>
        intro x3_45 q6_45 q7_45 q8_45 q9_45 q10_45 q11_45 hinv
        cases hinv
      | succ n ih =>
        intro x3_45 q6_45 q7_45 q8_45 q9_45 q10_45 q11_45 hinv H locs ls hw hl
        rw [m_X0_build_L45] at hinv
        refine lv_iload_n hx hb dX0_build_45 rfl (lv_at hl 0 rfl) ?_
        refine lv_bipush (v := 12) hx hb dX0_build_46 (by decide) ?_
        refine lv_icmp_gt (tgt := 132) hx hb dX0_build_48 (by decide) (fun c_48 => ?_) (fun c_48 => ?_)
        · have hinv := oi_t c_48 hinv
          have hR0 := (Option.some.inj hinv).symm
          subst hR0
          exact hret 132 ls _ _ _ _ hw (by decide) (by decide) dX0_build_132
        · have hinv := oi_f c_48 hinv
          refine lv_aload_n hx hb dX0_build_51 rfl (lv_at hl 1 rfl) ?_
          refine w_get C hw (k := 6) (v := .int (q6_45 6)) (j := 6) (q47 hN rfl) (sh_6 g cy _) rfl (by decide) k22 rfl dX0_build_52 ?_
          refine lv_if_ne (tgt := 132) hx hb dX0_build_55 (by decide) (fun c_55 => ?_) (fun c_55 => ?_)
          · have hinv := oi_f c_55 hinv
            have hR0 := (Option.some.inj hinv).symm
            subst hR0
            exact hret 132 ls _ _ _ _ hw (by decide) (by decide) dX0_build_132
          · have hinv := oi_t c_55 hinv
            refine lv_aload_n hx hb dX0_build_58 rfl (lv_at hl 1 rfl) ?_
            refine w_get C hw (k := 6) (v := .int (q6_45 5)) (j := 5) (q47 hN rfl) (sh_6 g cy _) rfl (by decide) k21 rfl dX0_build_59 ?_
            refine lv_istore (lv' := [(4, .int (q6_45 5)), (3, .int x3_45), (0, .ref (g 6)), (1, .ref (g 1)), (2, .ref (g 3))]) hx hb dX0_build_62 hl (by decide) rfl (fun ls hl => ?_)
            refine lv_iconst (v := 0) hx hb dX0_build_64 (by decide) ?_
            refine lv_istore (lv' := [(5, .int 0), (4, .int (q6_45 5)), (3, .int x3_45), (0, .ref (g 6)), (1, .ref (g 1)), (2, .ref (g 3))]) hx hb dX0_build_65 hl (by decide) rfl (fun ls hl => ?_)
            obtain ⟨zu2, hzu2, hinv⟩ := ob hinv
            have hx67 : ∀ (H : Heap) (locs : List Loc) (ls : Array Slot), Wd D A s.heap g N (shp g cy (up (up (up (up (up (up X 6 zu2.2.1) 7 zu2.2.2.1) 8 zu2.2.2.2.1) 9 zu2.2.2.2.2.1) 10 zu2.2.2.2.2.2.1) 11 zu2.2.2.2.2.2.2)) H locs → lv_has ls 6 [(5, .int zu2.1), (4, .int (q6_45 5)), (3, .int x3_45), (0, .ref (g 6)), (1, .ref (g 1)), (2, .ref (g 3))] → W p l e (wR 4 0 0) s m args below meth c H locs 0 0 Q (F0 m 116 ls []) := by
              intro H locs ls hw hl
              refine lv_aload_n hx hb dX0_build_116 rfl (lv_at hl 3 rfl) ?_
              refine w_get C hw (k := 6) (v := .int (zu2.2.1 5)) (j := 5) (q47 hN rfl) (sh_6 g cy _) rfl (by decide) k21 rfl dX0_build_117 ?_
              refine lv_iload hx hb dX0_build_120 (lv_at hl 1 rfl) ?_
              refine lv_icmp_ne (tgt := 126) hx hb dX0_build_122 (by decide) (fun c_122 => ?_) (fun c_122 => ?_)
              · have hinv := oi_f c_122 hinv
                refine lv_iinc (v := (x3_45 + 1)) (lv' := [(3, .int (x3_45 + 1)), (5, .int zu2.1), (4, .int (q6_45 5)), (0, .ref (g 6)), (1, .ref (g 1)), (2, .ref (g 3))]) hx hb dX0_build_126 hl (k := 2) rfl (by rfl) (by decide) rfl (fun ls hl => ?_)
                refine lv_goto (tgt := 45) hx hb dX0_build_129 (by decide) ?_
                exact ih (x3_45 + 1) zu2.2.1 zu2.2.2.1 zu2.2.2.2.1 zu2.2.2.2.2.1 zu2.2.2.2.2.2.1 zu2.2.2.2.2.2.2 hinv _ _ ls hw (lv_sub hl [0, 3, 4, 5] rfl)
              · have hinv := oi_t c_122 hinv
                have hR0 := (Option.some.inj hinv).symm
                subst hR0
                exact hret 125 ls _ _ _ _ hw (by decide) (by decide) dX0_build_125
            have hl67 : ∀ (n : Nat) (x5_67 : Int32) (q6_67 : Nat → Int32) (q7_67 : Nat → Int32) (q8_67 : Nat → Int32) (q9_67 : Nat → Int32) (q10_67 : Nat → Int32) (q11_67 : Nat → Int32), m_X0_build_L67 F RR (X 4) (q6_45 5) x3_45 n x5_67 q6_67 q7_67 q8_67 q9_67 q10_67 q11_67 = some zu2 → ∀ (H : Heap) (locs : List Loc) (ls : Array Slot), Wd D A s.heap g N (shp g cy (up (up (up (up (up (up X 6 q6_67) 7 q7_67) 8 q8_67) 9 q9_67) 10 q10_67) 11 q11_67)) H locs → lv_has ls 6 [(5, .int x5_67), (4, .int (q6_45 5)), (3, .int x3_45), (0, .ref (g 6)), (1, .ref (g 1)), (2, .ref (g 3))] → W p l e (wR 4 0 0) s m args below meth c H locs 0 0 Q (F0 m 67 ls []) := by
              intro n
              induction n with
              | zero =>
                intro x5_67 q6_67 q7_67 q8_67 q9_67 q10_67 q11_67 hinv
                cases hinv
              | succ n ih =>
                intro x5_67 q6_67 q7_67 q8_67 q9_67 q10_67 q11_67 hinv H locs ls hw hl
                rw [m_X0_build_L67] at hinv
                refine lv_iload hx hb dX0_build_67 (lv_at hl 0 rfl) ?_
                refine lv_aload_n hx hb dX0_build_69 rfl (lv_at hl 5 rfl) ?_
                obtain ⟨zu3, hzu3, hinv⟩ := ob hinv
                refine s_vRi (r0 := zu3) C hw (As := []) bX5_size k85 (k := 3) (q47 hN rfl) (sh_3 g cy _) rfl (c_X5_size (X := (up (up (up (up (up (up X 6 q6_67) 7 q7_67) 8 q8_67) 9 q9_67) 10 q10_67) 11 q11_67)) hfl hN hzu3) rfl rfl dX0_build_70 ⟨rfl, rfl⟩ (by decide) hl.1 (Nat.le_of_ble_eq_true rfl) ⟨Nat.le_of_ble_eq_true rfl, Nat.le_of_ble_eq_true rfl⟩ ?_
                refine lv_icmp_ge (tgt := 116) hx hb dX0_build_73 (by decide) (fun c_73 => ?_) (fun c_73 => ?_)
                · have hinv := oi_t c_73 hinv
                  have hR9 := Option.some.inj hinv
                  subst hR9
                  exact hx67 _ _ ls hw (lv_sub hl [0, 1, 2, 3, 4, 5] rfl)
                · have hinv := oi_f c_73 hinv
                  refine lv_aload_n hx hb dX0_build_76 rfl (lv_at hl 3 rfl) ?_
                  refine w_get C hw (k := 6) (v := .int (q6_67 6)) (j := 6) (q47 hN rfl) (sh_6 g cy _) rfl (by decide) k22 rfl dX0_build_77 ?_
                  refine lv_if_ne (tgt := 116) hx hb dX0_build_80 (by decide) (fun c_80 => ?_) (fun c_80 => ?_)
                  · have hinv := oi_f c_80 hinv
                    have hR9 := Option.some.inj hinv
                    subst hR9
                    exact hx67 _ _ ls hw (lv_sub hl [0, 1, 2, 3, 4, 5] rfl)
                  · have hinv := oi_t c_80 hinv
                    refine lv_aload_n hx hb dX0_build_83 rfl (lv_at hl 5 rfl) ?_
                    refine lv_iload hx hb dX0_build_84 (lv_at hl 0 rfl) ?_
                    refine s_vRr C hw (r0 := (aid (RR 4 2) x5_67)) (As := [.int x5_67]) bX5_at k89 (k := 3) (q47 hN rfl) (sh_3 g cy _) rfl (c_X5_at (X := (up (up (up (up (up (up X 6 q6_67) 7 q7_67) 8 q8_67) 9 q9_67) 10 q10_67) 11 q11_67)) hfl (rok_up (rok_up (rok_up (rok_up (rok_up (rok_up hX (by decide)) (by decide)) (by decide)) (by decide)) (by decide)) (by decide))) rfl rfl dX0_build_86 ⟨rfl, rfl⟩ (by decide) hl.1 (Nat.le_of_ble_eq_true rfl) (by decide) ?_
                    refine s_getRN C hw (RR := RR) (j := 6) (rkt_up (rkt_up (rkt_up (rkt_up (rkt_up (rkt_up (hX.2.2.2.2.1 _) (by decide)) (by decide)) (by decide)) (by decide)) (by decide)) (by decide)) (by decide) k847 dX0_build_89 ?_
                    refine lv_if_eq (tgt := 110) hx hb dX0_build_92 (by decide) (fun c_92 => ?_) (fun c_92 => ?_)
                    · have hinv := oi_t c_92 hinv
                      refine lv_iinc (v := (x5_67 + 1)) (lv' := [(5, .int (x5_67 + 1)), (4, .int (q6_45 5)), (3, .int x3_45), (0, .ref (g 6)), (1, .ref (g 1)), (2, .ref (g 3))]) hx hb dX0_build_110 hl (k := 0) rfl (by rfl) (by decide) rfl (fun ls hl => ?_)
                      refine lv_goto (tgt := 67) hx hb dX0_build_113 (by decide) ?_
                      exact ih (x5_67 + 1) q6_67 q7_67 q8_67 q9_67 q10_67 q11_67 hinv _ _ ls hw (lv_sub hl [0, 1, 2, 3, 4, 5] rfl)
                    · have hinv := oi_f c_92 hinv
                      refine lv_aload_n hx hb dX0_build_95 rfl (lv_at hl 3 rfl) ?_
                      refine lv_iload hx hb dX0_build_96 (lv_at hl 0 rfl) ?_
                      refine lv_aload_n hx hb dX0_build_98 rfl (lv_at hl 5 rfl) ?_
                      refine lv_iload hx hb dX0_build_99 (lv_at hl 0 rfl) ?_
                      refine s_vRr C hw (r0 := (aid (RR 4 2) x5_67)) (As := [.int x5_67]) bX5_at k89 (k := 3) (q47 hN rfl) (sh_3 g cy _) rfl (c_X5_at (X := (up (up (up (up (up (up X 6 q6_67) 7 q7_67) 8 q8_67) 9 q9_67) 10 q10_67) 11 q11_67)) hfl (rok_up (rok_up (rok_up (rok_up (rok_up (rok_up hX (by decide)) (by decide)) (by decide)) (by decide)) (by decide)) (by decide))) rfl rfl dX0_build_101 ⟨rfl, rfl⟩ (by decide) hl.1 (Nat.le_of_ble_eq_true rfl) (by decide) ?_
                      refine lv_iload_n hx hb dX0_build_104 rfl (lv_at hl 2 rfl) ?_
                      refine lv_iload hx hb dX0_build_105 (lv_at hl 1 rfl) ?_
                      obtain ⟨zu4, hzu4, hinv⟩ := ob hinv
                      refine s_vWv C hw (As := [.int x5_67, .ref (g (aid (RR 4 2) x5_67)), .int x3_45, .int (q6_45 5)]) bX0_addMadeBy k92 (k := 6) (q47 hN rfl) (sh_6 g cy _) rfl (c_X0_addMadeBy (X := (up (up (up (up (up (up X 6 q6_67) 7 q7_67) 8 q8_67) 9 q9_67) 10 q10_67) 11 q11_67)) hfl (rok_up (rok_up (rok_up (rok_up (rok_up (rok_up hX (by decide)) (by decide)) (by decide)) (by decide)) (by decide)) (by decide)) (rkt_up (rkt_up (rkt_up (rkt_up (rkt_up (rkt_up (hX.2.2.2.2.1 _) (by decide)) (by decide)) (by decide)) (by decide)) (by decide)) (by decide)) hzu4) rfl rfl dX0_build_107 ⟨rfl, rfl⟩ (by decide) hl.1 (Nat.le_of_ble_eq_true rfl) ⟨Nat.le_of_ble_eq_true rfl, Nat.le_of_ble_eq_true rfl⟩ (fun H locs hw => ?_)
                      refine lv_iinc (v := (x5_67 + 1)) (lv' := [(5, .int (x5_67 + 1)), (4, .int (q6_45 5)), (3, .int x3_45), (0, .ref (g 6)), (1, .ref (g 1)), (2, .ref (g 3))]) hx hb dX0_build_110 hl (k := 0) rfl (by rfl) (by decide) rfl (fun ls hl => ?_)
                      refine lv_goto (tgt := 67) hx hb dX0_build_113 (by decide) ?_
                      have hXe : (up (up (up (up (up (up (up (up (up (up (up (up X 6 q6_67) 7 q7_67) 8 q8_67) 9 q9_67) 10 q10_67) 11 q11_67) 6 zu4.1) 7 zu4.2.1) 8 zu4.2.2.1) 9 zu4.2.2.2.1) 10 zu4.2.2.2.2.1) 11 zu4.2.2.2.2.2) = (up (up (up (up (up (up X 6 zu4.1) 7 zu4.2.1) 8 zu4.2.2.1) 9 zu4.2.2.2.1) 10 zu4.2.2.2.2.1) 11 zu4.2.2.2.2.2) := by
                        funext j
                        by_cases h6 : j = 6
                        · subst h6; simp [up]
                        by_cases h7 : j = 7
                        · subst h7; simp [up]
                        by_cases h8 : j = 8
                        · subst h8; simp [up]
                        by_cases h9 : j = 9
                        · subst h9; simp [up]
                        by_cases h10 : j = 10
                        · subst h10; simp [up]
                        by_cases h11 : j = 11
                        · subst h11; simp [up]
                        simp [up, h6, h7, h8, h9, h10, h11]
                      rw [hXe] at hw
                      exact ih (x5_67 + 1) zu4.1 zu4.2.1 zu4.2.2.1 zu4.2.2.2.1 zu4.2.2.2.2.1 zu4.2.2.2.2.2 hinv _ _ ls hw (lv_sub hl [0, 1, 2, 3, 4, 5] rfl)
            exact hl67 F 0 q6_45 q7_45 q8_45 q9_45 q10_45 q11_45 hzu2 _ _ ls hw (lv_sub hl [0, 1, 2, 3, 4, 5] rfl)
    exact hl45 F 1 zu1.2.1 zu1.2.2.1 zu1.2.2.2.1 zu1.2.2.2.2.1 zu1.2.2.2.2.2.1 zu1.2.2.2.2.2.2 hinv _ _ ls hw (lv_sub hl [0, 1, 2, 3] rfl)
  have hl13 : ∀ (n : Nat) (x3_13 : Int32) (q6_13 : Nat → Int32) (q7_13 : Nat → Int32) (q8_13 : Nat → Int32) (q9_13 : Nat → Int32) (q10_13 : Nat → Int32) (q11_13 : Nat → Int32), m_X0_build_L13 F (X 2) n x3_13 q6_13 q7_13 q8_13 q9_13 q10_13 q11_13 = some zu1 → ∀ (H : Heap) (locs : List Loc) (ls : Array Slot), Wd D A s.heap g N (shp g cy (up (up (up (up (up (up X 6 q6_13) 7 q7_13) 8 q8_13) 9 q9_13) 10 q10_13) 11 q11_13)) H locs → lv_has ls 6 [(3, .int x3_13), (0, .ref (g 6)), (1, .ref (g 1)), (2, .ref (g 3))] → W p l e (wR 4 0 0) s m args below meth c H locs 0 0 Q (F0 m 13 ls []) := by
    intro n
    induction n with
    | zero =>
      intro x3_13 q6_13 q7_13 q8_13 q9_13 q10_13 q11_13 hinv
      cases hinv
    | succ n ih =>
      intro x3_13 q6_13 q7_13 q8_13 q9_13 q10_13 q11_13 hinv H locs ls hw hl
      rw [m_X0_build_L13] at hinv
      refine lv_iload_n hx hb dX0_build_13 rfl (lv_at hl 0 rfl) ?_
      refine lv_bipush (v := 10) hx hb dX0_build_14 (by decide) ?_
      refine lv_icmp_gt (tgt := 43) hx hb dX0_build_16 (by decide) (fun c_16 => ?_) (fun c_16 => ?_)
      · have hinv := oi_t c_16 hinv
        have hR9 := Option.some.inj hinv
        subst hR9
        exact hx13 _ _ ls hw (lv_sub hl [0, 1, 2, 3] rfl)
      · have hinv := oi_f c_16 hinv
        refine lv_aload_n hx hb dX0_build_19 rfl (lv_at hl 2 rfl) ?_
        refine lv_iload_n hx hb dX0_build_20 rfl (lv_at hl 0 rfl) ?_
        obtain ⟨zu5, hzu5, hinv⟩ := ob hinv
        refine s_vRi (r0 := zu5) C hw (As := [.int x3_13]) bX2_has k81 (k := 1) (q47 hN rfl) (sh_1 g cy _) rfl (c_X2_has (X := (up (up (up (up (up (up X 6 q6_13) 7 q7_13) 8 q8_13) 9 q9_13) 10 q10_13) 11 q11_13)) hfl hN hzu5) rfl rfl dX0_build_21 ⟨rfl, rfl⟩ (by decide) hl.1 (Nat.le_of_ble_eq_true rfl) ⟨Nat.le_of_ble_eq_true rfl, Nat.le_of_ble_eq_true rfl⟩ ?_
        refine lv_if_eq (tgt := 37) hx hb dX0_build_24 (by decide) (fun c_24 => ?_) (fun c_24 => ?_)
        · have hinv := oi_t c_24 hinv
          refine lv_iinc (v := (x3_13 + 1)) (lv' := [(3, .int (x3_13 + 1)), (0, .ref (g 6)), (1, .ref (g 1)), (2, .ref (g 3))]) hx hb dX0_build_37 hl (k := 0) rfl (by rfl) (by decide) rfl (fun ls hl => ?_)
          refine lv_goto (tgt := 13) hx hb dX0_build_40 (by decide) ?_
          exact ih (x3_13 + 1) q6_13 q7_13 q8_13 q9_13 q10_13 q11_13 hinv _ _ ls hw (lv_sub hl [0, 1, 2, 3] rfl)
        · have hinv := oi_f c_24 hinv
          refine lv_aload_n hx hb dX0_build_27 rfl (lv_at hl 1 rfl) ?_
          refine lv_iload_n hx hb dX0_build_28 rfl (lv_at hl 0 rfl) ?_
          refine lv_iconst (v := (-1)) hx hb dX0_build_29 (by decide) ?_
          refine lv_iconst (v := 0) hx hb dX0_build_30 (by decide) ?_
          refine lv_iconst (v := (-1)) hx hb dX0_build_31 (by decide) ?_
          refine lv_iconst (v := (-1)) hx hb dX0_build_32 (by decide) ?_
          refine lv_iconst (v := (-1)) hx hb dX0_build_33 (by decide) ?_
          obtain ⟨zu6, hzu6, hinv⟩ := ob hinv
          refine s_vWv C hw (As := [.int x3_13, .int (-1), .int 0, .int (-1), .int (-1), .int (-1)]) bX0_add k77 (k := 6) (q47 hN rfl) (sh_6 g cy _) rfl (c_X0_add (X := (up (up (up (up (up (up X 6 q6_13) 7 q7_13) 8 q8_13) 9 q9_13) 10 q10_13) 11 q11_13)) hfl hN hzu6) rfl rfl dX0_build_34 ⟨rfl, rfl⟩ (by decide) hl.1 (Nat.le_of_ble_eq_true rfl) ⟨Nat.le_of_ble_eq_true rfl, Nat.le_of_ble_eq_true rfl⟩ (fun H locs hw => ?_)
          refine lv_iinc (v := (x3_13 + 1)) (lv' := [(3, .int (x3_13 + 1)), (0, .ref (g 6)), (1, .ref (g 1)), (2, .ref (g 3))]) hx hb dX0_build_37 hl (k := 0) rfl (by rfl) (by decide) rfl (fun ls hl => ?_)
          refine lv_goto (tgt := 13) hx hb dX0_build_40 (by decide) ?_
          have hXe : (up (up (up (up (up (up (up (up (up (up (up (up X 6 q6_13) 7 q7_13) 8 q8_13) 9 q9_13) 10 q10_13) 11 q11_13) 6 zu6.1) 7 zu6.2.1) 8 zu6.2.2.1) 9 zu6.2.2.2.1) 10 zu6.2.2.2.2.1) 11 zu6.2.2.2.2.2) = (up (up (up (up (up (up X 6 zu6.1) 7 zu6.2.1) 8 zu6.2.2.1) 9 zu6.2.2.2.1) 10 zu6.2.2.2.2.1) 11 zu6.2.2.2.2.2) := by
            funext j
            by_cases h6 : j = 6
            · subst h6; simp [up]
            by_cases h7 : j = 7
            · subst h7; simp [up]
            by_cases h8 : j = 8
            · subst h8; simp [up]
            by_cases h9 : j = 9
            · subst h9; simp [up]
            by_cases h10 : j = 10
            · subst h10; simp [up]
            by_cases h11 : j = 11
            · subst h11; simp [up]
            simp [up, h6, h7, h8, h9, h10, h11]
          rw [hXe] at hw
          exact ih (x3_13 + 1) zu6.1 zu6.2.1 zu6.2.2.1 zu6.2.2.2.1 zu6.2.2.2.2.1 zu6.2.2.2.2.2 hinv _ _ ls hw (lv_sub hl [0, 1, 2, 3] rfl)
  exact hl13 F (-10) (upd (upd (X 6) 5 0) 6 0) (X 7) (X 8) (X 9) (X 10) (X 11) hzu1 _ _ ls hw (lv_sub hl [0, 1, 2, 3] rfl)

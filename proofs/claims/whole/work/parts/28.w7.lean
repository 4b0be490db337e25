def m_X9_addFact (F : Nat) (r0 : Nat → Int32) (r1 : Nat → Int32) (r2 : Nat → Int32) (za1 : Int32) : Option (Nat × Int32 × (Nat → Int32) × (Nat → Int32) × (Nat → Int32)) := Option.bind (m_X9_demandLiteral F za1) (fun zu1 => if zu1 = 0 then (Option.bind (m_X2_has F r2 za1) (fun zu2 => if zu2 = 0 then (Option.bind (m_X2_has F r2 (-za1)) (fun zu3 => if zu3 = 0 then (Option.bind (m_X2_put F r1 r2 za1) (fun zu4 => Option.bind (m_X9_forget F r0) (fun zu5 => some (0, (zu4.1 1), zu5, zu4.1, zu4.2)))) else (some (2, 0, r0, r1, r2)))) else (some (2, 0, r0, r1, r2)))) else some (zu1, 0, r0, r1, r2))
set_option maxHeartbeats 4000000 in
set_option maxRecDepth 100000 in
theorem c_X9_addFact {l : Launch} {D : va_G} {cy : Nat → Nat} {g : Nat → Nat} {N : Nat} {X : Nat → Nat → Int32} {F : Nat} {za1 : Int32} {R0 : Nat × Int32 × (Nat → Int32) × (Nat → Int32) × (Nat → Int32)} (hfl : l.stackTraces = false) (hN : 47 ≤ N) (hinv : m_X9_addFact F (X 0) (X 1) (X 2) za1 = some R0) : sXi l D cy yX9_addFact cX9_addFact 2 (some .int) 8 10 80 [.ref (g 0), .int za1] g N X R0.1 R0.2.1 (up (up (up X 0 R0.2.2.1) 1 R0.2.2.2.1) 2 R0.2.2.2.2) := by
  refine jXi (by decide) rfl hfl (Nat.le_of_ble_eq_true rfl) rfl ?_
  intro p e R s m args below meth c ls A Q hRe C hw hl hret hthr hout
  subst hRe
  have hx := C.1
  have hb := C.2.1
  have hl : lv_has ls 2 [(0, .ref (g 0)), (1, .int za1)] := hl
  rw [m_X9_addFact] at hinv
  refine lv_iload_n hx hb dX9_addFact_0 rfl (lv_at hl 1 rfl) ?_
  obtain ⟨zu1, hzu1, hinv⟩ := ob hinv
  refine s_sXv (tag := zu1) C hw (As := [.int za1]) bX9_demandLiteral k350 (c_X9_demandLiteral (X := X) hfl hN hzu1) rfl rfl dX9_addFact_1 ⟨rfl, rfl⟩ (by decide) hl.1 (Nat.le_of_ble_eq_true rfl) ⟨Nat.le_of_ble_eq_true rfl, Nat.le_of_ble_eq_true rfl⟩ (fun ce q9 H locs ht hw h1 h2 h3 => ?_) (fun H locs ht hw => ?_)
  · have hinv := oi_f ht hinv
    have hR0 := (Option.some.inj hinv).symm
    subst hR0
    have hXe : X = (up (up (up X 0 (X 0)) 1 (X 1)) 2 (X 2)) := by
      funext j
      by_cases h0 : j = 0
      · subst h0; simp [up]
      by_cases h1 : j = 1
      · subst h1; simp [up]
      by_cases h2 : j = 2
      · subst h2; simp [up]
      simp [up, h0, h1, h2]
    rw [hXe] at hw
    exact hout 1 ls _ H locs _ _ zu1 ce q9 ht rfl hw h1 h2 h3 (by decide) (by decide)
  · have hinv := oi_t ht hinv
    refine lv_aload_n hx hb dX9_addFact_4 rfl (lv_at hl 0 rfl) ?_
    refine w_get C hw (k := 0) (v := .ref (g 1)) (j := 0) (q47 hN rfl) (sh_0 g cy _) rfl (by decide) k313 rfl dX9_addFact_5 ?_
    refine lv_iload_n hx hb dX9_addFact_8 rfl (lv_at hl 1 rfl) ?_
    obtain ⟨zu2, hzu2, hinv⟩ := ob hinv
    refine s_vRi (r0 := zu2) C hw (As := [.int za1]) bX2_has k352 (k := 1) (q47 hN rfl) (sh_1 g cy _) rfl (c_X2_has (X := X) hfl hN hzu2) rfl rfl dX9_addFact_9 ⟨rfl, rfl⟩ (by decide) hl.1 (Nat.le_of_ble_eq_true rfl) ⟨Nat.le_of_ble_eq_true rfl, Nat.le_of_ble_eq_true rfl⟩ ?_
    refine lv_if_ne (tgt := 27) hx hb dX9_addFact_12 (by decide) (fun c_12 => ?_) (fun c_12 => ?_)
    · have hinv := oi_f c_12 hinv
      have hR0 := (Option.some.inj hinv).symm
      subst hR0
      have hXe : X = (up (up (up X 0 (X 0)) 1 (X 1)) 2 (X 2)) := by
        funext j
        by_cases h0 : j = 0
        · subst h0; simp [up]
        by_cases h1 : j = 1
        · subst h1; simp [up]
        by_cases h2 : j = 2
        · subst h2; simp [up]
        simp [up, h0, h1, h2]
      rw [hXe] at hw
      exact hthr 27 ls _ _ _ _ 59 63 61 xIS "it or its opposite is a fact" (show ¬ (2 : Nat) = 0 by decide) rfl hw (List.mem_of_getElem? (i := 1) rfl) (by decide) (List.mem_of_getElem? (i := 0) rfl) hl.1 dX9_addFact_27 dX9_addFact_30 dX9_addFact_31 dX9_addFact_33 dX9_addFact_36 (by decide) (by decide) (by decide)
    · have hinv := oi_t c_12 hinv
      refine lv_aload_n hx hb dX9_addFact_15 rfl (lv_at hl 0 rfl) ?_
      refine w_get C hw (k := 0) (v := .ref (g 1)) (j := 0) (q47 hN rfl) (sh_0 g cy _) rfl (by decide) k313 rfl dX9_addFact_16 ?_
      refine lv_iload_n hx hb dX9_addFact_19 rfl (lv_at hl 1 rfl) ?_
      refine lv_ineg hx hb dX9_addFact_20 ?_
      obtain ⟨zu3, hzu3, hinv⟩ := ob hinv
      refine s_vRi (r0 := zu3) C hw (As := [.int (-za1)]) bX2_has k352 (k := 1) (q47 hN rfl) (sh_1 g cy _) rfl (c_X2_has (X := X) hfl hN hzu3) rfl rfl dX9_addFact_21 ⟨rfl, rfl⟩ (by decide) hl.1 (Nat.le_of_ble_eq_true rfl) ⟨Nat.le_of_ble_eq_true rfl, Nat.le_of_ble_eq_true rfl⟩ ?_
      refine lv_if_eq (tgt := 37) hx hb dX9_addFact_24 (by decide) (fun c_24 => ?_) (fun c_24 => ?_)
      · have hinv := oi_t c_24 hinv
        refine lv_aload_n hx hb dX9_addFact_37 rfl (lv_at hl 0 rfl) ?_
        refine w_get C hw (k := 0) (v := .ref (g 1)) (j := 0) (q47 hN rfl) (sh_0 g cy _) rfl (by decide) k313 rfl dX9_addFact_38 ?_
        refine lv_iload_n hx hb dX9_addFact_41 rfl (lv_at hl 1 rfl) ?_
        obtain ⟨zu4, hzu4, hinv⟩ := ob hinv
        refine s_vWv C hw (As := [.int za1]) bX2_put k353 (k := 1) (q47 hN rfl) (sh_1 g cy _) rfl (c_X2_put (X := X) hfl hN hzu4) rfl rfl dX9_addFact_42 ⟨rfl, rfl⟩ (by decide) hl.1 (Nat.le_of_ble_eq_true rfl) ⟨Nat.le_of_ble_eq_true rfl, Nat.le_of_ble_eq_true rfl⟩ (fun H locs hw => ?_)
        refine lv_aload_n hx hb dX9_addFact_45 rfl (lv_at hl 0 rfl) ?_
        obtain ⟨zu5, hzu5, hinv⟩ := ob hinv
        refine s_vWv C hw (As := []) bX9_forget k356 (k := 0) (q47 hN rfl) (sh_0 g cy _) rfl (c_X9_forget (X := (up (up X 1 zu4.1) 2 zu4.2)) hfl hN hzu5) rfl rfl dX9_addFact_46 ⟨rfl, rfl⟩ (by decide) hl.1 (Nat.le_of_ble_eq_true rfl) ⟨Nat.le_of_ble_eq_true rfl, Nat.le_of_ble_eq_true rfl⟩ (fun H locs hw => ?_)
        refine lv_aload_n hx hb dX9_addFact_49 rfl (lv_at hl 0 rfl) ?_
        refine w_get C hw (k := 0) (v := .ref (g 1)) (j := 0) (q47 hN rfl) (sh_0 g cy _) rfl (by decide) k313 rfl dX9_addFact_50 ?_
        refine w_getN C hw (k := 1) (v := .int (zu4.1 1)) (j := 1) (q47 hN rfl) (sh_1 g cy _) rfl (by decide) k835 rfl dX9_addFact_53 ?_
        have hR0 := (Option.some.inj hinv).symm
        subst hR0
        have hXe : (up (up (up X 1 zu4.1) 2 zu4.2) 0 zu5) = (up (up (up X 0 zu5) 1 zu4.1) 2 zu4.2) := by
          funext j
          by_cases h0 : j = 0
          · subst h0; simp [up]
          by_cases h1 : j = 1
          · subst h1; simp [up]
          by_cases h2 : j = 2
          · subst h2; simp [up]
          simp [up, h0, h1, h2]
        rw [hXe] at hw
        exact hret 56 ls (zu4.1 1) _ _ _ _ rfl rfl hw (by decide) (by decide) dX9_addFact_56
      · have hinv := oi_f c_24 hinv
        have hR0 := (Option.some.inj hinv).symm
        subst hR0
        have hXe : X = (up (up (up X 0 (X 0)) 1 (X 1)) 2 (X 2)) := by
          funext j
          by_cases h0 : j = 0
          · subst h0; simp [up]
          by_cases h1 : j = 1
          · subst h1; simp [up]
          by_cases h2 : j = 2
          · subst h2; simp [up]
          simp [up, h0, h1, h2]
        rw [hXe] at hw
        exact hthr 27 ls _ _ _ _ 59 63 61 xIS "it or its opposite is a fact" (show ¬ (2 : Nat) = 0 by decide) rfl hw (List.mem_of_getElem? (i := 1) rfl) (by decide) (List.mem_of_getElem? (i := 0) rfl) hl.1 dX9_addFact_27 dX9_addFact_30 dX9_addFact_31 dX9_addFact_33 dX9_addFact_36 (by decide) (by decide) (by decide)
def m_X9_takeBack (F : Nat) (r0 : Nat → Int32) (r1 : Nat → Int32) (r2 : Nat → Int32) (za1 : Int32) : Option (Nat × Int32 × (Nat → Int32) × (Nat → Int32) × (Nat → Int32)) := Option.bind (m_X9_demandLiteral F za1) (fun zu1 => if zu1 = 0 then (Option.bind (m_X2_has F r2 za1) (fun zu2 => if zu2 = 0 then (some (0, 0, r0, r1, r2)) else (Option.bind (m_X2_drop F r1 r2 za1) (fun zu3 => Option.bind (m_X9_forget F r0) (fun zu4 => some (0, 1, zu4, zu3.1, zu3.2)))))) else some (zu1, 0, r0, r1, r2))
set_option maxHeartbeats 4000000 in
set_option maxRecDepth 100000 in
theorem c_X9_takeBack {l : Launch} {D : va_G} {cy : Nat → Nat} {g : Nat → Nat} {N : Nat} {X : Nat → Nat → Int32} {F : Nat} {za1 : Int32} {R0 : Nat × Int32 × (Nat → Int32) × (Nat → Int32) × (Nat → Int32)} (hfl : l.stackTraces = false) (hN : 47 ≤ N) (hinv : m_X9_takeBack F (X 0) (X 1) (X 2) za1 = some R0) : sXi l D cy yX9_takeBack cX9_takeBack 2 (some .boolean) 8 10 80 [.ref (g 0), .int za1] g N X R0.1 R0.2.1 (up (up (up X 0 R0.2.2.1) 1 R0.2.2.2.1) 2 R0.2.2.2.2) := by
  refine jXz (by decide) rfl hfl (Nat.le_of_ble_eq_true rfl) rfl ?_
  intro p e R s m args below meth c ls A Q hRe C hw hl hret hthr hout
  subst hRe
  have hx := C.1
  have hb := C.2.1
  have hl : lv_has ls 2 [(0, .ref (g 0)), (1, .int za1)] := hl
  rw [m_X9_takeBack] at hinv
  refine lv_iload_n hx hb dX9_takeBack_0 rfl (lv_at hl 1 rfl) ?_
  obtain ⟨zu1, hzu1, hinv⟩ := ob hinv
  refine s_sXv (tag := zu1) C hw (As := [.int za1]) bX9_demandLiteral k350 (c_X9_demandLiteral (X := X) hfl hN hzu1) rfl rfl dX9_takeBack_1 ⟨rfl, rfl⟩ (by decide) hl.1 (Nat.le_of_ble_eq_true rfl) ⟨Nat.le_of_ble_eq_true rfl, Nat.le_of_ble_eq_true rfl⟩ (fun ce q9 H locs ht hw h1 h2 h3 => ?_) (fun H locs ht hw => ?_)
  · have hinv := oi_f ht hinv
    have hR0 := (Option.some.inj hinv).symm
    subst hR0
    have hXe : X = (up (up (up X 0 (X 0)) 1 (X 1)) 2 (X 2)) := by
      funext j
      by_cases h0 : j = 0
      · subst h0; simp [up]
      by_cases h1 : j = 1
      · subst h1; simp [up]
      by_cases h2 : j = 2
      · subst h2; simp [up]
      simp [up, h0, h1, h2]
    rw [hXe] at hw
    exact hout 1 ls _ H locs _ _ zu1 ce q9 ht rfl hw h1 h2 h3 (by decide) (by decide)
  · have hinv := oi_t ht hinv
    refine lv_aload_n hx hb dX9_takeBack_4 rfl (lv_at hl 0 rfl) ?_
    refine w_get C hw (k := 0) (v := .ref (g 1)) (j := 0) (q47 hN rfl) (sh_0 g cy _) rfl (by decide) k313 rfl dX9_takeBack_5 ?_
    refine lv_iload_n hx hb dX9_takeBack_8 rfl (lv_at hl 1 rfl) ?_
    obtain ⟨zu2, hzu2, hinv⟩ := ob hinv
    refine s_vRi (r0 := zu2) C hw (As := [.int za1]) bX2_has k352 (k := 1) (q47 hN rfl) (sh_1 g cy _) rfl (c_X2_has (X := X) hfl hN hzu2) rfl rfl dX9_takeBack_9 ⟨rfl, rfl⟩ (by decide) hl.1 (Nat.le_of_ble_eq_true rfl) ⟨Nat.le_of_ble_eq_true rfl, Nat.le_of_ble_eq_true rfl⟩ ?_
    refine lv_if_ne (tgt := 17) hx hb dX9_takeBack_12 (by decide) (fun c_12 => ?_) (fun c_12 => ?_)
    · have hinv := oi_f c_12 hinv
      refine lv_aload_n hx hb dX9_takeBack_17 rfl (lv_at hl 0 rfl) ?_
      refine w_get C hw (k := 0) (v := .ref (g 1)) (j := 0) (q47 hN rfl) (sh_0 g cy _) rfl (by decide) k313 rfl dX9_takeBack_18 ?_
      refine lv_iload_n hx hb dX9_takeBack_21 rfl (lv_at hl 1 rfl) ?_
      obtain ⟨zu3, hzu3, hinv⟩ := ob hinv
      refine s_vWv C hw (As := [.int za1]) bX2_drop k360 (k := 1) (q47 hN rfl) (sh_1 g cy _) rfl (c_X2_drop (X := X) hfl hN hzu3) rfl rfl dX9_takeBack_22 ⟨rfl, rfl⟩ (by decide) hl.1 (Nat.le_of_ble_eq_true rfl) ⟨Nat.le_of_ble_eq_true rfl, Nat.le_of_ble_eq_true rfl⟩ (fun H locs hw => ?_)
      refine lv_aload_n hx hb dX9_takeBack_25 rfl (lv_at hl 0 rfl) ?_
      obtain ⟨zu4, hzu4, hinv⟩ := ob hinv
      refine s_vWv C hw (As := []) bX9_forget k356 (k := 0) (q47 hN rfl) (sh_0 g cy _) rfl (c_X9_forget (X := (up (up X 1 zu3.1) 2 zu3.2)) hfl hN hzu4) rfl rfl dX9_takeBack_26 ⟨rfl, rfl⟩ (by decide) hl.1 (Nat.le_of_ble_eq_true rfl) ⟨Nat.le_of_ble_eq_true rfl, Nat.le_of_ble_eq_true rfl⟩ (fun H locs hw => ?_)
      refine lv_iconst (v := 1) hx hb dX9_takeBack_29 (by decide) ?_
      have hR0 := (Option.some.inj hinv).symm
      subst hR0
      have hXe : (up (up (up X 1 zu3.1) 2 zu3.2) 0 zu4) = (up (up (up X 0 zu4) 1 zu3.1) 2 zu3.2) := by
        funext j
        by_cases h0 : j = 0
        · subst h0; simp [up]
        by_cases h1 : j = 1
        · subst h1; simp [up]
        by_cases h2 : j = 2
        · subst h2; simp [up]
        simp [up, h0, h1, h2]
      rw [hXe] at hw
      exact hret 30 ls 1 _ _ _ _ rfl rfl (by decide) hw (by decide) (by decide) dX9_takeBack_30
    · have hinv := oi_t c_12 hinv
      refine lv_iconst (v := 0) hx hb dX9_takeBack_15 (by decide) ?_
      have hR0 := (Option.some.inj hinv).symm
      subst hR0
      have hXe : X = (up (up (up X 0 (X 0)) 1 (X 1)) 2 (X 2)) := by
        funext j
        by_cases h0 : j = 0
        · subst h0; simp [up]
        by_cases h1 : j = 1
        · subst h1; simp [up]
        by_cases h2 : j = 2
        · subst h2; simp [up]
        simp [up, h0, h1, h2]
      rw [hXe] at hw
      exact hret 16 ls 0 _ _ _ _ rfl rfl (by decide) hw (by decide) (by decide) dX9_takeBack_16
def m_X9_facts (F : Nat) (r1 : Nat → Int32) : Option (Int32) := some (r1 1)
set_option maxHeartbeats 4000000 in
set_option maxRecDepth 100000 in
theorem c_X9_facts {l : Launch} {D : va_G} {cy : Nat → Nat} {g : Nat → Nat} {N : Nat} {X : Nat → Nat → Int32} {F : Nat} {R0 : Int32} (hfl : l.stackTraces = false) (hN : 47 ≤ N) (hinv : m_X9_facts F (X 1) = some R0) : sRi l D cy yX9_facts cX9_facts 1 (some .int) 0 [.ref (g 0)] g N X R0 := by
  refine jRi (own := RX9) (by decide) rfl hfl (Nat.le_of_ble_eq_true rfl) rfl ?_
  intro p e R s m args below meth c ls A Q hRe C hw hl hret
  subst hRe
  have hx := C.1
  have hb := C.2.1
  have hl : lv_has ls 1 [(0, .ref (g 0))] := hl
  rw [m_X9_facts] at hinv
  refine lv_aload_n hx hb dX9_facts_0 rfl (lv_at hl 0 rfl) ?_
  refine w_get C hw (k := 0) (v := .ref (g 1)) (j := 0) (q47 hN rfl) (sh_0 g cy _) rfl (by decide) k313 rfl dX9_facts_1 ?_
  refine w_getN C hw (k := 1) (v := .int ((X 1) 1)) (j := 1) (q47 hN rfl) (sh_1 g cy _) rfl (by decide) k835 rfl dX9_facts_4 ?_
  exact hret 7 ls ((X 1) 1) (Option.some.inj hinv) dX9_facts_7
def m_X9_rules (F : Nat) (r4 : Nat → Int32) : Option (Int32) := Option.bind (m_X5_size F r4) (fun zu1 => some zu1)
set_option maxHeartbeats 4000000 in
set_option maxRecDepth 100000 in
theorem c_X9_rules {l : Launch} {D : va_G} {cy : Nat → Nat} {g : Nat → Nat} {N : Nat} {X : Nat → Nat → Int32} {F : Nat} {R0 : Int32} (hfl : l.stackTraces = false) (hN : 47 ≤ N) (hinv : m_X9_rules F (X 4) = some R0) : sRi l D cy yX9_rules cX9_rules 1 (some .int) 2 [.ref (g 0)] g N X R0 := by
  refine jRi (own := RX9) (by decide) rfl hfl (Nat.le_of_ble_eq_true rfl) rfl ?_
  intro p e R s m args below meth c ls A Q hRe C hw hl hret
  subst hRe
  have hx := C.1
  have hb := C.2.1
  have hl : lv_has ls 1 [(0, .ref (g 0))] := hl
  rw [m_X9_rules] at hinv
  refine lv_aload_n hx hb dX9_rules_0 rfl (lv_at hl 0 rfl) ?_
  refine w_get C hw (k := 0) (v := .ref (g 3)) (j := 1) (q47 hN rfl) (sh_0 g cy _) rfl (by decide) k316 rfl dX9_rules_1 ?_
  obtain ⟨zu1, hzu1, hinv⟩ := ob hinv
  refine s_vRi (r0 := zu1) C hw (As := []) bX5_size k371 (k := 3) (q47 hN rfl) (sh_3 g cy _) rfl (c_X5_size (X := X) hfl hN hzu1) rfl rfl dX9_rules_4 ⟨rfl, rfl⟩ (by decide) hl.1 (Nat.le_of_ble_eq_true rfl) ⟨Nat.le_of_ble_eq_true rfl, Nat.le_of_ble_eq_true rfl⟩ ?_
  exact hret 7 ls zu1 (Option.some.inj hinv) dX9_rules_7
def m_X9_arguments (F : Nat) (RR : Nat → Nat → Int32) (r0 : Nat → Int32) (r2 : Nat → Int32) (r4 : Nat → Int32) (r6 : Nat → Int32) (r7 : Nat → Int32) (r8 : Nat → Int32) (r9 : Nat → Int32) (r10 : Nat → Int32) (r11 : Nat → Int32) (r13 : Nat → Int32) (r14 : Nat → Int32) (r15 : Nat → Int32) (r16 : Nat → Int32) (r18 : Nat → Int32) (r19 : Nat → Int32) (r20 : Nat → Int32) (r22 : Nat → Int32) (r23 : Nat → Int32) (r24 : Nat → Int32) : Option (Int32 × (Nat → Int32) × (Nat → Int32) × (Nat → Int32) × (Nat → Int32) × (Nat → Int32) × (Nat → Int32) × (Nat → Int32) × (Nat → Int32) × (Nat → Int32) × (Nat → Int32) × (Nat → Int32) × (Nat → Int32) × (Nat → Int32) × (Nat → Int32) × (Nat → Int32) × (Nat → Int32) × (Nat → Int32)) := Option.bind (m_X9_build F RR r0 r2 r4 r6 r7 r8 r9 r10 r11 r13 r14 r15 r16 r18 r19 r20 r22 r23 r24) (fun zu1 => if (zu1.2.1 6) = 0 then (some ((zu1.2.1 5), zu1.1, zu1.2.1, zu1.2.2.1, zu1.2.2.2.1, zu1.2.2.2.2.1, zu1.2.2.2.2.2.1, zu1.2.2.2.2.2.2.1, zu1.2.2.2.2.2.2.2.1, zu1.2.2.2.2.2.2.2.2.1, zu1.2.2.2.2.2.2.2.2.2.1, zu1.2.2.2.2.2.2.2.2.2.2.1, zu1.2.2.2.2.2.2.2.2.2.2.2.1, zu1.2.2.2.2.2.2.2.2.2.2.2.2.1, zu1.2.2.2.2.2.2.2.2.2.2.2.2.2.1, zu1.2.2.2.2.2.2.2.2.2.2.2.2.2.2.1, zu1.2.2.2.2.2.2.2.2.2.2.2.2.2.2.2.1, zu1.2.2.2.2.2.2.2.2.2.2.2.2.2.2.2.2)) else (some ((-1), zu1.1, zu1.2.1, zu1.2.2.1, zu1.2.2.2.1, zu1.2.2.2.2.1, zu1.2.2.2.2.2.1, zu1.2.2.2.2.2.2.1, zu1.2.2.2.2.2.2.2.1, zu1.2.2.2.2.2.2.2.2.1, zu1.2.2.2.2.2.2.2.2.2.1, zu1.2.2.2.2.2.2.2.2.2.2.1, zu1.2.2.2.2.2.2.2.2.2.2.2.1, zu1.2.2.2.2.2.2.2.2.2.2.2.2.1, zu1.2.2.2.2.2.2.2.2.2.2.2.2.2.1, zu1.2.2.2.2.2.2.2.2.2.2.2.2.2.2.1, zu1.2.2.2.2.2.2.2.2.2.2.2.2.2.2.2.1, zu1.2.2.2.2.2.2.2.2.2.2.2.2.2.2.2.2)))
set_option maxHeartbeats 4000000 in
set_option maxRecDepth 100000 in
theorem c_X9_arguments {l : Launch} {D : va_G} {cy : Nat → Nat} {g : Nat → Nat} {N : Nat} {X : Nat → Nat → Int32} {RR : Nat → Nat → Int32} {F : Nat} {R0 : Int32 × (Nat → Int32) × (Nat → Int32) × (Nat → Int32) × (Nat → Int32) × (Nat → Int32) × (Nat → Int32) × (Nat → Int32) × (Nat → Int32) × (Nat → Int32) × (Nat → Int32) × (Nat → Int32) × (Nat → Int32) × (Nat → Int32) × (Nat → Int32) × (Nat → Int32) × (Nat → Int32) × (Nat → Int32)} (hfl : l.stackTraces = false) (hX : rok X RR N) (hinv : m_X9_arguments F RR (X 0) (X 2) (X 4) (X 6) (X 7) (X 8) (X 9) (X 10) (X 11) (X 13) (X 14) (X 15) (X 16) (X 18) (X 19) (X 20) (X 22) (X 23) (X 24) = some R0) : sWi l D cy yX9_arguments cX9_arguments 1 (some .int) 8 0 0 [.ref (g 0)] g N X R0.1 (up (up (up (up (up (up (up (up (up (up (up (up (up (up (up (up (up X 0 R0.2.1) 6 R0.2.2.1) 7 R0.2.2.2.1) 8 R0.2.2.2.2.1) 9 R0.2.2.2.2.2.1) 10 R0.2.2.2.2.2.2.1) 11 R0.2.2.2.2.2.2.2.1) 13 R0.2.2.2.2.2.2.2.2.1) 14 R0.2.2.2.2.2.2.2.2.2.1) 15 R0.2.2.2.2.2.2.2.2.2.2.1) 16 R0.2.2.2.2.2.2.2.2.2.2.2.1) 18 R0.2.2.2.2.2.2.2.2.2.2.2.2.1) 19 R0.2.2.2.2.2.2.2.2.2.2.2.2.2.1) 20 R0.2.2.2.2.2.2.2.2.2.2.2.2.2.2.1) 22 R0.2.2.2.2.2.2.2.2.2.2.2.2.2.2.2.1) 23 R0.2.2.2.2.2.2.2.2.2.2.2.2.2.2.2.2.1) 24 R0.2.2.2.2.2.2.2.2.2.2.2.2.2.2.2.2.2) := by
  refine jWi (own := RX9) (by decide) rfl hfl (Nat.le_of_ble_eq_true rfl) rfl ?_
  intro p e R s m args below meth c ls A Q hRe C hw hl hret
  subst hRe
  have hx := C.1
  have hb := C.2.1
  have hN := hX.1
  have hl : lv_has ls 1 [(0, .ref (g 0))] := hl
  rw [m_X9_arguments] at hinv
  refine lv_aload_n hx hb dX9_arguments_0 rfl (lv_at hl 0 rfl) ?_
  obtain ⟨zu1, hzu1, hinv⟩ := ob hinv
  refine s_vWv C hw (As := []) bX9_build k402 (k := 0) (q47 hN rfl) (sh_0 g cy _) rfl (c_X9_build (X := X) hfl hX hzu1) rfl rfl dX9_arguments_1 ⟨rfl, rfl⟩ (by decide) hl.1 (Nat.le_of_ble_eq_true rfl) ⟨Nat.le_of_ble_eq_true rfl, Nat.le_of_ble_eq_true rfl⟩ (fun H locs hw => ?_)
  refine lv_aload_n hx hb dX9_arguments_4 rfl (lv_at hl 0 rfl) ?_
  refine w_get C hw (k := 0) (v := .ref (g 6)) (j := 2) (q47 hN rfl) (sh_0 g cy _) rfl (by decide) k319 rfl dX9_arguments_5 ?_
  refine w_getN C hw (k := 6) (v := .int (zu1.2.1 6)) (j := 6) (q47 hN rfl) (sh_6 g cy _) rfl (by decide) k851 rfl dX9_arguments_8 ?_
  refine lv_if_eq (tgt := 18) hx hb dX9_arguments_11 (by decide) (fun c_11 => ?_) (fun c_11 => ?_)
  · have hinv := oi_t c_11 hinv
    refine lv_aload_n hx hb dX9_arguments_18 rfl (lv_at hl 0 rfl) ?_
    refine w_get C hw (k := 0) (v := .ref (g 6)) (j := 2) (q47 hN rfl) (sh_0 g cy _) rfl (by decide) k319 rfl dX9_arguments_19 ?_
    refine w_getN C hw (k := 6) (v := .int (zu1.2.1 5)) (j := 5) (q47 hN rfl) (sh_6 g cy _) rfl (by decide) k850 rfl dX9_arguments_22 ?_
    have hR0 := (Option.some.inj hinv).symm
    subst hR0
    exact hret 25 ls (zu1.2.1 5) _ _ _ _ rfl hw (by decide) (by decide) dX9_arguments_25
  · have hinv := oi_f c_11 hinv
    refine lv_iconst (v := (-1)) hx hb dX9_arguments_14 (by decide) ?_
    refine lv_goto (tgt := 25) hx hb dX9_arguments_15 (by decide) ?_
    have hR0 := (Option.some.inj hinv).symm
    subst hR0
    exact hret 25 ls (-1) _ _ _ _ rfl hw (by decide) (by decide) dX9_arguments_25
def m_X9_conclusion (F : Nat) (RR : Nat → Nat → Int32) (r0 : Nat → Int32) (r2 : Nat → Int32) (r4 : Nat → Int32) (r6 : Nat → Int32) (r7 : Nat → Int32) (r8 : Nat → Int32) (r9 : Nat → Int32) (r10 : Nat → Int32) (r11 : Nat → Int32) (r13 : Nat → Int32) (r14 : Nat → Int32) (r15 : Nat → Int32) (r16 : Nat → Int32) (r18 : Nat → Int32) (r19 : Nat → Int32) (r20 : Nat → Int32) (r22 : Nat → Int32) (r23 : Nat → Int32) (r24 : Nat → Int32) (za1 : Int32) : Option (Nat × Int32 × (Nat → Int32) × (Nat → Int32) × (Nat → Int32) × (Nat → Int32) × (Nat → Int32) × (Nat → Int32) × (Nat → Int32) × (Nat → Int32) × (Nat → Int32) × (Nat → Int32) × (Nat → Int32) × (Nat → Int32) × (Nat → Int32) × (Nat → Int32) × (Nat → Int32) × (Nat → Int32) × (Nat → Int32)) := Option.bind (m_X9_demandTold F RR r0 r2 r4 r6 r7 r8 r9 r10 r11 r13 r14 r15 r16 r18 r19 r20 r22 r23 r24) (fun zu1 => if zu1.1 = 0 then (Option.bind (m_X9_demandArgument F zu1.2.2.1 za1) (fun zu2 => if zu2 = 0 then (Option.bind (m_X0_conclusionAt F zu1.2.2.2.1 za1) (fun zu3 => some (0, zu3, zu1.2.1, zu1.2.2.1, zu1.2.2.2.1, zu1.2.2.2.2.1, zu1.2.2.2.2.2.1, zu1.2.2.2.2.2.2.1, zu1.2.2.2.2.2.2.2.1, zu1.2.2.2.2.2.2.2.2.1, zu1.2.2.2.2.2.2.2.2.2.1, zu1.2.2.2.2.2.2.2.2.2.2.1, zu1.2.2.2.2.2.2.2.2.2.2.2.1, zu1.2.2.2.2.2.2.2.2.2.2.2.2.1, zu1.2.2.2.2.2.2.2.2.2.2.2.2.2.1, zu1.2.2.2.2.2.2.2.2.2.2.2.2.2.2.1, zu1.2.2.2.2.2.2.2.2.2.2.2.2.2.2.2.1, zu1.2.2.2.2.2.2.2.2.2.2.2.2.2.2.2.2.1, zu1.2.2.2.2.2.2.2.2.2.2.2.2.2.2.2.2.2))) else some (zu2, 0, zu1.2.1, zu1.2.2.1, zu1.2.2.2.1, zu1.2.2.2.2.1, zu1.2.2.2.2.2.1, zu1.2.2.2.2.2.2.1, zu1.2.2.2.2.2.2.2.1, zu1.2.2.2.2.2.2.2.2.1, zu1.2.2.2.2.2.2.2.2.2.1, zu1.2.2.2.2.2.2.2.2.2.2.1, zu1.2.2.2.2.2.2.2.2.2.2.2.1, zu1.2.2.2.2.2.2.2.2.2.2.2.2.1, zu1.2.2.2.2.2.2.2.2.2.2.2.2.2.1, zu1.2.2.2.2.2.2.2.2.2.2.2.2.2.2.1, zu1.2.2.2.2.2.2.2.2.2.2.2.2.2.2.2.1, zu1.2.2.2.2.2.2.2.2.2.2.2.2.2.2.2.2.1, zu1.2.2.2.2.2.2.2.2.2.2.2.2.2.2.2.2.2))) else some (zu1.1, 0, zu1.2.1, zu1.2.2.1, zu1.2.2.2.1, zu1.2.2.2.2.1, zu1.2.2.2.2.2.1, zu1.2.2.2.2.2.2.1, zu1.2.2.2.2.2.2.2.1, zu1.2.2.2.2.2.2.2.2.1, zu1.2.2.2.2.2.2.2.2.2.1, zu1.2.2.2.2.2.2.2.2.2.2.1, zu1.2.2.2.2.2.2.2.2.2.2.2.1, zu1.2.2.2.2.2.2.2.2.2.2.2.2.1, zu1.2.2.2.2.2.2.2.2.2.2.2.2.2.1, zu1.2.2.2.2.2.2.2.2.2.2.2.2.2.2.1, zu1.2.2.2.2.2.2.2.2.2.2.2.2.2.2.2.1, zu1.2.2.2.2.2.2.2.2.2.2.2.2.2.2.2.2.1, zu1.2.2.2.2.2.2.2.2.2.2.2.2.2.2.2.2.2))
set_option maxHeartbeats 4000000 in
set_option maxRecDepth 100000 in
theorem c_X9_conclusion {l : Launch} {D : va_G} {cy : Nat → Nat} {g : Nat → Nat} {N : Nat} {X : Nat → Nat → Int32} {RR : Nat → Nat → Int32} {F : Nat} {za1 : Int32} {R0 : Nat × Int32 × (Nat → Int32) × (Nat → Int32) × (Nat → Int32) × (Nat → Int32) × (Nat → Int32) × (Nat → Int32) × (Nat → Int32) × (Nat → Int32) × (Nat → Int32) × (Nat → Int32) × (Nat → Int32) × (Nat → Int32) × (Nat → Int32) × (Nat → Int32) × (Nat → Int32) × (Nat → Int32) × (Nat → Int32)} (hfl : l.stackTraces = false) (hX : rok X RR N) (hinv : m_X9_conclusion F RR (X 0) (X 2) (X 4) (X 6) (X 7) (X 8) (X 9) (X 10) (X 11) (X 13) (X 14) (X 15) (X 16) (X 18) (X 19) (X 20) (X 22) (X 23) (X 24) za1 = some R0) : sXi l D cy yX9_conclusion cX9_conclusion 2 (some .int) 9 10 80 [.ref (g 0), .int za1] g N X R0.1 R0.2.1 (up (up (up (up (up (up (up (up (up (up (up (up (up (up (up (up (up X 0 R0.2.2.1) 6 R0.2.2.2.1) 7 R0.2.2.2.2.1) 8 R0.2.2.2.2.2.1) 9 R0.2.2.2.2.2.2.1) 10 R0.2.2.2.2.2.2.2.1) 11 R0.2.2.2.2.2.2.2.2.1) 13 R0.2.2.2.2.2.2.2.2.2.1) 14 R0.2.2.2.2.2.2.2.2.2.2.1) 15 R0.2.2.2.2.2.2.2.2.2.2.2.1) 16 R0.2.2.2.2.2.2.2.2.2.2.2.2.1) 18 R0.2.2.2.2.2.2.2.2.2.2.2.2.2.1) 19 R0.2.2.2.2.2.2.2.2.2.2.2.2.2.2.1) 20 R0.2.2.2.2.2.2.2.2.2.2.2.2.2.2.2.1) 22 R0.2.2.2.2.2.2.2.2.2.2.2.2.2.2.2.2.1) 23 R0.2.2.2.2.2.2.2.2.2.2.2.2.2.2.2.2.2.1) 24 R0.2.2.2.2.2.2.2.2.2.2.2.2.2.2.2.2.2.2) := by
  refine jXi (by decide) rfl hfl (Nat.le_of_ble_eq_true rfl) rfl ?_
  intro p e R s m args below meth c ls A Q hRe C hw hl hret hthr hout
  subst hRe
  have hx := C.1
  have hb := C.2.1
  have hN := hX.1
  have hl : lv_has ls 2 [(0, .ref (g 0)), (1, .int za1)] := hl
  rw [m_X9_conclusion] at hinv
  refine lv_aload_n hx hb dX9_conclusion_0 rfl (lv_at hl 0 rfl) ?_
  obtain ⟨zu1, hzu1, hinv⟩ := ob hinv
  refine s_vXv (tag := zu1.1) C hw (As := []) bX9_demandTold k408 (k := 0) (q47 hN rfl) (sh_0 g cy _) rfl (c_X9_demandTold (X := X) hfl hX hzu1) rfl rfl dX9_conclusion_1 ⟨rfl, rfl⟩ (by decide) hl.1 (Nat.le_of_ble_eq_true rfl) ⟨Nat.le_of_ble_eq_true rfl, Nat.le_of_ble_eq_true rfl⟩ (fun ce q9 H locs ht hw h1 h2 h3 => ?_) (fun H locs ht hw => ?_)
  · have hinv := oi_f ht hinv
    have hR0 := (Option.some.inj hinv).symm
    subst hR0
    exact hout 1 ls _ H locs _ _ zu1.1 ce q9 ht rfl hw h1 h2 h3 (by decide) (by decide)
  · have hinv := oi_t ht hinv
    refine lv_aload_n hx hb dX9_conclusion_4 rfl (lv_at hl 0 rfl) ?_
    refine lv_iload_n hx hb dX9_conclusion_5 rfl (lv_at hl 1 rfl) ?_
    obtain ⟨zu2, hzu2, hinv⟩ := ob hinv
    refine s_vXv (tag := zu2) C hw (As := [.int za1]) bX9_demandArgument k411 (k := 0) (q47 hN rfl) (sh_0 g cy _) rfl (c_X9_demandArgument (X := (up (up (up (up (up (up (up (up (up (up (up (up (up (up (up (up (up X 0 zu1.2.1) 6 zu1.2.2.1) 7 zu1.2.2.2.1) 8 zu1.2.2.2.2.1) 9 zu1.2.2.2.2.2.1) 10 zu1.2.2.2.2.2.2.1) 11 zu1.2.2.2.2.2.2.2.1) 13 zu1.2.2.2.2.2.2.2.2.1) 14 zu1.2.2.2.2.2.2.2.2.2.1) 15 zu1.2.2.2.2.2.2.2.2.2.2.1) 16 zu1.2.2.2.2.2.2.2.2.2.2.2.1) 18 zu1.2.2.2.2.2.2.2.2.2.2.2.2.1) 19 zu1.2.2.2.2.2.2.2.2.2.2.2.2.2.1) 20 zu1.2.2.2.2.2.2.2.2.2.2.2.2.2.2.1) 22 zu1.2.2.2.2.2.2.2.2.2.2.2.2.2.2.2.1) 23 zu1.2.2.2.2.2.2.2.2.2.2.2.2.2.2.2.2.1) 24 zu1.2.2.2.2.2.2.2.2.2.2.2.2.2.2.2.2.2)) hfl hN hzu2) rfl rfl dX9_conclusion_6 ⟨rfl, rfl⟩ (by decide) hl.1 (Nat.le_of_ble_eq_true rfl) ⟨Nat.le_of_ble_eq_true rfl, Nat.le_of_ble_eq_true rfl⟩ (fun ce q9 H locs ht hw h1 h2 h3 => ?_) (fun H locs ht hw => ?_)
    · have hinv := oi_f ht hinv
      have hR0 := (Option.some.inj hinv).symm
      subst hR0
      exact hout 6 ls _ H locs _ _ zu2 ce q9 ht rfl hw h1 h2 h3 (by decide) (by decide)
    · have hinv := oi_t ht hinv
      refine lv_aload_n hx hb dX9_conclusion_9 rfl (lv_at hl 0 rfl) ?_
      refine w_get C hw (k := 0) (v := .ref (g 6)) (j := 2) (q47 hN rfl) (sh_0 g cy _) rfl (by decide) k319 rfl dX9_conclusion_10 ?_
      refine lv_iload_n hx hb dX9_conclusion_13 rfl (lv_at hl 1 rfl) ?_
      obtain ⟨zu3, hzu3, hinv⟩ := ob hinv
      refine s_vRi (r0 := zu3) C hw (As := [.int za1]) bX0_conclusionAt k414 (k := 6) (q47 hN rfl) (sh_6 g cy _) rfl (c_X0_conclusionAt (X := (up (up (up (up (up (up (up (up (up (up (up (up (up (up (up (up (up X 0 zu1.2.1) 6 zu1.2.2.1) 7 zu1.2.2.2.1) 8 zu1.2.2.2.2.1) 9 zu1.2.2.2.2.2.1) 10 zu1.2.2.2.2.2.2.1) 11 zu1.2.2.2.2.2.2.2.1) 13 zu1.2.2.2.2.2.2.2.2.1) 14 zu1.2.2.2.2.2.2.2.2.2.1) 15 zu1.2.2.2.2.2.2.2.2.2.2.1) 16 zu1.2.2.2.2.2.2.2.2.2.2.2.1) 18 zu1.2.2.2.2.2.2.2.2.2.2.2.2.1) 19 zu1.2.2.2.2.2.2.2.2.2.2.2.2.2.1) 20 zu1.2.2.2.2.2.2.2.2.2.2.2.2.2.2.1) 22 zu1.2.2.2.2.2.2.2.2.2.2.2.2.2.2.2.1) 23 zu1.2.2.2.2.2.2.2.2.2.2.2.2.2.2.2.2.1) 24 zu1.2.2.2.2.2.2.2.2.2.2.2.2.2.2.2.2.2)) hfl hN hzu3) rfl rfl dX9_conclusion_14 ⟨rfl, rfl⟩ (by decide) hl.1 (Nat.le_of_ble_eq_true rfl) ⟨Nat.le_of_ble_eq_true rfl, Nat.le_of_ble_eq_true rfl⟩ ?_
      have hR0 := (Option.some.inj hinv).symm
      subst hR0
      exact hret 17 ls zu3 _ _ _ _ rfl rfl hw (by decide) (by decide) dX9_conclusion_17
def m_X9_madeBy (F : Nat) (RR : Nat → Nat → Int32) (r0 : Nat → Int32) (r2 : Nat → Int32) (r4 : Nat → Int32) (r6 : Nat → Int32) (r7 : Nat → Int32) (r8 : Nat → Int32) (r9 : Nat → Int32) (r10 : Nat → Int32) (r11 : Nat → Int32) (r13 : Nat → Int32) (r14 : Nat → Int32) (r15 : Nat → Int32) (r16 : Nat → Int32) (r18 : Nat → Int32) (r19 : Nat → Int32) (r20 : Nat → Int32) (r22 : Nat → Int32) (r23 : Nat → Int32) (r24 : Nat → Int32) (za1 : Int32) : Option (Nat × Int32 × (Nat → Int32) × (Nat → Int32) × (Nat → Int32) × (Nat → Int32) × (Nat → Int32) × (Nat → Int32) × (Nat → Int32) × (Nat → Int32) × (Nat → Int32) × (Nat → Int32) × (Nat → Int32) × (Nat → Int32) × (Nat → Int32) × (Nat → Int32) × (Nat → Int32) × (Nat → Int32) × (Nat → Int32)) := Option.bind (m_X9_demandTold F RR r0 r2 r4 r6 r7 r8 r9 r10 r11 r13 r14 r15 r16 r18 r19 r20 r22 r23 r24) (fun zu1 => if zu1.1 = 0 then (Option.bind (m_X9_demandArgument F zu1.2.2.1 za1) (fun zu2 => if zu2 = 0 then (Option.bind (m_X0_makerAt F zu1.2.2.2.2.1 za1) (fun zu3 => some (0, zu3, zu1.2.1, zu1.2.2.1, zu1.2.2.2.1, zu1.2.2.2.2.1, zu1.2.2.2.2.2.1, zu1.2.2.2.2.2.2.1, zu1.2.2.2.2.2.2.2.1, zu1.2.2.2.2.2.2.2.2.1, zu1.2.2.2.2.2.2.2.2.2.1, zu1.2.2.2.2.2.2.2.2.2.2.1, zu1.2.2.2.2.2.2.2.2.2.2.2.1, zu1.2.2.2.2.2.2.2.2.2.2.2.2.1, zu1.2.2.2.2.2.2.2.2.2.2.2.2.2.1, zu1.2.2.2.2.2.2.2.2.2.2.2.2.2.2.1, zu1.2.2.2.2.2.2.2.2.2.2.2.2.2.2.2.1, zu1.2.2.2.2.2.2.2.2.2.2.2.2.2.2.2.2.1, zu1.2.2.2.2.2.2.2.2.2.2.2.2.2.2.2.2.2))) else some (zu2, 0, zu1.2.1, zu1.2.2.1, zu1.2.2.2.1, zu1.2.2.2.2.1, zu1.2.2.2.2.2.1, zu1.2.2.2.2.2.2.1, zu1.2.2.2.2.2.2.2.1, zu1.2.2.2.2.2.2.2.2.1, zu1.2.2.2.2.2.2.2.2.2.1, zu1.2.2.2.2.2.2.2.2.2.2.1, zu1.2.2.2.2.2.2.2.2.2.2.2.1, zu1.2.2.2.2.2.2.2.2.2.2.2.2.1, zu1.2.2.2.2.2.2.2.2.2.2.2.2.2.1, zu1.2.2.2.2.2.2.2.2.2.2.2.2.2.2.1, zu1.2.2.2.2.2.2.2.2.2.2.2.2.2.2.2.1, zu1.2.2.2.2.2.2.2.2.2.2.2.2.2.2.2.2.1, zu1.2.2.2.2.2.2.2.2.2.2.2.2.2.2.2.2.2))) else some (zu1.1, 0, zu1.2.1, zu1.2.2.1, zu1.2.2.2.1, zu1.2.2.2.2.1, zu1.2.2.2.2.2.1, zu1.2.2.2.2.2.2.1, zu1.2.2.2.2.2.2.2.1, zu1.2.2.2.2.2.2.2.2.1, zu1.2.2.2.2.2.2.2.2.2.1, zu1.2.2.2.2.2.2.2.2.2.2.1, zu1.2.2.2.2.2.2.2.2.2.2.2.1, zu1.2.2.2.2.2.2.2.2.2.2.2.2.1, zu1.2.2.2.2.2.2.2.2.2.2.2.2.2.1, zu1.2.2.2.2.2.2.2.2.2.2.2.2.2.2.1, zu1.2.2.2.2.2.2.2.2.2.2.2.2.2.2.2.1, zu1.2.2.2.2.2.2.2.2.2.2.2.2.2.2.2.2.1, zu1.2.2.2.2.2.2.2.2.2.2.2.2.2.2.2.2.2))
set_option maxHeartbeats 4000000 in
set_option maxRecDepth 100000 in
theorem c_X9_madeBy {l : Launch} {D : va_G} {cy : Nat → Nat} {g : Nat → Nat} {N : Nat} {X : Nat → Nat → Int32} {RR : Nat → Nat → Int32} {F : Nat} {za1 : Int32} {R0 : Nat × Int32 × (Nat → Int32) × (Nat → Int32) × (Nat → Int32) × (Nat → Int32) × (Nat → Int32) × (Nat → Int32) × (Nat → Int32) × (Nat → Int32) × (Nat → Int32) × (Nat → Int32) × (Nat → Int32) × (Nat → Int32) × (Nat → Int32) × (Nat → Int32) × (Nat → Int32) × (Nat → Int32) × (Nat → Int32)} (hfl : l.stackTraces = false) (hX : rok X RR N) (hinv : m_X9_madeBy F RR (X 0) (X 2) (X 4) (X 6) (X 7) (X 8) (X 9) (X 10) (X 11) (X 13) (X 14) (X 15) (X 16) (X 18) (X 19) (X 20) (X 22) (X 23) (X 24) za1 = some R0) : sXi l D cy yX9_madeBy cX9_madeBy 2 (some .int) 9 10 80 [.ref (g 0), .int za1] g N X R0.1 R0.2.1 (up (up (up (up (up (up (up (up (up (up (up (up (up (up (up (up (up X 0 R0.2.2.1) 6 R0.2.2.2.1) 7 R0.2.2.2.2.1) 8 R0.2.2.2.2.2.1) 9 R0.2.2.2.2.2.2.1) 10 R0.2.2.2.2.2.2.2.1) 11 R0.2.2.2.2.2.2.2.2.1) 13 R0.2.2.2.2.2.2.2.2.2.1) 14 R0.2.2.2.2.2.2.2.2.2.2.1) 15 R0.2.2.2.2.2.2.2.2.2.2.2.1) 16 R0.2.2.2.2.2.2.2.2.2.2.2.2.1) 18 R0.2.2.2.2.2.2.2.2.2.2.2.2.2.1) 19 R0.2.2.2.2.2.2.2.2.2.2.2.2.2.2.1) 20 R0.2.2.2.2.2.2.2.2.2.2.2.2.2.2.2.1) 22 R0.2.2.2.2.2.2.2.2.2.2.2.2.2.2.2.2.1) 23 R0.2.2.2.2.2.2.2.2.2.2.2.2.2.2.2.2.2.1) 24 R0.2.2.2.2.2.2.2.2.2.2.2.2.2.2.2.2.2.2) := by
  refine jXi (by decide) rfl hfl (Nat.le_of_ble_eq_true rfl) rfl ?_
  intro p e R s m args below meth c ls A Q hRe C hw hl hret hthr hout
  subst hRe
  have hx := C.1
  have hb := C.2.1
  have hN := hX.1
  have hl : lv_has ls 2 [(0, .ref (g 0)), (1, .int za1)] := hl
  rw [m_X9_madeBy] at hinv
  refine lv_aload_n hx hb dX9_madeBy_0 rfl (lv_at hl 0 rfl) ?_
  obtain ⟨zu1, hzu1, hinv⟩ := ob hinv
  refine s_vXv (tag := zu1.1) C hw (As := []) bX9_demandTold k408 (k := 0) (q47 hN rfl) (sh_0 g cy _) rfl (c_X9_demandTold (X := X) hfl hX hzu1) rfl rfl dX9_madeBy_1 ⟨rfl, rfl⟩ (by decide) hl.1 (Nat.le_of_ble_eq_true rfl) ⟨Nat.le_of_ble_eq_true rfl, Nat.le_of_ble_eq_true rfl⟩ (fun ce q9 H locs ht hw h1 h2 h3 => ?_) (fun H locs ht hw => ?_)
  · have hinv := oi_f ht hinv
    have hR0 := (Option.some.inj hinv).symm
    subst hR0
    exact hout 1 ls _ H locs _ _ zu1.1 ce q9 ht rfl hw h1 h2 h3 (by decide) (by decide)
  · have hinv := oi_t ht hinv
    refine lv_aload_n hx hb dX9_madeBy_4 rfl (lv_at hl 0 rfl) ?_
    refine lv_iload_n hx hb dX9_madeBy_5 rfl (lv_at hl 1 rfl) ?_
    obtain ⟨zu2, hzu2, hinv⟩ := ob hinv
    refine s_vXv (tag := zu2) C hw (As := [.int za1]) bX9_demandArgument k411 (k := 0) (q47 hN rfl) (sh_0 g cy _) rfl (c_X9_demandArgument (X := (up (up (up (up (up (up (up (up (up (up (up (up (up (up (up (up (up X 0 zu1.2.1) 6 zu1.2.2.1) 7 zu1.2.2.2.1) 8 zu1.2.2.2.2.1) 9 zu1.2.2.2.2.2.1) 10 zu1.2.2.2.2.2.2.1) 11 zu1.2.2.2.2.2.2.2.1) 13 zu1.2.2.2.2.2.2.2.2.1) 14 zu1.2.2.2.2.2.2.2.2.2.1) 15 zu1.2.2.2.2.2.2.2.2.2.2.1) 16 zu1.2.2.2.2.2.2.2.2.2.2.2.1) 18 zu1.2.2.2.2.2.2.2.2.2.2.2.2.1) 19 zu1.2.2.2.2.2.2.2.2.2.2.2.2.2.1) 20 zu1.2.2.2.2.2.2.2.2.2.2.2.2.2.2.1) 22 zu1.2.2.2.2.2.2.2.2.2.2.2.2.2.2.2.1) 23 zu1.2.2.2.2.2.2.2.2.2.2.2.2.2.2.2.2.1) 24 zu1.2.2.2.2.2.2.2.2.2.2.2.2.2.2.2.2.2)) hfl hN hzu2) rfl rfl dX9_madeBy_6 ⟨rfl, rfl⟩ (by decide) hl.1 (Nat.le_of_ble_eq_true rfl) ⟨Nat.le_of_ble_eq_true rfl, Nat.le_of_ble_eq_true rfl⟩ (fun ce q9 H locs ht hw h1 h2 h3 => ?_) (fun H locs ht hw => ?_)
    · have hinv := oi_f ht hinv
      have hR0 := (Option.some.inj hinv).symm
      subst hR0
      exact hout 6 ls _ H locs _ _ zu2 ce q9 ht rfl hw h1 h2 h3 (by decide) (by decide)
    · have hinv := oi_t ht hinv
      refine lv_aload_n hx hb dX9_madeBy_9 rfl (lv_at hl 0 rfl) ?_
      refine w_get C hw (k := 0) (v := .ref (g 6)) (j := 2) (q47 hN rfl) (sh_0 g cy _) rfl (by decide) k319 rfl dX9_madeBy_10 ?_
      refine lv_iload_n hx hb dX9_madeBy_13 rfl (lv_at hl 1 rfl) ?_
      obtain ⟨zu3, hzu3, hinv⟩ := ob hinv
      refine s_vRi (r0 := zu3) C hw (As := [.int za1]) bX0_makerAt k416 (k := 6) (q47 hN rfl) (sh_6 g cy _) rfl (c_X0_makerAt (X := (up (up (up (up (up (up (up (up (up (up (up (up (up (up (up (up (up X 0 zu1.2.1) 6 zu1.2.2.1) 7 zu1.2.2.2.1) 8 zu1.2.2.2.2.1) 9 zu1.2.2.2.2.2.1) 10 zu1.2.2.2.2.2.2.1) 11 zu1.2.2.2.2.2.2.2.1) 13 zu1.2.2.2.2.2.2.2.2.1) 14 zu1.2.2.2.2.2.2.2.2.2.1) 15 zu1.2.2.2.2.2.2.2.2.2.2.1) 16 zu1.2.2.2.2.2.2.2.2.2.2.2.1) 18 zu1.2.2.2.2.2.2.2.2.2.2.2.2.1) 19 zu1.2.2.2.2.2.2.2.2.2.2.2.2.2.1) 20 zu1.2.2.2.2.2.2.2.2.2.2.2.2.2.2.1) 22 zu1.2.2.2.2.2.2.2.2.2.2.2.2.2.2.2.1) 23 zu1.2.2.2.2.2.2.2.2.2.2.2.2.2.2.2.2.1) 24 zu1.2.2.2.2.2.2.2.2.2.2.2.2.2.2.2.2.2)) hfl hN hzu3) rfl rfl dX9_madeBy_14 ⟨rfl, rfl⟩ (by decide) hl.1 (Nat.le_of_ble_eq_true rfl) ⟨Nat.le_of_ble_eq_true rfl, Nat.le_of_ble_eq_true rfl⟩ ?_
      have hR0 := (Option.some.inj hinv).symm
      subst hR0
      exact hret 17 ls zu3 _ _ _ _ rfl rfl hw (by decide) (by decide) dX9_madeBy_17
def m_X9_depth (F : Nat) (RR : Nat → Nat → Int32) (r0 : Nat → Int32) (r2 : Nat → Int32) (r4 : Nat → Int32) (r6 : Nat → Int32) (r7 : Nat → Int32) (r8 : Nat → Int32) (r9 : Nat → Int32) (r10 : Nat → Int32) (r11 : Nat → Int32) (r13 : Nat → Int32) (r14 : Nat → Int32) (r15 : Nat → Int32) (r16 : Nat → Int32) (r18 : Nat → Int32) (r19 : Nat → Int32) (r20 : Nat → Int32) (r22 : Nat → Int32) (r23 : Nat → Int32) (r24 : Nat → Int32) (za1 : Int32) : Option (Nat × Int32 × (Nat → Int32) × (Nat → Int32) × (Nat → Int32) × (Nat → Int32) × (Nat → Int32) × (Nat → Int32) × (Nat → Int32) × (Nat → Int32) × (Nat → Int32) × (Nat → Int32) × (Nat → Int32) × (Nat → Int32) × (Nat → Int32) × (Nat → Int32) × (Nat → Int32) × (Nat → Int32) × (Nat → Int32)) := Option.bind (m_X9_demandTold F RR r0 r2 r4 r6 r7 r8 r9 r10 r11 r13 r14 r15 r16 r18 r19 r20 r22 r23 r24) (fun zu1 => if zu1.1 = 0 then (Option.bind (m_X9_demandArgument F zu1.2.2.1 za1) (fun zu2 => if zu2 = 0 then (Option.bind (m_X0_depthAt F zu1.2.2.2.2.2.1 za1) (fun zu3 => some (0, zu3, zu1.2.1, zu1.2.2.1, zu1.2.2.2.1, zu1.2.2.2.2.1, zu1.2.2.2.2.2.1, zu1.2.2.2.2.2.2.1, zu1.2.2.2.2.2.2.2.1, zu1.2.2.2.2.2.2.2.2.1, zu1.2.2.2.2.2.2.2.2.2.1, zu1.2.2.2.2.2.2.2.2.2.2.1, zu1.2.2.2.2.2.2.2.2.2.2.2.1, zu1.2.2.2.2.2.2.2.2.2.2.2.2.1, zu1.2.2.2.2.2.2.2.2.2.2.2.2.2.1, zu1.2.2.2.2.2.2.2.2.2.2.2.2.2.2.1, zu1.2.2.2.2.2.2.2.2.2.2.2.2.2.2.2.1, zu1.2.2.2.2.2.2.2.2.2.2.2.2.2.2.2.2.1, zu1.2.2.2.2.2.2.2.2.2.2.2.2.2.2.2.2.2))) else some (zu2, 0, zu1.2.1, zu1.2.2.1, zu1.2.2.2.1, zu1.2.2.2.2.1, zu1.2.2.2.2.2.1, zu1.2.2.2.2.2.2.1, zu1.2.2.2.2.2.2.2.1, zu1.2.2.2.2.2.2.2.2.1, zu1.2.2.2.2.2.2.2.2.2.1, zu1.2.2.2.2.2.2.2.2.2.2.1, zu1.2.2.2.2.2.2.2.2.2.2.2.1, zu1.2.2.2.2.2.2.2.2.2.2.2.2.1, zu1.2.2.2.2.2.2.2.2.2.2.2.2.2.1, zu1.2.2.2.2.2.2.2.2.2.2.2.2.2.2.1, zu1.2.2.2.2.2.2.2.2.2.2.2.2.2.2.2.1, zu1.2.2.2.2.2.2.2.2.2.2.2.2.2.2.2.2.1, zu1.2.2.2.2.2.2.2.2.2.2.2.2.2.2.2.2.2))) else some (zu1.1, 0, zu1.2.1, zu1.2.2.1, zu1.2.2.2.1, zu1.2.2.2.2.1, zu1.2.2.2.2.2.1, zu1.2.2.2.2.2.2.1, zu1.2.2.2.2.2.2.2.1, zu1.2.2.2.2.2.2.2.2.1, zu1.2.2.2.2.2.2.2.2.2.1, zu1.2.2.2.2.2.2.2.2.2.2.1, zu1.2.2.2.2.2.2.2.2.2.2.2.1, zu1.2.2.2.2.2.2.2.2.2.2.2.2.1, zu1.2.2.2.2.2.2.2.2.2.2.2.2.2.1, zu1.2.2.2.2.2.2.2.2.2.2.2.2.2.2.1, zu1.2.2.2.2.2.2.2.2.2.2.2.2.2.2.2.1, zu1.2.2.2.2.2.2.2.2.2.2.2.2.2.2.2.2.1, zu1.2.2.2.2.2.2.2.2.2.2.2.2.2.2.2.2.2))
set_option maxHeartbeats 4000000 in
set_option maxRecDepth 100000 in
theorem c_X9_depth {l : Launch} {D : va_G} {cy : Nat → Nat} {g : Nat → Nat} {N : Nat} {X : Nat → Nat → Int32} {RR : Nat → Nat → Int32} {F : Nat} {za1 : Int32} {R0 : Nat × Int32 × (Nat → Int32) × (Nat → Int32) × (Nat → Int32) × (Nat → Int32) × (Nat → Int32) × (Nat → Int32) × (Nat → Int32) × (Nat → Int32) × (Nat → Int32) × (Nat → Int32) × (Nat → Int32) × (Nat → Int32) × (Nat → Int32) × (Nat → Int32) × (Nat → Int32) × (Nat → Int32) × (Nat → Int32)} (hfl : l.stackTraces = false) (hX : rok X RR N) (hinv : m_X9_depth F RR (X 0) (X 2) (X 4) (X 6) (X 7) (X 8) (X 9) (X 10) (X 11) (X 13) (X 14) (X 15) (X 16) (X 18) (X 19) (X 20) (X 22) (X 23) (X 24) za1 = some R0) : sXi l D cy yX9_depth cX9_depth 2 (some .int) 9 10 80 [.ref (g 0), .int za1] g N X R0.1 R0.2.1 (up (up (up (up (up (up (up (up (up (up (up (up (up (up (up (up (up X 0 R0.2.2.1) 6 R0.2.2.2.1) 7 R0.2.2.2.2.1) 8 R0.2.2.2.2.2.1) 9 R0.2.2.2.2.2.2.1) 10 R0.2.2.2.2.2.2.2.1) 11 R0.2.2.2.2.2.2.2.2.1) 13 R0.2.2.2.2.2.2.2.2.2.1) 14 R0.2.2.2.2.2.2.2.2.2.2.1) 15 R0.2.2.2.2.2.2.2.2.2.2.2.1) 16 R0.2.2.2.2.2.2.2.2.2.2.2.2.1) 18 R0.2.2.2.2.2.2.2.2.2.2.2.2.2.1) 19 R0.2.2.2.2.2.2.2.2.2.2.2.2.2.2.1) 20 R0.2.2.2.2.2.2.2.2.2.2.2.2.2.2.2.1) 22 R0.2.2.2.2.2.2.2.2.2.2.2.2.2.2.2.2.1) 23 R0.2.2.2.2.2.2.2.2.2.2.2.2.2.2.2.2.2.1) 24 R0.2.2.2.2.2.2.2.2.2.2.2.2.2.2.2.2.2.2) := by
  refine jXi (by decide) rfl hfl (Nat.le_of_ble_eq_true rfl) rfl ?_
  intro p e R s m args below meth c ls A Q hRe C hw hl hret hthr hout
  subst hRe
  have hx := C.1
  have hb := C.2.1
  have hN := hX.1
  have hl : lv_has ls 2 [(0, .ref (g 0)), (1, .int za1)] := hl
  rw [m_X9_depth] at hinv
  refine lv_aload_n hx hb dX9_depth_0 rfl (lv_at hl 0 rfl) ?_
  obtain ⟨zu1, hzu1, hinv⟩ := ob hinv
  refine s_vXv (tag := zu1.1) C hw (As := []) bX9_demandTold k408 (k := 0) (q47 hN rfl) (sh_0 g cy _) rfl (c_X9_demandTold (X := X) hfl hX hzu1) rfl rfl dX9_depth_1 ⟨rfl, rfl⟩ (by decide) hl.1 (Nat.le_of_ble_eq_true rfl) ⟨Nat.le_of_ble_eq_true rfl, Nat.le_of_ble_eq_true rfl⟩ (fun ce q9 H locs ht hw h1 h2 h3 => ?_) (fun H locs ht hw => ?_)
  · have hinv := oi_f ht hinv
    have hR0 := (Option.some.inj hinv).symm
    subst hR0
    exact hout 1 ls _ H locs _ _ zu1.1 ce q9 ht rfl hw h1 h2 h3 (by decide) (by decide)
  · have hinv := oi_t ht hinv
    refine lv_aload_n hx hb dX9_depth_4 rfl (lv_at hl 0 rfl) ?_
    refine lv_iload_n hx hb dX9_depth_5 rfl (lv_at hl 1 rfl) ?_
    obtain ⟨zu2, hzu2, hinv⟩ := ob hinv
    refine s_vXv (tag := zu2) C hw (As := [.int za1]) bX9_demandArgument k411 (k := 0) (q47 hN rfl) (sh_0 g cy _) rfl (c_X9_demandArgument (X := (up (up (up (up (up (up (up (up (up (up (up (up (up (up (up (up (up X 0 zu1.2.1) 6 zu1.2.2.1) 7 zu1.2.2.2.1) 8 zu1.2.2.2.2.1) 9 zu1.2.2.2.2.2.1) 10 zu1.2.2.2.2.2.2.1) 11 zu1.2.2.2.2.2.2.2.1) 13 zu1.2.2.2.2.2.2.2.2.1) 14 zu1.2.2.2.2.2.2.2.2.2.1) 15 zu1.2.2.2.2.2.2.2.2.2.2.1) 16 zu1.2.2.2.2.2.2.2.2.2.2.2.1) 18 zu1.2.2.2.2.2.2.2.2.2.2.2.2.1) 19 zu1.2.2.2.2.2.2.2.2.2.2.2.2.2.1) 20 zu1.2.2.2.2.2.2.2.2.2.2.2.2.2.2.1) 22 zu1.2.2.2.2.2.2.2.2.2.2.2.2.2.2.2.1) 23 zu1.2.2.2.2.2.2.2.2.2.2.2.2.2.2.2.2.1) 24 zu1.2.2.2.2.2.2.2.2.2.2.2.2.2.2.2.2.2)) hfl hN hzu2) rfl rfl dX9_depth_6 ⟨rfl, rfl⟩ (by decide) hl.1 (Nat.le_of_ble_eq_true rfl) ⟨Nat.le_of_ble_eq_true rfl, Nat.le_of_ble_eq_true rfl⟩ (fun ce q9 H locs ht hw h1 h2 h3 => ?_) (fun H locs ht hw => ?_)
    · have hinv := oi_f ht hinv
      have hR0 := (Option.some.inj hinv).symm
      subst hR0
      exact hout 6 ls _ H locs _ _ zu2 ce q9 ht rfl hw h1 h2 h3 (by decide) (by decide)
    · have hinv := oi_t ht hinv
      refine lv_aload_n hx hb dX9_depth_9 rfl (lv_at hl 0 rfl) ?_
      refine w_get C hw (k := 0) (v := .ref (g 6)) (j := 2) (q47 hN rfl) (sh_0 g cy _) rfl (by decide) k319 rfl dX9_depth_10 ?_
      refine lv_iload_n hx hb dX9_depth_13 rfl (lv_at hl 1 rfl) ?_
      obtain ⟨zu3, hzu3, hinv⟩ := ob hinv
      refine s_vRi (r0 := zu3) C hw (As := [.int za1]) bX0_depthAt k420 (k := 6) (q47 hN rfl) (sh_6 g cy _) rfl (c_X0_depthAt (X := (up (up (up (up (up (up (up (up (up (up (up (up (up (up (up (up (up X 0 zu1.2.1) 6 zu1.2.2.1) 7 zu1.2.2.2.1) 8 zu1.2.2.2.2.1) 9 zu1.2.2.2.2.2.1) 10 zu1.2.2.2.2.2.2.1) 11 zu1.2.2.2.2.2.2.2.1) 13 zu1.2.2.2.2.2.2.2.2.1) 14 zu1.2.2.2.2.2.2.2.2.2.1) 15 zu1.2.2.2.2.2.2.2.2.2.2.1) 16 zu1.2.2.2.2.2.2.2.2.2.2.2.1) 18 zu1.2.2.2.2.2.2.2.2.2.2.2.2.1) 19 zu1.2.2.2.2.2.2.2.2.2.2.2.2.2.1) 20 zu1.2.2.2.2.2.2.2.2.2.2.2.2.2.2.1) 22 zu1.2.2.2.2.2.2.2.2.2.2.2.2.2.2.2.1) 23 zu1.2.2.2.2.2.2.2.2.2.2.2.2.2.2.2.2.1) 24 zu1.2.2.2.2.2.2.2.2.2.2.2.2.2.2.2.2.2)) hfl hN hzu3) rfl rfl dX9_depth_14 ⟨rfl, rfl⟩ (by decide) hl.1 (Nat.le_of_ble_eq_true rfl) ⟨Nat.le_of_ble_eq_true rfl, Nat.le_of_ble_eq_true rfl⟩ ?_
      have hR0 := (Option.some.inj hinv).symm
      subst hR0
      exact hret 17 ls zu3 _ _ _ _ rfl rfl hw (by decide) (by decide) dX9_depth_17
def m_X9_label (F : Nat) (RR : Nat → Nat → Int32) (r0 : Nat → Int32) (r2 : Nat → Int32) (r4 : Nat → Int32) (r6 : Nat → Int32) (r7 : Nat → Int32) (r8 : Nat → Int32) (r9 : Nat → Int32) (r10 : Nat → Int32) (r11 : Nat → Int32) (r13 : Nat → Int32) (r14 : Nat → Int32) (r15 : Nat → Int32) (r16 : Nat → Int32) (r18 : Nat → Int32) (r19 : Nat → Int32) (r20 : Nat → Int32) (r22 : Nat → Int32) (r23 : Nat → Int32) (r24 : Nat → Int32) (za1 : Int32) : Option (Nat × Int32 × (Nat → Int32) × (Nat → Int32) × (Nat → Int32) × (Nat → Int32) × (Nat → Int32) × (Nat → Int32) × (Nat → Int32) × (Nat → Int32) × (Nat → Int32) × (Nat → Int32) × (Nat → Int32) × (Nat → Int32) × (Nat → Int32) × (Nat → Int32) × (Nat → Int32) × (Nat → Int32) × (Nat → Int32)) := Option.bind (m_X9_demandTold F RR r0 r2 r4 r6 r7 r8 r9 r10 r11 r13 r14 r15 r16 r18 r19 r20 r22 r23 r24) (fun zu1 => if zu1.1 = 0 then (Option.bind (m_X9_demandArgument F zu1.2.2.1 za1) (fun zu2 => if zu2 = 0 then (Option.bind (m_X3_labelAt F zu1.2.2.2.2.2.2.2.2.2.1 za1) (fun zu3 => some (0, zu3, zu1.2.1, zu1.2.2.1, zu1.2.2.2.1, zu1.2.2.2.2.1, zu1.2.2.2.2.2.1, zu1.2.2.2.2.2.2.1, zu1.2.2.2.2.2.2.2.1, zu1.2.2.2.2.2.2.2.2.1, zu1.2.2.2.2.2.2.2.2.2.1, zu1.2.2.2.2.2.2.2.2.2.2.1, zu1.2.2.2.2.2.2.2.2.2.2.2.1, zu1.2.2.2.2.2.2.2.2.2.2.2.2.1, zu1.2.2.2.2.2.2.2.2.2.2.2.2.2.1, zu1.2.2.2.2.2.2.2.2.2.2.2.2.2.2.1, zu1.2.2.2.2.2.2.2.2.2.2.2.2.2.2.2.1, zu1.2.2.2.2.2.2.2.2.2.2.2.2.2.2.2.2.1, zu1.2.2.2.2.2.2.2.2.2.2.2.2.2.2.2.2.2))) else some (zu2, 0, zu1.2.1, zu1.2.2.1, zu1.2.2.2.1, zu1.2.2.2.2.1, zu1.2.2.2.2.2.1, zu1.2.2.2.2.2.2.1, zu1.2.2.2.2.2.2.2.1, zu1.2.2.2.2.2.2.2.2.1, zu1.2.2.2.2.2.2.2.2.2.1, zu1.2.2.2.2.2.2.2.2.2.2.1, zu1.2.2.2.2.2.2.2.2.2.2.2.1, zu1.2.2.2.2.2.2.2.2.2.2.2.2.1, zu1.2.2.2.2.2.2.2.2.2.2.2.2.2.1, zu1.2.2.2.2.2.2.2.2.2.2.2.2.2.2.1, zu1.2.2.2.2.2.2.2.2.2.2.2.2.2.2.2.1, zu1.2.2.2.2.2.2.2.2.2.2.2.2.2.2.2.2.1, zu1.2.2.2.2.2.2.2.2.2.2.2.2.2.2.2.2.2))) else some (zu1.1, 0, zu1.2.1, zu1.2.2.1, zu1.2.2.2.1, zu1.2.2.2.2.1, zu1.2.2.2.2.2.1, zu1.2.2.2.2.2.2.1, zu1.2.2.2.2.2.2.2.1, zu1.2.2.2.2.2.2.2.2.1, zu1.2.2.2.2.2.2.2.2.2.1, zu1.2.2.2.2.2.2.2.2.2.2.1, zu1.2.2.2.2.2.2.2.2.2.2.2.1, zu1.2.2.2.2.2.2.2.2.2.2.2.2.1, zu1.2.2.2.2.2.2.2.2.2.2.2.2.2.1, zu1.2.2.2.2.2.2.2.2.2.2.2.2.2.2.1, zu1.2.2.2.2.2.2.2.2.2.2.2.2.2.2.2.1, zu1.2.2.2.2.2.2.2.2.2.2.2.2.2.2.2.2.1, zu1.2.2.2.2.2.2.2.2.2.2.2.2.2.2.2.2.2))
set_option maxHeartbeats 4000000 in
set_option maxRecDepth 100000 in
theorem c_X9_label {l : Launch} {D : va_G} {cy : Nat → Nat} {g : Nat → Nat} {N : Nat} {X : Nat → Nat → Int32} {RR : Nat → Nat → Int32} {F : Nat} {za1 : Int32} {R0 : Nat × Int32 × (Nat → Int32) × (Nat → Int32) × (Nat → Int32) × (Nat → Int32) × (Nat → Int32) × (Nat → Int32) × (Nat → Int32) × (Nat → Int32) × (Nat → Int32) × (Nat → Int32) × (Nat → Int32) × (Nat → Int32) × (Nat → Int32) × (Nat → Int32) × (Nat → Int32) × (Nat → Int32) × (Nat → Int32)} (hfl : l.stackTraces = false) (hX : rok X RR N) (hinv : m_X9_label F RR (X 0) (X 2) (X 4) (X 6) (X 7) (X 8) (X 9) (X 10) (X 11) (X 13) (X 14) (X 15) (X 16) (X 18) (X 19) (X 20) (X 22) (X 23) (X 24) za1 = some R0) : sXi l D cy yX9_label cX9_label 2 (some .int) 9 10 80 [.ref (g 0), .int za1] g N X R0.1 R0.2.1 (up (up (up (up (up (up (up (up (up (up (up (up (up (up (up (up (up X 0 R0.2.2.1) 6 R0.2.2.2.1) 7 R0.2.2.2.2.1) 8 R0.2.2.2.2.2.1) 9 R0.2.2.2.2.2.2.1) 10 R0.2.2.2.2.2.2.2.1) 11 R0.2.2.2.2.2.2.2.2.1) 13 R0.2.2.2.2.2.2.2.2.2.1) 14 R0.2.2.2.2.2.2.2.2.2.2.1) 15 R0.2.2.2.2.2.2.2.2.2.2.2.1) 16 R0.2.2.2.2.2.2.2.2.2.2.2.2.1) 18 R0.2.2.2.2.2.2.2.2.2.2.2.2.2.1) 19 R0.2.2.2.2.2.2.2.2.2.2.2.2.2.2.1) 20 R0.2.2.2.2.2.2.2.2.2.2.2.2.2.2.2.1) 22 R0.2.2.2.2.2.2.2.2.2.2.2.2.2.2.2.2.1) 23 R0.2.2.2.2.2.2.2.2.2.2.2.2.2.2.2.2.2.1) 24 R0.2.2.2.2.2.2.2.2.2.2.2.2.2.2.2.2.2.2) := by
  refine jXi (by decide) rfl hfl (Nat.le_of_ble_eq_true rfl) rfl ?_
  intro p e R s m args below meth c ls A Q hRe C hw hl hret hthr hout
  subst hRe
  have hx := C.1
  have hb := C.2.1
  have hN := hX.1
  have hl : lv_has ls 2 [(0, .ref (g 0)), (1, .int za1)] := hl
  rw [m_X9_label] at hinv
  refine lv_aload_n hx hb dX9_label_0 rfl (lv_at hl 0 rfl) ?_
  obtain ⟨zu1, hzu1, hinv⟩ := ob hinv
  refine s_vXv (tag := zu1.1) C hw (As := []) bX9_demandTold k408 (k := 0) (q47 hN rfl) (sh_0 g cy _) rfl (c_X9_demandTold (X := X) hfl hX hzu1) rfl rfl dX9_label_1 ⟨rfl, rfl⟩ (by decide) hl.1 (Nat.le_of_ble_eq_true rfl) ⟨Nat.le_of_ble_eq_true rfl, Nat.le_of_ble_eq_true rfl⟩ (fun ce q9 H locs ht hw h1 h2 h3 => ?_) (fun H locs ht hw => ?_)
  · have hinv := oi_f ht hinv
    have hR0 := (Option.some.inj hinv).symm
    subst hR0
    exact hout 1 ls _ H locs _ _ zu1.1 ce q9 ht rfl hw h1 h2 h3 (by decide) (by decide)
  · have hinv := oi_t ht hinv
    refine lv_aload_n hx hb dX9_label_4 rfl (lv_at hl 0 rfl) ?_
    refine lv_iload_n hx hb dX9_label_5 rfl (lv_at hl 1 rfl) ?_
    obtain ⟨zu2, hzu2, hinv⟩ := ob hinv
    refine s_vXv (tag := zu2) C hw (As := [.int za1]) bX9_demandArgument k411 (k := 0) (q47 hN rfl) (sh_0 g cy _) rfl (c_X9_demandArgument (X := (up (up (up (up (up (up (up (up (up (up (up (up (up (up (up (up (up X 0 zu1.2.1) 6 zu1.2.2.1) 7 zu1.2.2.2.1) 8 zu1.2.2.2.2.1) 9 zu1.2.2.2.2.2.1) 10 zu1.2.2.2.2.2.2.1) 11 zu1.2.2.2.2.2.2.2.1) 13 zu1.2.2.2.2.2.2.2.2.1) 14 zu1.2.2.2.2.2.2.2.2.2.1) 15 zu1.2.2.2.2.2.2.2.2.2.2.1) 16 zu1.2.2.2.2.2.2.2.2.2.2.2.1) 18 zu1.2.2.2.2.2.2.2.2.2.2.2.2.1) 19 zu1.2.2.2.2.2.2.2.2.2.2.2.2.2.1) 20 zu1.2.2.2.2.2.2.2.2.2.2.2.2.2.2.1) 22 zu1.2.2.2.2.2.2.2.2.2.2.2.2.2.2.2.1) 23 zu1.2.2.2.2.2.2.2.2.2.2.2.2.2.2.2.2.1) 24 zu1.2.2.2.2.2.2.2.2.2.2.2.2.2.2.2.2.2)) hfl hN hzu2) rfl rfl dX9_label_6 ⟨rfl, rfl⟩ (by decide) hl.1 (Nat.le_of_ble_eq_true rfl) ⟨Nat.le_of_ble_eq_true rfl, Nat.le_of_ble_eq_true rfl⟩ (fun ce q9 H locs ht hw h1 h2 h3 => ?_) (fun H locs ht hw => ?_)
    · have hinv := oi_f ht hinv
      have hR0 := (Option.some.inj hinv).symm
      subst hR0
      exact hout 6 ls _ H locs _ _ zu2 ce q9 ht rfl hw h1 h2 h3 (by decide) (by decide)
    · have hinv := oi_t ht hinv
      refine lv_aload_n hx hb dX9_label_9 rfl (lv_at hl 0 rfl) ?_
      refine w_get C hw (k := 0) (v := .ref (g 14)) (j := 4) (q47 hN rfl) (sh_0 g cy _) rfl (by decide) k325 rfl dX9_label_10 ?_
      refine lv_iload_n hx hb dX9_label_13 rfl (lv_at hl 1 rfl) ?_
      obtain ⟨zu3, hzu3, hinv⟩ := ob hinv
      refine s_vRi (r0 := zu3) C hw (As := [.int za1]) bX3_labelAt k424 (k := 14) (q47 hN rfl) (sh_14 g cy _) rfl (c_X3_labelAt (X := (up (up (up (up (up (up (up (up (up (up (up (up (up (up (up (up (up X 0 zu1.2.1) 6 zu1.2.2.1) 7 zu1.2.2.2.1) 8 zu1.2.2.2.2.1) 9 zu1.2.2.2.2.2.1) 10 zu1.2.2.2.2.2.2.1) 11 zu1.2.2.2.2.2.2.2.1) 13 zu1.2.2.2.2.2.2.2.2.1) 14 zu1.2.2.2.2.2.2.2.2.2.1) 15 zu1.2.2.2.2.2.2.2.2.2.2.1) 16 zu1.2.2.2.2.2.2.2.2.2.2.2.1) 18 zu1.2.2.2.2.2.2.2.2.2.2.2.2.1) 19 zu1.2.2.2.2.2.2.2.2.2.2.2.2.2.1) 20 zu1.2.2.2.2.2.2.2.2.2.2.2.2.2.2.1) 22 zu1.2.2.2.2.2.2.2.2.2.2.2.2.2.2.2.1) 23 zu1.2.2.2.2.2.2.2.2.2.2.2.2.2.2.2.2.1) 24 zu1.2.2.2.2.2.2.2.2.2.2.2.2.2.2.2.2.2)) hfl hN hzu3) rfl rfl dX9_label_14 ⟨rfl, rfl⟩ (by decide) hl.1 (Nat.le_of_ble_eq_true rfl) ⟨Nat.le_of_ble_eq_true rfl, Nat.le_of_ble_eq_true rfl⟩ ?_
      have hR0 := (Option.some.inj hinv).symm
      subst hR0
      exact hret 17 ls zu3 _ _ _ _ rfl rfl hw (by decide) (by decide) dX9_label_17
def m_X9_round (F : Nat) (RR : Nat → Nat → Int32) (r0 : Nat → Int32) (r2 : Nat → Int32) (r4 : Nat → Int32) (r6 : Nat → Int32) (r7 : Nat → Int32) (r8 : Nat → Int32) (r9 : Nat → Int32) (r10 : Nat → Int32) (r11 : Nat → Int32) (r13 : Nat → Int32) (r14 : Nat → Int32) (r15 : Nat → Int32) (r16 : Nat → Int32) (r18 : Nat → Int32) (r19 : Nat → Int32) (r20 : Nat → Int32) (r22 : Nat → Int32) (r23 : Nat → Int32) (r24 : Nat → Int32) (za1 : Int32) : Option (Nat × Int32 × (Nat → Int32) × (Nat → Int32) × (Nat → Int32) × (Nat → Int32) × (Nat → Int32) × (Nat → Int32) × (Nat → Int32) × (Nat → Int32) × (Nat → Int32) × (Nat → Int32) × (Nat → Int32) × (Nat → Int32) × (Nat → Int32) × (Nat → Int32) × (Nat → Int32) × (Nat → Int32) × (Nat → Int32)) := Option.bind (m_X9_demandTold F RR r0 r2 r4 r6 r7 r8 r9 r10 r11 r13 r14 r15 r16 r18 r19 r20 r22 r23 r24) (fun zu1 => if zu1.1 = 0 then (Option.bind (m_X9_demandArgument F zu1.2.2.1 za1) (fun zu2 => if zu2 = 0 then (Option.bind (m_X3_roundAt F zu1.2.2.2.2.2.2.2.2.2.2.1 za1) (fun zu3 => some (0, zu3, zu1.2.1, zu1.2.2.1, zu1.2.2.2.1, zu1.2.2.2.2.1, zu1.2.2.2.2.2.1, zu1.2.2.2.2.2.2.1, zu1.2.2.2.2.2.2.2.1, zu1.2.2.2.2.2.2.2.2.1, zu1.2.2.2.2.2.2.2.2.2.1, zu1.2.2.2.2.2.2.2.2.2.2.1, zu1.2.2.2.2.2.2.2.2.2.2.2.1, zu1.2.2.2.2.2.2.2.2.2.2.2.2.1, zu1.2.2.2.2.2.2.2.2.2.2.2.2.2.1, zu1.2.2.2.2.2.2.2.2.2.2.2.2.2.2.1, zu1.2.2.2.2.2.2.2.2.2.2.2.2.2.2.2.1, zu1.2.2.2.2.2.2.2.2.2.2.2.2.2.2.2.2.1, zu1.2.2.2.2.2.2.2.2.2.2.2.2.2.2.2.2.2))) else some (zu2, 0, zu1.2.1, zu1.2.2.1, zu1.2.2.2.1, zu1.2.2.2.2.1, zu1.2.2.2.2.2.1, zu1.2.2.2.2.2.2.1, zu1.2.2.2.2.2.2.2.1, zu1.2.2.2.2.2.2.2.2.1, zu1.2.2.2.2.2.2.2.2.2.1, zu1.2.2.2.2.2.2.2.2.2.2.1, zu1.2.2.2.2.2.2.2.2.2.2.2.1, zu1.2.2.2.2.2.2.2.2.2.2.2.2.1, zu1.2.2.2.2.2.2.2.2.2.2.2.2.2.1, zu1.2.2.2.2.2.2.2.2.2.2.2.2.2.2.1, zu1.2.2.2.2.2.2.2.2.2.2.2.2.2.2.2.1, zu1.2.2.2.2.2.2.2.2.2.2.2.2.2.2.2.2.1, zu1.2.2.2.2.2.2.2.2.2.2.2.2.2.2.2.2.2))) else some (zu1.1, 0, zu1.2.1, zu1.2.2.1, zu1.2.2.2.1, zu1.2.2.2.2.1, zu1.2.2.2.2.2.1, zu1.2.2.2.2.2.2.1, zu1.2.2.2.2.2.2.2.1, zu1.2.2.2.2.2.2.2.2.1, zu1.2.2.2.2.2.2.2.2.2.1, zu1.2.2.2.2.2.2.2.2.2.2.1, zu1.2.2.2.2.2.2.2.2.2.2.2.1, zu1.2.2.2.2.2.2.2.2.2.2.2.2.1, zu1.2.2.2.2.2.2.2.2.2.2.2.2.2.1, zu1.2.2.2.2.2.2.2.2.2.2.2.2.2.2.1, zu1.2.2.2.2.2.2.2.2.2.2.2.2.2.2.2.1, zu1.2.2.2.2.2.2.2.2.2.2.2.2.2.2.2.2.1, zu1.2.2.2.2.2.2.2.2.2.2.2.2.2.2.2.2.2))
set_option maxHeartbeats 4000000 in
set_option maxRecDepth 100000 in
theorem c_X9_round {l : Launch} {D : va_G} {cy : Nat → Nat} {g : Nat → Nat} {N : Nat} {X : Nat → Nat → Int32} {RR : Nat → Nat → Int32} {F : Nat} {za1 : Int32} {R0 : Nat × Int32 × (Nat → Int32) × (Nat → Int32) × (Nat → Int32) × (Nat → Int32) × (Nat → Int32) × (Nat → Int32) × (Nat → Int32) × (Nat → Int32) × (Nat → Int32) × (Nat → Int32) × (Nat → Int32) × (Nat → Int32) × (Nat → Int32) × (Nat → Int32) × (Nat → Int32) × (Nat → Int32) × (Nat → Int32)} (hfl : l.stackTraces = false) (hX : rok X RR N) (hinv : m_X9_round F RR (X 0) (X 2) (X 4) (X 6) (X 7) (X 8) (X 9) (X 10) (X 11) (X 13) (X 14) (X 15) (X 16) (X 18) (X 19) (X 20) (X 22) (X 23) (X 24) za1 = some R0) : sXi l D cy yX9_round cX9_round 2 (some .int) 9 10 80 [.ref (g 0), .int za1] g N X R0.1 R0.2.1 (up (up (up (up (up (up (up (up (up (up (up (up (up (up (up (up (up X 0 R0.2.2.1) 6 R0.2.2.2.1) 7 R0.2.2.2.2.1) 8 R0.2.2.2.2.2.1) 9 R0.2.2.2.2.2.2.1) 10 R0.2.2.2.2.2.2.2.1) 11 R0.2.2.2.2.2.2.2.2.1) 13 R0.2.2.2.2.2.2.2.2.2.1) 14 R0.2.2.2.2.2.2.2.2.2.2.1) 15 R0.2.2.2.2.2.2.2.2.2.2.2.1) 16 R0.2.2.2.2.2.2.2.2.2.2.2.2.1) 18 R0.2.2.2.2.2.2.2.2.2.2.2.2.2.1) 19 R0.2.2.2.2.2.2.2.2.2.2.2.2.2.2.1) 20 R0.2.2.2.2.2.2.2.2.2.2.2.2.2.2.2.1) 22 R0.2.2.2.2.2.2.2.2.2.2.2.2.2.2.2.2.1) 23 R0.2.2.2.2.2.2.2.2.2.2.2.2.2.2.2.2.2.1) 24 R0.2.2.2.2.2.2.2.2.2.2.2.2.2.2.2.2.2.2) := by
  refine jXi (by decide) rfl hfl (Nat.le_of_ble_eq_true rfl) rfl ?_
  intro p e R s m args below meth c ls A Q hRe C hw hl hret hthr hout
  subst hRe
  have hx := C.1
  have hb := C.2.1
  have hN := hX.1
  have hl : lv_has ls 2 [(0, .ref (g 0)), (1, .int za1)] := hl
  rw [m_X9_round] at hinv
  refine lv_aload_n hx hb dX9_round_0 rfl (lv_at hl 0 rfl) ?_
  obtain ⟨zu1, hzu1, hinv⟩ := ob hinv
  refine s_vXv (tag := zu1.1) C hw (As := []) bX9_demandTold k408 (k := 0) (q47 hN rfl) (sh_0 g cy _) rfl (c_X9_demandTold (X := X) hfl hX hzu1) rfl rfl dX9_round_1 ⟨rfl, rfl⟩ (by decide) hl.1 (Nat.le_of_ble_eq_true rfl) ⟨Nat.le_of_ble_eq_true rfl, Nat.le_of_ble_eq_true rfl⟩ (fun ce q9 H locs ht hw h1 h2 h3 => ?_) (fun H locs ht hw => ?_)
  · have hinv := oi_f ht hinv
    have hR0 := (Option.some.inj hinv).symm
    subst hR0
    exact hout 1 ls _ H locs _ _ zu1.1 ce q9 ht rfl hw h1 h2 h3 (by decide) (by decide)
  · have hinv := oi_t ht hinv
    refine lv_aload_n hx hb dX9_round_4 rfl (lv_at hl 0 rfl) ?_
    refine lv_iload_n hx hb dX9_round_5 rfl (lv_at hl 1 rfl) ?_
    obtain ⟨zu2, hzu2, hinv⟩ := ob hinv
    refine s_vXv (tag := zu2) C hw (As := [.int za1]) bX9_demandArgument k411 (k := 0) (q47 hN rfl) (sh_0 g cy _) rfl (c_X9_demandArgument (X := (up (up (up (up (up (up (up (up (up (up (up (up (up (up (up (up (up X 0 zu1.2.1) 6 zu1.2.2.1) 7 zu1.2.2.2.1) 8 zu1.2.2.2.2.1) 9 zu1.2.2.2.2.2.1) 10 zu1.2.2.2.2.2.2.1) 11 zu1.2.2.2.2.2.2.2.1) 13 zu1.2.2.2.2.2.2.2.2.1) 14 zu1.2.2.2.2.2.2.2.2.2.1) 15 zu1.2.2.2.2.2.2.2.2.2.2.1) 16 zu1.2.2.2.2.2.2.2.2.2.2.2.1) 18 zu1.2.2.2.2.2.2.2.2.2.2.2.2.1) 19 zu1.2.2.2.2.2.2.2.2.2.2.2.2.2.1) 20 zu1.2.2.2.2.2.2.2.2.2.2.2.2.2.2.1) 22 zu1.2.2.2.2.2.2.2.2.2.2.2.2.2.2.2.1) 23 zu1.2.2.2.2.2.2.2.2.2.2.2.2.2.2.2.2.1) 24 zu1.2.2.2.2.2.2.2.2.2.2.2.2.2.2.2.2.2)) hfl hN hzu2) rfl rfl dX9_round_6 ⟨rfl, rfl⟩ (by decide) hl.1 (Nat.le_of_ble_eq_true rfl) ⟨Nat.le_of_ble_eq_true rfl, Nat.le_of_ble_eq_true rfl⟩ (fun ce q9 H locs ht hw h1 h2 h3 => ?_) (fun H locs ht hw => ?_)
    · have hinv := oi_f ht hinv
      have hR0 := (Option.some.inj hinv).symm
      subst hR0
      exact hout 6 ls _ H locs _ _ zu2 ce q9 ht rfl hw h1 h2 h3 (by decide) (by decide)
    · have hinv := oi_t ht hinv
      refine lv_aload_n hx hb dX9_round_9 rfl (lv_at hl 0 rfl) ?_
      refine w_get C hw (k := 0) (v := .ref (g 14)) (j := 4) (q47 hN rfl) (sh_0 g cy _) rfl (by decide) k325 rfl dX9_round_10 ?_
      refine lv_iload_n hx hb dX9_round_13 rfl (lv_at hl 1 rfl) ?_
      obtain ⟨zu3, hzu3, hinv⟩ := ob hinv
      refine s_vRi (r0 := zu3) C hw (As := [.int za1]) bX3_roundAt k426 (k := 14) (q47 hN rfl) (sh_14 g cy _) rfl (c_X3_roundAt (X := (up (up (up (up (up (up (up (up (up (up (up (up (up (up (up (up (up X 0 zu1.2.1) 6 zu1.2.2.1) 7 zu1.2.2.2.1) 8 zu1.2.2.2.2.1) 9 zu1.2.2.2.2.2.1) 10 zu1.2.2.2.2.2.2.1) 11 zu1.2.2.2.2.2.2.2.1) 13 zu1.2.2.2.2.2.2.2.2.1) 14 zu1.2.2.2.2.2.2.2.2.2.1) 15 zu1.2.2.2.2.2.2.2.2.2.2.1) 16 zu1.2.2.2.2.2.2.2.2.2.2.2.1) 18 zu1.2.2.2.2.2.2.2.2.2.2.2.2.1) 19 zu1.2.2.2.2.2.2.2.2.2.2.2.2.2.1) 20 zu1.2.2.2.2.2.2.2.2.2.2.2.2.2.2.1) 22 zu1.2.2.2.2.2.2.2.2.2.2.2.2.2.2.2.1) 23 zu1.2.2.2.2.2.2.2.2.2.2.2.2.2.2.2.2.1) 24 zu1.2.2.2.2.2.2.2.2.2.2.2.2.2.2.2.2.2)) hfl hN hzu3) rfl rfl dX9_round_14 ⟨rfl, rfl⟩ (by decide) hl.1 (Nat.le_of_ble_eq_true rfl) ⟨Nat.le_of_ble_eq_true rfl, Nat.le_of_ble_eq_true rfl⟩ ?_
      have hR0 := (Option.some.inj hinv).symm
      subst hR0
      exact hret 17 ls zu3 _ _ _ _ rfl rfl hw (by decide) (by decide) dX9_round_17
def m_X9_part (F : Nat) (RR : Nat → Nat → Int32) (r0 : Nat → Int32) (r2 : Nat → Int32) (r4 : Nat → Int32) (r6 : Nat → Int32) (r7 : Nat → Int32) (r8 : Nat → Int32) (r9 : Nat → Int32) (r10 : Nat → Int32) (r11 : Nat → Int32) (r13 : Nat → Int32) (r14 : Nat → Int32) (r15 : Nat → Int32) (r16 : Nat → Int32) (r18 : Nat → Int32) (r19 : Nat → Int32) (r20 : Nat → Int32) (r22 : Nat → Int32) (r23 : Nat → Int32) (r24 : Nat → Int32) (za1 : Int32) (za2 : Int32) : Option (Nat × Int32 × (Nat → Int32) × (Nat → Int32) × (Nat → Int32) × (Nat → Int32) × (Nat → Int32) × (Nat → Int32) × (Nat → Int32) × (Nat → Int32) × (Nat → Int32) × (Nat → Int32) × (Nat → Int32) × (Nat → Int32) × (Nat → Int32) × (Nat → Int32) × (Nat → Int32) × (Nat → Int32) × (Nat → Int32)) := Option.bind (m_X9_demandTold F RR r0 r2 r4 r6 r7 r8 r9 r10 r11 r13 r14 r15 r16 r18 r19 r20 r22 r23 r24) (fun zu1 => if zu1.1 = 0 then (Option.bind (m_X9_demandArgument F zu1.2.2.1 za1) (fun zu2 => if zu2 = 0 then (Option.bind (m_X0_partAt F zu1.2.2.2.2.2.2.1 za1 za2) (fun zu3 => if zu3 = (-1) then (some (3, 0, zu1.2.1, zu1.2.2.1, zu1.2.2.2.1, zu1.2.2.2.2.1, zu1.2.2.2.2.2.1, zu1.2.2.2.2.2.2.1, zu1.2.2.2.2.2.2.2.1, zu1.2.2.2.2.2.2.2.2.1, zu1.2.2.2.2.2.2.2.2.2.1, zu1.2.2.2.2.2.2.2.2.2.2.1, zu1.2.2.2.2.2.2.2.2.2.2.2.1, zu1.2.2.2.2.2.2.2.2.2.2.2.2.1, zu1.2.2.2.2.2.2.2.2.2.2.2.2.2.1, zu1.2.2.2.2.2.2.2.2.2.2.2.2.2.2.1, zu1.2.2.2.2.2.2.2.2.2.2.2.2.2.2.2.1, zu1.2.2.2.2.2.2.2.2.2.2.2.2.2.2.2.2.1, zu1.2.2.2.2.2.2.2.2.2.2.2.2.2.2.2.2.2)) else (some (0, zu3, zu1.2.1, zu1.2.2.1, zu1.2.2.2.1, zu1.2.2.2.2.1, zu1.2.2.2.2.2.1, zu1.2.2.2.2.2.2.1, zu1.2.2.2.2.2.2.2.1, zu1.2.2.2.2.2.2.2.2.1, zu1.2.2.2.2.2.2.2.2.2.1, zu1.2.2.2.2.2.2.2.2.2.2.1, zu1.2.2.2.2.2.2.2.2.2.2.2.1, zu1.2.2.2.2.2.2.2.2.2.2.2.2.1, zu1.2.2.2.2.2.2.2.2.2.2.2.2.2.1, zu1.2.2.2.2.2.2.2.2.2.2.2.2.2.2.1, zu1.2.2.2.2.2.2.2.2.2.2.2.2.2.2.2.1, zu1.2.2.2.2.2.2.2.2.2.2.2.2.2.2.2.2.1, zu1.2.2.2.2.2.2.2.2.2.2.2.2.2.2.2.2.2)))) else some (zu2, 0, zu1.2.1, zu1.2.2.1, zu1.2.2.2.1, zu1.2.2.2.2.1, zu1.2.2.2.2.2.1, zu1.2.2.2.2.2.2.1, zu1.2.2.2.2.2.2.2.1, zu1.2.2.2.2.2.2.2.2.1, zu1.2.2.2.2.2.2.2.2.2.1, zu1.2.2.2.2.2.2.2.2.2.2.1, zu1.2.2.2.2.2.2.2.2.2.2.2.1, zu1.2.2.2.2.2.2.2.2.2.2.2.2.1, zu1.2.2.2.2.2.2.2.2.2.2.2.2.2.1, zu1.2.2.2.2.2.2.2.2.2.2.2.2.2.2.1, zu1.2.2.2.2.2.2.2.2.2.2.2.2.2.2.2.1, zu1.2.2.2.2.2.2.2.2.2.2.2.2.2.2.2.2.1, zu1.2.2.2.2.2.2.2.2.2.2.2.2.2.2.2.2.2))) else some (zu1.1, 0, zu1.2.1, zu1.2.2.1, zu1.2.2.2.1, zu1.2.2.2.2.1, zu1.2.2.2.2.2.1, zu1.2.2.2.2.2.2.1, zu1.2.2.2.2.2.2.2.1, zu1.2.2.2.2.2.2.2.2.1, zu1.2.2.2.2.2.2.2.2.2.1, zu1.2.2.2.2.2.2.2.2.2.2.1, zu1.2.2.2.2.2.2.2.2.2.2.2.1, zu1.2.2.2.2.2.2.2.2.2.2.2.2.1, zu1.2.2.2.2.2.2.2.2.2.2.2.2.2.1, zu1.2.2.2.2.2.2.2.2.2.2.2.2.2.2.1, zu1.2.2.2.2.2.2.2.2.2.2.2.2.2.2.2.1, zu1.2.2.2.2.2.2.2.2.2.2.2.2.2.2.2.2.1, zu1.2.2.2.2.2.2.2.2.2.2.2.2.2.2.2.2.2))
set_option maxHeartbeats 4000000 in
set_option maxRecDepth 100000 in
theorem c_X9_part {l : Launch} {D : va_G} {cy : Nat → Nat} {g : Nat → Nat} {N : Nat} {X : Nat → Nat → Int32} {RR : Nat → Nat → Int32} {F : Nat} {za1 : Int32} {za2 : Int32} {R0 : Nat × Int32 × (Nat → Int32) × (Nat → Int32) × (Nat → Int32) × (Nat → Int32) × (Nat → Int32) × (Nat → Int32) × (Nat → Int32) × (Nat → Int32) × (Nat → Int32) × (Nat → Int32) × (Nat → Int32) × (Nat → Int32) × (Nat → Int32) × (Nat → Int32) × (Nat → Int32) × (Nat → Int32) × (Nat → Int32)} (hfl : l.stackTraces = false) (hX : rok X RR N) (hinv : m_X9_part F RR (X 0) (X 2) (X 4) (X 6) (X 7) (X 8) (X 9) (X 10) (X 11) (X 13) (X 14) (X 15) (X 16) (X 18) (X 19) (X 20) (X 22) (X 23) (X 24) za1 za2 = some R0) : sXi l D cy yX9_part cX9_part 4 (some .int) 9 10 80 [.ref (g 0), .int za1, .int za2] g N X R0.1 R0.2.1 (up (up (up (up (up (up (up (up (up (up (up (up (up (up (up (up (up X 0 R0.2.2.1) 6 R0.2.2.2.1) 7 R0.2.2.2.2.1) 8 R0.2.2.2.2.2.1) 9 R0.2.2.2.2.2.2.1) 10 R0.2.2.2.2.2.2.2.1) 11 R0.2.2.2.2.2.2.2.2.1) 13 R0.2.2.2.2.2.2.2.2.2.1) 14 R0.2.2.2.2.2.2.2.2.2.2.1) 15 R0.2.2.2.2.2.2.2.2.2.2.2.1) 16 R0.2.2.2.2.2.2.2.2.2.2.2.2.1) 18 R0.2.2.2.2.2.2.2.2.2.2.2.2.2.1) 19 R0.2.2.2.2.2.2.2.2.2.2.2.2.2.2.1) 20 R0.2.2.2.2.2.2.2.2.2.2.2.2.2.2.2.1) 22 R0.2.2.2.2.2.2.2.2.2.2.2.2.2.2.2.2.1) 23 R0.2.2.2.2.2.2.2.2.2.2.2.2.2.2.2.2.2.1) 24 R0.2.2.2.2.2.2.2.2.2.2.2.2.2.2.2.2.2.2) := by
  refine jXi (by decide) rfl hfl (Nat.le_of_ble_eq_true rfl) rfl ?_
  intro p e R s m args below meth c ls A Q hRe C hw hl hret hthr hout
  subst hRe
  have hx := C.1
  have hb := C.2.1
  have hN := hX.1
  have hl : lv_has ls 4 [(0, .ref (g 0)), (1, .int za1), (2, .int za2)] := hl
  rw [m_X9_part] at hinv
  refine lv_aload_n hx hb dX9_part_0 rfl (lv_at hl 0 rfl) ?_
  obtain ⟨zu1, hzu1, hinv⟩ := ob hinv
  refine s_vXv (tag := zu1.1) C hw (As := []) bX9_demandTold k408 (k := 0) (q47 hN rfl) (sh_0 g cy _) rfl (c_X9_demandTold (X := X) hfl hX hzu1) rfl rfl dX9_part_1 ⟨rfl, rfl⟩ (by decide) hl.1 (Nat.le_of_ble_eq_true rfl) ⟨Nat.le_of_ble_eq_true rfl, Nat.le_of_ble_eq_true rfl⟩ (fun ce q9 H locs ht hw h1 h2 h3 => ?_) (fun H locs ht hw => ?_)
  · have hinv := oi_f ht hinv
    have hR0 := (Option.some.inj hinv).symm
    subst hR0
    exact hout 1 ls _ H locs _ _ zu1.1 ce q9 ht rfl hw h1 h2 h3 (by decide) (by decide)
  · have hinv := oi_t ht hinv
    refine lv_aload_n hx hb dX9_part_4 rfl (lv_at hl 0 rfl) ?_
    refine lv_iload_n hx hb dX9_part_5 rfl (lv_at hl 1 rfl) ?_
    obtain ⟨zu2, hzu2, hinv⟩ := ob hinv
    refine s_vXv (tag := zu2) C hw (As := [.int za1]) bX9_demandArgument k411 (k := 0) (q47 hN rfl) (sh_0 g cy _) rfl (c_X9_demandArgument (X := (up (up (up (up (up (up (up (up (up (up (up (up (up (up (up (up (up X 0 zu1.2.1) 6 zu1.2.2.1) 7 zu1.2.2.2.1) 8 zu1.2.2.2.2.1) 9 zu1.2.2.2.2.2.1) 10 zu1.2.2.2.2.2.2.1) 11 zu1.2.2.2.2.2.2.2.1) 13 zu1.2.2.2.2.2.2.2.2.1) 14 zu1.2.2.2.2.2.2.2.2.2.1) 15 zu1.2.2.2.2.2.2.2.2.2.2.1) 16 zu1.2.2.2.2.2.2.2.2.2.2.2.1) 18 zu1.2.2.2.2.2.2.2.2.2.2.2.2.1) 19 zu1.2.2.2.2.2.2.2.2.2.2.2.2.2.1) 20 zu1.2.2.2.2.2.2.2.2.2.2.2.2.2.2.1) 22 zu1.2.2.2.2.2.2.2.2.2.2.2.2.2.2.2.1) 23 zu1.2.2.2.2.2.2.2.2.2.2.2.2.2.2.2.2.1) 24 zu1.2.2.2.2.2.2.2.2.2.2.2.2.2.2.2.2.2)) hfl hN hzu2) rfl rfl dX9_part_6 ⟨rfl, rfl⟩ (by decide) hl.1 (Nat.le_of_ble_eq_true rfl) ⟨Nat.le_of_ble_eq_true rfl, Nat.le_of_ble_eq_true rfl⟩ (fun ce q9 H locs ht hw h1 h2 h3 => ?_) (fun H locs ht hw => ?_)
    · have hinv := oi_f ht hinv
      have hR0 := (Option.some.inj hinv).symm
      subst hR0
      exact hout 6 ls _ H locs _ _ zu2 ce q9 ht rfl hw h1 h2 h3 (by decide) (by decide)
    · have hinv := oi_t ht hinv
      refine lv_aload_n hx hb dX9_part_9 rfl (lv_at hl 0 rfl) ?_
      refine w_get C hw (k := 0) (v := .ref (g 6)) (j := 2) (q47 hN rfl) (sh_0 g cy _) rfl (by decide) k319 rfl dX9_part_10 ?_
      refine lv_iload_n hx hb dX9_part_13 rfl (lv_at hl 1 rfl) ?_
      refine lv_iload_n hx hb dX9_part_14 rfl (lv_at hl 2 rfl) ?_
      obtain ⟨zu3, hzu3, hinv⟩ := ob hinv
      refine s_vRi (r0 := zu3) C hw (As := [.int za1, .int za2]) bX0_partAt k418 (k := 6) (q47 hN rfl) (sh_6 g cy _) rfl (c_X0_partAt (X := (up (up (up (up (up (up (up (up (up (up (up (up (up (up (up (up (up X 0 zu1.2.1) 6 zu1.2.2.1) 7 zu1.2.2.2.1) 8 zu1.2.2.2.2.1) 9 zu1.2.2.2.2.2.1) 10 zu1.2.2.2.2.2.2.1) 11 zu1.2.2.2.2.2.2.2.1) 13 zu1.2.2.2.2.2.2.2.2.1) 14 zu1.2.2.2.2.2.2.2.2.2.1) 15 zu1.2.2.2.2.2.2.2.2.2.2.1) 16 zu1.2.2.2.2.2.2.2.2.2.2.2.1) 18 zu1.2.2.2.2.2.2.2.2.2.2.2.2.1) 19 zu1.2.2.2.2.2.2.2.2.2.2.2.2.2.1) 20 zu1.2.2.2.2.2.2.2.2.2.2.2.2.2.2.1) 22 zu1.2.2.2.2.2.2.2.2.2.2.2.2.2.2.2.1) 23 zu1.2.2.2.2.2.2.2.2.2.2.2.2.2.2.2.2.1) 24 zu1.2.2.2.2.2.2.2.2.2.2.2.2.2.2.2.2.2)) hfl hN hzu3) rfl rfl dX9_part_15 ⟨rfl, rfl⟩ (by decide) hl.1 (Nat.le_of_ble_eq_true rfl) ⟨Nat.le_of_ble_eq_true rfl, Nat.le_of_ble_eq_true rfl⟩ ?_
      refine lv_istore_n (lv' := [(3, .int zu3), (0, .ref (g 0)), (1, .int za1), (2, .int za2)]) hx hb dX9_part_18 rfl hl (by decide) rfl (fun ls hl => ?_)
      refine lv_iload_n hx hb dX9_part_19 rfl (lv_at hl 0 rfl) ?_
      refine lv_iconst (v := (-1)) hx hb dX9_part_20 (by decide) ?_
      refine lv_icmp_ne (tgt := 34) hx hb dX9_part_21 (by decide) (fun c_21 => ?_) (fun c_21 => ?_)
      · have hinv := oi_f c_21 hinv
        refine lv_iload_n hx hb dX9_part_34 rfl (lv_at hl 0 rfl) ?_
        have hR0 := (Option.some.inj hinv).symm
        subst hR0
        exact hret 35 ls zu3 _ _ _ _ rfl rfl hw (by decide) (by decide) dX9_part_35
      · have hinv := oi_t c_21 hinv
        have hR0 := (Option.some.inj hinv).symm
        subst hR0
        exact hthr 24 ls _ _ _ _ 151 155 153 xIB "no such part" (show ¬ (3 : Nat) = 0 by decide) rfl hw (List.mem_of_getElem? (i := 2) rfl) (by decide) (List.mem_of_getElem? (i := 4) rfl) hl.1 dX9_part_24 dX9_part_27 dX9_part_28 dX9_part_30 dX9_part_33 (by decide) (by decide) (by decide)
def m_X9_attacks (F : Nat) (RR : Nat → Nat → Int32) (r0 : Nat → Int32) (r2 : Nat → Int32) (r4 : Nat → Int32) (r6 : Nat → Int32) (r7 : Nat → Int32) (r8 : Nat → Int32) (r9 : Nat → Int32) (r10 : Nat → Int32) (r11 : Nat → Int32) (r13 : Nat → Int32) (r14 : Nat → Int32) (r15 : Nat → Int32) (r16 : Nat → Int32) (r18 : Nat → Int32) (r19 : Nat → Int32) (r20 : Nat → Int32) (r22 : Nat → Int32) (r23 : Nat → Int32) (r24 : Nat → Int32) (za1 : Int32) (za2 : Int32) : Option (Nat × Int32 × (Nat → Int32) × (Nat → Int32) × (Nat → Int32) × (Nat → Int32) × (Nat → Int32) × (Nat → Int32) × (Nat → Int32) × (Nat → Int32) × (Nat → Int32) × (Nat → Int32) × (Nat → Int32) × (Nat → Int32) × (Nat → Int32) × (Nat → Int32) × (Nat → Int32) × (Nat → Int32) × (Nat → Int32)) := Option.bind (m_X9_demandTold F RR r0 r2 r4 r6 r7 r8 r9 r10 r11 r13 r14 r15 r16 r18 r19 r20 r22 r23 r24) (fun zu1 => if zu1.1 = 0 then (Option.bind (m_X9_demandArgument F zu1.2.2.1 za1) (fun zu2 => if zu2 = 0 then (Option.bind (m_X9_demandArgument F zu1.2.2.1 za2) (fun zu3 => if zu3 = 0 then (Option.bind (m_X1_leads F zu1.2.2.2.2.2.2.2.2.1 za1 za2) (fun zu4 => if zu4 = 0 ∨ zu4 = 1 then (some (0, zu4, zu1.2.1, zu1.2.2.1, zu1.2.2.2.1, zu1.2.2.2.2.1, zu1.2.2.2.2.2.1, zu1.2.2.2.2.2.2.1, zu1.2.2.2.2.2.2.2.1, zu1.2.2.2.2.2.2.2.2.1, zu1.2.2.2.2.2.2.2.2.2.1, zu1.2.2.2.2.2.2.2.2.2.2.1, zu1.2.2.2.2.2.2.2.2.2.2.2.1, zu1.2.2.2.2.2.2.2.2.2.2.2.2.1, zu1.2.2.2.2.2.2.2.2.2.2.2.2.2.1, zu1.2.2.2.2.2.2.2.2.2.2.2.2.2.2.1, zu1.2.2.2.2.2.2.2.2.2.2.2.2.2.2.2.1, zu1.2.2.2.2.2.2.2.2.2.2.2.2.2.2.2.2.1, zu1.2.2.2.2.2.2.2.2.2.2.2.2.2.2.2.2.2)) else none)) else some (zu3, 0, zu1.2.1, zu1.2.2.1, zu1.2.2.2.1, zu1.2.2.2.2.1, zu1.2.2.2.2.2.1, zu1.2.2.2.2.2.2.1, zu1.2.2.2.2.2.2.2.1, zu1.2.2.2.2.2.2.2.2.1, zu1.2.2.2.2.2.2.2.2.2.1, zu1.2.2.2.2.2.2.2.2.2.2.1, zu1.2.2.2.2.2.2.2.2.2.2.2.1, zu1.2.2.2.2.2.2.2.2.2.2.2.2.1, zu1.2.2.2.2.2.2.2.2.2.2.2.2.2.1, zu1.2.2.2.2.2.2.2.2.2.2.2.2.2.2.1, zu1.2.2.2.2.2.2.2.2.2.2.2.2.2.2.2.1, zu1.2.2.2.2.2.2.2.2.2.2.2.2.2.2.2.2.1, zu1.2.2.2.2.2.2.2.2.2.2.2.2.2.2.2.2.2))) else some (zu2, 0, zu1.2.1, zu1.2.2.1, zu1.2.2.2.1, zu1.2.2.2.2.1, zu1.2.2.2.2.2.1, zu1.2.2.2.2.2.2.1, zu1.2.2.2.2.2.2.2.1, zu1.2.2.2.2.2.2.2.2.1, zu1.2.2.2.2.2.2.2.2.2.1, zu1.2.2.2.2.2.2.2.2.2.2.1, zu1.2.2.2.2.2.2.2.2.2.2.2.1, zu1.2.2.2.2.2.2.2.2.2.2.2.2.1, zu1.2.2.2.2.2.2.2.2.2.2.2.2.2.1, zu1.2.2.2.2.2.2.2.2.2.2.2.2.2.2.1, zu1.2.2.2.2.2.2.2.2.2.2.2.2.2.2.2.1, zu1.2.2.2.2.2.2.2.2.2.2.2.2.2.2.2.2.1, zu1.2.2.2.2.2.2.2.2.2.2.2.2.2.2.2.2.2))) else some (zu1.1, 0, zu1.2.1, zu1.2.2.1, zu1.2.2.2.1, zu1.2.2.2.2.1, zu1.2.2.2.2.2.1, zu1.2.2.2.2.2.2.1, zu1.2.2.2.2.2.2.2.1, zu1.2.2.2.2.2.2.2.2.1, zu1.2.2.2.2.2.2.2.2.2.1, zu1.2.2.2.2.2.2.2.2.2.2.1, zu1.2.2.2.2.2.2.2.2.2.2.2.1, zu1.2.2.2.2.2.2.2.2.2.2.2.2.1, zu1.2.2.2.2.2.2.2.2.2.2.2.2.2.1, zu1.2.2.2.2.2.2.2.2.2.2.2.2.2.2.1, zu1.2.2.2.2.2.2.2.2.2.2.2.2.2.2.2.1, zu1.2.2.2.2.2.2.2.2.2.2.2.2.2.2.2.2.1, zu1.2.2.2.2.2.2.2.2.2.2.2.2.2.2.2.2.2))
set_option maxHeartbeats 4000000 in
set_option maxRecDepth 100000 in
theorem c_X9_attacks {l : Launch} {D : va_G} {cy : Nat → Nat} {g : Nat → Nat} {N : Nat} {X : Nat → Nat → Int32} {RR : Nat → Nat → Int32} {F : Nat} {za1 : Int32} {za2 : Int32} {R0 : Nat × Int32 × (Nat → Int32) × (Nat → Int32) × (Nat → Int32) × (Nat → Int32) × (Nat → Int32) × (Nat → Int32) × (Nat → Int32) × (Nat → Int32) × (Nat → Int32) × (Nat → Int32) × (Nat → Int32) × (Nat → Int32) × (Nat → Int32) × (Nat → Int32) × (Nat → Int32) × (Nat → Int32) × (Nat → Int32)} (hfl : l.stackTraces = false) (hX : rok X RR N) (hinv : m_X9_attacks F RR (X 0) (X 2) (X 4) (X 6) (X 7) (X 8) (X 9) (X 10) (X 11) (X 13) (X 14) (X 15) (X 16) (X 18) (X 19) (X 20) (X 22) (X 23) (X 24) za1 za2 = some R0) : sXi l D cy yX9_attacks cX9_attacks 3 (some .boolean) 9 10 80 [.ref (g 0), .int za1, .int za2] g N X R0.1 R0.2.1 (up (up (up (up (up (up (up (up (up (up (up (up (up (up (up (up (up X 0 R0.2.2.1) 6 R0.2.2.2.1) 7 R0.2.2.2.2.1) 8 R0.2.2.2.2.2.1) 9 R0.2.2.2.2.2.2.1) 10 R0.2.2.2.2.2.2.2.1) 11 R0.2.2.2.2.2.2.2.2.1) 13 R0.2.2.2.2.2.2.2.2.2.1) 14 R0.2.2.2.2.2.2.2.2.2.2.1) 15 R0.2.2.2.2.2.2.2.2.2.2.2.1) 16 R0.2.2.2.2.2.2.2.2.2.2.2.2.1) 18 R0.2.2.2.2.2.2.2.2.2.2.2.2.2.1) 19 R0.2.2.2.2.2.2.2.2.2.2.2.2.2.2.1) 20 R0.2.2.2.2.2.2.2.2.2.2.2.2.2.2.2.1) 22 R0.2.2.2.2.2.2.2.2.2.2.2.2.2.2.2.2.1) 23 R0.2.2.2.2.2.2.2.2.2.2.2.2.2.2.2.2.2.1) 24 R0.2.2.2.2.2.2.2.2.2.2.2.2.2.2.2.2.2.2) := by
  refine jXz (by decide) rfl hfl (Nat.le_of_ble_eq_true rfl) rfl ?_
  intro p e R s m args below meth c ls A Q hRe C hw hl hret hthr hout
  subst hRe
  have hx := C.1
  have hb := C.2.1
  have hN := hX.1
  have hl : lv_has ls 3 [(0, .ref (g 0)), (1, .int za1), (2, .int za2)] := hl
  rw [m_X9_attacks] at hinv
  refine lv_aload_n hx hb dX9_attacks_0 rfl (lv_at hl 0 rfl) ?_
  obtain ⟨zu1, hzu1, hinv⟩ := ob hinv
  refine s_vXv (tag := zu1.1) C hw (As := []) bX9_demandTold k408 (k := 0) (q47 hN rfl) (sh_0 g cy _) rfl (c_X9_demandTold (X := X) hfl hX hzu1) rfl rfl dX9_attacks_1 ⟨rfl, rfl⟩ (by decide) hl.1 (Nat.le_of_ble_eq_true rfl) ⟨Nat.le_of_ble_eq_true rfl, Nat.le_of_ble_eq_true rfl⟩ (fun ce q9 H locs ht hw h1 h2 h3 => ?_) (fun H locs ht hw => ?_)
  · have hinv := oi_f ht hinv
    have hR0 := (Option.some.inj hinv).symm
    subst hR0
    exact hout 1 ls _ H locs _ _ zu1.1 ce q9 ht rfl hw h1 h2 h3 (by decide) (by decide)
  · have hinv := oi_t ht hinv
    refine lv_aload_n hx hb dX9_attacks_4 rfl (lv_at hl 0 rfl) ?_
    refine lv_iload_n hx hb dX9_attacks_5 rfl (lv_at hl 1 rfl) ?_
    obtain ⟨zu2, hzu2, hinv⟩ := ob hinv
    refine s_vXv (tag := zu2) C hw (As := [.int za1]) bX9_demandArgument k411 (k := 0) (q47 hN rfl) (sh_0 g cy _) rfl (c_X9_demandArgument (X := (up (up (up (up (up (up (up (up (up (up (up (up (up (up (up (up (up X 0 zu1.2.1) 6 zu1.2.2.1) 7 zu1.2.2.2.1) 8 zu1.2.2.2.2.1) 9 zu1.2.2.2.2.2.1) 10 zu1.2.2.2.2.2.2.1) 11 zu1.2.2.2.2.2.2.2.1) 13 zu1.2.2.2.2.2.2.2.2.1) 14 zu1.2.2.2.2.2.2.2.2.2.1) 15 zu1.2.2.2.2.2.2.2.2.2.2.1) 16 zu1.2.2.2.2.2.2.2.2.2.2.2.1) 18 zu1.2.2.2.2.2.2.2.2.2.2.2.2.1) 19 zu1.2.2.2.2.2.2.2.2.2.2.2.2.2.1) 20 zu1.2.2.2.2.2.2.2.2.2.2.2.2.2.2.1) 22 zu1.2.2.2.2.2.2.2.2.2.2.2.2.2.2.2.1) 23 zu1.2.2.2.2.2.2.2.2.2.2.2.2.2.2.2.2.1) 24 zu1.2.2.2.2.2.2.2.2.2.2.2.2.2.2.2.2.2)) hfl hN hzu2) rfl rfl dX9_attacks_6 ⟨rfl, rfl⟩ (by decide) hl.1 (Nat.le_of_ble_eq_true rfl) ⟨Nat.le_of_ble_eq_true rfl, Nat.le_of_ble_eq_true rfl⟩ (fun ce q9 H locs ht hw h1 h2 h3 => ?_) (fun H locs ht hw => ?_)
    · have hinv := oi_f ht hinv
      have hR0 := (Option.some.inj hinv).symm
      subst hR0
      exact hout 6 ls _ H locs _ _ zu2 ce q9 ht rfl hw h1 h2 h3 (by decide) (by decide)
    · have hinv := oi_t ht hinv
      refine lv_aload_n hx hb dX9_attacks_9 rfl (lv_at hl 0 rfl) ?_
      refine lv_iload_n hx hb dX9_attacks_10 rfl (lv_at hl 2 rfl) ?_
      obtain ⟨zu3, hzu3, hinv⟩ := ob hinv
      refine s_vXv (tag := zu3) C hw (As := [.int za2]) bX9_demandArgument k411 (k := 0) (q47 hN rfl) (sh_0 g cy _) rfl (c_X9_demandArgument (X := (up (up (up (up (up (up (up (up (up (up (up (up (up (up (up (up (up X 0 zu1.2.1) 6 zu1.2.2.1) 7 zu1.2.2.2.1) 8 zu1.2.2.2.2.1) 9 zu1.2.2.2.2.2.1) 10 zu1.2.2.2.2.2.2.1) 11 zu1.2.2.2.2.2.2.2.1) 13 zu1.2.2.2.2.2.2.2.2.1) 14 zu1.2.2.2.2.2.2.2.2.2.1) 15 zu1.2.2.2.2.2.2.2.2.2.2.1) 16 zu1.2.2.2.2.2.2.2.2.2.2.2.1) 18 zu1.2.2.2.2.2.2.2.2.2.2.2.2.1) 19 zu1.2.2.2.2.2.2.2.2.2.2.2.2.2.1) 20 zu1.2.2.2.2.2.2.2.2.2.2.2.2.2.2.1) 22 zu1.2.2.2.2.2.2.2.2.2.2.2.2.2.2.2.1) 23 zu1.2.2.2.2.2.2.2.2.2.2.2.2.2.2.2.2.1) 24 zu1.2.2.2.2.2.2.2.2.2.2.2.2.2.2.2.2.2)) hfl hN hzu3) rfl rfl dX9_attacks_11 ⟨rfl, rfl⟩ (by decide) hl.1 (Nat.le_of_ble_eq_true rfl) ⟨Nat.le_of_ble_eq_true rfl, Nat.le_of_ble_eq_true rfl⟩ (fun ce q9 H locs ht hw h1 h2 h3 => ?_) (fun H locs ht hw => ?_)
      · have hinv := oi_f ht hinv
        have hR0 := (Option.some.inj hinv).symm
        subst hR0
        exact hout 11 ls _ H locs _ _ zu3 ce q9 ht rfl hw h1 h2 h3 (by decide) (by decide)
      · have hinv := oi_t ht hinv
        refine lv_aload_n hx hb dX9_attacks_14 rfl (lv_at hl 0 rfl) ?_
        refine w_get C hw (k := 0) (v := .ref (g 12)) (j := 3) (q47 hN rfl) (sh_0 g cy _) rfl (by decide) k322 rfl dX9_attacks_15 ?_
        refine lv_iload_n hx hb dX9_attacks_18 rfl (lv_at hl 1 rfl) ?_
        refine lv_iload_n hx hb dX9_attacks_19 rfl (lv_at hl 2 rfl) ?_
        obtain ⟨zu4, hzu4, hinv⟩ := ob hinv
        refine s_vRi (r0 := zu4) C hw (As := [.int za1, .int za2]) bX1_leads k422 (k := 12) (q47 hN rfl) (sh_12 g cy _) rfl (c_X1_leads (X := (up (up (up (up (up (up (up (up (up (up (up (up (up (up (up (up (up X 0 zu1.2.1) 6 zu1.2.2.1) 7 zu1.2.2.2.1) 8 zu1.2.2.2.2.1) 9 zu1.2.2.2.2.2.1) 10 zu1.2.2.2.2.2.2.1) 11 zu1.2.2.2.2.2.2.2.1) 13 zu1.2.2.2.2.2.2.2.2.1) 14 zu1.2.2.2.2.2.2.2.2.2.1) 15 zu1.2.2.2.2.2.2.2.2.2.2.1) 16 zu1.2.2.2.2.2.2.2.2.2.2.2.1) 18 zu1.2.2.2.2.2.2.2.2.2.2.2.2.1) 19 zu1.2.2.2.2.2.2.2.2.2.2.2.2.2.1) 20 zu1.2.2.2.2.2.2.2.2.2.2.2.2.2.2.1) 22 zu1.2.2.2.2.2.2.2.2.2.2.2.2.2.2.2.1) 23 zu1.2.2.2.2.2.2.2.2.2.2.2.2.2.2.2.2.1) 24 zu1.2.2.2.2.2.2.2.2.2.2.2.2.2.2.2.2.2)) hfl hN hzu4) rfl rfl dX9_attacks_20 ⟨rfl, rfl⟩ (by decide) hl.1 (Nat.le_of_ble_eq_true rfl) ⟨Nat.le_of_ble_eq_true rfl, Nat.le_of_ble_eq_true rfl⟩ ?_
        obtain ⟨hz9, hinv⟩ := oi_c hinv
        have hR0 := (Option.some.inj hinv).symm
        subst hR0
        exact hret 23 ls zu4 _ _ _ _ rfl rfl hz9 hw (by decide) (by decide) dX9_attacks_23
def m_X9_holds_L12 (F : Nat) (y1_12 : Int32) : Nat → Int32 → Int32 → (Nat → Int32) → (Nat → Int32) → (Nat → Int32) → (Nat → Int32) → (Nat → Int32) → (Nat → Int32) → (Nat → Int32) → (Nat → Int32) → (Nat → Int32) → (Nat → Int32) → (Nat → Int32) → (Nat → Int32) → (Nat → Int32) → (Nat → Int32) → (Nat → Int32) → (Nat → Int32) → (Nat → Int32) → Option (Nat × Int32 × (Nat → Int32) × (Nat → Int32) × (Nat → Int32) × (Nat → Int32) × (Nat → Int32) × (Nat → Int32) × (Nat → Int32) × (Nat → Int32) × (Nat → Int32) × (Nat → Int32) × (Nat → Int32) × (Nat → Int32) × (Nat → Int32) × (Nat → Int32) × (Nat → Int32) × (Nat → Int32) × (Nat → Int32))
  | 0, _, _, _, _, _, _, _, _, _, _, _, _, _, _, _, _, _, _, _ => none
  | n + 1, x3_12, x2_12, q0_12, q6_12, q7_12, q8_12, q9_12, q10_12, q11_12, q13_12, q14_12, q15_12, q16_12, q18_12, q19_12, q20_12, q22_12, q23_12, q24_12 => if (q6_12 5) ≤ x3_12 then (some (0, x2_12, q0_12, q6_12, q7_12, q8_12, q9_12, q10_12, q11_12, q13_12, q14_12, q15_12, q16_12, q18_12, q19_12, q20_12, q22_12, q23_12, q24_12)) else (Option.bind (m_X0_conclusionAt F q7_12 x3_12) (fun zu3 => if zu3 = y1_12 then (Option.bind (m_X3_labelAt F q14_12 x3_12) (fun zu4 => m_X9_holds_L12 F y1_12 n (x3_12 + 1) (if x2_12 < zu4 then zu4 else x2_12) q0_12 q6_12 q7_12 q8_12 q9_12 q10_12 q11_12 q13_12 q14_12 q15_12 q16_12 q18_12 q19_12 q20_12 q22_12 q23_12 q24_12)) else (m_X9_holds_L12 F y1_12 n (x3_12 + 1) x2_12 q0_12 q6_12 q7_12 q8_12 q9_12 q10_12 q11_12 q13_12 q14_12 q15_12 q16_12 q18_12 q19_12 q20_12 q22_12 q23_12 q24_12)))
def m_X9_holds (F : Nat) (RR : Nat → Nat → Int32) (r0 : Nat → Int32) (r2 : Nat → Int32) (r4 : Nat → Int32) (r6 : Nat → Int32) (r7 : Nat → Int32) (r8 : Nat → Int32) (r9 : Nat → Int32) (r10 : Nat → Int32) (r11 : Nat → Int32) (r13 : Nat → Int32) (r14 : Nat → Int32) (r15 : Nat → Int32) (r16 : Nat → Int32) (r18 : Nat → Int32) (r19 : Nat → Int32) (r20 : Nat → Int32) (r22 : Nat → Int32) (r23 : Nat → Int32) (r24 : Nat → Int32) (za1 : Int32) : Option (Nat × Int32 × (Nat → Int32) × (Nat → Int32) × (Nat → Int32) × (Nat → Int32) × (Nat → Int32) × (Nat → Int32) × (Nat → Int32) × (Nat → Int32) × (Nat → Int32) × (Nat → Int32) × (Nat → Int32) × (Nat → Int32) × (Nat → Int32) × (Nat → Int32) × (Nat → Int32) × (Nat → Int32) × (Nat → Int32)) := Option.bind (m_X9_demandLiteral F za1) (fun zu1 => if zu1 = 0 then (Option.bind (m_X9_demandTold F RR r0 r2 r4 r6 r7 r8 r9 r10 r11 r13 r14 r15 r16 r18 r19 r20 r22 r23 r24) (fun zu2 => if zu2.1 = 0 then (m_X9_holds_L12 F za1 F 0 0 zu2.2.1 zu2.2.2.1 zu2.2.2.2.1 zu2.2.2.2.2.1 zu2.2.2.2.2.2.1 zu2.2.2.2.2.2.2.1 zu2.2.2.2.2.2.2.2.1 zu2.2.2.2.2.2.2.2.2.1 zu2.2.2.2.2.2.2.2.2.2.1 zu2.2.2.2.2.2.2.2.2.2.2.1 zu2.2.2.2.2.2.2.2.2.2.2.2.1 zu2.2.2.2.2.2.2.2.2.2.2.2.2.1 zu2.2.2.2.2.2.2.2.2.2.2.2.2.2.1 zu2.2.2.2.2.2.2.2.2.2.2.2.2.2.2.1 zu2.2.2.2.2.2.2.2.2.2.2.2.2.2.2.2.1 zu2.2.2.2.2.2.2.2.2.2.2.2.2.2.2.2.2.1 zu2.2.2.2.2.2.2.2.2.2.2.2.2.2.2.2.2.2) else some (zu2.1, 0, zu2.2.1, zu2.2.2.1, zu2.2.2.2.1, zu2.2.2.2.2.1, zu2.2.2.2.2.2.1, zu2.2.2.2.2.2.2.1, zu2.2.2.2.2.2.2.2.1, zu2.2.2.2.2.2.2.2.2.1, zu2.2.2.2.2.2.2.2.2.2.1, zu2.2.2.2.2.2.2.2.2.2.2.1, zu2.2.2.2.2.2.2.2.2.2.2.2.1, zu2.2.2.2.2.2.2.2.2.2.2.2.2.1, zu2.2.2.2.2.2.2.2.2.2.2.2.2.2.1, zu2.2.2.2.2.2.2.2.2.2.2.2.2.2.2.1, zu2.2.2.2.2.2.2.2.2.2.2.2.2.2.2.2.1, zu2.2.2.2.2.2.2.2.2.2.2.2.2.2.2.2.2.1, zu2.2.2.2.2.2.2.2.2.2.2.2.2.2.2.2.2.2))) else some (zu1, 0, r0, r6, r7, r8, r9, r10, r11, r13, r14, r15, r16, r18, r19, r20, r22, r23, r24))
set_option maxHeartbeats 4000000 in
set_option maxRecDepth 100000 in
theorem c_X9_holds {l : Launch} {D : va_G} {cy : Nat → Nat} {g : Nat → Nat} {N : Nat} {X : Nat → Nat → Int32} {RR : Nat → Nat → Int32} {F : Nat} {za1 : Int32} {R0 : Nat × Int32 × (Nat → Int32) × (Nat → Int32) × (Nat → Int32) × (Nat → Int32) × (Nat → Int32) × (Nat → Int32) × (Nat → Int32) × (Nat → Int32) × (Nat → Int32) × (Nat → Int32) × (Nat → Int32) × (Nat → Int32) × (Nat → Int32) × (Nat → Int32) × (Nat → Int32) × (Nat → Int32) × (Nat → Int32)} (hfl : l.stackTraces = false) (hX : rok X RR N) (hinv : m_X9_holds F RR (X 0) (X 2) (X 4) (X 6) (X 7) (X 8) (X 9) (X 10) (X 11) (X 13) (X 14) (X 15) (X 16) (X 18) (X 19) (X 20) (X 22) (X 23) (X 24) za1 = some R0) : sXi l D cy yX9_holds cX9_holds 4 (some .int) 9 10 80 [.ref (g 0), .int za1] g N X R0.1 R0.2.1 (up (up (up (up (up (up (up (up (up (up (up (up (up (up (up (up (up X 0 R0.2.2.1) 6 R0.2.2.2.1) 7 R0.2.2.2.2.1) 8 R0.2.2.2.2.2.1) 9 R0.2.2.2.2.2.2.1) 10 R0.2.2.2.2.2.2.2.1) 11 R0.2.2.2.2.2.2.2.2.1) 13 R0.2.2.2.2.2.2.2.2.2.1) 14 R0.2.2.2.2.2.2.2.2.2.2.1) 15 R0.2.2.2.2.2.2.2.2.2.2.2.1) 16 R0.2.2.2.2.2.2.2.2.2.2.2.2.1) 18 R0.2.2.2.2.2.2.2.2.2.2.2.2.2.1) 19 R0.2.2.2.2.2.2.2.2.2.2.2.2.2.2.1) 20 R0.2.2.2.2.2.2.2.2.2.2.2.2.2.2.2.1) 22 R0.2.2.2.2.2.2.2.2.2.2.2.2.2.2.2.2.1) 23 R0.2.2.2.2.2.2.2.2.2.2.2.2.2.2.2.2.2.1) 24 R0.2.2.2.2.2.2.2.2.2.2.2.2.2.2.2.2.2.2) := by
  refine jXi (by decide) rfl hfl (Nat.le_of_ble_eq_true rfl) rfl ?_
  intro p e R s m args below meth c ls A Q hRe C hw hl hret hthr hout
  subst hRe
  have hx := C.1
  have hb := C.2.1
  have hN := hX.1
  have hl : lv_has ls 4 [(0, .ref (g 0)), (1, .int za1)] := hl
  rw [m_X9_holds] at hinv
  refine lv_iload_n hx hb dX9_holds_0 rfl (lv_at hl 1 rfl) ?_
  obtain ⟨zu1, hzu1, hinv⟩ := ob hinv
  refine s_sXv (tag := zu1) C hw (As := [.int za1]) bX9_demandLiteral k350 (c_X9_demandLiteral (X := X) hfl hN hzu1) rfl rfl dX9_holds_1 ⟨rfl, rfl⟩ (by decide) hl.1 (Nat.le_of_ble_eq_true rfl) ⟨Nat.le_of_ble_eq_true rfl, Nat.le_of_ble_eq_true rfl⟩ (fun ce q9 H locs ht hw h1 h2 h3 => ?_) (fun H locs ht hw => ?_)
  · have hinv := oi_f ht hinv
    have hR0 := (Option.some.inj hinv).symm
    subst hR0
    have hXe : X = (up (up (up (up (up (up (up (up (up (up (up (up (up (up (up (up (up X 0 (X 0)) 6 (X 6)) 7 (X 7)) 8 (X 8)) 9 (X 9)) 10 (X 10)) 11 (X 11)) 13 (X 13)) 14 (X 14)) 15 (X 15)) 16 (X 16)) 18 (X 18)) 19 (X 19)) 20 (X 20)) 22 (X 22)) 23 (X 23)) 24 (X 24)) := by
      funext j
      by_cases h0 : j = 0
      · subst h0; simp [up]
      by_cases h6 : j = 6
      · subst h6; simp [up]
      by_cases h7 : j = 7
      · subst h7; simp [up]
      by_cases h8 : j = 8
      · subst h8; simp [up]
      by_cases h9 : j = 9
      · subst h9; simp [up]
      by_cases h10 : j = 10
      · subst h10; simp [up]
      by_cases h11 : j = 11
      · subst h11; simp [up]
      by_cases h13 : j = 13
      · subst h13; simp [up]
      by_cases h14 : j = 14
      · subst h14; simp [up]
      by_cases h15 : j = 15
      · subst h15; simp [up]
      by_cases h16 : j = 16
      · subst h16; simp [up]
      by_cases h18 : j = 18
      · subst h18; simp [up]
      by_cases h19 : j = 19
      · subst h19; simp [up]
      by_cases h20 : j = 20
      · subst h20; simp [up]
      by_cases h22 : j = 22
      · subst h22; simp [up]
      by_cases h23 : j = 23
      · subst h23; simp [up]
      by_cases h24 : j = 24
      · subst h24; simp [up]
      simp [up, h0, h6, h7, h8, h9, h10, h11, h13, h14, h15, h16, h18, h19, h20, h22, h23, h24]
    rw [hXe] at hw
    exact hout 1 ls _ H locs _ _ zu1 ce q9 ht rfl hw h1 h2 h3 (by decide) (by decide)
  · have hinv := oi_t ht hinv
    refine lv_aload_n hx hb dX9_holds_4 rfl (lv_at hl 0 rfl) ?_
    obtain ⟨zu2, hzu2, hinv⟩ := ob hinv
    refine s_vXv (tag := zu2.1) C hw (As := []) bX9_demandTold k408 (k := 0) (q47 hN rfl) (sh_0 g cy _) rfl (c_X9_demandTold (X := X) hfl hX hzu2) rfl rfl dX9_holds_5 ⟨rfl, rfl⟩ (by decide) hl.1 (Nat.le_of_ble_eq_true rfl) ⟨Nat.le_of_ble_eq_true rfl, Nat.le_of_ble_eq_true rfl⟩ (fun ce q9 H locs ht hw h1 h2 h3 => ?_) (fun H locs ht hw => ?_)
    · have hinv := oi_f ht hinv
      have hR0 := (Option.some.inj hinv).symm
      subst hR0
      exact hout 5 ls _ H locs _ _ zu2.1 ce q9 ht rfl hw h1 h2 h3 (by decide) (by decide)
    · have hinv := oi_t ht hinv
      refine lv_iconst (v := 0) hx hb dX9_holds_8 (by decide) ?_
      refine lv_istore_n (lv' := [(2, .int 0), (0, .ref (g 0)), (1, .int za1)]) hx hb dX9_holds_9 rfl hl (by decide) rfl (fun ls hl => ?_)
      refine lv_iconst (v := 0) hx hb dX9_holds_10 (by decide) ?_
      refine lv_istore_n (lv' := [(3, .int 0), (2, .int 0), (0, .ref (g 0)), (1, .int za1)]) hx hb dX9_holds_11 rfl hl (by decide) rfl (fun ls hl => ?_)
      have hl12 : ∀ (n : Nat) (x3_12 : Int32) (x2_12 : Int32) (q0_12 : Nat → Int32) (q6_12 : Nat → Int32) (q7_12 : Nat → Int32) (q8_12 : Nat → Int32) (q9_12 : Nat → Int32) (q10_12 : Nat → Int32) (q11_12 : Nat → Int32) (q13_12 : Nat → Int32) (q14_12 : Nat → Int32) (q15_12 : Nat → Int32) (q16_12 : Nat → Int32) (q18_12 : Nat → Int32) (q19_12 : Nat → Int32) (q20_12 : Nat → Int32) (q22_12 : Nat → Int32) (q23_12 : Nat → Int32) (q24_12 : Nat → Int32), m_X9_holds_L12 F za1 n x3_12 x2_12 q0_12 q6_12 q7_12 q8_12 q9_12 q10_12 q11_12 q13_12 q14_12 q15_12 q16_12 q18_12 q19_12 q20_12 q22_12 q23_12 q24_12 = some R0 → ∀ (H : Heap) (locs : List Loc) (ls : Array Slot), Wd D A s.heap g N (shp g cy (up (up (up (up (up (up (up (up (up (up (up (up (up (up (up (up (up X 0 q0_12) 6 q6_12) 7 q7_12) 8 q8_12) 9 q9_12) 10 q10_12) 11 q11_12) 13 q13_12) 14 q14_12) 15 q15_12) 16 q16_12) 18 q18_12) 19 q19_12) 20 q20_12) 22 q22_12) 23 q23_12) 24 q24_12)) H locs → lv_has ls 4 [(3, .int x3_12), (2, .int x2_12), (0, .ref (g 0)), (1, .int za1)] → W p l e (wR 9 10 80) s m args below meth c H locs 2 12 Q (F0 m 12 ls []) := by
        intro n
        induction n with
        | zero =>
          intro x3_12 x2_12 q0_12 q6_12 q7_12 q8_12 q9_12 q10_12 q11_12 q13_12 q14_12 q15_12 q16_12 q18_12 q19_12 q20_12 q22_12 q23_12 q24_12 hinv
          cases hinv
        | succ n ih =>
          intro x3_12 x2_12 q0_12 q6_12 q7_12 q8_12 q9_12 q10_12 q11_12 q13_12 q14_12 q15_12 q16_12 q18_12 q19_12 q20_12 q22_12 q23_12 q24_12 hinv H locs ls hw hl
          rw [m_X9_holds_L12] at hinv
          refine lv_iload_n hx hb dX9_holds_12 rfl (lv_at hl 0 rfl) ?_
          refine lv_aload_n hx hb dX9_holds_13 rfl (lv_at hl 2 rfl) ?_
          refine w_get C hw (k := 0) (v := .ref (g 6)) (j := 2) (q47 hN rfl) (sh_0 g cy _) rfl (by decide) k319 rfl dX9_holds_14 ?_
          refine w_getN C hw (k := 6) (v := .int (q6_12 5)) (j := 5) (q47 hN rfl) (sh_6 g cy _) rfl (by decide) k850 rfl dX9_holds_17 ?_
          refine lv_icmp_ge (tgt := 54) hx hb dX9_holds_20 (by decide) (fun c_20 => ?_) (fun c_20 => ?_)
          · have hinv := oi_t c_20 hinv
            refine lv_iload_n hx hb dX9_holds_54 rfl (lv_at hl 1 rfl) ?_
            have hR0 := (Option.some.inj hinv).symm
            subst hR0
            exact hret 55 ls x2_12 _ _ _ _ rfl rfl hw (by decide) (by decide) dX9_holds_55
          · have hinv := oi_f c_20 hinv
            refine lv_aload_n hx hb dX9_holds_23 rfl (lv_at hl 2 rfl) ?_
            refine w_get C hw (k := 0) (v := .ref (g 6)) (j := 2) (q47 hN rfl) (sh_0 g cy _) rfl (by decide) k319 rfl dX9_holds_24 ?_
            refine lv_iload_n hx hb dX9_holds_27 rfl (lv_at hl 0 rfl) ?_
            obtain ⟨zu3, hzu3, hinv⟩ := ob hinv
            refine s_vRi (r0 := zu3) C hw (As := [.int x3_12]) bX0_conclusionAt k414 (k := 6) (q47 hN rfl) (sh_6 g cy _) rfl (c_X0_conclusionAt (X := (up (up (up (up (up (up (up (up (up (up (up (up (up (up (up (up (up X 0 q0_12) 6 q6_12) 7 q7_12) 8 q8_12) 9 q9_12) 10 q10_12) 11 q11_12) 13 q13_12) 14 q14_12) 15 q15_12) 16 q16_12) 18 q18_12) 19 q19_12) 20 q20_12) 22 q22_12) 23 q23_12) 24 q24_12)) hfl hN hzu3) rfl rfl dX9_holds_28 ⟨rfl, rfl⟩ (by decide) hl.1 (Nat.le_of_ble_eq_true rfl) ⟨Nat.le_of_ble_eq_true rfl, Nat.le_of_ble_eq_true rfl⟩ ?_
            refine lv_iload_n hx hb dX9_holds_31 rfl (lv_at hl 3 rfl) ?_
            refine lv_icmp_ne (tgt := 48) hx hb dX9_holds_32 (by decide) (fun c_32 => ?_) (fun c_32 => ?_)
            · have hinv := oi_f c_32 hinv
              refine lv_iinc (v := (x3_12 + 1)) (lv' := [(3, .int (x3_12 + 1)), (2, .int x2_12), (0, .ref (g 0)), (1, .int za1)]) hx hb dX9_holds_48 hl (k := 0) rfl (by rfl) (by decide) rfl (fun ls hl => ?_)
              refine lv_goto (tgt := 12) hx hb dX9_holds_51 (by decide) ?_
              exact ih (x3_12 + 1) x2_12 q0_12 q6_12 q7_12 q8_12 q9_12 q10_12 q11_12 q13_12 q14_12 q15_12 q16_12 q18_12 q19_12 q20_12 q22_12 q23_12 q24_12 hinv _ _ ls hw (lv_sub hl [0, 1, 2, 3] rfl)
            · have hinv := oi_t c_32 hinv
              refine lv_iload_n hx hb dX9_holds_35 rfl (lv_at hl 1 rfl) ?_
              refine lv_aload_n hx hb dX9_holds_36 rfl (lv_at hl 2 rfl) ?_
              refine w_get C hw (k := 0) (v := .ref (g 14)) (j := 4) (q47 hN rfl) (sh_0 g cy _) rfl (by decide) k325 rfl dX9_holds_37 ?_
              refine lv_iload_n hx hb dX9_holds_40 rfl (lv_at hl 0 rfl) ?_
              obtain ⟨zu4, hzu4, hinv⟩ := ob hinv
              refine s_vRi (r0 := zu4) C hw (As := [.int x3_12]) bX3_labelAt k424 (k := 14) (q47 hN rfl) (sh_14 g cy _) rfl (c_X3_labelAt (X := (up (up (up (up (up (up (up (up (up (up (up (up (up (up (up (up (up X 0 q0_12) 6 q6_12) 7 q7_12) 8 q8_12) 9 q9_12) 10 q10_12) 11 q11_12) 13 q13_12) 14 q14_12) 15 q15_12) 16 q16_12) 18 q18_12) 19 q19_12) 20 q20_12) 22 q22_12) 23 q23_12) 24 q24_12)) hfl hN hzu4) rfl rfl dX9_holds_41 ⟨rfl, rfl⟩ (by decide) hl.1 (Nat.le_of_ble_eq_true rfl) ⟨Nat.le_of_ble_eq_true rfl, Nat.le_of_ble_eq_true rfl⟩ ?_
              refine va_mmax hx hb (by rw [C.2.2.1]; exact hl.1.symm) C.2.2.2.1 (C.w k430) (C.w k61) (C.w k62) (C.w k63) (Nat.le_of_ble_eq_true rfl) (Nat.le_of_ble_eq_true rfl) (Nat.le_of_ble_eq_true rfl) (Nat.le_of_ble_eq_true rfl) dX9_holds_44 ?_
              refine lv_istore_n (lv' := [(2, .int (if x2_12 < zu4 then zu4 else x2_12)), (3, .int x3_12), (0, .ref (g 0)), (1, .int za1)]) hx hb dX9_holds_47 rfl hl (by decide) rfl (fun ls hl => ?_)
              refine lv_iinc (v := (x3_12 + 1)) (lv' := [(3, .int (x3_12 + 1)), (2, .int (if x2_12 < zu4 then zu4 else x2_12)), (0, .ref (g 0)), (1, .int za1)]) hx hb dX9_holds_48 hl (k := 1) rfl (by rfl) (by decide) rfl (fun ls hl => ?_)
              refine lv_goto (tgt := 12) hx hb dX9_holds_51 (by decide) ?_
              exact ih (x3_12 + 1) (if x2_12 < zu4 then zu4 else x2_12) q0_12 q6_12 q7_12 q8_12 q9_12 q10_12 q11_12 q13_12 q14_12 q15_12 q16_12 q18_12 q19_12 q20_12 q22_12 q23_12 q24_12 hinv _ _ ls hw (lv_sub hl [0, 1, 2, 3] rfl)
      exact hl12 F 0 0 zu2.2.1 zu2.2.2.1 zu2.2.2.2.1 zu2.2.2.2.2.1 zu2.2.2.2.2.2.1 zu2.2.2.2.2.2.2.1 zu2.2.2.2.2.2.2.2.1 zu2.2.2.2.2.2.2.2.2.1 zu2.2.2.2.2.2.2.2.2.2.1 zu2.2.2.2.2.2.2.2.2.2.2.1 zu2.2.2.2.2.2.2.2.2.2.2.2.1 zu2.2.2.2.2.2.2.2.2.2.2.2.2.1 zu2.2.2.2.2.2.2.2.2.2.2.2.2.2.1 zu2.2.2.2.2.2.2.2.2.2.2.2.2.2.2.1 zu2.2.2.2.2.2.2.2.2.2.2.2.2.2.2.2.1 zu2.2.2.2.2.2.2.2.2.2.2.2.2.2.2.2.2.1 zu2.2.2.2.2.2.2.2.2.2.2.2.2.2.2.2.2.2 hinv _ _ ls hw (lv_sub hl [0, 1, 2, 3] rfl)
def m_X9_reasonFor_L10 (F : Nat) (y1_10 : Int32) : Nat → Int32 → (Nat → Int32) → (Nat → Int32) → (Nat → Int32) → (Nat → Int32) → (Nat → Int32) → (Nat → Int32) → (Nat → Int32) → (Nat → Int32) → (Nat → Int32) → (Nat → Int32) → (Nat → Int32) → (Nat → Int32) → (Nat → Int32) → (Nat → Int32) → (Nat → Int32) → (Nat → Int32) → (Nat → Int32) → Option (Nat × Int32 × (Nat → Int32) × (Nat → Int32) × (Nat → Int32) × (Nat → Int32) × (Nat → Int32) × (Nat → Int32) × (Nat → Int32) × (Nat → Int32) × (Nat → Int32) × (Nat → Int32) × (Nat → Int32) × (Nat → Int32) × (Nat → Int32) × (Nat → Int32) × (Nat → Int32) × (Nat → Int32) × (Nat → Int32))
  | 0, _, _, _, _, _, _, _, _, _, _, _, _, _, _, _, _, _, _ => none
  | n + 1, x2_10, q0_10, q6_10, q7_10, q8_10, q9_10, q10_10, q11_10, q13_10, q14_10, q15_10, q16_10, q18_10, q19_10, q20_10, q22_10, q23_10, q24_10 => if (q6_10 5) ≤ x2_10 then (some (0, (-1), q0_10, q6_10, q7_10, q8_10, q9_10, q10_10, q11_10, q13_10, q14_10, q15_10, q16_10, q18_10, q19_10, q20_10, q22_10, q23_10, q24_10)) else (Option.bind (m_X0_conclusionAt F q7_10 x2_10) (fun zu3 => if zu3 = y1_10 then (Option.bind (m_X3_labelAt F q14_10 x2_10) (fun zu4 => if zu4 = 2 then (some (0, x2_10, q0_10, q6_10, q7_10, q8_10, q9_10, q10_10, q11_10, q13_10, q14_10, q15_10, q16_10, q18_10, q19_10, q20_10, q22_10, q23_10, q24_10)) else (m_X9_reasonFor_L10 F y1_10 n (x2_10 + 1) q0_10 q6_10 q7_10 q8_10 q9_10 q10_10 q11_10 q13_10 q14_10 q15_10 q16_10 q18_10 q19_10 q20_10 q22_10 q23_10 q24_10))) else (m_X9_reasonFor_L10 F y1_10 n (x2_10 + 1) q0_10 q6_10 q7_10 q8_10 q9_10 q10_10 q11_10 q13_10 q14_10 q15_10 q16_10 q18_10 q19_10 q20_10 q22_10 q23_10 q24_10)))
def m_X9_reasonFor (F : Nat) (RR : Nat → Nat → Int32) (r0 : Nat → Int32) (r2 : Nat → Int32) (r4 : Nat → Int32) (r6 : Nat → Int32) (r7 : Nat → Int32) (r8 : Nat → Int32) (r9 : Nat → Int32) (r10 : Nat → Int32) (r11 : Nat → Int32) (r13 : Nat → Int32) (r14 : Nat → Int32) (r15 : Nat → Int32) (r16 : Nat → Int32) (r18 : Nat → Int32) (r19 : Nat → Int32) (r20 : Nat → Int32) (r22 : Nat → Int32) (r23 : Nat → Int32) (r24 : Nat → Int32) (za1 : Int32) : Option (Nat × Int32 × (Nat → Int32) × (Nat → Int32) × (Nat → Int32) × (Nat → Int32) × (Nat → Int32) × (Nat → Int32) × (Nat → Int32) × (Nat → Int32) × (Nat → Int32) × (Nat → Int32) × (Nat → Int32) × (Nat → Int32) × (Nat → Int32) × (Nat → Int32) × (Nat → Int32) × (Nat → Int32) × (Nat → Int32)) := Option.bind (m_X9_demandLiteral F za1) (fun zu1 => if zu1 = 0 then (Option.bind (m_X9_demandTold F RR r0 r2 r4 r6 r7 r8 r9 r10 r11 r13 r14 r15 r16 r18 r19 r20 r22 r23 r24) (fun zu2 => if zu2.1 = 0 then (m_X9_reasonFor_L10 F za1 F 0 zu2.2.1 zu2.2.2.1 zu2.2.2.2.1 zu2.2.2.2.2.1 zu2.2.2.2.2.2.1 zu2.2.2.2.2.2.2.1 zu2.2.2.2.2.2.2.2.1 zu2.2.2.2.2.2.2.2.2.1 zu2.2.2.2.2.2.2.2.2.2.1 zu2.2.2.2.2.2.2.2.2.2.2.1 zu2.2.2.2.2.2.2.2.2.2.2.2.1 zu2.2.2.2.2.2.2.2.2.2.2.2.2.1 zu2.2.2.2.2.2.2.2.2.2.2.2.2.2.1 zu2.2.2.2.2.2.2.2.2.2.2.2.2.2.2.1 zu2.2.2.2.2.2.2.2.2.2.2.2.2.2.2.2.1 zu2.2.2.2.2.2.2.2.2.2.2.2.2.2.2.2.2.1 zu2.2.2.2.2.2.2.2.2.2.2.2.2.2.2.2.2.2) else some (zu2.1, 0, zu2.2.1, zu2.2.2.1, zu2.2.2.2.1, zu2.2.2.2.2.1, zu2.2.2.2.2.2.1, zu2.2.2.2.2.2.2.1, zu2.2.2.2.2.2.2.2.1, zu2.2.2.2.2.2.2.2.2.1, zu2.2.2.2.2.2.2.2.2.2.1, zu2.2.2.2.2.2.2.2.2.2.2.1, zu2.2.2.2.2.2.2.2.2.2.2.2.1, zu2.2.2.2.2.2.2.2.2.2.2.2.2.1, zu2.2.2.2.2.2.2.2.2.2.2.2.2.2.1, zu2.2.2.2.2.2.2.2.2.2.2.2.2.2.2.1, zu2.2.2.2.2.2.2.2.2.2.2.2.2.2.2.2.1, zu2.2.2.2.2.2.2.2.2.2.2.2.2.2.2.2.2.1, zu2.2.2.2.2.2.2.2.2.2.2.2.2.2.2.2.2.2))) else some (zu1, 0, r0, r6, r7, r8, r9, r10, r11, r13, r14, r15, r16, r18, r19, r20, r22, r23, r24))
set_option maxHeartbeats 4000000 in
set_option maxRecDepth 100000 in
theorem c_X9_reasonFor {l : Launch} {D : va_G} {cy : Nat → Nat} {g : Nat → Nat} {N : Nat} {X : Nat → Nat → Int32} {RR : Nat → Nat → Int32} {F : Nat} {za1 : Int32} {R0 : Nat × Int32 × (Nat → Int32) × (Nat → Int32) × (Nat → Int32) × (Nat → Int32) × (Nat → Int32) × (Nat → Int32) × (Nat → Int32) × (Nat → Int32) × (Nat → Int32) × (Nat → Int32) × (Nat → Int32) × (Nat → Int32) × (Nat → Int32) × (Nat → Int32) × (Nat → Int32) × (Nat → Int32) × (Nat → Int32)} (hfl : l.stackTraces = false) (hX : rok X RR N) (hinv : m_X9_reasonFor F RR (X 0) (X 2) (X 4) (X 6) (X 7) (X 8) (X 9) (X 10) (X 11) (X 13) (X 14) (X 15) (X 16) (X 18) (X 19) (X 20) (X 22) (X 23) (X 24) za1 = some R0) : sXi l D cy yX9_reasonFor cX9_reasonFor 3 (some .int) 9 10 80 [.ref (g 0), .int za1] g N X R0.1 R0.2.1 (up (up (up (up (up (up (up (up (up (up (up (up (up (up (up (up (up X 0 R0.2.2.1) 6 R0.2.2.2.1) 7 R0.2.2.2.2.1) 8 R0.2.2.2.2.2.1) 9 R0.2.2.2.2.2.2.1) 10 R0.2.2.2.2.2.2.2.1) 11 R0.2.2.2.2.2.2.2.2.1) 13 R0.2.2.2.2.2.2.2.2.2.1) 14 R0.2.2.2.2.2.2.2.2.2.2.1) 15 R0.2.2.2.2.2.2.2.2.2.2.2.1) 16 R0.2.2.2.2.2.2.2.2.2.2.2.2.1) 18 R0.2.2.2.2.2.2.2.2.2.2.2.2.2.1) 19 R0.2.2.2.2.2.2.2.2.2.2.2.2.2.2.1) 20 R0.2.2.2.2.2.2.2.2.2.2.2.2.2.2.2.1) 22 R0.2.2.2.2.2.2.2.2.2.2.2.2.2.2.2.2.1) 23 R0.2.2.2.2.2.2.2.2.2.2.2.2.2.2.2.2.2.1) 24 R0.2.2.2.2.2.2.2.2.2.2.2.2.2.2.2.2.2.2) := by
  refine jXi (by decide) rfl hfl (Nat.le_of_ble_eq_true rfl) rfl ?_
  intro p e R s m args below meth c ls A Q hRe C hw hl hret hthr hout
  subst hRe
  have hx := C.1
  have hb := C.2.1
  have hN := hX.1
  have hl : lv_has ls 3 [(0, .ref (g 0)), (1, .int za1)] := hl
  rw [m_X9_reasonFor] at hinv
  refine lv_iload_n hx hb dX9_reasonFor_0 rfl (lv_at hl 1 rfl) ?_
  obtain ⟨zu1, hzu1, hinv⟩ := ob hinv
  refine s_sXv (tag := zu1) C hw (As := [.int za1]) bX9_demandLiteral k350 (c_X9_demandLiteral (X := X) hfl hN hzu1) rfl rfl dX9_reasonFor_1 ⟨rfl, rfl⟩ (by decide) hl.1 (Nat.le_of_ble_eq_true rfl) ⟨Nat.le_of_ble_eq_true rfl, Nat.le_of_ble_eq_true rfl⟩ (fun ce q9 H locs ht hw h1 h2 h3 => ?_) (fun H locs ht hw => ?_)
  · have hinv := oi_f ht hinv
    have hR0 := (Option.some.inj hinv).symm
    subst hR0
    have hXe : X = (up (up (up (up (up (up (up (up (up (up (up (up (up (up (up (up (up X 0 (X 0)) 6 (X 6)) 7 (X 7)) 8 (X 8)) 9 (X 9)) 10 (X 10)) 11 (X 11)) 13 (X 13)) 14 (X 14)) 15 (X 15)) 16 (X 16)) 18 (X 18)) 19 (X 19)) 20 (X 20)) 22 (X 22)) 23 (X 23)) 24 (X 24)) := by
      funext j
      by_cases h0 : j = 0
      · subst h0; simp [up]
      by_cases h6 : j = 6
      · subst h6; simp [up]
      by_cases h7 : j = 7
      · subst h7; simp [up]
      by_cases h8 : j = 8
      · subst h8; simp [up]
      by_cases h9 : j = 9
      · subst h9; simp [up]
      by_cases h10 : j = 10
      · subst h10; simp [up]
      by_cases h11 : j = 11
      · subst h11; simp [up]
      by_cases h13 : j = 13
      · subst h13; simp [up]
      by_cases h14 : j = 14
      · subst h14; simp [up]
      by_cases h15 : j = 15
      · subst h15; simp [up]
      by_cases h16 : j = 16
      · subst h16; simp [up]
      by_cases h18 : j = 18
      · subst h18; simp [up]
      by_cases h19 : j = 19
      · subst h19; simp [up]
      by_cases h20 : j = 20
      · subst h20; simp [up]
      by_cases h22 : j = 22
      · subst h22; simp [up]
      by_cases h23 : j = 23
      · subst h23; simp [up]
      by_cases h24 : j = 24
      · subst h24; simp [up]
      simp [up, h0, h6, h7, h8, h9, h10, h11, h13, h14, h15, h16, h18, h19, h20, h22, h23, h24]
    rw [hXe] at hw
    exact hout 1 ls _ H locs _ _ zu1 ce q9 ht rfl hw h1 h2 h3 (by decide) (by decide)
  · have hinv := oi_t ht hinv
    refine lv_aload_n hx hb dX9_reasonFor_4 rfl (lv_at hl 0 rfl) ?_
    obtain ⟨zu2, hzu2, hinv⟩ := ob hinv
    refine s_vXv (tag := zu2.1) C hw (As := []) bX9_demandTold k408 (k := 0) (q47 hN rfl) (sh_0 g cy _) rfl (c_X9_demandTold (X := X) hfl hX hzu2) rfl rfl dX9_reasonFor_5 ⟨rfl, rfl⟩ (by decide) hl.1 (Nat.le_of_ble_eq_true rfl) ⟨Nat.le_of_ble_eq_true rfl, Nat.le_of_ble_eq_true rfl⟩ (fun ce q9 H locs ht hw h1 h2 h3 => ?_) (fun H locs ht hw => ?_)
    · have hinv := oi_f ht hinv
      have hR0 := (Option.some.inj hinv).symm
      subst hR0
      exact hout 5 ls _ H locs _ _ zu2.1 ce q9 ht rfl hw h1 h2 h3 (by decide) (by decide)
    · have hinv := oi_t ht hinv
      refine lv_iconst (v := 0) hx hb dX9_reasonFor_8 (by decide) ?_
      refine lv_istore_n (lv' := [(2, .int 0), (0, .ref (g 0)), (1, .int za1)]) hx hb dX9_reasonFor_9 rfl hl (by decide) rfl (fun ls hl => ?_)
      have hl10 : ∀ (n : Nat) (x2_10 : Int32) (q0_10 : Nat → Int32) (q6_10 : Nat → Int32) (q7_10 : Nat → Int32) (q8_10 : Nat → Int32) (q9_10 : Nat → Int32) (q10_10 : Nat → Int32) (q11_10 : Nat → Int32) (q13_10 : Nat → Int32) (q14_10 : Nat → Int32) (q15_10 : Nat → Int32) (q16_10 : Nat → Int32) (q18_10 : Nat → Int32) (q19_10 : Nat → Int32) (q20_10 : Nat → Int32) (q22_10 : Nat → Int32) (q23_10 : Nat → Int32) (q24_10 : Nat → Int32), m_X9_reasonFor_L10 F za1 n x2_10 q0_10 q6_10 q7_10 q8_10 q9_10 q10_10 q11_10 q13_10 q14_10 q15_10 q16_10 q18_10 q19_10 q20_10 q22_10 q23_10 q24_10 = some R0 → ∀ (H : Heap) (locs : List Loc) (ls : Array Slot), Wd D A s.heap g N (shp g cy (up (up (up (up (up (up (up (up (up (up (up (up (up (up (up (up (up X 0 q0_10) 6 q6_10) 7 q7_10) 8 q8_10) 9 q9_10) 10 q10_10) 11 q11_10) 13 q13_10) 14 q14_10) 15 q15_10) 16 q16_10) 18 q18_10) 19 q19_10) 20 q20_10) 22 q22_10) 23 q23_10) 24 q24_10)) H locs → lv_has ls 3 [(2, .int x2_10), (0, .ref (g 0)), (1, .int za1)] → W p l e (wR 9 10 80) s m args below meth c H locs 2 12 Q (F0 m 10 ls []) := by
        intro n
        induction n with
        | zero =>
          intro x2_10 q0_10 q6_10 q7_10 q8_10 q9_10 q10_10 q11_10 q13_10 q14_10 q15_10 q16_10 q18_10 q19_10 q20_10 q22_10 q23_10 q24_10 hinv
          cases hinv
        | succ n ih =>
          intro x2_10 q0_10 q6_10 q7_10 q8_10 q9_10 q10_10 q11_10 q13_10 q14_10 q15_10 q16_10 q18_10 q19_10 q20_10 q22_10 q23_10 q24_10 hinv H locs ls hw hl
          rw [m_X9_reasonFor_L10] at hinv
          refine lv_iload_n hx hb dX9_reasonFor_10 rfl (lv_at hl 0 rfl) ?_
          refine lv_aload_n hx hb dX9_reasonFor_11 rfl (lv_at hl 1 rfl) ?_
          refine w_get C hw (k := 0) (v := .ref (g 6)) (j := 2) (q47 hN rfl) (sh_0 g cy _) rfl (by decide) k319 rfl dX9_reasonFor_12 ?_
          refine w_getN C hw (k := 6) (v := .int (q6_10 5)) (j := 5) (q47 hN rfl) (sh_6 g cy _) rfl (by decide) k850 rfl dX9_reasonFor_15 ?_
          refine lv_icmp_ge (tgt := 53) hx hb dX9_reasonFor_18 (by decide) (fun c_18 => ?_) (fun c_18 => ?_)
          · have hinv := oi_t c_18 hinv
            refine lv_iconst (v := (-1)) hx hb dX9_reasonFor_53 (by decide) ?_
            have hR0 := (Option.some.inj hinv).symm
            subst hR0
            exact hret 54 ls (-1) _ _ _ _ rfl rfl hw (by decide) (by decide) dX9_reasonFor_54
          · have hinv := oi_f c_18 hinv
            refine lv_aload_n hx hb dX9_reasonFor_21 rfl (lv_at hl 1 rfl) ?_
            refine w_get C hw (k := 0) (v := .ref (g 6)) (j := 2) (q47 hN rfl) (sh_0 g cy _) rfl (by decide) k319 rfl dX9_reasonFor_22 ?_
            refine lv_iload_n hx hb dX9_reasonFor_25 rfl (lv_at hl 0 rfl) ?_
            obtain ⟨zu3, hzu3, hinv⟩ := ob hinv
            refine s_vRi (r0 := zu3) C hw (As := [.int x2_10]) bX0_conclusionAt k414 (k := 6) (q47 hN rfl) (sh_6 g cy _) rfl (c_X0_conclusionAt (X := (up (up (up (up (up (up (up (up (up (up (up (up (up (up (up (up (up X 0 q0_10) 6 q6_10) 7 q7_10) 8 q8_10) 9 q9_10) 10 q10_10) 11 q11_10) 13 q13_10) 14 q14_10) 15 q15_10) 16 q16_10) 18 q18_10) 19 q19_10) 20 q20_10) 22 q22_10) 23 q23_10) 24 q24_10)) hfl hN hzu3) rfl rfl dX9_reasonFor_26 ⟨rfl, rfl⟩ (by decide) hl.1 (Nat.le_of_ble_eq_true rfl) ⟨Nat.le_of_ble_eq_true rfl, Nat.le_of_ble_eq_true rfl⟩ ?_
            refine lv_iload_n hx hb dX9_reasonFor_29 rfl (lv_at hl 2 rfl) ?_
            refine lv_icmp_ne (tgt := 47) hx hb dX9_reasonFor_30 (by decide) (fun c_30 => ?_) (fun c_30 => ?_)
            · have hinv := oi_f c_30 hinv
              refine lv_iinc (v := (x2_10 + 1)) (lv' := [(2, .int (x2_10 + 1)), (0, .ref (g 0)), (1, .int za1)]) hx hb dX9_reasonFor_47 hl (k := 0) rfl (by rfl) (by decide) rfl (fun ls hl => ?_)
              refine lv_goto (tgt := 10) hx hb dX9_reasonFor_50 (by decide) ?_
              exact ih (x2_10 + 1) q0_10 q6_10 q7_10 q8_10 q9_10 q10_10 q11_10 q13_10 q14_10 q15_10 q16_10 q18_10 q19_10 q20_10 q22_10 q23_10 q24_10 hinv _ _ ls hw (lv_sub hl [0, 1, 2] rfl)
            · have hinv := oi_t c_30 hinv
              refine lv_aload_n hx hb dX9_reasonFor_33 rfl (lv_at hl 1 rfl) ?_
              refine w_get C hw (k := 0) (v := .ref (g 14)) (j := 4) (q47 hN rfl) (sh_0 g cy _) rfl (by decide) k325 rfl dX9_reasonFor_34 ?_
              refine lv_iload_n hx hb dX9_reasonFor_37 rfl (lv_at hl 0 rfl) ?_
              obtain ⟨zu4, hzu4, hinv⟩ := ob hinv
              refine s_vRi (r0 := zu4) C hw (As := [.int x2_10]) bX3_labelAt k424 (k := 14) (q47 hN rfl) (sh_14 g cy _) rfl (c_X3_labelAt (X := (up (up (up (up (up (up (up (up (up (up (up (up (up (up (up (up (up X 0 q0_10) 6 q6_10) 7 q7_10) 8 q8_10) 9 q9_10) 10 q10_10) 11 q11_10) 13 q13_10) 14 q14_10) 15 q15_10) 16 q16_10) 18 q18_10) 19 q19_10) 20 q20_10) 22 q22_10) 23 q23_10) 24 q24_10)) hfl hN hzu4) rfl rfl dX9_reasonFor_38 ⟨rfl, rfl⟩ (by decide) hl.1 (Nat.le_of_ble_eq_true rfl) ⟨Nat.le_of_ble_eq_true rfl, Nat.le_of_ble_eq_true rfl⟩ ?_
              refine lv_iconst (v := 2) hx hb dX9_reasonFor_41 (by decide) ?_
              refine lv_icmp_ne (tgt := 47) hx hb dX9_reasonFor_42 (by decide) (fun c_42 => ?_) (fun c_42 => ?_)
              · have hinv := oi_f c_42 hinv
                refine lv_iinc (v := (x2_10 + 1)) (lv' := [(2, .int (x2_10 + 1)), (0, .ref (g 0)), (1, .int za1)]) hx hb dX9_reasonFor_47 hl (k := 0) rfl (by rfl) (by decide) rfl (fun ls hl => ?_)
                refine lv_goto (tgt := 10) hx hb dX9_reasonFor_50 (by decide) ?_
                exact ih (x2_10 + 1) q0_10 q6_10 q7_10 q8_10 q9_10 q10_10 q11_10 q13_10 q14_10 q15_10 q16_10 q18_10 q19_10 q20_10 q22_10 q23_10 q24_10 hinv _ _ ls hw (lv_sub hl [0, 1, 2] rfl)
              · have hinv := oi_t c_42 hinv
                refine lv_iload_n hx hb dX9_reasonFor_45 rfl (lv_at hl 0 rfl) ?_
                have hR0 := (Option.some.inj hinv).symm
                subst hR0
                exact hret 46 ls x2_10 _ _ _ _ rfl rfl hw (by decide) (by decide) dX9_reasonFor_46
      exact hl10 F 0 zu2.2.1 zu2.2.2.1 zu2.2.2.2.1 zu2.2.2.2.2.1 zu2.2.2.2.2.2.1 zu2.2.2.2.2.2.2.1 zu2.2.2.2.2.2.2.2.1 zu2.2.2.2.2.2.2.2.2.1 zu2.2.2.2.2.2.2.2.2.2.1 zu2.2.2.2.2.2.2.2.2.2.2.1 zu2.2.2.2.2.2.2.2.2.2.2.2.1 zu2.2.2.2.2.2.2.2.2.2.2.2.2.1 zu2.2.2.2.2.2.2.2.2.2.2.2.2.2.1 zu2.2.2.2.2.2.2.2.2.2.2.2.2.2.2.1 zu2.2.2.2.2.2.2.2.2.2.2.2.2.2.2.2.1 zu2.2.2.2.2.2.2.2.2.2.2.2.2.2.2.2.2.1 zu2.2.2.2.2.2.2.2.2.2.2.2.2.2.2.2.2.2 hinv _ _ ls hw (lv_sub hl [0, 1, 2] rfl)
def m_X9_reasonAgainst (F : Nat) (RR : Nat → Nat → Int32) (r0 : Nat → Int32) (r2 : Nat → Int32) (r4 : Nat → Int32) (r6 : Nat → Int32) (r7 : Nat → Int32) (r8 : Nat → Int32) (r9 : Nat → Int32) (r10 : Nat → Int32) (r11 : Nat → Int32) (r13 : Nat → Int32) (r14 : Nat → Int32) (r15 : Nat → Int32) (r16 : Nat → Int32) (r18 : Nat → Int32) (r19 : Nat → Int32) (r20 : Nat → Int32) (r22 : Nat → Int32) (r23 : Nat → Int32) (r24 : Nat → Int32) (za1 : Int32) : Option (Nat × Int32 × (Nat → Int32) × (Nat → Int32) × (Nat → Int32) × (Nat → Int32) × (Nat → Int32) × (Nat → Int32) × (Nat → Int32) × (Nat → Int32) × (Nat → Int32) × (Nat → Int32) × (Nat → Int32) × (Nat → Int32) × (Nat → Int32) × (Nat → Int32) × (Nat → Int32) × (Nat → Int32) × (Nat → Int32)) := Option.bind (m_X9_demandTold F RR r0 r2 r4 r6 r7 r8 r9 r10 r11 r13 r14 r15 r16 r18 r19 r20 r22 r23 r24) (fun zu1 => if zu1.1 = 0 then (Option.bind (m_X9_demandArgument F zu1.2.2.1 za1) (fun zu2 => if zu2 = 0 then (Option.bind (m_X9_lowestAttacker F zu1.2.2.1 zu1.2.2.2.2.2.2.2.2.1 zu1.2.2.2.2.2.2.2.2.2.1 za1 2) (fun zu3 => if zu3 = (-1) then (Option.bind (m_X9_lowestAttacker F zu1.2.2.1 zu1.2.2.2.2.2.2.2.2.1 zu1.2.2.2.2.2.2.2.2.2.1 za1 1) (fun zu4 => some (0, zu4, zu1.2.1, zu1.2.2.1, zu1.2.2.2.1, zu1.2.2.2.2.1, zu1.2.2.2.2.2.1, zu1.2.2.2.2.2.2.1, zu1.2.2.2.2.2.2.2.1, zu1.2.2.2.2.2.2.2.2.1, zu1.2.2.2.2.2.2.2.2.2.1, zu1.2.2.2.2.2.2.2.2.2.2.1, zu1.2.2.2.2.2.2.2.2.2.2.2.1, zu1.2.2.2.2.2.2.2.2.2.2.2.2.1, zu1.2.2.2.2.2.2.2.2.2.2.2.2.2.1, zu1.2.2.2.2.2.2.2.2.2.2.2.2.2.2.1, zu1.2.2.2.2.2.2.2.2.2.2.2.2.2.2.2.1, zu1.2.2.2.2.2.2.2.2.2.2.2.2.2.2.2.2.1, zu1.2.2.2.2.2.2.2.2.2.2.2.2.2.2.2.2.2))) else (some (0, zu3, zu1.2.1, zu1.2.2.1, zu1.2.2.2.1, zu1.2.2.2.2.1, zu1.2.2.2.2.2.1, zu1.2.2.2.2.2.2.1, zu1.2.2.2.2.2.2.2.1, zu1.2.2.2.2.2.2.2.2.1, zu1.2.2.2.2.2.2.2.2.2.1, zu1.2.2.2.2.2.2.2.2.2.2.1, zu1.2.2.2.2.2.2.2.2.2.2.2.1, zu1.2.2.2.2.2.2.2.2.2.2.2.2.1, zu1.2.2.2.2.2.2.2.2.2.2.2.2.2.1, zu1.2.2.2.2.2.2.2.2.2.2.2.2.2.2.1, zu1.2.2.2.2.2.2.2.2.2.2.2.2.2.2.2.1, zu1.2.2.2.2.2.2.2.2.2.2.2.2.2.2.2.2.1, zu1.2.2.2.2.2.2.2.2.2.2.2.2.2.2.2.2.2)))) else some (zu2, 0, zu1.2.1, zu1.2.2.1, zu1.2.2.2.1, zu1.2.2.2.2.1, zu1.2.2.2.2.2.1, zu1.2.2.2.2.2.2.1, zu1.2.2.2.2.2.2.2.1, zu1.2.2.2.2.2.2.2.2.1, zu1.2.2.2.2.2.2.2.2.2.1, zu1.2.2.2.2.2.2.2.2.2.2.1, zu1.2.2.2.2.2.2.2.2.2.2.2.1, zu1.2.2.2.2.2.2.2.2.2.2.2.2.1, zu1.2.2.2.2.2.2.2.2.2.2.2.2.2.1, zu1.2.2.2.2.2.2.2.2.2.2.2.2.2.2.1, zu1.2.2.2.2.2.2.2.2.2.2.2.2.2.2.2.1, zu1.2.2.2.2.2.2.2.2.2.2.2.2.2.2.2.2.1, zu1.2.2.2.2.2.2.2.2.2.2.2.2.2.2.2.2.2))) else some (zu1.1, 0, zu1.2.1, zu1.2.2.1, zu1.2.2.2.1, zu1.2.2.2.2.1, zu1.2.2.2.2.2.1, zu1.2.2.2.2.2.2.1, zu1.2.2.2.2.2.2.2.1, zu1.2.2.2.2.2.2.2.2.1, zu1.2.2.2.2.2.2.2.2.2.1, zu1.2.2.2.2.2.2.2.2.2.2.1, zu1.2.2.2.2.2.2.2.2.2.2.2.1, zu1.2.2.2.2.2.2.2.2.2.2.2.2.1, zu1.2.2.2.2.2.2.2.2.2.2.2.2.2.1, zu1.2.2.2.2.2.2.2.2.2.2.2.2.2.2.1, zu1.2.2.2.2.2.2.2.2.2.2.2.2.2.2.2.1, zu1.2.2.2.2.2.2.2.2.2.2.2.2.2.2.2.2.1, zu1.2.2.2.2.2.2.2.2.2.2.2.2.2.2.2.2.2))
set_option maxHeartbeats 4000000 in
set_option maxRecDepth 100000 in
theorem c_X9_reasonAgainst {l : Launch} {D : va_G} {cy : Nat → Nat} {g : Nat → Nat} {N : Nat} {X : Nat → Nat → Int32} {RR : Nat → Nat → Int32} {F : Nat} {za1 : Int32} {R0 : Nat × Int32 × (Nat → Int32) × (Nat → Int32) × (Nat → Int32) × (Nat → Int32) × (Nat → Int32) × (Nat → Int32) × (Nat → Int32) × (Nat → Int32) × (Nat → Int32) × (Nat → Int32) × (Nat → Int32) × (Nat → Int32) × (Nat → Int32) × (Nat → Int32) × (Nat → Int32) × (Nat → Int32) × (Nat → Int32)} (hfl : l.stackTraces = false) (hX : rok X RR N) (hinv : m_X9_reasonAgainst F RR (X 0) (X 2) (X 4) (X 6) (X 7) (X 8) (X 9) (X 10) (X 11) (X 13) (X 14) (X 15) (X 16) (X 18) (X 19) (X 20) (X 22) (X 23) (X 24) za1 = some R0) : sXi l D cy yX9_reasonAgainst cX9_reasonAgainst 3 (some .int) 9 10 80 [.ref (g 0), .int za1] g N X R0.1 R0.2.1 (up (up (up (up (up (up (up (up (up (up (up (up (up (up (up (up (up X 0 R0.2.2.1) 6 R0.2.2.2.1) 7 R0.2.2.2.2.1) 8 R0.2.2.2.2.2.1) 9 R0.2.2.2.2.2.2.1) 10 R0.2.2.2.2.2.2.2.1) 11 R0.2.2.2.2.2.2.2.2.1) 13 R0.2.2.2.2.2.2.2.2.2.1) 14 R0.2.2.2.2.2.2.2.2.2.2.1) 15 R0.2.2.2.2.2.2.2.2.2.2.2.1) 16 R0.2.2.2.2.2.2.2.2.2.2.2.2.1) 18 R0.2.2.2.2.2.2.2.2.2.2.2.2.2.1) 19 R0.2.2.2.2.2.2.2.2.2.2.2.2.2.2.1) 20 R0.2.2.2.2.2.2.2.2.2.2.2.2.2.2.2.1) 22 R0.2.2.2.2.2.2.2.2.2.2.2.2.2.2.2.2.1) 23 R0.2.2.2.2.2.2.2.2.2.2.2.2.2.2.2.2.2.1) 24 R0.2.2.2.2.2.2.2.2.2.2.2.2.2.2.2.2.2.2) := by
  refine jXi (by decide) rfl hfl (Nat.le_of_ble_eq_true rfl) rfl ?_
  intro p e R s m args below meth c ls A Q hRe C hw hl hret hthr hout
  subst hRe
  have hx := C.1
  have hb := C.2.1
  have hN := hX.1
  have hl : lv_has ls 3 [(0, .ref (g 0)), (1, .int za1)] := hl
  rw [m_X9_reasonAgainst] at hinv
  refine lv_aload_n hx hb dX9_reasonAgainst_0 rfl (lv_at hl 0 rfl) ?_
  obtain ⟨zu1, hzu1, hinv⟩ := ob hinv
  refine s_vXv (tag := zu1.1) C hw (As := []) bX9_demandTold k408 (k := 0) (q47 hN rfl) (sh_0 g cy _) rfl (c_X9_demandTold (X := X) hfl hX hzu1) rfl rfl dX9_reasonAgainst_1 ⟨rfl, rfl⟩ (by decide) hl.1 (Nat.le_of_ble_eq_true rfl) ⟨Nat.le_of_ble_eq_true rfl, Nat.le_of_ble_eq_true rfl⟩ (fun ce q9 H locs ht hw h1 h2 h3 => ?_) (fun H locs ht hw => ?_)
  · have hinv := oi_f ht hinv
    have hR0 := (Option.some.inj hinv).symm
    subst hR0
    exact hout 1 ls _ H locs _ _ zu1.1 ce q9 ht rfl hw h1 h2 h3 (by decide) (by decide)
  · have hinv := oi_t ht hinv
    refine lv_aload_n hx hb dX9_reasonAgainst_4 rfl (lv_at hl 0 rfl) ?_
    refine lv_iload_n hx hb dX9_reasonAgainst_5 rfl (lv_at hl 1 rfl) ?_
    obtain ⟨zu2, hzu2, hinv⟩ := ob hinv
    refine s_vXv (tag := zu2) C hw (As := [.int za1]) bX9_demandArgument k411 (k := 0) (q47 hN rfl) (sh_0 g cy _) rfl (c_X9_demandArgument (X := (up (up (up (up (up (up (up (up (up (up (up (up (up (up (up (up (up X 0 zu1.2.1) 6 zu1.2.2.1) 7 zu1.2.2.2.1) 8 zu1.2.2.2.2.1) 9 zu1.2.2.2.2.2.1) 10 zu1.2.2.2.2.2.2.1) 11 zu1.2.2.2.2.2.2.2.1) 13 zu1.2.2.2.2.2.2.2.2.1) 14 zu1.2.2.2.2.2.2.2.2.2.1) 15 zu1.2.2.2.2.2.2.2.2.2.2.1) 16 zu1.2.2.2.2.2.2.2.2.2.2.2.1) 18 zu1.2.2.2.2.2.2.2.2.2.2.2.2.1) 19 zu1.2.2.2.2.2.2.2.2.2.2.2.2.2.1) 20 zu1.2.2.2.2.2.2.2.2.2.2.2.2.2.2.1) 22 zu1.2.2.2.2.2.2.2.2.2.2.2.2.2.2.2.1) 23 zu1.2.2.2.2.2.2.2.2.2.2.2.2.2.2.2.2.1) 24 zu1.2.2.2.2.2.2.2.2.2.2.2.2.2.2.2.2.2)) hfl hN hzu2) rfl rfl dX9_reasonAgainst_6 ⟨rfl, rfl⟩ (by decide) hl.1 (Nat.le_of_ble_eq_true rfl) ⟨Nat.le_of_ble_eq_true rfl, Nat.le_of_ble_eq_true rfl⟩ (fun ce q9 H locs ht hw h1 h2 h3 => ?_) (fun H locs ht hw => ?_)
    · have hinv := oi_f ht hinv
      have hR0 := (Option.some.inj hinv).symm
      subst hR0
      exact hout 6 ls _ H locs _ _ zu2 ce q9 ht rfl hw h1 h2 h3 (by decide) (by decide)
    · have hinv := oi_t ht hinv
      refine lv_aload_n hx hb dX9_reasonAgainst_9 rfl (lv_at hl 0 rfl) ?_
      refine lv_iload_n hx hb dX9_reasonAgainst_10 rfl (lv_at hl 1 rfl) ?_
      refine lv_iconst (v := 2) hx hb dX9_reasonAgainst_11 (by decide) ?_
      obtain ⟨zu3, hzu3, hinv⟩ := ob hinv
      refine s_vRi (r0 := zu3) C hw (As := [.int za1, .int 2]) bX9_lowestAttacker k434 (k := 0) (q47 hN rfl) (sh_0 g cy _) rfl (c_X9_lowestAttacker (X := (up (up (up (up (up (up (up (up (up (up (up (up (up (up (up (up (up X 0 zu1.2.1) 6 zu1.2.2.1) 7 zu1.2.2.2.1) 8 zu1.2.2.2.2.1) 9 zu1.2.2.2.2.2.1) 10 zu1.2.2.2.2.2.2.1) 11 zu1.2.2.2.2.2.2.2.1) 13 zu1.2.2.2.2.2.2.2.2.1) 14 zu1.2.2.2.2.2.2.2.2.2.1) 15 zu1.2.2.2.2.2.2.2.2.2.2.1) 16 zu1.2.2.2.2.2.2.2.2.2.2.2.1) 18 zu1.2.2.2.2.2.2.2.2.2.2.2.2.1) 19 zu1.2.2.2.2.2.2.2.2.2.2.2.2.2.1) 20 zu1.2.2.2.2.2.2.2.2.2.2.2.2.2.2.1) 22 zu1.2.2.2.2.2.2.2.2.2.2.2.2.2.2.2.1) 23 zu1.2.2.2.2.2.2.2.2.2.2.2.2.2.2.2.2.1) 24 zu1.2.2.2.2.2.2.2.2.2.2.2.2.2.2.2.2.2)) hfl hN hzu3) rfl rfl dX9_reasonAgainst_12 ⟨rfl, rfl⟩ (by decide) hl.1 (Nat.le_of_ble_eq_true rfl) ⟨Nat.le_of_ble_eq_true rfl, Nat.le_of_ble_eq_true rfl⟩ ?_
      refine lv_istore_n (lv' := [(2, .int zu3), (0, .ref (g 0)), (1, .int za1)]) hx hb dX9_reasonAgainst_15 rfl hl (by decide) rfl (fun ls hl => ?_)
      refine lv_iload_n hx hb dX9_reasonAgainst_16 rfl (lv_at hl 0 rfl) ?_
      refine lv_iconst (v := (-1)) hx hb dX9_reasonAgainst_17 (by decide) ?_
      refine lv_icmp_eq (tgt := 25) hx hb dX9_reasonAgainst_18 (by decide) (fun c_18 => ?_) (fun c_18 => ?_)
      · have hinv := oi_t c_18 hinv
        refine lv_aload_n hx hb dX9_reasonAgainst_25 rfl (lv_at hl 1 rfl) ?_
        refine lv_iload_n hx hb dX9_reasonAgainst_26 rfl (lv_at hl 2 rfl) ?_
        refine lv_iconst (v := 1) hx hb dX9_reasonAgainst_27 (by decide) ?_
        obtain ⟨zu4, hzu4, hinv⟩ := ob hinv
        refine s_vRi (r0 := zu4) C hw (As := [.int za1, .int 1]) bX9_lowestAttacker k434 (k := 0) (q47 hN rfl) (sh_0 g cy _) rfl (c_X9_lowestAttacker (X := (up (up (up (up (up (up (up (up (up (up (up (up (up (up (up (up (up X 0 zu1.2.1) 6 zu1.2.2.1) 7 zu1.2.2.2.1) 8 zu1.2.2.2.2.1) 9 zu1.2.2.2.2.2.1) 10 zu1.2.2.2.2.2.2.1) 11 zu1.2.2.2.2.2.2.2.1) 13 zu1.2.2.2.2.2.2.2.2.1) 14 zu1.2.2.2.2.2.2.2.2.2.1) 15 zu1.2.2.2.2.2.2.2.2.2.2.1) 16 zu1.2.2.2.2.2.2.2.2.2.2.2.1) 18 zu1.2.2.2.2.2.2.2.2.2.2.2.2.1) 19 zu1.2.2.2.2.2.2.2.2.2.2.2.2.2.1) 20 zu1.2.2.2.2.2.2.2.2.2.2.2.2.2.2.1) 22 zu1.2.2.2.2.2.2.2.2.2.2.2.2.2.2.2.1) 23 zu1.2.2.2.2.2.2.2.2.2.2.2.2.2.2.2.2.1) 24 zu1.2.2.2.2.2.2.2.2.2.2.2.2.2.2.2.2.2)) hfl hN hzu4) rfl rfl dX9_reasonAgainst_28 ⟨rfl, rfl⟩ (by decide) hl.1 (Nat.le_of_ble_eq_true rfl) ⟨Nat.le_of_ble_eq_true rfl, Nat.le_of_ble_eq_true rfl⟩ ?_
        have hR0 := (Option.some.inj hinv).symm
        subst hR0
        exact hret 31 ls zu4 _ _ _ _ rfl rfl hw (by decide) (by decide) dX9_reasonAgainst_31
      · have hinv := oi_f c_18 hinv
        refine lv_iload_n hx hb dX9_reasonAgainst_21 rfl (lv_at hl 0 rfl) ?_
        refine lv_goto (tgt := 31) hx hb dX9_reasonAgainst_22 (by decide) ?_
        have hR0 := (Option.some.inj hinv).symm
        subst hR0
        exact hret 31 ls zu3 _ _ _ _ rfl rfl hw (by decide) (by decide) dX9_reasonAgainst_31
def m_X9_preferred (F : Nat) (RR : Nat → Nat → Int32) (r0 : Nat → Int32) (r2 : Nat → Int32) (r4 : Nat → Int32) (r6 : Nat → Int32) (r7 : Nat → Int32) (r8 : Nat → Int32) (r9 : Nat → Int32) (r10 : Nat → Int32) (r11 : Nat → Int32) (r13 : Nat → Int32) (r14 : Nat → Int32) (r15 : Nat → Int32) (r16 : Nat → Int32) (r18 : Nat → Int32) (r19 : Nat → Int32) (r20 : Nat → Int32) (r22 : Nat → Int32) (r23 : Nat → Int32) (r24 : Nat → Int32) (r25 : Nat → Int32) (r26 : Nat → Int32) : Option (Nat × Int32 × (Nat → Int32) × (Nat → Int32) × (Nat → Int32) × (Nat → Int32) × (Nat → Int32) × (Nat → Int32) × (Nat → Int32) × (Nat → Int32) × (Nat → Int32) × (Nat → Int32) × (Nat → Int32) × (Nat → Int32) × (Nat → Int32) × (Nat → Int32) × (Nat → Int32) × (Nat → Int32) × (Nat → Int32) × (Nat → Int32) × (Nat → Int32)) := Option.bind (m_X9_demandFew F RR r0 r2 r4 r6 r7 r8 r9 r10 r11 r13 r14 r15 r16 r18 r19 r20 r22 r23 r24) (fun zu1 => if zu1.1 = 0 then (Option.bind (m_X9_trySets F zu1.2.1 zu1.2.2.2.2.2.2.2.2.2.2.2.1 zu1.2.2.2.2.2.2.2.2.2.2.2.2.2.1 zu1.2.2.2.2.2.2.2.2.2.2.2.2.2.2.1 zu1.2.2.2.2.2.2.2.2.2.2.2.2.2.2.2.2.1 zu1.2.2.2.2.2.2.2.2.2.2.2.2.2.2.2.2.2 r25 r26) (fun zu2 => some (0, (zu2.2.1 1), zu2.1, zu1.2.2.1, zu1.2.2.2.1, zu1.2.2.2.2.1, zu1.2.2.2.2.2.1, zu1.2.2.2.2.2.2.1, zu1.2.2.2.2.2.2.2.1, zu1.2.2.2.2.2.2.2.2.1, zu1.2.2.2.2.2.2.2.2.2.1, zu1.2.2.2.2.2.2.2.2.2.2.1, zu1.2.2.2.2.2.2.2.2.2.2.2.1, zu1.2.2.2.2.2.2.2.2.2.2.2.2.1, zu1.2.2.2.2.2.2.2.2.2.2.2.2.2.1, zu1.2.2.2.2.2.2.2.2.2.2.2.2.2.2.1, zu1.2.2.2.2.2.2.2.2.2.2.2.2.2.2.2.1, zu1.2.2.2.2.2.2.2.2.2.2.2.2.2.2.2.2.1, zu1.2.2.2.2.2.2.2.2.2.2.2.2.2.2.2.2.2, zu2.2.1, zu2.2.2))) else some (zu1.1, 0, zu1.2.1, zu1.2.2.1, zu1.2.2.2.1, zu1.2.2.2.2.1, zu1.2.2.2.2.2.1, zu1.2.2.2.2.2.2.1, zu1.2.2.2.2.2.2.2.1, zu1.2.2.2.2.2.2.2.2.1, zu1.2.2.2.2.2.2.2.2.2.1, zu1.2.2.2.2.2.2.2.2.2.2.1, zu1.2.2.2.2.2.2.2.2.2.2.2.1, zu1.2.2.2.2.2.2.2.2.2.2.2.2.1, zu1.2.2.2.2.2.2.2.2.2.2.2.2.2.1, zu1.2.2.2.2.2.2.2.2.2.2.2.2.2.2.1, zu1.2.2.2.2.2.2.2.2.2.2.2.2.2.2.2.1, zu1.2.2.2.2.2.2.2.2.2.2.2.2.2.2.2.2.1, zu1.2.2.2.2.2.2.2.2.2.2.2.2.2.2.2.2.2, r25, r26))
set_option maxHeartbeats 4000000 in
set_option maxRecDepth 100000 in
theorem c_X9_preferred {l : Launch} {D : va_G} {cy : Nat → Nat} {g : Nat → Nat} {N : Nat} {X : Nat → Nat → Int32} {RR : Nat → Nat → Int32} {F : Nat} {R0 : Nat × Int32 × (Nat → Int32) × (Nat → Int32) × (Nat → Int32) × (Nat → Int32) × (Nat → Int32) × (Nat → Int32) × (Nat → Int32) × (Nat → Int32) × (Nat → Int32) × (Nat → Int32) × (Nat → Int32) × (Nat → Int32) × (Nat → Int32) × (Nat → Int32) × (Nat → Int32) × (Nat → Int32) × (Nat → Int32) × (Nat → Int32) × (Nat → Int32)} (hfl : l.stackTraces = false) (hX : rok X RR N) (hinv : m_X9_preferred F RR (X 0) (X 2) (X 4) (X 6) (X 7) (X 8) (X 9) (X 10) (X 11) (X 13) (X 14) (X 15) (X 16) (X 18) (X 19) (X 20) (X 22) (X 23) (X 24) (X 25) (X 26) = some R0) : sXi l D cy yX9_preferred cX9_preferred 1 (some .int) 25 10 80 [.ref (g 0)] g N X R0.1 R0.2.1 (up (up (up (up (up (up (up (up (up (up (up (up (up (up (up (up (up (up (up X 0 R0.2.2.1) 6 R0.2.2.2.1) 7 R0.2.2.2.2.1) 8 R0.2.2.2.2.2.1) 9 R0.2.2.2.2.2.2.1) 10 R0.2.2.2.2.2.2.2.1) 11 R0.2.2.2.2.2.2.2.2.1) 13 R0.2.2.2.2.2.2.2.2.2.1) 14 R0.2.2.2.2.2.2.2.2.2.2.1) 15 R0.2.2.2.2.2.2.2.2.2.2.2.1) 16 R0.2.2.2.2.2.2.2.2.2.2.2.2.1) 18 R0.2.2.2.2.2.2.2.2.2.2.2.2.2.1) 19 R0.2.2.2.2.2.2.2.2.2.2.2.2.2.2.1) 20 R0.2.2.2.2.2.2.2.2.2.2.2.2.2.2.2.1) 22 R0.2.2.2.2.2.2.2.2.2.2.2.2.2.2.2.2.1) 23 R0.2.2.2.2.2.2.2.2.2.2.2.2.2.2.2.2.2.1) 24 R0.2.2.2.2.2.2.2.2.2.2.2.2.2.2.2.2.2.2.1) 25 R0.2.2.2.2.2.2.2.2.2.2.2.2.2.2.2.2.2.2.2.1) 26 R0.2.2.2.2.2.2.2.2.2.2.2.2.2.2.2.2.2.2.2.2) := by
  refine jXi (by decide) rfl hfl (Nat.le_of_ble_eq_true rfl) rfl ?_
  intro p e R s m args below meth c ls A Q hRe C hw hl hret hthr hout
  subst hRe
  have hx := C.1
  have hb := C.2.1
  have hN := hX.1
  have hl : lv_has ls 1 [(0, .ref (g 0))] := hl
  rw [m_X9_preferred] at hinv
  refine lv_aload_n hx hb dX9_preferred_0 rfl (lv_at hl 0 rfl) ?_
  obtain ⟨zu1, hzu1, hinv⟩ := ob hinv
  refine s_vXv (tag := zu1.1) C hw (As := []) bX9_demandFew k443 (k := 0) (q47 hN rfl) (sh_0 g cy _) rfl (c_X9_demandFew (X := X) hfl hX hzu1) rfl rfl dX9_preferred_1 ⟨rfl, rfl⟩ (by decide) hl.1 (Nat.le_of_ble_eq_true rfl) ⟨Nat.le_of_ble_eq_true rfl, Nat.le_of_ble_eq_true rfl⟩ (fun ce q9 H locs ht hw h1 h2 h3 => ?_) (fun H locs ht hw => ?_)
  · have hinv := oi_f ht hinv
    have hR0 := (Option.some.inj hinv).symm
    subst hR0
    have hXe : (up (up (up (up (up (up (up (up (up (up (up (up (up (up (up (up (up X 0 zu1.2.1) 6 zu1.2.2.1) 7 zu1.2.2.2.1) 8 zu1.2.2.2.2.1) 9 zu1.2.2.2.2.2.1) 10 zu1.2.2.2.2.2.2.1) 11 zu1.2.2.2.2.2.2.2.1) 13 zu1.2.2.2.2.2.2.2.2.1) 14 zu1.2.2.2.2.2.2.2.2.2.1) 15 zu1.2.2.2.2.2.2.2.2.2.2.1) 16 zu1.2.2.2.2.2.2.2.2.2.2.2.1) 18 zu1.2.2.2.2.2.2.2.2.2.2.2.2.1) 19 zu1.2.2.2.2.2.2.2.2.2.2.2.2.2.1) 20 zu1.2.2.2.2.2.2.2.2.2.2.2.2.2.2.1) 22 zu1.2.2.2.2.2.2.2.2.2.2.2.2.2.2.2.1) 23 zu1.2.2.2.2.2.2.2.2.2.2.2.2.2.2.2.2.1) 24 zu1.2.2.2.2.2.2.2.2.2.2.2.2.2.2.2.2.2) = (up (up (up (up (up (up (up (up (up (up (up (up (up (up (up (up (up (up (up X 0 zu1.2.1) 6 zu1.2.2.1) 7 zu1.2.2.2.1) 8 zu1.2.2.2.2.1) 9 zu1.2.2.2.2.2.1) 10 zu1.2.2.2.2.2.2.1) 11 zu1.2.2.2.2.2.2.2.1) 13 zu1.2.2.2.2.2.2.2.2.1) 14 zu1.2.2.2.2.2.2.2.2.2.1) 15 zu1.2.2.2.2.2.2.2.2.2.2.1) 16 zu1.2.2.2.2.2.2.2.2.2.2.2.1) 18 zu1.2.2.2.2.2.2.2.2.2.2.2.2.1) 19 zu1.2.2.2.2.2.2.2.2.2.2.2.2.2.1) 20 zu1.2.2.2.2.2.2.2.2.2.2.2.2.2.2.1) 22 zu1.2.2.2.2.2.2.2.2.2.2.2.2.2.2.2.1) 23 zu1.2.2.2.2.2.2.2.2.2.2.2.2.2.2.2.2.1) 24 zu1.2.2.2.2.2.2.2.2.2.2.2.2.2.2.2.2.2) 25 (X 25)) 26 (X 26)) := by
      funext j
      by_cases h0 : j = 0
      · subst h0; simp [up]
      by_cases h6 : j = 6
      · subst h6; simp [up]
      by_cases h7 : j = 7
      · subst h7; simp [up]
      by_cases h8 : j = 8
      · subst h8; simp [up]
      by_cases h9 : j = 9
      · subst h9; simp [up]
      by_cases h10 : j = 10
      · subst h10; simp [up]
      by_cases h11 : j = 11
      · subst h11; simp [up]
      by_cases h13 : j = 13
      · subst h13; simp [up]
      by_cases h14 : j = 14
      · subst h14; simp [up]
      by_cases h15 : j = 15
      · subst h15; simp [up]
      by_cases h16 : j = 16
      · subst h16; simp [up]
      by_cases h18 : j = 18
      · subst h18; simp [up]
      by_cases h19 : j = 19
      · subst h19; simp [up]
      by_cases h20 : j = 20
      · subst h20; simp [up]
      by_cases h22 : j = 22
      · subst h22; simp [up]
      by_cases h23 : j = 23
      · subst h23; simp [up]
      by_cases h24 : j = 24
      · subst h24; simp [up]
      by_cases h25 : j = 25
      · subst h25; simp [up]
      by_cases h26 : j = 26
      · subst h26; simp [up]
      simp [up, h0, h6, h7, h8, h9, h10, h11, h13, h14, h15, h16, h18, h19, h20, h22, h23, h24, h25, h26]
    rw [hXe] at hw
    exact hout 1 ls _ H locs _ _ zu1.1 ce q9 ht rfl hw h1 h2 h3 (by decide) (by decide)
  · have hinv := oi_t ht hinv
    refine lv_aload_n hx hb dX9_preferred_4 rfl (lv_at hl 0 rfl) ?_
    obtain ⟨zu2, hzu2, hinv⟩ := ob hinv
    refine s_vWv C hw (As := []) bX9_trySets k446 (k := 0) (q47 hN rfl) (sh_0 g cy _) rfl (c_X9_trySets (X := (up (up (up (up (up (up (up (up (up (up (up (up (up (up (up (up (up X 0 zu1.2.1) 6 zu1.2.2.1) 7 zu1.2.2.2.1) 8 zu1.2.2.2.2.1) 9 zu1.2.2.2.2.2.1) 10 zu1.2.2.2.2.2.2.1) 11 zu1.2.2.2.2.2.2.2.1) 13 zu1.2.2.2.2.2.2.2.2.1) 14 zu1.2.2.2.2.2.2.2.2.2.1) 15 zu1.2.2.2.2.2.2.2.2.2.2.1) 16 zu1.2.2.2.2.2.2.2.2.2.2.2.1) 18 zu1.2.2.2.2.2.2.2.2.2.2.2.2.1) 19 zu1.2.2.2.2.2.2.2.2.2.2.2.2.2.1) 20 zu1.2.2.2.2.2.2.2.2.2.2.2.2.2.2.1) 22 zu1.2.2.2.2.2.2.2.2.2.2.2.2.2.2.2.1) 23 zu1.2.2.2.2.2.2.2.2.2.2.2.2.2.2.2.2.1) 24 zu1.2.2.2.2.2.2.2.2.2.2.2.2.2.2.2.2.2)) hfl hN hzu2) rfl rfl dX9_preferred_5 ⟨rfl, rfl⟩ (by decide) hl.1 (Nat.le_of_ble_eq_true rfl) ⟨Nat.le_of_ble_eq_true rfl, Nat.le_of_ble_eq_true rfl⟩ (fun H locs hw => ?_)
    refine lv_aload_n hx hb dX9_preferred_8 rfl (lv_at hl 0 rfl) ?_
    refine w_get C hw (k := 0) (v := .ref (g 16)) (j := 5) (q47 hN rfl) (sh_0 g cy _) rfl (by decide) k328 rfl dX9_preferred_9 ?_
    refine w_getN C hw (k := 16) (v := .ref (g 25)) (j := 2) (q47 hN rfl) (sh_16 g cy _) rfl (by decide) k858 rfl dX9_preferred_12 ?_
    refine w_getN C hw (k := 25) (v := .int (zu2.2.1 1)) (j := 1) (q47 hN rfl) (sh_25 g cy _) rfl (by decide) k857 rfl dX9_preferred_15 ?_
    have hR0 := (Option.some.inj hinv).symm
    subst hR0
    have hXe : (up (up (up (up (up (up (up (up (up (up (up (up (up (up (up (up (up (up (up (up X 0 zu1.2.1) 6 zu1.2.2.1) 7 zu1.2.2.2.1) 8 zu1.2.2.2.2.1) 9 zu1.2.2.2.2.2.1) 10 zu1.2.2.2.2.2.2.1) 11 zu1.2.2.2.2.2.2.2.1) 13 zu1.2.2.2.2.2.2.2.2.1) 14 zu1.2.2.2.2.2.2.2.2.2.1) 15 zu1.2.2.2.2.2.2.2.2.2.2.1) 16 zu1.2.2.2.2.2.2.2.2.2.2.2.1) 18 zu1.2.2.2.2.2.2.2.2.2.2.2.2.1) 19 zu1.2.2.2.2.2.2.2.2.2.2.2.2.2.1) 20 zu1.2.2.2.2.2.2.2.2.2.2.2.2.2.2.1) 22 zu1.2.2.2.2.2.2.2.2.2.2.2.2.2.2.2.1) 23 zu1.2.2.2.2.2.2.2.2.2.2.2.2.2.2.2.2.1) 24 zu1.2.2.2.2.2.2.2.2.2.2.2.2.2.2.2.2.2) 0 zu2.1) 25 zu2.2.1) 26 zu2.2.2) = (up (up (up (up (up (up (up (up (up (up (up (up (up (up (up (up (up (up (up X 0 zu2.1) 6 zu1.2.2.1) 7 zu1.2.2.2.1) 8 zu1.2.2.2.2.1) 9 zu1.2.2.2.2.2.1) 10 zu1.2.2.2.2.2.2.1) 11 zu1.2.2.2.2.2.2.2.1) 13 zu1.2.2.2.2.2.2.2.2.1) 14 zu1.2.2.2.2.2.2.2.2.2.1) 15 zu1.2.2.2.2.2.2.2.2.2.2.1) 16 zu1.2.2.2.2.2.2.2.2.2.2.2.1) 18 zu1.2.2.2.2.2.2.2.2.2.2.2.2.1) 19 zu1.2.2.2.2.2.2.2.2.2.2.2.2.2.1) 20 zu1.2.2.2.2.2.2.2.2.2.2.2.2.2.2.1) 22 zu1.2.2.2.2.2.2.2.2.2.2.2.2.2.2.2.1) 23 zu1.2.2.2.2.2.2.2.2.2.2.2.2.2.2.2.2.1) 24 zu1.2.2.2.2.2.2.2.2.2.2.2.2.2.2.2.2.2) 25 zu2.2.1) 26 zu2.2.2) := by
      funext j
      by_cases h0 : j = 0
      · subst h0; simp [up]
      by_cases h6 : j = 6
      · subst h6; simp [up]
      by_cases h7 : j = 7
      · subst h7; simp [up]
      by_cases h8 : j = 8
      · subst h8; simp [up]
      by_cases h9 : j = 9
      · subst h9; simp [up]
      by_cases h10 : j = 10
      · subst h10; simp [up]
      by_cases h11 : j = 11
      · subst h11; simp [up]
      by_cases h13 : j = 13
      · subst h13; simp [up]
      by_cases h14 : j = 14
      · subst h14; simp [up]
      by_cases h15 : j = 15
      · subst h15; simp [up]
      by_cases h16 : j = 16
      · subst h16; simp [up]
      by_cases h18 : j = 18
      · subst h18; simp [up]
      by_cases h19 : j = 19
      · subst h19; simp [up]
      by_cases h20 : j = 20
      · subst h20; simp [up]
      by_cases h22 : j = 22
      · subst h22; simp [up]
      by_cases h23 : j = 23
      · subst h23; simp [up]
      by_cases h24 : j = 24
      · subst h24; simp [up]
      by_cases h25 : j = 25
      · subst h25; simp [up]
      by_cases h26 : j = 26
      · subst h26; simp [up]
      simp [up, h0, h6, h7, h8, h9, h10, h11, h13, h14, h15, h16, h18, h19, h20, h22, h23, h24, h25, h26]
    rw [hXe] at hw
    exact hret 18 ls (zu2.2.1 1) _ _ _ _ rfl rfl hw (by decide) (by decide) dX9_preferred_18
def m_X9_preferredByAllSets (F : Nat) (RR : Nat → Nat → Int32) (r0 : Nat → Int32) (r2 : Nat → Int32) (r4 : Nat → Int32) (r6 : Nat → Int32) (r7 : Nat → Int32) (r8 : Nat → Int32) (r9 : Nat → Int32) (r10 : Nat → Int32) (r11 : Nat → Int32) (r13 : Nat → Int32) (r14 : Nat → Int32) (r15 : Nat → Int32) (r16 : Nat → Int32) (r18 : Nat → Int32) (r19 : Nat → Int32) (r20 : Nat → Int32) (r22 : Nat → Int32) (r23 : Nat → Int32) (r24 : Nat → Int32) (r27 : Nat → Int32) (r28 : Nat → Int32) : Option (Nat × Int32 × (Nat → Int32) × (Nat → Int32) × (Nat → Int32) × (Nat → Int32) × (Nat → Int32) × (Nat → Int32) × (Nat → Int32) × (Nat → Int32) × (Nat → Int32) × (Nat → Int32) × (Nat → Int32) × (Nat → Int32) × (Nat → Int32) × (Nat → Int32) × (Nat → Int32) × (Nat → Int32) × (Nat → Int32) × (Nat → Int32) × (Nat → Int32)) := Option.bind (m_X9_demandFew F RR r0 r2 r4 r6 r7 r8 r9 r10 r11 r13 r14 r15 r16 r18 r19 r20 r22 r23 r24) (fun zu1 => if zu1.1 = 0 then (Option.bind (m_X9_sweepSets F zu1.2.1 zu1.2.2.2.2.2.2.2.2.2.2.2.1 zu1.2.2.2.2.2.2.2.2.2.2.2.2.2.1 zu1.2.2.2.2.2.2.2.2.2.2.2.2.2.2.1 zu1.2.2.2.2.2.2.2.2.2.2.2.2.2.2.2.2.1 zu1.2.2.2.2.2.2.2.2.2.2.2.2.2.2.2.2.2 r27 r28) (fun zu2 => some (0, (zu2.2.1 1), zu2.1, zu1.2.2.1, zu1.2.2.2.1, zu1.2.2.2.2.1, zu1.2.2.2.2.2.1, zu1.2.2.2.2.2.2.1, zu1.2.2.2.2.2.2.2.1, zu1.2.2.2.2.2.2.2.2.1, zu1.2.2.2.2.2.2.2.2.2.1, zu1.2.2.2.2.2.2.2.2.2.2.1, zu1.2.2.2.2.2.2.2.2.2.2.2.1, zu1.2.2.2.2.2.2.2.2.2.2.2.2.1, zu1.2.2.2.2.2.2.2.2.2.2.2.2.2.1, zu1.2.2.2.2.2.2.2.2.2.2.2.2.2.2.1, zu1.2.2.2.2.2.2.2.2.2.2.2.2.2.2.2.1, zu1.2.2.2.2.2.2.2.2.2.2.2.2.2.2.2.2.1, zu1.2.2.2.2.2.2.2.2.2.2.2.2.2.2.2.2.2, zu2.2.1, zu2.2.2))) else some (zu1.1, 0, zu1.2.1, zu1.2.2.1, zu1.2.2.2.1, zu1.2.2.2.2.1, zu1.2.2.2.2.2.1, zu1.2.2.2.2.2.2.1, zu1.2.2.2.2.2.2.2.1, zu1.2.2.2.2.2.2.2.2.1, zu1.2.2.2.2.2.2.2.2.2.1, zu1.2.2.2.2.2.2.2.2.2.2.1, zu1.2.2.2.2.2.2.2.2.2.2.2.1, zu1.2.2.2.2.2.2.2.2.2.2.2.2.1, zu1.2.2.2.2.2.2.2.2.2.2.2.2.2.1, zu1.2.2.2.2.2.2.2.2.2.2.2.2.2.2.1, zu1.2.2.2.2.2.2.2.2.2.2.2.2.2.2.2.1, zu1.2.2.2.2.2.2.2.2.2.2.2.2.2.2.2.2.1, zu1.2.2.2.2.2.2.2.2.2.2.2.2.2.2.2.2.2, r27, r28))
set_option maxHeartbeats 4000000 in
set_option maxRecDepth 100000 in
theorem c_X9_preferredByAllSets {l : Launch} {D : va_G} {cy : Nat → Nat} {g : Nat → Nat} {N : Nat} {X : Nat → Nat → Int32} {RR : Nat → Nat → Int32} {F : Nat} {R0 : Nat × Int32 × (Nat → Int32) × (Nat → Int32) × (Nat → Int32) × (Nat → Int32) × (Nat → Int32) × (Nat → Int32) × (Nat → Int32) × (Nat → Int32) × (Nat → Int32) × (Nat → Int32) × (Nat → Int32) × (Nat → Int32) × (Nat → Int32) × (Nat → Int32) × (Nat → Int32) × (Nat → Int32) × (Nat → Int32) × (Nat → Int32) × (Nat → Int32)} (hfl : l.stackTraces = false) (hX : rok X RR N) (hinv : m_X9_preferredByAllSets F RR (X 0) (X 2) (X 4) (X 6) (X 7) (X 8) (X 9) (X 10) (X 11) (X 13) (X 14) (X 15) (X 16) (X 18) (X 19) (X 20) (X 22) (X 23) (X 24) (X 27) (X 28) = some R0) : sXi l D cy yX9_preferredByAllSets cX9_preferredByAllSets 1 (some .int) 9 10 80 [.ref (g 0)] g N X R0.1 R0.2.1 (up (up (up (up (up (up (up (up (up (up (up (up (up (up (up (up (up (up (up X 0 R0.2.2.1) 6 R0.2.2.2.1) 7 R0.2.2.2.2.1) 8 R0.2.2.2.2.2.1) 9 R0.2.2.2.2.2.2.1) 10 R0.2.2.2.2.2.2.2.1) 11 R0.2.2.2.2.2.2.2.2.1) 13 R0.2.2.2.2.2.2.2.2.2.1) 14 R0.2.2.2.2.2.2.2.2.2.2.1) 15 R0.2.2.2.2.2.2.2.2.2.2.2.1) 16 R0.2.2.2.2.2.2.2.2.2.2.2.2.1) 18 R0.2.2.2.2.2.2.2.2.2.2.2.2.2.1) 19 R0.2.2.2.2.2.2.2.2.2.2.2.2.2.2.1) 20 R0.2.2.2.2.2.2.2.2.2.2.2.2.2.2.2.1) 22 R0.2.2.2.2.2.2.2.2.2.2.2.2.2.2.2.2.1) 23 R0.2.2.2.2.2.2.2.2.2.2.2.2.2.2.2.2.2.1) 24 R0.2.2.2.2.2.2.2.2.2.2.2.2.2.2.2.2.2.2.1) 27 R0.2.2.2.2.2.2.2.2.2.2.2.2.2.2.2.2.2.2.2.1) 28 R0.2.2.2.2.2.2.2.2.2.2.2.2.2.2.2.2.2.2.2.2) := by
  refine jXi (by decide) rfl hfl (Nat.le_of_ble_eq_true rfl) rfl ?_
  intro p e R s m args below meth c ls A Q hRe C hw hl hret hthr hout
  subst hRe
  have hx := C.1
  have hb := C.2.1
  have hN := hX.1
  have hl : lv_has ls 1 [(0, .ref (g 0))] := hl
  rw [m_X9_preferredByAllSets] at hinv
  refine lv_aload_n hx hb dX9_preferredByAllSets_0 rfl (lv_at hl 0 rfl) ?_
  obtain ⟨zu1, hzu1, hinv⟩ := ob hinv
  refine s_vXv (tag := zu1.1) C hw (As := []) bX9_demandFew k443 (k := 0) (q47 hN rfl) (sh_0 g cy _) rfl (c_X9_demandFew (X := X) hfl hX hzu1) rfl rfl dX9_preferredByAllSets_1 ⟨rfl, rfl⟩ (by decide) hl.1 (Nat.le_of_ble_eq_true rfl) ⟨Nat.le_of_ble_eq_true rfl, Nat.le_of_ble_eq_true rfl⟩ (fun ce q9 H locs ht hw h1 h2 h3 => ?_) (fun H locs ht hw => ?_)
  · have hinv := oi_f ht hinv
    have hR0 := (Option.some.inj hinv).symm
    subst hR0
    have hXe : (up (up (up (up (up (up (up (up (up (up (up (up (up (up (up (up (up X 0 zu1.2.1) 6 zu1.2.2.1) 7 zu1.2.2.2.1) 8 zu1.2.2.2.2.1) 9 zu1.2.2.2.2.2.1) 10 zu1.2.2.2.2.2.2.1) 11 zu1.2.2.2.2.2.2.2.1) 13 zu1.2.2.2.2.2.2.2.2.1) 14 zu1.2.2.2.2.2.2.2.2.2.1) 15 zu1.2.2.2.2.2.2.2.2.2.2.1) 16 zu1.2.2.2.2.2.2.2.2.2.2.2.1) 18 zu1.2.2.2.2.2.2.2.2.2.2.2.2.1) 19 zu1.2.2.2.2.2.2.2.2.2.2.2.2.2.1) 20 zu1.2.2.2.2.2.2.2.2.2.2.2.2.2.2.1) 22 zu1.2.2.2.2.2.2.2.2.2.2.2.2.2.2.2.1) 23 zu1.2.2.2.2.2.2.2.2.2.2.2.2.2.2.2.2.1) 24 zu1.2.2.2.2.2.2.2.2.2.2.2.2.2.2.2.2.2) = (up (up (up (up (up (up (up (up (up (up (up (up (up (up (up (up (up (up (up X 0 zu1.2.1) 6 zu1.2.2.1) 7 zu1.2.2.2.1) 8 zu1.2.2.2.2.1) 9 zu1.2.2.2.2.2.1) 10 zu1.2.2.2.2.2.2.1) 11 zu1.2.2.2.2.2.2.2.1) 13 zu1.2.2.2.2.2.2.2.2.1) 14 zu1.2.2.2.2.2.2.2.2.2.1) 15 zu1.2.2.2.2.2.2.2.2.2.2.1) 16 zu1.2.2.2.2.2.2.2.2.2.2.2.1) 18 zu1.2.2.2.2.2.2.2.2.2.2.2.2.1) 19 zu1.2.2.2.2.2.2.2.2.2.2.2.2.2.1) 20 zu1.2.2.2.2.2.2.2.2.2.2.2.2.2.2.1) 22 zu1.2.2.2.2.2.2.2.2.2.2.2.2.2.2.2.1) 23 zu1.2.2.2.2.2.2.2.2.2.2.2.2.2.2.2.2.1) 24 zu1.2.2.2.2.2.2.2.2.2.2.2.2.2.2.2.2.2) 27 (X 27)) 28 (X 28)) := by
      funext j
      by_cases h0 : j = 0
      · subst h0; simp [up]
      by_cases h6 : j = 6
      · subst h6; simp [up]
      by_cases h7 : j = 7
      · subst h7; simp [up]
      by_cases h8 : j = 8
      · subst h8; simp [up]
      by_cases h9 : j = 9
      · subst h9; simp [up]
      by_cases h10 : j = 10
      · subst h10; simp [up]
      by_cases h11 : j = 11
      · subst h11; simp [up]
      by_cases h13 : j = 13
      · subst h13; simp [up]
      by_cases h14 : j = 14
      · subst h14; simp [up]
      by_cases h15 : j = 15
      · subst h15; simp [up]
      by_cases h16 : j = 16
      · subst h16; simp [up]
      by_cases h18 : j = 18
      · subst h18; simp [up]
      by_cases h19 : j = 19
      · subst h19; simp [up]
      by_cases h20 : j = 20
      · subst h20; simp [up]
      by_cases h22 : j = 22
      · subst h22; simp [up]
      by_cases h23 : j = 23
      · subst h23; simp [up]
      by_cases h24 : j = 24
      · subst h24; simp [up]
      by_cases h27 : j = 27
      · subst h27; simp [up]
      by_cases h28 : j = 28
      · subst h28; simp [up]
      simp [up, h0, h6, h7, h8, h9, h10, h11, h13, h14, h15, h16, h18, h19, h20, h22, h23, h24, h27, h28]
    rw [hXe] at hw
    exact hout 1 ls _ H locs _ _ zu1.1 ce q9 ht rfl hw h1 h2 h3 (by decide) (by decide)
  · have hinv := oi_t ht hinv
    refine lv_aload_n hx hb dX9_preferredByAllSets_4 rfl (lv_at hl 0 rfl) ?_
    obtain ⟨zu2, hzu2, hinv⟩ := ob hinv
    refine s_vWv C hw (As := []) bX9_sweepSets k454 (k := 0) (q47 hN rfl) (sh_0 g cy _) rfl (c_X9_sweepSets (X := (up (up (up (up (up (up (up (up (up (up (up (up (up (up (up (up (up X 0 zu1.2.1) 6 zu1.2.2.1) 7 zu1.2.2.2.1) 8 zu1.2.2.2.2.1) 9 zu1.2.2.2.2.2.1) 10 zu1.2.2.2.2.2.2.1) 11 zu1.2.2.2.2.2.2.2.1) 13 zu1.2.2.2.2.2.2.2.2.1) 14 zu1.2.2.2.2.2.2.2.2.2.1) 15 zu1.2.2.2.2.2.2.2.2.2.2.1) 16 zu1.2.2.2.2.2.2.2.2.2.2.2.1) 18 zu1.2.2.2.2.2.2.2.2.2.2.2.2.1) 19 zu1.2.2.2.2.2.2.2.2.2.2.2.2.2.1) 20 zu1.2.2.2.2.2.2.2.2.2.2.2.2.2.2.1) 22 zu1.2.2.2.2.2.2.2.2.2.2.2.2.2.2.2.1) 23 zu1.2.2.2.2.2.2.2.2.2.2.2.2.2.2.2.2.1) 24 zu1.2.2.2.2.2.2.2.2.2.2.2.2.2.2.2.2.2)) hfl hN hzu2) rfl rfl dX9_preferredByAllSets_5 ⟨rfl, rfl⟩ (by decide) hl.1 (Nat.le_of_ble_eq_true rfl) ⟨Nat.le_of_ble_eq_true rfl, Nat.le_of_ble_eq_true rfl⟩ (fun H locs hw => ?_)
    refine lv_aload_n hx hb dX9_preferredByAllSets_8 rfl (lv_at hl 0 rfl) ?_
    refine w_get C hw (k := 0) (v := .ref (g 16)) (j := 5) (q47 hN rfl) (sh_0 g cy _) rfl (by decide) k328 rfl dX9_preferredByAllSets_9 ?_
    refine w_getN C hw (k := 16) (v := .ref (g 27)) (j := 3) (q47 hN rfl) (sh_16 g cy _) rfl (by decide) k859 rfl dX9_preferredByAllSets_12 ?_
    refine w_getN C hw (k := 27) (v := .int (zu2.2.1 1)) (j := 1) (q47 hN rfl) (sh_27 g cy _) rfl (by decide) k857 rfl dX9_preferredByAllSets_15 ?_
    have hR0 := (Option.some.inj hinv).symm
    subst hR0
    have hXe : (up (up (up (up (up (up (up (up (up (up (up (up (up (up (up (up (up (up (up (up X 0 zu1.2.1) 6 zu1.2.2.1) 7 zu1.2.2.2.1) 8 zu1.2.2.2.2.1) 9 zu1.2.2.2.2.2.1) 10 zu1.2.2.2.2.2.2.1) 11 zu1.2.2.2.2.2.2.2.1) 13 zu1.2.2.2.2.2.2.2.2.1) 14 zu1.2.2.2.2.2.2.2.2.2.1) 15 zu1.2.2.2.2.2.2.2.2.2.2.1) 16 zu1.2.2.2.2.2.2.2.2.2.2.2.1) 18 zu1.2.2.2.2.2.2.2.2.2.2.2.2.1) 19 zu1.2.2.2.2.2.2.2.2.2.2.2.2.2.1) 20 zu1.2.2.2.2.2.2.2.2.2.2.2.2.2.2.1) 22 zu1.2.2.2.2.2.2.2.2.2.2.2.2.2.2.2.1) 23 zu1.2.2.2.2.2.2.2.2.2.2.2.2.2.2.2.2.1) 24 zu1.2.2.2.2.2.2.2.2.2.2.2.2.2.2.2.2.2) 0 zu2.1) 27 zu2.2.1) 28 zu2.2.2) = (up (up (up (up (up (up (up (up (up (up (up (up (up (up (up (up (up (up (up X 0 zu2.1) 6 zu1.2.2.1) 7 zu1.2.2.2.1) 8 zu1.2.2.2.2.1) 9 zu1.2.2.2.2.2.1) 10 zu1.2.2.2.2.2.2.1) 11 zu1.2.2.2.2.2.2.2.1) 13 zu1.2.2.2.2.2.2.2.2.1) 14 zu1.2.2.2.2.2.2.2.2.2.1) 15 zu1.2.2.2.2.2.2.2.2.2.2.1) 16 zu1.2.2.2.2.2.2.2.2.2.2.2.1) 18 zu1.2.2.2.2.2.2.2.2.2.2.2.2.1) 19 zu1.2.2.2.2.2.2.2.2.2.2.2.2.2.1) 20 zu1.2.2.2.2.2.2.2.2.2.2.2.2.2.2.1) 22 zu1.2.2.2.2.2.2.2.2.2.2.2.2.2.2.2.1) 23 zu1.2.2.2.2.2.2.2.2.2.2.2.2.2.2.2.2.1) 24 zu1.2.2.2.2.2.2.2.2.2.2.2.2.2.2.2.2.2) 27 zu2.2.1) 28 zu2.2.2) := by
      funext j
      by_cases h0 : j = 0
      · subst h0; simp [up]
      by_cases h6 : j = 6
      · subst h6; simp [up]
      by_cases h7 : j = 7
      · subst h7; simp [up]
      by_cases h8 : j = 8
      · subst h8; simp [up]
      by_cases h9 : j = 9
      · subst h9; simp [up]
      by_cases h10 : j = 10
      · subst h10; simp [up]
      by_cases h11 : j = 11
      · subst h11; simp [up]
      by_cases h13 : j = 13
      · subst h13; simp [up]
      by_cases h14 : j = 14
      · subst h14; simp [up]
      by_cases h15 : j = 15
      · subst h15; simp [up]
      by_cases h16 : j = 16
      · subst h16; simp [up]
      by_cases h18 : j = 18
      · subst h18; simp [up]
      by_cases h19 : j = 19
      · subst h19; simp [up]
      by_cases h20 : j = 20
      · subst h20; simp [up]
      by_cases h22 : j = 22
      · subst h22; simp [up]
      by_cases h23 : j = 23
      · subst h23; simp [up]
      by_cases h24 : j = 24
      · subst h24; simp [up]
      by_cases h27 : j = 27
      · subst h27; simp [up]
      by_cases h28 : j = 28
      · subst h28; simp [up]
      simp [up, h0, h6, h7, h8, h9, h10, h11, h13, h14, h15, h16, h18, h19, h20, h22, h23, h24, h27, h28]
    rw [hXe] at hw
    exact hret 18 ls (zu2.2.1 1) _ _ _ _ rfl rfl hw (by decide) (by decide) dX9_preferredByAllSets_18
def m_X9_isInSet (F : Nat) (RR : Nat → Nat → Int32) (r0 : Nat → Int32) (r2 : Nat → Int32) (r4 : Nat → Int32) (r6 : Nat → Int32) (r7 : Nat → Int32) (r8 : Nat → Int32) (r9 : Nat → Int32) (r10 : Nat → Int32) (r11 : Nat → Int32) (r13 : Nat → Int32) (r14 : Nat → Int32) (r15 : Nat → Int32) (r16 : Nat → Int32) (r18 : Nat → Int32) (r19 : Nat → Int32) (r20 : Nat → Int32) (r22 : Nat → Int32) (r23 : Nat → Int32) (r24 : Nat → Int32) (r25 : Nat → Int32) (r26 : Nat → Int32) (za1 : Int32) (za2 : Int32) : Option (Nat × Int32 × (Nat → Int32) × (Nat → Int32) × (Nat → Int32) × (Nat → Int32) × (Nat → Int32) × (Nat → Int32) × (Nat → Int32) × (Nat → Int32) × (Nat → Int32) × (Nat → Int32) × (Nat → Int32) × (Nat → Int32) × (Nat → Int32) × (Nat → Int32) × (Nat → Int32) × (Nat → Int32) × (Nat → Int32) × (Nat → Int32) × (Nat → Int32)) := Option.bind (m_X9_demandFew F RR r0 r2 r4 r6 r7 r8 r9 r10 r11 r13 r14 r15 r16 r18 r19 r20 r22 r23 r24) (fun zu1 => if zu1.1 = 0 then (Option.bind (m_X9_trySets F zu1.2.1 zu1.2.2.2.2.2.2.2.2.2.2.2.1 zu1.2.2.2.2.2.2.2.2.2.2.2.2.2.1 zu1.2.2.2.2.2.2.2.2.2.2.2.2.2.2.1 zu1.2.2.2.2.2.2.2.2.2.2.2.2.2.2.2.2.1 zu1.2.2.2.2.2.2.2.2.2.2.2.2.2.2.2.2.2 r25 r26) (fun zu2 => if za1 < 0 then (some (3, 0, zu2.1, zu1.2.2.1, zu1.2.2.2.1, zu1.2.2.2.2.1, zu1.2.2.2.2.2.1, zu1.2.2.2.2.2.2.1, zu1.2.2.2.2.2.2.2.1, zu1.2.2.2.2.2.2.2.2.1, zu1.2.2.2.2.2.2.2.2.2.1, zu1.2.2.2.2.2.2.2.2.2.2.1, zu1.2.2.2.2.2.2.2.2.2.2.2.1, zu1.2.2.2.2.2.2.2.2.2.2.2.2.1, zu1.2.2.2.2.2.2.2.2.2.2.2.2.2.1, zu1.2.2.2.2.2.2.2.2.2.2.2.2.2.2.1, zu1.2.2.2.2.2.2.2.2.2.2.2.2.2.2.2.1, zu1.2.2.2.2.2.2.2.2.2.2.2.2.2.2.2.2.1, zu1.2.2.2.2.2.2.2.2.2.2.2.2.2.2.2.2.2, zu2.2.1, zu2.2.2)) else (if za1 < (zu2.2.1 1) then (Option.bind (m_X9_demandArgument F zu1.2.2.1 za2) (fun zu3 => if zu3 = 0 then (Option.bind (m_X6_contains F zu2.2.1 zu2.2.2 za1 za2) (fun zu4 => if zu4 = 0 ∨ zu4 = 1 then (some (0, zu4, zu2.1, zu1.2.2.1, zu1.2.2.2.1, zu1.2.2.2.2.1, zu1.2.2.2.2.2.1, zu1.2.2.2.2.2.2.1, zu1.2.2.2.2.2.2.2.1, zu1.2.2.2.2.2.2.2.2.1, zu1.2.2.2.2.2.2.2.2.2.1, zu1.2.2.2.2.2.2.2.2.2.2.1, zu1.2.2.2.2.2.2.2.2.2.2.2.1, zu1.2.2.2.2.2.2.2.2.2.2.2.2.1, zu1.2.2.2.2.2.2.2.2.2.2.2.2.2.1, zu1.2.2.2.2.2.2.2.2.2.2.2.2.2.2.1, zu1.2.2.2.2.2.2.2.2.2.2.2.2.2.2.2.1, zu1.2.2.2.2.2.2.2.2.2.2.2.2.2.2.2.2.1, zu1.2.2.2.2.2.2.2.2.2.2.2.2.2.2.2.2.2, zu2.2.1, zu2.2.2)) else none)) else some (zu3, 0, zu2.1, zu1.2.2.1, zu1.2.2.2.1, zu1.2.2.2.2.1, zu1.2.2.2.2.2.1, zu1.2.2.2.2.2.2.1, zu1.2.2.2.2.2.2.2.1, zu1.2.2.2.2.2.2.2.2.1, zu1.2.2.2.2.2.2.2.2.2.1, zu1.2.2.2.2.2.2.2.2.2.2.1, zu1.2.2.2.2.2.2.2.2.2.2.2.1, zu1.2.2.2.2.2.2.2.2.2.2.2.2.1, zu1.2.2.2.2.2.2.2.2.2.2.2.2.2.1, zu1.2.2.2.2.2.2.2.2.2.2.2.2.2.2.1, zu1.2.2.2.2.2.2.2.2.2.2.2.2.2.2.2.1, zu1.2.2.2.2.2.2.2.2.2.2.2.2.2.2.2.2.1, zu1.2.2.2.2.2.2.2.2.2.2.2.2.2.2.2.2.2, zu2.2.1, zu2.2.2))) else (some (3, 0, zu2.1, zu1.2.2.1, zu1.2.2.2.1, zu1.2.2.2.2.1, zu1.2.2.2.2.2.1, zu1.2.2.2.2.2.2.1, zu1.2.2.2.2.2.2.2.1, zu1.2.2.2.2.2.2.2.2.1, zu1.2.2.2.2.2.2.2.2.2.1, zu1.2.2.2.2.2.2.2.2.2.2.1, zu1.2.2.2.2.2.2.2.2.2.2.2.1, zu1.2.2.2.2.2.2.2.2.2.2.2.2.1, zu1.2.2.2.2.2.2.2.2.2.2.2.2.2.1, zu1.2.2.2.2.2.2.2.2.2.2.2.2.2.2.1, zu1.2.2.2.2.2.2.2.2.2.2.2.2.2.2.2.1, zu1.2.2.2.2.2.2.2.2.2.2.2.2.2.2.2.2.1, zu1.2.2.2.2.2.2.2.2.2.2.2.2.2.2.2.2.2, zu2.2.1, zu2.2.2))))) else some (zu1.1, 0, zu1.2.1, zu1.2.2.1, zu1.2.2.2.1, zu1.2.2.2.2.1, zu1.2.2.2.2.2.1, zu1.2.2.2.2.2.2.1, zu1.2.2.2.2.2.2.2.1, zu1.2.2.2.2.2.2.2.2.1, zu1.2.2.2.2.2.2.2.2.2.1, zu1.2.2.2.2.2.2.2.2.2.2.1, zu1.2.2.2.2.2.2.2.2.2.2.2.1, zu1.2.2.2.2.2.2.2.2.2.2.2.2.1, zu1.2.2.2.2.2.2.2.2.2.2.2.2.2.1, zu1.2.2.2.2.2.2.2.2.2.2.2.2.2.2.1, zu1.2.2.2.2.2.2.2.2.2.2.2.2.2.2.2.1, zu1.2.2.2.2.2.2.2.2.2.2.2.2.2.2.2.2.1, zu1.2.2.2.2.2.2.2.2.2.2.2.2.2.2.2.2.2, r25, r26))
set_option maxHeartbeats 4000000 in
set_option maxRecDepth 100000 in
theorem c_X9_isInSet {l : Launch} {D : va_G} {cy : Nat → Nat} {g : Nat → Nat} {N : Nat} {X : Nat → Nat → Int32} {RR : Nat → Nat → Int32} {F : Nat} {za1 : Int32} {za2 : Int32} {R0 : Nat × Int32 × (Nat → Int32) × (Nat → Int32) × (Nat → Int32) × (Nat → Int32) × (Nat → Int32) × (Nat → Int32) × (Nat → Int32) × (Nat → Int32) × (Nat → Int32) × (Nat → Int32) × (Nat → Int32) × (Nat → Int32) × (Nat → Int32) × (Nat → Int32) × (Nat → Int32) × (Nat → Int32) × (Nat → Int32) × (Nat → Int32) × (Nat → Int32)} (hfl : l.stackTraces = false) (hX : rok X RR N) (hinv : m_X9_isInSet F RR (X 0) (X 2) (X 4) (X 6) (X 7) (X 8) (X 9) (X 10) (X 11) (X 13) (X 14) (X 15) (X 16) (X 18) (X 19) (X 20) (X 22) (X 23) (X 24) (X 25) (X 26) za1 za2 = some R0) : sXi l D cy yX9_isInSet cX9_isInSet 3 (some .boolean) 25 10 80 [.ref (g 0), .int za1, .int za2] g N X R0.1 R0.2.1 (up (up (up (up (up (up (up (up (up (up (up (up (up (up (up (up (up (up (up X 0 R0.2.2.1) 6 R0.2.2.2.1) 7 R0.2.2.2.2.1) 8 R0.2.2.2.2.2.1) 9 R0.2.2.2.2.2.2.1) 10 R0.2.2.2.2.2.2.2.1) 11 R0.2.2.2.2.2.2.2.2.1) 13 R0.2.2.2.2.2.2.2.2.2.1) 14 R0.2.2.2.2.2.2.2.2.2.2.1) 15 R0.2.2.2.2.2.2.2.2.2.2.2.1) 16 R0.2.2.2.2.2.2.2.2.2.2.2.2.1) 18 R0.2.2.2.2.2.2.2.2.2.2.2.2.2.1) 19 R0.2.2.2.2.2.2.2.2.2.2.2.2.2.2.1) 20 R0.2.2.2.2.2.2.2.2.2.2.2.2.2.2.2.1) 22 R0.2.2.2.2.2.2.2.2.2.2.2.2.2.2.2.2.1) 23 R0.2.2.2.2.2.2.2.2.2.2.2.2.2.2.2.2.2.1) 24 R0.2.2.2.2.2.2.2.2.2.2.2.2.2.2.2.2.2.2.1) 25 R0.2.2.2.2.2.2.2.2.2.2.2.2.2.2.2.2.2.2.2.1) 26 R0.2.2.2.2.2.2.2.2.2.2.2.2.2.2.2.2.2.2.2.2) := by
  refine jXz (by decide) rfl hfl (Nat.le_of_ble_eq_true rfl) rfl ?_
  intro p e R s m args below meth c ls A Q hRe C hw hl hret hthr hout
  subst hRe
  have hx := C.1
  have hb := C.2.1
  have hN := hX.1
  have hl : lv_has ls 3 [(0, .ref (g 0)), (1, .int za1), (2, .int za2)] := hl
  rw [m_X9_isInSet] at hinv
  refine lv_aload_n hx hb dX9_isInSet_0 rfl (lv_at hl 0 rfl) ?_
  obtain ⟨zu1, hzu1, hinv⟩ := ob hinv
  refine s_vXv (tag := zu1.1) C hw (As := []) bX9_demandFew k443 (k := 0) (q47 hN rfl) (sh_0 g cy _) rfl (c_X9_demandFew (X := X) hfl hX hzu1) rfl rfl dX9_isInSet_1 ⟨rfl, rfl⟩ (by decide) hl.1 (Nat.le_of_ble_eq_true rfl) ⟨Nat.le_of_ble_eq_true rfl, Nat.le_of_ble_eq_true rfl⟩ (fun ce q9 H locs ht hw h1 h2 h3 => ?_) (fun H locs ht hw => ?_)
  · have hinv := oi_f ht hinv
    have hR0 := (Option.some.inj hinv).symm
    subst hR0
    have hXe : (up (up (up (up (up (up (up (up (up (up (up (up (up (up (up (up (up X 0 zu1.2.1) 6 zu1.2.2.1) 7 zu1.2.2.2.1) 8 zu1.2.2.2.2.1) 9 zu1.2.2.2.2.2.1) 10 zu1.2.2.2.2.2.2.1) 11 zu1.2.2.2.2.2.2.2.1) 13 zu1.2.2.2.2.2.2.2.2.1) 14 zu1.2.2.2.2.2.2.2.2.2.1) 15 zu1.2.2.2.2.2.2.2.2.2.2.1) 16 zu1.2.2.2.2.2.2.2.2.2.2.2.1) 18 zu1.2.2.2.2.2.2.2.2.2.2.2.2.1) 19 zu1.2.2.2.2.2.2.2.2.2.2.2.2.2.1) 20 zu1.2.2.2.2.2.2.2.2.2.2.2.2.2.2.1) 22 zu1.2.2.2.2.2.2.2.2.2.2.2.2.2.2.2.1) 23 zu1.2.2.2.2.2.2.2.2.2.2.2.2.2.2.2.2.1) 24 zu1.2.2.2.2.2.2.2.2.2.2.2.2.2.2.2.2.2) = (up (up (up (up (up (up (up (up (up (up (up (up (up (up (up (up (up (up (up X 0 zu1.2.1) 6 zu1.2.2.1) 7 zu1.2.2.2.1) 8 zu1.2.2.2.2.1) 9 zu1.2.2.2.2.2.1) 10 zu1.2.2.2.2.2.2.1) 11 zu1.2.2.2.2.2.2.2.1) 13 zu1.2.2.2.2.2.2.2.2.1) 14 zu1.2.2.2.2.2.2.2.2.2.1) 15 zu1.2.2.2.2.2.2.2.2.2.2.1) 16 zu1.2.2.2.2.2.2.2.2.2.2.2.1) 18 zu1.2.2.2.2.2.2.2.2.2.2.2.2.1) 19 zu1.2.2.2.2.2.2.2.2.2.2.2.2.2.1) 20 zu1.2.2.2.2.2.2.2.2.2.2.2.2.2.2.1) 22 zu1.2.2.2.2.2.2.2.2.2.2.2.2.2.2.2.1) 23 zu1.2.2.2.2.2.2.2.2.2.2.2.2.2.2.2.2.1) 24 zu1.2.2.2.2.2.2.2.2.2.2.2.2.2.2.2.2.2) 25 (X 25)) 26 (X 26)) := by
      funext j
      by_cases h0 : j = 0
      · subst h0; simp [up]
      by_cases h6 : j = 6
      · subst h6; simp [up]
      by_cases h7 : j = 7
      · subst h7; simp [up]
      by_cases h8 : j = 8
      · subst h8; simp [up]
      by_cases h9 : j = 9
      · subst h9; simp [up]
      by_cases h10 : j = 10
      · subst h10; simp [up]
      by_cases h11 : j = 11
      · subst h11; simp [up]
      by_cases h13 : j = 13
      · subst h13; simp [up]
      by_cases h14 : j = 14
      · subst h14; simp [up]
      by_cases h15 : j = 15
      · subst h15; simp [up]
      by_cases h16 : j = 16
      · subst h16; simp [up]
      by_cases h18 : j = 18
      · subst h18; simp [up]
      by_cases h19 : j = 19
      · subst h19; simp [up]
      by_cases h20 : j = 20
      · subst h20; simp [up]
      by_cases h22 : j = 22
      · subst h22; simp [up]
      by_cases h23 : j = 23
      · subst h23; simp [up]
      by_cases h24 : j = 24
      · subst h24; simp [up]
      by_cases h25 : j = 25
      · subst h25; simp [up]
      by_cases h26 : j = 26
      · subst h26; simp [up]
      simp [up, h0, h6, h7, h8, h9, h10, h11, h13, h14, h15, h16, h18, h19, h20, h22, h23, h24, h25, h26]
    rw [hXe] at hw
    exact hout 1 ls _ H locs _ _ zu1.1 ce q9 ht rfl hw h1 h2 h3 (by decide) (by decide)
  · have hinv := oi_t ht hinv
    refine lv_aload_n hx hb dX9_isInSet_4 rfl (lv_at hl 0 rfl) ?_
    obtain ⟨zu2, hzu2, hinv⟩ := ob hinv
    refine s_vWv C hw (As := []) bX9_trySets k446 (k := 0) (q47 hN rfl) (sh_0 g cy _) rfl (c_X9_trySets (X := (up (up (up (up (up (up (up (up (up (up (up (up (up (up (up (up (up X 0 zu1.2.1) 6 zu1.2.2.1) 7 zu1.2.2.2.1) 8 zu1.2.2.2.2.1) 9 zu1.2.2.2.2.2.1) 10 zu1.2.2.2.2.2.2.1) 11 zu1.2.2.2.2.2.2.2.1) 13 zu1.2.2.2.2.2.2.2.2.1) 14 zu1.2.2.2.2.2.2.2.2.2.1) 15 zu1.2.2.2.2.2.2.2.2.2.2.1) 16 zu1.2.2.2.2.2.2.2.2.2.2.2.1) 18 zu1.2.2.2.2.2.2.2.2.2.2.2.2.1) 19 zu1.2.2.2.2.2.2.2.2.2.2.2.2.2.1) 20 zu1.2.2.2.2.2.2.2.2.2.2.2.2.2.2.1) 22 zu1.2.2.2.2.2.2.2.2.2.2.2.2.2.2.2.1) 23 zu1.2.2.2.2.2.2.2.2.2.2.2.2.2.2.2.2.1) 24 zu1.2.2.2.2.2.2.2.2.2.2.2.2.2.2.2.2.2)) hfl hN hzu2) rfl rfl dX9_isInSet_5 ⟨rfl, rfl⟩ (by decide) hl.1 (Nat.le_of_ble_eq_true rfl) ⟨Nat.le_of_ble_eq_true rfl, Nat.le_of_ble_eq_true rfl⟩ (fun H locs hw => ?_)
    refine lv_iload_n hx hb dX9_isInSet_8 rfl (lv_at hl 1 rfl) ?_
    refine lv_if_lt (tgt := 26) hx hb dX9_isInSet_9 (by decide) (fun c_9 => ?_) (fun c_9 => ?_)
    · have hinv := oi_t c_9 hinv
      have hR0 := (Option.some.inj hinv).symm
      subst hR0
      have hXe : (up (up (up (up (up (up (up (up (up (up (up (up (up (up (up (up (up (up (up (up X 0 zu1.2.1) 6 zu1.2.2.1) 7 zu1.2.2.2.1) 8 zu1.2.2.2.2.1) 9 zu1.2.2.2.2.2.1) 10 zu1.2.2.2.2.2.2.1) 11 zu1.2.2.2.2.2.2.2.1) 13 zu1.2.2.2.2.2.2.2.2.1) 14 zu1.2.2.2.2.2.2.2.2.2.1) 15 zu1.2.2.2.2.2.2.2.2.2.2.1) 16 zu1.2.2.2.2.2.2.2.2.2.2.2.1) 18 zu1.2.2.2.2.2.2.2.2.2.2.2.2.1) 19 zu1.2.2.2.2.2.2.2.2.2.2.2.2.2.1) 20 zu1.2.2.2.2.2.2.2.2.2.2.2.2.2.2.1) 22 zu1.2.2.2.2.2.2.2.2.2.2.2.2.2.2.2.1) 23 zu1.2.2.2.2.2.2.2.2.2.2.2.2.2.2.2.2.1) 24 zu1.2.2.2.2.2.2.2.2.2.2.2.2.2.2.2.2.2) 0 zu2.1) 25 zu2.2.1) 26 zu2.2.2) = (up (up (up (up (up (up (up (up (up (up (up (up (up (up (up (up (up (up (up X 0 zu2.1) 6 zu1.2.2.1) 7 zu1.2.2.2.1) 8 zu1.2.2.2.2.1) 9 zu1.2.2.2.2.2.1) 10 zu1.2.2.2.2.2.2.1) 11 zu1.2.2.2.2.2.2.2.1) 13 zu1.2.2.2.2.2.2.2.2.1) 14 zu1.2.2.2.2.2.2.2.2.2.1) 15 zu1.2.2.2.2.2.2.2.2.2.2.1) 16 zu1.2.2.2.2.2.2.2.2.2.2.2.1) 18 zu1.2.2.2.2.2.2.2.2.2.2.2.2.1) 19 zu1.2.2.2.2.2.2.2.2.2.2.2.2.2.1) 20 zu1.2.2.2.2.2.2.2.2.2.2.2.2.2.2.1) 22 zu1.2.2.2.2.2.2.2.2.2.2.2.2.2.2.2.1) 23 zu1.2.2.2.2.2.2.2.2.2.2.2.2.2.2.2.2.1) 24 zu1.2.2.2.2.2.2.2.2.2.2.2.2.2.2.2.2.2) 25 zu2.2.1) 26 zu2.2.2) := by
        funext j
        by_cases h0 : j = 0
        · subst h0; simp [up]
        by_cases h6 : j = 6
        · subst h6; simp [up]
        by_cases h7 : j = 7
        · subst h7; simp [up]
        by_cases h8 : j = 8
        · subst h8; simp [up]
        by_cases h9 : j = 9
        · subst h9; simp [up]
        by_cases h10 : j = 10
        · subst h10; simp [up]
        by_cases h11 : j = 11
        · subst h11; simp [up]
        by_cases h13 : j = 13
        · subst h13; simp [up]
        by_cases h14 : j = 14
        · subst h14; simp [up]
        by_cases h15 : j = 15
        · subst h15; simp [up]
        by_cases h16 : j = 16
        · subst h16; simp [up]
        by_cases h18 : j = 18
        · subst h18; simp [up]
        by_cases h19 : j = 19
        · subst h19; simp [up]
        by_cases h20 : j = 20
        · subst h20; simp [up]
        by_cases h22 : j = 22
        · subst h22; simp [up]
        by_cases h23 : j = 23
        · subst h23; simp [up]
        by_cases h24 : j = 24
        · subst h24; simp [up]
        by_cases h25 : j = 25
        · subst h25; simp [up]
        by_cases h26 : j = 26
        · subst h26; simp [up]
        simp [up, h0, h6, h7, h8, h9, h10, h11, h13, h14, h15, h16, h18, h19, h20, h22, h23, h24, h25, h26]
      rw [hXe] at hw
      exact hthr 26 ls _ _ _ _ 151 155 195 xIB "no such preferred set" (show ¬ (3 : Nat) = 0 by decide) rfl hw (List.mem_of_getElem? (i := 2) rfl) (by decide) (List.mem_of_getElem? (i := 5) rfl) hl.1 dX9_isInSet_26 dX9_isInSet_29 dX9_isInSet_30 dX9_isInSet_32 dX9_isInSet_35 (by decide) (by decide) (by decide)
    · have hinv := oi_f c_9 hinv
      refine lv_iload_n hx hb dX9_isInSet_12 rfl (lv_at hl 1 rfl) ?_
      refine lv_aload_n hx hb dX9_isInSet_13 rfl (lv_at hl 0 rfl) ?_
      refine w_get C hw (k := 0) (v := .ref (g 16)) (j := 5) (q47 hN rfl) (sh_0 g cy _) rfl (by decide) k328 rfl dX9_isInSet_14 ?_
      refine w_getN C hw (k := 16) (v := .ref (g 25)) (j := 2) (q47 hN rfl) (sh_16 g cy _) rfl (by decide) k858 rfl dX9_isInSet_17 ?_
      refine w_getN C hw (k := 25) (v := .int (zu2.2.1 1)) (j := 1) (q47 hN rfl) (sh_25 g cy _) rfl (by decide) k857 rfl dX9_isInSet_20 ?_
      refine lv_icmp_lt (tgt := 36) hx hb dX9_isInSet_23 (by decide) (fun c_23 => ?_) (fun c_23 => ?_)
      · have hinv := oi_t c_23 hinv
        refine lv_aload_n hx hb dX9_isInSet_36 rfl (lv_at hl 0 rfl) ?_
        refine lv_iload_n hx hb dX9_isInSet_37 rfl (lv_at hl 2 rfl) ?_
        obtain ⟨zu3, hzu3, hinv⟩ := ob hinv
        refine s_vXv (tag := zu3) C hw (As := [.int za2]) bX9_demandArgument k411 (k := 0) (q47 hN rfl) (sh_0 g cy _) rfl (c_X9_demandArgument (X := (up (up (up (up (up (up (up (up (up (up (up (up (up (up (up (up (up (up (up (up X 0 zu1.2.1) 6 zu1.2.2.1) 7 zu1.2.2.2.1) 8 zu1.2.2.2.2.1) 9 zu1.2.2.2.2.2.1) 10 zu1.2.2.2.2.2.2.1) 11 zu1.2.2.2.2.2.2.2.1) 13 zu1.2.2.2.2.2.2.2.2.1) 14 zu1.2.2.2.2.2.2.2.2.2.1) 15 zu1.2.2.2.2.2.2.2.2.2.2.1) 16 zu1.2.2.2.2.2.2.2.2.2.2.2.1) 18 zu1.2.2.2.2.2.2.2.2.2.2.2.2.1) 19 zu1.2.2.2.2.2.2.2.2.2.2.2.2.2.1) 20 zu1.2.2.2.2.2.2.2.2.2.2.2.2.2.2.1) 22 zu1.2.2.2.2.2.2.2.2.2.2.2.2.2.2.2.1) 23 zu1.2.2.2.2.2.2.2.2.2.2.2.2.2.2.2.2.1) 24 zu1.2.2.2.2.2.2.2.2.2.2.2.2.2.2.2.2.2) 0 zu2.1) 25 zu2.2.1) 26 zu2.2.2)) hfl hN hzu3) rfl rfl dX9_isInSet_38 ⟨rfl, rfl⟩ (by decide) hl.1 (Nat.le_of_ble_eq_true rfl) ⟨Nat.le_of_ble_eq_true rfl, Nat.le_of_ble_eq_true rfl⟩ (fun ce q9 H locs ht hw h1 h2 h3 => ?_) (fun H locs ht hw => ?_)
        · have hinv := oi_f ht hinv
          have hR0 := (Option.some.inj hinv).symm
          subst hR0
          have hXe : (up (up (up (up (up (up (up (up (up (up (up (up (up (up (up (up (up (up (up (up X 0 zu1.2.1) 6 zu1.2.2.1) 7 zu1.2.2.2.1) 8 zu1.2.2.2.2.1) 9 zu1.2.2.2.2.2.1) 10 zu1.2.2.2.2.2.2.1) 11 zu1.2.2.2.2.2.2.2.1) 13 zu1.2.2.2.2.2.2.2.2.1) 14 zu1.2.2.2.2.2.2.2.2.2.1) 15 zu1.2.2.2.2.2.2.2.2.2.2.1) 16 zu1.2.2.2.2.2.2.2.2.2.2.2.1) 18 zu1.2.2.2.2.2.2.2.2.2.2.2.2.1) 19 zu1.2.2.2.2.2.2.2.2.2.2.2.2.2.1) 20 zu1.2.2.2.2.2.2.2.2.2.2.2.2.2.2.1) 22 zu1.2.2.2.2.2.2.2.2.2.2.2.2.2.2.2.1) 23 zu1.2.2.2.2.2.2.2.2.2.2.2.2.2.2.2.2.1) 24 zu1.2.2.2.2.2.2.2.2.2.2.2.2.2.2.2.2.2) 0 zu2.1) 25 zu2.2.1) 26 zu2.2.2) = (up (up (up (up (up (up (up (up (up (up (up (up (up (up (up (up (up (up (up X 0 zu2.1) 6 zu1.2.2.1) 7 zu1.2.2.2.1) 8 zu1.2.2.2.2.1) 9 zu1.2.2.2.2.2.1) 10 zu1.2.2.2.2.2.2.1) 11 zu1.2.2.2.2.2.2.2.1) 13 zu1.2.2.2.2.2.2.2.2.1) 14 zu1.2.2.2.2.2.2.2.2.2.1) 15 zu1.2.2.2.2.2.2.2.2.2.2.1) 16 zu1.2.2.2.2.2.2.2.2.2.2.2.1) 18 zu1.2.2.2.2.2.2.2.2.2.2.2.2.1) 19 zu1.2.2.2.2.2.2.2.2.2.2.2.2.2.1) 20 zu1.2.2.2.2.2.2.2.2.2.2.2.2.2.2.1) 22 zu1.2.2.2.2.2.2.2.2.2.2.2.2.2.2.2.1) 23 zu1.2.2.2.2.2.2.2.2.2.2.2.2.2.2.2.2.1) 24 zu1.2.2.2.2.2.2.2.2.2.2.2.2.2.2.2.2.2) 25 zu2.2.1) 26 zu2.2.2) := by
            funext j
            by_cases h0 : j = 0
            · subst h0; simp [up]
            by_cases h6 : j = 6
            · subst h6; simp [up]
            by_cases h7 : j = 7
            · subst h7; simp [up]
            by_cases h8 : j = 8
            · subst h8; simp [up]
            by_cases h9 : j = 9
            · subst h9; simp [up]
            by_cases h10 : j = 10
            · subst h10; simp [up]
            by_cases h11 : j = 11
            · subst h11; simp [up]
            by_cases h13 : j = 13
            · subst h13; simp [up]
            by_cases h14 : j = 14
            · subst h14; simp [up]
            by_cases h15 : j = 15
            · subst h15; simp [up]
            by_cases h16 : j = 16
            · subst h16; simp [up]
            by_cases h18 : j = 18
            · subst h18; simp [up]
            by_cases h19 : j = 19
            · subst h19; simp [up]
            by_cases h20 : j = 20
            · subst h20; simp [up]
            by_cases h22 : j = 22
            · subst h22; simp [up]
            by_cases h23 : j = 23
            · subst h23; simp [up]
            by_cases h24 : j = 24
            · subst h24; simp [up]
            by_cases h25 : j = 25
            · subst h25; simp [up]
            by_cases h26 : j = 26
            · subst h26; simp [up]
            simp [up, h0, h6, h7, h8, h9, h10, h11, h13, h14, h15, h16, h18, h19, h20, h22, h23, h24, h25, h26]
          rw [hXe] at hw
          exact hout 38 ls _ H locs _ _ zu3 ce q9 ht rfl hw h1 h2 h3 (by decide) (by decide)
        · have hinv := oi_t ht hinv
          refine lv_aload_n hx hb dX9_isInSet_41 rfl (lv_at hl 0 rfl) ?_
          refine w_get C hw (k := 0) (v := .ref (g 16)) (j := 5) (q47 hN rfl) (sh_0 g cy _) rfl (by decide) k328 rfl dX9_isInSet_42 ?_
          refine w_getN C hw (k := 16) (v := .ref (g 25)) (j := 2) (q47 hN rfl) (sh_16 g cy _) rfl (by decide) k858 rfl dX9_isInSet_45 ?_
          refine lv_iload_n hx hb dX9_isInSet_48 rfl (lv_at hl 1 rfl) ?_
          refine lv_iload_n hx hb dX9_isInSet_49 rfl (lv_at hl 2 rfl) ?_
          obtain ⟨zu4, hzu4, hinv⟩ := ob hinv
          refine s_vRi (r0 := zu4) C hw (As := [.int za1, .int za2]) bX6_contains k458 (k := 25) (q47 hN rfl) (sh_25 g cy _) rfl (c_X6_contains (X := (up (up (up (up (up (up (up (up (up (up (up (up (up (up (up (up (up (up (up (up X 0 zu1.2.1) 6 zu1.2.2.1) 7 zu1.2.2.2.1) 8 zu1.2.2.2.2.1) 9 zu1.2.2.2.2.2.1) 10 zu1.2.2.2.2.2.2.1) 11 zu1.2.2.2.2.2.2.2.1) 13 zu1.2.2.2.2.2.2.2.2.1) 14 zu1.2.2.2.2.2.2.2.2.2.1) 15 zu1.2.2.2.2.2.2.2.2.2.2.1) 16 zu1.2.2.2.2.2.2.2.2.2.2.2.1) 18 zu1.2.2.2.2.2.2.2.2.2.2.2.2.1) 19 zu1.2.2.2.2.2.2.2.2.2.2.2.2.2.1) 20 zu1.2.2.2.2.2.2.2.2.2.2.2.2.2.2.1) 22 zu1.2.2.2.2.2.2.2.2.2.2.2.2.2.2.2.1) 23 zu1.2.2.2.2.2.2.2.2.2.2.2.2.2.2.2.2.1) 24 zu1.2.2.2.2.2.2.2.2.2.2.2.2.2.2.2.2.2) 0 zu2.1) 25 zu2.2.1) 26 zu2.2.2)) hfl hN hzu4) rfl rfl dX9_isInSet_50 ⟨rfl, rfl⟩ (by decide) hl.1 (Nat.le_of_ble_eq_true rfl) ⟨Nat.le_of_ble_eq_true rfl, Nat.le_of_ble_eq_true rfl⟩ ?_
          obtain ⟨hz9, hinv⟩ := oi_c hinv
          have hR0 := (Option.some.inj hinv).symm
          subst hR0
          have hXe : (up (up (up (up (up (up (up (up (up (up (up (up (up (up (up (up (up (up (up (up X 0 zu1.2.1) 6 zu1.2.2.1) 7 zu1.2.2.2.1) 8 zu1.2.2.2.2.1) 9 zu1.2.2.2.2.2.1) 10 zu1.2.2.2.2.2.2.1) 11 zu1.2.2.2.2.2.2.2.1) 13 zu1.2.2.2.2.2.2.2.2.1) 14 zu1.2.2.2.2.2.2.2.2.2.1) 15 zu1.2.2.2.2.2.2.2.2.2.2.1) 16 zu1.2.2.2.2.2.2.2.2.2.2.2.1) 18 zu1.2.2.2.2.2.2.2.2.2.2.2.2.1) 19 zu1.2.2.2.2.2.2.2.2.2.2.2.2.2.1) 20 zu1.2.2.2.2.2.2.2.2.2.2.2.2.2.2.1) 22 zu1.2.2.2.2.2.2.2.2.2.2.2.2.2.2.2.1) 23 zu1.2.2.2.2.2.2.2.2.2.2.2.2.2.2.2.2.1) 24 zu1.2.2.2.2.2.2.2.2.2.2.2.2.2.2.2.2.2) 0 zu2.1) 25 zu2.2.1) 26 zu2.2.2) = (up (up (up (up (up (up (up (up (up (up (up (up (up (up (up (up (up (up (up X 0 zu2.1) 6 zu1.2.2.1) 7 zu1.2.2.2.1) 8 zu1.2.2.2.2.1) 9 zu1.2.2.2.2.2.1) 10 zu1.2.2.2.2.2.2.1) 11 zu1.2.2.2.2.2.2.2.1) 13 zu1.2.2.2.2.2.2.2.2.1) 14 zu1.2.2.2.2.2.2.2.2.2.1) 15 zu1.2.2.2.2.2.2.2.2.2.2.1) 16 zu1.2.2.2.2.2.2.2.2.2.2.2.1) 18 zu1.2.2.2.2.2.2.2.2.2.2.2.2.1) 19 zu1.2.2.2.2.2.2.2.2.2.2.2.2.2.1) 20 zu1.2.2.2.2.2.2.2.2.2.2.2.2.2.2.1) 22 zu1.2.2.2.2.2.2.2.2.2.2.2.2.2.2.2.1) 23 zu1.2.2.2.2.2.2.2.2.2.2.2.2.2.2.2.2.1) 24 zu1.2.2.2.2.2.2.2.2.2.2.2.2.2.2.2.2.2) 25 zu2.2.1) 26 zu2.2.2) := by
            funext j
            by_cases h0 : j = 0
            · subst h0; simp [up]
            by_cases h6 : j = 6
            · subst h6; simp [up]
            by_cases h7 : j = 7
            · subst h7; simp [up]
            by_cases h8 : j = 8
            · subst h8; simp [up]
            by_cases h9 : j = 9
            · subst h9; simp [up]
            by_cases h10 : j = 10
            · subst h10; simp [up]
            by_cases h11 : j = 11
            · subst h11; simp [up]
            by_cases h13 : j = 13
            · subst h13; simp [up]
            by_cases h14 : j = 14
            · subst h14; simp [up]
            by_cases h15 : j = 15
            · subst h15; simp [up]
            by_cases h16 : j = 16
            · subst h16; simp [up]
            by_cases h18 : j = 18
            · subst h18; simp [up]
            by_cases h19 : j = 19
            · subst h19; simp [up]
            by_cases h20 : j = 20
            · subst h20; simp [up]
            by_cases h22 : j = 22
            · subst h22; simp [up]
            by_cases h23 : j = 23
            · subst h23; simp [up]
            by_cases h24 : j = 24
            · subst h24; simp [up]
            by_cases h25 : j = 25
            · subst h25; simp [up]
            by_cases h26 : j = 26
            · subst h26; simp [up]
            simp [up, h0, h6, h7, h8, h9, h10, h11, h13, h14, h15, h16, h18, h19, h20, h22, h23, h24, h25, h26]
          rw [hXe] at hw
          exact hret 53 ls zu4 _ _ _ _ rfl rfl hz9 hw (by decide) (by decide) dX9_isInSet_53
      · have hinv := oi_f c_23 hinv
        have hR0 := (Option.some.inj hinv).symm
        subst hR0
        have hXe : (up (up (up (up (up (up (up (up (up (up (up (up (up (up (up (up (up (up (up (up X 0 zu1.2.1) 6 zu1.2.2.1) 7 zu1.2.2.2.1) 8 zu1.2.2.2.2.1) 9 zu1.2.2.2.2.2.1) 10 zu1.2.2.2.2.2.2.1) 11 zu1.2.2.2.2.2.2.2.1) 13 zu1.2.2.2.2.2.2.2.2.1) 14 zu1.2.2.2.2.2.2.2.2.2.1) 15 zu1.2.2.2.2.2.2.2.2.2.2.1) 16 zu1.2.2.2.2.2.2.2.2.2.2.2.1) 18 zu1.2.2.2.2.2.2.2.2.2.2.2.2.1) 19 zu1.2.2.2.2.2.2.2.2.2.2.2.2.2.1) 20 zu1.2.2.2.2.2.2.2.2.2.2.2.2.2.2.1) 22 zu1.2.2.2.2.2.2.2.2.2.2.2.2.2.2.2.1) 23 zu1.2.2.2.2.2.2.2.2.2.2.2.2.2.2.2.2.1) 24 zu1.2.2.2.2.2.2.2.2.2.2.2.2.2.2.2.2.2) 0 zu2.1) 25 zu2.2.1) 26 zu2.2.2) = (up (up (up (up (up (up (up (up (up (up (up (up (up (up (up (up (up (up (up X 0 zu2.1) 6 zu1.2.2.1) 7 zu1.2.2.2.1) 8 zu1.2.2.2.2.1) 9 zu1.2.2.2.2.2.1) 10 zu1.2.2.2.2.2.2.1) 11 zu1.2.2.2.2.2.2.2.1) 13 zu1.2.2.2.2.2.2.2.2.1) 14 zu1.2.2.2.2.2.2.2.2.2.1) 15 zu1.2.2.2.2.2.2.2.2.2.2.1) 16 zu1.2.2.2.2.2.2.2.2.2.2.2.1) 18 zu1.2.2.2.2.2.2.2.2.2.2.2.2.1) 19 zu1.2.2.2.2.2.2.2.2.2.2.2.2.2.1) 20 zu1.2.2.2.2.2.2.2.2.2.2.2.2.2.2.1) 22 zu1.2.2.2.2.2.2.2.2.2.2.2.2.2.2.2.1) 23 zu1.2.2.2.2.2.2.2.2.2.2.2.2.2.2.2.2.1) 24 zu1.2.2.2.2.2.2.2.2.2.2.2.2.2.2.2.2.2) 25 zu2.2.1) 26 zu2.2.2) := by
          funext j
          by_cases h0 : j = 0
          · subst h0; simp [up]
          by_cases h6 : j = 6
          · subst h6; simp [up]
          by_cases h7 : j = 7
          · subst h7; simp [up]
          by_cases h8 : j = 8
          · subst h8; simp [up]
          by_cases h9 : j = 9
          · subst h9; simp [up]
          by_cases h10 : j = 10
          · subst h10; simp [up]
          by_cases h11 : j = 11
          · subst h11; simp [up]
          by_cases h13 : j = 13
          · subst h13; simp [up]
          by_cases h14 : j = 14
          · subst h14; simp [up]
          by_cases h15 : j = 15
          · subst h15; simp [up]
          by_cases h16 : j = 16
          · subst h16; simp [up]
          by_cases h18 : j = 18
          · subst h18; simp [up]
          by_cases h19 : j = 19
          · subst h19; simp [up]
          by_cases h20 : j = 20
          · subst h20; simp [up]
          by_cases h22 : j = 22
          · subst h22; simp [up]
          by_cases h23 : j = 23
          · subst h23; simp [up]
          by_cases h24 : j = 24
          · subst h24; simp [up]
          by_cases h25 : j = 25
          · subst h25; simp [up]
          by_cases h26 : j = 26
          · subst h26; simp [up]
          simp [up, h0, h6, h7, h8, h9, h10, h11, h13, h14, h15, h16, h18, h19, h20, h22, h23, h24, h25, h26]
        rw [hXe] at hw
        exact hthr 26 ls _ _ _ _ 151 155 195 xIB "no such preferred set" (show ¬ (3 : Nat) = 0 by decide) rfl hw (List.mem_of_getElem? (i := 2) rfl) (by decide) (List.mem_of_getElem? (i := 5) rfl) hl.1 dX9_isInSet_26 dX9_isInSet_29 dX9_isInSet_30 dX9_isInSet_32 dX9_isInSet_35 (by decide) (by decide) (by decide)
def m_X9_setsFor_L16 (F : Nat) (y1_16 : Int32) : Nat → Int32 → Int32 → (Nat → Int32) → (Nat → Int32) → (Nat → Int32) → (Nat → Int32) → (Nat → Int32) → (Nat → Int32) → (Nat → Int32) → (Nat → Int32) → (Nat → Int32) → (Nat → Int32) → (Nat → Int32) → (Nat → Int32) → (Nat → Int32) → (Nat → Int32) → (Nat → Int32) → (Nat → Int32) → (Nat → Int32) → (Nat → Int32) → (Nat → Int32) → Option (Nat × Int32 × (Nat → Int32) × (Nat → Int32) × (Nat → Int32) × (Nat → Int32) × (Nat → Int32) × (Nat → Int32) × (Nat → Int32) × (Nat → Int32) × (Nat → Int32) × (Nat → Int32) × (Nat → Int32) × (Nat → Int32) × (Nat → Int32) × (Nat → Int32) × (Nat → Int32) × (Nat → Int32) × (Nat → Int32) × (Nat → Int32) × (Nat → Int32))
  | 0, _, _, _, _, _, _, _, _, _, _, _, _, _, _, _, _, _, _, _, _, _ => none
  | n + 1, x3_16, x2_16, q0_16, q6_16, q7_16, q8_16, q9_16, q10_16, q11_16, q13_16, q14_16, q15_16, q16_16, q18_16, q19_16, q20_16, q22_16, q23_16, q24_16, q25_16, q26_16 => if (q25_16 1) ≤ x3_16 then (some (0, x2_16, q0_16, q6_16, q7_16, q8_16, q9_16, q10_16, q11_16, q13_16, q14_16, q15_16, q16_16, q18_16, q19_16, q20_16, q22_16, q23_16, q24_16, q25_16, q26_16)) else (Option.bind (m_X9_concludesInSet F q6_16 q7_16 q25_16 q26_16 x3_16 y1_16) (fun zu4 => if zu4 = 0 then (m_X9_setsFor_L16 F y1_16 n (x3_16 + 1) x2_16 q0_16 q6_16 q7_16 q8_16 q9_16 q10_16 q11_16 q13_16 q14_16 q15_16 q16_16 q18_16 q19_16 q20_16 q22_16 q23_16 q24_16 q25_16 q26_16) else (m_X9_setsFor_L16 F y1_16 n (x3_16 + 1) (x2_16 + 1) q0_16 q6_16 q7_16 q8_16 q9_16 q10_16 q11_16 q13_16 q14_16 q15_16 q16_16 q18_16 q19_16 q20_16 q22_16 q23_16 q24_16 q25_16 q26_16)))
def m_X9_setsFor (F : Nat) (RR : Nat → Nat → Int32) (r0 : Nat → Int32) (r2 : Nat → Int32) (r4 : Nat → Int32) (r6 : Nat → Int32) (r7 : Nat → Int32) (r8 : Nat → Int32) (r9 : Nat → Int32) (r10 : Nat → Int32) (r11 : Nat → Int32) (r13 : Nat → Int32) (r14 : Nat → Int32) (r15 : Nat → Int32) (r16 : Nat → Int32) (r18 : Nat → Int32) (r19 : Nat → Int32) (r20 : Nat → Int32) (r22 : Nat → Int32) (r23 : Nat → Int32) (r24 : Nat → Int32) (r25 : Nat → Int32) (r26 : Nat → Int32) (za1 : Int32) : Option (Nat × Int32 × (Nat → Int32) × (Nat → Int32) × (Nat → Int32) × (Nat → Int32) × (Nat → Int32) × (Nat → Int32) × (Nat → Int32) × (Nat → Int32) × (Nat → Int32) × (Nat → Int32) × (Nat → Int32) × (Nat → Int32) × (Nat → Int32) × (Nat → Int32) × (Nat → Int32) × (Nat → Int32) × (Nat → Int32) × (Nat → Int32) × (Nat → Int32)) := Option.bind (m_X9_demandLiteral F za1) (fun zu1 => if zu1 = 0 then (Option.bind (m_X9_demandFew F RR r0 r2 r4 r6 r7 r8 r9 r10 r11 r13 r14 r15 r16 r18 r19 r20 r22 r23 r24) (fun zu2 => if zu2.1 = 0 then (Option.bind (m_X9_trySets F zu2.2.1 zu2.2.2.2.2.2.2.2.2.2.2.2.1 zu2.2.2.2.2.2.2.2.2.2.2.2.2.2.1 zu2.2.2.2.2.2.2.2.2.2.2.2.2.2.2.1 zu2.2.2.2.2.2.2.2.2.2.2.2.2.2.2.2.2.1 zu2.2.2.2.2.2.2.2.2.2.2.2.2.2.2.2.2.2 r25 r26) (fun zu3 => m_X9_setsFor_L16 F za1 F 0 0 zu3.1 zu2.2.2.1 zu2.2.2.2.1 zu2.2.2.2.2.1 zu2.2.2.2.2.2.1 zu2.2.2.2.2.2.2.1 zu2.2.2.2.2.2.2.2.1 zu2.2.2.2.2.2.2.2.2.1 zu2.2.2.2.2.2.2.2.2.2.1 zu2.2.2.2.2.2.2.2.2.2.2.1 zu2.2.2.2.2.2.2.2.2.2.2.2.1 zu2.2.2.2.2.2.2.2.2.2.2.2.2.1 zu2.2.2.2.2.2.2.2.2.2.2.2.2.2.1 zu2.2.2.2.2.2.2.2.2.2.2.2.2.2.2.1 zu2.2.2.2.2.2.2.2.2.2.2.2.2.2.2.2.1 zu2.2.2.2.2.2.2.2.2.2.2.2.2.2.2.2.2.1 zu2.2.2.2.2.2.2.2.2.2.2.2.2.2.2.2.2.2 zu3.2.1 zu3.2.2)) else some (zu2.1, 0, zu2.2.1, zu2.2.2.1, zu2.2.2.2.1, zu2.2.2.2.2.1, zu2.2.2.2.2.2.1, zu2.2.2.2.2.2.2.1, zu2.2.2.2.2.2.2.2.1, zu2.2.2.2.2.2.2.2.2.1, zu2.2.2.2.2.2.2.2.2.2.1, zu2.2.2.2.2.2.2.2.2.2.2.1, zu2.2.2.2.2.2.2.2.2.2.2.2.1, zu2.2.2.2.2.2.2.2.2.2.2.2.2.1, zu2.2.2.2.2.2.2.2.2.2.2.2.2.2.1, zu2.2.2.2.2.2.2.2.2.2.2.2.2.2.2.1, zu2.2.2.2.2.2.2.2.2.2.2.2.2.2.2.2.1, zu2.2.2.2.2.2.2.2.2.2.2.2.2.2.2.2.2.1, zu2.2.2.2.2.2.2.2.2.2.2.2.2.2.2.2.2.2, r25, r26))) else some (zu1, 0, r0, r6, r7, r8, r9, r10, r11, r13, r14, r15, r16, r18, r19, r20, r22, r23, r24, r25, r26))
set_option maxHeartbeats 4000000 in
set_option maxRecDepth 100000 in
theorem c_X9_setsFor {l : Launch} {D : va_G} {cy : Nat → Nat} {g : Nat → Nat} {N : Nat} {X : Nat → Nat → Int32} {RR : Nat → Nat → Int32} {F : Nat} {za1 : Int32} {R0 : Nat × Int32 × (Nat → Int32) × (Nat → Int32) × (Nat → Int32) × (Nat → Int32) × (Nat → Int32) × (Nat → Int32) × (Nat → Int32) × (Nat → Int32) × (Nat → Int32) × (Nat → Int32) × (Nat → Int32) × (Nat → Int32) × (Nat → Int32) × (Nat → Int32) × (Nat → Int32) × (Nat → Int32) × (Nat → Int32) × (Nat → Int32) × (Nat → Int32)} (hfl : l.stackTraces = false) (hX : rok X RR N) (hinv : m_X9_setsFor F RR (X 0) (X 2) (X 4) (X 6) (X 7) (X 8) (X 9) (X 10) (X 11) (X 13) (X 14) (X 15) (X 16) (X 18) (X 19) (X 20) (X 22) (X 23) (X 24) (X 25) (X 26) za1 = some R0) : sXi l D cy yX9_setsFor cX9_setsFor 4 (some .int) 25 10 80 [.ref (g 0), .int za1] g N X R0.1 R0.2.1 (up (up (up (up (up (up (up (up (up (up (up (up (up (up (up (up (up (up (up X 0 R0.2.2.1) 6 R0.2.2.2.1) 7 R0.2.2.2.2.1) 8 R0.2.2.2.2.2.1) 9 R0.2.2.2.2.2.2.1) 10 R0.2.2.2.2.2.2.2.1) 11 R0.2.2.2.2.2.2.2.2.1) 13 R0.2.2.2.2.2.2.2.2.2.1) 14 R0.2.2.2.2.2.2.2.2.2.2.1) 15 R0.2.2.2.2.2.2.2.2.2.2.2.1) 16 R0.2.2.2.2.2.2.2.2.2.2.2.2.1) 18 R0.2.2.2.2.2.2.2.2.2.2.2.2.2.1) 19 R0.2.2.2.2.2.2.2.2.2.2.2.2.2.2.1) 20 R0.2.2.2.2.2.2.2.2.2.2.2.2.2.2.2.1) 22 R0.2.2.2.2.2.2.2.2.2.2.2.2.2.2.2.2.1) 23 R0.2.2.2.2.2.2.2.2.2.2.2.2.2.2.2.2.2.1) 24 R0.2.2.2.2.2.2.2.2.2.2.2.2.2.2.2.2.2.2.1) 25 R0.2.2.2.2.2.2.2.2.2.2.2.2.2.2.2.2.2.2.2.1) 26 R0.2.2.2.2.2.2.2.2.2.2.2.2.2.2.2.2.2.2.2.2) := by
  refine jXi (by decide) rfl hfl (Nat.le_of_ble_eq_true rfl) rfl ?_
  intro p e R s m args below meth c ls A Q hRe C hw hl hret hthr hout
  subst hRe
  have hx := C.1
  have hb := C.2.1
  have hN := hX.1
  have hl : lv_has ls 4 [(0, .ref (g 0)), (1, .int za1)] := hl
  rw [m_X9_setsFor] at hinv
  refine lv_iload_n hx hb dX9_setsFor_0 rfl (lv_at hl 1 rfl) ?_
  obtain ⟨zu1, hzu1, hinv⟩ := ob hinv
  refine s_sXv (tag := zu1) C hw (As := [.int za1]) bX9_demandLiteral k350 (c_X9_demandLiteral (X := X) hfl hN hzu1) rfl rfl dX9_setsFor_1 ⟨rfl, rfl⟩ (by decide) hl.1 (Nat.le_of_ble_eq_true rfl) ⟨Nat.le_of_ble_eq_true rfl, Nat.le_of_ble_eq_true rfl⟩ (fun ce q9 H locs ht hw h1 h2 h3 => ?_) (fun H locs ht hw => ?_)
  · have hinv := oi_f ht hinv
    have hR0 := (Option.some.inj hinv).symm
    subst hR0
    have hXe : X = (up (up (up (up (up (up (up (up (up (up (up (up (up (up (up (up (up (up (up X 0 (X 0)) 6 (X 6)) 7 (X 7)) 8 (X 8)) 9 (X 9)) 10 (X 10)) 11 (X 11)) 13 (X 13)) 14 (X 14)) 15 (X 15)) 16 (X 16)) 18 (X 18)) 19 (X 19)) 20 (X 20)) 22 (X 22)) 23 (X 23)) 24 (X 24)) 25 (X 25)) 26 (X 26)) := by
      funext j
      by_cases h0 : j = 0
      · subst h0; simp [up]
      by_cases h6 : j = 6
      · subst h6; simp [up]
      by_cases h7 : j = 7
      · subst h7; simp [up]
      by_cases h8 : j = 8
      · subst h8; simp [up]
      by_cases h9 : j = 9
      · subst h9; simp [up]
      by_cases h10 : j = 10
      · subst h10; simp [up]
      by_cases h11 : j = 11
      · subst h11; simp [up]
      by_cases h13 : j = 13
      · subst h13; simp [up]
      by_cases h14 : j = 14
      · subst h14; simp [up]
      by_cases h15 : j = 15
      · subst h15; simp [up]
      by_cases h16 : j = 16
      · subst h16; simp [up]
      by_cases h18 : j = 18
      · subst h18; simp [up]
      by_cases h19 : j = 19
      · subst h19; simp [up]
      by_cases h20 : j = 20
      · subst h20; simp [up]
      by_cases h22 : j = 22
      · subst h22; simp [up]
      by_cases h23 : j = 23
      · subst h23; simp [up]
      by_cases h24 : j = 24
      · subst h24; simp [up]
      by_cases h25 : j = 25
      · subst h25; simp [up]
      by_cases h26 : j = 26
      · subst h26; simp [up]
      simp [up, h0, h6, h7, h8, h9, h10, h11, h13, h14, h15, h16, h18, h19, h20, h22, h23, h24, h25, h26]
    rw [hXe] at hw
    exact hout 1 ls _ H locs _ _ zu1 ce q9 ht rfl hw h1 h2 h3 (by decide) (by decide)
  · have hinv := oi_t ht hinv
    refine lv_aload_n hx hb dX9_setsFor_4 rfl (lv_at hl 0 rfl) ?_
    obtain ⟨zu2, hzu2, hinv⟩ := ob hinv
    refine s_vXv (tag := zu2.1) C hw (As := []) bX9_demandFew k443 (k := 0) (q47 hN rfl) (sh_0 g cy _) rfl (c_X9_demandFew (X := X) hfl hX hzu2) rfl rfl dX9_setsFor_5 ⟨rfl, rfl⟩ (by decide) hl.1 (Nat.le_of_ble_eq_true rfl) ⟨Nat.le_of_ble_eq_true rfl, Nat.le_of_ble_eq_true rfl⟩ (fun ce q9 H locs ht hw h1 h2 h3 => ?_) (fun H locs ht hw => ?_)
    · have hinv := oi_f ht hinv
      have hR0 := (Option.some.inj hinv).symm
      subst hR0
      have hXe : (up (up (up (up (up (up (up (up (up (up (up (up (up (up (up (up (up X 0 zu2.2.1) 6 zu2.2.2.1) 7 zu2.2.2.2.1) 8 zu2.2.2.2.2.1) 9 zu2.2.2.2.2.2.1) 10 zu2.2.2.2.2.2.2.1) 11 zu2.2.2.2.2.2.2.2.1) 13 zu2.2.2.2.2.2.2.2.2.1) 14 zu2.2.2.2.2.2.2.2.2.2.1) 15 zu2.2.2.2.2.2.2.2.2.2.2.1) 16 zu2.2.2.2.2.2.2.2.2.2.2.2.1) 18 zu2.2.2.2.2.2.2.2.2.2.2.2.2.1) 19 zu2.2.2.2.2.2.2.2.2.2.2.2.2.2.1) 20 zu2.2.2.2.2.2.2.2.2.2.2.2.2.2.2.1) 22 zu2.2.2.2.2.2.2.2.2.2.2.2.2.2.2.2.1) 23 zu2.2.2.2.2.2.2.2.2.2.2.2.2.2.2.2.2.1) 24 zu2.2.2.2.2.2.2.2.2.2.2.2.2.2.2.2.2.2) = (up (up (up (up (up (up (up (up (up (up (up (up (up (up (up (up (up (up (up X 0 zu2.2.1) 6 zu2.2.2.1) 7 zu2.2.2.2.1) 8 zu2.2.2.2.2.1) 9 zu2.2.2.2.2.2.1) 10 zu2.2.2.2.2.2.2.1) 11 zu2.2.2.2.2.2.2.2.1) 13 zu2.2.2.2.2.2.2.2.2.1) 14 zu2.2.2.2.2.2.2.2.2.2.1) 15 zu2.2.2.2.2.2.2.2.2.2.2.1) 16 zu2.2.2.2.2.2.2.2.2.2.2.2.1) 18 zu2.2.2.2.2.2.2.2.2.2.2.2.2.1) 19 zu2.2.2.2.2.2.2.2.2.2.2.2.2.2.1) 20 zu2.2.2.2.2.2.2.2.2.2.2.2.2.2.2.1) 22 zu2.2.2.2.2.2.2.2.2.2.2.2.2.2.2.2.1) 23 zu2.2.2.2.2.2.2.2.2.2.2.2.2.2.2.2.2.1) 24 zu2.2.2.2.2.2.2.2.2.2.2.2.2.2.2.2.2.2) 25 (X 25)) 26 (X 26)) := by
        funext j
        by_cases h0 : j = 0
        · subst h0; simp [up]
        by_cases h6 : j = 6
        · subst h6; simp [up]
        by_cases h7 : j = 7
        · subst h7; simp [up]
        by_cases h8 : j = 8
        · subst h8; simp [up]
        by_cases h9 : j = 9
        · subst h9; simp [up]
        by_cases h10 : j = 10
        · subst h10; simp [up]
        by_cases h11 : j = 11
        · subst h11; simp [up]
        by_cases h13 : j = 13
        · subst h13; simp [up]
        by_cases h14 : j = 14
        · subst h14; simp [up]
        by_cases h15 : j = 15
        · subst h15; simp [up]
        by_cases h16 : j = 16
        · subst h16; simp [up]
        by_cases h18 : j = 18
        · subst h18; simp [up]
        by_cases h19 : j = 19
        · subst h19; simp [up]
        by_cases h20 : j = 20
        · subst h20; simp [up]
        by_cases h22 : j = 22
        · subst h22; simp [up]
        by_cases h23 : j = 23
        · subst h23; simp [up]
        by_cases h24 : j = 24
        · subst h24; simp [up]
        by_cases h25 : j = 25
        · subst h25; simp [up]
        by_cases h26 : j = 26
        · subst h26; simp [up]
        simp [up, h0, h6, h7, h8, h9, h10, h11, h13, h14, h15, h16, h18, h19, h20, h22, h23, h24, h25, h26]
      rw [hXe] at hw
      exact hout 5 ls _ H locs _ _ zu2.1 ce q9 ht rfl hw h1 h2 h3 (by decide) (by decide)
    · have hinv := oi_t ht hinv
      refine lv_aload_n hx hb dX9_setsFor_8 rfl (lv_at hl 0 rfl) ?_
      obtain ⟨zu3, hzu3, hinv⟩ := ob hinv
      refine s_vWv C hw (As := []) bX9_trySets k446 (k := 0) (q47 hN rfl) (sh_0 g cy _) rfl (c_X9_trySets (X := (up (up (up (up (up (up (up (up (up (up (up (up (up (up (up (up (up X 0 zu2.2.1) 6 zu2.2.2.1) 7 zu2.2.2.2.1) 8 zu2.2.2.2.2.1) 9 zu2.2.2.2.2.2.1) 10 zu2.2.2.2.2.2.2.1) 11 zu2.2.2.2.2.2.2.2.1) 13 zu2.2.2.2.2.2.2.2.2.1) 14 zu2.2.2.2.2.2.2.2.2.2.1) 15 zu2.2.2.2.2.2.2.2.2.2.2.1) 16 zu2.2.2.2.2.2.2.2.2.2.2.2.1) 18 zu2.2.2.2.2.2.2.2.2.2.2.2.2.1) 19 zu2.2.2.2.2.2.2.2.2.2.2.2.2.2.1) 20 zu2.2.2.2.2.2.2.2.2.2.2.2.2.2.2.1) 22 zu2.2.2.2.2.2.2.2.2.2.2.2.2.2.2.2.1) 23 zu2.2.2.2.2.2.2.2.2.2.2.2.2.2.2.2.2.1) 24 zu2.2.2.2.2.2.2.2.2.2.2.2.2.2.2.2.2.2)) hfl hN hzu3) rfl rfl dX9_setsFor_9 ⟨rfl, rfl⟩ (by decide) hl.1 (Nat.le_of_ble_eq_true rfl) ⟨Nat.le_of_ble_eq_true rfl, Nat.le_of_ble_eq_true rfl⟩ (fun H locs hw => ?_)
      refine lv_iconst (v := 0) hx hb dX9_setsFor_12 (by decide) ?_
      refine lv_istore_n (lv' := [(2, .int 0), (0, .ref (g 0)), (1, .int za1)]) hx hb dX9_setsFor_13 rfl hl (by decide) rfl (fun ls hl => ?_)
      refine lv_iconst (v := 0) hx hb dX9_setsFor_14 (by decide) ?_
      refine lv_istore_n (lv' := [(3, .int 0), (2, .int 0), (0, .ref (g 0)), (1, .int za1)]) hx hb dX9_setsFor_15 rfl hl (by decide) rfl (fun ls hl => ?_)
      have hXe : (up (up (up (up (up (up (up (up (up (up (up (up (up (up (up (up (up (up (up (up X 0 zu2.2.1) 6 zu2.2.2.1) 7 zu2.2.2.2.1) 8 zu2.2.2.2.2.1) 9 zu2.2.2.2.2.2.1) 10 zu2.2.2.2.2.2.2.1) 11 zu2.2.2.2.2.2.2.2.1) 13 zu2.2.2.2.2.2.2.2.2.1) 14 zu2.2.2.2.2.2.2.2.2.2.1) 15 zu2.2.2.2.2.2.2.2.2.2.2.1) 16 zu2.2.2.2.2.2.2.2.2.2.2.2.1) 18 zu2.2.2.2.2.2.2.2.2.2.2.2.2.1) 19 zu2.2.2.2.2.2.2.2.2.2.2.2.2.2.1) 20 zu2.2.2.2.2.2.2.2.2.2.2.2.2.2.2.1) 22 zu2.2.2.2.2.2.2.2.2.2.2.2.2.2.2.2.1) 23 zu2.2.2.2.2.2.2.2.2.2.2.2.2.2.2.2.2.1) 24 zu2.2.2.2.2.2.2.2.2.2.2.2.2.2.2.2.2.2) 0 zu3.1) 25 zu3.2.1) 26 zu3.2.2) = (up (up (up (up (up (up (up (up (up (up (up (up (up (up (up (up (up (up (up X 0 zu3.1) 6 zu2.2.2.1) 7 zu2.2.2.2.1) 8 zu2.2.2.2.2.1) 9 zu2.2.2.2.2.2.1) 10 zu2.2.2.2.2.2.2.1) 11 zu2.2.2.2.2.2.2.2.1) 13 zu2.2.2.2.2.2.2.2.2.1) 14 zu2.2.2.2.2.2.2.2.2.2.1) 15 zu2.2.2.2.2.2.2.2.2.2.2.1) 16 zu2.2.2.2.2.2.2.2.2.2.2.2.1) 18 zu2.2.2.2.2.2.2.2.2.2.2.2.2.1) 19 zu2.2.2.2.2.2.2.2.2.2.2.2.2.2.1) 20 zu2.2.2.2.2.2.2.2.2.2.2.2.2.2.2.1) 22 zu2.2.2.2.2.2.2.2.2.2.2.2.2.2.2.2.1) 23 zu2.2.2.2.2.2.2.2.2.2.2.2.2.2.2.2.2.1) 24 zu2.2.2.2.2.2.2.2.2.2.2.2.2.2.2.2.2.2) 25 zu3.2.1) 26 zu3.2.2) := by
        funext j
        by_cases h0 : j = 0
        · subst h0; simp [up]
        by_cases h6 : j = 6
        · subst h6; simp [up]
        by_cases h7 : j = 7
        · subst h7; simp [up]
        by_cases h8 : j = 8
        · subst h8; simp [up]
        by_cases h9 : j = 9
        · subst h9; simp [up]
        by_cases h10 : j = 10
        · subst h10; simp [up]
        by_cases h11 : j = 11
        · subst h11; simp [up]
        by_cases h13 : j = 13
        · subst h13; simp [up]
        by_cases h14 : j = 14
        · subst h14; simp [up]
        by_cases h15 : j = 15
        · subst h15; simp [up]
        by_cases h16 : j = 16
        · subst h16; simp [up]
        by_cases h18 : j = 18
        · subst h18; simp [up]
        by_cases h19 : j = 19
        · subst h19; simp [up]
        by_cases h20 : j = 20
        · subst h20; simp [up]
        by_cases h22 : j = 22
        · subst h22; simp [up]
        by_cases h23 : j = 23
        · subst h23; simp [up]
        by_cases h24 : j = 24
        · subst h24; simp [up]
        by_cases h25 : j = 25
        · subst h25; simp [up]
        by_cases h26 : j = 26
        · subst h26; simp [up]
        simp [up, h0, h6, h7, h8, h9, h10, h11, h13, h14, h15, h16, h18, h19, h20, h22, h23, h24, h25, h26]
      rw [hXe] at hw
      have hl16 : ∀ (n : Nat) (x3_16 : Int32) (x2_16 : Int32) (q0_16 : Nat → Int32) (q6_16 : Nat → Int32) (q7_16 : Nat → Int32) (q8_16 : Nat → Int32) (q9_16 : Nat → Int32) (q10_16 : Nat → Int32) (q11_16 : Nat → Int32) (q13_16 : Nat → Int32) (q14_16 : Nat → Int32) (q15_16 : Nat → Int32) (q16_16 : Nat → Int32) (q18_16 : Nat → Int32) (q19_16 : Nat → Int32) (q20_16 : Nat → Int32) (q22_16 : Nat → Int32) (q23_16 : Nat → Int32) (q24_16 : Nat → Int32) (q25_16 : Nat → Int32) (q26_16 : Nat → Int32), m_X9_setsFor_L16 F za1 n x3_16 x2_16 q0_16 q6_16 q7_16 q8_16 q9_16 q10_16 q11_16 q13_16 q14_16 q15_16 q16_16 q18_16 q19_16 q20_16 q22_16 q23_16 q24_16 q25_16 q26_16 = some R0 → ∀ (H : Heap) (locs : List Loc) (ls : Array Slot), Wd D A s.heap g N (shp g cy (up (up (up (up (up (up (up (up (up (up (up (up (up (up (up (up (up (up (up X 0 q0_16) 6 q6_16) 7 q7_16) 8 q8_16) 9 q9_16) 10 q10_16) 11 q11_16) 13 q13_16) 14 q14_16) 15 q15_16) 16 q16_16) 18 q18_16) 19 q19_16) 20 q20_16) 22 q22_16) 23 q23_16) 24 q24_16) 25 q25_16) 26 q26_16)) H locs → lv_has ls 4 [(3, .int x3_16), (2, .int x2_16), (0, .ref (g 0)), (1, .int za1)] → W p l e (wR 25 10 80) s m args below meth c H locs 2 12 Q (F0 m 16 ls []) := by
        intro n
        induction n with
        | zero =>
          intro x3_16 x2_16 q0_16 q6_16 q7_16 q8_16 q9_16 q10_16 q11_16 q13_16 q14_16 q15_16 q16_16 q18_16 q19_16 q20_16 q22_16 q23_16 q24_16 q25_16 q26_16 hinv
          cases hinv
        | succ n ih =>
          intro x3_16 x2_16 q0_16 q6_16 q7_16 q8_16 q9_16 q10_16 q11_16 q13_16 q14_16 q15_16 q16_16 q18_16 q19_16 q20_16 q22_16 q23_16 q24_16 q25_16 q26_16 hinv H locs ls hw hl
          rw [m_X9_setsFor_L16] at hinv
          refine lv_iload_n hx hb dX9_setsFor_16 rfl (lv_at hl 0 rfl) ?_
          refine lv_aload_n hx hb dX9_setsFor_17 rfl (lv_at hl 2 rfl) ?_
          refine w_get C hw (k := 0) (v := .ref (g 16)) (j := 5) (q47 hN rfl) (sh_0 g cy _) rfl (by decide) k328 rfl dX9_setsFor_18 ?_
          refine w_getN C hw (k := 16) (v := .ref (g 25)) (j := 2) (q47 hN rfl) (sh_16 g cy _) rfl (by decide) k858 rfl dX9_setsFor_21 ?_
          refine w_getN C hw (k := 25) (v := .int (q25_16 1)) (j := 1) (q47 hN rfl) (sh_25 g cy _) rfl (by decide) k857 rfl dX9_setsFor_24 ?_
          refine lv_icmp_ge (tgt := 48) hx hb dX9_setsFor_27 (by decide) (fun c_27 => ?_) (fun c_27 => ?_)
          · have hinv := oi_t c_27 hinv
            refine lv_iload_n hx hb dX9_setsFor_48 rfl (lv_at hl 1 rfl) ?_
            have hR0 := (Option.some.inj hinv).symm
            subst hR0
            exact hret 49 ls x2_16 _ _ _ _ rfl rfl hw (by decide) (by decide) dX9_setsFor_49
          · have hinv := oi_f c_27 hinv
            refine lv_aload_n hx hb dX9_setsFor_30 rfl (lv_at hl 2 rfl) ?_
            refine lv_iload_n hx hb dX9_setsFor_31 rfl (lv_at hl 0 rfl) ?_
            refine lv_iload_n hx hb dX9_setsFor_32 rfl (lv_at hl 3 rfl) ?_
            obtain ⟨zu4, hzu4, hinv⟩ := ob hinv
            refine s_vRi (r0 := zu4) C hw (As := [.int x3_16, .int za1]) bX9_concludesInSet k463 (k := 0) (q47 hN rfl) (sh_0 g cy _) rfl (c_X9_concludesInSet (X := (up (up (up (up (up (up (up (up (up (up (up (up (up (up (up (up (up (up (up X 0 q0_16) 6 q6_16) 7 q7_16) 8 q8_16) 9 q9_16) 10 q10_16) 11 q11_16) 13 q13_16) 14 q14_16) 15 q15_16) 16 q16_16) 18 q18_16) 19 q19_16) 20 q20_16) 22 q22_16) 23 q23_16) 24 q24_16) 25 q25_16) 26 q26_16)) hfl hN hzu4) rfl rfl dX9_setsFor_33 ⟨rfl, rfl⟩ (by decide) hl.1 (Nat.le_of_ble_eq_true rfl) ⟨Nat.le_of_ble_eq_true rfl, Nat.le_of_ble_eq_true rfl⟩ ?_
            refine lv_if_eq (tgt := 42) hx hb dX9_setsFor_36 (by decide) (fun c_36 => ?_) (fun c_36 => ?_)
            · have hinv := oi_t c_36 hinv
              refine lv_iinc (v := (x3_16 + 1)) (lv' := [(3, .int (x3_16 + 1)), (2, .int x2_16), (0, .ref (g 0)), (1, .int za1)]) hx hb dX9_setsFor_42 hl (k := 0) rfl (by rfl) (by decide) rfl (fun ls hl => ?_)
              refine lv_goto (tgt := 16) hx hb dX9_setsFor_45 (by decide) ?_
              exact ih (x3_16 + 1) x2_16 q0_16 q6_16 q7_16 q8_16 q9_16 q10_16 q11_16 q13_16 q14_16 q15_16 q16_16 q18_16 q19_16 q20_16 q22_16 q23_16 q24_16 q25_16 q26_16 hinv _ _ ls hw (lv_sub hl [0, 1, 2, 3] rfl)
            · have hinv := oi_f c_36 hinv
              refine lv_iinc (v := (x2_16 + 1)) (lv' := [(2, .int (x2_16 + 1)), (3, .int x3_16), (0, .ref (g 0)), (1, .int za1)]) hx hb dX9_setsFor_39 hl (k := 1) rfl (by rfl) (by decide) rfl (fun ls hl => ?_)
              refine lv_iinc (v := (x3_16 + 1)) (lv' := [(3, .int (x3_16 + 1)), (2, .int (x2_16 + 1)), (0, .ref (g 0)), (1, .int za1)]) hx hb dX9_setsFor_42 hl (k := 1) rfl (by rfl) (by decide) rfl (fun ls hl => ?_)
              refine lv_goto (tgt := 16) hx hb dX9_setsFor_45 (by decide) ?_
              exact ih (x3_16 + 1) (x2_16 + 1) q0_16 q6_16 q7_16 q8_16 q9_16 q10_16 q11_16 q13_16 q14_16 q15_16 q16_16 q18_16 q19_16 q20_16 q22_16 q23_16 q24_16 q25_16 q26_16 hinv _ _ ls hw (lv_sub hl [0, 1, 2, 3] rfl)
      exact hl16 F 0 0 zu3.1 zu2.2.2.1 zu2.2.2.2.1 zu2.2.2.2.2.1 zu2.2.2.2.2.2.1 zu2.2.2.2.2.2.2.1 zu2.2.2.2.2.2.2.2.1 zu2.2.2.2.2.2.2.2.2.1 zu2.2.2.2.2.2.2.2.2.2.1 zu2.2.2.2.2.2.2.2.2.2.2.1 zu2.2.2.2.2.2.2.2.2.2.2.2.1 zu2.2.2.2.2.2.2.2.2.2.2.2.2.1 zu2.2.2.2.2.2.2.2.2.2.2.2.2.2.1 zu2.2.2.2.2.2.2.2.2.2.2.2.2.2.2.1 zu2.2.2.2.2.2.2.2.2.2.2.2.2.2.2.2.1 zu2.2.2.2.2.2.2.2.2.2.2.2.2.2.2.2.2.1 zu2.2.2.2.2.2.2.2.2.2.2.2.2.2.2.2.2.2 zu3.2.1 zu3.2.2 hinv _ _ ls hw (lv_sub hl [0, 1, 2, 3] rfl)

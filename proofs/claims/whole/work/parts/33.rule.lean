/-! rules told and changed -/
def fgt (r0 : Nat → Int32) : Nat → Int32 := upd (upd (upd r0 6 0) 7 0) 8 0
def rrow (zh z1 z2 z3 zp : Int32) : Nat → Int32 := fun j => match j with
  | 0 => zh
  | 1 => z1
  | 2 => z2
  | 3 => z3
  | 4 => zp
  | 5 => 0
  | _ => 1
section SPR
variable {p : Program} {l : Launch} {e : Env} {R : Room} {s : State} {m : MethodId} {args : Array Value} {below : List Frame} {meth : Method} {c : Code} {H : Heap} {locs : List Loc} {cells slots : Nat} {Q : State → Prop}
variable {cc : ByteArray} {nL : Nat} {own : String} {pc : Nat} {ls : Array Slot} {rest : List Value} {D : va_G} {cy : Nat → Nat} {A : Nat → Prop} {g : Nat → Nat} {N : Nat} {X : Nat → Nat → Int32}
theorem s_putRN (C : wCx p l s m args c meth cc nL own D cy A) (h : Wd D A s.heap g N (shp g cy X) H locs) {t j index : Nat} {host : String} {v : Int32} (ht : isRl t) (htN : t < N) (hj : j = 4 ∨ j = 5 ∨ j = 6) (hv : j = 6 → v = 0 ∨ v = 1) (hlink : (Cond.fieldLinkNest own index (TX4 j).1 (TX4 j).2.1 (TX4 j).2.2.1 host) ∈ wAll) (hdg : decode cc pc = .ok (.putfield index, 3))
    (kk : ∀ (H1 : Heap) (locs1 : List Loc), Wd D A s.heap g N (shp g cy (up X t (upd (X t) j v))) H1 locs1 → W p l e R s m args below meth c H1 locs1 cells slots Q (F0 m (pc + 3) ls rest)) : W p l e R s m args below meth c H locs cells slots Q (F0 m pc ls (.int v :: .ref (g t) :: rest)) := by
  have hf : shp g cy X t = .inr (5, [.int (X t 0), .int (X t 1), .int (X t 2), .int (X t 3), .int (X t 4), .int (X t 5), .int (X t 6)]) := sh_rl g cy ht (X t)
  have hup : ∀ row, va_up (shp g cy X) t (sh g cy t row) = shp g cy (up X t row) := fun row => shp_up rfl
  rcases hj with rfl | rfl | rfl
  · refine w_putN C h [.int (X t 0), .int (X t 1), .int (X t 2), .int (X t 3), .int v, .int (X t 5), .int (X t 6)] (ty := tyX4) (v := .int v) (j := 4) htN hf rfl tyX4_ok nmX4 (by decide) hlink rfl rfl rfl (Nat.le_of_ble_eq_true rfl) rfl hdg fun H1 locs1 hw => ?_
    have h9 := sh_rl g cy ht (upd (X t) 4 v)
    have h9 : sh g cy t (upd (X t) 4 v) = .inr (5, [.int (X t 0), .int (X t 1), .int (X t 2), .int (X t 3), .int v, .int (X t 5), .int (X t 6)]) := h9
    rw [← h9, hup] at hw
    exact kk H1 locs1 hw
  · refine w_putN C h [.int (X t 0), .int (X t 1), .int (X t 2), .int (X t 3), .int (X t 4), .int v, .int (X t 6)] (ty := tyX4) (v := .int v) (j := 5) htN hf rfl tyX4_ok nmX4 (by decide) hlink rfl rfl rfl (Nat.le_of_ble_eq_true rfl) rfl hdg fun H1 locs1 hw => ?_
    have h9 := sh_rl g cy ht (upd (X t) 5 v)
    have h9 : sh g cy t (upd (X t) 5 v) = .inr (5, [.int (X t 0), .int (X t 1), .int (X t 2), .int (X t 3), .int (X t 4), .int v, .int (X t 6)]) := h9
    rw [← h9, hup] at hw
    exact kk H1 locs1 hw
  · refine w_putN C h [.int (X t 0), .int (X t 1), .int (X t 2), .int (X t 3), .int (X t 4), .int (X t 5), .int v] (ty := tyX4) (v := .int v) (j := 6) htN hf rfl tyX4_ok nmX4 (by decide) hlink rfl (w_nar (hv rfl)) (by rcases hv rfl with rfl | rfl <;> rfl) (Nat.le_of_ble_eq_true rfl) rfl hdg fun H1 locs1 hw => ?_
    have h9 := sh_rl g cy ht (upd (X t) 6 v)
    have h9 : sh g cy t (upd (X t) 6 v) = .inr (5, [.int (X t 0), .int (X t 1), .int (X t 2), .int (X t 3), .int (X t 4), .int (X t 5), .int v]) := h9
    rw [← h9, hup] at hw
    exact kk H1 locs1 hw
end SPR
theorem rl_ne0 {t : Nat} (h : isRl t) : (0 : Nat) ≠ t := by
  rcases h with h | h <;> omega
theorem jXNi {l : Launch} {D : va_G} {cy : Nat → Nat} {g : Nat → Nat} {N N' : Nat} {X X' : Nat → Nat → Int32} {y : MethodName} {cc : ByteArray} {maxL : Nat} {ret : Option FieldType} {d mc ms tag : Nat} {av : List Value} {r0 : Int32} (hy : plainName y.cls = true) (hown : y.cls = RX9) (hfl : l.stackTraces = false) (hav : (lg_sl av).length ≤ maxL) (hret : ret = some .int)
    (body : ∀ (p : Program) (e : Env) (R : Room) (s : State) (m : MethodId) (args : Array Value) (below : List Frame) (meth : Method) (c : Code) (ls : Array Slot) (A : Nat → Prop) (Q : State → Prop), R = wR d mc ms → wCx p l s m args c meth cc maxL RX9 D cy A → Wd D A s.heap g N (shp g cy X) s.heap [] → lv_has ls maxL (lv_args 0 av) →
      (∀ (pc : Nat) (ls : Array Slot) (v : Int32) (g1 : Nat → Nat) (H : Heap) (locs : List Loc) (cells slots : Nat), tag = 0 → v = r0 → (∀ j, j < N → g1 j = g j) → Wd D A s.heap g1 N' (shp g1 cy X') H locs → cells ≤ mc → slots ≤ ms → decode cc pc = .ok (.ireturn, 1) → W p l e R s m args below meth c H locs cells slots Q (F0 m pc ls [.int v])) → wThr p l e R s m args below meth c Q D A g N (shp g cy X) cc maxL tag mc ms → wOut p l e R s m args below meth c Q D A g N (shp g cy X) tag mc ms → W p l e R s m args below meth c s.heap [] 0 0 Q (F0 m 0 ls [])) :
    cXNi l D cy y cc maxL ret d mc ms av g N (shp g cy X) (fun r u => tag = 0 ∧ r = r0 ∧ u.2.1 = N' ∧ (∀ j, j < N → u.1 j = g j) ∧ u.2.2 = shp u.1 cy X') (fun E f' => ¬ tag = 0 ∧ E = xN tag ∧ f' = shp g cy X) :=
  iXNi hy hown hfl hav (fun p e s m below meth c ls C hr hx hw hl => body p e _ s m _ below meth c ls _ _ rfl C hw hl
    (fun pc ls v g1 H locs cells slots ht hv hg hw h1 h2 hd => vx_ret (eNi C hw (hr.trans hret) ⟨ht, hv, rfl, hg, rfl⟩ h1 h2 hd))
    (fun pc ls H locs cells slots ik ic is cls text ht hc hw hq hf htx hsz d0 d3 d4 d6 d9 hR h1 h2 => eThrow C hx hw hq hf htx ⟨ht, hc, rfl⟩ hsz d0 d3 d4 d6 d9 hR rfl h1 h2)
    (fun pc ls rest H locs cells slots t2 ce q9 ht h0 hw h1 h2 h3 h4 h5 => by subst h0; exact eOut C hx hw ⟨ht, rfl, rfl⟩ h1 h2 h3 h4 h5))
/-- a new rule's cell -/
theorem rule_ext {cy g : Nat → Nat} {N n q : Nat} {X : Nat → Nat → Int32} {row : Nat → Int32} {e : va_E} (hL : lst X n) (h12 : n < 12) (hN : N = rid n) (he : ∀ g1, sh g1 cy N row = e) : ∀ k, k < N + 1 → va_up (shp g cy X) N e k = shp (va_up g N q) cy (up X N row) k := by
  intro k hk
  have hrn := rid_ge n
  by_cases kk : k = N
  · subst kk
    rw [va_up_self]
    show _ = sh _ cy k (up X k row k)
    rw [up_at, he]
  · rw [va_up_ne _ _ kk]
    show sh g cy k (X k) = sh (va_up g N q) cy k (up X N row k)
    rw [up_ne kk]
    have hg : ∀ i, i < N → va_up g N q i = g i := fun i hi => va_up_ne _ _ (by omega)
    by_cases k4 : k = 4
    · subst k4
      rw [sh_4, sh_4, hL.2.1]
      by_cases h0 : n = 0
      · subst h0; rfl
      · rw [wElem_n (by omega) (by omega), wElem_n (by omega) (by omega), hg _ (by
          have : ∀ n, n < 12 → n ≠ 0 → kaOf n < rid n := by decide
          rw [hN]; exact this n h12 h0)]
    · by_cases k48 : k = 48
      · subst k48
        have h1 : 1 ≤ n := by
          rcases Nat.eq_zero_or_pos n with h | h
          · subst h
            have : rid 0 = 47 := rfl
            omega
          · exact h
        rw [hL.2.2.1 h1]
        show objs cy 10 _ = objs cy 10 _
        congr 5
        funext j
        by_cases hj : j < min n 10
        · rw [if_neg (fun q9 => lrow_z.mp q9 hj), if_neg (fun q9 => lrow_z.mp q9 hj), hg _ (by rw [hN]; exact rid_lt (by omega) h12)]
        · rw [if_pos (lrow_z.mpr hj), if_pos (lrow_z.mpr hj)]
      · by_cases k59 : k = 59
        · subst k59
          have h1 : 11 ≤ n := by
            have : ∀ n, n < 12 → 59 < rid n + 1 → 11 ≤ n := by decide
            exact this n h12 (by omega)
          rw [hL.2.2.2 h1]
          show objs cy 15 _ = objs cy 15 _
          congr 5
          funext j
          by_cases hj : j < n
          · rw [if_neg (fun q9 => lrow_z.mp q9 hj), if_neg (fun q9 => lrow_z.mp q9 hj), hg _ (by rw [hN]; exact rid_lt (by omega) h12)]
          · rw [if_pos (lrow_z.mpr hj), if_pos (lrow_z.mpr hj)]
        · exact sh_gx (fun i hi => hg i (by omega)) k4 k48 k59
theorem lst_rule {X : Nat → Nat → Int32} {n N : Nat} {row : Nat → Int32} (h : lst X n) (hN : N = rid n) : lst (up X N row) n := by
  have hrn := rid_ge n
  have hne := rid_ne n
  obtain ⟨h1, h2, h3, h4⟩ := h
  refine ⟨h1, ?_, fun q => ?_, fun q => ?_⟩
  · rw [up_ne (by omega)]; exact h2
  · rw [up_ne (by omega)]; exact h3 q
  · rw [up_ne (by omega)]; exact h4 q
/-- the world behind a rule told -/
def ruX (X : Nat → Nat → Int32) (n : Nat) (zh z1 z2 z3 zp : Int32) : Nat → Nat → Int32 := up (addX (modX (up X (rid n) (rrow zh z1 z2 z3 zp))) n) 0 (fgt (X 0))
def ruN (n : Nat) : Nat := addN (rid n + 1) n
def m_X9_setPriority (F : Nat) (r4 : Nat → Int32) (rt : Nat → Int32) (za1 : Int32) (za2 : Int32) : Option (Nat × Int32) := Option.bind (m_X9_demandRule F r4 za1) (fun zu1 => if zu1 = 0 then (Option.bind (m_X9_demandPriority F za2) (fun zu2 => if zu2 = 0 then (some (0, (rt 4))) else some (zu2, 0))) else some (zu1, 0))
set_option maxHeartbeats 4000000 in
set_option maxRecDepth 100000 in
theorem c_X9_setPriority {l : Launch} {D : va_G} {cy : Nat → Nat} {g : Nat → Nat} {N : Nat} {X : Nat → Nat → Int32} {F : Nat} {za1 : Int32} {za2 : Int32} {R0 : Nat × Int32} (hfl : l.stackTraces = false) (hX : rok X X N) {X' : Nat → Nat → Int32} (hX' : X' = if R0.1 = 0 then up (up X (aid (X 4 2) za1) (upd (X (aid (X 4 2) za1)) 4 za2)) 0 (fgt (X 0)) else X) (hinv : m_X9_setPriority F (X 4) (X (aid (X 4 2) za1)) za1 za2 = some R0) : sXi l D cy yX9_setPriority cX9_setPriority 5 (some .int) 7 10 80 [.ref (g 0), .int za1, .int za2] g N X R0.1 R0.2 X' := by
  refine jXi (by decide) rfl hfl (Nat.le_of_ble_eq_true rfl) rfl ?_
  intro p e R s m args below meth c ls A Q hRe C hw hl hret hthr hout
  subst hRe
  have hN := hX.1
  have hx := C.1
  have hb := C.2.1
  have hl : lv_has ls 5 [(0, .ref (g 0)), (1, .int za1), (2, .int za2)] := hl
  rw [m_X9_setPriority] at hinv
  refine lv_aload_n hx hb dX9_setPriority_0 rfl (lv_at hl 0 rfl) ?_
  refine lv_iload_n hx hb dX9_setPriority_1 rfl (lv_at hl 1 rfl) ?_
  obtain ⟨zu1, hzu1, hinv⟩ := ob hinv
  refine s_vXv (tag := zu1) C hw (As := [.int za1]) bX9_demandRule k380 (k := 0) (q47 hN rfl) (sh_0 g cy _) rfl (c_X9_demandRule (X := X) hfl hN hzu1) rfl rfl dX9_setPriority_2 ⟨rfl, rfl⟩ (by decide) hl.1 (Nat.le_of_ble_eq_true rfl) ⟨Nat.le_of_ble_eq_true rfl, Nat.le_of_ble_eq_true rfl⟩ (fun ce q9 H locs ht hw h1 h2 h3 => ?_) (fun H locs ht hw => ?_)
  · have hinv := oi_f ht hinv
    have hR0 := (Option.some.inj hinv).symm
    subst hR0
    have hXe := hX'.trans (if_neg ht)
    rw [← hXe] at hw
    exact hout 2 ls _ H locs _ _ zu1 ce q9 ht rfl hw h1 h2 h3 (by decide) (by decide)
  · have hinv := oi_t ht hinv
    refine lv_iload_n hx hb dX9_setPriority_5 rfl (lv_at hl 2 rfl) ?_
    obtain ⟨zu2, hzu2, hinv⟩ := ob hinv
    refine s_sXv (tag := zu2) C hw (As := [.int za2]) bX9_demandPriority k367 (c_X9_demandPriority (X := X) hfl hN hzu2) rfl rfl dX9_setPriority_6 ⟨rfl, rfl⟩ (by decide) hl.1 (Nat.le_of_ble_eq_true rfl) ⟨Nat.le_of_ble_eq_true rfl, Nat.le_of_ble_eq_true rfl⟩ (fun ce q9 H locs ht hw h1 h2 h3 => ?_) (fun H locs ht hw => ?_)
    · have hinv := oi_f ht hinv
      have hR0 := (Option.some.inj hinv).symm
      subst hR0
      have hXe := hX'.trans (if_neg ht)
      rw [← hXe] at hw
      exact hout 6 ls _ H locs _ _ zu2 ce q9 ht rfl hw h1 h2 h3 (by decide) (by decide)
    · have hinv := oi_t ht hinv
      refine lv_aload_n hx hb dX9_setPriority_9 rfl (lv_at hl 0 rfl) ?_
      refine w_get C hw (k := 0) (v := .ref (g 3)) (j := 1) (q47 hN rfl) (sh_0 g cy _) rfl (by decide) k316 rfl dX9_setPriority_10 ?_
      refine lv_iload_n hx hb dX9_setPriority_13 rfl (lv_at hl 1 rfl) ?_
      refine s_vRr C hw (r0 := (aid (X 4 2) za1)) (As := [.int za1]) bX5_at k383 (k := 3) (q47 hN rfl) (sh_3 g cy _) rfl (c_X5_at (X := X) (RR := X) hfl hX) rfl rfl dX9_setPriority_14 ⟨rfl, rfl⟩ (by decide) hl.1 (Nat.le_of_ble_eq_true rfl) (by decide) ?_
      have ht := hX.2.2.2.2.1 za1
      refine lv_astore_n (lv' := [(3, .ref (g (aid (X 4 2) za1))), (0, .ref (g 0)), (1, .int za1), (2, .int za2)]) hx hb dX9_setPriority_17 rfl hl (by decide) rfl (fun ls hl => ?_)
      refine lv_aload_n hx hb dX9_setPriority_18 rfl (lv_at hl 0 rfl) ?_
      refine s_getRN C hw (RR := X) (j := 4) ht (by decide) k841 dX9_setPriority_19 ?_
      refine lv_istore (lv' := [(4, .int (X (aid (X 4 2) za1) 4)), (3, .ref (g (aid (X 4 2) za1))), (0, .ref (g 0)), (1, .int za1), (2, .int za2)]) hx hb dX9_setPriority_22 hl (by decide) rfl (fun ls hl => ?_)
      refine lv_aload_n hx hb dX9_setPriority_24 rfl (lv_at hl 1 rfl) ?_
      refine lv_iload_n hx hb dX9_setPriority_25 rfl (lv_at hl 4 rfl) ?_
      refine s_putRN C hw (j := 4) (v := za2) ht.1 ht.2.1 (Or.inl rfl) (fun q9 => absurd q9 (by decide)) k841 dX9_setPriority_26 (fun H locs hw => ?_)
      refine lv_aload_n hx hb dX9_setPriority_29 rfl (lv_at hl 2 rfl) ?_
      have e0 : up X (aid (X 4 2) za1) (upd (X (aid (X 4 2) za1)) 4 za2) 0 = X 0 := up_ne (rl_ne0 ht.1)
      refine s_vWv C hw (As := []) bX9_forget k356 (k := 0) (q47 hN rfl) (sh_0 g cy _) rfl (c_X9_forget (F := F) (X := up X (aid (X 4 2) za1) (upd (X (aid (X 4 2) za1)) 4 za2)) (R0 := fgt (X 0)) hfl hN (by rw [e0]; rfl)) rfl rfl dX9_setPriority_30 ⟨rfl, rfl⟩ (by decide) hl.1 (Nat.le_of_ble_eq_true rfl) ⟨Nat.le_of_ble_eq_true rfl, Nat.le_of_ble_eq_true rfl⟩ (fun H locs hw => ?_)
      refine lv_iload hx hb dX9_setPriority_33 (lv_at hl 0 rfl) ?_
      have hR0 := (Option.some.inj hinv).symm
      subst hR0
      have hXe := hX'.trans (if_pos rfl)
      rw [← hXe] at hw
      exact hret 35 ls _ H locs _ _ rfl rfl hw (by decide) (by decide) dX9_setPriority_35
def m_X9_setException (F : Nat) (r4 : Nat → Int32) (rt : Nat → Int32) (za1 : Int32) (za2 : Int32) : Option (Nat × Int32) := Option.bind (m_X9_demandRule F r4 za1) (fun zu1 => if zu1 = 0 then (Option.bind (m_X9_demandLiteralOrNone F za2) (fun zu2 => if zu2 = 0 then (some (0, (rt 5))) else some (zu2, 0))) else some (zu1, 0))
set_option maxHeartbeats 4000000 in
set_option maxRecDepth 100000 in
theorem c_X9_setException {l : Launch} {D : va_G} {cy : Nat → Nat} {g : Nat → Nat} {N : Nat} {X : Nat → Nat → Int32} {F : Nat} {za1 : Int32} {za2 : Int32} {R0 : Nat × Int32} (hfl : l.stackTraces = false) (hX : rok X X N) {X' : Nat → Nat → Int32} (hX' : X' = if R0.1 = 0 then up (up X (aid (X 4 2) za1) (upd (X (aid (X 4 2) za1)) 5 za2)) 0 (fgt (X 0)) else X) (hinv : m_X9_setException F (X 4) (X (aid (X 4 2) za1)) za1 za2 = some R0) : sXi l D cy yX9_setException cX9_setException 5 (some .int) 7 10 80 [.ref (g 0), .int za1, .int za2] g N X R0.1 R0.2 X' := by
  refine jXi (by decide) rfl hfl (Nat.le_of_ble_eq_true rfl) rfl ?_
  intro p e R s m args below meth c ls A Q hRe C hw hl hret hthr hout
  subst hRe
  have hN := hX.1
  have hx := C.1
  have hb := C.2.1
  have hl : lv_has ls 5 [(0, .ref (g 0)), (1, .int za1), (2, .int za2)] := hl
  rw [m_X9_setException] at hinv
  refine lv_aload_n hx hb dX9_setException_0 rfl (lv_at hl 0 rfl) ?_
  refine lv_iload_n hx hb dX9_setException_1 rfl (lv_at hl 1 rfl) ?_
  obtain ⟨zu1, hzu1, hinv⟩ := ob hinv
  refine s_vXv (tag := zu1) C hw (As := [.int za1]) bX9_demandRule k380 (k := 0) (q47 hN rfl) (sh_0 g cy _) rfl (c_X9_demandRule (X := X) hfl hN hzu1) rfl rfl dX9_setException_2 ⟨rfl, rfl⟩ (by decide) hl.1 (Nat.le_of_ble_eq_true rfl) ⟨Nat.le_of_ble_eq_true rfl, Nat.le_of_ble_eq_true rfl⟩ (fun ce q9 H locs ht hw h1 h2 h3 => ?_) (fun H locs ht hw => ?_)
  · have hinv := oi_f ht hinv
    have hR0 := (Option.some.inj hinv).symm
    subst hR0
    have hXe := hX'.trans (if_neg ht)
    rw [← hXe] at hw
    exact hout 2 ls _ H locs _ _ zu1 ce q9 ht rfl hw h1 h2 h3 (by decide) (by decide)
  · have hinv := oi_t ht hinv
    refine lv_iload_n hx hb dX9_setException_5 rfl (lv_at hl 2 rfl) ?_
    obtain ⟨zu2, hzu2, hinv⟩ := ob hinv
    refine s_sXv (tag := zu2) C hw (As := [.int za2]) bX9_demandLiteralOrNone k342 (c_X9_demandLiteralOrNone (X := X) hfl hN hzu2) rfl rfl dX9_setException_6 ⟨rfl, rfl⟩ (by decide) hl.1 (Nat.le_of_ble_eq_true rfl) ⟨Nat.le_of_ble_eq_true rfl, Nat.le_of_ble_eq_true rfl⟩ (fun ce q9 H locs ht hw h1 h2 h3 => ?_) (fun H locs ht hw => ?_)
    · have hinv := oi_f ht hinv
      have hR0 := (Option.some.inj hinv).symm
      subst hR0
      have hXe := hX'.trans (if_neg ht)
      rw [← hXe] at hw
      exact hout 6 ls _ H locs _ _ zu2 ce q9 ht rfl hw h1 h2 h3 (by decide) (by decide)
    · have hinv := oi_t ht hinv
      refine lv_aload_n hx hb dX9_setException_9 rfl (lv_at hl 0 rfl) ?_
      refine w_get C hw (k := 0) (v := .ref (g 3)) (j := 1) (q47 hN rfl) (sh_0 g cy _) rfl (by decide) k316 rfl dX9_setException_10 ?_
      refine lv_iload_n hx hb dX9_setException_13 rfl (lv_at hl 1 rfl) ?_
      refine s_vRr C hw (r0 := (aid (X 4 2) za1)) (As := [.int za1]) bX5_at k383 (k := 3) (q47 hN rfl) (sh_3 g cy _) rfl (c_X5_at (X := X) (RR := X) hfl hX) rfl rfl dX9_setException_14 ⟨rfl, rfl⟩ (by decide) hl.1 (Nat.le_of_ble_eq_true rfl) (by decide) ?_
      have ht := hX.2.2.2.2.1 za1
      refine lv_astore_n (lv' := [(3, .ref (g (aid (X 4 2) za1))), (0, .ref (g 0)), (1, .int za1), (2, .int za2)]) hx hb dX9_setException_17 rfl hl (by decide) rfl (fun ls hl => ?_)
      refine lv_aload_n hx hb dX9_setException_18 rfl (lv_at hl 0 rfl) ?_
      refine s_getRN C hw (RR := X) (j := 5) ht (by decide) k844 dX9_setException_19 ?_
      refine lv_istore (lv' := [(4, .int (X (aid (X 4 2) za1) 5)), (3, .ref (g (aid (X 4 2) za1))), (0, .ref (g 0)), (1, .int za1), (2, .int za2)]) hx hb dX9_setException_22 hl (by decide) rfl (fun ls hl => ?_)
      refine lv_aload_n hx hb dX9_setException_24 rfl (lv_at hl 1 rfl) ?_
      refine lv_iload_n hx hb dX9_setException_25 rfl (lv_at hl 4 rfl) ?_
      refine s_putRN C hw (j := 5) (v := za2) ht.1 ht.2.1 (Or.inr (Or.inl rfl)) (fun q9 => absurd q9 (by decide)) k844 dX9_setException_26 (fun H locs hw => ?_)
      refine lv_aload_n hx hb dX9_setException_29 rfl (lv_at hl 2 rfl) ?_
      have e0 : up X (aid (X 4 2) za1) (upd (X (aid (X 4 2) za1)) 5 za2) 0 = X 0 := up_ne (rl_ne0 ht.1)
      refine s_vWv C hw (As := []) bX9_forget k356 (k := 0) (q47 hN rfl) (sh_0 g cy _) rfl (c_X9_forget (F := F) (X := up X (aid (X 4 2) za1) (upd (X (aid (X 4 2) za1)) 5 za2)) (R0 := fgt (X 0)) hfl hN (by rw [e0]; rfl)) rfl rfl dX9_setException_30 ⟨rfl, rfl⟩ (by decide) hl.1 (Nat.le_of_ble_eq_true rfl) ⟨Nat.le_of_ble_eq_true rfl, Nat.le_of_ble_eq_true rfl⟩ (fun H locs hw => ?_)
      refine lv_iload hx hb dX9_setException_33 (lv_at hl 0 rfl) ?_
      have hR0 := (Option.some.inj hinv).symm
      subst hR0
      have hXe := hX'.trans (if_pos rfl)
      rw [← hXe] at hw
      exact hret 35 ls _ H locs _ _ rfl rfl hw (by decide) (by decide) dX9_setException_35
def m_X9_turn (F : Nat) (r4 : Nat → Int32) (rt : Nat → Int32) (za1 : Int32) (za2 : Int32) : Option (Nat × Int32) := Option.bind (m_X9_demandRule F r4 za1) (fun zu1 => if zu1 = 0 then (if (rt 6) = 0 ∨ (rt 6) = 1 then (some (0, (rt 6))) else none) else some (zu1, 0))
set_option maxHeartbeats 4000000 in
set_option maxRecDepth 100000 in
theorem c_X9_turn {l : Launch} {D : va_G} {cy : Nat → Nat} {g : Nat → Nat} {N : Nat} {X : Nat → Nat → Int32} {F : Nat} {za1 : Int32} {za2 : Int32} {R0 : Nat × Int32} (hfl : l.stackTraces = false) (hX : rok X X N) (hz2 : za2 = 0 ∨ za2 = 1) {X' : Nat → Nat → Int32} (hX' : X' = if R0.1 = 0 then up (up X (aid (X 4 2) za1) (upd (X (aid (X 4 2) za1)) 6 za2)) 0 (fgt (X 0)) else X) (hinv : m_X9_turn F (X 4) (X (aid (X 4 2) za1)) za1 za2 = some R0) : sXi l D cy yX9_turn cX9_turn 5 (some .boolean) 7 10 80 [.ref (g 0), .int za1, .int za2] g N X R0.1 R0.2 X' := by
  refine jXz (by decide) rfl hfl (Nat.le_of_ble_eq_true rfl) rfl ?_
  intro p e R s m args below meth c ls A Q hRe C hw hl hret hthr hout
  subst hRe
  have hN := hX.1
  have hx := C.1
  have hb := C.2.1
  have hl : lv_has ls 5 [(0, .ref (g 0)), (1, .int za1), (2, .int za2)] := hl
  rw [m_X9_turn] at hinv
  refine lv_aload_n hx hb dX9_turn_0 rfl (lv_at hl 0 rfl) ?_
  refine lv_iload_n hx hb dX9_turn_1 rfl (lv_at hl 1 rfl) ?_
  obtain ⟨zu1, hzu1, hinv⟩ := ob hinv
  refine s_vXv (tag := zu1) C hw (As := [.int za1]) bX9_demandRule k380 (k := 0) (q47 hN rfl) (sh_0 g cy _) rfl (c_X9_demandRule (X := X) hfl hN hzu1) rfl rfl dX9_turn_2 ⟨rfl, rfl⟩ (by decide) hl.1 (Nat.le_of_ble_eq_true rfl) ⟨Nat.le_of_ble_eq_true rfl, Nat.le_of_ble_eq_true rfl⟩ (fun ce q9 H locs ht hw h1 h2 h3 => ?_) (fun H locs ht hw => ?_)
  · have hinv := oi_f ht hinv
    have hR0 := (Option.some.inj hinv).symm
    subst hR0
    have hXe := hX'.trans (if_neg ht)
    rw [← hXe] at hw
    exact hout 2 ls _ H locs _ _ zu1 ce q9 ht rfl hw h1 h2 h3 (by decide) (by decide)
  · have hinv := oi_t ht hinv
    refine lv_aload_n hx hb dX9_turn_5 rfl (lv_at hl 0 rfl) ?_
    refine w_get C hw (k := 0) (v := .ref (g 3)) (j := 1) (q47 hN rfl) (sh_0 g cy _) rfl (by decide) k316 rfl dX9_turn_6 ?_
    refine lv_iload_n hx hb dX9_turn_9 rfl (lv_at hl 1 rfl) ?_
    refine s_vRr C hw (r0 := (aid (X 4 2) za1)) (As := [.int za1]) bX5_at k383 (k := 3) (q47 hN rfl) (sh_3 g cy _) rfl (c_X5_at (X := X) (RR := X) hfl hX) rfl rfl dX9_turn_10 ⟨rfl, rfl⟩ (by decide) hl.1 (Nat.le_of_ble_eq_true rfl) (by decide) ?_
    have ht := hX.2.2.2.2.1 za1
    refine lv_astore_n (lv' := [(3, .ref (g (aid (X 4 2) za1))), (0, .ref (g 0)), (1, .int za1), (2, .int za2)]) hx hb dX9_turn_13 rfl hl (by decide) rfl (fun ls hl => ?_)
    refine lv_aload_n hx hb dX9_turn_14 rfl (lv_at hl 0 rfl) ?_
    refine s_getRN C hw (RR := X) (j := 6) ht (by decide) k846 dX9_turn_15 ?_
    refine lv_istore (lv' := [(4, .int (X (aid (X 4 2) za1) 6)), (3, .ref (g (aid (X 4 2) za1))), (0, .ref (g 0)), (1, .int za1), (2, .int za2)]) hx hb dX9_turn_18 hl (by decide) rfl (fun ls hl => ?_)
    refine lv_aload_n hx hb dX9_turn_20 rfl (lv_at hl 1 rfl) ?_
    refine lv_iload_n hx hb dX9_turn_21 rfl (lv_at hl 4 rfl) ?_
    refine s_putRN C hw (j := 6) (v := za2) ht.1 ht.2.1 (Or.inr (Or.inr rfl)) (fun _ => hz2) k846 dX9_turn_22 (fun H locs hw => ?_)
    refine lv_aload_n hx hb dX9_turn_25 rfl (lv_at hl 2 rfl) ?_
    have e0 : up X (aid (X 4 2) za1) (upd (X (aid (X 4 2) za1)) 6 za2) 0 = X 0 := up_ne (rl_ne0 ht.1)
    refine s_vWv C hw (As := []) bX9_forget k356 (k := 0) (q47 hN rfl) (sh_0 g cy _) rfl (c_X9_forget (F := F) (X := up X (aid (X 4 2) za1) (upd (X (aid (X 4 2) za1)) 6 za2)) (R0 := fgt (X 0)) hfl hN (by rw [e0]; rfl)) rfl rfl dX9_turn_26 ⟨rfl, rfl⟩ (by decide) hl.1 (Nat.le_of_ble_eq_true rfl) ⟨Nat.le_of_ble_eq_true rfl, Nat.le_of_ble_eq_true rfl⟩ (fun H locs hw => ?_)
    refine lv_iload hx hb dX9_turn_29 (lv_at hl 0 rfl) ?_
    obtain ⟨hz9, hinv⟩ := oi_c hinv
    have hR0 := (Option.some.inj hinv).symm
    subst hR0
    have hXe := hX'.trans (if_pos rfl)
    rw [← hXe] at hw
    exact hret 31 ls _ H locs _ _ rfl rfl hz9 hw (by decide) (by decide) dX9_turn_31
def m_X9_addRule (F : Nat) (r4 : Nat → Int32) (za1 : Int32) (za2 : Int32) (za3 : Int32) (za4 : Int32) (za5 : Int32) : Option (Nat × Int32) := Option.bind (m_X9_demandLiteral F za1) (fun zu1 => if zu1 = 0 then (Option.bind (m_X9_demandLiteralOrNone F za2) (fun zu2 => if zu2 = 0 then (Option.bind (m_X9_demandLiteralOrNone F za3) (fun zu3 => if zu3 = 0 then (Option.bind (m_X9_demandLiteralOrNone F za4) (fun zu4 => if zu4 = 0 then (Option.bind (m_X9_demandPriority F za5) (fun zu5 => if zu5 = 0 then (Option.bind (m_X9_followsInBody F za3 za2) (fun zu6 => if zu6 = 0 then (some (1, 0)) else (Option.bind (m_X9_followsInBody F za4 za3) (fun zu7 => if zu7 = 0 then (some (1, 0)) else (if za4 = 0 then (Option.bind (m_X5_size F r4) (fun zu8 => if zu8 < 12 then (some (0, (r4 2))) else (some (2, 0)))) else (if za4 = za2 then (some (1, 0)) else (Option.bind (m_X5_size F r4) (fun zu9 => if zu9 < 12 then (some (0, (r4 2))) else (some (2, 0)))))))))) else some (zu5, 0))) else some (zu4, 0))) else some (zu3, 0))) else some (zu2, 0))) else some (zu1, 0))
set_option maxHeartbeats 4000000 in
set_option maxRecDepth 100000 in
theorem c_X9_addRule {l : Launch} {D : va_G} {cy : Nat → Nat} {g : Nat → Nat} {N : Nat} {X : Nat → Nat → Int32} {F : Nat} {za1 : Int32} {za2 : Int32} {za3 : Int32} {za4 : Int32} {za5 : Int32} {R0 : Nat × Int32} (hfl : l.stackTraces = false) {n : Nat} (hL : lst X n) (hNn : n < 12 → N = rid n) (hN : 47 ≤ N) (hinv : m_X9_addRule F (X 4) za1 za2 za3 za4 za5 = some R0) : cXNi l D cy yX9_addRule cX9_addRule 6 (some .int) 9 10 80 [.ref (g 0), .int za1, .int za2, .int za3, .int za4, .int za5] g N (shp g cy X) (fun r u => R0.1 = 0 ∧ r = R0.2 ∧ u.2.1 = ruN n ∧ (∀ j, j < N → u.1 j = g j) ∧ u.2.2 = shp u.1 cy (ruX X n za1 za2 za3 za4 za5)) (fun E f' => ¬ R0.1 = 0 ∧ E = xN R0.1 ∧ f' = shp g cy X) := by
  refine jXNi (by decide) rfl hfl (Nat.le_of_ble_eq_true rfl) rfl ?_
  intro p e R s m args below meth c ls A Q hRe C hw hl hret hthr hout
  subst hRe
  have hx := C.1
  have hb := C.2.1
  have hl : lv_has ls 6 [(0, .ref (g 0)), (1, .int za1), (2, .int za2), (3, .int za3), (4, .int za4), (5, .int za5)] := hl
  rw [m_X9_addRule] at hinv
  refine lv_iload_n hx hb dX9_addRule_0 rfl (lv_at hl 1 rfl) ?_
  obtain ⟨zu1, hzu1, hinv⟩ := ob hinv
  refine s_sXv (tag := zu1) C hw (As := [.int za1]) bX9_demandLiteral k350 (c_X9_demandLiteral (X := X) hfl hN hzu1) rfl rfl dX9_addRule_1 ⟨rfl, rfl⟩ (by decide) hl.1 (Nat.le_of_ble_eq_true rfl) ⟨Nat.le_of_ble_eq_true rfl, Nat.le_of_ble_eq_true rfl⟩ (fun ce q9 H locs ht hw h1 h2 h3 => ?_) (fun H locs ht hw => ?_)
  · have hinv := oi_f ht hinv
    have hR0 := (Option.some.inj hinv).symm
    subst hR0
    exact hout 1 ls _ H locs _ _ zu1 ce q9 ht rfl hw h1 h2 h3 (by decide) (by decide)
  · have hinv := oi_t ht hinv
    refine lv_iload_n hx hb dX9_addRule_4 rfl (lv_at hl 2 rfl) ?_
    obtain ⟨zu2, hzu2, hinv⟩ := ob hinv
    refine s_sXv (tag := zu2) C hw (As := [.int za2]) bX9_demandLiteralOrNone k342 (c_X9_demandLiteralOrNone (X := X) hfl hN hzu2) rfl rfl dX9_addRule_5 ⟨rfl, rfl⟩ (by decide) hl.1 (Nat.le_of_ble_eq_true rfl) ⟨Nat.le_of_ble_eq_true rfl, Nat.le_of_ble_eq_true rfl⟩ (fun ce q9 H locs ht hw h1 h2 h3 => ?_) (fun H locs ht hw => ?_)
    · have hinv := oi_f ht hinv
      have hR0 := (Option.some.inj hinv).symm
      subst hR0
      exact hout 5 ls _ H locs _ _ zu2 ce q9 ht rfl hw h1 h2 h3 (by decide) (by decide)
    · have hinv := oi_t ht hinv
      refine lv_iload_n hx hb dX9_addRule_8 rfl (lv_at hl 3 rfl) ?_
      obtain ⟨zu3, hzu3, hinv⟩ := ob hinv
      refine s_sXv (tag := zu3) C hw (As := [.int za3]) bX9_demandLiteralOrNone k342 (c_X9_demandLiteralOrNone (X := X) hfl hN hzu3) rfl rfl dX9_addRule_9 ⟨rfl, rfl⟩ (by decide) hl.1 (Nat.le_of_ble_eq_true rfl) ⟨Nat.le_of_ble_eq_true rfl, Nat.le_of_ble_eq_true rfl⟩ (fun ce q9 H locs ht hw h1 h2 h3 => ?_) (fun H locs ht hw => ?_)
      · have hinv := oi_f ht hinv
        have hR0 := (Option.some.inj hinv).symm
        subst hR0
        exact hout 9 ls _ H locs _ _ zu3 ce q9 ht rfl hw h1 h2 h3 (by decide) (by decide)
      · have hinv := oi_t ht hinv
        refine lv_iload hx hb dX9_addRule_12 (lv_at hl 4 rfl) ?_
        obtain ⟨zu4, hzu4, hinv⟩ := ob hinv
        refine s_sXv (tag := zu4) C hw (As := [.int za4]) bX9_demandLiteralOrNone k342 (c_X9_demandLiteralOrNone (X := X) hfl hN hzu4) rfl rfl dX9_addRule_14 ⟨rfl, rfl⟩ (by decide) hl.1 (Nat.le_of_ble_eq_true rfl) ⟨Nat.le_of_ble_eq_true rfl, Nat.le_of_ble_eq_true rfl⟩ (fun ce q9 H locs ht hw h1 h2 h3 => ?_) (fun H locs ht hw => ?_)
        · have hinv := oi_f ht hinv
          have hR0 := (Option.some.inj hinv).symm
          subst hR0
          exact hout 14 ls _ H locs _ _ zu4 ce q9 ht rfl hw h1 h2 h3 (by decide) (by decide)
        · have hinv := oi_t ht hinv
          refine lv_iload hx hb dX9_addRule_17 (lv_at hl 5 rfl) ?_
          obtain ⟨zu5, hzu5, hinv⟩ := ob hinv
          refine s_sXv (tag := zu5) C hw (As := [.int za5]) bX9_demandPriority k367 (c_X9_demandPriority (X := X) hfl hN hzu5) rfl rfl dX9_addRule_19 ⟨rfl, rfl⟩ (by decide) hl.1 (Nat.le_of_ble_eq_true rfl) ⟨Nat.le_of_ble_eq_true rfl, Nat.le_of_ble_eq_true rfl⟩ (fun ce q9 H locs ht hw h1 h2 h3 => ?_) (fun H locs ht hw => ?_)
          · have hinv := oi_f ht hinv
            have hR0 := (Option.some.inj hinv).symm
            subst hR0
            exact hout 19 ls _ H locs _ _ zu5 ce q9 ht rfl hw h1 h2 h3 (by decide) (by decide)
          · have hinv := oi_t ht hinv
            refine lv_iload_n hx hb dX9_addRule_22 rfl (lv_at hl 3 rfl) ?_
            refine lv_iload_n hx hb dX9_addRule_23 rfl (lv_at hl 2 rfl) ?_
            obtain ⟨zu6, hzu6, hinv⟩ := ob hinv
            refine s_sRi (r0 := zu6) C hw (As := [.int za3, .int za2]) bX9_followsInBody k369 (c_X9_followsInBody (X := X) hfl hN hzu6) rfl rfl dX9_addRule_24 ⟨rfl, rfl⟩ (by decide) hl.1 (Nat.le_of_ble_eq_true rfl) ⟨Nat.le_of_ble_eq_true rfl, Nat.le_of_ble_eq_true rfl⟩ ?_
            refine lv_if_eq (tgt := 39) hx hb dX9_addRule_27 (by decide) (fun c_27 => ?_) (fun c_27 => ?_)
            · have hinv := oi_t c_27 hinv
              have hR0 := (Option.some.inj hinv).symm
              subst hR0
              exact hthr 39 ls _ _ _ _ 89 93 91 xIA "a literal follows a 0 or comes twice" (show ¬ (1 : Nat) = 0 by decide) rfl hw (List.mem_of_getElem? (i := 0) rfl) (by decide) (List.mem_of_getElem? (i := 1) rfl) hl.1 dX9_addRule_39 dX9_addRule_42 dX9_addRule_43 dX9_addRule_45 dX9_addRule_48 (by decide) (by decide) (by decide)
            · have hinv := oi_f c_27 hinv
              refine lv_iload hx hb dX9_addRule_30 (lv_at hl 4 rfl) ?_
              refine lv_iload_n hx hb dX9_addRule_32 rfl (lv_at hl 3 rfl) ?_
              obtain ⟨zu7, hzu7, hinv⟩ := ob hinv
              refine s_sRi (r0 := zu7) C hw (As := [.int za4, .int za3]) bX9_followsInBody k369 (c_X9_followsInBody (X := X) hfl hN hzu7) rfl rfl dX9_addRule_33 ⟨rfl, rfl⟩ (by decide) hl.1 (Nat.le_of_ble_eq_true rfl) ⟨Nat.le_of_ble_eq_true rfl, Nat.le_of_ble_eq_true rfl⟩ ?_
              refine lv_if_ne (tgt := 49) hx hb dX9_addRule_36 (by decide) (fun c_36 => ?_) (fun c_36 => ?_)
              · have hinv := oi_f c_36 hinv
                refine lv_iload hx hb dX9_addRule_49 (lv_at hl 4 rfl) ?_
                refine lv_if_eq (tgt := 70) hx hb dX9_addRule_51 (by decide) (fun c_51 => ?_) (fun c_51 => ?_)
                · have hinv := oi_t c_51 hinv
                  refine lv_aload_n hx hb dX9_addRule_70 rfl (lv_at hl 0 rfl) ?_
                  refine w_get C hw (k := 0) (v := .ref (g 3)) (j := 1) (q47 hN rfl) (sh_0 g cy _) rfl (by decide) k316 rfl dX9_addRule_71 ?_
                  obtain ⟨zu8, hzu8, hinv⟩ := ob hinv
                  refine s_vRi (r0 := zu8) C hw (As := []) bX5_size k371 (k := 3) (q47 hN rfl) (sh_3 g cy _) rfl (c_X5_size (X := X) hfl hN hzu8) rfl rfl dX9_addRule_74 ⟨rfl, rfl⟩ (by decide) hl.1 (Nat.le_of_ble_eq_true rfl) ⟨Nat.le_of_ble_eq_true rfl, Nat.le_of_ble_eq_true rfl⟩ ?_
                  refine lv_bipush (v := 12) hx hb dX9_addRule_77 (by decide) ?_
                  refine lv_icmp_lt (tgt := 92) hx hb dX9_addRule_79 (by decide) (fun c_79 => ?_) (fun c_79 => ?_)
                  · have hinv := oi_t c_79 hinv
                    have h12 : n < 12 := by
                      have hu := Option.some.inj hzu8
                      have hu : X 4 2 = zu8 := hu
                      rw [← hu, hL.2.1] at c_79
                      have : ∀ n, n < 13 → Int32.ofNat n < 12 → n < 12 := by decide
                      exact this n (Nat.lt_succ_of_le hL.1) c_79
                    have hNn := hNn h12
                    subst hNn
                    have hrn := rid_ge n
                    refine lv_aload_n hx hb dX9_addRule_92 rfl (lv_at hl 0 rfl) ?_
                    refine w_get C hw (k := 0) (v := .ref (g 3)) (j := 1) (q47 hN rfl) (sh_0 g cy _) rfl (by decide) k316 rfl dX9_addRule_93 ?_
                    refine w_newo C hw tyX4 tyX4_ok k366 k175 k176 (ci := 5) rfl dfX4 (Nat.le_of_ble_eq_true rfl) (Nat.le_of_ble_eq_true rfl) dX9_addRule_96 fun q1 H hw => ?_
                    refine lv_dup hx hb dX9_addRule_99 rfl ?_
                    refine lv_iload_n hx hb dX9_addRule_100 rfl (lv_at hl 1 rfl) ?_
                    refine lv_iload_n hx hb dX9_addRule_101 rfl (lv_at hl 2 rfl) ?_
                    refine lv_iload_n hx hb dX9_addRule_102 rfl (lv_at hl 3 rfl) ?_
                    refine lv_iload hx hb dX9_addRule_103 (lv_at hl 4 rfl) ?_
                    refine lv_iload hx hb dX9_addRule_105 (lv_at hl 5 rfl) ?_
                    refine w_iWv C hw bX4_init k372 (k := rid n) (As := [.int za1, .int za2, .int za3, .int za4, .int za5]) (c_X4_init hfl (g := va_up g (rid n) q1) (f := va_up (shp g cy X) (rid n) _) (by omega) (va_up_self _ _ _)) (by rw [va_up_self]; rfl) rfl dX9_addRule_107 ⟨rfl, rfl⟩ (by decide) hl.1 (Nat.le_of_ble_eq_true rfl) ⟨Nat.le_of_ble_eq_true rfl, Nat.le_of_ble_eq_true rfl⟩ fun f9 H locs hf9 hw => ?_
                    rw [hf9, va_up_up] at hw
                    have hw := hw.ext (rule_ext (q := q1) (row := rrow za1 za2 za3 za4 za5) hL h12 rfl (fun g1 => sh_rl g1 cy (rid_rl n) _))
                    have hL1 := lst_rule (row := rrow za1 za2 za3 za4 za5) hL rfl
                    have hg1 : ∀ i, i < rid n → va_up g (rid n) q1 i = g i := fun i hi => va_up_ne _ _ (by omega)
                    have hgn : va_up g (rid n) q1 (rid n) = q1 := va_up_self _ _ _
                    generalize va_up g (rid n) q1 = g1 at hw hg1 hgn
                    refine w_vNv C hw (As := [.ref (g1 (rid n))]) bX5_put k373 (k := 3) (by omega) (sh_3 g1 cy _) rfl (c_X5_put hfl hL1 h12 rfl) (by rw [hgn, hg1 3 (by omega)]; rfl) rfl dX9_addRule_110 ⟨rfl, rfl⟩ (by decide) hl.1 (Nat.le_of_ble_eq_true rfl) ⟨Nat.le_of_ble_eq_true rfl, Nat.le_of_ble_eq_true rfl⟩ fun g2 N2 f2 H locs hp hw => ?_
                    obtain ⟨hN2, hg2, hf2⟩ := hp
                    have hN2 : N2 = ruN n := hN2
                    have hf2 : f2 = shp g2 cy (addX (modX (up X (rid n) (rrow za1 za2 za3 za4 za5))) n) := hf2
                    rw [hf2, hN2] at hw
                    have hg2 : ∀ j, j < rid n → g2 j = g j := fun j hj => (hg2 j (by omega)).trans (hg1 j hj)
                    have hN9 : 47 ≤ ruN n := by unfold ruN addN; split <;> omega
                    have e0 : addX (modX (up X (rid n) (rrow za1 za2 za3 za4 za5))) n 0 = X 0 := by
                      rw [addX_ne (by decide) (by unfold kaOf; split <;> decide)]
                      show up (up X (rid n) _) 4 _ 0 = _
                      rw [up_ne (by decide), up_ne (by omega)]
                    have e4 : ruX X n za1 za2 za3 za4 za5 4 2 = Int32.ofNat (n + 1) := by
                      show up _ 0 _ 4 2 = _
                      rw [up_ne (by decide), addX_4]
                      rfl
                    refine lv_aload_n hx hb dX9_addRule_113 rfl (lv_at hl 0 rfl) ?_
                    refine s_vWv C hw (As := []) bX9_forget k356 (k := 0) (by omega) (sh_0 g2 cy _) rfl (c_X9_forget (F := F) (R0 := fgt (X 0)) hfl hN9 (by rw [e0]; rfl)) (by rw [hg2 0 (by omega)]; rfl) rfl dX9_addRule_114 ⟨rfl, rfl⟩ (by decide) hl.1 (Nat.le_of_ble_eq_true rfl) ⟨Nat.le_of_ble_eq_true rfl, Nat.le_of_ble_eq_true rfl⟩ (fun H locs hw => ?_)
                    have hw : Wd D A s.heap g2 (ruN n) (shp g2 cy (ruX X n za1 za2 za3 za4 za5)) H locs := hw
                    refine lv_aload_n hx hb dX9_addRule_117 rfl (lv_at hl 0 rfl) ?_
                    rw [← hg2 0 (by omega)]
                    refine w_get C hw (k := 0) (v := .ref (g2 3)) (j := 1) (by omega) (sh_0 g2 cy _) rfl (by decide) k316 rfl dX9_addRule_118 ?_
                    refine s_vRi (r0 := Int32.ofNat (n + 1)) C hw (As := []) bX5_size k371 (k := 3) (by omega) (sh_3 g2 cy _) rfl (c_X5_size (F := F) (X := ruX X n za1 za2 za3 za4 za5) hfl hN9 (congrArg some e4)) rfl rfl dX9_addRule_121 ⟨rfl, rfl⟩ (by decide) hl.1 (Nat.le_of_ble_eq_true rfl) ⟨Nat.le_of_ble_eq_true rfl, Nat.le_of_ble_eq_true rfl⟩ ?_
                    refine lv_iconst (v := 1) hx hb dX9_addRule_124 (by decide) ?_
                    refine lv_isub hx hb dX9_addRule_125 ?_
                    have hR0 := (Option.some.inj hinv).symm
                    subst hR0
                    have h9 : Int32.ofNat (n + 1) - 1 = X 4 2 := by
                      rw [hL.2.1]
                      have : ∀ n, n < 12 → Int32.ofNat (n + 1) - 1 = Int32.ofNat n := by decide
                      exact this n h12
                    exact hret 126 ls _ g2 H locs _ _ rfl h9 hg2 hw (by decide) (by decide) dX9_addRule_126
                  · have hinv := oi_f c_79 hinv
                    have hR0 := (Option.some.inj hinv).symm
                    subst hR0
                    exact hthr 82 ls _ _ _ _ 59 63 100 xIS "there are 12 rules" (show ¬ (2 : Nat) = 0 by decide) rfl hw (List.mem_of_getElem? (i := 1) rfl) (by decide) (List.mem_of_getElem? (i := 3) rfl) hl.1 dX9_addRule_82 dX9_addRule_85 dX9_addRule_86 dX9_addRule_88 dX9_addRule_91 (by decide) (by decide) (by decide)
                · have hinv := oi_f c_51 hinv
                  refine lv_iload hx hb dX9_addRule_54 (lv_at hl 4 rfl) ?_
                  refine lv_iload_n hx hb dX9_addRule_56 rfl (lv_at hl 2 rfl) ?_
                  refine lv_icmp_ne (tgt := 70) hx hb dX9_addRule_57 (by decide) (fun c_57 => ?_) (fun c_57 => ?_)
                  · have hinv := oi_f c_57 hinv
                    refine lv_aload_n hx hb dX9_addRule_70 rfl (lv_at hl 0 rfl) ?_
                    refine w_get C hw (k := 0) (v := .ref (g 3)) (j := 1) (q47 hN rfl) (sh_0 g cy _) rfl (by decide) k316 rfl dX9_addRule_71 ?_
                    obtain ⟨zu9, hzu9, hinv⟩ := ob hinv
                    refine s_vRi (r0 := zu9) C hw (As := []) bX5_size k371 (k := 3) (q47 hN rfl) (sh_3 g cy _) rfl (c_X5_size (X := X) hfl hN hzu9) rfl rfl dX9_addRule_74 ⟨rfl, rfl⟩ (by decide) hl.1 (Nat.le_of_ble_eq_true rfl) ⟨Nat.le_of_ble_eq_true rfl, Nat.le_of_ble_eq_true rfl⟩ ?_
                    refine lv_bipush (v := 12) hx hb dX9_addRule_77 (by decide) ?_
                    refine lv_icmp_lt (tgt := 92) hx hb dX9_addRule_79 (by decide) (fun c_79 => ?_) (fun c_79 => ?_)
                    · have hinv := oi_t c_79 hinv
                      have h12 : n < 12 := by
                        have hu := Option.some.inj hzu9
                        have hu : X 4 2 = zu9 := hu
                        rw [← hu, hL.2.1] at c_79
                        have : ∀ n, n < 13 → Int32.ofNat n < 12 → n < 12 := by decide
                        exact this n (Nat.lt_succ_of_le hL.1) c_79
                      have hNn := hNn h12
                      subst hNn
                      have hrn := rid_ge n
                      refine lv_aload_n hx hb dX9_addRule_92 rfl (lv_at hl 0 rfl) ?_
                      refine w_get C hw (k := 0) (v := .ref (g 3)) (j := 1) (q47 hN rfl) (sh_0 g cy _) rfl (by decide) k316 rfl dX9_addRule_93 ?_
                      refine w_newo C hw tyX4 tyX4_ok k366 k175 k176 (ci := 5) rfl dfX4 (Nat.le_of_ble_eq_true rfl) (Nat.le_of_ble_eq_true rfl) dX9_addRule_96 fun q1 H hw => ?_
                      refine lv_dup hx hb dX9_addRule_99 rfl ?_
                      refine lv_iload_n hx hb dX9_addRule_100 rfl (lv_at hl 1 rfl) ?_
                      refine lv_iload_n hx hb dX9_addRule_101 rfl (lv_at hl 2 rfl) ?_
                      refine lv_iload_n hx hb dX9_addRule_102 rfl (lv_at hl 3 rfl) ?_
                      refine lv_iload hx hb dX9_addRule_103 (lv_at hl 4 rfl) ?_
                      refine lv_iload hx hb dX9_addRule_105 (lv_at hl 5 rfl) ?_
                      refine w_iWv C hw bX4_init k372 (k := rid n) (As := [.int za1, .int za2, .int za3, .int za4, .int za5]) (c_X4_init hfl (g := va_up g (rid n) q1) (f := va_up (shp g cy X) (rid n) _) (by omega) (va_up_self _ _ _)) (by rw [va_up_self]; rfl) rfl dX9_addRule_107 ⟨rfl, rfl⟩ (by decide) hl.1 (Nat.le_of_ble_eq_true rfl) ⟨Nat.le_of_ble_eq_true rfl, Nat.le_of_ble_eq_true rfl⟩ fun f9 H locs hf9 hw => ?_
                      rw [hf9, va_up_up] at hw
                      have hw := hw.ext (rule_ext (q := q1) (row := rrow za1 za2 za3 za4 za5) hL h12 rfl (fun g1 => sh_rl g1 cy (rid_rl n) _))
                      have hL1 := lst_rule (row := rrow za1 za2 za3 za4 za5) hL rfl
                      have hg1 : ∀ i, i < rid n → va_up g (rid n) q1 i = g i := fun i hi => va_up_ne _ _ (by omega)
                      have hgn : va_up g (rid n) q1 (rid n) = q1 := va_up_self _ _ _
                      generalize va_up g (rid n) q1 = g1 at hw hg1 hgn
                      refine w_vNv C hw (As := [.ref (g1 (rid n))]) bX5_put k373 (k := 3) (by omega) (sh_3 g1 cy _) rfl (c_X5_put hfl hL1 h12 rfl) (by rw [hgn, hg1 3 (by omega)]; rfl) rfl dX9_addRule_110 ⟨rfl, rfl⟩ (by decide) hl.1 (Nat.le_of_ble_eq_true rfl) ⟨Nat.le_of_ble_eq_true rfl, Nat.le_of_ble_eq_true rfl⟩ fun g2 N2 f2 H locs hp hw => ?_
                      obtain ⟨hN2, hg2, hf2⟩ := hp
                      have hN2 : N2 = ruN n := hN2
                      have hf2 : f2 = shp g2 cy (addX (modX (up X (rid n) (rrow za1 za2 za3 za4 za5))) n) := hf2
                      rw [hf2, hN2] at hw
                      have hg2 : ∀ j, j < rid n → g2 j = g j := fun j hj => (hg2 j (by omega)).trans (hg1 j hj)
                      have hN9 : 47 ≤ ruN n := by unfold ruN addN; split <;> omega
                      have e0 : addX (modX (up X (rid n) (rrow za1 za2 za3 za4 za5))) n 0 = X 0 := by
                        rw [addX_ne (by decide) (by unfold kaOf; split <;> decide)]
                        show up (up X (rid n) _) 4 _ 0 = _
                        rw [up_ne (by decide), up_ne (by omega)]
                      have e4 : ruX X n za1 za2 za3 za4 za5 4 2 = Int32.ofNat (n + 1) := by
                        show up _ 0 _ 4 2 = _
                        rw [up_ne (by decide), addX_4]
                        rfl
                      refine lv_aload_n hx hb dX9_addRule_113 rfl (lv_at hl 0 rfl) ?_
                      refine s_vWv C hw (As := []) bX9_forget k356 (k := 0) (by omega) (sh_0 g2 cy _) rfl (c_X9_forget (F := F) (R0 := fgt (X 0)) hfl hN9 (by rw [e0]; rfl)) (by rw [hg2 0 (by omega)]; rfl) rfl dX9_addRule_114 ⟨rfl, rfl⟩ (by decide) hl.1 (Nat.le_of_ble_eq_true rfl) ⟨Nat.le_of_ble_eq_true rfl, Nat.le_of_ble_eq_true rfl⟩ (fun H locs hw => ?_)
                      have hw : Wd D A s.heap g2 (ruN n) (shp g2 cy (ruX X n za1 za2 za3 za4 za5)) H locs := hw
                      refine lv_aload_n hx hb dX9_addRule_117 rfl (lv_at hl 0 rfl) ?_
                      rw [← hg2 0 (by omega)]
                      refine w_get C hw (k := 0) (v := .ref (g2 3)) (j := 1) (by omega) (sh_0 g2 cy _) rfl (by decide) k316 rfl dX9_addRule_118 ?_
                      refine s_vRi (r0 := Int32.ofNat (n + 1)) C hw (As := []) bX5_size k371 (k := 3) (by omega) (sh_3 g2 cy _) rfl (c_X5_size (F := F) (X := ruX X n za1 za2 za3 za4 za5) hfl hN9 (congrArg some e4)) rfl rfl dX9_addRule_121 ⟨rfl, rfl⟩ (by decide) hl.1 (Nat.le_of_ble_eq_true rfl) ⟨Nat.le_of_ble_eq_true rfl, Nat.le_of_ble_eq_true rfl⟩ ?_
                      refine lv_iconst (v := 1) hx hb dX9_addRule_124 (by decide) ?_
                      refine lv_isub hx hb dX9_addRule_125 ?_
                      have hR0 := (Option.some.inj hinv).symm
                      subst hR0
                      have h9 : Int32.ofNat (n + 1) - 1 = X 4 2 := by
                        rw [hL.2.1]
                        have : ∀ n, n < 12 → Int32.ofNat (n + 1) - 1 = Int32.ofNat n := by decide
                        exact this n h12
                      exact hret 126 ls _ g2 H locs _ _ rfl h9 hg2 hw (by decide) (by decide) dX9_addRule_126
                    · have hinv := oi_f c_79 hinv
                      have hR0 := (Option.some.inj hinv).symm
                      subst hR0
                      exact hthr 82 ls _ _ _ _ 59 63 100 xIS "there are 12 rules" (show ¬ (2 : Nat) = 0 by decide) rfl hw (List.mem_of_getElem? (i := 1) rfl) (by decide) (List.mem_of_getElem? (i := 3) rfl) hl.1 dX9_addRule_82 dX9_addRule_85 dX9_addRule_86 dX9_addRule_88 dX9_addRule_91 (by decide) (by decide) (by decide)
                  · have hinv := oi_t c_57 hinv
                    have hR0 := (Option.some.inj hinv).symm
                    subst hR0
                    exact hthr 60 ls _ _ _ _ 89 93 94 xIA "a literal comes twice" (show ¬ (1 : Nat) = 0 by decide) rfl hw (List.mem_of_getElem? (i := 0) rfl) (by decide) (List.mem_of_getElem? (i := 2) rfl) hl.1 dX9_addRule_60 dX9_addRule_63 dX9_addRule_64 dX9_addRule_66 dX9_addRule_69 (by decide) (by decide) (by decide)
              · have hinv := oi_t c_36 hinv
                have hR0 := (Option.some.inj hinv).symm
                subst hR0
                exact hthr 39 ls _ _ _ _ 89 93 91 xIA "a literal follows a 0 or comes twice" (show ¬ (1 : Nat) = 0 by decide) rfl hw (List.mem_of_getElem? (i := 0) rfl) (by decide) (List.mem_of_getElem? (i := 1) rfl) hl.1 dX9_addRule_39 dX9_addRule_42 dX9_addRule_43 dX9_addRule_45 dX9_addRule_48 (by decide) (by decide) (by decide)

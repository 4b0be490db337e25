theorem dfX9 : ∀ j, j < 9 → defaultValue (tyX9 j) = vp_V [.null, .null, .null, .null, .null, .null, .int 0, .int 0, .int 0] j := fun j hj => by
  match j, hj with
  | 0, _ => rfl
  | 1, _ => rfl
  | 2, _ => rfl
  | 3, _ => rfl
  | 4, _ => rfl
  | 5, _ => rfl
  | 6, _ => rfl
  | 7, _ => rfl
  | 8, _ => rfl
  | j + 9, hj => omega
theorem dfX10 : ∀ j, j < 20 → defaultValue (tyX10 j) = vp_V [.int 0, .null, .int 0, .null, .null, .null, .null, .null, .int 0, .int 0, .null, .null, .null, .null, .null, .null, .null, .null, .null, .null] j := fun j hj => by
  match j, hj with
  | 0, _ => rfl
  | 1, _ => rfl
  | 2, _ => rfl
  | 3, _ => rfl
  | 4, _ => rfl
  | 5, _ => rfl
  | 6, _ => rfl
  | 7, _ => rfl
  | 8, _ => rfl
  | 9, _ => rfl
  | 10, _ => rfl
  | 11, _ => rfl
  | 12, _ => rfl
  | 13, _ => rfl
  | 14, _ => rfl
  | 15, _ => rfl
  | 16, _ => rfl
  | 17, _ => rfl
  | 18, _ => rfl
  | 19, _ => rfl
  | j + 20, hj => omega
theorem lkc_0 {tag a : Nat} (h : lkc tag a = 0) : tag = 0 := by
  unfold lkc at h
  by_cases h0 : tag = 0
  · exact h0
  · rw [if_neg h0] at h
    by_cases h1 : tag = a
    · rw [if_pos h1] at h; exact absurd h (by decide)
    · rw [if_neg h1] at h; exact absurd h (by decide)
theorem lw_lcmp {x y : Int64} (h : x = y) : lg_cmp x y = 0 := (lg_cmp_eq x y).mpr h
section LAWC
variable {p : Program} {l : Launch} {e : Env} {s : State} {m : MethodId} {args : Array Value} {below : List Frame} {meth : Method} {c : Code} {Q : State → Prop} {D : va_G} {cy : Nat → Nat} {b L F t n : Nat} {xs : Nat → Int32} {X : Nat → Nat → Int32} {g : Nat → Nat} {H : Heap} {locs : List Loc} {ls : Array Slot}
/-- behind a case -/
def LawK (p : Program) (l : Launch) (e : Env) (s : State) (m : MethodId) (args : Array Value) (below : List Frame) (meth : Method) (c : Code) (Q : State → Prop) (D : va_G) (cy : Nat → Nat) (b F t : Nat) : Prop := ∀ (n : Nat) (X : Nat → Nat → Int32) (g : Nat → Nat) (H : Heap) (locs : List Loc) (ls : Array Slot), Sta F X n → Wd D (fun q => s.heap.size ≤ q) s.heap g (nof n) (shp g cy X) H locs → lv_has ls 7 [(4, .int (Int32.ofNat (6 * t))), (0, .ref b), (1, .ref (g 0)), (2, .ref (g 29)), (3, .ref (g 46))] → W p l e room_1 s m args below meth c H locs (47 + 20 * t + 20) (40000 + 100 * t + 100) Q (F0 m 1447 ls [])
set_option maxHeartbeats 4000000 in
theorem law_addFact (hF : 20000 ≤ F) (ht : t < 513) (C : wCx p l s m args c meth code 7 RL D cy (fun q => s.heap.size ≤ q)) (hXs : va_X b L xs s s.heap) (hbl : b < s.heap.size) (hbA : ¬ s.heap.size ≤ b) {za1 : Int32} (hz1 : xs (Int32.ofNat (6 * t) + 1).toNatClampNeg = za1) (hin1 : vp_in (Int32.ofNat (6 * t) + 1) L) (hS : Sta F X n) (hw : Wd D (fun q => s.heap.size ≤ q) s.heap g (nof n) (shp g cy X) H locs) (hl : lv_has ls 7 [(4, .int (Int32.ofNat (6 * t))), (0, .ref b), (1, .ref (g 0)), (2, .ref (g 29)), (3, .ref (g 46))]) (hk : LawK p l e s m args below meth c Q D cy b F t) : W p l e room_1 s m args below meth c H locs (47 + 20 * t) (40000 + 100 * t) Q (F0 m 148 ls []) := by
  have hx := C.1
  have hb : c.code = cL_law := C.2.1
  have hfl := C.2.2.2.2.2.2.2.2
  refine lv_aload_n hx hb dL_law_148 rfl (lv_at hl 2 rfl) ?_
  refine lv_aload_n hx hb dL_law_149 rfl (lv_at hl 1 rfl) ?_
  refine lv_iload hx hb dL_law_150 (lv_at hl 0 rfl) ?_
  refine lv_iconst (v := 1) hx hb dL_law_152 (by decide) ?_
  refine lv_iadd hx hb dL_law_153 ?_
  refine va_sld hx hb hXs hbl hbA hw.2.2 hin1 dL_law_154 ?_
  rw [hz1]
  refine lv_aload_n hx hb dL_law_155 rfl (lv_at hl 4 rfl) ?_
  obtain ⟨R0, hm, hT, hX2⟩ := st_addFact hF hS za1
  refine t_sLi C hw (w_csL (n := 3) C k714 k626 k713 ⟨by decide, by decide⟩ (by decide +kernel) (by decide) k712 ⟨Nat.le_of_ble_eq_true rfl, Nat.le_of_ble_eq_true rfl⟩) (As := [.ref (g 0), .int za1, .ref (g 46)]) (c_L_addFact hfl (nof_ge n) (c_X9_addFact (X := X) hfl (nof_ge n) hm) hT) rfl rfl dL_law_156 hl.1 (Nat.le_of_ble_eq_true rfl) ⟨by show _ ≤ 601024; omega, by show _ ≤ 7293034; omega⟩ (fun H locs hw => ?_)
  obtain ⟨X2, hX2e⟩ : ∃ X2, X2 = lkX R0.1 R0.2.1 (up (up (up X 0 R0.2.2.1) 1 R0.2.2.2.1) 2 R0.2.2.2.2) := ⟨_, rfl⟩
  have hw : Wd D (fun q => s.heap.size ≤ q) s.heap g (nof n) (shp g cy X2) H locs := by rw [hX2e]; exact hw
  have h46 : R0.1 = 0 → X2 46 0 = R0.2.1 := fun h => by rw [hX2e]; exact lkX_46 h
  obtain ⟨R1, hm1, hth, heq, hS1⟩ := hX2 X2 (fun j hj => by rw [hX2e]; exact lkX_ne j hj)
  refine lv_istore (lv' := [(5, .int (lkc R0.1 1)), (4, .int (Int32.ofNat (6 * t))), (0, .ref b), (1, .ref (g 0)), (2, .ref (g 29)), (3, .ref (g 46))]) hx hb dL_law_159 hl (by decide) rfl (fun ls hl => ?_)
  refine lv_aload_n hx hb dL_law_161 rfl (lv_at hl 4 rfl) ?_
  refine lv_aload_n hx hb dL_law_162 rfl (lv_at hl 2 rfl) ?_
  refine lv_iload hx hb dL_law_163 (lv_at hl 1 rfl) ?_
  refine lv_iconst (v := 1) hx hb dL_law_165 (by decide) ?_
  refine lv_iadd hx hb dL_law_166 ?_
  refine va_sld hx hb hXs hbl hbA hw.2.2 hin1 dL_law_167 ?_
  rw [hz1]
  refine t_vWi C hw (As := [.int za1]) bX10_addFact k715 (k := 29) (q47 (nof_ge n) rfl) (sh_29 g cy _) rfl (c_X10_addFact (F := F) (X := X2) hfl (nof_ge n) hm1) rfl rfl dL_law_168 ⟨Nat.le_of_ble_eq_true rfl, Nat.le_of_ble_eq_true rfl⟩ hl.1 (Nat.le_of_ble_eq_true rfl) ⟨by show _ ≤ 601024; omega, by show _ ≤ 7293034; omega⟩ (fun H locs hw => ?_)
  refine lv_istore (lv' := [(6, .int R1.1), (5, .int (lkc R0.1 1)), (4, .int (Int32.ofNat (6 * t))), (0, .ref b), (1, .ref (g 0)), (2, .ref (g 29)), (3, .ref (g 46))]) hx hb dL_law_171 hl (by decide) rfl (fun ls hl => ?_)
  refine lv_aload_n hx hb dL_law_173 rfl (lv_at hl 5 rfl) ?_
  refine t_vRi (r0 := (lkc R0.1 1)) C hw (As := []) bX10_thrown k718 (k := 29) (q47 (nof_ge n) rfl) (sh_29 g cy _) rfl (c_X10_thrown (F := F) hfl (nof_ge n) (congrArg some hth)) rfl rfl dL_law_174 ⟨Nat.le_of_ble_eq_true rfl, Nat.le_of_ble_eq_true rfl⟩ hl.1 (Nat.le_of_ble_eq_true rfl) ⟨by show _ ≤ 601024; omega, by show _ ≤ 7293034; omega⟩ ?_
  refine lv_iload hx hb dL_law_177 (lv_at hl 1 rfl) ?_
  refine lv_icmp_eq (tgt := 184) hx hb dL_law_179 (by decide) (fun _ => ?_) (fun cz => absurd rfl cz)
  refine lv_iload hx hb dL_law_184 (lv_at hl 1 rfl) ?_
  refine lv_if_ne (tgt := 201) hx hb dL_law_186 (by decide) (fun cz => ?_) (fun cz => ?_)
  · skip
    refine lv_goto (tgt := 1447) hx hb dL_law_201 (by decide) ?_
    have hl := lv_sub hl [2, 3, 4, 5, 6] rfl
    exact W.widen (by omega) (by omega) (hk _ _ _ _ _ _ hS1 hw hl)
  · have ht0 := lkc_0 cz
    have hr0 := (h46 ht0).trans (heq ht0).symm
    refine lv_aload_n hx hb dL_law_189 rfl (lv_at hl 6 rfl) ?_
    refine lv_iconst (v := 0) hx hb dL_law_190 (by decide) ?_
    refine w_lald C hw (k := 46) (n := 1) (q47 (nof_ge n) rfl) rfl (show ¬ ((0 : Int32) < 0 ∨ 1 ≤ (0 : Int32).toNatClampNeg) by decide) dL_law_191 ?_
    refine lv_iload hx hb dL_law_192 (lv_at hl 0 rfl) ?_
    refine lv_i2l (v := R1.1.toInt64) hx hb dL_law_194 rfl ?_
    refine W.lcmp hx hb dL_law_195 ?_
    refine lv_if_eq (tgt := 201) hx hb dL_law_196 (by decide) (fun _ => ?_) (fun cz => absurd (lw_lcmp (congrArg Int32.toInt64 hr0)) cz)
    refine lv_goto (tgt := 1447) hx hb dL_law_201 (by decide) ?_
    have hl := lv_sub hl [2, 3, 4, 5, 6] rfl
    exact W.widen (by omega) (by omega) (hk _ _ _ _ _ _ hS1 hw hl)
set_option maxHeartbeats 4000000 in
theorem law_takeBack (hF : 20000 ≤ F) (ht : t < 513) (C : wCx p l s m args c meth code 7 RL D cy (fun q => s.heap.size ≤ q)) (hXs : va_X b L xs s s.heap) (hbl : b < s.heap.size) (hbA : ¬ s.heap.size ≤ b) {za1 : Int32} (hz1 : xs (Int32.ofNat (6 * t) + 1).toNatClampNeg = za1) (hin1 : vp_in (Int32.ofNat (6 * t) + 1) L) (hS : Sta F X n) (hw : Wd D (fun q => s.heap.size ≤ q) s.heap g (nof n) (shp g cy X) H locs) (hl : lv_has ls 7 [(4, .int (Int32.ofNat (6 * t))), (0, .ref b), (1, .ref (g 0)), (2, .ref (g 29)), (3, .ref (g 46))]) (hk : LawK p l e s m args below meth c Q D cy b F t) : W p l e room_1 s m args below meth c H locs (47 + 20 * t) (40000 + 100 * t) Q (F0 m 204 ls []) := by
  have hx := C.1
  have hb : c.code = cL_law := C.2.1
  have hfl := C.2.2.2.2.2.2.2.2
  refine lv_aload_n hx hb dL_law_204 rfl (lv_at hl 2 rfl) ?_
  refine lv_aload_n hx hb dL_law_205 rfl (lv_at hl 1 rfl) ?_
  refine lv_iload hx hb dL_law_206 (lv_at hl 0 rfl) ?_
  refine lv_iconst (v := 1) hx hb dL_law_208 (by decide) ?_
  refine lv_iadd hx hb dL_law_209 ?_
  refine va_sld hx hb hXs hbl hbA hw.2.2 hin1 dL_law_210 ?_
  rw [hz1]
  refine lv_aload_n hx hb dL_law_211 rfl (lv_at hl 4 rfl) ?_
  obtain ⟨R0, hm, hT, hz9, hX2⟩ := st_takeBack hF hS za1
  refine t_sLi C hw (w_csL (n := 3) C k714 k630 k722 ⟨by decide, by decide⟩ (by decide +kernel) (by decide) k721 ⟨Nat.le_of_ble_eq_true rfl, Nat.le_of_ble_eq_true rfl⟩) (As := [.ref (g 0), .int za1, .ref (g 46)]) (c_L_takeBack hfl (nof_ge n) (c_X9_takeBack (X := X) hfl (nof_ge n) hm) hT hz9) rfl rfl dL_law_212 hl.1 (Nat.le_of_ble_eq_true rfl) ⟨by show _ ≤ 601024; omega, by show _ ≤ 7293034; omega⟩ (fun H locs hw => ?_)
  obtain ⟨X2, hX2e⟩ : ∃ X2, X2 = lkX R0.1 R0.2.1 (up (up (up X 0 R0.2.2.1) 1 R0.2.2.2.1) 2 R0.2.2.2.2) := ⟨_, rfl⟩
  have hw : Wd D (fun q => s.heap.size ≤ q) s.heap g (nof n) (shp g cy X2) H locs := by rw [hX2e]; exact hw
  have h46 : R0.1 = 0 → X2 46 0 = R0.2.1 := fun h => by rw [hX2e]; exact lkX_46 h
  obtain ⟨R1, hm1, hth, heq, hS1⟩ := hX2 X2 (fun j hj => by rw [hX2e]; exact lkX_ne j hj)
  refine lv_istore (lv' := [(5, .int (lkc R0.1 1)), (4, .int (Int32.ofNat (6 * t))), (0, .ref b), (1, .ref (g 0)), (2, .ref (g 29)), (3, .ref (g 46))]) hx hb dL_law_215 hl (by decide) rfl (fun ls hl => ?_)
  refine lv_aload_n hx hb dL_law_217 rfl (lv_at hl 4 rfl) ?_
  refine lv_aload_n hx hb dL_law_218 rfl (lv_at hl 2 rfl) ?_
  refine lv_iload hx hb dL_law_219 (lv_at hl 1 rfl) ?_
  refine lv_iconst (v := 1) hx hb dL_law_221 (by decide) ?_
  refine lv_iadd hx hb dL_law_222 ?_
  refine va_sld hx hb hXs hbl hbA hw.2.2 hin1 dL_law_223 ?_
  rw [hz1]
  refine t_vWi C hw (As := [.int za1]) bX10_takeBack k723 (k := 29) (q47 (nof_ge n) rfl) (sh_29 g cy _) rfl (c_X10_takeBack (F := F) (X := X2) hfl (nof_ge n) hm1) rfl rfl dL_law_224 ⟨Nat.le_of_ble_eq_true rfl, Nat.le_of_ble_eq_true rfl⟩ hl.1 (Nat.le_of_ble_eq_true rfl) ⟨by show _ ≤ 601024; omega, by show _ ≤ 7293034; omega⟩ (fun H locs hw => ?_)
  refine lv_istore (lv' := [(6, .int R1.1), (5, .int (lkc R0.1 1)), (4, .int (Int32.ofNat (6 * t))), (0, .ref b), (1, .ref (g 0)), (2, .ref (g 29)), (3, .ref (g 46))]) hx hb dL_law_227 hl (by decide) rfl (fun ls hl => ?_)
  refine lv_aload_n hx hb dL_law_229 rfl (lv_at hl 5 rfl) ?_
  refine t_vRi (r0 := (lkc R0.1 1)) C hw (As := []) bX10_thrown k718 (k := 29) (q47 (nof_ge n) rfl) (sh_29 g cy _) rfl (c_X10_thrown (F := F) hfl (nof_ge n) (congrArg some hth)) rfl rfl dL_law_230 ⟨Nat.le_of_ble_eq_true rfl, Nat.le_of_ble_eq_true rfl⟩ hl.1 (Nat.le_of_ble_eq_true rfl) ⟨by show _ ≤ 601024; omega, by show _ ≤ 7293034; omega⟩ ?_
  refine lv_iload hx hb dL_law_233 (lv_at hl 1 rfl) ?_
  refine lv_icmp_eq (tgt := 240) hx hb dL_law_235 (by decide) (fun _ => ?_) (fun cz => absurd rfl cz)
  refine lv_iload hx hb dL_law_240 (lv_at hl 1 rfl) ?_
  refine lv_if_ne (tgt := 264) hx hb dL_law_242 (by decide) (fun cz => ?_) (fun cz => ?_)
  · skip
    refine lv_goto (tgt := 1447) hx hb dL_law_264 (by decide) ?_
    have hl := lv_sub hl [2, 3, 4, 5, 6] rfl
    exact W.widen (by omega) (by omega) (hk _ _ _ _ _ _ hS1 hw hl)
  · have ht0 := lkc_0 cz
    have hr0 := (h46 ht0).trans (heq ht0).symm
    refine lv_aload_n hx hb dL_law_245 rfl (lv_at hl 6 rfl) ?_
    refine lv_iconst (v := 0) hx hb dL_law_246 (by decide) ?_
    refine w_lald C hw (k := 46) (n := 1) (q47 (nof_ge n) rfl) rfl (show ¬ ((0 : Int32) < 0 ∨ 1 ≤ (0 : Int32).toNatClampNeg) by decide) dL_law_247 ?_
    refine lv_iload hx hb dL_law_248 (lv_at hl 0 rfl) ?_
    refine lv_if_eq (tgt := 257) hx hb dL_law_250 (by decide) (fun hb0 => ?_) (fun hb0 => ?_)
    · skip
      refine lv_lconst (v := 0) hx hb dL_law_257 (by decide) ?_
      refine W.lcmp hx hb dL_law_258 ?_
      refine lv_if_eq (tgt := 264) hx hb dL_law_259 (by decide) (fun _ => ?_) (fun cz => absurd (lw_lcmp ((congrArg Int32.toInt64 hr0).trans (by rw [hb0] <;> rfl))) cz)
      refine lv_goto (tgt := 1447) hx hb dL_law_264 (by decide) ?_
      have hl := lv_sub hl [2, 3, 4, 5, 6] rfl
      exact W.widen (by omega) (by omega) (hk _ _ _ _ _ _ hS1 hw hl)
    · skip
      refine lv_lconst (v := 1) hx hb dL_law_253 (by decide) ?_
      refine lv_goto (tgt := 258) hx hb dL_law_254 (by decide) ?_
      have hb1 : ¬ R1.1 = 0 → R1.1 = 1 := fun h9 => (by rw [heq ht0] at h9 ⊢; exact hz9.resolve_left h9)
      refine W.lcmp hx hb dL_law_258 ?_
      refine lv_if_eq (tgt := 264) hx hb dL_law_259 (by decide) (fun _ => ?_) (fun cz => absurd (lw_lcmp ((congrArg Int32.toInt64 hr0).trans (by rw [hb1 hb0] <;> rfl))) cz)
      refine lv_goto (tgt := 1447) hx hb dL_law_264 (by decide) ?_
      have hl := lv_sub hl [2, 3, 4, 5, 6] rfl
      exact W.widen (by omega) (by omega) (hk _ _ _ _ _ _ hS1 hw hl)
set_option maxHeartbeats 4000000 in
theorem law_addRule (hF : 20000 ≤ F) (ht : t < 513) (C : wCx p l s m args c meth code 7 RL D cy (fun q => s.heap.size ≤ q)) (hXs : va_X b L xs s s.heap) (hbl : b < s.heap.size) (hbA : ¬ s.heap.size ≤ b) {za1 : Int32} (hz1 : xs (Int32.ofNat (6 * t) + 1).toNatClampNeg = za1) (hin1 : vp_in (Int32.ofNat (6 * t) + 1) L) {za2 : Int32} (hz2 : xs (Int32.ofNat (6 * t) + 2).toNatClampNeg = za2) (hin2 : vp_in (Int32.ofNat (6 * t) + 2) L) {za3 : Int32} (hz3 : xs (Int32.ofNat (6 * t) + 3).toNatClampNeg = za3) (hin3 : vp_in (Int32.ofNat (6 * t) + 3) L) {za4 : Int32} (hz4 : xs (Int32.ofNat (6 * t) + 4).toNatClampNeg = za4) (hin4 : vp_in (Int32.ofNat (6 * t) + 4) L) {za5 : Int32} (hz5 : xs (Int32.ofNat (6 * t) + 5).toNatClampNeg = za5) (hin5 : vp_in (Int32.ofNat (6 * t) + 5) L) (hS : Sta F X n) (hw : Wd D (fun q => s.heap.size ≤ q) s.heap g (nof n) (shp g cy X) H locs) (hl : lv_has ls 7 [(4, .int (Int32.ofNat (6 * t))), (0, .ref b), (1, .ref (g 0)), (2, .ref (g 29)), (3, .ref (g 46))]) (hk : LawK p l e s m args below meth c Q D cy b F t) : W p l e room_1 s m args below meth c H locs (47 + 20 * t) (40000 + 100 * t) Q (F0 m 267 ls []) := by
  have hx := C.1
  have hb : c.code = cL_law := C.2.1
  have hfl := C.2.2.2.2.2.2.2.2
  refine lv_aload_n hx hb dL_law_267 rfl (lv_at hl 2 rfl) ?_
  refine lv_aload_n hx hb dL_law_268 rfl (lv_at hl 1 rfl) ?_
  refine lv_iload hx hb dL_law_269 (lv_at hl 0 rfl) ?_
  refine lv_iconst (v := 1) hx hb dL_law_271 (by decide) ?_
  refine lv_iadd hx hb dL_law_272 ?_
  refine va_sld hx hb hXs hbl hbA hw.2.2 hin1 dL_law_273 ?_
  rw [hz1]
  refine lv_aload_n hx hb dL_law_274 rfl (lv_at hl 1 rfl) ?_
  refine lv_iload hx hb dL_law_275 (lv_at hl 0 rfl) ?_
  refine lv_iconst (v := 2) hx hb dL_law_277 (by decide) ?_
  refine lv_iadd hx hb dL_law_278 ?_
  refine va_sld hx hb hXs hbl hbA hw.2.2 hin2 dL_law_279 ?_
  rw [hz2]
  refine lv_aload_n hx hb dL_law_280 rfl (lv_at hl 1 rfl) ?_
  refine lv_iload hx hb dL_law_281 (lv_at hl 0 rfl) ?_
  refine lv_iconst (v := 3) hx hb dL_law_283 (by decide) ?_
  refine lv_iadd hx hb dL_law_284 ?_
  refine va_sld hx hb hXs hbl hbA hw.2.2 hin3 dL_law_285 ?_
  rw [hz3]
  refine lv_aload_n hx hb dL_law_286 rfl (lv_at hl 1 rfl) ?_
  refine lv_iload hx hb dL_law_287 (lv_at hl 0 rfl) ?_
  refine lv_iconst (v := 4) hx hb dL_law_289 (by decide) ?_
  refine lv_iadd hx hb dL_law_290 ?_
  refine va_sld hx hb hXs hbl hbA hw.2.2 hin4 dL_law_291 ?_
  rw [hz4]
  refine lv_aload_n hx hb dL_law_292 rfl (lv_at hl 1 rfl) ?_
  refine lv_iload hx hb dL_law_293 (lv_at hl 0 rfl) ?_
  refine lv_iconst (v := 5) hx hb dL_law_295 (by decide) ?_
  refine lv_iadd hx hb dL_law_296 ?_
  refine va_sld hx hb hXs hbl hbA hw.2.2 hin5 dL_law_297 ?_
  rw [hz5]
  refine lv_aload_n hx hb dL_law_298 rfl (lv_at hl 4 rfl) ?_
  obtain ⟨R0, hm, hT, h12, hX2⟩ := st_addRule hF hS za1 za2 za3 za4 za5
  refine t_sLNi C hw (w_csL (n := 7) C k714 k634 k727 ⟨by decide, by decide⟩ (by decide +kernel) (by decide) k726 ⟨Nat.le_of_ble_eq_true rfl, Nat.le_of_ble_eq_true rfl⟩) (As := [.ref (g 0), .int za1, .int za2, .int za3, .int za4, .int za5, .ref (g 46)]) (c_L_addRule hfl (nof_ge n) (c_X9_addRule hfl hS.lst (fun h => nof_lt h) (nof_ge n) hm) hT) rfl rfl dL_law_299 hl.1 (Nat.le_of_ble_eq_true rfl) ⟨by show _ ≤ 601024; omega, by show _ ≤ 7293034; omega⟩ fun r g1 N1 f1 H locs hp hw => ?_
  obtain ⟨hr, hp1, hp2⟩ := hp
  obtain ⟨X2, hgz, hw, hX1, hX3, h46⟩ : ∃ X2 : Nat → Nat → Int32, (∀ j, j < nof n → g1 j = g j) ∧ Wd D (fun q => s.heap.size ≤ q) s.heap g1 (nof (if R0.1 = 0 then n + 1 else n)) (shp g1 cy X2) H locs ∧ (R0.1 = 0 → ∀ j, j ≠ 46 → X2 j = (ruX X n za1 za2 za3 za4 za5) j) ∧ (¬ R0.1 = 0 → ∀ j, j ≠ 46 → X2 j = X j) ∧ (R0.1 = 0 → X2 46 0 = R0.2) := by
    by_cases h0 : R0.1 = 0
    · obtain ⟨e1, e2, e3⟩ := hp1 h0
      have e1 : N1 = ruN n := e1
      have e3 : f1 = shp g1 cy (up (ruX X n za1 za2 za3 za4 za5) 46 (upd ((ruX X n za1 za2 za3 za4 za5) 46) 0 R0.2)) := e3
      rw [e1, e3, ruN_nof (h12 h0)] at hw
      exact ⟨_, e2, by rw [if_pos h0]; exact hw, fun _ j hj => up_ne hj, fun h => absurd h0 h, fun _ => by rw [up_at]; rfl⟩
    · have e1 := hp2 h0
      cases e1
      exact ⟨X, fun _ _ => rfl, by rw [if_neg h0]; exact hw, fun h => absurd h h0, fun _ j _ => rfl, fun h => absurd h h0⟩
  have hge := nof_ge n
  have hge1 := nof_ge (if R0.1 = 0 then n + 1 else n)
  have hg0 := hgz 0 (by omega)
  have hg29 := hgz 29 (by omega)
  have hg46 := hgz 46 (by omega)
  rw [hr]
  obtain ⟨R1, hm1, hth, heq, hS1⟩ := hX2 X2 hX1 hX3
  refine lv_istore (lv' := [(5, .int (lkc R0.1 1)), (4, .int (Int32.ofNat (6 * t))), (0, .ref b), (1, .ref (g 0)), (2, .ref (g 29)), (3, .ref (g 46))]) hx hb dL_law_302 hl (by decide) rfl (fun ls hl => ?_)
  refine lv_aload_n hx hb dL_law_304 rfl (lv_at hl 4 rfl) ?_
  refine lv_aload_n hx hb dL_law_305 rfl (lv_at hl 2 rfl) ?_
  refine lv_iload hx hb dL_law_306 (lv_at hl 1 rfl) ?_
  refine lv_iconst (v := 1) hx hb dL_law_308 (by decide) ?_
  refine lv_iadd hx hb dL_law_309 ?_
  refine va_sld hx hb hXs hbl hbA hw.2.2 hin1 dL_law_310 ?_
  rw [hz1]
  refine lv_aload_n hx hb dL_law_311 rfl (lv_at hl 2 rfl) ?_
  refine lv_iload hx hb dL_law_312 (lv_at hl 1 rfl) ?_
  refine lv_iconst (v := 2) hx hb dL_law_314 (by decide) ?_
  refine lv_iadd hx hb dL_law_315 ?_
  refine va_sld hx hb hXs hbl hbA hw.2.2 hin2 dL_law_316 ?_
  rw [hz2]
  refine lv_aload_n hx hb dL_law_317 rfl (lv_at hl 2 rfl) ?_
  refine lv_iload hx hb dL_law_318 (lv_at hl 1 rfl) ?_
  refine lv_iconst (v := 3) hx hb dL_law_320 (by decide) ?_
  refine lv_iadd hx hb dL_law_321 ?_
  refine va_sld hx hb hXs hbl hbA hw.2.2 hin3 dL_law_322 ?_
  rw [hz3]
  refine lv_aload_n hx hb dL_law_323 rfl (lv_at hl 2 rfl) ?_
  refine lv_iload hx hb dL_law_324 (lv_at hl 1 rfl) ?_
  refine lv_iconst (v := 4) hx hb dL_law_326 (by decide) ?_
  refine lv_iadd hx hb dL_law_327 ?_
  refine va_sld hx hb hXs hbl hbA hw.2.2 hin4 dL_law_328 ?_
  rw [hz4]
  refine lv_aload_n hx hb dL_law_329 rfl (lv_at hl 2 rfl) ?_
  refine lv_iload hx hb dL_law_330 (lv_at hl 1 rfl) ?_
  refine lv_iconst (v := 5) hx hb dL_law_332 (by decide) ?_
  refine lv_iadd hx hb dL_law_333 ?_
  refine va_sld hx hb hXs hbl hbA hw.2.2 hin5 dL_law_334 ?_
  rw [hz5]
  refine t_vWi C hw (As := [.int za1, .int za2, .int za3, .int za4, .int za5]) bX10_addRule k728 (k := 29) (q47 (nof_ge (if R0.1 = 0 then n + 1 else n)) rfl) (sh_29 g1 cy _) rfl (c_X10_addRule (F := F) (X := X2) hfl (nof_ge (if R0.1 = 0 then n + 1 else n)) hm1) (by rw [hg29]; rfl) rfl dL_law_335 ⟨Nat.le_of_ble_eq_true rfl, Nat.le_of_ble_eq_true rfl⟩ hl.1 (Nat.le_of_ble_eq_true rfl) ⟨by show _ ≤ 601024; omega, by show _ ≤ 7293034; omega⟩ (fun H locs hw => ?_)
  refine lv_istore (lv' := [(6, .int R1.1), (5, .int (lkc R0.1 1)), (4, .int (Int32.ofNat (6 * t))), (0, .ref b), (1, .ref (g 0)), (2, .ref (g 29)), (3, .ref (g 46))]) hx hb dL_law_338 hl (by decide) rfl (fun ls hl => ?_)
  refine lv_aload_n hx hb dL_law_340 rfl (lv_at hl 5 rfl) ?_
  refine t_vRi (r0 := (lkc R0.1 1)) C hw (As := []) bX10_thrown k718 (k := 29) (q47 (nof_ge (if R0.1 = 0 then n + 1 else n)) rfl) (sh_29 g1 cy _) rfl (c_X10_thrown (F := F) hfl (nof_ge (if R0.1 = 0 then n + 1 else n)) (congrArg some hth)) (by rw [hg29]; rfl) rfl dL_law_341 ⟨Nat.le_of_ble_eq_true rfl, Nat.le_of_ble_eq_true rfl⟩ hl.1 (Nat.le_of_ble_eq_true rfl) ⟨by show _ ≤ 601024; omega, by show _ ≤ 7293034; omega⟩ ?_
  refine lv_iload hx hb dL_law_344 (lv_at hl 1 rfl) ?_
  refine lv_icmp_eq (tgt := 351) hx hb dL_law_346 (by decide) (fun _ => ?_) (fun cz => absurd rfl cz)
  refine lv_iload hx hb dL_law_351 (lv_at hl 1 rfl) ?_
  refine lv_if_ne (tgt := 368) hx hb dL_law_353 (by decide) (fun cz => ?_) (fun cz => ?_)
  · skip
    refine lv_goto (tgt := 1447) hx hb dL_law_368 (by decide) ?_
    have hl := lv_sub hl [2, 3, 4, 5, 6] rfl
    exact W.widen (by omega) (by omega) (hk _ _ _ _ _ _ hS1 hw (by rw [hg0, hg29, hg46]; exact hl))
  · have ht0 := lkc_0 cz
    have hr0 := (h46 ht0).trans (heq ht0).symm
    refine lv_aload_n hx hb dL_law_356 rfl (lv_at hl 6 rfl) ?_
    refine lv_iconst (v := 0) hx hb dL_law_357 (by decide) ?_
    rw [← hg46]
    refine w_lald C hw (k := 46) (n := 1) (q47 (nof_ge (if R0.1 = 0 then n + 1 else n)) rfl) rfl (show ¬ ((0 : Int32) < 0 ∨ 1 ≤ (0 : Int32).toNatClampNeg) by decide) dL_law_358 ?_
    refine lv_iload hx hb dL_law_359 (lv_at hl 0 rfl) ?_
    refine lv_i2l (v := R1.1.toInt64) hx hb dL_law_361 rfl ?_
    refine W.lcmp hx hb dL_law_362 ?_
    refine lv_if_eq (tgt := 368) hx hb dL_law_363 (by decide) (fun _ => ?_) (fun cz => absurd (lw_lcmp (congrArg Int32.toInt64 hr0)) cz)
    refine lv_goto (tgt := 1447) hx hb dL_law_368 (by decide) ?_
    have hl := lv_sub hl [2, 3, 4, 5, 6] rfl
    exact W.widen (by omega) (by omega) (hk _ _ _ _ _ _ hS1 hw (by rw [hg0, hg29, hg46]; exact hl))
set_option maxHeartbeats 4000000 in
theorem law_setPriority (hF : 20000 ≤ F) (ht : t < 513) (C : wCx p l s m args c meth code 7 RL D cy (fun q => s.heap.size ≤ q)) (hXs : va_X b L xs s s.heap) (hbl : b < s.heap.size) (hbA : ¬ s.heap.size ≤ b) {za1 : Int32} (hz1 : xs (Int32.ofNat (6 * t) + 1).toNatClampNeg = za1) (hin1 : vp_in (Int32.ofNat (6 * t) + 1) L) {za2 : Int32} (hz2 : xs (Int32.ofNat (6 * t) + 2).toNatClampNeg = za2) (hin2 : vp_in (Int32.ofNat (6 * t) + 2) L) (hS : Sta F X n) (hw : Wd D (fun q => s.heap.size ≤ q) s.heap g (nof n) (shp g cy X) H locs) (hl : lv_has ls 7 [(4, .int (Int32.ofNat (6 * t))), (0, .ref b), (1, .ref (g 0)), (2, .ref (g 29)), (3, .ref (g 46))]) (hk : LawK p l e s m args below meth c Q D cy b F t) : W p l e room_1 s m args below meth c H locs (47 + 20 * t) (40000 + 100 * t) Q (F0 m 371 ls []) := by
  have hx := C.1
  have hb : c.code = cL_law := C.2.1
  have hfl := C.2.2.2.2.2.2.2.2
  refine lv_aload_n hx hb dL_law_371 rfl (lv_at hl 2 rfl) ?_
  refine lv_aload_n hx hb dL_law_372 rfl (lv_at hl 1 rfl) ?_
  refine lv_iload hx hb dL_law_373 (lv_at hl 0 rfl) ?_
  refine lv_iconst (v := 1) hx hb dL_law_375 (by decide) ?_
  refine lv_iadd hx hb dL_law_376 ?_
  refine va_sld hx hb hXs hbl hbA hw.2.2 hin1 dL_law_377 ?_
  rw [hz1]
  refine lv_aload_n hx hb dL_law_378 rfl (lv_at hl 1 rfl) ?_
  refine lv_iload hx hb dL_law_379 (lv_at hl 0 rfl) ?_
  refine lv_iconst (v := 2) hx hb dL_law_381 (by decide) ?_
  refine lv_iadd hx hb dL_law_382 ?_
  refine va_sld hx hb hXs hbl hbA hw.2.2 hin2 dL_law_383 ?_
  rw [hz2]
  refine lv_aload_n hx hb dL_law_384 rfl (lv_at hl 4 rfl) ?_
  obtain ⟨R0, hm, hT, hX2⟩ := st_setPriority hF hS za1 za2
  refine t_sLi C hw (w_csL (n := 4) C k714 k639 k732 ⟨by decide, by decide⟩ (by decide +kernel) (by decide) k731 ⟨Nat.le_of_ble_eq_true rfl, Nat.le_of_ble_eq_true rfl⟩) (As := [.ref (g 0), .int za1, .int za2, .ref (g 46)]) (c_L_setPriority hfl (nof_ge n) (c_X9_setPriority hfl (rok_lst hS.lst) rfl hm) hT) rfl rfl dL_law_385 hl.1 (Nat.le_of_ble_eq_true rfl) ⟨by show _ ≤ 601024; omega, by show _ ≤ 7293034; omega⟩ (fun H locs hw => ?_)
  obtain ⟨X2, hX2e⟩ : ∃ X2, X2 = lkX R0.1 R0.2 (if R0.1 = 0 then up (up X (aid (X 4 2) za1) (upd (X (aid (X 4 2) za1)) 4 za2)) 0 (fgt (X 0)) else X) := ⟨_, rfl⟩
  have hw : Wd D (fun q => s.heap.size ≤ q) s.heap g (nof n) (shp g cy X2) H locs := by rw [hX2e]; exact hw
  have h46 : R0.1 = 0 → X2 46 0 = R0.2 := fun h => by rw [hX2e]; exact lkX_46 h
  obtain ⟨R1, hm1, hth, heq, hS1⟩ := hX2 X2 (fun j hj => by rw [hX2e]; exact lkX_ne j hj)
  refine lv_istore (lv' := [(5, .int (lkc R0.1 3)), (4, .int (Int32.ofNat (6 * t))), (0, .ref b), (1, .ref (g 0)), (2, .ref (g 29)), (3, .ref (g 46))]) hx hb dL_law_388 hl (by decide) rfl (fun ls hl => ?_)
  refine lv_aload_n hx hb dL_law_390 rfl (lv_at hl 4 rfl) ?_
  refine lv_aload_n hx hb dL_law_391 rfl (lv_at hl 2 rfl) ?_
  refine lv_iload hx hb dL_law_392 (lv_at hl 1 rfl) ?_
  refine lv_iconst (v := 1) hx hb dL_law_394 (by decide) ?_
  refine lv_iadd hx hb dL_law_395 ?_
  refine va_sld hx hb hXs hbl hbA hw.2.2 hin1 dL_law_396 ?_
  rw [hz1]
  refine lv_aload_n hx hb dL_law_397 rfl (lv_at hl 2 rfl) ?_
  refine lv_iload hx hb dL_law_398 (lv_at hl 1 rfl) ?_
  refine lv_iconst (v := 2) hx hb dL_law_400 (by decide) ?_
  refine lv_iadd hx hb dL_law_401 ?_
  refine va_sld hx hb hXs hbl hbA hw.2.2 hin2 dL_law_402 ?_
  rw [hz2]
  refine t_vWi C hw (As := [.int za1, .int za2]) bX10_setPriority k733 (k := 29) (q47 (nof_ge n) rfl) (sh_29 g cy _) rfl (c_X10_setPriority (F := F) (X := X2) hfl (nof_ge n) hm1) rfl rfl dL_law_403 ⟨Nat.le_of_ble_eq_true rfl, Nat.le_of_ble_eq_true rfl⟩ hl.1 (Nat.le_of_ble_eq_true rfl) ⟨by show _ ≤ 601024; omega, by show _ ≤ 7293034; omega⟩ (fun H locs hw => ?_)
  refine lv_istore (lv' := [(6, .int R1.1), (5, .int (lkc R0.1 3)), (4, .int (Int32.ofNat (6 * t))), (0, .ref b), (1, .ref (g 0)), (2, .ref (g 29)), (3, .ref (g 46))]) hx hb dL_law_406 hl (by decide) rfl (fun ls hl => ?_)
  refine lv_aload_n hx hb dL_law_408 rfl (lv_at hl 5 rfl) ?_
  refine t_vRi (r0 := (lkc R0.1 3)) C hw (As := []) bX10_thrown k718 (k := 29) (q47 (nof_ge n) rfl) (sh_29 g cy _) rfl (c_X10_thrown (F := F) hfl (nof_ge n) (congrArg some hth)) rfl rfl dL_law_409 ⟨Nat.le_of_ble_eq_true rfl, Nat.le_of_ble_eq_true rfl⟩ hl.1 (Nat.le_of_ble_eq_true rfl) ⟨by show _ ≤ 601024; omega, by show _ ≤ 7293034; omega⟩ ?_
  refine lv_iload hx hb dL_law_412 (lv_at hl 1 rfl) ?_
  refine lv_icmp_eq (tgt := 419) hx hb dL_law_414 (by decide) (fun _ => ?_) (fun cz => absurd rfl cz)
  refine lv_iload hx hb dL_law_419 (lv_at hl 1 rfl) ?_
  refine lv_if_ne (tgt := 436) hx hb dL_law_421 (by decide) (fun cz => ?_) (fun cz => ?_)
  · skip
    refine lv_goto (tgt := 1447) hx hb dL_law_436 (by decide) ?_
    have hl := lv_sub hl [2, 3, 4, 5, 6] rfl
    exact W.widen (by omega) (by omega) (hk _ _ _ _ _ _ hS1 hw hl)
  · have ht0 := lkc_0 cz
    have hr0 := (h46 ht0).trans (heq ht0).symm
    refine lv_aload_n hx hb dL_law_424 rfl (lv_at hl 6 rfl) ?_
    refine lv_iconst (v := 0) hx hb dL_law_425 (by decide) ?_
    refine w_lald C hw (k := 46) (n := 1) (q47 (nof_ge n) rfl) rfl (show ¬ ((0 : Int32) < 0 ∨ 1 ≤ (0 : Int32).toNatClampNeg) by decide) dL_law_426 ?_
    refine lv_iload hx hb dL_law_427 (lv_at hl 0 rfl) ?_
    refine lv_i2l (v := R1.1.toInt64) hx hb dL_law_429 rfl ?_
    refine W.lcmp hx hb dL_law_430 ?_
    refine lv_if_eq (tgt := 436) hx hb dL_law_431 (by decide) (fun _ => ?_) (fun cz => absurd (lw_lcmp (congrArg Int32.toInt64 hr0)) cz)
    refine lv_goto (tgt := 1447) hx hb dL_law_436 (by decide) ?_
    have hl := lv_sub hl [2, 3, 4, 5, 6] rfl
    exact W.widen (by omega) (by omega) (hk _ _ _ _ _ _ hS1 hw hl)
set_option maxHeartbeats 4000000 in
theorem law_setException (hF : 20000 ≤ F) (ht : t < 513) (C : wCx p l s m args c meth code 7 RL D cy (fun q => s.heap.size ≤ q)) (hXs : va_X b L xs s s.heap) (hbl : b < s.heap.size) (hbA : ¬ s.heap.size ≤ b) {za1 : Int32} (hz1 : xs (Int32.ofNat (6 * t) + 1).toNatClampNeg = za1) (hin1 : vp_in (Int32.ofNat (6 * t) + 1) L) {za2 : Int32} (hz2 : xs (Int32.ofNat (6 * t) + 2).toNatClampNeg = za2) (hin2 : vp_in (Int32.ofNat (6 * t) + 2) L) (hS : Sta F X n) (hw : Wd D (fun q => s.heap.size ≤ q) s.heap g (nof n) (shp g cy X) H locs) (hl : lv_has ls 7 [(4, .int (Int32.ofNat (6 * t))), (0, .ref b), (1, .ref (g 0)), (2, .ref (g 29)), (3, .ref (g 46))]) (hk : LawK p l e s m args below meth c Q D cy b F t) : W p l e room_1 s m args below meth c H locs (47 + 20 * t) (40000 + 100 * t) Q (F0 m 439 ls []) := by
  have hx := C.1
  have hb : c.code = cL_law := C.2.1
  have hfl := C.2.2.2.2.2.2.2.2
  refine lv_aload_n hx hb dL_law_439 rfl (lv_at hl 2 rfl) ?_
  refine lv_aload_n hx hb dL_law_440 rfl (lv_at hl 1 rfl) ?_
  refine lv_iload hx hb dL_law_441 (lv_at hl 0 rfl) ?_
  refine lv_iconst (v := 1) hx hb dL_law_443 (by decide) ?_
  refine lv_iadd hx hb dL_law_444 ?_
  refine va_sld hx hb hXs hbl hbA hw.2.2 hin1 dL_law_445 ?_
  rw [hz1]
  refine lv_aload_n hx hb dL_law_446 rfl (lv_at hl 1 rfl) ?_
  refine lv_iload hx hb dL_law_447 (lv_at hl 0 rfl) ?_
  refine lv_iconst (v := 2) hx hb dL_law_449 (by decide) ?_
  refine lv_iadd hx hb dL_law_450 ?_
  refine va_sld hx hb hXs hbl hbA hw.2.2 hin2 dL_law_451 ?_
  rw [hz2]
  refine lv_aload_n hx hb dL_law_452 rfl (lv_at hl 4 rfl) ?_
  obtain ⟨R0, hm, hT, hX2⟩ := st_setException hF hS za1 za2
  refine t_sLi C hw (w_csL (n := 4) C k714 k643 k737 ⟨by decide, by decide⟩ (by decide +kernel) (by decide) k736 ⟨Nat.le_of_ble_eq_true rfl, Nat.le_of_ble_eq_true rfl⟩) (As := [.ref (g 0), .int za1, .int za2, .ref (g 46)]) (c_L_setException hfl (nof_ge n) (c_X9_setException hfl (rok_lst hS.lst) rfl hm) hT) rfl rfl dL_law_453 hl.1 (Nat.le_of_ble_eq_true rfl) ⟨by show _ ≤ 601024; omega, by show _ ≤ 7293034; omega⟩ (fun H locs hw => ?_)
  obtain ⟨X2, hX2e⟩ : ∃ X2, X2 = lkX R0.1 R0.2 (if R0.1 = 0 then up (up X (aid (X 4 2) za1) (upd (X (aid (X 4 2) za1)) 5 za2)) 0 (fgt (X 0)) else X) := ⟨_, rfl⟩
  have hw : Wd D (fun q => s.heap.size ≤ q) s.heap g (nof n) (shp g cy X2) H locs := by rw [hX2e]; exact hw
  have h46 : R0.1 = 0 → X2 46 0 = R0.2 := fun h => by rw [hX2e]; exact lkX_46 h
  obtain ⟨R1, hm1, hth, heq, hS1⟩ := hX2 X2 (fun j hj => by rw [hX2e]; exact lkX_ne j hj)
  refine lv_istore (lv' := [(5, .int (lkc R0.1 3)), (4, .int (Int32.ofNat (6 * t))), (0, .ref b), (1, .ref (g 0)), (2, .ref (g 29)), (3, .ref (g 46))]) hx hb dL_law_456 hl (by decide) rfl (fun ls hl => ?_)
  refine lv_aload_n hx hb dL_law_458 rfl (lv_at hl 4 rfl) ?_
  refine lv_aload_n hx hb dL_law_459 rfl (lv_at hl 2 rfl) ?_
  refine lv_iload hx hb dL_law_460 (lv_at hl 1 rfl) ?_
  refine lv_iconst (v := 1) hx hb dL_law_462 (by decide) ?_
  refine lv_iadd hx hb dL_law_463 ?_
  refine va_sld hx hb hXs hbl hbA hw.2.2 hin1 dL_law_464 ?_
  rw [hz1]
  refine lv_aload_n hx hb dL_law_465 rfl (lv_at hl 2 rfl) ?_
  refine lv_iload hx hb dL_law_466 (lv_at hl 1 rfl) ?_
  refine lv_iconst (v := 2) hx hb dL_law_468 (by decide) ?_
  refine lv_iadd hx hb dL_law_469 ?_
  refine va_sld hx hb hXs hbl hbA hw.2.2 hin2 dL_law_470 ?_
  rw [hz2]
  refine t_vWi C hw (As := [.int za1, .int za2]) bX10_setException k738 (k := 29) (q47 (nof_ge n) rfl) (sh_29 g cy _) rfl (c_X10_setException (F := F) (X := X2) hfl (nof_ge n) hm1) rfl rfl dL_law_471 ⟨Nat.le_of_ble_eq_true rfl, Nat.le_of_ble_eq_true rfl⟩ hl.1 (Nat.le_of_ble_eq_true rfl) ⟨by show _ ≤ 601024; omega, by show _ ≤ 7293034; omega⟩ (fun H locs hw => ?_)
  refine lv_istore (lv' := [(6, .int R1.1), (5, .int (lkc R0.1 3)), (4, .int (Int32.ofNat (6 * t))), (0, .ref b), (1, .ref (g 0)), (2, .ref (g 29)), (3, .ref (g 46))]) hx hb dL_law_474 hl (by decide) rfl (fun ls hl => ?_)
  refine lv_aload_n hx hb dL_law_476 rfl (lv_at hl 5 rfl) ?_
  refine t_vRi (r0 := (lkc R0.1 3)) C hw (As := []) bX10_thrown k718 (k := 29) (q47 (nof_ge n) rfl) (sh_29 g cy _) rfl (c_X10_thrown (F := F) hfl (nof_ge n) (congrArg some hth)) rfl rfl dL_law_477 ⟨Nat.le_of_ble_eq_true rfl, Nat.le_of_ble_eq_true rfl⟩ hl.1 (Nat.le_of_ble_eq_true rfl) ⟨by show _ ≤ 601024; omega, by show _ ≤ 7293034; omega⟩ ?_
  refine lv_iload hx hb dL_law_480 (lv_at hl 1 rfl) ?_
  refine lv_icmp_eq (tgt := 487) hx hb dL_law_482 (by decide) (fun _ => ?_) (fun cz => absurd rfl cz)
  refine lv_iload hx hb dL_law_487 (lv_at hl 1 rfl) ?_
  refine lv_if_ne (tgt := 504) hx hb dL_law_489 (by decide) (fun cz => ?_) (fun cz => ?_)
  · skip
    refine lv_goto (tgt := 1447) hx hb dL_law_504 (by decide) ?_
    have hl := lv_sub hl [2, 3, 4, 5, 6] rfl
    exact W.widen (by omega) (by omega) (hk _ _ _ _ _ _ hS1 hw hl)
  · have ht0 := lkc_0 cz
    have hr0 := (h46 ht0).trans (heq ht0).symm
    refine lv_aload_n hx hb dL_law_492 rfl (lv_at hl 6 rfl) ?_
    refine lv_iconst (v := 0) hx hb dL_law_493 (by decide) ?_
    refine w_lald C hw (k := 46) (n := 1) (q47 (nof_ge n) rfl) rfl (show ¬ ((0 : Int32) < 0 ∨ 1 ≤ (0 : Int32).toNatClampNeg) by decide) dL_law_494 ?_
    refine lv_iload hx hb dL_law_495 (lv_at hl 0 rfl) ?_
    refine lv_i2l (v := R1.1.toInt64) hx hb dL_law_497 rfl ?_
    refine W.lcmp hx hb dL_law_498 ?_
    refine lv_if_eq (tgt := 504) hx hb dL_law_499 (by decide) (fun _ => ?_) (fun cz => absurd (lw_lcmp (congrArg Int32.toInt64 hr0)) cz)
    refine lv_goto (tgt := 1447) hx hb dL_law_504 (by decide) ?_
    have hl := lv_sub hl [2, 3, 4, 5, 6] rfl
    exact W.widen (by omega) (by omega) (hk _ _ _ _ _ _ hS1 hw hl)
set_option maxHeartbeats 4000000 in
theorem law_turn (hF : 20000 ≤ F) (ht : t < 513) (C : wCx p l s m args c meth code 7 RL D cy (fun q => s.heap.size ≤ q)) (hXs : va_X b L xs s s.heap) (hbl : b < s.heap.size) (hbA : ¬ s.heap.size ≤ b) {za1 : Int32} (hz1 : xs (Int32.ofNat (6 * t) + 1).toNatClampNeg = za1) (hin1 : vp_in (Int32.ofNat (6 * t) + 1) L) {za2 : Int32} (hz2 : xs (Int32.ofNat (6 * t) + 2).toNatClampNeg = za2) (hin2 : vp_in (Int32.ofNat (6 * t) + 2) L) (hS : Sta F X n) (hw : Wd D (fun q => s.heap.size ≤ q) s.heap g (nof n) (shp g cy X) H locs) (hl : lv_has ls 7 [(4, .int (Int32.ofNat (6 * t))), (0, .ref b), (1, .ref (g 0)), (2, .ref (g 29)), (3, .ref (g 46))]) (hk : LawK p l e s m args below meth c Q D cy b F t) : W p l e room_1 s m args below meth c H locs (47 + 20 * t) (40000 + 100 * t) Q (F0 m 507 ls []) := by
  have hx := C.1
  have hb : c.code = cL_law := C.2.1
  have hfl := C.2.2.2.2.2.2.2.2
  refine lv_aload_n hx hb dL_law_507 rfl (lv_at hl 2 rfl) ?_
  refine lv_aload_n hx hb dL_law_508 rfl (lv_at hl 1 rfl) ?_
  refine lv_iload hx hb dL_law_509 (lv_at hl 0 rfl) ?_
  refine lv_iconst (v := 1) hx hb dL_law_511 (by decide) ?_
  refine lv_iadd hx hb dL_law_512 ?_
  refine va_sld hx hb hXs hbl hbA hw.2.2 hin1 dL_law_513 ?_
  rw [hz1]
  refine lv_aload_n hx hb dL_law_514 rfl (lv_at hl 1 rfl) ?_
  refine lv_iload hx hb dL_law_515 (lv_at hl 0 rfl) ?_
  refine lv_iconst (v := 2) hx hb dL_law_517 (by decide) ?_
  refine lv_iadd hx hb dL_law_518 ?_
  refine va_sld hx hb hXs hbl hbA hw.2.2 hin2 dL_law_519 ?_
  rw [hz2]
  refine lv_if_eq (tgt := 527) hx hb dL_law_520 (by decide) (fun hb0 => ?_) (fun hb0 => ?_)
  · skip
    refine lv_iconst (v := 0) hx hb dL_law_527 (by decide) ?_
    refine lv_aload_n hx hb dL_law_528 rfl (lv_at hl 4 rfl) ?_
    obtain ⟨R0, hm, hT, hz9, hX2⟩ := st_turn hF hS za1 0 (by decide)
    refine t_sLi C hw (w_csL (n := 4) C k714 k647 k742 ⟨by decide, by decide⟩ (by decide +kernel) (by decide) k741 ⟨Nat.le_of_ble_eq_true rfl, Nat.le_of_ble_eq_true rfl⟩) (As := [.ref (g 0), .int za1, .int 0, .ref (g 46)]) (c_L_turn hfl (nof_ge n) (c_X9_turn hfl (rok_lst hS.lst) (by decide) rfl hm) hT hz9) rfl rfl dL_law_529 hl.1 (Nat.le_of_ble_eq_true rfl) ⟨by show _ ≤ 601024; omega, by show _ ≤ 7293034; omega⟩ (fun H locs hw => ?_)
    obtain ⟨X2, hX2e⟩ : ∃ X2, X2 = lkX R0.1 R0.2 (if R0.1 = 0 then up (up X (aid (X 4 2) za1) (upd (X (aid (X 4 2) za1)) 6 0)) 0 (fgt (X 0)) else X) := ⟨_, rfl⟩
    have hw : Wd D (fun q => s.heap.size ≤ q) s.heap g (nof n) (shp g cy X2) H locs := by rw [hX2e]; exact hw
    have h46 : R0.1 = 0 → X2 46 0 = R0.2 := fun h => by rw [hX2e]; exact lkX_46 h
    obtain ⟨R1, hm1, hth, heq, hS1⟩ := hX2 X2 (fun j hj => by rw [hX2e]; exact lkX_ne j hj)
    refine lv_istore (lv' := [(5, .int (lkc R0.1 3)), (4, .int (Int32.ofNat (6 * t))), (0, .ref b), (1, .ref (g 0)), (2, .ref (g 29)), (3, .ref (g 46))]) hx hb dL_law_532 hl (by decide) rfl (fun ls hl => ?_)
    refine lv_aload_n hx hb dL_law_534 rfl (lv_at hl 4 rfl) ?_
    refine lv_aload_n hx hb dL_law_535 rfl (lv_at hl 2 rfl) ?_
    refine lv_iload hx hb dL_law_536 (lv_at hl 1 rfl) ?_
    refine lv_iconst (v := 1) hx hb dL_law_538 (by decide) ?_
    refine lv_iadd hx hb dL_law_539 ?_
    refine va_sld hx hb hXs hbl hbA hw.2.2 hin1 dL_law_540 ?_
    rw [hz1]
    refine lv_aload_n hx hb dL_law_541 rfl (lv_at hl 2 rfl) ?_
    refine lv_iload hx hb dL_law_542 (lv_at hl 1 rfl) ?_
    refine lv_iconst (v := 2) hx hb dL_law_544 (by decide) ?_
    refine lv_iadd hx hb dL_law_545 ?_
    refine va_sld hx hb hXs hbl hbA hw.2.2 hin2 dL_law_546 ?_
    rw [hz2]
    refine lv_if_eq (tgt := 554) hx hb dL_law_547 (by decide) (fun _ => ?_) (fun cz => absurd hb0 cz)
    refine lv_iconst (v := 0) hx hb dL_law_554 (by decide) ?_
    refine t_vWi C hw (As := [.int za1, .int 0]) bX10_turn k743 (k := 29) (q47 (nof_ge n) rfl) (sh_29 g cy _) rfl (c_X10_turn (F := F) (X := X2) hfl (nof_ge n) hm1) rfl rfl dL_law_555 ⟨Nat.le_of_ble_eq_true rfl, Nat.le_of_ble_eq_true rfl⟩ hl.1 (Nat.le_of_ble_eq_true rfl) ⟨by show _ ≤ 601024; omega, by show _ ≤ 7293034; omega⟩ (fun H locs hw => ?_)
    refine lv_istore (lv' := [(6, .int R1.1), (5, .int (lkc R0.1 3)), (4, .int (Int32.ofNat (6 * t))), (0, .ref b), (1, .ref (g 0)), (2, .ref (g 29)), (3, .ref (g 46))]) hx hb dL_law_558 hl (by decide) rfl (fun ls hl => ?_)
    refine lv_aload_n hx hb dL_law_560 rfl (lv_at hl 5 rfl) ?_
    refine t_vRi (r0 := (lkc R0.1 3)) C hw (As := []) bX10_thrown k718 (k := 29) (q47 (nof_ge n) rfl) (sh_29 g cy _) rfl (c_X10_thrown (F := F) hfl (nof_ge n) (congrArg some hth)) rfl rfl dL_law_561 ⟨Nat.le_of_ble_eq_true rfl, Nat.le_of_ble_eq_true rfl⟩ hl.1 (Nat.le_of_ble_eq_true rfl) ⟨by show _ ≤ 601024; omega, by show _ ≤ 7293034; omega⟩ ?_
    refine lv_iload hx hb dL_law_564 (lv_at hl 1 rfl) ?_
    refine lv_icmp_eq (tgt := 571) hx hb dL_law_566 (by decide) (fun _ => ?_) (fun cz => absurd rfl cz)
    refine lv_iload hx hb dL_law_571 (lv_at hl 1 rfl) ?_
    refine lv_if_ne (tgt := 595) hx hb dL_law_573 (by decide) (fun cz => ?_) (fun cz => ?_)
    · skip
      refine lv_goto (tgt := 1447) hx hb dL_law_595 (by decide) ?_
      have hl := lv_sub hl [2, 3, 4, 5, 6] rfl
      exact W.widen (by omega) (by omega) (hk _ _ _ _ _ _ hS1 hw hl)
    · have ht0 := lkc_0 cz
      have hr0 := (h46 ht0).trans (heq ht0).symm
      refine lv_aload_n hx hb dL_law_576 rfl (lv_at hl 6 rfl) ?_
      refine lv_iconst (v := 0) hx hb dL_law_577 (by decide) ?_
      refine w_lald C hw (k := 46) (n := 1) (q47 (nof_ge n) rfl) rfl (show ¬ ((0 : Int32) < 0 ∨ 1 ≤ (0 : Int32).toNatClampNeg) by decide) dL_law_578 ?_
      refine lv_iload hx hb dL_law_579 (lv_at hl 0 rfl) ?_
      refine lv_if_eq (tgt := 588) hx hb dL_law_581 (by decide) (fun hb0 => ?_) (fun hb0 => ?_)
      · skip
        refine lv_lconst (v := 0) hx hb dL_law_588 (by decide) ?_
        refine W.lcmp hx hb dL_law_589 ?_
        refine lv_if_eq (tgt := 595) hx hb dL_law_590 (by decide) (fun _ => ?_) (fun cz => absurd (lw_lcmp ((congrArg Int32.toInt64 hr0).trans (by rw [hb0] <;> rfl))) cz)
        refine lv_goto (tgt := 1447) hx hb dL_law_595 (by decide) ?_
        have hl := lv_sub hl [2, 3, 4, 5, 6] rfl
        exact W.widen (by omega) (by omega) (hk _ _ _ _ _ _ hS1 hw hl)
      · skip
        refine lv_lconst (v := 1) hx hb dL_law_584 (by decide) ?_
        refine lv_goto (tgt := 589) hx hb dL_law_585 (by decide) ?_
        have hb1 : ¬ R1.1 = 0 → R1.1 = 1 := fun h9 => (by rw [heq ht0] at h9 ⊢; exact hz9.resolve_left h9)
        refine W.lcmp hx hb dL_law_589 ?_
        refine lv_if_eq (tgt := 595) hx hb dL_law_590 (by decide) (fun _ => ?_) (fun cz => absurd (lw_lcmp ((congrArg Int32.toInt64 hr0).trans (by rw [hb1 hb0] <;> rfl))) cz)
        refine lv_goto (tgt := 1447) hx hb dL_law_595 (by decide) ?_
        have hl := lv_sub hl [2, 3, 4, 5, 6] rfl
        exact W.widen (by omega) (by omega) (hk _ _ _ _ _ _ hS1 hw hl)
  · skip
    refine lv_iconst (v := 1) hx hb dL_law_523 (by decide) ?_
    refine lv_goto (tgt := 528) hx hb dL_law_524 (by decide) ?_
    refine lv_aload_n hx hb dL_law_528 rfl (lv_at hl 4 rfl) ?_
    obtain ⟨R0, hm, hT, hz9, hX2⟩ := st_turn hF hS za1 1 (by decide)
    refine t_sLi C hw (w_csL (n := 4) C k714 k647 k742 ⟨by decide, by decide⟩ (by decide +kernel) (by decide) k741 ⟨Nat.le_of_ble_eq_true rfl, Nat.le_of_ble_eq_true rfl⟩) (As := [.ref (g 0), .int za1, .int 1, .ref (g 46)]) (c_L_turn hfl (nof_ge n) (c_X9_turn hfl (rok_lst hS.lst) (by decide) rfl hm) hT hz9) rfl rfl dL_law_529 hl.1 (Nat.le_of_ble_eq_true rfl) ⟨by show _ ≤ 601024; omega, by show _ ≤ 7293034; omega⟩ (fun H locs hw => ?_)
    obtain ⟨X2, hX2e⟩ : ∃ X2, X2 = lkX R0.1 R0.2 (if R0.1 = 0 then up (up X (aid (X 4 2) za1) (upd (X (aid (X 4 2) za1)) 6 1)) 0 (fgt (X 0)) else X) := ⟨_, rfl⟩
    have hw : Wd D (fun q => s.heap.size ≤ q) s.heap g (nof n) (shp g cy X2) H locs := by rw [hX2e]; exact hw
    have h46 : R0.1 = 0 → X2 46 0 = R0.2 := fun h => by rw [hX2e]; exact lkX_46 h
    obtain ⟨R1, hm1, hth, heq, hS1⟩ := hX2 X2 (fun j hj => by rw [hX2e]; exact lkX_ne j hj)
    refine lv_istore (lv' := [(5, .int (lkc R0.1 3)), (4, .int (Int32.ofNat (6 * t))), (0, .ref b), (1, .ref (g 0)), (2, .ref (g 29)), (3, .ref (g 46))]) hx hb dL_law_532 hl (by decide) rfl (fun ls hl => ?_)
    refine lv_aload_n hx hb dL_law_534 rfl (lv_at hl 4 rfl) ?_
    refine lv_aload_n hx hb dL_law_535 rfl (lv_at hl 2 rfl) ?_
    refine lv_iload hx hb dL_law_536 (lv_at hl 1 rfl) ?_
    refine lv_iconst (v := 1) hx hb dL_law_538 (by decide) ?_
    refine lv_iadd hx hb dL_law_539 ?_
    refine va_sld hx hb hXs hbl hbA hw.2.2 hin1 dL_law_540 ?_
    rw [hz1]
    refine lv_aload_n hx hb dL_law_541 rfl (lv_at hl 2 rfl) ?_
    refine lv_iload hx hb dL_law_542 (lv_at hl 1 rfl) ?_
    refine lv_iconst (v := 2) hx hb dL_law_544 (by decide) ?_
    refine lv_iadd hx hb dL_law_545 ?_
    refine va_sld hx hb hXs hbl hbA hw.2.2 hin2 dL_law_546 ?_
    rw [hz2]
    refine lv_if_eq (tgt := 554) hx hb dL_law_547 (by decide) (fun cz => absurd cz hb0) (fun _ => ?_)
    refine lv_iconst (v := 1) hx hb dL_law_550 (by decide) ?_
    refine lv_goto (tgt := 555) hx hb dL_law_551 (by decide) ?_
    refine t_vWi C hw (As := [.int za1, .int 1]) bX10_turn k743 (k := 29) (q47 (nof_ge n) rfl) (sh_29 g cy _) rfl (c_X10_turn (F := F) (X := X2) hfl (nof_ge n) hm1) rfl rfl dL_law_555 ⟨Nat.le_of_ble_eq_true rfl, Nat.le_of_ble_eq_true rfl⟩ hl.1 (Nat.le_of_ble_eq_true rfl) ⟨by show _ ≤ 601024; omega, by show _ ≤ 7293034; omega⟩ (fun H locs hw => ?_)
    refine lv_istore (lv' := [(6, .int R1.1), (5, .int (lkc R0.1 3)), (4, .int (Int32.ofNat (6 * t))), (0, .ref b), (1, .ref (g 0)), (2, .ref (g 29)), (3, .ref (g 46))]) hx hb dL_law_558 hl (by decide) rfl (fun ls hl => ?_)
    refine lv_aload_n hx hb dL_law_560 rfl (lv_at hl 5 rfl) ?_
    refine t_vRi (r0 := (lkc R0.1 3)) C hw (As := []) bX10_thrown k718 (k := 29) (q47 (nof_ge n) rfl) (sh_29 g cy _) rfl (c_X10_thrown (F := F) hfl (nof_ge n) (congrArg some hth)) rfl rfl dL_law_561 ⟨Nat.le_of_ble_eq_true rfl, Nat.le_of_ble_eq_true rfl⟩ hl.1 (Nat.le_of_ble_eq_true rfl) ⟨by show _ ≤ 601024; omega, by show _ ≤ 7293034; omega⟩ ?_
    refine lv_iload hx hb dL_law_564 (lv_at hl 1 rfl) ?_
    refine lv_icmp_eq (tgt := 571) hx hb dL_law_566 (by decide) (fun _ => ?_) (fun cz => absurd rfl cz)
    refine lv_iload hx hb dL_law_571 (lv_at hl 1 rfl) ?_
    refine lv_if_ne (tgt := 595) hx hb dL_law_573 (by decide) (fun cz => ?_) (fun cz => ?_)
    · skip
      refine lv_goto (tgt := 1447) hx hb dL_law_595 (by decide) ?_
      have hl := lv_sub hl [2, 3, 4, 5, 6] rfl
      exact W.widen (by omega) (by omega) (hk _ _ _ _ _ _ hS1 hw hl)
    · have ht0 := lkc_0 cz
      have hr0 := (h46 ht0).trans (heq ht0).symm
      refine lv_aload_n hx hb dL_law_576 rfl (lv_at hl 6 rfl) ?_
      refine lv_iconst (v := 0) hx hb dL_law_577 (by decide) ?_
      refine w_lald C hw (k := 46) (n := 1) (q47 (nof_ge n) rfl) rfl (show ¬ ((0 : Int32) < 0 ∨ 1 ≤ (0 : Int32).toNatClampNeg) by decide) dL_law_578 ?_
      refine lv_iload hx hb dL_law_579 (lv_at hl 0 rfl) ?_
      refine lv_if_eq (tgt := 588) hx hb dL_law_581 (by decide) (fun hb0 => ?_) (fun hb0 => ?_)
      · skip
        refine lv_lconst (v := 0) hx hb dL_law_588 (by decide) ?_
        refine W.lcmp hx hb dL_law_589 ?_
        refine lv_if_eq (tgt := 595) hx hb dL_law_590 (by decide) (fun _ => ?_) (fun cz => absurd (lw_lcmp ((congrArg Int32.toInt64 hr0).trans (by rw [hb0] <;> rfl))) cz)
        refine lv_goto (tgt := 1447) hx hb dL_law_595 (by decide) ?_
        have hl := lv_sub hl [2, 3, 4, 5, 6] rfl
        exact W.widen (by omega) (by omega) (hk _ _ _ _ _ _ hS1 hw hl)
      · skip
        refine lv_lconst (v := 1) hx hb dL_law_584 (by decide) ?_
        refine lv_goto (tgt := 589) hx hb dL_law_585 (by decide) ?_
        have hb1 : ¬ R1.1 = 0 → R1.1 = 1 := fun h9 => (by rw [heq ht0] at h9 ⊢; exact hz9.resolve_left h9)
        refine W.lcmp hx hb dL_law_589 ?_
        refine lv_if_eq (tgt := 595) hx hb dL_law_590 (by decide) (fun _ => ?_) (fun cz => absurd (lw_lcmp ((congrArg Int32.toInt64 hr0).trans (by rw [hb1 hb0] <;> rfl))) cz)
        refine lv_goto (tgt := 1447) hx hb dL_law_595 (by decide) ?_
        have hl := lv_sub hl [2, 3, 4, 5, 6] rfl
        exact W.widen (by omega) (by omega) (hk _ _ _ _ _ _ hS1 hw hl)
set_option maxHeartbeats 4000000 in
theorem law_facts (hF : 20000 ≤ F) (ht : t < 513) (C : wCx p l s m args c meth code 7 RL D cy (fun q => s.heap.size ≤ q)) (hXs : va_X b L xs s s.heap) (hbl : b < s.heap.size) (hbA : ¬ s.heap.size ≤ b) (hS : Sta F X n) (hw : Wd D (fun q => s.heap.size ≤ q) s.heap g (nof n) (shp g cy X) H locs) (hl : lv_has ls 7 [(4, .int (Int32.ofNat (6 * t))), (0, .ref b), (1, .ref (g 0)), (2, .ref (g 29)), (3, .ref (g 46))]) (hk : LawK p l e s m args below meth c Q D cy b F t) : W p l e room_1 s m args below meth c H locs (47 + 20 * t) (40000 + 100 * t) Q (F0 m 598 ls []) := by
  have hx := C.1
  have hb : c.code = cL_law := C.2.1
  have hfl := C.2.2.2.2.2.2.2.2
  refine lv_aload_n hx hb dL_law_598 rfl (lv_at hl 2 rfl) ?_
  obtain ⟨R0, R1, hm, hm1, heq, hS1⟩ := st_facts hF hS
  refine t_vRi (r0 := R0) C hw (As := []) bX9_facts k746 (k := 0) (q47 (nof_ge n) rfl) (sh_0 g cy _) rfl (c_X9_facts (F := F) (X := X) hfl (nof_ge n) hm) rfl rfl dL_law_599 ⟨Nat.le_of_ble_eq_true rfl, Nat.le_of_ble_eq_true rfl⟩ hl.1 (Nat.le_of_ble_eq_true rfl) ⟨by show _ ≤ 601024; omega, by show _ ≤ 7293034; omega⟩ ?_
  refine lv_aload_n hx hb dL_law_602 rfl (lv_at hl 3 rfl) ?_
  refine t_vWi C hw (As := []) bX10_facts k749 (k := 29) (q47 (nof_ge n) rfl) (sh_29 g cy _) rfl (c_X10_facts (F := F) (X := X) hfl (nof_ge n) hm1) rfl rfl dL_law_603 ⟨Nat.le_of_ble_eq_true rfl, Nat.le_of_ble_eq_true rfl⟩ hl.1 (Nat.le_of_ble_eq_true rfl) ⟨by show _ ≤ 601024; omega, by show _ ≤ 7293034; omega⟩ (fun H locs hw => ?_)
  refine lv_icmp_eq (tgt := 1447) hx hb dL_law_606 (by decide) (fun _ => ?_) (fun cz => absurd heq cz)
  have hl := lv_sub hl [0, 1, 2, 3, 4] rfl
  exact W.widen (by omega) (by omega) (hk _ _ _ _ _ _ hS1 hw hl)
set_option maxHeartbeats 4000000 in
theorem law_rules (hF : 20000 ≤ F) (ht : t < 513) (C : wCx p l s m args c meth code 7 RL D cy (fun q => s.heap.size ≤ q)) (hXs : va_X b L xs s s.heap) (hbl : b < s.heap.size) (hbA : ¬ s.heap.size ≤ b) (hS : Sta F X n) (hw : Wd D (fun q => s.heap.size ≤ q) s.heap g (nof n) (shp g cy X) H locs) (hl : lv_has ls 7 [(4, .int (Int32.ofNat (6 * t))), (0, .ref b), (1, .ref (g 0)), (2, .ref (g 29)), (3, .ref (g 46))]) (hk : LawK p l e s m args below meth c Q D cy b F t) : W p l e room_1 s m args below meth c H locs (47 + 20 * t) (40000 + 100 * t) Q (F0 m 611 ls []) := by
  have hx := C.1
  have hb : c.code = cL_law := C.2.1
  have hfl := C.2.2.2.2.2.2.2.2
  refine lv_aload_n hx hb dL_law_611 rfl (lv_at hl 2 rfl) ?_
  obtain ⟨R0, R1, hm, hm1, heq, hS1⟩ := st_rules hF hS
  refine t_vRi (r0 := R0) C hw (As := []) bX9_rules k752 (k := 0) (q47 (nof_ge n) rfl) (sh_0 g cy _) rfl (c_X9_rules (F := F) (X := X) hfl (nof_ge n) hm) rfl rfl dL_law_612 ⟨Nat.le_of_ble_eq_true rfl, Nat.le_of_ble_eq_true rfl⟩ hl.1 (Nat.le_of_ble_eq_true rfl) ⟨by show _ ≤ 601024; omega, by show _ ≤ 7293034; omega⟩ ?_
  refine lv_aload_n hx hb dL_law_615 rfl (lv_at hl 3 rfl) ?_
  refine t_vWi C hw (As := []) bX10_rules k755 (k := 29) (q47 (nof_ge n) rfl) (sh_29 g cy _) rfl (c_X10_rules (F := F) (X := X) hfl (nof_ge n) hm1) rfl rfl dL_law_616 ⟨Nat.le_of_ble_eq_true rfl, Nat.le_of_ble_eq_true rfl⟩ hl.1 (Nat.le_of_ble_eq_true rfl) ⟨by show _ ≤ 601024; omega, by show _ ≤ 7293034; omega⟩ (fun H locs hw => ?_)
  refine lv_icmp_eq (tgt := 1447) hx hb dL_law_619 (by decide) (fun _ => ?_) (fun cz => absurd heq cz)
  have hl := lv_sub hl [0, 1, 2, 3, 4] rfl
  exact W.widen (by omega) (by omega) (hk _ _ _ _ _ _ hS1 hw hl)
set_option maxHeartbeats 4000000 in
theorem law_arguments (hF : 20000 ≤ F) (ht : t < 513) (C : wCx p l s m args c meth code 7 RL D cy (fun q => s.heap.size ≤ q)) (hXs : va_X b L xs s s.heap) (hbl : b < s.heap.size) (hbA : ¬ s.heap.size ≤ b) (hS : Sta F X n) (hw : Wd D (fun q => s.heap.size ≤ q) s.heap g (nof n) (shp g cy X) H locs) (hl : lv_has ls 7 [(4, .int (Int32.ofNat (6 * t))), (0, .ref b), (1, .ref (g 0)), (2, .ref (g 29)), (3, .ref (g 46))]) (hk : LawK p l e s m args below meth c Q D cy b F t) : W p l e room_1 s m args below meth c H locs (47 + 20 * t) (40000 + 100 * t) Q (F0 m 624 ls []) := by
  have hx := C.1
  have hb : c.code = cL_law := C.2.1
  have hfl := C.2.2.2.2.2.2.2.2
  refine lv_aload_n hx hb dL_law_624 rfl (lv_at hl 2 rfl) ?_
  obtain ⟨R0, hm, hX2⟩ := st_arguments hF hS
  obtain ⟨R1, hm1, heq, hS1⟩ := hX2 _ rfl
  refine t_vWi C hw (As := []) bX9_arguments k758 (k := 0) (q47 (nof_ge n) rfl) (sh_0 g cy _) rfl (c_X9_arguments (F := F) (X := X) hfl (rok_lst hS.lst) hm) rfl rfl dL_law_625 ⟨Nat.le_of_ble_eq_true rfl, Nat.le_of_ble_eq_true rfl⟩ hl.1 (Nat.le_of_ble_eq_true rfl) ⟨by show _ ≤ 601024; omega, by show _ ≤ 7293034; omega⟩ (fun H locs hw => ?_)
  refine lv_aload_n hx hb dL_law_628 rfl (lv_at hl 3 rfl) ?_
  refine t_vWi C hw (As := []) bX10_arguments k761 (k := 29) (q47 (nof_ge n) rfl) (sh_29 g cy _) rfl (c_X10_arguments (F := F) hfl (nof_ge n) hm1) rfl rfl dL_law_629 ⟨Nat.le_of_ble_eq_true rfl, Nat.le_of_ble_eq_true rfl⟩ hl.1 (Nat.le_of_ble_eq_true rfl) ⟨by show _ ≤ 601024; omega, by show _ ≤ 7293034; omega⟩ (fun H locs hw => ?_)
  refine lv_icmp_eq (tgt := 1447) hx hb dL_law_632 (by decide) (fun _ => ?_) (fun cz => absurd heq cz)
  have hl := lv_sub hl [0, 1, 2, 3, 4] rfl
  exact W.widen (by omega) (by omega) (hk _ _ _ _ _ _ hS1 hw hl)
set_option maxHeartbeats 4000000 in
theorem law_conclusion (hF : 20000 ≤ F) (ht : t < 513) (C : wCx p l s m args c meth code 7 RL D cy (fun q => s.heap.size ≤ q)) (hXs : va_X b L xs s s.heap) (hbl : b < s.heap.size) (hbA : ¬ s.heap.size ≤ b) {za1 : Int32} (hz1 : xs (Int32.ofNat (6 * t) + 1).toNatClampNeg = za1) (hin1 : vp_in (Int32.ofNat (6 * t) + 1) L) (hS : Sta F X n) (hw : Wd D (fun q => s.heap.size ≤ q) s.heap g (nof n) (shp g cy X) H locs) (hl : lv_has ls 7 [(4, .int (Int32.ofNat (6 * t))), (0, .ref b), (1, .ref (g 0)), (2, .ref (g 29)), (3, .ref (g 46))]) (hk : LawK p l e s m args below meth c Q D cy b F t) : W p l e room_1 s m args below meth c H locs (47 + 20 * t) (40000 + 100 * t) Q (F0 m 637 ls []) := by
  have hx := C.1
  have hb : c.code = cL_law := C.2.1
  have hfl := C.2.2.2.2.2.2.2.2
  refine lv_aload_n hx hb dL_law_637 rfl (lv_at hl 2 rfl) ?_
  refine lv_aload_n hx hb dL_law_638 rfl (lv_at hl 1 rfl) ?_
  refine lv_iload hx hb dL_law_639 (lv_at hl 0 rfl) ?_
  refine lv_iconst (v := 1) hx hb dL_law_641 (by decide) ?_
  refine lv_iadd hx hb dL_law_642 ?_
  refine va_sld hx hb hXs hbl hbA hw.2.2 hin1 dL_law_643 ?_
  rw [hz1]
  refine lv_aload_n hx hb dL_law_644 rfl (lv_at hl 4 rfl) ?_
  obtain ⟨R0, hm, hT, hX2⟩ := st_conclusion hF hS za1
  refine t_sLi C hw (w_csL (n := 3) C k714 k651 k765 ⟨by decide, by decide⟩ (by decide +kernel) (by decide) k764 ⟨Nat.le_of_ble_eq_true rfl, Nat.le_of_ble_eq_true rfl⟩) (As := [.ref (g 0), .int za1, .ref (g 46)]) (c_L_conclusion hfl (nof_ge n) (c_X9_conclusion (X := X) hfl (rok_lst hS.lst) hm) hT) rfl rfl dL_law_645 hl.1 (Nat.le_of_ble_eq_true rfl) ⟨by show _ ≤ 601024; omega, by show _ ≤ 7293034; omega⟩ (fun H locs hw => ?_)
  obtain ⟨X2, hX2e⟩ : ∃ X2, X2 = lkX R0.1 R0.2.1 (up (up (up (up (up (up (up (up (up (up (up (up (up (up (up (up (up X 0 R0.2.2.1) 6 R0.2.2.2.1) 7 R0.2.2.2.2.1) 8 R0.2.2.2.2.2.1) 9 R0.2.2.2.2.2.2.1) 10 R0.2.2.2.2.2.2.2.1) 11 R0.2.2.2.2.2.2.2.2.1) 13 R0.2.2.2.2.2.2.2.2.2.1) 14 R0.2.2.2.2.2.2.2.2.2.2.1) 15 R0.2.2.2.2.2.2.2.2.2.2.2.1) 16 R0.2.2.2.2.2.2.2.2.2.2.2.2.1) 18 R0.2.2.2.2.2.2.2.2.2.2.2.2.2.1) 19 R0.2.2.2.2.2.2.2.2.2.2.2.2.2.2.1) 20 R0.2.2.2.2.2.2.2.2.2.2.2.2.2.2.2.1) 22 R0.2.2.2.2.2.2.2.2.2.2.2.2.2.2.2.2.1) 23 R0.2.2.2.2.2.2.2.2.2.2.2.2.2.2.2.2.2.1) 24 R0.2.2.2.2.2.2.2.2.2.2.2.2.2.2.2.2.2.2) := ⟨_, rfl⟩
  have hw : Wd D (fun q => s.heap.size ≤ q) s.heap g (nof n) (shp g cy X2) H locs := by rw [hX2e]; exact hw
  have h46 : R0.1 = 0 → X2 46 0 = R0.2.1 := fun h => by rw [hX2e]; exact lkX_46 h
  obtain ⟨R1, hm1, hth, heq, hS1⟩ := hX2 X2 (fun j hj => by rw [hX2e]; exact lkX_ne j hj)
  refine lv_istore (lv' := [(5, .int (lkc R0.1 2)), (4, .int (Int32.ofNat (6 * t))), (0, .ref b), (1, .ref (g 0)), (2, .ref (g 29)), (3, .ref (g 46))]) hx hb dL_law_648 hl (by decide) rfl (fun ls hl => ?_)
  refine lv_aload_n hx hb dL_law_650 rfl (lv_at hl 4 rfl) ?_
  refine lv_aload_n hx hb dL_law_651 rfl (lv_at hl 2 rfl) ?_
  refine lv_iload hx hb dL_law_652 (lv_at hl 1 rfl) ?_
  refine lv_iconst (v := 1) hx hb dL_law_654 (by decide) ?_
  refine lv_iadd hx hb dL_law_655 ?_
  refine va_sld hx hb hXs hbl hbA hw.2.2 hin1 dL_law_656 ?_
  rw [hz1]
  refine t_vWi C hw (As := [.int za1]) bX10_conclusion k766 (k := 29) (q47 (nof_ge n) rfl) (sh_29 g cy _) rfl (c_X10_conclusion (F := F) (X := X2) hfl (nof_ge n) hm1) rfl rfl dL_law_657 ⟨Nat.le_of_ble_eq_true rfl, Nat.le_of_ble_eq_true rfl⟩ hl.1 (Nat.le_of_ble_eq_true rfl) ⟨by show _ ≤ 601024; omega, by show _ ≤ 7293034; omega⟩ (fun H locs hw => ?_)
  refine lv_istore (lv' := [(6, .int R1.1), (5, .int (lkc R0.1 2)), (4, .int (Int32.ofNat (6 * t))), (0, .ref b), (1, .ref (g 0)), (2, .ref (g 29)), (3, .ref (g 46))]) hx hb dL_law_660 hl (by decide) rfl (fun ls hl => ?_)
  refine lv_aload_n hx hb dL_law_662 rfl (lv_at hl 5 rfl) ?_
  refine t_vRi (r0 := (lkc R0.1 2)) C hw (As := []) bX10_thrown k718 (k := 29) (q47 (nof_ge n) rfl) (sh_29 g cy _) rfl (c_X10_thrown (F := F) hfl (nof_ge n) (congrArg some hth)) rfl rfl dL_law_663 ⟨Nat.le_of_ble_eq_true rfl, Nat.le_of_ble_eq_true rfl⟩ hl.1 (Nat.le_of_ble_eq_true rfl) ⟨by show _ ≤ 601024; omega, by show _ ≤ 7293034; omega⟩ ?_
  refine lv_iload hx hb dL_law_666 (lv_at hl 1 rfl) ?_
  refine lv_icmp_eq (tgt := 673) hx hb dL_law_668 (by decide) (fun _ => ?_) (fun cz => absurd rfl cz)
  refine lv_iload hx hb dL_law_673 (lv_at hl 1 rfl) ?_
  refine lv_if_ne (tgt := 690) hx hb dL_law_675 (by decide) (fun cz => ?_) (fun cz => ?_)
  · skip
    refine lv_goto (tgt := 1447) hx hb dL_law_690 (by decide) ?_
    have hl := lv_sub hl [2, 3, 4, 5, 6] rfl
    exact W.widen (by omega) (by omega) (hk _ _ _ _ _ _ hS1 hw hl)
  · have ht0 := lkc_0 cz
    have hr0 := (h46 ht0).trans (heq ht0).symm
    refine lv_aload_n hx hb dL_law_678 rfl (lv_at hl 6 rfl) ?_
    refine lv_iconst (v := 0) hx hb dL_law_679 (by decide) ?_
    refine w_lald C hw (k := 46) (n := 1) (q47 (nof_ge n) rfl) rfl (show ¬ ((0 : Int32) < 0 ∨ 1 ≤ (0 : Int32).toNatClampNeg) by decide) dL_law_680 ?_
    refine lv_iload hx hb dL_law_681 (lv_at hl 0 rfl) ?_
    refine lv_i2l (v := R1.1.toInt64) hx hb dL_law_683 rfl ?_
    refine W.lcmp hx hb dL_law_684 ?_
    refine lv_if_eq (tgt := 690) hx hb dL_law_685 (by decide) (fun _ => ?_) (fun cz => absurd (lw_lcmp (congrArg Int32.toInt64 hr0)) cz)
    refine lv_goto (tgt := 1447) hx hb dL_law_690 (by decide) ?_
    have hl := lv_sub hl [2, 3, 4, 5, 6] rfl
    exact W.widen (by omega) (by omega) (hk _ _ _ _ _ _ hS1 hw hl)
set_option maxHeartbeats 4000000 in
theorem law_madeBy (hF : 20000 ≤ F) (ht : t < 513) (C : wCx p l s m args c meth code 7 RL D cy (fun q => s.heap.size ≤ q)) (hXs : va_X b L xs s s.heap) (hbl : b < s.heap.size) (hbA : ¬ s.heap.size ≤ b) {za1 : Int32} (hz1 : xs (Int32.ofNat (6 * t) + 1).toNatClampNeg = za1) (hin1 : vp_in (Int32.ofNat (6 * t) + 1) L) (hS : Sta F X n) (hw : Wd D (fun q => s.heap.size ≤ q) s.heap g (nof n) (shp g cy X) H locs) (hl : lv_has ls 7 [(4, .int (Int32.ofNat (6 * t))), (0, .ref b), (1, .ref (g 0)), (2, .ref (g 29)), (3, .ref (g 46))]) (hk : LawK p l e s m args below meth c Q D cy b F t) : W p l e room_1 s m args below meth c H locs (47 + 20 * t) (40000 + 100 * t) Q (F0 m 693 ls []) := by
  have hx := C.1
  have hb : c.code = cL_law := C.2.1
  have hfl := C.2.2.2.2.2.2.2.2
  refine lv_aload_n hx hb dL_law_693 rfl (lv_at hl 2 rfl) ?_
  refine lv_aload_n hx hb dL_law_694 rfl (lv_at hl 1 rfl) ?_
  refine lv_iload hx hb dL_law_695 (lv_at hl 0 rfl) ?_
  refine lv_iconst (v := 1) hx hb dL_law_697 (by decide) ?_
  refine lv_iadd hx hb dL_law_698 ?_
  refine va_sld hx hb hXs hbl hbA hw.2.2 hin1 dL_law_699 ?_
  rw [hz1]
  refine lv_aload_n hx hb dL_law_700 rfl (lv_at hl 4 rfl) ?_
  obtain ⟨R0, hm, hT, hX2⟩ := st_madeBy hF hS za1
  refine t_sLi C hw (w_csL (n := 3) C k714 k655 k770 ⟨by decide, by decide⟩ (by decide +kernel) (by decide) k769 ⟨Nat.le_of_ble_eq_true rfl, Nat.le_of_ble_eq_true rfl⟩) (As := [.ref (g 0), .int za1, .ref (g 46)]) (c_L_madeBy hfl (nof_ge n) (c_X9_madeBy (X := X) hfl (rok_lst hS.lst) hm) hT) rfl rfl dL_law_701 hl.1 (Nat.le_of_ble_eq_true rfl) ⟨by show _ ≤ 601024; omega, by show _ ≤ 7293034; omega⟩ (fun H locs hw => ?_)
  obtain ⟨X2, hX2e⟩ : ∃ X2, X2 = lkX R0.1 R0.2.1 (up (up (up (up (up (up (up (up (up (up (up (up (up (up (up (up (up X 0 R0.2.2.1) 6 R0.2.2.2.1) 7 R0.2.2.2.2.1) 8 R0.2.2.2.2.2.1) 9 R0.2.2.2.2.2.2.1) 10 R0.2.2.2.2.2.2.2.1) 11 R0.2.2.2.2.2.2.2.2.1) 13 R0.2.2.2.2.2.2.2.2.2.1) 14 R0.2.2.2.2.2.2.2.2.2.2.1) 15 R0.2.2.2.2.2.2.2.2.2.2.2.1) 16 R0.2.2.2.2.2.2.2.2.2.2.2.2.1) 18 R0.2.2.2.2.2.2.2.2.2.2.2.2.2.1) 19 R0.2.2.2.2.2.2.2.2.2.2.2.2.2.2.1) 20 R0.2.2.2.2.2.2.2.2.2.2.2.2.2.2.2.1) 22 R0.2.2.2.2.2.2.2.2.2.2.2.2.2.2.2.2.1) 23 R0.2.2.2.2.2.2.2.2.2.2.2.2.2.2.2.2.2.1) 24 R0.2.2.2.2.2.2.2.2.2.2.2.2.2.2.2.2.2.2) := ⟨_, rfl⟩
  have hw : Wd D (fun q => s.heap.size ≤ q) s.heap g (nof n) (shp g cy X2) H locs := by rw [hX2e]; exact hw
  have h46 : R0.1 = 0 → X2 46 0 = R0.2.1 := fun h => by rw [hX2e]; exact lkX_46 h
  obtain ⟨R1, hm1, hth, heq, hS1⟩ := hX2 X2 (fun j hj => by rw [hX2e]; exact lkX_ne j hj)
  refine lv_istore (lv' := [(5, .int (lkc R0.1 2)), (4, .int (Int32.ofNat (6 * t))), (0, .ref b), (1, .ref (g 0)), (2, .ref (g 29)), (3, .ref (g 46))]) hx hb dL_law_704 hl (by decide) rfl (fun ls hl => ?_)
  refine lv_aload_n hx hb dL_law_706 rfl (lv_at hl 4 rfl) ?_
  refine lv_aload_n hx hb dL_law_707 rfl (lv_at hl 2 rfl) ?_
  refine lv_iload hx hb dL_law_708 (lv_at hl 1 rfl) ?_
  refine lv_iconst (v := 1) hx hb dL_law_710 (by decide) ?_
  refine lv_iadd hx hb dL_law_711 ?_
  refine va_sld hx hb hXs hbl hbA hw.2.2 hin1 dL_law_712 ?_
  rw [hz1]
  refine t_vWi C hw (As := [.int za1]) bX10_madeBy k771 (k := 29) (q47 (nof_ge n) rfl) (sh_29 g cy _) rfl (c_X10_madeBy (F := F) (X := X2) hfl (nof_ge n) hm1) rfl rfl dL_law_713 ⟨Nat.le_of_ble_eq_true rfl, Nat.le_of_ble_eq_true rfl⟩ hl.1 (Nat.le_of_ble_eq_true rfl) ⟨by show _ ≤ 601024; omega, by show _ ≤ 7293034; omega⟩ (fun H locs hw => ?_)
  refine lv_istore (lv' := [(6, .int R1.1), (5, .int (lkc R0.1 2)), (4, .int (Int32.ofNat (6 * t))), (0, .ref b), (1, .ref (g 0)), (2, .ref (g 29)), (3, .ref (g 46))]) hx hb dL_law_716 hl (by decide) rfl (fun ls hl => ?_)
  refine lv_aload_n hx hb dL_law_718 rfl (lv_at hl 5 rfl) ?_
  refine t_vRi (r0 := (lkc R0.1 2)) C hw (As := []) bX10_thrown k718 (k := 29) (q47 (nof_ge n) rfl) (sh_29 g cy _) rfl (c_X10_thrown (F := F) hfl (nof_ge n) (congrArg some hth)) rfl rfl dL_law_719 ⟨Nat.le_of_ble_eq_true rfl, Nat.le_of_ble_eq_true rfl⟩ hl.1 (Nat.le_of_ble_eq_true rfl) ⟨by show _ ≤ 601024; omega, by show _ ≤ 7293034; omega⟩ ?_
  refine lv_iload hx hb dL_law_722 (lv_at hl 1 rfl) ?_
  refine lv_icmp_eq (tgt := 729) hx hb dL_law_724 (by decide) (fun _ => ?_) (fun cz => absurd rfl cz)
  refine lv_iload hx hb dL_law_729 (lv_at hl 1 rfl) ?_
  refine lv_if_ne (tgt := 746) hx hb dL_law_731 (by decide) (fun cz => ?_) (fun cz => ?_)
  · skip
    refine lv_goto (tgt := 1447) hx hb dL_law_746 (by decide) ?_
    have hl := lv_sub hl [2, 3, 4, 5, 6] rfl
    exact W.widen (by omega) (by omega) (hk _ _ _ _ _ _ hS1 hw hl)
  · have ht0 := lkc_0 cz
    have hr0 := (h46 ht0).trans (heq ht0).symm
    refine lv_aload_n hx hb dL_law_734 rfl (lv_at hl 6 rfl) ?_
    refine lv_iconst (v := 0) hx hb dL_law_735 (by decide) ?_
    refine w_lald C hw (k := 46) (n := 1) (q47 (nof_ge n) rfl) rfl (show ¬ ((0 : Int32) < 0 ∨ 1 ≤ (0 : Int32).toNatClampNeg) by decide) dL_law_736 ?_
    refine lv_iload hx hb dL_law_737 (lv_at hl 0 rfl) ?_
    refine lv_i2l (v := R1.1.toInt64) hx hb dL_law_739 rfl ?_
    refine W.lcmp hx hb dL_law_740 ?_
    refine lv_if_eq (tgt := 746) hx hb dL_law_741 (by decide) (fun _ => ?_) (fun cz => absurd (lw_lcmp (congrArg Int32.toInt64 hr0)) cz)
    refine lv_goto (tgt := 1447) hx hb dL_law_746 (by decide) ?_
    have hl := lv_sub hl [2, 3, 4, 5, 6] rfl
    exact W.widen (by omega) (by omega) (hk _ _ _ _ _ _ hS1 hw hl)
set_option maxHeartbeats 4000000 in
theorem law_part (hF : 20000 ≤ F) (ht : t < 513) (C : wCx p l s m args c meth code 7 RL D cy (fun q => s.heap.size ≤ q)) (hXs : va_X b L xs s s.heap) (hbl : b < s.heap.size) (hbA : ¬ s.heap.size ≤ b) {za1 : Int32} (hz1 : xs (Int32.ofNat (6 * t) + 1).toNatClampNeg = za1) (hin1 : vp_in (Int32.ofNat (6 * t) + 1) L) {za2 : Int32} (hz2 : xs (Int32.ofNat (6 * t) + 2).toNatClampNeg = za2) (hin2 : vp_in (Int32.ofNat (6 * t) + 2) L) (hS : Sta F X n) (hw : Wd D (fun q => s.heap.size ≤ q) s.heap g (nof n) (shp g cy X) H locs) (hl : lv_has ls 7 [(4, .int (Int32.ofNat (6 * t))), (0, .ref b), (1, .ref (g 0)), (2, .ref (g 29)), (3, .ref (g 46))]) (hk : LawK p l e s m args below meth c Q D cy b F t) : W p l e room_1 s m args below meth c H locs (47 + 20 * t) (40000 + 100 * t) Q (F0 m 749 ls []) := by
  have hx := C.1
  have hb : c.code = cL_law := C.2.1
  have hfl := C.2.2.2.2.2.2.2.2
  refine lv_aload_n hx hb dL_law_749 rfl (lv_at hl 2 rfl) ?_
  refine lv_aload_n hx hb dL_law_750 rfl (lv_at hl 1 rfl) ?_
  refine lv_iload hx hb dL_law_751 (lv_at hl 0 rfl) ?_
  refine lv_iconst (v := 1) hx hb dL_law_753 (by decide) ?_
  refine lv_iadd hx hb dL_law_754 ?_
  refine va_sld hx hb hXs hbl hbA hw.2.2 hin1 dL_law_755 ?_
  rw [hz1]
  refine lv_aload_n hx hb dL_law_756 rfl (lv_at hl 1 rfl) ?_
  refine lv_iload hx hb dL_law_757 (lv_at hl 0 rfl) ?_
  refine lv_iconst (v := 2) hx hb dL_law_759 (by decide) ?_
  refine lv_iadd hx hb dL_law_760 ?_
  refine va_sld hx hb hXs hbl hbA hw.2.2 hin2 dL_law_761 ?_
  rw [hz2]
  refine lv_aload_n hx hb dL_law_762 rfl (lv_at hl 4 rfl) ?_
  obtain ⟨R0, hm, hT, hX2⟩ := st_part hF hS za1 za2
  refine t_sLi C hw (w_csL (n := 4) C k714 k659 k775 ⟨by decide, by decide⟩ (by decide +kernel) (by decide) k774 ⟨Nat.le_of_ble_eq_true rfl, Nat.le_of_ble_eq_true rfl⟩) (As := [.ref (g 0), .int za1, .int za2, .ref (g 46)]) (c_L_part hfl (nof_ge n) (c_X9_part (X := X) hfl (rok_lst hS.lst) hm) hT) rfl rfl dL_law_763 hl.1 (Nat.le_of_ble_eq_true rfl) ⟨by show _ ≤ 601024; omega, by show _ ≤ 7293034; omega⟩ (fun H locs hw => ?_)
  obtain ⟨X2, hX2e⟩ : ∃ X2, X2 = lkX R0.1 R0.2.1 (up (up (up (up (up (up (up (up (up (up (up (up (up (up (up (up (up X 0 R0.2.2.1) 6 R0.2.2.2.1) 7 R0.2.2.2.2.1) 8 R0.2.2.2.2.2.1) 9 R0.2.2.2.2.2.2.1) 10 R0.2.2.2.2.2.2.2.1) 11 R0.2.2.2.2.2.2.2.2.1) 13 R0.2.2.2.2.2.2.2.2.2.1) 14 R0.2.2.2.2.2.2.2.2.2.2.1) 15 R0.2.2.2.2.2.2.2.2.2.2.2.1) 16 R0.2.2.2.2.2.2.2.2.2.2.2.2.1) 18 R0.2.2.2.2.2.2.2.2.2.2.2.2.2.1) 19 R0.2.2.2.2.2.2.2.2.2.2.2.2.2.2.1) 20 R0.2.2.2.2.2.2.2.2.2.2.2.2.2.2.2.1) 22 R0.2.2.2.2.2.2.2.2.2.2.2.2.2.2.2.2.1) 23 R0.2.2.2.2.2.2.2.2.2.2.2.2.2.2.2.2.2.1) 24 R0.2.2.2.2.2.2.2.2.2.2.2.2.2.2.2.2.2.2) := ⟨_, rfl⟩
  have hw : Wd D (fun q => s.heap.size ≤ q) s.heap g (nof n) (shp g cy X2) H locs := by rw [hX2e]; exact hw
  have h46 : R0.1 = 0 → X2 46 0 = R0.2.1 := fun h => by rw [hX2e]; exact lkX_46 h
  obtain ⟨R1, hm1, hth, heq, hS1⟩ := hX2 X2 (fun j hj => by rw [hX2e]; exact lkX_ne j hj)
  refine lv_istore (lv' := [(5, .int (lkc R0.1 2)), (4, .int (Int32.ofNat (6 * t))), (0, .ref b), (1, .ref (g 0)), (2, .ref (g 29)), (3, .ref (g 46))]) hx hb dL_law_766 hl (by decide) rfl (fun ls hl => ?_)
  refine lv_aload_n hx hb dL_law_768 rfl (lv_at hl 4 rfl) ?_
  refine lv_aload_n hx hb dL_law_769 rfl (lv_at hl 2 rfl) ?_
  refine lv_iload hx hb dL_law_770 (lv_at hl 1 rfl) ?_
  refine lv_iconst (v := 1) hx hb dL_law_772 (by decide) ?_
  refine lv_iadd hx hb dL_law_773 ?_
  refine va_sld hx hb hXs hbl hbA hw.2.2 hin1 dL_law_774 ?_
  rw [hz1]
  refine lv_aload_n hx hb dL_law_775 rfl (lv_at hl 2 rfl) ?_
  refine lv_iload hx hb dL_law_776 (lv_at hl 1 rfl) ?_
  refine lv_iconst (v := 2) hx hb dL_law_778 (by decide) ?_
  refine lv_iadd hx hb dL_law_779 ?_
  refine va_sld hx hb hXs hbl hbA hw.2.2 hin2 dL_law_780 ?_
  rw [hz2]
  refine t_vWi C hw (As := [.int za1, .int za2]) bX10_part k776 (k := 29) (q47 (nof_ge n) rfl) (sh_29 g cy _) rfl (c_X10_part (F := F) (X := X2) hfl (nof_ge n) hm1) rfl rfl dL_law_781 ⟨Nat.le_of_ble_eq_true rfl, Nat.le_of_ble_eq_true rfl⟩ hl.1 (Nat.le_of_ble_eq_true rfl) ⟨by show _ ≤ 601024; omega, by show _ ≤ 7293034; omega⟩ (fun H locs hw => ?_)
  refine lv_istore (lv' := [(6, .int R1.1), (5, .int (lkc R0.1 2)), (4, .int (Int32.ofNat (6 * t))), (0, .ref b), (1, .ref (g 0)), (2, .ref (g 29)), (3, .ref (g 46))]) hx hb dL_law_784 hl (by decide) rfl (fun ls hl => ?_)
  refine lv_aload_n hx hb dL_law_786 rfl (lv_at hl 5 rfl) ?_
  refine t_vRi (r0 := (lkc R0.1 2)) C hw (As := []) bX10_thrown k718 (k := 29) (q47 (nof_ge n) rfl) (sh_29 g cy _) rfl (c_X10_thrown (F := F) hfl (nof_ge n) (congrArg some hth)) rfl rfl dL_law_787 ⟨Nat.le_of_ble_eq_true rfl, Nat.le_of_ble_eq_true rfl⟩ hl.1 (Nat.le_of_ble_eq_true rfl) ⟨by show _ ≤ 601024; omega, by show _ ≤ 7293034; omega⟩ ?_
  refine lv_iload hx hb dL_law_790 (lv_at hl 1 rfl) ?_
  refine lv_icmp_eq (tgt := 797) hx hb dL_law_792 (by decide) (fun _ => ?_) (fun cz => absurd rfl cz)
  refine lv_iload hx hb dL_law_797 (lv_at hl 1 rfl) ?_
  refine lv_if_ne (tgt := 814) hx hb dL_law_799 (by decide) (fun cz => ?_) (fun cz => ?_)
  · skip
    refine lv_goto (tgt := 1447) hx hb dL_law_814 (by decide) ?_
    have hl := lv_sub hl [2, 3, 4, 5, 6] rfl
    exact W.widen (by omega) (by omega) (hk _ _ _ _ _ _ hS1 hw hl)
  · have ht0 := lkc_0 cz
    have hr0 := (h46 ht0).trans (heq ht0).symm
    refine lv_aload_n hx hb dL_law_802 rfl (lv_at hl 6 rfl) ?_
    refine lv_iconst (v := 0) hx hb dL_law_803 (by decide) ?_
    refine w_lald C hw (k := 46) (n := 1) (q47 (nof_ge n) rfl) rfl (show ¬ ((0 : Int32) < 0 ∨ 1 ≤ (0 : Int32).toNatClampNeg) by decide) dL_law_804 ?_
    refine lv_iload hx hb dL_law_805 (lv_at hl 0 rfl) ?_
    refine lv_i2l (v := R1.1.toInt64) hx hb dL_law_807 rfl ?_
    refine W.lcmp hx hb dL_law_808 ?_
    refine lv_if_eq (tgt := 814) hx hb dL_law_809 (by decide) (fun _ => ?_) (fun cz => absurd (lw_lcmp (congrArg Int32.toInt64 hr0)) cz)
    refine lv_goto (tgt := 1447) hx hb dL_law_814 (by decide) ?_
    have hl := lv_sub hl [2, 3, 4, 5, 6] rfl
    exact W.widen (by omega) (by omega) (hk _ _ _ _ _ _ hS1 hw hl)
set_option maxHeartbeats 4000000 in
theorem law_depth (hF : 20000 ≤ F) (ht : t < 513) (C : wCx p l s m args c meth code 7 RL D cy (fun q => s.heap.size ≤ q)) (hXs : va_X b L xs s s.heap) (hbl : b < s.heap.size) (hbA : ¬ s.heap.size ≤ b) {za1 : Int32} (hz1 : xs (Int32.ofNat (6 * t) + 1).toNatClampNeg = za1) (hin1 : vp_in (Int32.ofNat (6 * t) + 1) L) (hS : Sta F X n) (hw : Wd D (fun q => s.heap.size ≤ q) s.heap g (nof n) (shp g cy X) H locs) (hl : lv_has ls 7 [(4, .int (Int32.ofNat (6 * t))), (0, .ref b), (1, .ref (g 0)), (2, .ref (g 29)), (3, .ref (g 46))]) (hk : LawK p l e s m args below meth c Q D cy b F t) : W p l e room_1 s m args below meth c H locs (47 + 20 * t) (40000 + 100 * t) Q (F0 m 817 ls []) := by
  have hx := C.1
  have hb : c.code = cL_law := C.2.1
  have hfl := C.2.2.2.2.2.2.2.2
  refine lv_aload_n hx hb dL_law_817 rfl (lv_at hl 2 rfl) ?_
  refine lv_aload_n hx hb dL_law_818 rfl (lv_at hl 1 rfl) ?_
  refine lv_iload hx hb dL_law_819 (lv_at hl 0 rfl) ?_
  refine lv_iconst (v := 1) hx hb dL_law_821 (by decide) ?_
  refine lv_iadd hx hb dL_law_822 ?_
  refine va_sld hx hb hXs hbl hbA hw.2.2 hin1 dL_law_823 ?_
  rw [hz1]
  refine lv_aload_n hx hb dL_law_824 rfl (lv_at hl 4 rfl) ?_
  obtain ⟨R0, hm, hT, hX2⟩ := st_depth hF hS za1
  refine t_sLi C hw (w_csL (n := 3) C k714 k663 k780 ⟨by decide, by decide⟩ (by decide +kernel) (by decide) k779 ⟨Nat.le_of_ble_eq_true rfl, Nat.le_of_ble_eq_true rfl⟩) (As := [.ref (g 0), .int za1, .ref (g 46)]) (c_L_depth hfl (nof_ge n) (c_X9_depth (X := X) hfl (rok_lst hS.lst) hm) hT) rfl rfl dL_law_825 hl.1 (Nat.le_of_ble_eq_true rfl) ⟨by show _ ≤ 601024; omega, by show _ ≤ 7293034; omega⟩ (fun H locs hw => ?_)
  obtain ⟨X2, hX2e⟩ : ∃ X2, X2 = lkX R0.1 R0.2.1 (up (up (up (up (up (up (up (up (up (up (up (up (up (up (up (up (up X 0 R0.2.2.1) 6 R0.2.2.2.1) 7 R0.2.2.2.2.1) 8 R0.2.2.2.2.2.1) 9 R0.2.2.2.2.2.2.1) 10 R0.2.2.2.2.2.2.2.1) 11 R0.2.2.2.2.2.2.2.2.1) 13 R0.2.2.2.2.2.2.2.2.2.1) 14 R0.2.2.2.2.2.2.2.2.2.2.1) 15 R0.2.2.2.2.2.2.2.2.2.2.2.1) 16 R0.2.2.2.2.2.2.2.2.2.2.2.2.1) 18 R0.2.2.2.2.2.2.2.2.2.2.2.2.2.1) 19 R0.2.2.2.2.2.2.2.2.2.2.2.2.2.2.1) 20 R0.2.2.2.2.2.2.2.2.2.2.2.2.2.2.2.1) 22 R0.2.2.2.2.2.2.2.2.2.2.2.2.2.2.2.2.1) 23 R0.2.2.2.2.2.2.2.2.2.2.2.2.2.2.2.2.2.1) 24 R0.2.2.2.2.2.2.2.2.2.2.2.2.2.2.2.2.2.2) := ⟨_, rfl⟩
  have hw : Wd D (fun q => s.heap.size ≤ q) s.heap g (nof n) (shp g cy X2) H locs := by rw [hX2e]; exact hw
  have h46 : R0.1 = 0 → X2 46 0 = R0.2.1 := fun h => by rw [hX2e]; exact lkX_46 h
  obtain ⟨R1, hm1, hth, heq, hS1⟩ := hX2 X2 (fun j hj => by rw [hX2e]; exact lkX_ne j hj)
  refine lv_istore (lv' := [(5, .int (lkc R0.1 2)), (4, .int (Int32.ofNat (6 * t))), (0, .ref b), (1, .ref (g 0)), (2, .ref (g 29)), (3, .ref (g 46))]) hx hb dL_law_828 hl (by decide) rfl (fun ls hl => ?_)
  refine lv_aload_n hx hb dL_law_830 rfl (lv_at hl 4 rfl) ?_
  refine lv_aload_n hx hb dL_law_831 rfl (lv_at hl 2 rfl) ?_
  refine lv_iload hx hb dL_law_832 (lv_at hl 1 rfl) ?_
  refine lv_iconst (v := 1) hx hb dL_law_834 (by decide) ?_
  refine lv_iadd hx hb dL_law_835 ?_
  refine va_sld hx hb hXs hbl hbA hw.2.2 hin1 dL_law_836 ?_
  rw [hz1]
  refine t_vWi C hw (As := [.int za1]) bX10_depth k781 (k := 29) (q47 (nof_ge n) rfl) (sh_29 g cy _) rfl (c_X10_depth (F := F) (X := X2) hfl (nof_ge n) hm1) rfl rfl dL_law_837 ⟨Nat.le_of_ble_eq_true rfl, Nat.le_of_ble_eq_true rfl⟩ hl.1 (Nat.le_of_ble_eq_true rfl) ⟨by show _ ≤ 601024; omega, by show _ ≤ 7293034; omega⟩ (fun H locs hw => ?_)
  refine lv_istore (lv' := [(6, .int R1.1), (5, .int (lkc R0.1 2)), (4, .int (Int32.ofNat (6 * t))), (0, .ref b), (1, .ref (g 0)), (2, .ref (g 29)), (3, .ref (g 46))]) hx hb dL_law_840 hl (by decide) rfl (fun ls hl => ?_)
  refine lv_aload_n hx hb dL_law_842 rfl (lv_at hl 5 rfl) ?_
  refine t_vRi (r0 := (lkc R0.1 2)) C hw (As := []) bX10_thrown k718 (k := 29) (q47 (nof_ge n) rfl) (sh_29 g cy _) rfl (c_X10_thrown (F := F) hfl (nof_ge n) (congrArg some hth)) rfl rfl dL_law_843 ⟨Nat.le_of_ble_eq_true rfl, Nat.le_of_ble_eq_true rfl⟩ hl.1 (Nat.le_of_ble_eq_true rfl) ⟨by show _ ≤ 601024; omega, by show _ ≤ 7293034; omega⟩ ?_
  refine lv_iload hx hb dL_law_846 (lv_at hl 1 rfl) ?_
  refine lv_icmp_eq (tgt := 853) hx hb dL_law_848 (by decide) (fun _ => ?_) (fun cz => absurd rfl cz)
  refine lv_iload hx hb dL_law_853 (lv_at hl 1 rfl) ?_
  refine lv_if_ne (tgt := 870) hx hb dL_law_855 (by decide) (fun cz => ?_) (fun cz => ?_)
  · skip
    refine lv_goto (tgt := 1447) hx hb dL_law_870 (by decide) ?_
    have hl := lv_sub hl [2, 3, 4, 5, 6] rfl
    exact W.widen (by omega) (by omega) (hk _ _ _ _ _ _ hS1 hw hl)
  · have ht0 := lkc_0 cz
    have hr0 := (h46 ht0).trans (heq ht0).symm
    refine lv_aload_n hx hb dL_law_858 rfl (lv_at hl 6 rfl) ?_
    refine lv_iconst (v := 0) hx hb dL_law_859 (by decide) ?_
    refine w_lald C hw (k := 46) (n := 1) (q47 (nof_ge n) rfl) rfl (show ¬ ((0 : Int32) < 0 ∨ 1 ≤ (0 : Int32).toNatClampNeg) by decide) dL_law_860 ?_
    refine lv_iload hx hb dL_law_861 (lv_at hl 0 rfl) ?_
    refine lv_i2l (v := R1.1.toInt64) hx hb dL_law_863 rfl ?_
    refine W.lcmp hx hb dL_law_864 ?_
    refine lv_if_eq (tgt := 870) hx hb dL_law_865 (by decide) (fun _ => ?_) (fun cz => absurd (lw_lcmp (congrArg Int32.toInt64 hr0)) cz)
    refine lv_goto (tgt := 1447) hx hb dL_law_870 (by decide) ?_
    have hl := lv_sub hl [2, 3, 4, 5, 6] rfl
    exact W.widen (by omega) (by omega) (hk _ _ _ _ _ _ hS1 hw hl)
set_option maxHeartbeats 4000000 in
theorem law_attacks (hF : 20000 ≤ F) (ht : t < 513) (C : wCx p l s m args c meth code 7 RL D cy (fun q => s.heap.size ≤ q)) (hXs : va_X b L xs s s.heap) (hbl : b < s.heap.size) (hbA : ¬ s.heap.size ≤ b) {za1 : Int32} (hz1 : xs (Int32.ofNat (6 * t) + 1).toNatClampNeg = za1) (hin1 : vp_in (Int32.ofNat (6 * t) + 1) L) {za2 : Int32} (hz2 : xs (Int32.ofNat (6 * t) + 2).toNatClampNeg = za2) (hin2 : vp_in (Int32.ofNat (6 * t) + 2) L) (hS : Sta F X n) (hw : Wd D (fun q => s.heap.size ≤ q) s.heap g (nof n) (shp g cy X) H locs) (hl : lv_has ls 7 [(4, .int (Int32.ofNat (6 * t))), (0, .ref b), (1, .ref (g 0)), (2, .ref (g 29)), (3, .ref (g 46))]) (hk : LawK p l e s m args below meth c Q D cy b F t) : W p l e room_1 s m args below meth c H locs (47 + 20 * t) (40000 + 100 * t) Q (F0 m 873 ls []) := by
  have hx := C.1
  have hb : c.code = cL_law := C.2.1
  have hfl := C.2.2.2.2.2.2.2.2
  refine lv_aload_n hx hb dL_law_873 rfl (lv_at hl 2 rfl) ?_
  refine lv_aload_n hx hb dL_law_874 rfl (lv_at hl 1 rfl) ?_
  refine lv_iload hx hb dL_law_875 (lv_at hl 0 rfl) ?_
  refine lv_iconst (v := 1) hx hb dL_law_877 (by decide) ?_
  refine lv_iadd hx hb dL_law_878 ?_
  refine va_sld hx hb hXs hbl hbA hw.2.2 hin1 dL_law_879 ?_
  rw [hz1]
  refine lv_aload_n hx hb dL_law_880 rfl (lv_at hl 1 rfl) ?_
  refine lv_iload hx hb dL_law_881 (lv_at hl 0 rfl) ?_
  refine lv_iconst (v := 2) hx hb dL_law_883 (by decide) ?_
  refine lv_iadd hx hb dL_law_884 ?_
  refine va_sld hx hb hXs hbl hbA hw.2.2 hin2 dL_law_885 ?_
  rw [hz2]
  refine lv_aload_n hx hb dL_law_886 rfl (lv_at hl 4 rfl) ?_
  obtain ⟨R0, hm, hT, hz9, hX2⟩ := st_attacks hF hS za1 za2
  refine t_sLi C hw (w_csL (n := 4) C k714 k667 k785 ⟨by decide, by decide⟩ (by decide +kernel) (by decide) k784 ⟨Nat.le_of_ble_eq_true rfl, Nat.le_of_ble_eq_true rfl⟩) (As := [.ref (g 0), .int za1, .int za2, .ref (g 46)]) (c_L_attacks hfl (nof_ge n) (c_X9_attacks (X := X) hfl (rok_lst hS.lst) hm) hT hz9) rfl rfl dL_law_887 hl.1 (Nat.le_of_ble_eq_true rfl) ⟨by show _ ≤ 601024; omega, by show _ ≤ 7293034; omega⟩ (fun H locs hw => ?_)
  obtain ⟨X2, hX2e⟩ : ∃ X2, X2 = lkX R0.1 R0.2.1 (up (up (up (up (up (up (up (up (up (up (up (up (up (up (up (up (up X 0 R0.2.2.1) 6 R0.2.2.2.1) 7 R0.2.2.2.2.1) 8 R0.2.2.2.2.2.1) 9 R0.2.2.2.2.2.2.1) 10 R0.2.2.2.2.2.2.2.1) 11 R0.2.2.2.2.2.2.2.2.1) 13 R0.2.2.2.2.2.2.2.2.2.1) 14 R0.2.2.2.2.2.2.2.2.2.2.1) 15 R0.2.2.2.2.2.2.2.2.2.2.2.1) 16 R0.2.2.2.2.2.2.2.2.2.2.2.2.1) 18 R0.2.2.2.2.2.2.2.2.2.2.2.2.2.1) 19 R0.2.2.2.2.2.2.2.2.2.2.2.2.2.2.1) 20 R0.2.2.2.2.2.2.2.2.2.2.2.2.2.2.2.1) 22 R0.2.2.2.2.2.2.2.2.2.2.2.2.2.2.2.2.1) 23 R0.2.2.2.2.2.2.2.2.2.2.2.2.2.2.2.2.2.1) 24 R0.2.2.2.2.2.2.2.2.2.2.2.2.2.2.2.2.2.2) := ⟨_, rfl⟩
  have hw : Wd D (fun q => s.heap.size ≤ q) s.heap g (nof n) (shp g cy X2) H locs := by rw [hX2e]; exact hw
  have h46 : R0.1 = 0 → X2 46 0 = R0.2.1 := fun h => by rw [hX2e]; exact lkX_46 h
  obtain ⟨R1, hm1, hth, heq, hS1⟩ := hX2 X2 (fun j hj => by rw [hX2e]; exact lkX_ne j hj)
  refine lv_istore (lv' := [(5, .int (lkc R0.1 2)), (4, .int (Int32.ofNat (6 * t))), (0, .ref b), (1, .ref (g 0)), (2, .ref (g 29)), (3, .ref (g 46))]) hx hb dL_law_890 hl (by decide) rfl (fun ls hl => ?_)
  refine lv_aload_n hx hb dL_law_892 rfl (lv_at hl 4 rfl) ?_
  refine lv_aload_n hx hb dL_law_893 rfl (lv_at hl 2 rfl) ?_
  refine lv_iload hx hb dL_law_894 (lv_at hl 1 rfl) ?_
  refine lv_iconst (v := 1) hx hb dL_law_896 (by decide) ?_
  refine lv_iadd hx hb dL_law_897 ?_
  refine va_sld hx hb hXs hbl hbA hw.2.2 hin1 dL_law_898 ?_
  rw [hz1]
  refine lv_aload_n hx hb dL_law_899 rfl (lv_at hl 2 rfl) ?_
  refine lv_iload hx hb dL_law_900 (lv_at hl 1 rfl) ?_
  refine lv_iconst (v := 2) hx hb dL_law_902 (by decide) ?_
  refine lv_iadd hx hb dL_law_903 ?_
  refine va_sld hx hb hXs hbl hbA hw.2.2 hin2 dL_law_904 ?_
  rw [hz2]
  refine t_vWi C hw (As := [.int za1, .int za2]) bX10_attacks k786 (k := 29) (q47 (nof_ge n) rfl) (sh_29 g cy _) rfl (c_X10_attacks (F := F) (X := X2) hfl (nof_ge n) hm1) rfl rfl dL_law_905 ⟨Nat.le_of_ble_eq_true rfl, Nat.le_of_ble_eq_true rfl⟩ hl.1 (Nat.le_of_ble_eq_true rfl) ⟨by show _ ≤ 601024; omega, by show _ ≤ 7293034; omega⟩ (fun H locs hw => ?_)
  refine lv_istore (lv' := [(6, .int R1.1), (5, .int (lkc R0.1 2)), (4, .int (Int32.ofNat (6 * t))), (0, .ref b), (1, .ref (g 0)), (2, .ref (g 29)), (3, .ref (g 46))]) hx hb dL_law_908 hl (by decide) rfl (fun ls hl => ?_)
  refine lv_aload_n hx hb dL_law_910 rfl (lv_at hl 5 rfl) ?_
  refine t_vRi (r0 := (lkc R0.1 2)) C hw (As := []) bX10_thrown k718 (k := 29) (q47 (nof_ge n) rfl) (sh_29 g cy _) rfl (c_X10_thrown (F := F) hfl (nof_ge n) (congrArg some hth)) rfl rfl dL_law_911 ⟨Nat.le_of_ble_eq_true rfl, Nat.le_of_ble_eq_true rfl⟩ hl.1 (Nat.le_of_ble_eq_true rfl) ⟨by show _ ≤ 601024; omega, by show _ ≤ 7293034; omega⟩ ?_
  refine lv_iload hx hb dL_law_914 (lv_at hl 1 rfl) ?_
  refine lv_icmp_eq (tgt := 921) hx hb dL_law_916 (by decide) (fun _ => ?_) (fun cz => absurd rfl cz)
  refine lv_iload hx hb dL_law_921 (lv_at hl 1 rfl) ?_
  refine lv_if_ne (tgt := 945) hx hb dL_law_923 (by decide) (fun cz => ?_) (fun cz => ?_)
  · skip
    refine lv_goto (tgt := 1447) hx hb dL_law_945 (by decide) ?_
    have hl := lv_sub hl [2, 3, 4, 5, 6] rfl
    exact W.widen (by omega) (by omega) (hk _ _ _ _ _ _ hS1 hw hl)
  · have ht0 := lkc_0 cz
    have hr0 := (h46 ht0).trans (heq ht0).symm
    refine lv_aload_n hx hb dL_law_926 rfl (lv_at hl 6 rfl) ?_
    refine lv_iconst (v := 0) hx hb dL_law_927 (by decide) ?_
    refine w_lald C hw (k := 46) (n := 1) (q47 (nof_ge n) rfl) rfl (show ¬ ((0 : Int32) < 0 ∨ 1 ≤ (0 : Int32).toNatClampNeg) by decide) dL_law_928 ?_
    refine lv_iload hx hb dL_law_929 (lv_at hl 0 rfl) ?_
    refine lv_if_eq (tgt := 938) hx hb dL_law_931 (by decide) (fun hb0 => ?_) (fun hb0 => ?_)
    · skip
      refine lv_lconst (v := 0) hx hb dL_law_938 (by decide) ?_
      refine W.lcmp hx hb dL_law_939 ?_
      refine lv_if_eq (tgt := 945) hx hb dL_law_940 (by decide) (fun _ => ?_) (fun cz => absurd (lw_lcmp ((congrArg Int32.toInt64 hr0).trans (by rw [hb0] <;> rfl))) cz)
      refine lv_goto (tgt := 1447) hx hb dL_law_945 (by decide) ?_
      have hl := lv_sub hl [2, 3, 4, 5, 6] rfl
      exact W.widen (by omega) (by omega) (hk _ _ _ _ _ _ hS1 hw hl)
    · skip
      refine lv_lconst (v := 1) hx hb dL_law_934 (by decide) ?_
      refine lv_goto (tgt := 939) hx hb dL_law_935 (by decide) ?_
      have hb1 : ¬ R1.1 = 0 → R1.1 = 1 := fun h9 => (by rw [heq ht0] at h9 ⊢; exact hz9.resolve_left h9)
      refine W.lcmp hx hb dL_law_939 ?_
      refine lv_if_eq (tgt := 945) hx hb dL_law_940 (by decide) (fun _ => ?_) (fun cz => absurd (lw_lcmp ((congrArg Int32.toInt64 hr0).trans (by rw [hb1 hb0] <;> rfl))) cz)
      refine lv_goto (tgt := 1447) hx hb dL_law_945 (by decide) ?_
      have hl := lv_sub hl [2, 3, 4, 5, 6] rfl
      exact W.widen (by omega) (by omega) (hk _ _ _ _ _ _ hS1 hw hl)
set_option maxHeartbeats 4000000 in
theorem law_label (hF : 20000 ≤ F) (ht : t < 513) (C : wCx p l s m args c meth code 7 RL D cy (fun q => s.heap.size ≤ q)) (hXs : va_X b L xs s s.heap) (hbl : b < s.heap.size) (hbA : ¬ s.heap.size ≤ b) {za1 : Int32} (hz1 : xs (Int32.ofNat (6 * t) + 1).toNatClampNeg = za1) (hin1 : vp_in (Int32.ofNat (6 * t) + 1) L) (hS : Sta F X n) (hw : Wd D (fun q => s.heap.size ≤ q) s.heap g (nof n) (shp g cy X) H locs) (hl : lv_has ls 7 [(4, .int (Int32.ofNat (6 * t))), (0, .ref b), (1, .ref (g 0)), (2, .ref (g 29)), (3, .ref (g 46))]) (hk : LawK p l e s m args below meth c Q D cy b F t) : W p l e room_1 s m args below meth c H locs (47 + 20 * t) (40000 + 100 * t) Q (F0 m 948 ls []) := by
  have hx := C.1
  have hb : c.code = cL_law := C.2.1
  have hfl := C.2.2.2.2.2.2.2.2
  refine lv_aload_n hx hb dL_law_948 rfl (lv_at hl 2 rfl) ?_
  refine lv_aload_n hx hb dL_law_949 rfl (lv_at hl 1 rfl) ?_
  refine lv_iload hx hb dL_law_950 (lv_at hl 0 rfl) ?_
  refine lv_iconst (v := 1) hx hb dL_law_952 (by decide) ?_
  refine lv_iadd hx hb dL_law_953 ?_
  refine va_sld hx hb hXs hbl hbA hw.2.2 hin1 dL_law_954 ?_
  rw [hz1]
  refine lv_aload_n hx hb dL_law_955 rfl (lv_at hl 4 rfl) ?_
  obtain ⟨R0, hm, hT, hX2⟩ := st_label hF hS za1
  refine t_sLi C hw (w_csL (n := 3) C k714 k671 k790 ⟨by decide, by decide⟩ (by decide +kernel) (by decide) k789 ⟨Nat.le_of_ble_eq_true rfl, Nat.le_of_ble_eq_true rfl⟩) (As := [.ref (g 0), .int za1, .ref (g 46)]) (c_L_label hfl (nof_ge n) (c_X9_label (X := X) hfl (rok_lst hS.lst) hm) hT) rfl rfl dL_law_956 hl.1 (Nat.le_of_ble_eq_true rfl) ⟨by show _ ≤ 601024; omega, by show _ ≤ 7293034; omega⟩ (fun H locs hw => ?_)
  obtain ⟨X2, hX2e⟩ : ∃ X2, X2 = lkX R0.1 R0.2.1 (up (up (up (up (up (up (up (up (up (up (up (up (up (up (up (up (up X 0 R0.2.2.1) 6 R0.2.2.2.1) 7 R0.2.2.2.2.1) 8 R0.2.2.2.2.2.1) 9 R0.2.2.2.2.2.2.1) 10 R0.2.2.2.2.2.2.2.1) 11 R0.2.2.2.2.2.2.2.2.1) 13 R0.2.2.2.2.2.2.2.2.2.1) 14 R0.2.2.2.2.2.2.2.2.2.2.1) 15 R0.2.2.2.2.2.2.2.2.2.2.2.1) 16 R0.2.2.2.2.2.2.2.2.2.2.2.2.1) 18 R0.2.2.2.2.2.2.2.2.2.2.2.2.2.1) 19 R0.2.2.2.2.2.2.2.2.2.2.2.2.2.2.1) 20 R0.2.2.2.2.2.2.2.2.2.2.2.2.2.2.2.1) 22 R0.2.2.2.2.2.2.2.2.2.2.2.2.2.2.2.2.1) 23 R0.2.2.2.2.2.2.2.2.2.2.2.2.2.2.2.2.2.1) 24 R0.2.2.2.2.2.2.2.2.2.2.2.2.2.2.2.2.2.2) := ⟨_, rfl⟩
  have hw : Wd D (fun q => s.heap.size ≤ q) s.heap g (nof n) (shp g cy X2) H locs := by rw [hX2e]; exact hw
  have h46 : R0.1 = 0 → X2 46 0 = R0.2.1 := fun h => by rw [hX2e]; exact lkX_46 h
  obtain ⟨R1, hm1, hth, heq, hS1⟩ := hX2 X2 (fun j hj => by rw [hX2e]; exact lkX_ne j hj)
  refine lv_istore (lv' := [(5, .int (lkc R0.1 2)), (4, .int (Int32.ofNat (6 * t))), (0, .ref b), (1, .ref (g 0)), (2, .ref (g 29)), (3, .ref (g 46))]) hx hb dL_law_959 hl (by decide) rfl (fun ls hl => ?_)
  refine lv_aload_n hx hb dL_law_961 rfl (lv_at hl 4 rfl) ?_
  refine lv_aload_n hx hb dL_law_962 rfl (lv_at hl 2 rfl) ?_
  refine lv_iload hx hb dL_law_963 (lv_at hl 1 rfl) ?_
  refine lv_iconst (v := 1) hx hb dL_law_965 (by decide) ?_
  refine lv_iadd hx hb dL_law_966 ?_
  refine va_sld hx hb hXs hbl hbA hw.2.2 hin1 dL_law_967 ?_
  rw [hz1]
  refine t_vWi C hw (As := [.int za1]) bX10_label k791 (k := 29) (q47 (nof_ge n) rfl) (sh_29 g cy _) rfl (c_X10_label (F := F) (X := X2) hfl (nof_ge n) hm1) rfl rfl dL_law_968 ⟨Nat.le_of_ble_eq_true rfl, Nat.le_of_ble_eq_true rfl⟩ hl.1 (Nat.le_of_ble_eq_true rfl) ⟨by show _ ≤ 601024; omega, by show _ ≤ 7293034; omega⟩ (fun H locs hw => ?_)
  refine lv_istore (lv' := [(6, .int R1.1), (5, .int (lkc R0.1 2)), (4, .int (Int32.ofNat (6 * t))), (0, .ref b), (1, .ref (g 0)), (2, .ref (g 29)), (3, .ref (g 46))]) hx hb dL_law_971 hl (by decide) rfl (fun ls hl => ?_)
  refine lv_aload_n hx hb dL_law_973 rfl (lv_at hl 5 rfl) ?_
  refine t_vRi (r0 := (lkc R0.1 2)) C hw (As := []) bX10_thrown k718 (k := 29) (q47 (nof_ge n) rfl) (sh_29 g cy _) rfl (c_X10_thrown (F := F) hfl (nof_ge n) (congrArg some hth)) rfl rfl dL_law_974 ⟨Nat.le_of_ble_eq_true rfl, Nat.le_of_ble_eq_true rfl⟩ hl.1 (Nat.le_of_ble_eq_true rfl) ⟨by show _ ≤ 601024; omega, by show _ ≤ 7293034; omega⟩ ?_
  refine lv_iload hx hb dL_law_977 (lv_at hl 1 rfl) ?_
  refine lv_icmp_eq (tgt := 984) hx hb dL_law_979 (by decide) (fun _ => ?_) (fun cz => absurd rfl cz)
  refine lv_iload hx hb dL_law_984 (lv_at hl 1 rfl) ?_
  refine lv_if_ne (tgt := 1001) hx hb dL_law_986 (by decide) (fun cz => ?_) (fun cz => ?_)
  · skip
    refine lv_goto (tgt := 1447) hx hb dL_law_1001 (by decide) ?_
    have hl := lv_sub hl [2, 3, 4, 5, 6] rfl
    exact W.widen (by omega) (by omega) (hk _ _ _ _ _ _ hS1 hw hl)
  · have ht0 := lkc_0 cz
    have hr0 := (h46 ht0).trans (heq ht0).symm
    refine lv_aload_n hx hb dL_law_989 rfl (lv_at hl 6 rfl) ?_
    refine lv_iconst (v := 0) hx hb dL_law_990 (by decide) ?_
    refine w_lald C hw (k := 46) (n := 1) (q47 (nof_ge n) rfl) rfl (show ¬ ((0 : Int32) < 0 ∨ 1 ≤ (0 : Int32).toNatClampNeg) by decide) dL_law_991 ?_
    refine lv_iload hx hb dL_law_992 (lv_at hl 0 rfl) ?_
    refine lv_i2l (v := R1.1.toInt64) hx hb dL_law_994 rfl ?_
    refine W.lcmp hx hb dL_law_995 ?_
    refine lv_if_eq (tgt := 1001) hx hb dL_law_996 (by decide) (fun _ => ?_) (fun cz => absurd (lw_lcmp (congrArg Int32.toInt64 hr0)) cz)
    refine lv_goto (tgt := 1447) hx hb dL_law_1001 (by decide) ?_
    have hl := lv_sub hl [2, 3, 4, 5, 6] rfl
    exact W.widen (by omega) (by omega) (hk _ _ _ _ _ _ hS1 hw hl)
set_option maxHeartbeats 4000000 in
theorem law_round (hF : 20000 ≤ F) (ht : t < 513) (C : wCx p l s m args c meth code 7 RL D cy (fun q => s.heap.size ≤ q)) (hXs : va_X b L xs s s.heap) (hbl : b < s.heap.size) (hbA : ¬ s.heap.size ≤ b) {za1 : Int32} (hz1 : xs (Int32.ofNat (6 * t) + 1).toNatClampNeg = za1) (hin1 : vp_in (Int32.ofNat (6 * t) + 1) L) (hS : Sta F X n) (hw : Wd D (fun q => s.heap.size ≤ q) s.heap g (nof n) (shp g cy X) H locs) (hl : lv_has ls 7 [(4, .int (Int32.ofNat (6 * t))), (0, .ref b), (1, .ref (g 0)), (2, .ref (g 29)), (3, .ref (g 46))]) (hk : LawK p l e s m args below meth c Q D cy b F t) : W p l e room_1 s m args below meth c H locs (47 + 20 * t) (40000 + 100 * t) Q (F0 m 1004 ls []) := by
  have hx := C.1
  have hb : c.code = cL_law := C.2.1
  have hfl := C.2.2.2.2.2.2.2.2
  refine lv_aload_n hx hb dL_law_1004 rfl (lv_at hl 2 rfl) ?_
  refine lv_aload_n hx hb dL_law_1005 rfl (lv_at hl 1 rfl) ?_
  refine lv_iload hx hb dL_law_1006 (lv_at hl 0 rfl) ?_
  refine lv_iconst (v := 1) hx hb dL_law_1008 (by decide) ?_
  refine lv_iadd hx hb dL_law_1009 ?_
  refine va_sld hx hb hXs hbl hbA hw.2.2 hin1 dL_law_1010 ?_
  rw [hz1]
  refine lv_aload_n hx hb dL_law_1011 rfl (lv_at hl 4 rfl) ?_
  obtain ⟨R0, hm, hT, hX2⟩ := st_round hF hS za1
  refine t_sLi C hw (w_csL (n := 3) C k714 k675 k795 ⟨by decide, by decide⟩ (by decide +kernel) (by decide) k794 ⟨Nat.le_of_ble_eq_true rfl, Nat.le_of_ble_eq_true rfl⟩) (As := [.ref (g 0), .int za1, .ref (g 46)]) (c_L_round hfl (nof_ge n) (c_X9_round (X := X) hfl (rok_lst hS.lst) hm) hT) rfl rfl dL_law_1012 hl.1 (Nat.le_of_ble_eq_true rfl) ⟨by show _ ≤ 601024; omega, by show _ ≤ 7293034; omega⟩ (fun H locs hw => ?_)
  obtain ⟨X2, hX2e⟩ : ∃ X2, X2 = lkX R0.1 R0.2.1 (up (up (up (up (up (up (up (up (up (up (up (up (up (up (up (up (up X 0 R0.2.2.1) 6 R0.2.2.2.1) 7 R0.2.2.2.2.1) 8 R0.2.2.2.2.2.1) 9 R0.2.2.2.2.2.2.1) 10 R0.2.2.2.2.2.2.2.1) 11 R0.2.2.2.2.2.2.2.2.1) 13 R0.2.2.2.2.2.2.2.2.2.1) 14 R0.2.2.2.2.2.2.2.2.2.2.1) 15 R0.2.2.2.2.2.2.2.2.2.2.2.1) 16 R0.2.2.2.2.2.2.2.2.2.2.2.2.1) 18 R0.2.2.2.2.2.2.2.2.2.2.2.2.2.1) 19 R0.2.2.2.2.2.2.2.2.2.2.2.2.2.2.1) 20 R0.2.2.2.2.2.2.2.2.2.2.2.2.2.2.2.1) 22 R0.2.2.2.2.2.2.2.2.2.2.2.2.2.2.2.2.1) 23 R0.2.2.2.2.2.2.2.2.2.2.2.2.2.2.2.2.2.1) 24 R0.2.2.2.2.2.2.2.2.2.2.2.2.2.2.2.2.2.2) := ⟨_, rfl⟩
  have hw : Wd D (fun q => s.heap.size ≤ q) s.heap g (nof n) (shp g cy X2) H locs := by rw [hX2e]; exact hw
  have h46 : R0.1 = 0 → X2 46 0 = R0.2.1 := fun h => by rw [hX2e]; exact lkX_46 h
  obtain ⟨R1, hm1, hth, heq, hS1⟩ := hX2 X2 (fun j hj => by rw [hX2e]; exact lkX_ne j hj)
  refine lv_istore (lv' := [(5, .int (lkc R0.1 2)), (4, .int (Int32.ofNat (6 * t))), (0, .ref b), (1, .ref (g 0)), (2, .ref (g 29)), (3, .ref (g 46))]) hx hb dL_law_1015 hl (by decide) rfl (fun ls hl => ?_)
  refine lv_aload_n hx hb dL_law_1017 rfl (lv_at hl 4 rfl) ?_
  refine lv_aload_n hx hb dL_law_1018 rfl (lv_at hl 2 rfl) ?_
  refine lv_iload hx hb dL_law_1019 (lv_at hl 1 rfl) ?_
  refine lv_iconst (v := 1) hx hb dL_law_1021 (by decide) ?_
  refine lv_iadd hx hb dL_law_1022 ?_
  refine va_sld hx hb hXs hbl hbA hw.2.2 hin1 dL_law_1023 ?_
  rw [hz1]
  refine t_vWi C hw (As := [.int za1]) bX10_round k796 (k := 29) (q47 (nof_ge n) rfl) (sh_29 g cy _) rfl (c_X10_round (F := F) (X := X2) hfl (nof_ge n) hm1) rfl rfl dL_law_1024 ⟨Nat.le_of_ble_eq_true rfl, Nat.le_of_ble_eq_true rfl⟩ hl.1 (Nat.le_of_ble_eq_true rfl) ⟨by show _ ≤ 601024; omega, by show _ ≤ 7293034; omega⟩ (fun H locs hw => ?_)
  refine lv_istore (lv' := [(6, .int R1.1), (5, .int (lkc R0.1 2)), (4, .int (Int32.ofNat (6 * t))), (0, .ref b), (1, .ref (g 0)), (2, .ref (g 29)), (3, .ref (g 46))]) hx hb dL_law_1027 hl (by decide) rfl (fun ls hl => ?_)
  refine lv_aload_n hx hb dL_law_1029 rfl (lv_at hl 5 rfl) ?_
  refine t_vRi (r0 := (lkc R0.1 2)) C hw (As := []) bX10_thrown k718 (k := 29) (q47 (nof_ge n) rfl) (sh_29 g cy _) rfl (c_X10_thrown (F := F) hfl (nof_ge n) (congrArg some hth)) rfl rfl dL_law_1030 ⟨Nat.le_of_ble_eq_true rfl, Nat.le_of_ble_eq_true rfl⟩ hl.1 (Nat.le_of_ble_eq_true rfl) ⟨by show _ ≤ 601024; omega, by show _ ≤ 7293034; omega⟩ ?_
  refine lv_iload hx hb dL_law_1033 (lv_at hl 1 rfl) ?_
  refine lv_icmp_eq (tgt := 1040) hx hb dL_law_1035 (by decide) (fun _ => ?_) (fun cz => absurd rfl cz)
  refine lv_iload hx hb dL_law_1040 (lv_at hl 1 rfl) ?_
  refine lv_if_ne (tgt := 1057) hx hb dL_law_1042 (by decide) (fun cz => ?_) (fun cz => ?_)
  · skip
    refine lv_goto (tgt := 1447) hx hb dL_law_1057 (by decide) ?_
    have hl := lv_sub hl [2, 3, 4, 5, 6] rfl
    exact W.widen (by omega) (by omega) (hk _ _ _ _ _ _ hS1 hw hl)
  · have ht0 := lkc_0 cz
    have hr0 := (h46 ht0).trans (heq ht0).symm
    refine lv_aload_n hx hb dL_law_1045 rfl (lv_at hl 6 rfl) ?_
    refine lv_iconst (v := 0) hx hb dL_law_1046 (by decide) ?_
    refine w_lald C hw (k := 46) (n := 1) (q47 (nof_ge n) rfl) rfl (show ¬ ((0 : Int32) < 0 ∨ 1 ≤ (0 : Int32).toNatClampNeg) by decide) dL_law_1047 ?_
    refine lv_iload hx hb dL_law_1048 (lv_at hl 0 rfl) ?_
    refine lv_i2l (v := R1.1.toInt64) hx hb dL_law_1050 rfl ?_
    refine W.lcmp hx hb dL_law_1051 ?_
    refine lv_if_eq (tgt := 1057) hx hb dL_law_1052 (by decide) (fun _ => ?_) (fun cz => absurd (lw_lcmp (congrArg Int32.toInt64 hr0)) cz)
    refine lv_goto (tgt := 1447) hx hb dL_law_1057 (by decide) ?_
    have hl := lv_sub hl [2, 3, 4, 5, 6] rfl
    exact W.widen (by omega) (by omega) (hk _ _ _ _ _ _ hS1 hw hl)
set_option maxHeartbeats 4000000 in
theorem law_holds (hF : 20000 ≤ F) (ht : t < 513) (C : wCx p l s m args c meth code 7 RL D cy (fun q => s.heap.size ≤ q)) (hXs : va_X b L xs s s.heap) (hbl : b < s.heap.size) (hbA : ¬ s.heap.size ≤ b) {za1 : Int32} (hz1 : xs (Int32.ofNat (6 * t) + 1).toNatClampNeg = za1) (hin1 : vp_in (Int32.ofNat (6 * t) + 1) L) (hS : Sta F X n) (hw : Wd D (fun q => s.heap.size ≤ q) s.heap g (nof n) (shp g cy X) H locs) (hl : lv_has ls 7 [(4, .int (Int32.ofNat (6 * t))), (0, .ref b), (1, .ref (g 0)), (2, .ref (g 29)), (3, .ref (g 46))]) (hk : LawK p l e s m args below meth c Q D cy b F t) : W p l e room_1 s m args below meth c H locs (47 + 20 * t) (40000 + 100 * t) Q (F0 m 1060 ls []) := by
  have hx := C.1
  have hb : c.code = cL_law := C.2.1
  have hfl := C.2.2.2.2.2.2.2.2
  refine lv_aload_n hx hb dL_law_1060 rfl (lv_at hl 2 rfl) ?_
  refine lv_aload_n hx hb dL_law_1061 rfl (lv_at hl 1 rfl) ?_
  refine lv_iload hx hb dL_law_1062 (lv_at hl 0 rfl) ?_
  refine lv_iconst (v := 1) hx hb dL_law_1064 (by decide) ?_
  refine lv_iadd hx hb dL_law_1065 ?_
  refine va_sld hx hb hXs hbl hbA hw.2.2 hin1 dL_law_1066 ?_
  rw [hz1]
  refine lv_aload_n hx hb dL_law_1067 rfl (lv_at hl 4 rfl) ?_
  obtain ⟨R0, hm, hT, hX2⟩ := st_holds hF hS za1
  refine t_sLi C hw (w_csL (n := 3) C k714 k679 k800 ⟨by decide, by decide⟩ (by decide +kernel) (by decide) k799 ⟨Nat.le_of_ble_eq_true rfl, Nat.le_of_ble_eq_true rfl⟩) (As := [.ref (g 0), .int za1, .ref (g 46)]) (c_L_holds hfl (nof_ge n) (c_X9_holds (X := X) hfl (rok_lst hS.lst) hm) hT) rfl rfl dL_law_1068 hl.1 (Nat.le_of_ble_eq_true rfl) ⟨by show _ ≤ 601024; omega, by show _ ≤ 7293034; omega⟩ (fun H locs hw => ?_)
  obtain ⟨X2, hX2e⟩ : ∃ X2, X2 = lkX R0.1 R0.2.1 (up (up (up (up (up (up (up (up (up (up (up (up (up (up (up (up (up X 0 R0.2.2.1) 6 R0.2.2.2.1) 7 R0.2.2.2.2.1) 8 R0.2.2.2.2.2.1) 9 R0.2.2.2.2.2.2.1) 10 R0.2.2.2.2.2.2.2.1) 11 R0.2.2.2.2.2.2.2.2.1) 13 R0.2.2.2.2.2.2.2.2.2.1) 14 R0.2.2.2.2.2.2.2.2.2.2.1) 15 R0.2.2.2.2.2.2.2.2.2.2.2.1) 16 R0.2.2.2.2.2.2.2.2.2.2.2.2.1) 18 R0.2.2.2.2.2.2.2.2.2.2.2.2.2.1) 19 R0.2.2.2.2.2.2.2.2.2.2.2.2.2.2.1) 20 R0.2.2.2.2.2.2.2.2.2.2.2.2.2.2.2.1) 22 R0.2.2.2.2.2.2.2.2.2.2.2.2.2.2.2.2.1) 23 R0.2.2.2.2.2.2.2.2.2.2.2.2.2.2.2.2.2.1) 24 R0.2.2.2.2.2.2.2.2.2.2.2.2.2.2.2.2.2.2) := ⟨_, rfl⟩
  have hw : Wd D (fun q => s.heap.size ≤ q) s.heap g (nof n) (shp g cy X2) H locs := by rw [hX2e]; exact hw
  have h46 : R0.1 = 0 → X2 46 0 = R0.2.1 := fun h => by rw [hX2e]; exact lkX_46 h
  obtain ⟨R1, hm1, hth, heq, hS1⟩ := hX2 X2 (fun j hj => by rw [hX2e]; exact lkX_ne j hj)
  refine lv_istore (lv' := [(5, .int (lkc R0.1 1)), (4, .int (Int32.ofNat (6 * t))), (0, .ref b), (1, .ref (g 0)), (2, .ref (g 29)), (3, .ref (g 46))]) hx hb dL_law_1071 hl (by decide) rfl (fun ls hl => ?_)
  refine lv_aload_n hx hb dL_law_1073 rfl (lv_at hl 4 rfl) ?_
  refine lv_aload_n hx hb dL_law_1074 rfl (lv_at hl 2 rfl) ?_
  refine lv_iload hx hb dL_law_1075 (lv_at hl 1 rfl) ?_
  refine lv_iconst (v := 1) hx hb dL_law_1077 (by decide) ?_
  refine lv_iadd hx hb dL_law_1078 ?_
  refine va_sld hx hb hXs hbl hbA hw.2.2 hin1 dL_law_1079 ?_
  rw [hz1]
  refine t_vWi C hw (As := [.int za1]) bX10_holds k801 (k := 29) (q47 (nof_ge n) rfl) (sh_29 g cy _) rfl (c_X10_holds (F := F) (X := X2) hfl (nof_ge n) hm1) rfl rfl dL_law_1080 ⟨Nat.le_of_ble_eq_true rfl, Nat.le_of_ble_eq_true rfl⟩ hl.1 (Nat.le_of_ble_eq_true rfl) ⟨by show _ ≤ 601024; omega, by show _ ≤ 7293034; omega⟩ (fun H locs hw => ?_)
  refine lv_istore (lv' := [(6, .int R1.1), (5, .int (lkc R0.1 1)), (4, .int (Int32.ofNat (6 * t))), (0, .ref b), (1, .ref (g 0)), (2, .ref (g 29)), (3, .ref (g 46))]) hx hb dL_law_1083 hl (by decide) rfl (fun ls hl => ?_)
  refine lv_aload_n hx hb dL_law_1085 rfl (lv_at hl 5 rfl) ?_
  refine t_vRi (r0 := (lkc R0.1 1)) C hw (As := []) bX10_thrown k718 (k := 29) (q47 (nof_ge n) rfl) (sh_29 g cy _) rfl (c_X10_thrown (F := F) hfl (nof_ge n) (congrArg some hth)) rfl rfl dL_law_1086 ⟨Nat.le_of_ble_eq_true rfl, Nat.le_of_ble_eq_true rfl⟩ hl.1 (Nat.le_of_ble_eq_true rfl) ⟨by show _ ≤ 601024; omega, by show _ ≤ 7293034; omega⟩ ?_
  refine lv_iload hx hb dL_law_1089 (lv_at hl 1 rfl) ?_
  refine lv_icmp_eq (tgt := 1096) hx hb dL_law_1091 (by decide) (fun _ => ?_) (fun cz => absurd rfl cz)
  refine lv_iload hx hb dL_law_1096 (lv_at hl 1 rfl) ?_
  refine lv_if_ne (tgt := 1113) hx hb dL_law_1098 (by decide) (fun cz => ?_) (fun cz => ?_)
  · skip
    refine lv_goto (tgt := 1447) hx hb dL_law_1113 (by decide) ?_
    have hl := lv_sub hl [2, 3, 4, 5, 6] rfl
    exact W.widen (by omega) (by omega) (hk _ _ _ _ _ _ hS1 hw hl)
  · have ht0 := lkc_0 cz
    have hr0 := (h46 ht0).trans (heq ht0).symm
    refine lv_aload_n hx hb dL_law_1101 rfl (lv_at hl 6 rfl) ?_
    refine lv_iconst (v := 0) hx hb dL_law_1102 (by decide) ?_
    refine w_lald C hw (k := 46) (n := 1) (q47 (nof_ge n) rfl) rfl (show ¬ ((0 : Int32) < 0 ∨ 1 ≤ (0 : Int32).toNatClampNeg) by decide) dL_law_1103 ?_
    refine lv_iload hx hb dL_law_1104 (lv_at hl 0 rfl) ?_
    refine lv_i2l (v := R1.1.toInt64) hx hb dL_law_1106 rfl ?_
    refine W.lcmp hx hb dL_law_1107 ?_
    refine lv_if_eq (tgt := 1113) hx hb dL_law_1108 (by decide) (fun _ => ?_) (fun cz => absurd (lw_lcmp (congrArg Int32.toInt64 hr0)) cz)
    refine lv_goto (tgt := 1447) hx hb dL_law_1113 (by decide) ?_
    have hl := lv_sub hl [2, 3, 4, 5, 6] rfl
    exact W.widen (by omega) (by omega) (hk _ _ _ _ _ _ hS1 hw hl)
set_option maxHeartbeats 4000000 in
theorem law_reasonFor (hF : 20000 ≤ F) (ht : t < 513) (C : wCx p l s m args c meth code 7 RL D cy (fun q => s.heap.size ≤ q)) (hXs : va_X b L xs s s.heap) (hbl : b < s.heap.size) (hbA : ¬ s.heap.size ≤ b) {za1 : Int32} (hz1 : xs (Int32.ofNat (6 * t) + 1).toNatClampNeg = za1) (hin1 : vp_in (Int32.ofNat (6 * t) + 1) L) (hS : Sta F X n) (hw : Wd D (fun q => s.heap.size ≤ q) s.heap g (nof n) (shp g cy X) H locs) (hl : lv_has ls 7 [(4, .int (Int32.ofNat (6 * t))), (0, .ref b), (1, .ref (g 0)), (2, .ref (g 29)), (3, .ref (g 46))]) (hk : LawK p l e s m args below meth c Q D cy b F t) : W p l e room_1 s m args below meth c H locs (47 + 20 * t) (40000 + 100 * t) Q (F0 m 1116 ls []) := by
  have hx := C.1
  have hb : c.code = cL_law := C.2.1
  have hfl := C.2.2.2.2.2.2.2.2
  refine lv_aload_n hx hb dL_law_1116 rfl (lv_at hl 2 rfl) ?_
  refine lv_aload_n hx hb dL_law_1117 rfl (lv_at hl 1 rfl) ?_
  refine lv_iload hx hb dL_law_1118 (lv_at hl 0 rfl) ?_
  refine lv_iconst (v := 1) hx hb dL_law_1120 (by decide) ?_
  refine lv_iadd hx hb dL_law_1121 ?_
  refine va_sld hx hb hXs hbl hbA hw.2.2 hin1 dL_law_1122 ?_
  rw [hz1]
  refine lv_aload_n hx hb dL_law_1123 rfl (lv_at hl 4 rfl) ?_
  obtain ⟨R0, hm, hT, hX2⟩ := st_reasonFor hF hS za1
  refine t_sLi C hw (w_csL (n := 3) C k714 k683 k805 ⟨by decide, by decide⟩ (by decide +kernel) (by decide) k804 ⟨Nat.le_of_ble_eq_true rfl, Nat.le_of_ble_eq_true rfl⟩) (As := [.ref (g 0), .int za1, .ref (g 46)]) (c_L_reasonFor hfl (nof_ge n) (c_X9_reasonFor (X := X) hfl (rok_lst hS.lst) hm) hT) rfl rfl dL_law_1124 hl.1 (Nat.le_of_ble_eq_true rfl) ⟨by show _ ≤ 601024; omega, by show _ ≤ 7293034; omega⟩ (fun H locs hw => ?_)
  obtain ⟨X2, hX2e⟩ : ∃ X2, X2 = lkX R0.1 R0.2.1 (up (up (up (up (up (up (up (up (up (up (up (up (up (up (up (up (up X 0 R0.2.2.1) 6 R0.2.2.2.1) 7 R0.2.2.2.2.1) 8 R0.2.2.2.2.2.1) 9 R0.2.2.2.2.2.2.1) 10 R0.2.2.2.2.2.2.2.1) 11 R0.2.2.2.2.2.2.2.2.1) 13 R0.2.2.2.2.2.2.2.2.2.1) 14 R0.2.2.2.2.2.2.2.2.2.2.1) 15 R0.2.2.2.2.2.2.2.2.2.2.2.1) 16 R0.2.2.2.2.2.2.2.2.2.2.2.2.1) 18 R0.2.2.2.2.2.2.2.2.2.2.2.2.2.1) 19 R0.2.2.2.2.2.2.2.2.2.2.2.2.2.2.1) 20 R0.2.2.2.2.2.2.2.2.2.2.2.2.2.2.2.1) 22 R0.2.2.2.2.2.2.2.2.2.2.2.2.2.2.2.2.1) 23 R0.2.2.2.2.2.2.2.2.2.2.2.2.2.2.2.2.2.1) 24 R0.2.2.2.2.2.2.2.2.2.2.2.2.2.2.2.2.2.2) := ⟨_, rfl⟩
  have hw : Wd D (fun q => s.heap.size ≤ q) s.heap g (nof n) (shp g cy X2) H locs := by rw [hX2e]; exact hw
  have h46 : R0.1 = 0 → X2 46 0 = R0.2.1 := fun h => by rw [hX2e]; exact lkX_46 h
  obtain ⟨R1, hm1, hth, heq, hS1⟩ := hX2 X2 (fun j hj => by rw [hX2e]; exact lkX_ne j hj)
  refine lv_istore (lv' := [(5, .int (lkc R0.1 1)), (4, .int (Int32.ofNat (6 * t))), (0, .ref b), (1, .ref (g 0)), (2, .ref (g 29)), (3, .ref (g 46))]) hx hb dL_law_1127 hl (by decide) rfl (fun ls hl => ?_)
  refine lv_aload_n hx hb dL_law_1129 rfl (lv_at hl 4 rfl) ?_
  refine lv_aload_n hx hb dL_law_1130 rfl (lv_at hl 2 rfl) ?_
  refine lv_iload hx hb dL_law_1131 (lv_at hl 1 rfl) ?_
  refine lv_iconst (v := 1) hx hb dL_law_1133 (by decide) ?_
  refine lv_iadd hx hb dL_law_1134 ?_
  refine va_sld hx hb hXs hbl hbA hw.2.2 hin1 dL_law_1135 ?_
  rw [hz1]
  refine t_vWi C hw (As := [.int za1]) bX10_reasonFor k806 (k := 29) (q47 (nof_ge n) rfl) (sh_29 g cy _) rfl (c_X10_reasonFor (F := F) (X := X2) hfl (nof_ge n) hm1) rfl rfl dL_law_1136 ⟨Nat.le_of_ble_eq_true rfl, Nat.le_of_ble_eq_true rfl⟩ hl.1 (Nat.le_of_ble_eq_true rfl) ⟨by show _ ≤ 601024; omega, by show _ ≤ 7293034; omega⟩ (fun H locs hw => ?_)
  refine lv_istore (lv' := [(6, .int R1.1), (5, .int (lkc R0.1 1)), (4, .int (Int32.ofNat (6 * t))), (0, .ref b), (1, .ref (g 0)), (2, .ref (g 29)), (3, .ref (g 46))]) hx hb dL_law_1139 hl (by decide) rfl (fun ls hl => ?_)
  refine lv_aload_n hx hb dL_law_1141 rfl (lv_at hl 5 rfl) ?_
  refine t_vRi (r0 := (lkc R0.1 1)) C hw (As := []) bX10_thrown k718 (k := 29) (q47 (nof_ge n) rfl) (sh_29 g cy _) rfl (c_X10_thrown (F := F) hfl (nof_ge n) (congrArg some hth)) rfl rfl dL_law_1142 ⟨Nat.le_of_ble_eq_true rfl, Nat.le_of_ble_eq_true rfl⟩ hl.1 (Nat.le_of_ble_eq_true rfl) ⟨by show _ ≤ 601024; omega, by show _ ≤ 7293034; omega⟩ ?_
  refine lv_iload hx hb dL_law_1145 (lv_at hl 1 rfl) ?_
  refine lv_icmp_eq (tgt := 1152) hx hb dL_law_1147 (by decide) (fun _ => ?_) (fun cz => absurd rfl cz)
  refine lv_iload hx hb dL_law_1152 (lv_at hl 1 rfl) ?_
  refine lv_if_ne (tgt := 1169) hx hb dL_law_1154 (by decide) (fun cz => ?_) (fun cz => ?_)
  · skip
    refine lv_goto (tgt := 1447) hx hb dL_law_1169 (by decide) ?_
    have hl := lv_sub hl [2, 3, 4, 5, 6] rfl
    exact W.widen (by omega) (by omega) (hk _ _ _ _ _ _ hS1 hw hl)
  · have ht0 := lkc_0 cz
    have hr0 := (h46 ht0).trans (heq ht0).symm
    refine lv_aload_n hx hb dL_law_1157 rfl (lv_at hl 6 rfl) ?_
    refine lv_iconst (v := 0) hx hb dL_law_1158 (by decide) ?_
    refine w_lald C hw (k := 46) (n := 1) (q47 (nof_ge n) rfl) rfl (show ¬ ((0 : Int32) < 0 ∨ 1 ≤ (0 : Int32).toNatClampNeg) by decide) dL_law_1159 ?_
    refine lv_iload hx hb dL_law_1160 (lv_at hl 0 rfl) ?_
    refine lv_i2l (v := R1.1.toInt64) hx hb dL_law_1162 rfl ?_
    refine W.lcmp hx hb dL_law_1163 ?_
    refine lv_if_eq (tgt := 1169) hx hb dL_law_1164 (by decide) (fun _ => ?_) (fun cz => absurd (lw_lcmp (congrArg Int32.toInt64 hr0)) cz)
    refine lv_goto (tgt := 1447) hx hb dL_law_1169 (by decide) ?_
    have hl := lv_sub hl [2, 3, 4, 5, 6] rfl
    exact W.widen (by omega) (by omega) (hk _ _ _ _ _ _ hS1 hw hl)
set_option maxHeartbeats 4000000 in
theorem law_reasonAgainst (hF : 20000 ≤ F) (ht : t < 513) (C : wCx p l s m args c meth code 7 RL D cy (fun q => s.heap.size ≤ q)) (hXs : va_X b L xs s s.heap) (hbl : b < s.heap.size) (hbA : ¬ s.heap.size ≤ b) {za1 : Int32} (hz1 : xs (Int32.ofNat (6 * t) + 1).toNatClampNeg = za1) (hin1 : vp_in (Int32.ofNat (6 * t) + 1) L) (hS : Sta F X n) (hw : Wd D (fun q => s.heap.size ≤ q) s.heap g (nof n) (shp g cy X) H locs) (hl : lv_has ls 7 [(4, .int (Int32.ofNat (6 * t))), (0, .ref b), (1, .ref (g 0)), (2, .ref (g 29)), (3, .ref (g 46))]) (hk : LawK p l e s m args below meth c Q D cy b F t) : W p l e room_1 s m args below meth c H locs (47 + 20 * t) (40000 + 100 * t) Q (F0 m 1172 ls []) := by
  have hx := C.1
  have hb : c.code = cL_law := C.2.1
  have hfl := C.2.2.2.2.2.2.2.2
  refine lv_aload_n hx hb dL_law_1172 rfl (lv_at hl 2 rfl) ?_
  refine lv_aload_n hx hb dL_law_1173 rfl (lv_at hl 1 rfl) ?_
  refine lv_iload hx hb dL_law_1174 (lv_at hl 0 rfl) ?_
  refine lv_iconst (v := 1) hx hb dL_law_1176 (by decide) ?_
  refine lv_iadd hx hb dL_law_1177 ?_
  refine va_sld hx hb hXs hbl hbA hw.2.2 hin1 dL_law_1178 ?_
  rw [hz1]
  refine lv_aload_n hx hb dL_law_1179 rfl (lv_at hl 4 rfl) ?_
  obtain ⟨R0, hm, hT, hX2⟩ := st_reasonAgainst hF hS za1
  refine t_sLi C hw (w_csL (n := 3) C k714 k687 k810 ⟨by decide, by decide⟩ (by decide +kernel) (by decide) k809 ⟨Nat.le_of_ble_eq_true rfl, Nat.le_of_ble_eq_true rfl⟩) (As := [.ref (g 0), .int za1, .ref (g 46)]) (c_L_reasonAgainst hfl (nof_ge n) (c_X9_reasonAgainst (X := X) hfl (rok_lst hS.lst) hm) hT) rfl rfl dL_law_1180 hl.1 (Nat.le_of_ble_eq_true rfl) ⟨by show _ ≤ 601024; omega, by show _ ≤ 7293034; omega⟩ (fun H locs hw => ?_)
  obtain ⟨X2, hX2e⟩ : ∃ X2, X2 = lkX R0.1 R0.2.1 (up (up (up (up (up (up (up (up (up (up (up (up (up (up (up (up (up X 0 R0.2.2.1) 6 R0.2.2.2.1) 7 R0.2.2.2.2.1) 8 R0.2.2.2.2.2.1) 9 R0.2.2.2.2.2.2.1) 10 R0.2.2.2.2.2.2.2.1) 11 R0.2.2.2.2.2.2.2.2.1) 13 R0.2.2.2.2.2.2.2.2.2.1) 14 R0.2.2.2.2.2.2.2.2.2.2.1) 15 R0.2.2.2.2.2.2.2.2.2.2.2.1) 16 R0.2.2.2.2.2.2.2.2.2.2.2.2.1) 18 R0.2.2.2.2.2.2.2.2.2.2.2.2.2.1) 19 R0.2.2.2.2.2.2.2.2.2.2.2.2.2.2.1) 20 R0.2.2.2.2.2.2.2.2.2.2.2.2.2.2.2.1) 22 R0.2.2.2.2.2.2.2.2.2.2.2.2.2.2.2.2.1) 23 R0.2.2.2.2.2.2.2.2.2.2.2.2.2.2.2.2.2.1) 24 R0.2.2.2.2.2.2.2.2.2.2.2.2.2.2.2.2.2.2) := ⟨_, rfl⟩
  have hw : Wd D (fun q => s.heap.size ≤ q) s.heap g (nof n) (shp g cy X2) H locs := by rw [hX2e]; exact hw
  have h46 : R0.1 = 0 → X2 46 0 = R0.2.1 := fun h => by rw [hX2e]; exact lkX_46 h
  obtain ⟨R1, hm1, hth, heq, hS1⟩ := hX2 X2 (fun j hj => by rw [hX2e]; exact lkX_ne j hj)
  refine lv_istore (lv' := [(5, .int (lkc R0.1 2)), (4, .int (Int32.ofNat (6 * t))), (0, .ref b), (1, .ref (g 0)), (2, .ref (g 29)), (3, .ref (g 46))]) hx hb dL_law_1183 hl (by decide) rfl (fun ls hl => ?_)
  refine lv_aload_n hx hb dL_law_1185 rfl (lv_at hl 4 rfl) ?_
  refine lv_aload_n hx hb dL_law_1186 rfl (lv_at hl 2 rfl) ?_
  refine lv_iload hx hb dL_law_1187 (lv_at hl 1 rfl) ?_
  refine lv_iconst (v := 1) hx hb dL_law_1189 (by decide) ?_
  refine lv_iadd hx hb dL_law_1190 ?_
  refine va_sld hx hb hXs hbl hbA hw.2.2 hin1 dL_law_1191 ?_
  rw [hz1]
  refine t_vWi C hw (As := [.int za1]) bX10_reasonAgainst k811 (k := 29) (q47 (nof_ge n) rfl) (sh_29 g cy _) rfl (c_X10_reasonAgainst (F := F) (X := X2) hfl (nof_ge n) hm1) rfl rfl dL_law_1192 ⟨Nat.le_of_ble_eq_true rfl, Nat.le_of_ble_eq_true rfl⟩ hl.1 (Nat.le_of_ble_eq_true rfl) ⟨by show _ ≤ 601024; omega, by show _ ≤ 7293034; omega⟩ (fun H locs hw => ?_)
  refine lv_istore (lv' := [(6, .int R1.1), (5, .int (lkc R0.1 2)), (4, .int (Int32.ofNat (6 * t))), (0, .ref b), (1, .ref (g 0)), (2, .ref (g 29)), (3, .ref (g 46))]) hx hb dL_law_1195 hl (by decide) rfl (fun ls hl => ?_)
  refine lv_aload_n hx hb dL_law_1197 rfl (lv_at hl 5 rfl) ?_
  refine t_vRi (r0 := (lkc R0.1 2)) C hw (As := []) bX10_thrown k718 (k := 29) (q47 (nof_ge n) rfl) (sh_29 g cy _) rfl (c_X10_thrown (F := F) hfl (nof_ge n) (congrArg some hth)) rfl rfl dL_law_1198 ⟨Nat.le_of_ble_eq_true rfl, Nat.le_of_ble_eq_true rfl⟩ hl.1 (Nat.le_of_ble_eq_true rfl) ⟨by show _ ≤ 601024; omega, by show _ ≤ 7293034; omega⟩ ?_
  refine lv_iload hx hb dL_law_1201 (lv_at hl 1 rfl) ?_
  refine lv_icmp_eq (tgt := 1208) hx hb dL_law_1203 (by decide) (fun _ => ?_) (fun cz => absurd rfl cz)
  refine lv_iload hx hb dL_law_1208 (lv_at hl 1 rfl) ?_
  refine lv_if_ne (tgt := 1225) hx hb dL_law_1210 (by decide) (fun cz => ?_) (fun cz => ?_)
  · skip
    refine lv_goto (tgt := 1447) hx hb dL_law_1225 (by decide) ?_
    have hl := lv_sub hl [2, 3, 4, 5, 6] rfl
    exact W.widen (by omega) (by omega) (hk _ _ _ _ _ _ hS1 hw hl)
  · have ht0 := lkc_0 cz
    have hr0 := (h46 ht0).trans (heq ht0).symm
    refine lv_aload_n hx hb dL_law_1213 rfl (lv_at hl 6 rfl) ?_
    refine lv_iconst (v := 0) hx hb dL_law_1214 (by decide) ?_
    refine w_lald C hw (k := 46) (n := 1) (q47 (nof_ge n) rfl) rfl (show ¬ ((0 : Int32) < 0 ∨ 1 ≤ (0 : Int32).toNatClampNeg) by decide) dL_law_1215 ?_
    refine lv_iload hx hb dL_law_1216 (lv_at hl 0 rfl) ?_
    refine lv_i2l (v := R1.1.toInt64) hx hb dL_law_1218 rfl ?_
    refine W.lcmp hx hb dL_law_1219 ?_
    refine lv_if_eq (tgt := 1225) hx hb dL_law_1220 (by decide) (fun _ => ?_) (fun cz => absurd (lw_lcmp (congrArg Int32.toInt64 hr0)) cz)
    refine lv_goto (tgt := 1447) hx hb dL_law_1225 (by decide) ?_
    have hl := lv_sub hl [2, 3, 4, 5, 6] rfl
    exact W.widen (by omega) (by omega) (hk _ _ _ _ _ _ hS1 hw hl)
set_option maxHeartbeats 4000000 in
theorem law_preferred (hF : 20000 ≤ F) (ht : t < 513) (C : wCx p l s m args c meth code 7 RL D cy (fun q => s.heap.size ≤ q)) (hXs : va_X b L xs s s.heap) (hbl : b < s.heap.size) (hbA : ¬ s.heap.size ≤ b) (hS : Sta F X n) (hw : Wd D (fun q => s.heap.size ≤ q) s.heap g (nof n) (shp g cy X) H locs) (hl : lv_has ls 7 [(4, .int (Int32.ofNat (6 * t))), (0, .ref b), (1, .ref (g 0)), (2, .ref (g 29)), (3, .ref (g 46))]) (hk : LawK p l e s m args below meth c Q D cy b F t) : W p l e room_1 s m args below meth c H locs (47 + 20 * t) (40000 + 100 * t) Q (F0 m 1228 ls []) := by
  have hx := C.1
  have hb : c.code = cL_law := C.2.1
  have hfl := C.2.2.2.2.2.2.2.2
  refine lv_aload_n hx hb dL_law_1228 rfl (lv_at hl 2 rfl) ?_
  refine lv_aload_n hx hb dL_law_1229 rfl (lv_at hl 4 rfl) ?_
  obtain ⟨R0, hm, hT, hX2⟩ := st_preferred hF hS
  refine t_sLi C hw (w_csL (n := 2) C k714 k691 k815 ⟨by decide, by decide⟩ (by decide +kernel) (by decide) k814 ⟨Nat.le_of_ble_eq_true rfl, Nat.le_of_ble_eq_true rfl⟩) (As := [.ref (g 0), .ref (g 46)]) (c_L_preferred hfl (nof_ge n) (c_X9_preferred (X := X) hfl (rok_lst hS.lst) hm) hT) rfl rfl dL_law_1230 hl.1 (Nat.le_of_ble_eq_true rfl) ⟨by show _ ≤ 601024; omega, by show _ ≤ 7293034; omega⟩ (fun H locs hw => ?_)
  obtain ⟨X2, hX2e⟩ : ∃ X2, X2 = lkX R0.1 R0.2.1 (up (up (up (up (up (up (up (up (up (up (up (up (up (up (up (up (up (up (up X 0 R0.2.2.1) 6 R0.2.2.2.1) 7 R0.2.2.2.2.1) 8 R0.2.2.2.2.2.1) 9 R0.2.2.2.2.2.2.1) 10 R0.2.2.2.2.2.2.2.1) 11 R0.2.2.2.2.2.2.2.2.1) 13 R0.2.2.2.2.2.2.2.2.2.1) 14 R0.2.2.2.2.2.2.2.2.2.2.1) 15 R0.2.2.2.2.2.2.2.2.2.2.2.1) 16 R0.2.2.2.2.2.2.2.2.2.2.2.2.1) 18 R0.2.2.2.2.2.2.2.2.2.2.2.2.2.1) 19 R0.2.2.2.2.2.2.2.2.2.2.2.2.2.2.1) 20 R0.2.2.2.2.2.2.2.2.2.2.2.2.2.2.2.1) 22 R0.2.2.2.2.2.2.2.2.2.2.2.2.2.2.2.2.1) 23 R0.2.2.2.2.2.2.2.2.2.2.2.2.2.2.2.2.2.1) 24 R0.2.2.2.2.2.2.2.2.2.2.2.2.2.2.2.2.2.2.1) 25 R0.2.2.2.2.2.2.2.2.2.2.2.2.2.2.2.2.2.2.2.1) 26 R0.2.2.2.2.2.2.2.2.2.2.2.2.2.2.2.2.2.2.2.2) := ⟨_, rfl⟩
  have hw : Wd D (fun q => s.heap.size ≤ q) s.heap g (nof n) (shp g cy X2) H locs := by rw [hX2e]; exact hw
  have h46 : R0.1 = 0 → X2 46 0 = R0.2.1 := fun h => by rw [hX2e]; exact lkX_46 h
  obtain ⟨R1, hm1, hth, heq, hS1⟩ := hX2 X2 (fun j hj => by rw [hX2e]; exact lkX_ne j hj)
  refine lv_istore (lv' := [(5, .int (lkc R0.1 2)), (4, .int (Int32.ofNat (6 * t))), (0, .ref b), (1, .ref (g 0)), (2, .ref (g 29)), (3, .ref (g 46))]) hx hb dL_law_1233 hl (by decide) rfl (fun ls hl => ?_)
  refine lv_aload_n hx hb dL_law_1235 rfl (lv_at hl 4 rfl) ?_
  refine t_vWi C hw (As := []) bX10_preferred k816 (k := 29) (q47 (nof_ge n) rfl) (sh_29 g cy _) rfl (c_X10_preferred (F := F) (X := X2) hfl (nof_ge n) hm1) rfl rfl dL_law_1236 ⟨Nat.le_of_ble_eq_true rfl, Nat.le_of_ble_eq_true rfl⟩ hl.1 (Nat.le_of_ble_eq_true rfl) ⟨by show _ ≤ 601024; omega, by show _ ≤ 7293034; omega⟩ (fun H locs hw => ?_)
  refine lv_istore (lv' := [(6, .int R1.1), (5, .int (lkc R0.1 2)), (4, .int (Int32.ofNat (6 * t))), (0, .ref b), (1, .ref (g 0)), (2, .ref (g 29)), (3, .ref (g 46))]) hx hb dL_law_1239 hl (by decide) rfl (fun ls hl => ?_)
  refine lv_aload_n hx hb dL_law_1241 rfl (lv_at hl 5 rfl) ?_
  refine t_vRi (r0 := (lkc R0.1 2)) C hw (As := []) bX10_thrown k718 (k := 29) (q47 (nof_ge n) rfl) (sh_29 g cy _) rfl (c_X10_thrown (F := F) hfl (nof_ge n) (congrArg some hth)) rfl rfl dL_law_1242 ⟨Nat.le_of_ble_eq_true rfl, Nat.le_of_ble_eq_true rfl⟩ hl.1 (Nat.le_of_ble_eq_true rfl) ⟨by show _ ≤ 601024; omega, by show _ ≤ 7293034; omega⟩ ?_
  refine lv_iload hx hb dL_law_1245 (lv_at hl 1 rfl) ?_
  refine lv_icmp_eq (tgt := 1252) hx hb dL_law_1247 (by decide) (fun _ => ?_) (fun cz => absurd rfl cz)
  refine lv_iload hx hb dL_law_1252 (lv_at hl 1 rfl) ?_
  refine lv_if_ne (tgt := 1269) hx hb dL_law_1254 (by decide) (fun cz => ?_) (fun cz => ?_)
  · skip
    refine lv_goto (tgt := 1447) hx hb dL_law_1269 (by decide) ?_
    have hl := lv_sub hl [2, 3, 4, 5, 6] rfl
    exact W.widen (by omega) (by omega) (hk _ _ _ _ _ _ hS1 hw hl)
  · have ht0 := lkc_0 cz
    have hr0 := (h46 ht0).trans (heq ht0).symm
    refine lv_aload_n hx hb dL_law_1257 rfl (lv_at hl 6 rfl) ?_
    refine lv_iconst (v := 0) hx hb dL_law_1258 (by decide) ?_
    refine w_lald C hw (k := 46) (n := 1) (q47 (nof_ge n) rfl) rfl (show ¬ ((0 : Int32) < 0 ∨ 1 ≤ (0 : Int32).toNatClampNeg) by decide) dL_law_1259 ?_
    refine lv_iload hx hb dL_law_1260 (lv_at hl 0 rfl) ?_
    refine lv_i2l (v := R1.1.toInt64) hx hb dL_law_1262 rfl ?_
    refine W.lcmp hx hb dL_law_1263 ?_
    refine lv_if_eq (tgt := 1269) hx hb dL_law_1264 (by decide) (fun _ => ?_) (fun cz => absurd (lw_lcmp (congrArg Int32.toInt64 hr0)) cz)
    refine lv_goto (tgt := 1447) hx hb dL_law_1269 (by decide) ?_
    have hl := lv_sub hl [2, 3, 4, 5, 6] rfl
    exact W.widen (by omega) (by omega) (hk _ _ _ _ _ _ hS1 hw hl)
set_option maxHeartbeats 4000000 in
theorem law_preferredByAllSets (hF : 20000 ≤ F) (ht : t < 513) (C : wCx p l s m args c meth code 7 RL D cy (fun q => s.heap.size ≤ q)) (hXs : va_X b L xs s s.heap) (hbl : b < s.heap.size) (hbA : ¬ s.heap.size ≤ b) (hS : Sta F X n) (hw : Wd D (fun q => s.heap.size ≤ q) s.heap g (nof n) (shp g cy X) H locs) (hl : lv_has ls 7 [(4, .int (Int32.ofNat (6 * t))), (0, .ref b), (1, .ref (g 0)), (2, .ref (g 29)), (3, .ref (g 46))]) (hk : LawK p l e s m args below meth c Q D cy b F t) : W p l e room_1 s m args below meth c H locs (47 + 20 * t) (40000 + 100 * t) Q (F0 m 1272 ls []) := by
  have hx := C.1
  have hb : c.code = cL_law := C.2.1
  have hfl := C.2.2.2.2.2.2.2.2
  refine lv_aload_n hx hb dL_law_1272 rfl (lv_at hl 2 rfl) ?_
  refine lv_aload_n hx hb dL_law_1273 rfl (lv_at hl 4 rfl) ?_
  obtain ⟨R0, hm, hT, hX2⟩ := st_preferredByAllSets hF hS
  refine t_sLi C hw (w_csL (n := 2) C k714 k695 k820 ⟨by decide, by decide⟩ (by decide +kernel) (by decide) k819 ⟨Nat.le_of_ble_eq_true rfl, Nat.le_of_ble_eq_true rfl⟩) (As := [.ref (g 0), .ref (g 46)]) (c_L_preferredByAllSets hfl (nof_ge n) (c_X9_preferredByAllSets (X := X) hfl (rok_lst hS.lst) hm) hT) rfl rfl dL_law_1274 hl.1 (Nat.le_of_ble_eq_true rfl) ⟨by show _ ≤ 601024; omega, by show _ ≤ 7293034; omega⟩ (fun H locs hw => ?_)
  obtain ⟨X2, hX2e⟩ : ∃ X2, X2 = lkX R0.1 R0.2.1 (up (up (up (up (up (up (up (up (up (up (up (up (up (up (up (up (up (up (up X 0 R0.2.2.1) 6 R0.2.2.2.1) 7 R0.2.2.2.2.1) 8 R0.2.2.2.2.2.1) 9 R0.2.2.2.2.2.2.1) 10 R0.2.2.2.2.2.2.2.1) 11 R0.2.2.2.2.2.2.2.2.1) 13 R0.2.2.2.2.2.2.2.2.2.1) 14 R0.2.2.2.2.2.2.2.2.2.2.1) 15 R0.2.2.2.2.2.2.2.2.2.2.2.1) 16 R0.2.2.2.2.2.2.2.2.2.2.2.2.1) 18 R0.2.2.2.2.2.2.2.2.2.2.2.2.2.1) 19 R0.2.2.2.2.2.2.2.2.2.2.2.2.2.2.1) 20 R0.2.2.2.2.2.2.2.2.2.2.2.2.2.2.2.1) 22 R0.2.2.2.2.2.2.2.2.2.2.2.2.2.2.2.2.1) 23 R0.2.2.2.2.2.2.2.2.2.2.2.2.2.2.2.2.2.1) 24 R0.2.2.2.2.2.2.2.2.2.2.2.2.2.2.2.2.2.2.1) 27 R0.2.2.2.2.2.2.2.2.2.2.2.2.2.2.2.2.2.2.2.1) 28 R0.2.2.2.2.2.2.2.2.2.2.2.2.2.2.2.2.2.2.2.2) := ⟨_, rfl⟩
  have hw : Wd D (fun q => s.heap.size ≤ q) s.heap g (nof n) (shp g cy X2) H locs := by rw [hX2e]; exact hw
  have h46 : R0.1 = 0 → X2 46 0 = R0.2.1 := fun h => by rw [hX2e]; exact lkX_46 h
  obtain ⟨R1, hm1, hth, heq, hS1⟩ := hX2 X2 (fun j hj => by rw [hX2e]; exact lkX_ne j hj)
  refine lv_istore (lv' := [(5, .int (lkc R0.1 2)), (4, .int (Int32.ofNat (6 * t))), (0, .ref b), (1, .ref (g 0)), (2, .ref (g 29)), (3, .ref (g 46))]) hx hb dL_law_1277 hl (by decide) rfl (fun ls hl => ?_)
  refine lv_aload_n hx hb dL_law_1279 rfl (lv_at hl 4 rfl) ?_
  refine t_vWi C hw (As := []) bX10_preferredByAllSets k821 (k := 29) (q47 (nof_ge n) rfl) (sh_29 g cy _) rfl (c_X10_preferredByAllSets (F := F) (X := X2) hfl (nof_ge n) hm1) rfl rfl dL_law_1280 ⟨Nat.le_of_ble_eq_true rfl, Nat.le_of_ble_eq_true rfl⟩ hl.1 (Nat.le_of_ble_eq_true rfl) ⟨by show _ ≤ 601024; omega, by show _ ≤ 7293034; omega⟩ (fun H locs hw => ?_)
  refine lv_istore (lv' := [(6, .int R1.1), (5, .int (lkc R0.1 2)), (4, .int (Int32.ofNat (6 * t))), (0, .ref b), (1, .ref (g 0)), (2, .ref (g 29)), (3, .ref (g 46))]) hx hb dL_law_1283 hl (by decide) rfl (fun ls hl => ?_)
  refine lv_aload_n hx hb dL_law_1285 rfl (lv_at hl 5 rfl) ?_
  refine t_vRi (r0 := (lkc R0.1 2)) C hw (As := []) bX10_thrown k718 (k := 29) (q47 (nof_ge n) rfl) (sh_29 g cy _) rfl (c_X10_thrown (F := F) hfl (nof_ge n) (congrArg some hth)) rfl rfl dL_law_1286 ⟨Nat.le_of_ble_eq_true rfl, Nat.le_of_ble_eq_true rfl⟩ hl.1 (Nat.le_of_ble_eq_true rfl) ⟨by show _ ≤ 601024; omega, by show _ ≤ 7293034; omega⟩ ?_
  refine lv_iload hx hb dL_law_1289 (lv_at hl 1 rfl) ?_
  refine lv_icmp_eq (tgt := 1296) hx hb dL_law_1291 (by decide) (fun _ => ?_) (fun cz => absurd rfl cz)
  refine lv_iload hx hb dL_law_1296 (lv_at hl 1 rfl) ?_
  refine lv_if_ne (tgt := 1313) hx hb dL_law_1298 (by decide) (fun cz => ?_) (fun cz => ?_)
  · skip
    refine lv_goto (tgt := 1447) hx hb dL_law_1313 (by decide) ?_
    have hl := lv_sub hl [2, 3, 4, 5, 6] rfl
    exact W.widen (by omega) (by omega) (hk _ _ _ _ _ _ hS1 hw hl)
  · have ht0 := lkc_0 cz
    have hr0 := (h46 ht0).trans (heq ht0).symm
    refine lv_aload_n hx hb dL_law_1301 rfl (lv_at hl 6 rfl) ?_
    refine lv_iconst (v := 0) hx hb dL_law_1302 (by decide) ?_
    refine w_lald C hw (k := 46) (n := 1) (q47 (nof_ge n) rfl) rfl (show ¬ ((0 : Int32) < 0 ∨ 1 ≤ (0 : Int32).toNatClampNeg) by decide) dL_law_1303 ?_
    refine lv_iload hx hb dL_law_1304 (lv_at hl 0 rfl) ?_
    refine lv_i2l (v := R1.1.toInt64) hx hb dL_law_1306 rfl ?_
    refine W.lcmp hx hb dL_law_1307 ?_
    refine lv_if_eq (tgt := 1313) hx hb dL_law_1308 (by decide) (fun _ => ?_) (fun cz => absurd (lw_lcmp (congrArg Int32.toInt64 hr0)) cz)
    refine lv_goto (tgt := 1447) hx hb dL_law_1313 (by decide) ?_
    have hl := lv_sub hl [2, 3, 4, 5, 6] rfl
    exact W.widen (by omega) (by omega) (hk _ _ _ _ _ _ hS1 hw hl)
set_option maxHeartbeats 4000000 in
theorem law_isInSet (hF : 20000 ≤ F) (ht : t < 513) (C : wCx p l s m args c meth code 7 RL D cy (fun q => s.heap.size ≤ q)) (hXs : va_X b L xs s s.heap) (hbl : b < s.heap.size) (hbA : ¬ s.heap.size ≤ b) {za1 : Int32} (hz1 : xs (Int32.ofNat (6 * t) + 1).toNatClampNeg = za1) (hin1 : vp_in (Int32.ofNat (6 * t) + 1) L) {za2 : Int32} (hz2 : xs (Int32.ofNat (6 * t) + 2).toNatClampNeg = za2) (hin2 : vp_in (Int32.ofNat (6 * t) + 2) L) (hS : Sta F X n) (hw : Wd D (fun q => s.heap.size ≤ q) s.heap g (nof n) (shp g cy X) H locs) (hl : lv_has ls 7 [(4, .int (Int32.ofNat (6 * t))), (0, .ref b), (1, .ref (g 0)), (2, .ref (g 29)), (3, .ref (g 46))]) (hk : LawK p l e s m args below meth c Q D cy b F t) : W p l e room_1 s m args below meth c H locs (47 + 20 * t) (40000 + 100 * t) Q (F0 m 1316 ls []) := by
  have hx := C.1
  have hb : c.code = cL_law := C.2.1
  have hfl := C.2.2.2.2.2.2.2.2
  refine lv_aload_n hx hb dL_law_1316 rfl (lv_at hl 2 rfl) ?_
  refine lv_aload_n hx hb dL_law_1317 rfl (lv_at hl 1 rfl) ?_
  refine lv_iload hx hb dL_law_1318 (lv_at hl 0 rfl) ?_
  refine lv_iconst (v := 1) hx hb dL_law_1320 (by decide) ?_
  refine lv_iadd hx hb dL_law_1321 ?_
  refine va_sld hx hb hXs hbl hbA hw.2.2 hin1 dL_law_1322 ?_
  rw [hz1]
  refine lv_aload_n hx hb dL_law_1323 rfl (lv_at hl 1 rfl) ?_
  refine lv_iload hx hb dL_law_1324 (lv_at hl 0 rfl) ?_
  refine lv_iconst (v := 2) hx hb dL_law_1326 (by decide) ?_
  refine lv_iadd hx hb dL_law_1327 ?_
  refine va_sld hx hb hXs hbl hbA hw.2.2 hin2 dL_law_1328 ?_
  rw [hz2]
  refine lv_aload_n hx hb dL_law_1329 rfl (lv_at hl 4 rfl) ?_
  obtain ⟨R0, hm, hT, hz9, hX2⟩ := st_isInSet hF hS za1 za2
  refine t_sLi C hw (w_csL (n := 4) C k714 k699 k825 ⟨by decide, by decide⟩ (by decide +kernel) (by decide) k824 ⟨Nat.le_of_ble_eq_true rfl, Nat.le_of_ble_eq_true rfl⟩) (As := [.ref (g 0), .int za1, .int za2, .ref (g 46)]) (c_L_isInSet hfl (nof_ge n) (c_X9_isInSet (X := X) hfl (rok_lst hS.lst) hm) hT hz9) rfl rfl dL_law_1330 hl.1 (Nat.le_of_ble_eq_true rfl) ⟨by show _ ≤ 601024; omega, by show _ ≤ 7293034; omega⟩ (fun H locs hw => ?_)
  obtain ⟨X2, hX2e⟩ : ∃ X2, X2 = lkX R0.1 R0.2.1 (up (up (up (up (up (up (up (up (up (up (up (up (up (up (up (up (up (up (up X 0 R0.2.2.1) 6 R0.2.2.2.1) 7 R0.2.2.2.2.1) 8 R0.2.2.2.2.2.1) 9 R0.2.2.2.2.2.2.1) 10 R0.2.2.2.2.2.2.2.1) 11 R0.2.2.2.2.2.2.2.2.1) 13 R0.2.2.2.2.2.2.2.2.2.1) 14 R0.2.2.2.2.2.2.2.2.2.2.1) 15 R0.2.2.2.2.2.2.2.2.2.2.2.1) 16 R0.2.2.2.2.2.2.2.2.2.2.2.2.1) 18 R0.2.2.2.2.2.2.2.2.2.2.2.2.2.1) 19 R0.2.2.2.2.2.2.2.2.2.2.2.2.2.2.1) 20 R0.2.2.2.2.2.2.2.2.2.2.2.2.2.2.2.1) 22 R0.2.2.2.2.2.2.2.2.2.2.2.2.2.2.2.2.1) 23 R0.2.2.2.2.2.2.2.2.2.2.2.2.2.2.2.2.2.1) 24 R0.2.2.2.2.2.2.2.2.2.2.2.2.2.2.2.2.2.2.1) 25 R0.2.2.2.2.2.2.2.2.2.2.2.2.2.2.2.2.2.2.2.1) 26 R0.2.2.2.2.2.2.2.2.2.2.2.2.2.2.2.2.2.2.2.2) := ⟨_, rfl⟩
  have hw : Wd D (fun q => s.heap.size ≤ q) s.heap g (nof n) (shp g cy X2) H locs := by rw [hX2e]; exact hw
  have h46 : R0.1 = 0 → X2 46 0 = R0.2.1 := fun h => by rw [hX2e]; exact lkX_46 h
  obtain ⟨R1, hm1, hth, heq, hS1⟩ := hX2 X2 (fun j hj => by rw [hX2e]; exact lkX_ne j hj)
  refine lv_istore (lv' := [(5, .int (lkc R0.1 2)), (4, .int (Int32.ofNat (6 * t))), (0, .ref b), (1, .ref (g 0)), (2, .ref (g 29)), (3, .ref (g 46))]) hx hb dL_law_1333 hl (by decide) rfl (fun ls hl => ?_)
  refine lv_aload_n hx hb dL_law_1335 rfl (lv_at hl 4 rfl) ?_
  refine lv_aload_n hx hb dL_law_1336 rfl (lv_at hl 2 rfl) ?_
  refine lv_iload hx hb dL_law_1337 (lv_at hl 1 rfl) ?_
  refine lv_iconst (v := 1) hx hb dL_law_1339 (by decide) ?_
  refine lv_iadd hx hb dL_law_1340 ?_
  refine va_sld hx hb hXs hbl hbA hw.2.2 hin1 dL_law_1341 ?_
  rw [hz1]
  refine lv_aload_n hx hb dL_law_1342 rfl (lv_at hl 2 rfl) ?_
  refine lv_iload hx hb dL_law_1343 (lv_at hl 1 rfl) ?_
  refine lv_iconst (v := 2) hx hb dL_law_1345 (by decide) ?_
  refine lv_iadd hx hb dL_law_1346 ?_
  refine va_sld hx hb hXs hbl hbA hw.2.2 hin2 dL_law_1347 ?_
  rw [hz2]
  refine t_vWi C hw (As := [.int za1, .int za2]) bX10_isInSet k826 (k := 29) (q47 (nof_ge n) rfl) (sh_29 g cy _) rfl (c_X10_isInSet (F := F) (X := X2) hfl (nof_ge n) hm1) rfl rfl dL_law_1348 ⟨Nat.le_of_ble_eq_true rfl, Nat.le_of_ble_eq_true rfl⟩ hl.1 (Nat.le_of_ble_eq_true rfl) ⟨by show _ ≤ 601024; omega, by show _ ≤ 7293034; omega⟩ (fun H locs hw => ?_)
  refine lv_istore (lv' := [(6, .int R1.1), (5, .int (lkc R0.1 2)), (4, .int (Int32.ofNat (6 * t))), (0, .ref b), (1, .ref (g 0)), (2, .ref (g 29)), (3, .ref (g 46))]) hx hb dL_law_1351 hl (by decide) rfl (fun ls hl => ?_)
  refine lv_aload_n hx hb dL_law_1353 rfl (lv_at hl 5 rfl) ?_
  refine t_vRi (r0 := (lkc R0.1 2)) C hw (As := []) bX10_thrown k718 (k := 29) (q47 (nof_ge n) rfl) (sh_29 g cy _) rfl (c_X10_thrown (F := F) hfl (nof_ge n) (congrArg some hth)) rfl rfl dL_law_1354 ⟨Nat.le_of_ble_eq_true rfl, Nat.le_of_ble_eq_true rfl⟩ hl.1 (Nat.le_of_ble_eq_true rfl) ⟨by show _ ≤ 601024; omega, by show _ ≤ 7293034; omega⟩ ?_
  refine lv_iload hx hb dL_law_1357 (lv_at hl 1 rfl) ?_
  refine lv_icmp_eq (tgt := 1364) hx hb dL_law_1359 (by decide) (fun _ => ?_) (fun cz => absurd rfl cz)
  refine lv_iload hx hb dL_law_1364 (lv_at hl 1 rfl) ?_
  refine lv_if_ne (tgt := 1388) hx hb dL_law_1366 (by decide) (fun cz => ?_) (fun cz => ?_)
  · skip
    refine lv_goto (tgt := 1447) hx hb dL_law_1388 (by decide) ?_
    have hl := lv_sub hl [2, 3, 4, 5, 6] rfl
    exact W.widen (by omega) (by omega) (hk _ _ _ _ _ _ hS1 hw hl)
  · have ht0 := lkc_0 cz
    have hr0 := (h46 ht0).trans (heq ht0).symm
    refine lv_aload_n hx hb dL_law_1369 rfl (lv_at hl 6 rfl) ?_
    refine lv_iconst (v := 0) hx hb dL_law_1370 (by decide) ?_
    refine w_lald C hw (k := 46) (n := 1) (q47 (nof_ge n) rfl) rfl (show ¬ ((0 : Int32) < 0 ∨ 1 ≤ (0 : Int32).toNatClampNeg) by decide) dL_law_1371 ?_
    refine lv_iload hx hb dL_law_1372 (lv_at hl 0 rfl) ?_
    refine lv_if_eq (tgt := 1381) hx hb dL_law_1374 (by decide) (fun hb0 => ?_) (fun hb0 => ?_)
    · skip
      refine lv_lconst (v := 0) hx hb dL_law_1381 (by decide) ?_
      refine W.lcmp hx hb dL_law_1382 ?_
      refine lv_if_eq (tgt := 1388) hx hb dL_law_1383 (by decide) (fun _ => ?_) (fun cz => absurd (lw_lcmp ((congrArg Int32.toInt64 hr0).trans (by rw [hb0] <;> rfl))) cz)
      refine lv_goto (tgt := 1447) hx hb dL_law_1388 (by decide) ?_
      have hl := lv_sub hl [2, 3, 4, 5, 6] rfl
      exact W.widen (by omega) (by omega) (hk _ _ _ _ _ _ hS1 hw hl)
    · skip
      refine lv_lconst (v := 1) hx hb dL_law_1377 (by decide) ?_
      refine lv_goto (tgt := 1382) hx hb dL_law_1378 (by decide) ?_
      have hb1 : ¬ R1.1 = 0 → R1.1 = 1 := fun h9 => (by rw [heq ht0] at h9 ⊢; exact hz9.resolve_left h9)
      refine W.lcmp hx hb dL_law_1382 ?_
      refine lv_if_eq (tgt := 1388) hx hb dL_law_1383 (by decide) (fun _ => ?_) (fun cz => absurd (lw_lcmp ((congrArg Int32.toInt64 hr0).trans (by rw [hb1 hb0] <;> rfl))) cz)
      refine lv_goto (tgt := 1447) hx hb dL_law_1388 (by decide) ?_
      have hl := lv_sub hl [2, 3, 4, 5, 6] rfl
      exact W.widen (by omega) (by omega) (hk _ _ _ _ _ _ hS1 hw hl)
set_option maxHeartbeats 4000000 in
theorem law_setsFor (hF : 20000 ≤ F) (ht : t < 513) (C : wCx p l s m args c meth code 7 RL D cy (fun q => s.heap.size ≤ q)) (hXs : va_X b L xs s s.heap) (hbl : b < s.heap.size) (hbA : ¬ s.heap.size ≤ b) {za1 : Int32} (hz1 : xs (Int32.ofNat (6 * t) + 1).toNatClampNeg = za1) (hin1 : vp_in (Int32.ofNat (6 * t) + 1) L) (hS : Sta F X n) (hw : Wd D (fun q => s.heap.size ≤ q) s.heap g (nof n) (shp g cy X) H locs) (hl : lv_has ls 7 [(4, .int (Int32.ofNat (6 * t))), (0, .ref b), (1, .ref (g 0)), (2, .ref (g 29)), (3, .ref (g 46))]) (hk : LawK p l e s m args below meth c Q D cy b F t) : W p l e room_1 s m args below meth c H locs (47 + 20 * t) (40000 + 100 * t) Q (F0 m 1391 ls []) := by
  have hx := C.1
  have hb : c.code = cL_law := C.2.1
  have hfl := C.2.2.2.2.2.2.2.2
  refine lv_aload_n hx hb dL_law_1391 rfl (lv_at hl 2 rfl) ?_
  refine lv_aload_n hx hb dL_law_1392 rfl (lv_at hl 1 rfl) ?_
  refine lv_iload hx hb dL_law_1393 (lv_at hl 0 rfl) ?_
  refine lv_iconst (v := 1) hx hb dL_law_1395 (by decide) ?_
  refine lv_iadd hx hb dL_law_1396 ?_
  refine va_sld hx hb hXs hbl hbA hw.2.2 hin1 dL_law_1397 ?_
  rw [hz1]
  refine lv_aload_n hx hb dL_law_1398 rfl (lv_at hl 4 rfl) ?_
  obtain ⟨R0, hm, hT, hX2⟩ := st_setsFor hF hS za1
  refine t_sLi C hw (w_csL (n := 3) C k714 k703 k830 ⟨by decide, by decide⟩ (by decide +kernel) (by decide) k829 ⟨Nat.le_of_ble_eq_true rfl, Nat.le_of_ble_eq_true rfl⟩) (As := [.ref (g 0), .int za1, .ref (g 46)]) (c_L_setsFor hfl (nof_ge n) (c_X9_setsFor (X := X) hfl (rok_lst hS.lst) hm) hT) rfl rfl dL_law_1399 hl.1 (Nat.le_of_ble_eq_true rfl) ⟨by show _ ≤ 601024; omega, by show _ ≤ 7293034; omega⟩ (fun H locs hw => ?_)
  obtain ⟨X2, hX2e⟩ : ∃ X2, X2 = lkX R0.1 R0.2.1 (up (up (up (up (up (up (up (up (up (up (up (up (up (up (up (up (up (up (up X 0 R0.2.2.1) 6 R0.2.2.2.1) 7 R0.2.2.2.2.1) 8 R0.2.2.2.2.2.1) 9 R0.2.2.2.2.2.2.1) 10 R0.2.2.2.2.2.2.2.1) 11 R0.2.2.2.2.2.2.2.2.1) 13 R0.2.2.2.2.2.2.2.2.2.1) 14 R0.2.2.2.2.2.2.2.2.2.2.1) 15 R0.2.2.2.2.2.2.2.2.2.2.2.1) 16 R0.2.2.2.2.2.2.2.2.2.2.2.2.1) 18 R0.2.2.2.2.2.2.2.2.2.2.2.2.2.1) 19 R0.2.2.2.2.2.2.2.2.2.2.2.2.2.2.1) 20 R0.2.2.2.2.2.2.2.2.2.2.2.2.2.2.2.1) 22 R0.2.2.2.2.2.2.2.2.2.2.2.2.2.2.2.2.1) 23 R0.2.2.2.2.2.2.2.2.2.2.2.2.2.2.2.2.2.1) 24 R0.2.2.2.2.2.2.2.2.2.2.2.2.2.2.2.2.2.2.1) 25 R0.2.2.2.2.2.2.2.2.2.2.2.2.2.2.2.2.2.2.2.1) 26 R0.2.2.2.2.2.2.2.2.2.2.2.2.2.2.2.2.2.2.2.2) := ⟨_, rfl⟩
  have hw : Wd D (fun q => s.heap.size ≤ q) s.heap g (nof n) (shp g cy X2) H locs := by rw [hX2e]; exact hw
  have h46 : R0.1 = 0 → X2 46 0 = R0.2.1 := fun h => by rw [hX2e]; exact lkX_46 h
  obtain ⟨R1, hm1, hth, heq, hS1⟩ := hX2 X2 (fun j hj => by rw [hX2e]; exact lkX_ne j hj)
  refine lv_istore (lv' := [(5, .int (lkc R0.1 1)), (4, .int (Int32.ofNat (6 * t))), (0, .ref b), (1, .ref (g 0)), (2, .ref (g 29)), (3, .ref (g 46))]) hx hb dL_law_1402 hl (by decide) rfl (fun ls hl => ?_)
  refine lv_aload_n hx hb dL_law_1404 rfl (lv_at hl 4 rfl) ?_
  refine lv_aload_n hx hb dL_law_1405 rfl (lv_at hl 2 rfl) ?_
  refine lv_iload hx hb dL_law_1406 (lv_at hl 1 rfl) ?_
  refine lv_iconst (v := 1) hx hb dL_law_1408 (by decide) ?_
  refine lv_iadd hx hb dL_law_1409 ?_
  refine va_sld hx hb hXs hbl hbA hw.2.2 hin1 dL_law_1410 ?_
  rw [hz1]
  refine t_vWi C hw (As := [.int za1]) bX10_setsFor k831 (k := 29) (q47 (nof_ge n) rfl) (sh_29 g cy _) rfl (c_X10_setsFor (F := F) (X := X2) hfl (nof_ge n) hm1) rfl rfl dL_law_1411 ⟨Nat.le_of_ble_eq_true rfl, Nat.le_of_ble_eq_true rfl⟩ hl.1 (Nat.le_of_ble_eq_true rfl) ⟨by show _ ≤ 601024; omega, by show _ ≤ 7293034; omega⟩ (fun H locs hw => ?_)
  refine lv_istore (lv' := [(6, .int R1.1), (5, .int (lkc R0.1 1)), (4, .int (Int32.ofNat (6 * t))), (0, .ref b), (1, .ref (g 0)), (2, .ref (g 29)), (3, .ref (g 46))]) hx hb dL_law_1414 hl (by decide) rfl (fun ls hl => ?_)
  refine lv_aload_n hx hb dL_law_1416 rfl (lv_at hl 5 rfl) ?_
  refine t_vRi (r0 := (lkc R0.1 1)) C hw (As := []) bX10_thrown k718 (k := 29) (q47 (nof_ge n) rfl) (sh_29 g cy _) rfl (c_X10_thrown (F := F) hfl (nof_ge n) (congrArg some hth)) rfl rfl dL_law_1417 ⟨Nat.le_of_ble_eq_true rfl, Nat.le_of_ble_eq_true rfl⟩ hl.1 (Nat.le_of_ble_eq_true rfl) ⟨by show _ ≤ 601024; omega, by show _ ≤ 7293034; omega⟩ ?_
  refine lv_iload hx hb dL_law_1420 (lv_at hl 1 rfl) ?_
  refine lv_icmp_eq (tgt := 1427) hx hb dL_law_1422 (by decide) (fun _ => ?_) (fun cz => absurd rfl cz)
  refine lv_iload hx hb dL_law_1427 (lv_at hl 1 rfl) ?_
  refine lv_if_ne (tgt := 1444) hx hb dL_law_1429 (by decide) (fun cz => ?_) (fun cz => ?_)
  · skip
    refine lv_goto (tgt := 1447) hx hb dL_law_1444 (by decide) ?_
    have hl := lv_sub hl [2, 3, 4, 5, 6] rfl
    exact W.widen (by omega) (by omega) (hk _ _ _ _ _ _ hS1 hw hl)
  · have ht0 := lkc_0 cz
    have hr0 := (h46 ht0).trans (heq ht0).symm
    refine lv_aload_n hx hb dL_law_1432 rfl (lv_at hl 6 rfl) ?_
    refine lv_iconst (v := 0) hx hb dL_law_1433 (by decide) ?_
    refine w_lald C hw (k := 46) (n := 1) (q47 (nof_ge n) rfl) rfl (show ¬ ((0 : Int32) < 0 ∨ 1 ≤ (0 : Int32).toNatClampNeg) by decide) dL_law_1434 ?_
    refine lv_iload hx hb dL_law_1435 (lv_at hl 0 rfl) ?_
    refine lv_i2l (v := R1.1.toInt64) hx hb dL_law_1437 rfl ?_
    refine W.lcmp hx hb dL_law_1438 ?_
    refine lv_if_eq (tgt := 1444) hx hb dL_law_1439 (by decide) (fun _ => ?_) (fun cz => absurd (lw_lcmp (congrArg Int32.toInt64 hr0)) cz)
    refine lv_goto (tgt := 1447) hx hb dL_law_1444 (by decide) ?_
    have hl := lv_sub hl [2, 3, 4, 5, 6] rfl
    exact W.widen (by omega) (by omega) (hk _ _ _ _ _ _ hS1 hw hl)
end LAWC

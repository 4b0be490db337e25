/-! the law's wrappers: a call that may throw, made an int -/
def lkc (tag a : Nat) : Int32 := if tag = 0 then 0 else if tag = a then 1 else 2
def lkX (tag : Nat) (r0 : Int32) (X1 : Nat → Nat → Int32) : Nat → Nat → Int32 := if tag = 0 then up X1 46 (upd (X1 46) 0 r0) else X1
def cLi (l : Launch) (D : va_G) (cy : Nat → Nat) (y : MethodName) (cc : ByteArray) (maxL : Nat) (hh : List (Nat × Nat × Nat × Nat)) (d mc ms : Nat) (av : List Value) (g : Nat → Nat) (N : Nat) (f : Nat → va_E) (post : Int32 → (Nat → va_E) → Prop) : Prop :=
  ∀ sz, Met l y [.codeWith y cc maxL (some .int) hh] (wR d mc ms) (va_Pc av (wPre D cy g N f sz)) (va_Qi post (fun f' t => wPo D g N sz f' t) (wA g N sz)) mc ms (wA g N sz)
def cLNi (l : Launch) (D : va_G) (cy : Nat → Nat) (y : MethodName) (cc : ByteArray) (maxL : Nat) (hh : List (Nat × Nat × Nat × Nat)) (d mc ms : Nat) (av : List Value) (g : Nat → Nat) (N : Nat) (f : Nat → va_E) (post : Int32 → (Nat → Nat) × Nat × (Nat → va_E) → Prop) : Prop :=
  ∀ sz, Met l y [.codeWith y cc maxL (some .int) hh] (wR d mc ms) (va_Pc av (wPre D cy g N f sz)) (va_Qi post (fun u t => wPn D (wA g N sz) u t) (wA g N sz)) mc ms (wA g N sz)
section LAWS
variable {l : Launch} {D : va_G} {cy : Nat → Nat} {g : Nat → Nat} {N : Nat} {y : MethodName} {cc : ByteArray} {maxL : Nat} {hh : List (Nat × Nat × Nat × Nat)} {d mc ms : Nat} {av : List Value} {f : Nat → va_E}
theorem jLi {post : Int32 → (Nat → va_E) → Prop} (hy : plainName y.cls = true) (hown : y.cls = RL) (hfl : l.stackTraces = false) (hav : (lg_sl av).length ≤ maxL) (hkw : Cond.codeWith y cc maxL (some .int) hh ∈ wAll)
    (body : ∀ (p : Program) (e : Env) (R : Room) (s : State) (m : MethodId) (args : Array Value) (below : List Frame) (meth : Method) (c : Code) (ls : Array Slot) (A : Nat → Prop) (Q : State → Prop), R = wR d mc ms → wCx p l s m args c meth cc maxL RL D cy A → c.exceptionTable.toList = tableOf hh → Wd D A s.heap g N f s.heap [] → lv_has ls maxL (lv_args 0 av) →
      (∀ (pc : Nat) (ls : Array Slot) (v : Int32) (f' : Nat → va_E) (H : Heap) (locs : List Loc) (cells slots : Nat), post v f' → Wd D A s.heap g N f' H locs → cells ≤ mc → slots ≤ ms → decode cc pc = .ok (.ireturn, 1) → W p l e R s m args below meth c H locs cells slots Q (F0 m pc ls [.int v])) → W p l e R s m args below meth c s.heap [] 0 0 Q (F0 m 0 ls [])) : cLi l D cy y cc maxL hh d mc ms av g N f post := by
  intro sz
  refine va_MetW (cc := cc) (maxL := maxL) (ret := some .int) (hh := hh) hy rfl ?_
  intro p e s m args below meth c s₁ B hml hv
  obtain ⟨rfl, hpre⟩ := hv
  have h0 := hpre.1
  subst h0
  have hC : wCx p l s m av.toArray c meth cc maxL RL D cy (wA g N s.heap.size) := ⟨B.exec, B.bytes, hml, by rw [← hown]; exact findClass_of_methodNamed B.named, hpre.2.2.2.words, hpre.2.2.2, fun q h => Or.inr h, B.notSynchronized, hfl⟩
  rw [lg_entry_eq]
  exact body p e _ s m _ below meth c _ _ _ rfl hC (vx_table (x := y) B (hC.w hkw)) (wPre_start hpre) (lv_entry av hav) (fun pc ls v f' H locs cells slots hp hw h1 h2 hd => eWi hC hw B.returns hp h1 h2 hd)
theorem jLNi {post : Int32 → (Nat → Nat) × Nat × (Nat → va_E) → Prop} (hy : plainName y.cls = true) (hown : y.cls = RL) (hfl : l.stackTraces = false) (hav : (lg_sl av).length ≤ maxL) (hkw : Cond.codeWith y cc maxL (some .int) hh ∈ wAll)
    (body : ∀ (p : Program) (e : Env) (R : Room) (s : State) (m : MethodId) (args : Array Value) (below : List Frame) (meth : Method) (c : Code) (ls : Array Slot) (A : Nat → Prop) (Q : State → Prop), R = wR d mc ms → wCx p l s m args c meth cc maxL RL D cy A → c.exceptionTable.toList = tableOf hh → Wd D A s.heap g N f s.heap [] → lv_has ls maxL (lv_args 0 av) →
      (∀ (pc : Nat) (ls : Array Slot) (v : Int32) (g1 : Nat → Nat) (N1 : Nat) (f' : Nat → va_E) (H : Heap) (locs : List Loc) (cells slots : Nat), post v (g1, N1, f') → Wd D A s.heap g1 N1 f' H locs → cells ≤ mc → slots ≤ ms → decode cc pc = .ok (.ireturn, 1) → W p l e R s m args below meth c H locs cells slots Q (F0 m pc ls [.int v])) → W p l e R s m args below meth c s.heap [] 0 0 Q (F0 m 0 ls [])) : cLNi l D cy y cc maxL hh d mc ms av g N f post := by
  intro sz
  refine va_MetW (cc := cc) (maxL := maxL) (ret := some .int) (hh := hh) hy rfl ?_
  intro p e s m args below meth c s₁ B hml hv
  obtain ⟨rfl, hpre⟩ := hv
  have h0 := hpre.1
  subst h0
  have hC : wCx p l s m av.toArray c meth cc maxL RL D cy (wA g N s.heap.size) := ⟨B.exec, B.bytes, hml, by rw [← hown]; exact findClass_of_methodNamed B.named, hpre.2.2.2.words, hpre.2.2.2, fun q h => Or.inr h, B.notSynchronized, hfl⟩
  rw [lg_entry_eq]
  exact body p e _ s m _ below meth c _ _ _ rfl hC (vx_table (x := y) B (hC.w hkw)) (wPre_start hpre) (lv_entry av hav) (fun pc ls v g1 N1 f' H locs cells slots hp hw h1 h2 hd => eNi hC hw B.returns hp h1 h2 hd)
end LAWS
theorem sh46_up {g cy : Nat → Nat} {X : Nat → Nat → Int32} {r : Int32} {x : Int64} (hx : r.toInt64 = x) : va_up (shp g cy X) 46 (.inl (cy 3, 1, .inr (.inl (vp_updL (fun j => (X 46 j).toInt64) (0 : Int32).toNatClampNeg x)))) = shp g cy (up X 46 (upd (X 46) 0 r)) := by
  refine shp_up ?_
  rw [sh_46]
  congr 5
  funext j
  subst hx
  show (if j = 0 then r else X 46 j).toInt64 = if j = 0 then r.toInt64 else (X 46 j).toInt64
  split <;> rfl
theorem up_eq_self46 (X : Nat → Nat → Int32) : up X 46 (X 46) = X := up_self X 46
set_option maxHeartbeats 4000000 in
theorem c_L_addFact {l : Launch} {D : va_G} {cy : Nat → Nat} {g : Nat → Nat} {N tag : Nat} {X X1 : Nat → Nat → Int32} {za1 : Int32} {r0 : Int32} (hfl : l.stackTraces = false) (hN : 47 ≤ N) (hM : sXi l D cy yX9_addFact cX9_addFact 2 (some .int) 8 10 80 [.ref (g 0), .int za1] g N X tag r0 X1) (hT : tag = 0 ∨ tag = 1 ∨ tag = 2) : cLi l D cy yL_addFact cL_addFact 4 [(0, 9, 12, 13), (0, 9, 15, 15)] 9 10 80 [.ref (g 0), .int za1, .ref (g 46)] g N (shp g cy X) (fun r f' => r = lkc tag 1 ∧ f' = shp g cy (lkX tag r0 X1)) := by
  refine jLi (by decide) rfl hfl (Nat.le_of_ble_eq_true rfl) k626 ?_
  intro p e R s m args below meth c ls A Q hRe C htb hw hl hret
  subst hRe
  have hx := C.1
  have hb := C.2.1
  have hl : lv_has ls 4 [(0, .ref (g 0)), (1, .int za1), (2, .ref (g 46))] := hl
  refine lv_aload_n hx hb dL_addFact_0 rfl (lv_at hl 2 rfl) ?_
  refine lv_iconst (v := 0) hx hb dL_addFact_1 (by decide) ?_
  refine lv_aload_n hx hb dL_addFact_2 rfl (lv_at hl 0 rfl) ?_
  refine lv_iload_n hx hb dL_addFact_3 rfl (lv_at hl 1 rfl) ?_
  refine s_vXi (r0 := r0) (X' := X1) (tag := tag) C hw (As := [.int za1]) bX9_addFact k623 (k := 0) (q47 hN rfl) (sh_0 g cy _) rfl hM rfl rfl dL_addFact_4 ⟨rfl, rfl⟩ (by decide) hl.1 (Nat.le_of_ble_eq_true rfl) ⟨Nat.le_of_ble_eq_true rfl, Nat.le_of_ble_eq_true rfl⟩ (fun ce q9 H locs ht hw h1 h2 h3 => ?_) (fun H locs ht hw => ?_)
  · skip
    rcases hT with rfl | rfl | rfl
    · exact absurd rfl ht
    · refine vx_catch (E := xIA) (name := "java/lang/IllegalArgumentException") C.2.2.2.1 [] ⟨0, 9, 12, 13⟩ [⟨0, 9, 15, 15⟩] (htb.trans rfl) (fun z hz => absurd hz List.not_mem_nil) rfl (by decide) (C.w k621) (va_Nw.use rfl C.2.2.2.2.2.1.j.2.2.2.1) h1 h2 h3 ?_
      refine lv_astore_n (lv' := [(3, .ref q9), (0, .ref (g 0)), (1, .int za1), (2, .ref (g 46))]) hx hb dL_addFact_12 rfl hl (by decide) rfl (fun ls hl => ?_)
      refine lv_iconst (v := 1) hx hb dL_addFact_13 (by decide) ?_
      exact hret 14 ls 1 _ H locs _ _ ⟨rfl, by unfold lkX; rw [if_neg ht]⟩ hw (Nat.le_of_ble_eq_true rfl) (Nat.le_of_ble_eq_true rfl) dL_addFact_14
    · refine vx_catch (E := xIS) (name := "java/lang/IllegalStateException") C.2.2.2.1 [⟨0, 9, 12, 13⟩] ⟨0, 9, 15, 15⟩ [] (htb.trans rfl) (fun z hz => by rw [List.mem_singleton.mp hz]; exact Or.inr ⟨by decide, _, C.w k621, C.2.2.2.2.2.1.2.2.2.1 (xIS, xIA) (List.mem_of_getElem? (i := 2) rfl)⟩) rfl (by decide) (C.w k622) (va_Nw.use rfl C.2.2.2.2.2.1.j.2.2.2.2.1) h1 h2 h3 ?_
      refine lv_astore_n (lv' := [(3, .ref q9), (0, .ref (g 0)), (1, .int za1), (2, .ref (g 46))]) hx hb dL_addFact_15 rfl hl (by decide) rfl (fun ls hl => ?_)
      refine lv_iconst (v := 2) hx hb dL_addFact_16 (by decide) ?_
      exact hret 17 ls 2 _ H locs _ _ ⟨rfl, by unfold lkX; rw [if_neg ht]⟩ hw (Nat.le_of_ble_eq_true rfl) (Nat.le_of_ble_eq_true rfl) dL_addFact_17
  · skip
    refine lv_i2l (v := r0.toInt64) hx hb dL_addFact_7 rfl ?_
    refine w_last C hw (k := 46) (n := 1) (a := fun j => (X1 46 j).toInt64) (q47 hN rfl) rfl (x := r0.toInt64) (show ¬ ((0 : Int32) < 0 ∨ 1 ≤ (0 : Int32).toNatClampNeg) by decide) dL_addFact_8 (fun H locs hw => ?_)
    rw [sh46_up (r := r0) rfl] at hw
    refine lv_goto (tgt := 18) hx hb dL_addFact_9 (by decide) ?_
    refine lv_iconst (v := 0) hx hb dL_addFact_18 (by decide) ?_
    exact hret 19 ls 0 _ H locs _ _ ⟨by rw [ht]; rfl, by unfold lkX; rw [if_pos ht]⟩ hw (Nat.le_of_ble_eq_true rfl) (Nat.le_of_ble_eq_true rfl) dL_addFact_19
set_option maxHeartbeats 4000000 in
theorem c_L_takeBack {l : Launch} {D : va_G} {cy : Nat → Nat} {g : Nat → Nat} {N tag : Nat} {X X1 : Nat → Nat → Int32} {za1 : Int32} {r0 : Int32} (hfl : l.stackTraces = false) (hN : 47 ≤ N) (hM : sXi l D cy yX9_takeBack cX9_takeBack 2 (some .boolean) 8 10 80 [.ref (g 0), .int za1] g N X tag r0 X1) (hT : tag = 0 ∨ tag = 1) (hz : r0 = 0 ∨ r0 = 1) : cLi l D cy yL_takeBack cL_takeBack 4 [(0, 16, 19, 13)] 9 10 80 [.ref (g 0), .int za1, .ref (g 46)] g N (shp g cy X) (fun r f' => r = lkc tag 1 ∧ f' = shp g cy (lkX tag r0 X1)) := by
  refine jLi (by decide) rfl hfl (Nat.le_of_ble_eq_true rfl) k630 ?_
  intro p e R s m args below meth c ls A Q hRe C htb hw hl hret
  subst hRe
  have hx := C.1
  have hb := C.2.1
  have hl : lv_has ls 4 [(0, .ref (g 0)), (1, .int za1), (2, .ref (g 46))] := hl
  refine lv_aload_n hx hb dL_takeBack_0 rfl (lv_at hl 2 rfl) ?_
  refine lv_iconst (v := 0) hx hb dL_takeBack_1 (by decide) ?_
  refine lv_aload_n hx hb dL_takeBack_2 rfl (lv_at hl 0 rfl) ?_
  refine lv_iload_n hx hb dL_takeBack_3 rfl (lv_at hl 1 rfl) ?_
  refine s_vXi (r0 := r0) (X' := X1) (tag := tag) C hw (As := [.int za1]) bX9_takeBack k627 (k := 0) (q47 hN rfl) (sh_0 g cy _) rfl hM rfl rfl dL_takeBack_4 ⟨rfl, rfl⟩ (by decide) hl.1 (Nat.le_of_ble_eq_true rfl) ⟨Nat.le_of_ble_eq_true rfl, Nat.le_of_ble_eq_true rfl⟩ (fun ce q9 H locs ht hw h1 h2 h3 => ?_) (fun H locs ht hw => ?_)
  · skip
    rcases hT with rfl | rfl
    · exact absurd rfl ht
    · refine vx_catch (E := xIA) (name := "java/lang/IllegalArgumentException") C.2.2.2.1 [] ⟨0, 16, 19, 13⟩ [] (htb.trans rfl) (fun z hz => absurd hz List.not_mem_nil) rfl (by decide) (C.w k621) (va_Nw.use rfl C.2.2.2.2.2.1.j.2.2.2.1) h1 h2 h3 ?_
      refine lv_astore_n (lv' := [(3, .ref q9), (0, .ref (g 0)), (1, .int za1), (2, .ref (g 46))]) hx hb dL_takeBack_19 rfl hl (by decide) rfl (fun ls hl => ?_)
      refine lv_iconst (v := 1) hx hb dL_takeBack_20 (by decide) ?_
      exact hret 21 ls 1 _ H locs _ _ ⟨rfl, by unfold lkX; rw [if_neg ht]⟩ hw (Nat.le_of_ble_eq_true rfl) (Nat.le_of_ble_eq_true rfl) dL_takeBack_21
  · skip
    refine lv_if_eq (tgt := 14) hx hb dL_takeBack_7 (by decide) (fun cz => ?_) (fun cz => ?_)
    · refine lv_lconst (v := 0) hx hb dL_takeBack_14 (by decide) ?_
      refine w_last C hw (k := 46) (n := 1) (a := fun j => (X1 46 j).toInt64) (q47 hN rfl) rfl (x := 0) (show ¬ ((0 : Int32) < 0 ∨ 1 ≤ (0 : Int32).toNatClampNeg) by decide) dL_takeBack_15 (fun H locs hw => ?_)
      rw [sh46_up (r := r0) (by rw [cz] <;> rfl)] at hw
      refine lv_goto (tgt := 22) hx hb dL_takeBack_16 (by decide) ?_
      refine lv_iconst (v := 0) hx hb dL_takeBack_22 (by decide) ?_
      exact hret 23 ls 0 _ H locs _ _ ⟨by rw [ht]; rfl, by unfold lkX; rw [if_pos ht]⟩ hw (Nat.le_of_ble_eq_true rfl) (Nat.le_of_ble_eq_true rfl) dL_takeBack_23
    · refine lv_lconst (v := 1) hx hb dL_takeBack_10 (by decide) ?_
      refine lv_goto (tgt := 15) hx hb dL_takeBack_11 (by decide) ?_
      refine w_last C hw (k := 46) (n := 1) (a := fun j => (X1 46 j).toInt64) (q47 hN rfl) rfl (x := 1) (show ¬ ((0 : Int32) < 0 ∨ 1 ≤ (0 : Int32).toNatClampNeg) by decide) dL_takeBack_15 (fun H locs hw => ?_)
      rw [sh46_up (r := r0) (by rw [hz.resolve_left cz] <;> rfl)] at hw
      refine lv_goto (tgt := 22) hx hb dL_takeBack_16 (by decide) ?_
      refine lv_iconst (v := 0) hx hb dL_takeBack_22 (by decide) ?_
      exact hret 23 ls 0 _ H locs _ _ ⟨by rw [ht]; rfl, by unfold lkX; rw [if_pos ht]⟩ hw (Nat.le_of_ble_eq_true rfl) (Nat.le_of_ble_eq_true rfl) dL_takeBack_23
set_option maxHeartbeats 4000000 in
theorem c_L_addRule {l : Launch} {D : va_G} {cy : Nat → Nat} {g : Nat → Nat} {N n tag : Nat} {X : Nat → Nat → Int32} {za1 : Int32} {za2 : Int32} {za3 : Int32} {za4 : Int32} {za5 : Int32} {r0 : Int32} (hfl : l.stackTraces = false) (hN : 47 ≤ N) (hM : cXNi l D cy yX9_addRule cX9_addRule 6 (some .int) 9 10 80 [.ref (g 0), .int za1, .int za2, .int za3, .int za4, .int za5] g N (shp g cy X) (fun r u => tag = 0 ∧ r = r0 ∧ u.2.1 = ruN n ∧ (∀ j, j < N → u.1 j = g j) ∧ u.2.2 = shp u.1 cy (ruX X n za1 za2 za3 za4 za5)) (fun E f' => ¬ tag = 0 ∧ E = xN tag ∧ f' = shp g cy X)) (hT : tag = 0 ∨ tag = 1 ∨ tag = 2) : cLNi l D cy yL_addRule cL_addRule 8 [(0, 16, 19, 13), (0, 16, 23, 15)] 10 10 80 [.ref (g 0), .int za1, .int za2, .int za3, .int za4, .int za5, .ref (g 46)] g N (shp g cy X) (fun r u => r = lkc tag 1 ∧ (tag = 0 → u.2.1 = ruN n ∧ (∀ j, j < N → u.1 j = g j) ∧ u.2.2 = shp u.1 cy (up (ruX X n za1 za2 za3 za4 za5) 46 (upd (ruX X n za1 za2 za3 za4 za5 46) 0 r0))) ∧ (¬ tag = 0 → u = (g, N, shp g cy X))) := by
  refine jLNi (by decide) rfl hfl (Nat.le_of_ble_eq_true rfl) k634 ?_
  intro p e R s m args below meth c ls A Q hRe C htb hw hl hret
  subst hRe
  have hx := C.1
  have hb := C.2.1
  have hl : lv_has ls 8 [(0, .ref (g 0)), (1, .int za1), (2, .int za2), (3, .int za3), (4, .int za4), (5, .int za5), (6, .ref (g 46))] := hl
  refine lv_aload hx hb dL_addRule_0 (lv_at hl 6 rfl) ?_
  refine lv_iconst (v := 0) hx hb dL_addRule_2 (by decide) ?_
  refine lv_aload_n hx hb dL_addRule_3 rfl (lv_at hl 0 rfl) ?_
  refine lv_iload_n hx hb dL_addRule_4 rfl (lv_at hl 1 rfl) ?_
  refine lv_iload_n hx hb dL_addRule_5 rfl (lv_at hl 2 rfl) ?_
  refine lv_iload_n hx hb dL_addRule_6 rfl (lv_at hl 3 rfl) ?_
  refine lv_iload hx hb dL_addRule_7 (lv_at hl 4 rfl) ?_
  refine lv_iload hx hb dL_addRule_9 (lv_at hl 5 rfl) ?_
  refine w_vXNi C hw (As := [.int za1, .int za2, .int za3, .int za4, .int za5]) bX9_addRule k631 (k := 0) (q47 hN rfl) (sh_0 g cy _) rfl hM rfl rfl dL_addRule_11 ⟨rfl, rfl⟩ (by decide) hl.1 (Nat.le_of_ble_eq_true rfl) ⟨Nat.le_of_ble_eq_true rfl, Nat.le_of_ble_eq_true rfl⟩ (fun E9 ce q9 f9 H locs hE hw h1 h2 h3 => ?_) (fun r9 g1 N1 f9 H locs hp hw => ?_)
  · obtain ⟨ht, hE1, hf9⟩ := hE
    rw [hf9] at hw
    rw [hE1] at h3
    rcases hT with rfl | rfl | rfl
    · exact absurd rfl ht
    · refine vx_catch (E := xIA) (name := "java/lang/IllegalArgumentException") C.2.2.2.1 [] ⟨0, 16, 19, 13⟩ [⟨0, 16, 23, 15⟩] (htb.trans rfl) (fun z hz => absurd hz List.not_mem_nil) rfl (by decide) (C.w k621) (va_Nw.use rfl C.2.2.2.2.2.1.j.2.2.2.1) h1 h2 h3 ?_
      refine lv_astore (lv' := [(7, .ref q9), (0, .ref (g 0)), (1, .int za1), (2, .int za2), (3, .int za3), (4, .int za4), (5, .int za5), (6, .ref (g 46))]) hx hb dL_addRule_19 hl (by decide) rfl (fun ls hl => ?_)
      refine lv_iconst (v := 1) hx hb dL_addRule_21 (by decide) ?_
      exact hret 22 ls 1 g N _ H locs _ _ ⟨rfl, fun q8 => absurd q8 ht, fun _ => rfl⟩ hw (Nat.le_of_ble_eq_true rfl) (Nat.le_of_ble_eq_true rfl) dL_addRule_22
    · refine vx_catch (E := xIS) (name := "java/lang/IllegalStateException") C.2.2.2.1 [⟨0, 16, 19, 13⟩] ⟨0, 16, 23, 15⟩ [] (htb.trans rfl) (fun z hz => by rw [List.mem_singleton.mp hz]; exact Or.inr ⟨by decide, _, C.w k621, C.2.2.2.2.2.1.2.2.2.1 (xIS, xIA) (List.mem_of_getElem? (i := 2) rfl)⟩) rfl (by decide) (C.w k622) (va_Nw.use rfl C.2.2.2.2.2.1.j.2.2.2.2.1) h1 h2 h3 ?_
      refine lv_astore (lv' := [(7, .ref q9), (0, .ref (g 0)), (1, .int za1), (2, .int za2), (3, .int za3), (4, .int za4), (5, .int za5), (6, .ref (g 46))]) hx hb dL_addRule_23 hl (by decide) rfl (fun ls hl => ?_)
      refine lv_iconst (v := 2) hx hb dL_addRule_25 (by decide) ?_
      exact hret 26 ls 2 g N _ H locs _ _ ⟨rfl, fun q8 => absurd q8 ht, fun _ => rfl⟩ hw (Nat.le_of_ble_eq_true rfl) (Nat.le_of_ble_eq_true rfl) dL_addRule_26
  · obtain ⟨ht, hr9, hN1, hg1, hf9⟩ := hp
    have hN1 : N1 = ruN n := hN1
    have hf9 : f9 = shp g1 cy (ruX X n za1 za2 za3 za4 za5) := hf9
    have hg1 : ∀ j, j < N → g1 j = g j := hg1
    rw [hf9] at hw
    rw [hr9]
    have hN9 : 46 < N1 := by rw [hN1]; have hrn := rid_ge n; unfold ruN addN; split <;> omega
    refine lv_i2l (v := r0.toInt64) hx hb dL_addRule_14 rfl ?_
    rw [← hg1 46 (by omega)]
    refine w_last C hw (k := 46) (n := 1) (a := fun j => ((ruX X n za1 za2 za3 za4 za5) 46 j).toInt64) hN9 rfl (x := r0.toInt64) (show ¬ ((0 : Int32) < 0 ∨ 1 ≤ (0 : Int32).toNatClampNeg) by decide) dL_addRule_15 (fun H locs hw => ?_)
    rw [sh46_up (r := r0) rfl] at hw
    refine lv_goto (tgt := 27) hx hb dL_addRule_16 (by decide) ?_
    refine lv_iconst (v := 0) hx hb dL_addRule_27 (by decide) ?_
    exact hret 28 ls 0 g1 N1 _ H locs _ _ ⟨by rw [ht]; rfl, fun _ => ⟨hN1, hg1, rfl⟩, fun q8 => absurd ht q8⟩ hw (Nat.le_of_ble_eq_true rfl) (Nat.le_of_ble_eq_true rfl) dL_addRule_28
set_option maxHeartbeats 4000000 in
theorem c_L_setPriority {l : Launch} {D : va_G} {cy : Nat → Nat} {g : Nat → Nat} {N tag : Nat} {X X1 : Nat → Nat → Int32} {za1 : Int32} {za2 : Int32} {r0 : Int32} (hfl : l.stackTraces = false) (hN : 47 ≤ N) (hM : sXi l D cy yX9_setPriority cX9_setPriority 5 (some .int) 7 10 80 [.ref (g 0), .int za1, .int za2] g N X tag r0 X1) (hT : tag = 0 ∨ tag = 3 ∨ tag = 1) : cLi l D cy yL_setPriority cL_setPriority 5 [(0, 10, 13, 29), (0, 10, 17, 13)] 8 10 80 [.ref (g 0), .int za1, .int za2, .ref (g 46)] g N (shp g cy X) (fun r f' => r = lkc tag 3 ∧ f' = shp g cy (lkX tag r0 X1)) := by
  refine jLi (by decide) rfl hfl (Nat.le_of_ble_eq_true rfl) k639 ?_
  intro p e R s m args below meth c ls A Q hRe C htb hw hl hret
  subst hRe
  have hx := C.1
  have hb := C.2.1
  have hl : lv_has ls 5 [(0, .ref (g 0)), (1, .int za1), (2, .int za2), (3, .ref (g 46))] := hl
  refine lv_aload_n hx hb dL_setPriority_0 rfl (lv_at hl 3 rfl) ?_
  refine lv_iconst (v := 0) hx hb dL_setPriority_1 (by decide) ?_
  refine lv_aload_n hx hb dL_setPriority_2 rfl (lv_at hl 0 rfl) ?_
  refine lv_iload_n hx hb dL_setPriority_3 rfl (lv_at hl 1 rfl) ?_
  refine lv_iload_n hx hb dL_setPriority_4 rfl (lv_at hl 2 rfl) ?_
  refine s_vXi (r0 := r0) (X' := X1) (tag := tag) C hw (As := [.int za1, .int za2]) bX9_setPriority k636 (k := 0) (q47 hN rfl) (sh_0 g cy _) rfl hM rfl rfl dL_setPriority_5 ⟨rfl, rfl⟩ (by decide) hl.1 (Nat.le_of_ble_eq_true rfl) ⟨Nat.le_of_ble_eq_true rfl, Nat.le_of_ble_eq_true rfl⟩ (fun ce q9 H locs ht hw h1 h2 h3 => ?_) (fun H locs ht hw => ?_)
  · skip
    rcases hT with rfl | rfl | rfl
    · exact absurd rfl ht
    · refine vx_catch (E := xIB) (name := "java/lang/IndexOutOfBoundsException") C.2.2.2.1 [] ⟨0, 10, 13, 29⟩ [⟨0, 10, 17, 13⟩] (htb.trans rfl) (fun z hz => absurd hz List.not_mem_nil) rfl (by decide) (C.w k635) (va_Nw.use rfl C.2.2.2.2.2.1.j.2.2.2.2.2) h1 h2 h3 ?_
      refine lv_astore (lv' := [(4, .ref q9), (0, .ref (g 0)), (1, .int za1), (2, .int za2), (3, .ref (g 46))]) hx hb dL_setPriority_13 hl (by decide) rfl (fun ls hl => ?_)
      refine lv_iconst (v := 1) hx hb dL_setPriority_15 (by decide) ?_
      exact hret 16 ls 1 _ H locs _ _ ⟨rfl, by unfold lkX; rw [if_neg ht]⟩ hw (Nat.le_of_ble_eq_true rfl) (Nat.le_of_ble_eq_true rfl) dL_setPriority_16
    · refine vx_catch (E := xIA) (name := "java/lang/IllegalArgumentException") C.2.2.2.1 [⟨0, 10, 13, 29⟩] ⟨0, 10, 17, 13⟩ [] (htb.trans rfl) (fun z hz => by rw [List.mem_singleton.mp hz]; exact Or.inr ⟨by decide, _, C.w k635, C.2.2.2.2.2.1.2.2.2.1 (xIA, xIB) (List.mem_of_getElem? (i := 1) rfl)⟩) rfl (by decide) (C.w k621) (va_Nw.use rfl C.2.2.2.2.2.1.j.2.2.2.1) h1 h2 h3 ?_
      refine lv_astore (lv' := [(4, .ref q9), (0, .ref (g 0)), (1, .int za1), (2, .int za2), (3, .ref (g 46))]) hx hb dL_setPriority_17 hl (by decide) rfl (fun ls hl => ?_)
      refine lv_iconst (v := 2) hx hb dL_setPriority_19 (by decide) ?_
      exact hret 20 ls 2 _ H locs _ _ ⟨rfl, by unfold lkX; rw [if_neg ht]⟩ hw (Nat.le_of_ble_eq_true rfl) (Nat.le_of_ble_eq_true rfl) dL_setPriority_20
  · skip
    refine lv_i2l (v := r0.toInt64) hx hb dL_setPriority_8 rfl ?_
    refine w_last C hw (k := 46) (n := 1) (a := fun j => (X1 46 j).toInt64) (q47 hN rfl) rfl (x := r0.toInt64) (show ¬ ((0 : Int32) < 0 ∨ 1 ≤ (0 : Int32).toNatClampNeg) by decide) dL_setPriority_9 (fun H locs hw => ?_)
    rw [sh46_up (r := r0) rfl] at hw
    refine lv_goto (tgt := 21) hx hb dL_setPriority_10 (by decide) ?_
    refine lv_iconst (v := 0) hx hb dL_setPriority_21 (by decide) ?_
    exact hret 22 ls 0 _ H locs _ _ ⟨by rw [ht]; rfl, by unfold lkX; rw [if_pos ht]⟩ hw (Nat.le_of_ble_eq_true rfl) (Nat.le_of_ble_eq_true rfl) dL_setPriority_22
set_option maxHeartbeats 4000000 in
theorem c_L_setException {l : Launch} {D : va_G} {cy : Nat → Nat} {g : Nat → Nat} {N tag : Nat} {X X1 : Nat → Nat → Int32} {za1 : Int32} {za2 : Int32} {r0 : Int32} (hfl : l.stackTraces = false) (hN : 47 ≤ N) (hM : sXi l D cy yX9_setException cX9_setException 5 (some .int) 7 10 80 [.ref (g 0), .int za1, .int za2] g N X tag r0 X1) (hT : tag = 0 ∨ tag = 3 ∨ tag = 1) : cLi l D cy yL_setException cL_setException 5 [(0, 10, 13, 29), (0, 10, 17, 13)] 8 10 80 [.ref (g 0), .int za1, .int za2, .ref (g 46)] g N (shp g cy X) (fun r f' => r = lkc tag 3 ∧ f' = shp g cy (lkX tag r0 X1)) := by
  refine jLi (by decide) rfl hfl (Nat.le_of_ble_eq_true rfl) k643 ?_
  intro p e R s m args below meth c ls A Q hRe C htb hw hl hret
  subst hRe
  have hx := C.1
  have hb := C.2.1
  have hl : lv_has ls 5 [(0, .ref (g 0)), (1, .int za1), (2, .int za2), (3, .ref (g 46))] := hl
  refine lv_aload_n hx hb dL_setException_0 rfl (lv_at hl 3 rfl) ?_
  refine lv_iconst (v := 0) hx hb dL_setException_1 (by decide) ?_
  refine lv_aload_n hx hb dL_setException_2 rfl (lv_at hl 0 rfl) ?_
  refine lv_iload_n hx hb dL_setException_3 rfl (lv_at hl 1 rfl) ?_
  refine lv_iload_n hx hb dL_setException_4 rfl (lv_at hl 2 rfl) ?_
  refine s_vXi (r0 := r0) (X' := X1) (tag := tag) C hw (As := [.int za1, .int za2]) bX9_setException k640 (k := 0) (q47 hN rfl) (sh_0 g cy _) rfl hM rfl rfl dL_setException_5 ⟨rfl, rfl⟩ (by decide) hl.1 (Nat.le_of_ble_eq_true rfl) ⟨Nat.le_of_ble_eq_true rfl, Nat.le_of_ble_eq_true rfl⟩ (fun ce q9 H locs ht hw h1 h2 h3 => ?_) (fun H locs ht hw => ?_)
  · skip
    rcases hT with rfl | rfl | rfl
    · exact absurd rfl ht
    · refine vx_catch (E := xIB) (name := "java/lang/IndexOutOfBoundsException") C.2.2.2.1 [] ⟨0, 10, 13, 29⟩ [⟨0, 10, 17, 13⟩] (htb.trans rfl) (fun z hz => absurd hz List.not_mem_nil) rfl (by decide) (C.w k635) (va_Nw.use rfl C.2.2.2.2.2.1.j.2.2.2.2.2) h1 h2 h3 ?_
      refine lv_astore (lv' := [(4, .ref q9), (0, .ref (g 0)), (1, .int za1), (2, .int za2), (3, .ref (g 46))]) hx hb dL_setException_13 hl (by decide) rfl (fun ls hl => ?_)
      refine lv_iconst (v := 1) hx hb dL_setException_15 (by decide) ?_
      exact hret 16 ls 1 _ H locs _ _ ⟨rfl, by unfold lkX; rw [if_neg ht]⟩ hw (Nat.le_of_ble_eq_true rfl) (Nat.le_of_ble_eq_true rfl) dL_setException_16
    · refine vx_catch (E := xIA) (name := "java/lang/IllegalArgumentException") C.2.2.2.1 [⟨0, 10, 13, 29⟩] ⟨0, 10, 17, 13⟩ [] (htb.trans rfl) (fun z hz => by rw [List.mem_singleton.mp hz]; exact Or.inr ⟨by decide, _, C.w k635, C.2.2.2.2.2.1.2.2.2.1 (xIA, xIB) (List.mem_of_getElem? (i := 1) rfl)⟩) rfl (by decide) (C.w k621) (va_Nw.use rfl C.2.2.2.2.2.1.j.2.2.2.1) h1 h2 h3 ?_
      refine lv_astore (lv' := [(4, .ref q9), (0, .ref (g 0)), (1, .int za1), (2, .int za2), (3, .ref (g 46))]) hx hb dL_setException_17 hl (by decide) rfl (fun ls hl => ?_)
      refine lv_iconst (v := 2) hx hb dL_setException_19 (by decide) ?_
      exact hret 20 ls 2 _ H locs _ _ ⟨rfl, by unfold lkX; rw [if_neg ht]⟩ hw (Nat.le_of_ble_eq_true rfl) (Nat.le_of_ble_eq_true rfl) dL_setException_20
  · skip
    refine lv_i2l (v := r0.toInt64) hx hb dL_setException_8 rfl ?_
    refine w_last C hw (k := 46) (n := 1) (a := fun j => (X1 46 j).toInt64) (q47 hN rfl) rfl (x := r0.toInt64) (show ¬ ((0 : Int32) < 0 ∨ 1 ≤ (0 : Int32).toNatClampNeg) by decide) dL_setException_9 (fun H locs hw => ?_)
    rw [sh46_up (r := r0) rfl] at hw
    refine lv_goto (tgt := 21) hx hb dL_setException_10 (by decide) ?_
    refine lv_iconst (v := 0) hx hb dL_setException_21 (by decide) ?_
    exact hret 22 ls 0 _ H locs _ _ ⟨by rw [ht]; rfl, by unfold lkX; rw [if_pos ht]⟩ hw (Nat.le_of_ble_eq_true rfl) (Nat.le_of_ble_eq_true rfl) dL_setException_22
set_option maxHeartbeats 4000000 in
theorem c_L_turn {l : Launch} {D : va_G} {cy : Nat → Nat} {g : Nat → Nat} {N tag : Nat} {X X1 : Nat → Nat → Int32} {za1 : Int32} {za2 : Int32} {r0 : Int32} (hfl : l.stackTraces = false) (hN : 47 ≤ N) (hM : sXi l D cy yX9_turn cX9_turn 5 (some .boolean) 7 10 80 [.ref (g 0), .int za1, .int za2] g N X tag r0 X1) (hT : tag = 0 ∨ tag = 3) (hz : r0 = 0 ∨ r0 = 1) : cLi l D cy yL_turn cL_turn 5 [(0, 17, 20, 29)] 8 10 80 [.ref (g 0), .int za1, .int za2, .ref (g 46)] g N (shp g cy X) (fun r f' => r = lkc tag 3 ∧ f' = shp g cy (lkX tag r0 X1)) := by
  refine jLi (by decide) rfl hfl (Nat.le_of_ble_eq_true rfl) k647 ?_
  intro p e R s m args below meth c ls A Q hRe C htb hw hl hret
  subst hRe
  have hx := C.1
  have hb := C.2.1
  have hl : lv_has ls 5 [(0, .ref (g 0)), (1, .int za1), (2, .int za2), (3, .ref (g 46))] := hl
  refine lv_aload_n hx hb dL_turn_0 rfl (lv_at hl 3 rfl) ?_
  refine lv_iconst (v := 0) hx hb dL_turn_1 (by decide) ?_
  refine lv_aload_n hx hb dL_turn_2 rfl (lv_at hl 0 rfl) ?_
  refine lv_iload_n hx hb dL_turn_3 rfl (lv_at hl 1 rfl) ?_
  refine lv_iload_n hx hb dL_turn_4 rfl (lv_at hl 2 rfl) ?_
  refine s_vXi (r0 := r0) (X' := X1) (tag := tag) C hw (As := [.int za1, .int za2]) bX9_turn k644 (k := 0) (q47 hN rfl) (sh_0 g cy _) rfl hM rfl rfl dL_turn_5 ⟨rfl, rfl⟩ (by decide) hl.1 (Nat.le_of_ble_eq_true rfl) ⟨Nat.le_of_ble_eq_true rfl, Nat.le_of_ble_eq_true rfl⟩ (fun ce q9 H locs ht hw h1 h2 h3 => ?_) (fun H locs ht hw => ?_)
  · skip
    rcases hT with rfl | rfl
    · exact absurd rfl ht
    · refine vx_catch (E := xIB) (name := "java/lang/IndexOutOfBoundsException") C.2.2.2.1 [] ⟨0, 17, 20, 29⟩ [] (htb.trans rfl) (fun z hz => absurd hz List.not_mem_nil) rfl (by decide) (C.w k635) (va_Nw.use rfl C.2.2.2.2.2.1.j.2.2.2.2.2) h1 h2 h3 ?_
      refine lv_astore (lv' := [(4, .ref q9), (0, .ref (g 0)), (1, .int za1), (2, .int za2), (3, .ref (g 46))]) hx hb dL_turn_20 hl (by decide) rfl (fun ls hl => ?_)
      refine lv_iconst (v := 1) hx hb dL_turn_22 (by decide) ?_
      exact hret 23 ls 1 _ H locs _ _ ⟨rfl, by unfold lkX; rw [if_neg ht]⟩ hw (Nat.le_of_ble_eq_true rfl) (Nat.le_of_ble_eq_true rfl) dL_turn_23
  · skip
    refine lv_if_eq (tgt := 15) hx hb dL_turn_8 (by decide) (fun cz => ?_) (fun cz => ?_)
    · refine lv_lconst (v := 0) hx hb dL_turn_15 (by decide) ?_
      refine w_last C hw (k := 46) (n := 1) (a := fun j => (X1 46 j).toInt64) (q47 hN rfl) rfl (x := 0) (show ¬ ((0 : Int32) < 0 ∨ 1 ≤ (0 : Int32).toNatClampNeg) by decide) dL_turn_16 (fun H locs hw => ?_)
      rw [sh46_up (r := r0) (by rw [cz] <;> rfl)] at hw
      refine lv_goto (tgt := 24) hx hb dL_turn_17 (by decide) ?_
      refine lv_iconst (v := 0) hx hb dL_turn_24 (by decide) ?_
      exact hret 25 ls 0 _ H locs _ _ ⟨by rw [ht]; rfl, by unfold lkX; rw [if_pos ht]⟩ hw (Nat.le_of_ble_eq_true rfl) (Nat.le_of_ble_eq_true rfl) dL_turn_25
    · refine lv_lconst (v := 1) hx hb dL_turn_11 (by decide) ?_
      refine lv_goto (tgt := 16) hx hb dL_turn_12 (by decide) ?_
      refine w_last C hw (k := 46) (n := 1) (a := fun j => (X1 46 j).toInt64) (q47 hN rfl) rfl (x := 1) (show ¬ ((0 : Int32) < 0 ∨ 1 ≤ (0 : Int32).toNatClampNeg) by decide) dL_turn_16 (fun H locs hw => ?_)
      rw [sh46_up (r := r0) (by rw [hz.resolve_left cz] <;> rfl)] at hw
      refine lv_goto (tgt := 24) hx hb dL_turn_17 (by decide) ?_
      refine lv_iconst (v := 0) hx hb dL_turn_24 (by decide) ?_
      exact hret 25 ls 0 _ H locs _ _ ⟨by rw [ht]; rfl, by unfold lkX; rw [if_pos ht]⟩ hw (Nat.le_of_ble_eq_true rfl) (Nat.le_of_ble_eq_true rfl) dL_turn_25
set_option maxHeartbeats 4000000 in
theorem c_L_conclusion {l : Launch} {D : va_G} {cy : Nat → Nat} {g : Nat → Nat} {N tag : Nat} {X X1 : Nat → Nat → Int32} {za1 : Int32} {r0 : Int32} (hfl : l.stackTraces = false) (hN : 47 ≤ N) (hM : sXi l D cy yX9_conclusion cX9_conclusion 2 (some .int) 9 10 80 [.ref (g 0), .int za1] g N X tag r0 X1) (hT : tag = 0 ∨ tag = 2 ∨ tag = 3) : cLi l D cy yL_conclusion cL_conclusion 4 [(0, 9, 12, 15), (0, 9, 15, 29)] 10 10 80 [.ref (g 0), .int za1, .ref (g 46)] g N (shp g cy X) (fun r f' => r = lkc tag 2 ∧ f' = shp g cy (lkX tag r0 X1)) := by
  refine jLi (by decide) rfl hfl (Nat.le_of_ble_eq_true rfl) k651 ?_
  intro p e R s m args below meth c ls A Q hRe C htb hw hl hret
  subst hRe
  have hx := C.1
  have hb := C.2.1
  have hl : lv_has ls 4 [(0, .ref (g 0)), (1, .int za1), (2, .ref (g 46))] := hl
  refine lv_aload_n hx hb dL_conclusion_0 rfl (lv_at hl 2 rfl) ?_
  refine lv_iconst (v := 0) hx hb dL_conclusion_1 (by decide) ?_
  refine lv_aload_n hx hb dL_conclusion_2 rfl (lv_at hl 0 rfl) ?_
  refine lv_iload_n hx hb dL_conclusion_3 rfl (lv_at hl 1 rfl) ?_
  refine s_vXi (r0 := r0) (X' := X1) (tag := tag) C hw (As := [.int za1]) bX9_conclusion k648 (k := 0) (q47 hN rfl) (sh_0 g cy _) rfl hM rfl rfl dL_conclusion_4 ⟨rfl, rfl⟩ (by decide) hl.1 (Nat.le_of_ble_eq_true rfl) ⟨Nat.le_of_ble_eq_true rfl, Nat.le_of_ble_eq_true rfl⟩ (fun ce q9 H locs ht hw h1 h2 h3 => ?_) (fun H locs ht hw => ?_)
  · skip
    rcases hT with rfl | rfl | rfl
    · exact absurd rfl ht
    · refine vx_catch (E := xIS) (name := "java/lang/IllegalStateException") C.2.2.2.1 [] ⟨0, 9, 12, 15⟩ [⟨0, 9, 15, 29⟩] (htb.trans rfl) (fun z hz => absurd hz List.not_mem_nil) rfl (by decide) (C.w k622) (va_Nw.use rfl C.2.2.2.2.2.1.j.2.2.2.2.1) h1 h2 h3 ?_
      refine lv_astore_n (lv' := [(3, .ref q9), (0, .ref (g 0)), (1, .int za1), (2, .ref (g 46))]) hx hb dL_conclusion_12 rfl hl (by decide) rfl (fun ls hl => ?_)
      refine lv_iconst (v := 1) hx hb dL_conclusion_13 (by decide) ?_
      exact hret 14 ls 1 _ H locs _ _ ⟨rfl, by unfold lkX; rw [if_neg ht]⟩ hw (Nat.le_of_ble_eq_true rfl) (Nat.le_of_ble_eq_true rfl) dL_conclusion_14
    · refine vx_catch (E := xIB) (name := "java/lang/IndexOutOfBoundsException") C.2.2.2.1 [⟨0, 9, 12, 15⟩] ⟨0, 9, 15, 29⟩ [] (htb.trans rfl) (fun z hz => by rw [List.mem_singleton.mp hz]; exact Or.inr ⟨by decide, _, C.w k622, C.2.2.2.2.2.1.2.2.2.1 (xIB, xIS) (List.mem_of_getElem? (i := 5) rfl)⟩) rfl (by decide) (C.w k635) (va_Nw.use rfl C.2.2.2.2.2.1.j.2.2.2.2.2) h1 h2 h3 ?_
      refine lv_astore_n (lv' := [(3, .ref q9), (0, .ref (g 0)), (1, .int za1), (2, .ref (g 46))]) hx hb dL_conclusion_15 rfl hl (by decide) rfl (fun ls hl => ?_)
      refine lv_iconst (v := 2) hx hb dL_conclusion_16 (by decide) ?_
      exact hret 17 ls 2 _ H locs _ _ ⟨rfl, by unfold lkX; rw [if_neg ht]⟩ hw (Nat.le_of_ble_eq_true rfl) (Nat.le_of_ble_eq_true rfl) dL_conclusion_17
  · skip
    refine lv_i2l (v := r0.toInt64) hx hb dL_conclusion_7 rfl ?_
    refine w_last C hw (k := 46) (n := 1) (a := fun j => (X1 46 j).toInt64) (q47 hN rfl) rfl (x := r0.toInt64) (show ¬ ((0 : Int32) < 0 ∨ 1 ≤ (0 : Int32).toNatClampNeg) by decide) dL_conclusion_8 (fun H locs hw => ?_)
    rw [sh46_up (r := r0) rfl] at hw
    refine lv_goto (tgt := 18) hx hb dL_conclusion_9 (by decide) ?_
    refine lv_iconst (v := 0) hx hb dL_conclusion_18 (by decide) ?_
    exact hret 19 ls 0 _ H locs _ _ ⟨by rw [ht]; rfl, by unfold lkX; rw [if_pos ht]⟩ hw (Nat.le_of_ble_eq_true rfl) (Nat.le_of_ble_eq_true rfl) dL_conclusion_19
set_option maxHeartbeats 4000000 in
theorem c_L_madeBy {l : Launch} {D : va_G} {cy : Nat → Nat} {g : Nat → Nat} {N tag : Nat} {X X1 : Nat → Nat → Int32} {za1 : Int32} {r0 : Int32} (hfl : l.stackTraces = false) (hN : 47 ≤ N) (hM : sXi l D cy yX9_madeBy cX9_madeBy 2 (some .int) 9 10 80 [.ref (g 0), .int za1] g N X tag r0 X1) (hT : tag = 0 ∨ tag = 2 ∨ tag = 3) : cLi l D cy yL_madeBy cL_madeBy 4 [(0, 9, 12, 15), (0, 9, 15, 29)] 10 10 80 [.ref (g 0), .int za1, .ref (g 46)] g N (shp g cy X) (fun r f' => r = lkc tag 2 ∧ f' = shp g cy (lkX tag r0 X1)) := by
  refine jLi (by decide) rfl hfl (Nat.le_of_ble_eq_true rfl) k655 ?_
  intro p e R s m args below meth c ls A Q hRe C htb hw hl hret
  subst hRe
  have hx := C.1
  have hb := C.2.1
  have hl : lv_has ls 4 [(0, .ref (g 0)), (1, .int za1), (2, .ref (g 46))] := hl
  refine lv_aload_n hx hb dL_madeBy_0 rfl (lv_at hl 2 rfl) ?_
  refine lv_iconst (v := 0) hx hb dL_madeBy_1 (by decide) ?_
  refine lv_aload_n hx hb dL_madeBy_2 rfl (lv_at hl 0 rfl) ?_
  refine lv_iload_n hx hb dL_madeBy_3 rfl (lv_at hl 1 rfl) ?_
  refine s_vXi (r0 := r0) (X' := X1) (tag := tag) C hw (As := [.int za1]) bX9_madeBy k652 (k := 0) (q47 hN rfl) (sh_0 g cy _) rfl hM rfl rfl dL_madeBy_4 ⟨rfl, rfl⟩ (by decide) hl.1 (Nat.le_of_ble_eq_true rfl) ⟨Nat.le_of_ble_eq_true rfl, Nat.le_of_ble_eq_true rfl⟩ (fun ce q9 H locs ht hw h1 h2 h3 => ?_) (fun H locs ht hw => ?_)
  · skip
    rcases hT with rfl | rfl | rfl
    · exact absurd rfl ht
    · refine vx_catch (E := xIS) (name := "java/lang/IllegalStateException") C.2.2.2.1 [] ⟨0, 9, 12, 15⟩ [⟨0, 9, 15, 29⟩] (htb.trans rfl) (fun z hz => absurd hz List.not_mem_nil) rfl (by decide) (C.w k622) (va_Nw.use rfl C.2.2.2.2.2.1.j.2.2.2.2.1) h1 h2 h3 ?_
      refine lv_astore_n (lv' := [(3, .ref q9), (0, .ref (g 0)), (1, .int za1), (2, .ref (g 46))]) hx hb dL_madeBy_12 rfl hl (by decide) rfl (fun ls hl => ?_)
      refine lv_iconst (v := 1) hx hb dL_madeBy_13 (by decide) ?_
      exact hret 14 ls 1 _ H locs _ _ ⟨rfl, by unfold lkX; rw [if_neg ht]⟩ hw (Nat.le_of_ble_eq_true rfl) (Nat.le_of_ble_eq_true rfl) dL_madeBy_14
    · refine vx_catch (E := xIB) (name := "java/lang/IndexOutOfBoundsException") C.2.2.2.1 [⟨0, 9, 12, 15⟩] ⟨0, 9, 15, 29⟩ [] (htb.trans rfl) (fun z hz => by rw [List.mem_singleton.mp hz]; exact Or.inr ⟨by decide, _, C.w k622, C.2.2.2.2.2.1.2.2.2.1 (xIB, xIS) (List.mem_of_getElem? (i := 5) rfl)⟩) rfl (by decide) (C.w k635) (va_Nw.use rfl C.2.2.2.2.2.1.j.2.2.2.2.2) h1 h2 h3 ?_
      refine lv_astore_n (lv' := [(3, .ref q9), (0, .ref (g 0)), (1, .int za1), (2, .ref (g 46))]) hx hb dL_madeBy_15 rfl hl (by decide) rfl (fun ls hl => ?_)
      refine lv_iconst (v := 2) hx hb dL_madeBy_16 (by decide) ?_
      exact hret 17 ls 2 _ H locs _ _ ⟨rfl, by unfold lkX; rw [if_neg ht]⟩ hw (Nat.le_of_ble_eq_true rfl) (Nat.le_of_ble_eq_true rfl) dL_madeBy_17
  · skip
    refine lv_i2l (v := r0.toInt64) hx hb dL_madeBy_7 rfl ?_
    refine w_last C hw (k := 46) (n := 1) (a := fun j => (X1 46 j).toInt64) (q47 hN rfl) rfl (x := r0.toInt64) (show ¬ ((0 : Int32) < 0 ∨ 1 ≤ (0 : Int32).toNatClampNeg) by decide) dL_madeBy_8 (fun H locs hw => ?_)
    rw [sh46_up (r := r0) rfl] at hw
    refine lv_goto (tgt := 18) hx hb dL_madeBy_9 (by decide) ?_
    refine lv_iconst (v := 0) hx hb dL_madeBy_18 (by decide) ?_
    exact hret 19 ls 0 _ H locs _ _ ⟨by rw [ht]; rfl, by unfold lkX; rw [if_pos ht]⟩ hw (Nat.le_of_ble_eq_true rfl) (Nat.le_of_ble_eq_true rfl) dL_madeBy_19
set_option maxHeartbeats 4000000 in
theorem c_L_part {l : Launch} {D : va_G} {cy : Nat → Nat} {g : Nat → Nat} {N tag : Nat} {X X1 : Nat → Nat → Int32} {za1 : Int32} {za2 : Int32} {r0 : Int32} (hfl : l.stackTraces = false) (hN : 47 ≤ N) (hM : sXi l D cy yX9_part cX9_part 4 (some .int) 9 10 80 [.ref (g 0), .int za1, .int za2] g N X tag r0 X1) (hT : tag = 0 ∨ tag = 2 ∨ tag = 3) : cLi l D cy yL_part cL_part 5 [(0, 10, 13, 15), (0, 10, 17, 29)] 10 10 80 [.ref (g 0), .int za1, .int za2, .ref (g 46)] g N (shp g cy X) (fun r f' => r = lkc tag 2 ∧ f' = shp g cy (lkX tag r0 X1)) := by
  refine jLi (by decide) rfl hfl (Nat.le_of_ble_eq_true rfl) k659 ?_
  intro p e R s m args below meth c ls A Q hRe C htb hw hl hret
  subst hRe
  have hx := C.1
  have hb := C.2.1
  have hl : lv_has ls 5 [(0, .ref (g 0)), (1, .int za1), (2, .int za2), (3, .ref (g 46))] := hl
  refine lv_aload_n hx hb dL_part_0 rfl (lv_at hl 3 rfl) ?_
  refine lv_iconst (v := 0) hx hb dL_part_1 (by decide) ?_
  refine lv_aload_n hx hb dL_part_2 rfl (lv_at hl 0 rfl) ?_
  refine lv_iload_n hx hb dL_part_3 rfl (lv_at hl 1 rfl) ?_
  refine lv_iload_n hx hb dL_part_4 rfl (lv_at hl 2 rfl) ?_
  refine s_vXi (r0 := r0) (X' := X1) (tag := tag) C hw (As := [.int za1, .int za2]) bX9_part k656 (k := 0) (q47 hN rfl) (sh_0 g cy _) rfl hM rfl rfl dL_part_5 ⟨rfl, rfl⟩ (by decide) hl.1 (Nat.le_of_ble_eq_true rfl) ⟨Nat.le_of_ble_eq_true rfl, Nat.le_of_ble_eq_true rfl⟩ (fun ce q9 H locs ht hw h1 h2 h3 => ?_) (fun H locs ht hw => ?_)
  · skip
    rcases hT with rfl | rfl | rfl
    · exact absurd rfl ht
    · refine vx_catch (E := xIS) (name := "java/lang/IllegalStateException") C.2.2.2.1 [] ⟨0, 10, 13, 15⟩ [⟨0, 10, 17, 29⟩] (htb.trans rfl) (fun z hz => absurd hz List.not_mem_nil) rfl (by decide) (C.w k622) (va_Nw.use rfl C.2.2.2.2.2.1.j.2.2.2.2.1) h1 h2 h3 ?_
      refine lv_astore (lv' := [(4, .ref q9), (0, .ref (g 0)), (1, .int za1), (2, .int za2), (3, .ref (g 46))]) hx hb dL_part_13 hl (by decide) rfl (fun ls hl => ?_)
      refine lv_iconst (v := 1) hx hb dL_part_15 (by decide) ?_
      exact hret 16 ls 1 _ H locs _ _ ⟨rfl, by unfold lkX; rw [if_neg ht]⟩ hw (Nat.le_of_ble_eq_true rfl) (Nat.le_of_ble_eq_true rfl) dL_part_16
    · refine vx_catch (E := xIB) (name := "java/lang/IndexOutOfBoundsException") C.2.2.2.1 [⟨0, 10, 13, 15⟩] ⟨0, 10, 17, 29⟩ [] (htb.trans rfl) (fun z hz => by rw [List.mem_singleton.mp hz]; exact Or.inr ⟨by decide, _, C.w k622, C.2.2.2.2.2.1.2.2.2.1 (xIB, xIS) (List.mem_of_getElem? (i := 5) rfl)⟩) rfl (by decide) (C.w k635) (va_Nw.use rfl C.2.2.2.2.2.1.j.2.2.2.2.2) h1 h2 h3 ?_
      refine lv_astore (lv' := [(4, .ref q9), (0, .ref (g 0)), (1, .int za1), (2, .int za2), (3, .ref (g 46))]) hx hb dL_part_17 hl (by decide) rfl (fun ls hl => ?_)
      refine lv_iconst (v := 2) hx hb dL_part_19 (by decide) ?_
      exact hret 20 ls 2 _ H locs _ _ ⟨rfl, by unfold lkX; rw [if_neg ht]⟩ hw (Nat.le_of_ble_eq_true rfl) (Nat.le_of_ble_eq_true rfl) dL_part_20
  · skip
    refine lv_i2l (v := r0.toInt64) hx hb dL_part_8 rfl ?_
    refine w_last C hw (k := 46) (n := 1) (a := fun j => (X1 46 j).toInt64) (q47 hN rfl) rfl (x := r0.toInt64) (show ¬ ((0 : Int32) < 0 ∨ 1 ≤ (0 : Int32).toNatClampNeg) by decide) dL_part_9 (fun H locs hw => ?_)
    rw [sh46_up (r := r0) rfl] at hw
    refine lv_goto (tgt := 21) hx hb dL_part_10 (by decide) ?_
    refine lv_iconst (v := 0) hx hb dL_part_21 (by decide) ?_
    exact hret 22 ls 0 _ H locs _ _ ⟨by rw [ht]; rfl, by unfold lkX; rw [if_pos ht]⟩ hw (Nat.le_of_ble_eq_true rfl) (Nat.le_of_ble_eq_true rfl) dL_part_22
set_option maxHeartbeats 4000000 in
theorem c_L_depth {l : Launch} {D : va_G} {cy : Nat → Nat} {g : Nat → Nat} {N tag : Nat} {X X1 : Nat → Nat → Int32} {za1 : Int32} {r0 : Int32} (hfl : l.stackTraces = false) (hN : 47 ≤ N) (hM : sXi l D cy yX9_depth cX9_depth 2 (some .int) 9 10 80 [.ref (g 0), .int za1] g N X tag r0 X1) (hT : tag = 0 ∨ tag = 2 ∨ tag = 3) : cLi l D cy yL_depth cL_depth 4 [(0, 9, 12, 15), (0, 9, 15, 29)] 10 10 80 [.ref (g 0), .int za1, .ref (g 46)] g N (shp g cy X) (fun r f' => r = lkc tag 2 ∧ f' = shp g cy (lkX tag r0 X1)) := by
  refine jLi (by decide) rfl hfl (Nat.le_of_ble_eq_true rfl) k663 ?_
  intro p e R s m args below meth c ls A Q hRe C htb hw hl hret
  subst hRe
  have hx := C.1
  have hb := C.2.1
  have hl : lv_has ls 4 [(0, .ref (g 0)), (1, .int za1), (2, .ref (g 46))] := hl
  refine lv_aload_n hx hb dL_depth_0 rfl (lv_at hl 2 rfl) ?_
  refine lv_iconst (v := 0) hx hb dL_depth_1 (by decide) ?_
  refine lv_aload_n hx hb dL_depth_2 rfl (lv_at hl 0 rfl) ?_
  refine lv_iload_n hx hb dL_depth_3 rfl (lv_at hl 1 rfl) ?_
  refine s_vXi (r0 := r0) (X' := X1) (tag := tag) C hw (As := [.int za1]) bX9_depth k660 (k := 0) (q47 hN rfl) (sh_0 g cy _) rfl hM rfl rfl dL_depth_4 ⟨rfl, rfl⟩ (by decide) hl.1 (Nat.le_of_ble_eq_true rfl) ⟨Nat.le_of_ble_eq_true rfl, Nat.le_of_ble_eq_true rfl⟩ (fun ce q9 H locs ht hw h1 h2 h3 => ?_) (fun H locs ht hw => ?_)
  · skip
    rcases hT with rfl | rfl | rfl
    · exact absurd rfl ht
    · refine vx_catch (E := xIS) (name := "java/lang/IllegalStateException") C.2.2.2.1 [] ⟨0, 9, 12, 15⟩ [⟨0, 9, 15, 29⟩] (htb.trans rfl) (fun z hz => absurd hz List.not_mem_nil) rfl (by decide) (C.w k622) (va_Nw.use rfl C.2.2.2.2.2.1.j.2.2.2.2.1) h1 h2 h3 ?_
      refine lv_astore_n (lv' := [(3, .ref q9), (0, .ref (g 0)), (1, .int za1), (2, .ref (g 46))]) hx hb dL_depth_12 rfl hl (by decide) rfl (fun ls hl => ?_)
      refine lv_iconst (v := 1) hx hb dL_depth_13 (by decide) ?_
      exact hret 14 ls 1 _ H locs _ _ ⟨rfl, by unfold lkX; rw [if_neg ht]⟩ hw (Nat.le_of_ble_eq_true rfl) (Nat.le_of_ble_eq_true rfl) dL_depth_14
    · refine vx_catch (E := xIB) (name := "java/lang/IndexOutOfBoundsException") C.2.2.2.1 [⟨0, 9, 12, 15⟩] ⟨0, 9, 15, 29⟩ [] (htb.trans rfl) (fun z hz => by rw [List.mem_singleton.mp hz]; exact Or.inr ⟨by decide, _, C.w k622, C.2.2.2.2.2.1.2.2.2.1 (xIB, xIS) (List.mem_of_getElem? (i := 5) rfl)⟩) rfl (by decide) (C.w k635) (va_Nw.use rfl C.2.2.2.2.2.1.j.2.2.2.2.2) h1 h2 h3 ?_
      refine lv_astore_n (lv' := [(3, .ref q9), (0, .ref (g 0)), (1, .int za1), (2, .ref (g 46))]) hx hb dL_depth_15 rfl hl (by decide) rfl (fun ls hl => ?_)
      refine lv_iconst (v := 2) hx hb dL_depth_16 (by decide) ?_
      exact hret 17 ls 2 _ H locs _ _ ⟨rfl, by unfold lkX; rw [if_neg ht]⟩ hw (Nat.le_of_ble_eq_true rfl) (Nat.le_of_ble_eq_true rfl) dL_depth_17
  · skip
    refine lv_i2l (v := r0.toInt64) hx hb dL_depth_7 rfl ?_
    refine w_last C hw (k := 46) (n := 1) (a := fun j => (X1 46 j).toInt64) (q47 hN rfl) rfl (x := r0.toInt64) (show ¬ ((0 : Int32) < 0 ∨ 1 ≤ (0 : Int32).toNatClampNeg) by decide) dL_depth_8 (fun H locs hw => ?_)
    rw [sh46_up (r := r0) rfl] at hw
    refine lv_goto (tgt := 18) hx hb dL_depth_9 (by decide) ?_
    refine lv_iconst (v := 0) hx hb dL_depth_18 (by decide) ?_
    exact hret 19 ls 0 _ H locs _ _ ⟨by rw [ht]; rfl, by unfold lkX; rw [if_pos ht]⟩ hw (Nat.le_of_ble_eq_true rfl) (Nat.le_of_ble_eq_true rfl) dL_depth_19
set_option maxHeartbeats 4000000 in
theorem c_L_attacks {l : Launch} {D : va_G} {cy : Nat → Nat} {g : Nat → Nat} {N tag : Nat} {X X1 : Nat → Nat → Int32} {za1 : Int32} {za2 : Int32} {r0 : Int32} (hfl : l.stackTraces = false) (hN : 47 ≤ N) (hM : sXi l D cy yX9_attacks cX9_attacks 3 (some .boolean) 9 10 80 [.ref (g 0), .int za1, .int za2] g N X tag r0 X1) (hT : tag = 0 ∨ tag = 2 ∨ tag = 3) (hz : r0 = 0 ∨ r0 = 1) : cLi l D cy yL_attacks cL_attacks 5 [(0, 17, 20, 15), (0, 17, 24, 29)] 10 10 80 [.ref (g 0), .int za1, .int za2, .ref (g 46)] g N (shp g cy X) (fun r f' => r = lkc tag 2 ∧ f' = shp g cy (lkX tag r0 X1)) := by
  refine jLi (by decide) rfl hfl (Nat.le_of_ble_eq_true rfl) k667 ?_
  intro p e R s m args below meth c ls A Q hRe C htb hw hl hret
  subst hRe
  have hx := C.1
  have hb := C.2.1
  have hl : lv_has ls 5 [(0, .ref (g 0)), (1, .int za1), (2, .int za2), (3, .ref (g 46))] := hl
  refine lv_aload_n hx hb dL_attacks_0 rfl (lv_at hl 3 rfl) ?_
  refine lv_iconst (v := 0) hx hb dL_attacks_1 (by decide) ?_
  refine lv_aload_n hx hb dL_attacks_2 rfl (lv_at hl 0 rfl) ?_
  refine lv_iload_n hx hb dL_attacks_3 rfl (lv_at hl 1 rfl) ?_
  refine lv_iload_n hx hb dL_attacks_4 rfl (lv_at hl 2 rfl) ?_
  refine s_vXi (r0 := r0) (X' := X1) (tag := tag) C hw (As := [.int za1, .int za2]) bX9_attacks k664 (k := 0) (q47 hN rfl) (sh_0 g cy _) rfl hM rfl rfl dL_attacks_5 ⟨rfl, rfl⟩ (by decide) hl.1 (Nat.le_of_ble_eq_true rfl) ⟨Nat.le_of_ble_eq_true rfl, Nat.le_of_ble_eq_true rfl⟩ (fun ce q9 H locs ht hw h1 h2 h3 => ?_) (fun H locs ht hw => ?_)
  · skip
    rcases hT with rfl | rfl | rfl
    · exact absurd rfl ht
    · refine vx_catch (E := xIS) (name := "java/lang/IllegalStateException") C.2.2.2.1 [] ⟨0, 17, 20, 15⟩ [⟨0, 17, 24, 29⟩] (htb.trans rfl) (fun z hz => absurd hz List.not_mem_nil) rfl (by decide) (C.w k622) (va_Nw.use rfl C.2.2.2.2.2.1.j.2.2.2.2.1) h1 h2 h3 ?_
      refine lv_astore (lv' := [(4, .ref q9), (0, .ref (g 0)), (1, .int za1), (2, .int za2), (3, .ref (g 46))]) hx hb dL_attacks_20 hl (by decide) rfl (fun ls hl => ?_)
      refine lv_iconst (v := 1) hx hb dL_attacks_22 (by decide) ?_
      exact hret 23 ls 1 _ H locs _ _ ⟨rfl, by unfold lkX; rw [if_neg ht]⟩ hw (Nat.le_of_ble_eq_true rfl) (Nat.le_of_ble_eq_true rfl) dL_attacks_23
    · refine vx_catch (E := xIB) (name := "java/lang/IndexOutOfBoundsException") C.2.2.2.1 [⟨0, 17, 20, 15⟩] ⟨0, 17, 24, 29⟩ [] (htb.trans rfl) (fun z hz => by rw [List.mem_singleton.mp hz]; exact Or.inr ⟨by decide, _, C.w k622, C.2.2.2.2.2.1.2.2.2.1 (xIB, xIS) (List.mem_of_getElem? (i := 5) rfl)⟩) rfl (by decide) (C.w k635) (va_Nw.use rfl C.2.2.2.2.2.1.j.2.2.2.2.2) h1 h2 h3 ?_
      refine lv_astore (lv' := [(4, .ref q9), (0, .ref (g 0)), (1, .int za1), (2, .int za2), (3, .ref (g 46))]) hx hb dL_attacks_24 hl (by decide) rfl (fun ls hl => ?_)
      refine lv_iconst (v := 2) hx hb dL_attacks_26 (by decide) ?_
      exact hret 27 ls 2 _ H locs _ _ ⟨rfl, by unfold lkX; rw [if_neg ht]⟩ hw (Nat.le_of_ble_eq_true rfl) (Nat.le_of_ble_eq_true rfl) dL_attacks_27
  · skip
    refine lv_if_eq (tgt := 15) hx hb dL_attacks_8 (by decide) (fun cz => ?_) (fun cz => ?_)
    · refine lv_lconst (v := 0) hx hb dL_attacks_15 (by decide) ?_
      refine w_last C hw (k := 46) (n := 1) (a := fun j => (X1 46 j).toInt64) (q47 hN rfl) rfl (x := 0) (show ¬ ((0 : Int32) < 0 ∨ 1 ≤ (0 : Int32).toNatClampNeg) by decide) dL_attacks_16 (fun H locs hw => ?_)
      rw [sh46_up (r := r0) (by rw [cz] <;> rfl)] at hw
      refine lv_goto (tgt := 28) hx hb dL_attacks_17 (by decide) ?_
      refine lv_iconst (v := 0) hx hb dL_attacks_28 (by decide) ?_
      exact hret 29 ls 0 _ H locs _ _ ⟨by rw [ht]; rfl, by unfold lkX; rw [if_pos ht]⟩ hw (Nat.le_of_ble_eq_true rfl) (Nat.le_of_ble_eq_true rfl) dL_attacks_29
    · refine lv_lconst (v := 1) hx hb dL_attacks_11 (by decide) ?_
      refine lv_goto (tgt := 16) hx hb dL_attacks_12 (by decide) ?_
      refine w_last C hw (k := 46) (n := 1) (a := fun j => (X1 46 j).toInt64) (q47 hN rfl) rfl (x := 1) (show ¬ ((0 : Int32) < 0 ∨ 1 ≤ (0 : Int32).toNatClampNeg) by decide) dL_attacks_16 (fun H locs hw => ?_)
      rw [sh46_up (r := r0) (by rw [hz.resolve_left cz] <;> rfl)] at hw
      refine lv_goto (tgt := 28) hx hb dL_attacks_17 (by decide) ?_
      refine lv_iconst (v := 0) hx hb dL_attacks_28 (by decide) ?_
      exact hret 29 ls 0 _ H locs _ _ ⟨by rw [ht]; rfl, by unfold lkX; rw [if_pos ht]⟩ hw (Nat.le_of_ble_eq_true rfl) (Nat.le_of_ble_eq_true rfl) dL_attacks_29
set_option maxHeartbeats 4000000 in
theorem c_L_label {l : Launch} {D : va_G} {cy : Nat → Nat} {g : Nat → Nat} {N tag : Nat} {X X1 : Nat → Nat → Int32} {za1 : Int32} {r0 : Int32} (hfl : l.stackTraces = false) (hN : 47 ≤ N) (hM : sXi l D cy yX9_label cX9_label 2 (some .int) 9 10 80 [.ref (g 0), .int za1] g N X tag r0 X1) (hT : tag = 0 ∨ tag = 2 ∨ tag = 3) : cLi l D cy yL_label cL_label 4 [(0, 9, 12, 15), (0, 9, 15, 29)] 10 10 80 [.ref (g 0), .int za1, .ref (g 46)] g N (shp g cy X) (fun r f' => r = lkc tag 2 ∧ f' = shp g cy (lkX tag r0 X1)) := by
  refine jLi (by decide) rfl hfl (Nat.le_of_ble_eq_true rfl) k671 ?_
  intro p e R s m args below meth c ls A Q hRe C htb hw hl hret
  subst hRe
  have hx := C.1
  have hb := C.2.1
  have hl : lv_has ls 4 [(0, .ref (g 0)), (1, .int za1), (2, .ref (g 46))] := hl
  refine lv_aload_n hx hb dL_label_0 rfl (lv_at hl 2 rfl) ?_
  refine lv_iconst (v := 0) hx hb dL_label_1 (by decide) ?_
  refine lv_aload_n hx hb dL_label_2 rfl (lv_at hl 0 rfl) ?_
  refine lv_iload_n hx hb dL_label_3 rfl (lv_at hl 1 rfl) ?_
  refine s_vXi (r0 := r0) (X' := X1) (tag := tag) C hw (As := [.int za1]) bX9_label k668 (k := 0) (q47 hN rfl) (sh_0 g cy _) rfl hM rfl rfl dL_label_4 ⟨rfl, rfl⟩ (by decide) hl.1 (Nat.le_of_ble_eq_true rfl) ⟨Nat.le_of_ble_eq_true rfl, Nat.le_of_ble_eq_true rfl⟩ (fun ce q9 H locs ht hw h1 h2 h3 => ?_) (fun H locs ht hw => ?_)
  · skip
    rcases hT with rfl | rfl | rfl
    · exact absurd rfl ht
    · refine vx_catch (E := xIS) (name := "java/lang/IllegalStateException") C.2.2.2.1 [] ⟨0, 9, 12, 15⟩ [⟨0, 9, 15, 29⟩] (htb.trans rfl) (fun z hz => absurd hz List.not_mem_nil) rfl (by decide) (C.w k622) (va_Nw.use rfl C.2.2.2.2.2.1.j.2.2.2.2.1) h1 h2 h3 ?_
      refine lv_astore_n (lv' := [(3, .ref q9), (0, .ref (g 0)), (1, .int za1), (2, .ref (g 46))]) hx hb dL_label_12 rfl hl (by decide) rfl (fun ls hl => ?_)
      refine lv_iconst (v := 1) hx hb dL_label_13 (by decide) ?_
      exact hret 14 ls 1 _ H locs _ _ ⟨rfl, by unfold lkX; rw [if_neg ht]⟩ hw (Nat.le_of_ble_eq_true rfl) (Nat.le_of_ble_eq_true rfl) dL_label_14
    · refine vx_catch (E := xIB) (name := "java/lang/IndexOutOfBoundsException") C.2.2.2.1 [⟨0, 9, 12, 15⟩] ⟨0, 9, 15, 29⟩ [] (htb.trans rfl) (fun z hz => by rw [List.mem_singleton.mp hz]; exact Or.inr ⟨by decide, _, C.w k622, C.2.2.2.2.2.1.2.2.2.1 (xIB, xIS) (List.mem_of_getElem? (i := 5) rfl)⟩) rfl (by decide) (C.w k635) (va_Nw.use rfl C.2.2.2.2.2.1.j.2.2.2.2.2) h1 h2 h3 ?_
      refine lv_astore_n (lv' := [(3, .ref q9), (0, .ref (g 0)), (1, .int za1), (2, .ref (g 46))]) hx hb dL_label_15 rfl hl (by decide) rfl (fun ls hl => ?_)
      refine lv_iconst (v := 2) hx hb dL_label_16 (by decide) ?_
      exact hret 17 ls 2 _ H locs _ _ ⟨rfl, by unfold lkX; rw [if_neg ht]⟩ hw (Nat.le_of_ble_eq_true rfl) (Nat.le_of_ble_eq_true rfl) dL_label_17
  · skip
    refine lv_i2l (v := r0.toInt64) hx hb dL_label_7 rfl ?_
    refine w_last C hw (k := 46) (n := 1) (a := fun j => (X1 46 j).toInt64) (q47 hN rfl) rfl (x := r0.toInt64) (show ¬ ((0 : Int32) < 0 ∨ 1 ≤ (0 : Int32).toNatClampNeg) by decide) dL_label_8 (fun H locs hw => ?_)
    rw [sh46_up (r := r0) rfl] at hw
    refine lv_goto (tgt := 18) hx hb dL_label_9 (by decide) ?_
    refine lv_iconst (v := 0) hx hb dL_label_18 (by decide) ?_
    exact hret 19 ls 0 _ H locs _ _ ⟨by rw [ht]; rfl, by unfold lkX; rw [if_pos ht]⟩ hw (Nat.le_of_ble_eq_true rfl) (Nat.le_of_ble_eq_true rfl) dL_label_19
set_option maxHeartbeats 4000000 in
theorem c_L_round {l : Launch} {D : va_G} {cy : Nat → Nat} {g : Nat → Nat} {N tag : Nat} {X X1 : Nat → Nat → Int32} {za1 : Int32} {r0 : Int32} (hfl : l.stackTraces = false) (hN : 47 ≤ N) (hM : sXi l D cy yX9_round cX9_round 2 (some .int) 9 10 80 [.ref (g 0), .int za1] g N X tag r0 X1) (hT : tag = 0 ∨ tag = 2 ∨ tag = 3) : cLi l D cy yL_round cL_round 4 [(0, 9, 12, 15), (0, 9, 15, 29)] 10 10 80 [.ref (g 0), .int za1, .ref (g 46)] g N (shp g cy X) (fun r f' => r = lkc tag 2 ∧ f' = shp g cy (lkX tag r0 X1)) := by
  refine jLi (by decide) rfl hfl (Nat.le_of_ble_eq_true rfl) k675 ?_
  intro p e R s m args below meth c ls A Q hRe C htb hw hl hret
  subst hRe
  have hx := C.1
  have hb := C.2.1
  have hl : lv_has ls 4 [(0, .ref (g 0)), (1, .int za1), (2, .ref (g 46))] := hl
  refine lv_aload_n hx hb dL_round_0 rfl (lv_at hl 2 rfl) ?_
  refine lv_iconst (v := 0) hx hb dL_round_1 (by decide) ?_
  refine lv_aload_n hx hb dL_round_2 rfl (lv_at hl 0 rfl) ?_
  refine lv_iload_n hx hb dL_round_3 rfl (lv_at hl 1 rfl) ?_
  refine s_vXi (r0 := r0) (X' := X1) (tag := tag) C hw (As := [.int za1]) bX9_round k672 (k := 0) (q47 hN rfl) (sh_0 g cy _) rfl hM rfl rfl dL_round_4 ⟨rfl, rfl⟩ (by decide) hl.1 (Nat.le_of_ble_eq_true rfl) ⟨Nat.le_of_ble_eq_true rfl, Nat.le_of_ble_eq_true rfl⟩ (fun ce q9 H locs ht hw h1 h2 h3 => ?_) (fun H locs ht hw => ?_)
  · skip
    rcases hT with rfl | rfl | rfl
    · exact absurd rfl ht
    · refine vx_catch (E := xIS) (name := "java/lang/IllegalStateException") C.2.2.2.1 [] ⟨0, 9, 12, 15⟩ [⟨0, 9, 15, 29⟩] (htb.trans rfl) (fun z hz => absurd hz List.not_mem_nil) rfl (by decide) (C.w k622) (va_Nw.use rfl C.2.2.2.2.2.1.j.2.2.2.2.1) h1 h2 h3 ?_
      refine lv_astore_n (lv' := [(3, .ref q9), (0, .ref (g 0)), (1, .int za1), (2, .ref (g 46))]) hx hb dL_round_12 rfl hl (by decide) rfl (fun ls hl => ?_)
      refine lv_iconst (v := 1) hx hb dL_round_13 (by decide) ?_
      exact hret 14 ls 1 _ H locs _ _ ⟨rfl, by unfold lkX; rw [if_neg ht]⟩ hw (Nat.le_of_ble_eq_true rfl) (Nat.le_of_ble_eq_true rfl) dL_round_14
    · refine vx_catch (E := xIB) (name := "java/lang/IndexOutOfBoundsException") C.2.2.2.1 [⟨0, 9, 12, 15⟩] ⟨0, 9, 15, 29⟩ [] (htb.trans rfl) (fun z hz => by rw [List.mem_singleton.mp hz]; exact Or.inr ⟨by decide, _, C.w k622, C.2.2.2.2.2.1.2.2.2.1 (xIB, xIS) (List.mem_of_getElem? (i := 5) rfl)⟩) rfl (by decide) (C.w k635) (va_Nw.use rfl C.2.2.2.2.2.1.j.2.2.2.2.2) h1 h2 h3 ?_
      refine lv_astore_n (lv' := [(3, .ref q9), (0, .ref (g 0)), (1, .int za1), (2, .ref (g 46))]) hx hb dL_round_15 rfl hl (by decide) rfl (fun ls hl => ?_)
      refine lv_iconst (v := 2) hx hb dL_round_16 (by decide) ?_
      exact hret 17 ls 2 _ H locs _ _ ⟨rfl, by unfold lkX; rw [if_neg ht]⟩ hw (Nat.le_of_ble_eq_true rfl) (Nat.le_of_ble_eq_true rfl) dL_round_17
  · skip
    refine lv_i2l (v := r0.toInt64) hx hb dL_round_7 rfl ?_
    refine w_last C hw (k := 46) (n := 1) (a := fun j => (X1 46 j).toInt64) (q47 hN rfl) rfl (x := r0.toInt64) (show ¬ ((0 : Int32) < 0 ∨ 1 ≤ (0 : Int32).toNatClampNeg) by decide) dL_round_8 (fun H locs hw => ?_)
    rw [sh46_up (r := r0) rfl] at hw
    refine lv_goto (tgt := 18) hx hb dL_round_9 (by decide) ?_
    refine lv_iconst (v := 0) hx hb dL_round_18 (by decide) ?_
    exact hret 19 ls 0 _ H locs _ _ ⟨by rw [ht]; rfl, by unfold lkX; rw [if_pos ht]⟩ hw (Nat.le_of_ble_eq_true rfl) (Nat.le_of_ble_eq_true rfl) dL_round_19
set_option maxHeartbeats 4000000 in
theorem c_L_holds {l : Launch} {D : va_G} {cy : Nat → Nat} {g : Nat → Nat} {N tag : Nat} {X X1 : Nat → Nat → Int32} {za1 : Int32} {r0 : Int32} (hfl : l.stackTraces = false) (hN : 47 ≤ N) (hM : sXi l D cy yX9_holds cX9_holds 4 (some .int) 9 10 80 [.ref (g 0), .int za1] g N X tag r0 X1) (hT : tag = 0 ∨ tag = 1 ∨ tag = 2) : cLi l D cy yL_holds cL_holds 4 [(0, 9, 12, 13), (0, 9, 15, 15)] 10 10 80 [.ref (g 0), .int za1, .ref (g 46)] g N (shp g cy X) (fun r f' => r = lkc tag 1 ∧ f' = shp g cy (lkX tag r0 X1)) := by
  refine jLi (by decide) rfl hfl (Nat.le_of_ble_eq_true rfl) k679 ?_
  intro p e R s m args below meth c ls A Q hRe C htb hw hl hret
  subst hRe
  have hx := C.1
  have hb := C.2.1
  have hl : lv_has ls 4 [(0, .ref (g 0)), (1, .int za1), (2, .ref (g 46))] := hl
  refine lv_aload_n hx hb dL_holds_0 rfl (lv_at hl 2 rfl) ?_
  refine lv_iconst (v := 0) hx hb dL_holds_1 (by decide) ?_
  refine lv_aload_n hx hb dL_holds_2 rfl (lv_at hl 0 rfl) ?_
  refine lv_iload_n hx hb dL_holds_3 rfl (lv_at hl 1 rfl) ?_
  refine s_vXi (r0 := r0) (X' := X1) (tag := tag) C hw (As := [.int za1]) bX9_holds k676 (k := 0) (q47 hN rfl) (sh_0 g cy _) rfl hM rfl rfl dL_holds_4 ⟨rfl, rfl⟩ (by decide) hl.1 (Nat.le_of_ble_eq_true rfl) ⟨Nat.le_of_ble_eq_true rfl, Nat.le_of_ble_eq_true rfl⟩ (fun ce q9 H locs ht hw h1 h2 h3 => ?_) (fun H locs ht hw => ?_)
  · skip
    rcases hT with rfl | rfl | rfl
    · exact absurd rfl ht
    · refine vx_catch (E := xIA) (name := "java/lang/IllegalArgumentException") C.2.2.2.1 [] ⟨0, 9, 12, 13⟩ [⟨0, 9, 15, 15⟩] (htb.trans rfl) (fun z hz => absurd hz List.not_mem_nil) rfl (by decide) (C.w k621) (va_Nw.use rfl C.2.2.2.2.2.1.j.2.2.2.1) h1 h2 h3 ?_
      refine lv_astore_n (lv' := [(3, .ref q9), (0, .ref (g 0)), (1, .int za1), (2, .ref (g 46))]) hx hb dL_holds_12 rfl hl (by decide) rfl (fun ls hl => ?_)
      refine lv_iconst (v := 1) hx hb dL_holds_13 (by decide) ?_
      exact hret 14 ls 1 _ H locs _ _ ⟨rfl, by unfold lkX; rw [if_neg ht]⟩ hw (Nat.le_of_ble_eq_true rfl) (Nat.le_of_ble_eq_true rfl) dL_holds_14
    · refine vx_catch (E := xIS) (name := "java/lang/IllegalStateException") C.2.2.2.1 [⟨0, 9, 12, 13⟩] ⟨0, 9, 15, 15⟩ [] (htb.trans rfl) (fun z hz => by rw [List.mem_singleton.mp hz]; exact Or.inr ⟨by decide, _, C.w k621, C.2.2.2.2.2.1.2.2.2.1 (xIS, xIA) (List.mem_of_getElem? (i := 2) rfl)⟩) rfl (by decide) (C.w k622) (va_Nw.use rfl C.2.2.2.2.2.1.j.2.2.2.2.1) h1 h2 h3 ?_
      refine lv_astore_n (lv' := [(3, .ref q9), (0, .ref (g 0)), (1, .int za1), (2, .ref (g 46))]) hx hb dL_holds_15 rfl hl (by decide) rfl (fun ls hl => ?_)
      refine lv_iconst (v := 2) hx hb dL_holds_16 (by decide) ?_
      exact hret 17 ls 2 _ H locs _ _ ⟨rfl, by unfold lkX; rw [if_neg ht]⟩ hw (Nat.le_of_ble_eq_true rfl) (Nat.le_of_ble_eq_true rfl) dL_holds_17
  · skip
    refine lv_i2l (v := r0.toInt64) hx hb dL_holds_7 rfl ?_
    refine w_last C hw (k := 46) (n := 1) (a := fun j => (X1 46 j).toInt64) (q47 hN rfl) rfl (x := r0.toInt64) (show ¬ ((0 : Int32) < 0 ∨ 1 ≤ (0 : Int32).toNatClampNeg) by decide) dL_holds_8 (fun H locs hw => ?_)
    rw [sh46_up (r := r0) rfl] at hw
    refine lv_goto (tgt := 18) hx hb dL_holds_9 (by decide) ?_
    refine lv_iconst (v := 0) hx hb dL_holds_18 (by decide) ?_
    exact hret 19 ls 0 _ H locs _ _ ⟨by rw [ht]; rfl, by unfold lkX; rw [if_pos ht]⟩ hw (Nat.le_of_ble_eq_true rfl) (Nat.le_of_ble_eq_true rfl) dL_holds_19
set_option maxHeartbeats 4000000 in
theorem c_L_reasonFor {l : Launch} {D : va_G} {cy : Nat → Nat} {g : Nat → Nat} {N tag : Nat} {X X1 : Nat → Nat → Int32} {za1 : Int32} {r0 : Int32} (hfl : l.stackTraces = false) (hN : 47 ≤ N) (hM : sXi l D cy yX9_reasonFor cX9_reasonFor 3 (some .int) 9 10 80 [.ref (g 0), .int za1] g N X tag r0 X1) (hT : tag = 0 ∨ tag = 1 ∨ tag = 2) : cLi l D cy yL_reasonFor cL_reasonFor 4 [(0, 9, 12, 13), (0, 9, 15, 15)] 10 10 80 [.ref (g 0), .int za1, .ref (g 46)] g N (shp g cy X) (fun r f' => r = lkc tag 1 ∧ f' = shp g cy (lkX tag r0 X1)) := by
  refine jLi (by decide) rfl hfl (Nat.le_of_ble_eq_true rfl) k683 ?_
  intro p e R s m args below meth c ls A Q hRe C htb hw hl hret
  subst hRe
  have hx := C.1
  have hb := C.2.1
  have hl : lv_has ls 4 [(0, .ref (g 0)), (1, .int za1), (2, .ref (g 46))] := hl
  refine lv_aload_n hx hb dL_reasonFor_0 rfl (lv_at hl 2 rfl) ?_
  refine lv_iconst (v := 0) hx hb dL_reasonFor_1 (by decide) ?_
  refine lv_aload_n hx hb dL_reasonFor_2 rfl (lv_at hl 0 rfl) ?_
  refine lv_iload_n hx hb dL_reasonFor_3 rfl (lv_at hl 1 rfl) ?_
  refine s_vXi (r0 := r0) (X' := X1) (tag := tag) C hw (As := [.int za1]) bX9_reasonFor k680 (k := 0) (q47 hN rfl) (sh_0 g cy _) rfl hM rfl rfl dL_reasonFor_4 ⟨rfl, rfl⟩ (by decide) hl.1 (Nat.le_of_ble_eq_true rfl) ⟨Nat.le_of_ble_eq_true rfl, Nat.le_of_ble_eq_true rfl⟩ (fun ce q9 H locs ht hw h1 h2 h3 => ?_) (fun H locs ht hw => ?_)
  · skip
    rcases hT with rfl | rfl | rfl
    · exact absurd rfl ht
    · refine vx_catch (E := xIA) (name := "java/lang/IllegalArgumentException") C.2.2.2.1 [] ⟨0, 9, 12, 13⟩ [⟨0, 9, 15, 15⟩] (htb.trans rfl) (fun z hz => absurd hz List.not_mem_nil) rfl (by decide) (C.w k621) (va_Nw.use rfl C.2.2.2.2.2.1.j.2.2.2.1) h1 h2 h3 ?_
      refine lv_astore_n (lv' := [(3, .ref q9), (0, .ref (g 0)), (1, .int za1), (2, .ref (g 46))]) hx hb dL_reasonFor_12 rfl hl (by decide) rfl (fun ls hl => ?_)
      refine lv_iconst (v := 1) hx hb dL_reasonFor_13 (by decide) ?_
      exact hret 14 ls 1 _ H locs _ _ ⟨rfl, by unfold lkX; rw [if_neg ht]⟩ hw (Nat.le_of_ble_eq_true rfl) (Nat.le_of_ble_eq_true rfl) dL_reasonFor_14
    · refine vx_catch (E := xIS) (name := "java/lang/IllegalStateException") C.2.2.2.1 [⟨0, 9, 12, 13⟩] ⟨0, 9, 15, 15⟩ [] (htb.trans rfl) (fun z hz => by rw [List.mem_singleton.mp hz]; exact Or.inr ⟨by decide, _, C.w k621, C.2.2.2.2.2.1.2.2.2.1 (xIS, xIA) (List.mem_of_getElem? (i := 2) rfl)⟩) rfl (by decide) (C.w k622) (va_Nw.use rfl C.2.2.2.2.2.1.j.2.2.2.2.1) h1 h2 h3 ?_
      refine lv_astore_n (lv' := [(3, .ref q9), (0, .ref (g 0)), (1, .int za1), (2, .ref (g 46))]) hx hb dL_reasonFor_15 rfl hl (by decide) rfl (fun ls hl => ?_)
      refine lv_iconst (v := 2) hx hb dL_reasonFor_16 (by decide) ?_
      exact hret 17 ls 2 _ H locs _ _ ⟨rfl, by unfold lkX; rw [if_neg ht]⟩ hw (Nat.le_of_ble_eq_true rfl) (Nat.le_of_ble_eq_true rfl) dL_reasonFor_17
  · skip
    refine lv_i2l (v := r0.toInt64) hx hb dL_reasonFor_7 rfl ?_
    refine w_last C hw (k := 46) (n := 1) (a := fun j => (X1 46 j).toInt64) (q47 hN rfl) rfl (x := r0.toInt64) (show ¬ ((0 : Int32) < 0 ∨ 1 ≤ (0 : Int32).toNatClampNeg) by decide) dL_reasonFor_8 (fun H locs hw => ?_)
    rw [sh46_up (r := r0) rfl] at hw
    refine lv_goto (tgt := 18) hx hb dL_reasonFor_9 (by decide) ?_
    refine lv_iconst (v := 0) hx hb dL_reasonFor_18 (by decide) ?_
    exact hret 19 ls 0 _ H locs _ _ ⟨by rw [ht]; rfl, by unfold lkX; rw [if_pos ht]⟩ hw (Nat.le_of_ble_eq_true rfl) (Nat.le_of_ble_eq_true rfl) dL_reasonFor_19
set_option maxHeartbeats 4000000 in
theorem c_L_reasonAgainst {l : Launch} {D : va_G} {cy : Nat → Nat} {g : Nat → Nat} {N tag : Nat} {X X1 : Nat → Nat → Int32} {za1 : Int32} {r0 : Int32} (hfl : l.stackTraces = false) (hN : 47 ≤ N) (hM : sXi l D cy yX9_reasonAgainst cX9_reasonAgainst 3 (some .int) 9 10 80 [.ref (g 0), .int za1] g N X tag r0 X1) (hT : tag = 0 ∨ tag = 2 ∨ tag = 3) : cLi l D cy yL_reasonAgainst cL_reasonAgainst 4 [(0, 9, 12, 15), (0, 9, 15, 29)] 10 10 80 [.ref (g 0), .int za1, .ref (g 46)] g N (shp g cy X) (fun r f' => r = lkc tag 2 ∧ f' = shp g cy (lkX tag r0 X1)) := by
  refine jLi (by decide) rfl hfl (Nat.le_of_ble_eq_true rfl) k687 ?_
  intro p e R s m args below meth c ls A Q hRe C htb hw hl hret
  subst hRe
  have hx := C.1
  have hb := C.2.1
  have hl : lv_has ls 4 [(0, .ref (g 0)), (1, .int za1), (2, .ref (g 46))] := hl
  refine lv_aload_n hx hb dL_reasonAgainst_0 rfl (lv_at hl 2 rfl) ?_
  refine lv_iconst (v := 0) hx hb dL_reasonAgainst_1 (by decide) ?_
  refine lv_aload_n hx hb dL_reasonAgainst_2 rfl (lv_at hl 0 rfl) ?_
  refine lv_iload_n hx hb dL_reasonAgainst_3 rfl (lv_at hl 1 rfl) ?_
  refine s_vXi (r0 := r0) (X' := X1) (tag := tag) C hw (As := [.int za1]) bX9_reasonAgainst k684 (k := 0) (q47 hN rfl) (sh_0 g cy _) rfl hM rfl rfl dL_reasonAgainst_4 ⟨rfl, rfl⟩ (by decide) hl.1 (Nat.le_of_ble_eq_true rfl) ⟨Nat.le_of_ble_eq_true rfl, Nat.le_of_ble_eq_true rfl⟩ (fun ce q9 H locs ht hw h1 h2 h3 => ?_) (fun H locs ht hw => ?_)
  · skip
    rcases hT with rfl | rfl | rfl
    · exact absurd rfl ht
    · refine vx_catch (E := xIS) (name := "java/lang/IllegalStateException") C.2.2.2.1 [] ⟨0, 9, 12, 15⟩ [⟨0, 9, 15, 29⟩] (htb.trans rfl) (fun z hz => absurd hz List.not_mem_nil) rfl (by decide) (C.w k622) (va_Nw.use rfl C.2.2.2.2.2.1.j.2.2.2.2.1) h1 h2 h3 ?_
      refine lv_astore_n (lv' := [(3, .ref q9), (0, .ref (g 0)), (1, .int za1), (2, .ref (g 46))]) hx hb dL_reasonAgainst_12 rfl hl (by decide) rfl (fun ls hl => ?_)
      refine lv_iconst (v := 1) hx hb dL_reasonAgainst_13 (by decide) ?_
      exact hret 14 ls 1 _ H locs _ _ ⟨rfl, by unfold lkX; rw [if_neg ht]⟩ hw (Nat.le_of_ble_eq_true rfl) (Nat.le_of_ble_eq_true rfl) dL_reasonAgainst_14
    · refine vx_catch (E := xIB) (name := "java/lang/IndexOutOfBoundsException") C.2.2.2.1 [⟨0, 9, 12, 15⟩] ⟨0, 9, 15, 29⟩ [] (htb.trans rfl) (fun z hz => by rw [List.mem_singleton.mp hz]; exact Or.inr ⟨by decide, _, C.w k622, C.2.2.2.2.2.1.2.2.2.1 (xIB, xIS) (List.mem_of_getElem? (i := 5) rfl)⟩) rfl (by decide) (C.w k635) (va_Nw.use rfl C.2.2.2.2.2.1.j.2.2.2.2.2) h1 h2 h3 ?_
      refine lv_astore_n (lv' := [(3, .ref q9), (0, .ref (g 0)), (1, .int za1), (2, .ref (g 46))]) hx hb dL_reasonAgainst_15 rfl hl (by decide) rfl (fun ls hl => ?_)
      refine lv_iconst (v := 2) hx hb dL_reasonAgainst_16 (by decide) ?_
      exact hret 17 ls 2 _ H locs _ _ ⟨rfl, by unfold lkX; rw [if_neg ht]⟩ hw (Nat.le_of_ble_eq_true rfl) (Nat.le_of_ble_eq_true rfl) dL_reasonAgainst_17
  · skip
    refine lv_i2l (v := r0.toInt64) hx hb dL_reasonAgainst_7 rfl ?_
    refine w_last C hw (k := 46) (n := 1) (a := fun j => (X1 46 j).toInt64) (q47 hN rfl) rfl (x := r0.toInt64) (show ¬ ((0 : Int32) < 0 ∨ 1 ≤ (0 : Int32).toNatClampNeg) by decide) dL_reasonAgainst_8 (fun H locs hw => ?_)
    rw [sh46_up (r := r0) rfl] at hw
    refine lv_goto (tgt := 18) hx hb dL_reasonAgainst_9 (by decide) ?_
    refine lv_iconst (v := 0) hx hb dL_reasonAgainst_18 (by decide) ?_
    exact hret 19 ls 0 _ H locs _ _ ⟨by rw [ht]; rfl, by unfold lkX; rw [if_pos ht]⟩ hw (Nat.le_of_ble_eq_true rfl) (Nat.le_of_ble_eq_true rfl) dL_reasonAgainst_19
set_option maxHeartbeats 4000000 in
theorem c_L_preferred {l : Launch} {D : va_G} {cy : Nat → Nat} {g : Nat → Nat} {N tag : Nat} {X X1 : Nat → Nat → Int32} {r0 : Int32} (hfl : l.stackTraces = false) (hN : 47 ≤ N) (hM : sXi l D cy yX9_preferred cX9_preferred 1 (some .int) 25 10 80 [.ref (g 0)] g N X tag r0 X1) (hT : tag = 0 ∨ tag = 2) : cLi l D cy yL_preferred cL_preferred 3 [(0, 8, 11, 15)] 26 10 80 [.ref (g 0), .ref (g 46)] g N (shp g cy X) (fun r f' => r = lkc tag 2 ∧ f' = shp g cy (lkX tag r0 X1)) := by
  refine jLi (by decide) rfl hfl (Nat.le_of_ble_eq_true rfl) k691 ?_
  intro p e R s m args below meth c ls A Q hRe C htb hw hl hret
  subst hRe
  have hx := C.1
  have hb := C.2.1
  have hl : lv_has ls 3 [(0, .ref (g 0)), (1, .ref (g 46))] := hl
  refine lv_aload_n hx hb dL_preferred_0 rfl (lv_at hl 1 rfl) ?_
  refine lv_iconst (v := 0) hx hb dL_preferred_1 (by decide) ?_
  refine lv_aload_n hx hb dL_preferred_2 rfl (lv_at hl 0 rfl) ?_
  refine s_vXi (r0 := r0) (X' := X1) (tag := tag) C hw (As := []) bX9_preferred k688 (k := 0) (q47 hN rfl) (sh_0 g cy _) rfl hM rfl rfl dL_preferred_3 ⟨rfl, rfl⟩ (by decide) hl.1 (Nat.le_of_ble_eq_true rfl) ⟨Nat.le_of_ble_eq_true rfl, Nat.le_of_ble_eq_true rfl⟩ (fun ce q9 H locs ht hw h1 h2 h3 => ?_) (fun H locs ht hw => ?_)
  · skip
    rcases hT with rfl | rfl
    · exact absurd rfl ht
    · refine vx_catch (E := xIS) (name := "java/lang/IllegalStateException") C.2.2.2.1 [] ⟨0, 8, 11, 15⟩ [] (htb.trans rfl) (fun z hz => absurd hz List.not_mem_nil) rfl (by decide) (C.w k622) (va_Nw.use rfl C.2.2.2.2.2.1.j.2.2.2.2.1) h1 h2 h3 ?_
      refine lv_astore_n (lv' := [(2, .ref q9), (0, .ref (g 0)), (1, .ref (g 46))]) hx hb dL_preferred_11 rfl hl (by decide) rfl (fun ls hl => ?_)
      refine lv_iconst (v := 1) hx hb dL_preferred_12 (by decide) ?_
      exact hret 13 ls 1 _ H locs _ _ ⟨rfl, by unfold lkX; rw [if_neg ht]⟩ hw (Nat.le_of_ble_eq_true rfl) (Nat.le_of_ble_eq_true rfl) dL_preferred_13
  · skip
    refine lv_i2l (v := r0.toInt64) hx hb dL_preferred_6 rfl ?_
    refine w_last C hw (k := 46) (n := 1) (a := fun j => (X1 46 j).toInt64) (q47 hN rfl) rfl (x := r0.toInt64) (show ¬ ((0 : Int32) < 0 ∨ 1 ≤ (0 : Int32).toNatClampNeg) by decide) dL_preferred_7 (fun H locs hw => ?_)
    rw [sh46_up (r := r0) rfl] at hw
    refine lv_goto (tgt := 14) hx hb dL_preferred_8 (by decide) ?_
    refine lv_iconst (v := 0) hx hb dL_preferred_14 (by decide) ?_
    exact hret 15 ls 0 _ H locs _ _ ⟨by rw [ht]; rfl, by unfold lkX; rw [if_pos ht]⟩ hw (Nat.le_of_ble_eq_true rfl) (Nat.le_of_ble_eq_true rfl) dL_preferred_15
set_option maxHeartbeats 4000000 in
theorem c_L_preferredByAllSets {l : Launch} {D : va_G} {cy : Nat → Nat} {g : Nat → Nat} {N tag : Nat} {X X1 : Nat → Nat → Int32} {r0 : Int32} (hfl : l.stackTraces = false) (hN : 47 ≤ N) (hM : sXi l D cy yX9_preferredByAllSets cX9_preferredByAllSets 1 (some .int) 9 10 80 [.ref (g 0)] g N X tag r0 X1) (hT : tag = 0 ∨ tag = 2) : cLi l D cy yL_preferredByAllSets cL_preferredByAllSets 3 [(0, 8, 11, 15)] 10 10 80 [.ref (g 0), .ref (g 46)] g N (shp g cy X) (fun r f' => r = lkc tag 2 ∧ f' = shp g cy (lkX tag r0 X1)) := by
  refine jLi (by decide) rfl hfl (Nat.le_of_ble_eq_true rfl) k695 ?_
  intro p e R s m args below meth c ls A Q hRe C htb hw hl hret
  subst hRe
  have hx := C.1
  have hb := C.2.1
  have hl : lv_has ls 3 [(0, .ref (g 0)), (1, .ref (g 46))] := hl
  refine lv_aload_n hx hb dL_preferredByAllSets_0 rfl (lv_at hl 1 rfl) ?_
  refine lv_iconst (v := 0) hx hb dL_preferredByAllSets_1 (by decide) ?_
  refine lv_aload_n hx hb dL_preferredByAllSets_2 rfl (lv_at hl 0 rfl) ?_
  refine s_vXi (r0 := r0) (X' := X1) (tag := tag) C hw (As := []) bX9_preferredByAllSets k692 (k := 0) (q47 hN rfl) (sh_0 g cy _) rfl hM rfl rfl dL_preferredByAllSets_3 ⟨rfl, rfl⟩ (by decide) hl.1 (Nat.le_of_ble_eq_true rfl) ⟨Nat.le_of_ble_eq_true rfl, Nat.le_of_ble_eq_true rfl⟩ (fun ce q9 H locs ht hw h1 h2 h3 => ?_) (fun H locs ht hw => ?_)
  · skip
    rcases hT with rfl | rfl
    · exact absurd rfl ht
    · refine vx_catch (E := xIS) (name := "java/lang/IllegalStateException") C.2.2.2.1 [] ⟨0, 8, 11, 15⟩ [] (htb.trans rfl) (fun z hz => absurd hz List.not_mem_nil) rfl (by decide) (C.w k622) (va_Nw.use rfl C.2.2.2.2.2.1.j.2.2.2.2.1) h1 h2 h3 ?_
      refine lv_astore_n (lv' := [(2, .ref q9), (0, .ref (g 0)), (1, .ref (g 46))]) hx hb dL_preferredByAllSets_11 rfl hl (by decide) rfl (fun ls hl => ?_)
      refine lv_iconst (v := 1) hx hb dL_preferredByAllSets_12 (by decide) ?_
      exact hret 13 ls 1 _ H locs _ _ ⟨rfl, by unfold lkX; rw [if_neg ht]⟩ hw (Nat.le_of_ble_eq_true rfl) (Nat.le_of_ble_eq_true rfl) dL_preferredByAllSets_13
  · skip
    refine lv_i2l (v := r0.toInt64) hx hb dL_preferredByAllSets_6 rfl ?_
    refine w_last C hw (k := 46) (n := 1) (a := fun j => (X1 46 j).toInt64) (q47 hN rfl) rfl (x := r0.toInt64) (show ¬ ((0 : Int32) < 0 ∨ 1 ≤ (0 : Int32).toNatClampNeg) by decide) dL_preferredByAllSets_7 (fun H locs hw => ?_)
    rw [sh46_up (r := r0) rfl] at hw
    refine lv_goto (tgt := 14) hx hb dL_preferredByAllSets_8 (by decide) ?_
    refine lv_iconst (v := 0) hx hb dL_preferredByAllSets_14 (by decide) ?_
    exact hret 15 ls 0 _ H locs _ _ ⟨by rw [ht]; rfl, by unfold lkX; rw [if_pos ht]⟩ hw (Nat.le_of_ble_eq_true rfl) (Nat.le_of_ble_eq_true rfl) dL_preferredByAllSets_15
set_option maxHeartbeats 4000000 in
theorem c_L_isInSet {l : Launch} {D : va_G} {cy : Nat → Nat} {g : Nat → Nat} {N tag : Nat} {X X1 : Nat → Nat → Int32} {za1 : Int32} {za2 : Int32} {r0 : Int32} (hfl : l.stackTraces = false) (hN : 47 ≤ N) (hM : sXi l D cy yX9_isInSet cX9_isInSet 3 (some .boolean) 25 10 80 [.ref (g 0), .int za1, .int za2] g N X tag r0 X1) (hT : tag = 0 ∨ tag = 2 ∨ tag = 3) (hz : r0 = 0 ∨ r0 = 1) : cLi l D cy yL_isInSet cL_isInSet 5 [(0, 17, 20, 15), (0, 17, 24, 29)] 26 10 80 [.ref (g 0), .int za1, .int za2, .ref (g 46)] g N (shp g cy X) (fun r f' => r = lkc tag 2 ∧ f' = shp g cy (lkX tag r0 X1)) := by
  refine jLi (by decide) rfl hfl (Nat.le_of_ble_eq_true rfl) k699 ?_
  intro p e R s m args below meth c ls A Q hRe C htb hw hl hret
  subst hRe
  have hx := C.1
  have hb := C.2.1
  have hl : lv_has ls 5 [(0, .ref (g 0)), (1, .int za1), (2, .int za2), (3, .ref (g 46))] := hl
  refine lv_aload_n hx hb dL_isInSet_0 rfl (lv_at hl 3 rfl) ?_
  refine lv_iconst (v := 0) hx hb dL_isInSet_1 (by decide) ?_
  refine lv_aload_n hx hb dL_isInSet_2 rfl (lv_at hl 0 rfl) ?_
  refine lv_iload_n hx hb dL_isInSet_3 rfl (lv_at hl 1 rfl) ?_
  refine lv_iload_n hx hb dL_isInSet_4 rfl (lv_at hl 2 rfl) ?_
  refine s_vXi (r0 := r0) (X' := X1) (tag := tag) C hw (As := [.int za1, .int za2]) bX9_isInSet k696 (k := 0) (q47 hN rfl) (sh_0 g cy _) rfl hM rfl rfl dL_isInSet_5 ⟨rfl, rfl⟩ (by decide) hl.1 (Nat.le_of_ble_eq_true rfl) ⟨Nat.le_of_ble_eq_true rfl, Nat.le_of_ble_eq_true rfl⟩ (fun ce q9 H locs ht hw h1 h2 h3 => ?_) (fun H locs ht hw => ?_)
  · skip
    rcases hT with rfl | rfl | rfl
    · exact absurd rfl ht
    · refine vx_catch (E := xIS) (name := "java/lang/IllegalStateException") C.2.2.2.1 [] ⟨0, 17, 20, 15⟩ [⟨0, 17, 24, 29⟩] (htb.trans rfl) (fun z hz => absurd hz List.not_mem_nil) rfl (by decide) (C.w k622) (va_Nw.use rfl C.2.2.2.2.2.1.j.2.2.2.2.1) h1 h2 h3 ?_
      refine lv_astore (lv' := [(4, .ref q9), (0, .ref (g 0)), (1, .int za1), (2, .int za2), (3, .ref (g 46))]) hx hb dL_isInSet_20 hl (by decide) rfl (fun ls hl => ?_)
      refine lv_iconst (v := 1) hx hb dL_isInSet_22 (by decide) ?_
      exact hret 23 ls 1 _ H locs _ _ ⟨rfl, by unfold lkX; rw [if_neg ht]⟩ hw (Nat.le_of_ble_eq_true rfl) (Nat.le_of_ble_eq_true rfl) dL_isInSet_23
    · refine vx_catch (E := xIB) (name := "java/lang/IndexOutOfBoundsException") C.2.2.2.1 [⟨0, 17, 20, 15⟩] ⟨0, 17, 24, 29⟩ [] (htb.trans rfl) (fun z hz => by rw [List.mem_singleton.mp hz]; exact Or.inr ⟨by decide, _, C.w k622, C.2.2.2.2.2.1.2.2.2.1 (xIB, xIS) (List.mem_of_getElem? (i := 5) rfl)⟩) rfl (by decide) (C.w k635) (va_Nw.use rfl C.2.2.2.2.2.1.j.2.2.2.2.2) h1 h2 h3 ?_
      refine lv_astore (lv' := [(4, .ref q9), (0, .ref (g 0)), (1, .int za1), (2, .int za2), (3, .ref (g 46))]) hx hb dL_isInSet_24 hl (by decide) rfl (fun ls hl => ?_)
      refine lv_iconst (v := 2) hx hb dL_isInSet_26 (by decide) ?_
      exact hret 27 ls 2 _ H locs _ _ ⟨rfl, by unfold lkX; rw [if_neg ht]⟩ hw (Nat.le_of_ble_eq_true rfl) (Nat.le_of_ble_eq_true rfl) dL_isInSet_27
  · skip
    refine lv_if_eq (tgt := 15) hx hb dL_isInSet_8 (by decide) (fun cz => ?_) (fun cz => ?_)
    · refine lv_lconst (v := 0) hx hb dL_isInSet_15 (by decide) ?_
      refine w_last C hw (k := 46) (n := 1) (a := fun j => (X1 46 j).toInt64) (q47 hN rfl) rfl (x := 0) (show ¬ ((0 : Int32) < 0 ∨ 1 ≤ (0 : Int32).toNatClampNeg) by decide) dL_isInSet_16 (fun H locs hw => ?_)
      rw [sh46_up (r := r0) (by rw [cz] <;> rfl)] at hw
      refine lv_goto (tgt := 28) hx hb dL_isInSet_17 (by decide) ?_
      refine lv_iconst (v := 0) hx hb dL_isInSet_28 (by decide) ?_
      exact hret 29 ls 0 _ H locs _ _ ⟨by rw [ht]; rfl, by unfold lkX; rw [if_pos ht]⟩ hw (Nat.le_of_ble_eq_true rfl) (Nat.le_of_ble_eq_true rfl) dL_isInSet_29
    · refine lv_lconst (v := 1) hx hb dL_isInSet_11 (by decide) ?_
      refine lv_goto (tgt := 16) hx hb dL_isInSet_12 (by decide) ?_
      refine w_last C hw (k := 46) (n := 1) (a := fun j => (X1 46 j).toInt64) (q47 hN rfl) rfl (x := 1) (show ¬ ((0 : Int32) < 0 ∨ 1 ≤ (0 : Int32).toNatClampNeg) by decide) dL_isInSet_16 (fun H locs hw => ?_)
      rw [sh46_up (r := r0) (by rw [hz.resolve_left cz] <;> rfl)] at hw
      refine lv_goto (tgt := 28) hx hb dL_isInSet_17 (by decide) ?_
      refine lv_iconst (v := 0) hx hb dL_isInSet_28 (by decide) ?_
      exact hret 29 ls 0 _ H locs _ _ ⟨by rw [ht]; rfl, by unfold lkX; rw [if_pos ht]⟩ hw (Nat.le_of_ble_eq_true rfl) (Nat.le_of_ble_eq_true rfl) dL_isInSet_29
set_option maxHeartbeats 4000000 in
theorem c_L_setsFor {l : Launch} {D : va_G} {cy : Nat → Nat} {g : Nat → Nat} {N tag : Nat} {X X1 : Nat → Nat → Int32} {za1 : Int32} {r0 : Int32} (hfl : l.stackTraces = false) (hN : 47 ≤ N) (hM : sXi l D cy yX9_setsFor cX9_setsFor 4 (some .int) 25 10 80 [.ref (g 0), .int za1] g N X tag r0 X1) (hT : tag = 0 ∨ tag = 1 ∨ tag = 2) : cLi l D cy yL_setsFor cL_setsFor 4 [(0, 9, 12, 13), (0, 9, 15, 15)] 26 10 80 [.ref (g 0), .int za1, .ref (g 46)] g N (shp g cy X) (fun r f' => r = lkc tag 1 ∧ f' = shp g cy (lkX tag r0 X1)) := by
  refine jLi (by decide) rfl hfl (Nat.le_of_ble_eq_true rfl) k703 ?_
  intro p e R s m args below meth c ls A Q hRe C htb hw hl hret
  subst hRe
  have hx := C.1
  have hb := C.2.1
  have hl : lv_has ls 4 [(0, .ref (g 0)), (1, .int za1), (2, .ref (g 46))] := hl
  refine lv_aload_n hx hb dL_setsFor_0 rfl (lv_at hl 2 rfl) ?_
  refine lv_iconst (v := 0) hx hb dL_setsFor_1 (by decide) ?_
  refine lv_aload_n hx hb dL_setsFor_2 rfl (lv_at hl 0 rfl) ?_
  refine lv_iload_n hx hb dL_setsFor_3 rfl (lv_at hl 1 rfl) ?_
  refine s_vXi (r0 := r0) (X' := X1) (tag := tag) C hw (As := [.int za1]) bX9_setsFor k700 (k := 0) (q47 hN rfl) (sh_0 g cy _) rfl hM rfl rfl dL_setsFor_4 ⟨rfl, rfl⟩ (by decide) hl.1 (Nat.le_of_ble_eq_true rfl) ⟨Nat.le_of_ble_eq_true rfl, Nat.le_of_ble_eq_true rfl⟩ (fun ce q9 H locs ht hw h1 h2 h3 => ?_) (fun H locs ht hw => ?_)
  · skip
    rcases hT with rfl | rfl | rfl
    · exact absurd rfl ht
    · refine vx_catch (E := xIA) (name := "java/lang/IllegalArgumentException") C.2.2.2.1 [] ⟨0, 9, 12, 13⟩ [⟨0, 9, 15, 15⟩] (htb.trans rfl) (fun z hz => absurd hz List.not_mem_nil) rfl (by decide) (C.w k621) (va_Nw.use rfl C.2.2.2.2.2.1.j.2.2.2.1) h1 h2 h3 ?_
      refine lv_astore_n (lv' := [(3, .ref q9), (0, .ref (g 0)), (1, .int za1), (2, .ref (g 46))]) hx hb dL_setsFor_12 rfl hl (by decide) rfl (fun ls hl => ?_)
      refine lv_iconst (v := 1) hx hb dL_setsFor_13 (by decide) ?_
      exact hret 14 ls 1 _ H locs _ _ ⟨rfl, by unfold lkX; rw [if_neg ht]⟩ hw (Nat.le_of_ble_eq_true rfl) (Nat.le_of_ble_eq_true rfl) dL_setsFor_14
    · refine vx_catch (E := xIS) (name := "java/lang/IllegalStateException") C.2.2.2.1 [⟨0, 9, 12, 13⟩] ⟨0, 9, 15, 15⟩ [] (htb.trans rfl) (fun z hz => by rw [List.mem_singleton.mp hz]; exact Or.inr ⟨by decide, _, C.w k621, C.2.2.2.2.2.1.2.2.2.1 (xIS, xIA) (List.mem_of_getElem? (i := 2) rfl)⟩) rfl (by decide) (C.w k622) (va_Nw.use rfl C.2.2.2.2.2.1.j.2.2.2.2.1) h1 h2 h3 ?_
      refine lv_astore_n (lv' := [(3, .ref q9), (0, .ref (g 0)), (1, .int za1), (2, .ref (g 46))]) hx hb dL_setsFor_15 rfl hl (by decide) rfl (fun ls hl => ?_)
      refine lv_iconst (v := 2) hx hb dL_setsFor_16 (by decide) ?_
      exact hret 17 ls 2 _ H locs _ _ ⟨rfl, by unfold lkX; rw [if_neg ht]⟩ hw (Nat.le_of_ble_eq_true rfl) (Nat.le_of_ble_eq_true rfl) dL_setsFor_17
  · skip
    refine lv_i2l (v := r0.toInt64) hx hb dL_setsFor_7 rfl ?_
    refine w_last C hw (k := 46) (n := 1) (a := fun j => (X1 46 j).toInt64) (q47 hN rfl) rfl (x := r0.toInt64) (show ¬ ((0 : Int32) < 0 ∨ 1 ≤ (0 : Int32).toNatClampNeg) by decide) dL_setsFor_8 (fun H locs hw => ?_)
    rw [sh46_up (r := r0) rfl] at hw
    refine lv_goto (tgt := 18) hx hb dL_setsFor_9 (by decide) ?_
    refine lv_iconst (v := 0) hx hb dL_setsFor_18 (by decide) ?_
    exact hret 19 ls 0 _ H locs _ _ ⟨by rw [ht]; rfl, by unfold lkX; rw [if_pos ht]⟩ hw (Nat.le_of_ble_eq_true rfl) (Nat.le_of_ble_eq_true rfl) dL_setsFor_19

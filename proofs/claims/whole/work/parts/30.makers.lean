section JNV
variable {l : Launch} {D : va_G} {cy : Nat → Nat} {g : Nat → Nat} {N : Nat} {own : String}
variable {y : MethodName} {cc : ByteArray} {maxL : Nat} {ret : Option FieldType} {d mc ms : Nat} {av : List Value} {f : Nat → va_E}
theorem jNv {post : (Nat → Nat) × Nat × (Nat → va_E) → Prop} (hy : plainName y.cls = true) (hown : y.cls = own) (hfl : l.stackTraces = false) (hav : (lg_sl av).length ≤ maxL) (hnm : y.name = "<init>")
    (body : ∀ (p : Program) (e : Env) (R : Room) (s : State) (m : MethodId) (args : Array Value) (below : List Frame) (meth : Method) (c : Code) (ls : Array Slot) (A : Nat → Prop) (Q : State → Prop), R = wR d mc ms → wCx p l s m args c meth cc maxL own D cy A → meth.name = "<init>" → Wd D A s.heap g N f s.heap [] → lv_has ls maxL (lv_args 0 av) →
      (∀ (pc : Nat) (ls : Array Slot) (g1 : Nat → Nat) (N1 : Nat) (f1 : Nat → va_E) (H : Heap) (locs : List Loc) (cells slots : Nat), post (g1, N1, f1) → Wd D A s.heap g1 N1 f1 H locs → cells ≤ mc → slots ≤ ms → decode cc pc = .ok (.return_, 1) → W p l e R s m args below meth c H locs cells slots Q (F0 m pc ls [])) → W p l e R s m args below meth c s.heap [] 0 0 Q (F0 m 0 ls [])) : cNv l D cy y cc maxL none d mc ms av g N f post :=
  iNv hy hown hfl hav (fun p e s m below meth c ls C hr hw hl => body p e _ s m _ below meth c ls _ _ rfl C (hr.2.trans hnm) hw hl (fun pc ls g1 N1 f1 H locs cells slots hp hw h1 h2 hd => eNv C hw hr.1 hp h1 h2 hd))
theorem jNvg {post : (Nat → Nat) × Nat × (Nat → va_E) → Prop} (hy : plainName y.cls = true) (hown : y.cls = own) (hfl : l.stackTraces = false) (hav : (lg_sl av).length ≤ maxL)
    (body : ∀ (p : Program) (e : Env) (R : Room) (s : State) (m : MethodId) (args : Array Value) (below : List Frame) (meth : Method) (c : Code) (ls : Array Slot) (A : Nat → Prop) (Q : State → Prop), R = wR d mc ms → wCx p l s m args c meth cc maxL own D cy A → Wd D A s.heap g N f s.heap [] → lv_has ls maxL (lv_args 0 av) →
      (∀ (pc : Nat) (ls : Array Slot) (g1 : Nat → Nat) (N1 : Nat) (f1 : Nat → va_E) (H : Heap) (locs : List Loc) (cells slots : Nat), post (g1, N1, f1) → Wd D A s.heap g1 N1 f1 H locs → cells ≤ mc → slots ≤ ms → decode cc pc = .ok (.return_, 1) → W p l e R s m args below meth c H locs cells slots Q (F0 m pc ls [])) → W p l e R s m args below meth c s.heap [] 0 0 Q (F0 m 0 ls [])) : cNv l D cy y cc maxL none d mc ms av g N f post :=
  iNv hy hown hfl hav (fun p e s m below meth c ls C hr hw hl => body p e _ s m _ below meth c ls _ _ rfl C hw hl (fun pc ls g1 N1 f1 H locs cells slots hp hw h1 h2 hd => eNv C hw hr.1 hp h1 h2 hd))
theorem jgWv {post : (Nat → va_E) → Prop} (hy : plainName y.cls = true) (hown : y.cls = own) (hfl : l.stackTraces = false) (hav : (lg_sl av).length ≤ maxL) (hnm : y.name = "<init>")
    (body : ∀ (p : Program) (e : Env) (R : Room) (s : State) (m : MethodId) (args : Array Value) (below : List Frame) (meth : Method) (c : Code) (ls : Array Slot) (A : Nat → Prop) (Q : State → Prop), R = wR d mc ms → wCx p l s m args c meth cc maxL own D cy A → meth.name = "<init>" → Wd D A s.heap g N f s.heap [] → lv_has ls maxL (lv_args 0 av) →
      (∀ (pc : Nat) (ls : Array Slot) (f1 : Nat → va_E) (H : Heap) (locs : List Loc) (cells slots : Nat), post f1 → Wd D A s.heap g N f1 H locs → cells ≤ mc → slots ≤ ms → decode cc pc = .ok (.return_, 1) → W p l e R s m args below meth c H locs cells slots Q (F0 m pc ls [])) → W p l e R s m args below meth c s.heap [] 0 0 Q (F0 m 0 ls [])) : cWv l D cy y cc maxL none d mc ms av g N f post :=
  iWv hy hown hfl hav (fun p e s m below meth c ls C hr hw hl => body p e _ s m _ below meth c ls _ _ rfl C (hr.2.trans hnm) hw hl (fun pc ls f1 H locs cells slots hp hw h1 h2 hd => eWv C hw hr.1 hp h1 h2 hd))
end JNV
section PST
variable {p : Program} {l : Launch} {e : Env} {R : Room} {s : State} {m : MethodId} {args : Array Value} {below : List Frame} {meth : Method} {c : Code} {H : Heap} {locs : List Loc} {cells slots : Nat} {Q : State → Prop}
variable {cc : ByteArray} {nL : Nat} {own : String} {pc : Nat} {ls : Array Slot} {rest st0 : List Value} {D : va_G} {cy : Nat → Nat} {A : Nat → Prop} {g : Nat → Nat} {N : Nat} {f : Nat → va_E}
theorem w_putFs (C : wCx p l s m args c meth cc nL own D cy A) (hin : meth.name = "<init>") (h : Wd D A s.heap g N f H locs) {ci k j n index : Nat} {fs : List Value} (fs' : List Value) {v : Value} {ty : Nat → FieldType} {C0 : String} {T : u_T} (hk : k < N) (hf : f k = .inr (ci, fs)) (hc : vwCl[ci]? = some (C0, T, n)) (hty : ∀ k, k < n → parseFieldDescriptor (T k).2.2.1 = some (ty k)) (hnm : ∀ a, a < n → ∀ b, b < n → a ≠ b → (T a).2.1 ≠ (T b).2.1) (hj : j < n) (hlink : (Cond.fieldLink own index (T j).1 (T j).2.1 (T j).2.2.1) ∈ wAll) (hfin : (T j).2.2.2 = true) (hdecl : (T j).1 = own) (hn : narrow (ty j) v = v) (hfit : fits (ty j) v = true) (hl : j < fs.length) (hs : fs.set j v = fs') (hst : st0 = v :: .ref (g k) :: rest) (hdg : decode cc pc = .ok (.putfield index, 3))
    (kk : ∀ (H1 : Heap) (locs1 : List Loc), Wd D A s.heap g N (va_up f k (.inr (ci, fs'))) H1 locs1 → W p l e R s m args below meth c H1 locs1 cells slots Q (F0 m (pc + 3) ls rest)) : W p l e R s m args below meth c H locs cells slots Q (F0 m pc ls st0) := by
  subst hst
  exact w_putF C hin h fs' hk hf hc hty hnm hj hlink hfin hdecl hn hfit hl hs hdg kk
theorem w_puts (C : wCx p l s m args c meth cc nL own D cy A) (h : Wd D A s.heap g N f H locs) {ci k j n index : Nat} {fs : List Value} (fs' : List Value) {v : Value} {ty : Nat → FieldType} {C0 : String} {T : u_T} (hk : k < N) (hf : f k = .inr (ci, fs)) (hc : vwCl[ci]? = some (C0, T, n)) (hty : ∀ k, k < n → parseFieldDescriptor (T k).2.2.1 = some (ty k)) (hnm : ∀ a, a < n → ∀ b, b < n → a ≠ b → (T a).2.1 ≠ (T b).2.1) (hj : j < n) (hlink : (Cond.fieldLink own index (T j).1 (T j).2.1 (T j).2.2.1) ∈ wAll) (hfin : (T j).2.2.2 = false) (hn : narrow (ty j) v = v) (hfit : fits (ty j) v = true) (hl : j < fs.length) (hs : fs.set j v = fs') (hst : st0 = v :: .ref (g k) :: rest) (hdg : decode cc pc = .ok (.putfield index, 3))
    (kk : ∀ (H1 : Heap) (locs1 : List Loc), Wd D A s.heap g N (va_up f k (.inr (ci, fs'))) H1 locs1 → W p l e R s m args below meth c H1 locs1 cells slots Q (F0 m (pc + 3) ls rest)) : W p l e R s m args below meth c H locs cells slots Q (F0 m pc ls st0) := by
  subst hst
  exact w_put C h fs' hk hf hc hty hnm hj hlink hfin hn hfit hl hs hdg kk
end PST
theorem va_up_up {α : Type} (f : Nat → α) (k : Nat) (a b : α) : va_up (va_up f k a) k b = va_up f k b := by
  funext j
  by_cases h : j = k <;> simp [va_up, h]
theorem mkS_arr2 {cy g0 g : Nat → Nat} {f0 f : Nat → va_E} {k N q : Nat} {x : va_E} (h : mkS cy g0 f0 k N g f) (hk : k < N) (hN : N < 47) (hC : mkC k N) (hx : ∀ g1, sh g1 cy N (fun _ => 0) = x) : mkS cy g0 f0 k (N + 1) (va_up g N q) (va_up f N x) ∧ (∀ i, i < N → va_up g N q i = g i) ∧ va_up g N q N = q ∧ va_up f N x k = f k :=
  ⟨mkS_arr h hk hN hC hx, fun i hi => va_up_ne _ _ (by omega), va_up_self _ _ _, va_up_ne _ _ (by omega)⟩
theorem mkS_ext {cy g0 g : Nat → Nat} {f0 f f' : Nat → va_E} {k N : Nat} (h : mkS cy g0 f0 k N g f) (he : ∀ j, j ≠ k → f' j = f j) : mkS cy g0 f0 k N g f' :=
  ⟨h.1, fun j hj => (he j (by omega)).trans (h.2.1 j hj), fun j h1 h2 => (he j (by omega)).trans (h.2.2 j h1 h2)⟩
/-- the list's makers -/
theorem c_Jxa1e45_init {l : Launch} {D : va_G} {cy : Nat → Nat} {g : Nat → Nat} {N k : Nat} {f : Nat → va_E} (hfl : l.stackTraces = false) : cWv l D cy yJxa1e45_init_da8c8 cJxa1e45_init_da8c8 1 none 1 0 0 [.ref (g k)] g N f (fun f' => f' = f) := by
  refine jgWv (own := RJxa1e45) (by decide) rfl hfl (Nat.le_of_ble_eq_true rfl) rfl ?_
  intro p e R s m args below meth c ls A Q hRe C hmn hw hl hret
  subst hRe
  have hx := C.1
  have hb := C.2.1
  have hl : lv_has ls 1 [(0, .ref (g k))] := hl
  refine lv_aload_n hx hb dJxa1e45_init_da8c8_0 rfl (lv_at hl 0 rfl) ?_
  refine w_objI C k160 hl.1 dJxa1e45_init_da8c8_1 (Nat.le_of_ble_eq_true rfl) (by decide) ?_
  exact hret 4 ls _ _ _ _ _ rfl hw (Nat.le_refl _) (Nat.le_refl _) dJxa1e45_init_da8c8_4
theorem c_Jxc12de_init {l : Launch} {D : va_G} {cy : Nat → Nat} {g : Nat → Nat} {N k : Nat} {f : Nat → va_E} (hfl : l.stackTraces = false) (hk : k < N) (hO : f k = .inr (0, [.int 0, .null, .int 0])) : cWv l D cy yJxc12de_init_da8c8 cJxc12de_init_da8c8 1 none 2 0 0 [.ref (g k)] g N f (fun f' => f' = f) := by
  refine jgWv (own := RJxc12de) (by decide) rfl hfl (Nat.le_of_ble_eq_true rfl) rfl ?_
  intro p e R s m args below meth c ls A Q hRe C hmn hw hl hret
  subst hRe
  have hx := C.1
  have hb := C.2.1
  have hl : lv_has ls 1 [(0, .ref (g k))] := hl
  refine lv_aload_n hx hb dJxc12de_init_da8c8_0 rfl (lv_at hl 0 rfl) ?_
  refine w_iWv C hw bJxa1e45_init_da8c8 k163 (k := k) (As := []) (c_Jxa1e45_init hfl) rfl rfl dJxc12de_init_da8c8_1 ⟨rfl, rfl⟩ (by decide) hl.1 (Nat.le_of_ble_eq_true rfl) ⟨Nat.le_of_ble_eq_true rfl, Nat.le_of_ble_eq_true rfl⟩ fun f9 H locs hf9 hw => ?_
  rw [hf9] at hw
  refine lv_aload_n hx hb dJxc12de_init_da8c8_4 rfl (lv_at hl 0 rfl) ?_
  refine lv_iconst (v := 0) hx hb dJxc12de_init_da8c8_5 (by decide) ?_
  refine w_put C hw [.int 0, .null, .int 0] (k := k) (v := .int 0) (ty := tyJx4a65c) (j := 0) hk hO rfl tyJx4a65c_ok nmJx4a65c (by decide) k162 rfl rfl rfl (Nat.le_of_ble_eq_true rfl) rfl dJxc12de_init_da8c8_6 fun H locs hw => ?_
  refine hret 9 ls _ _ _ _ _ ?_ hw (Nat.le_refl _) (Nat.le_refl _) dJxc12de_init_da8c8_9
  funext j
  by_cases hj : j = k
  · subst hj; rw [va_up_self, hO]
  · rw [va_up_ne _ _ hj]
/-- a rule -/
theorem c_X4_init {l : Launch} {D : va_G} {cy : Nat → Nat} {g : Nat → Nat} {N k : Nat} {f : Nat → va_E} {za1 za2 za3 za4 za5 : Int32} (hfl : l.stackTraces = false) (hk : k < N) (hO : f k = .inr (5, [.int 0, .int 0, .int 0, .int 0, .int 0, .int 0, .int 0])) : cWv l D cy yX4_init cX4_init 6 none 1 0 0 [.ref (g k), .int za1, .int za2, .int za3, .int za4, .int za5] g N f (fun f' => f' = va_up f k (.inr (5, [.int za1, .int za2, .int za3, .int za4, .int za5, .int 0, .int 1]))) := by
  refine jgWv (own := RX4) (by decide) rfl hfl (Nat.le_of_ble_eq_true rfl) rfl ?_
  intro p e R s m args below meth c ls A Q hRe C hmn hw hl hret
  subst hRe
  have hx := C.1
  have hb := C.2.1
  have hl : lv_has ls 6 [(0, .ref (g k)), (1, .int za1), (2, .int za2), (3, .int za3), (4, .int za4), (5, .int za5)] := hl
  refine lv_aload_n hx hb dX4_init_0 rfl (lv_at hl 0 rfl) ?_
  refine w_objI C k152 hl.1 dX4_init_1 (Nat.le_of_ble_eq_true rfl) (by decide) ?_
  refine lv_aload_n hx hb dX4_init_4 rfl (lv_at hl 0 rfl) ?_
  refine lv_iload_n hx hb dX4_init_5 rfl (lv_at hl 1 rfl) ?_
  refine w_putF C hmn hw [.int za1, .int 0, .int 0, .int 0, .int 0, .int 0, .int 0] (k := k) (v := .int za1) (ty := tyX4) (j := 0) hk hO rfl tyX4_ok nmX4 (by decide) k153 rfl rfl rfl rfl (Nat.le_of_ble_eq_true rfl) rfl dX4_init_6 fun H locs hw => ?_
  refine lv_aload_n hx hb dX4_init_9 rfl (lv_at hl 0 rfl) ?_
  refine lv_iload_n hx hb dX4_init_10 rfl (lv_at hl 2 rfl) ?_
  refine w_putF C hmn hw [.int za1, .int za2, .int 0, .int 0, .int 0, .int 0, .int 0] (k := k) (v := .int za2) (ty := tyX4) (j := 1) hk (va_up_self _ _ _) rfl tyX4_ok nmX4 (by decide) k154 rfl rfl rfl rfl (Nat.le_of_ble_eq_true rfl) rfl dX4_init_11 fun H locs hw => ?_
  rw [va_up_up] at hw
  refine lv_aload_n hx hb dX4_init_14 rfl (lv_at hl 0 rfl) ?_
  refine lv_iload_n hx hb dX4_init_15 rfl (lv_at hl 3 rfl) ?_
  refine w_putF C hmn hw [.int za1, .int za2, .int za3, .int 0, .int 0, .int 0, .int 0] (k := k) (v := .int za3) (ty := tyX4) (j := 2) hk (va_up_self _ _ _) rfl tyX4_ok nmX4 (by decide) k155 rfl rfl rfl rfl (Nat.le_of_ble_eq_true rfl) rfl dX4_init_16 fun H locs hw => ?_
  rw [va_up_up] at hw
  refine lv_aload_n hx hb dX4_init_19 rfl (lv_at hl 0 rfl) ?_
  refine lv_iload hx hb dX4_init_20 (lv_at hl 4 rfl) ?_
  refine w_putF C hmn hw [.int za1, .int za2, .int za3, .int za4, .int 0, .int 0, .int 0] (k := k) (v := .int za4) (ty := tyX4) (j := 3) hk (va_up_self _ _ _) rfl tyX4_ok nmX4 (by decide) k156 rfl rfl rfl rfl (Nat.le_of_ble_eq_true rfl) rfl dX4_init_22 fun H locs hw => ?_
  rw [va_up_up] at hw
  refine lv_aload_n hx hb dX4_init_25 rfl (lv_at hl 0 rfl) ?_
  refine lv_iload hx hb dX4_init_26 (lv_at hl 5 rfl) ?_
  refine w_put C hw [.int za1, .int za2, .int za3, .int za4, .int za5, .int 0, .int 0] (k := k) (v := .int za5) (ty := tyX4) (j := 4) hk (va_up_self _ _ _) rfl tyX4_ok nmX4 (by decide) k157 rfl rfl rfl (Nat.le_of_ble_eq_true rfl) rfl dX4_init_28 fun H locs hw => ?_
  rw [va_up_up] at hw
  refine lv_aload_n hx hb dX4_init_31 rfl (lv_at hl 0 rfl) ?_
  refine lv_iconst (v := 1) hx hb dX4_init_32 (by decide) ?_
  refine w_put C hw [.int za1, .int za2, .int za3, .int za4, .int za5, .int 0, .int 1] (k := k) (v := .int 1) (ty := tyX4) (j := 6) hk (va_up_self _ _ _) rfl tyX4_ok nmX4 (by decide) k158 rfl rfl rfl (Nat.le_of_ble_eq_true rfl) rfl dX4_init_33 fun H locs hw => ?_
  rw [va_up_up] at hw
  exact hret 36 ls _ _ _ _ _ rfl hw (Nat.le_refl _) (Nat.le_refl _) dX4_init_36
set_option maxHeartbeats 4000000 in
theorem c_X2_init {l : Launch} {D : va_G} {cy : Nat → Nat} {g : Nat → Nat} {f : Nat → va_E} (hfl : l.stackTraces = false) (hO : f 1 = .inr (3, [.null, .int 0])) : cNv l D cy yX2_init cX2_init 1 none 1 1 21 [.ref (g 1)] g 2 f (mkP cy g f 1 3) := by
  refine jNv (own := RX2) (by decide) rfl hfl (Nat.le_of_ble_eq_true rfl) rfl ?_
  intro p e R s m args below meth c ls A Q hRe C hmn hw hl hret
  subst hRe
  have hx := C.1
  have hb := C.2.1
  have hl : lv_has ls 1 [(0, .ref (g 1))] := hl
  have hS := mkS_0 cy g f 1
  refine lv_aload_n hx hb dX2_init_0 rfl (lv_at hl 0 rfl) ?_
  refine w_objI C k121 hl.1 dX2_init_1 (Nat.le_of_ble_eq_true rfl) (by decide) ?_
  refine lv_aload_n hx hb dX2_init_4 rfl (lv_at hl 0 rfl) ?_
  refine lv_bipush (v := 21) hx hb dX2_init_5 (by decide) ?_
  refine w_newa C hw (atype := .boolean) (ty := .boolean) (t := 1) (n := 21) (N' := 21) (a0 := (21, .inl (fun _ => 0))) rfl (Or.inr (Or.inl rfl)) rfl (fun _ => rfl) (by decide) rfl (Nat.le_of_ble_eq_true rfl) (Nat.le_of_ble_eq_true rfl) (Nat.le_of_ble_eq_true rfl) dX2_init_7 fun q1 H hw => ?_
  obtain ⟨hS, hg, hq, hfk⟩ := mkS_arr2 (q := q1) hS (Nat.le_of_ble_eq_true rfl) (Nat.le_of_ble_eq_true rfl) (mkC_of rfl) (x := .inl (cy 1, 21, .inl (fun _ => 0))) (fun _ => rfl)
  generalize va_up g 2 q1 = g1 at hS hg hq hw
  generalize va_up f 2 (.inl (cy 1, 21, .inl (fun _ => 0))) = f1 at hS hfk hw
  have hO : f1 1 = .inr (3, [.null, .int 0]) := by rw [hfk, hO]
  refine w_putFs C hmn hw [.ref (g1 2), .int 0] (k := 1) (v := .ref (g1 2)) (ty := tyX2) (j := 0) (Nat.le_of_ble_eq_true rfl) hO rfl tyX2_ok nmX2 (by decide) k16 rfl rfl rfl rfl (Nat.le_of_ble_eq_true rfl) rfl (by rw [hq, hS.1 1 (Nat.le_refl _)]) dX2_init_9 fun H locs hw => ?_
  have hS := mkS_up hS (x := (.inr (3, [.ref (g1 2), .int 0])))
  have hO := va_up_self f1 1 ((.inr (3, [.ref (g1 2), .int 0])) : va_E)
  generalize va_up f1 1 (.inr (3, [.ref (g1 2), .int 0])) = fz1 at hS hO hw
  exact hret 12 ls _ _ _ _ _ _ _ ⟨rfl, hS, hO⟩ hw (Nat.le_of_ble_eq_true rfl) (Nat.le_of_ble_eq_true rfl) dX2_init_12
set_option maxHeartbeats 4000000 in
theorem c_Jx4a65c_init_da8c8 {l : Launch} {D : va_G} {cy : Nat → Nat} {g : Nat → Nat} {f : Nat → va_E} (hfl : l.stackTraces = false) (hO : f 4 = .inr (0, [.int 0, .null, .int 0])) : cNv l D cy yJx4a65c_init_da8c8 cJx4a65c_init_da8c8 1 none 3 0 0 [.ref (g 4)] g 5 f (mkP cy g f 4 5) := by
  refine jNv (own := RJx4a65c) (by decide) rfl hfl (Nat.le_of_ble_eq_true rfl) rfl ?_
  intro p e R s m args below meth c ls A Q hRe C hmn hw hl hret
  subst hRe
  have hx := C.1
  have hb := C.2.1
  have hl : lv_has ls 1 [(0, .ref (g 4))] := hl
  have hS := mkS_0 cy g f 4
  refine lv_aload_n hx hb dJx4a65c_init_da8c8_0 rfl (lv_at hl 0 rfl) ?_
  refine w_iWv C hw bJxc12de_init_da8c8 k168 (k := 4) (As := []) (c_Jxc12de_init hfl (k := 4) (by decide) hO) rfl rfl dJx4a65c_init_da8c8_1 ⟨rfl, rfl⟩ (by decide) hl.1 (Nat.le_of_ble_eq_true rfl) ⟨Nat.le_of_ble_eq_true rfl, Nat.le_of_ble_eq_true rfl⟩ fun f9 H locs hf9 hw => ?_
  rw [hf9] at hw
  refine lv_aload_n hx hb dJx4a65c_init_da8c8_4 rfl (lv_at hl 0 rfl) ?_
  refine va_gets hx hb C.2.2.2.2.2.1.z hw.2.2 C.2.2.2.1 (C.w k167) (fun _ h => h) dJx4a65c_init_da8c8_5 ?_
  refine w_puts C hw [.int 0, .ref (cy 9), .int 0] (k := 4) (v := .ref (cy 9)) (ty := tyJx4a65c) (j := 1) (Nat.le_of_ble_eq_true rfl) hO rfl tyJx4a65c_ok nmJx4a65c (by decide) k43 rfl rfl rfl (Nat.le_of_ble_eq_true rfl) rfl rfl dJx4a65c_init_da8c8_8 fun H locs hw => ?_
  have hS := mkS_up hS (x := .inr (0, [.int 0, .ref (cy 9), .int 0]))
  have hO := va_up_self f 4 (.inr (0, [.int 0, .ref (cy 9), .int 0]) : va_E)
  generalize va_up f 4 (.inr (0, [.int 0, .ref (cy 9), .int 0])) = fz at hS hO hw
  exact hret 11 ls _ _ _ _ _ _ _ ⟨rfl, hS, hO⟩ hw (Nat.le_of_ble_eq_true rfl) (Nat.le_of_ble_eq_true rfl) dJx4a65c_init_da8c8_11
theorem dfJx4a65c : ∀ j, j < 3 → defaultValue (tyJx4a65c j) = vp_V [.int 0, .null, .int 0] j := fun j hj => by
  match j, hj with
  | 0, _ => rfl
  | 1, _ => rfl
  | 2, _ => rfl
  | j + 3, hj => omega
theorem dfX4 : ∀ j, j < 7 → defaultValue (tyX4 j) = vp_V [.int 0, .int 0, .int 0, .int 0, .int 0, .int 0, .int 0] j := fun j hj => by
  match j, hj with
  | 0, _ => rfl
  | 1, _ => rfl
  | 2, _ => rfl
  | 3, _ => rfl
  | 4, _ => rfl
  | 5, _ => rfl
  | 6, _ => rfl
  | j + 7, hj => omega
set_option maxHeartbeats 4000000 in
theorem c_X5_init {l : Launch} {D : va_G} {cy : Nat → Nat} {g : Nat → Nat} {f : Nat → va_E} (hfl : l.stackTraces = false) (hO : f 3 = .inr (6, [.null, .null])) : cNv l D cy yX5_init cX5_init 1 none 4 2 10 [.ref (g 3)] g 4 f (mkP cy g f 3 6) := by
  refine jNv (own := RX5) (by decide) rfl hfl (Nat.le_of_ble_eq_true rfl) rfl ?_
  intro p e R s m args below meth c ls A Q hRe C hmn hw hl hret
  subst hRe
  have hx := C.1
  have hb := C.2.1
  have hl : lv_has ls 1 [(0, .ref (g 3))] := hl
  have hS := mkS_0 cy g f 3
  refine lv_aload_n hx hb dX5_init_0 rfl (lv_at hl 0 rfl) ?_
  refine w_objI C k171 hl.1 dX5_init_1 (Nat.le_of_ble_eq_true rfl) (by decide) ?_
  refine lv_aload_n hx hb dX5_init_4 rfl (lv_at hl 0 rfl) ?_
  refine w_newo C hw tyJx4a65c tyJx4a65c_ok k172 k173 k36 (ci := 0) rfl dfJx4a65c (Nat.le_of_ble_eq_true rfl) (Nat.le_of_ble_eq_true rfl) dX5_init_5 fun q1 H hw => ?_
  refine lv_dup hx hb dX5_init_8 rfl ?_
  refine w_iNv C hw bJx4a65c_init_da8c8 k177 (k := 4) (As := []) (c_Jx4a65c_init_da8c8 hfl (g := va_up g 4 q1) (f := va_up f 4 _) (va_up_self _ _ _)) (by rw [va_up_self]; rfl) rfl dX5_init_9 ⟨rfl, rfl⟩ (by decide) hl.1 (Nat.le_of_ble_eq_true rfl) ⟨Nat.le_of_ble_eq_true rfl, Nat.le_of_ble_eq_true rfl⟩ fun g1 N1 f1 H locs hp hw => ?_
  obtain ⟨hN1, hS, hg, hq, hfk⟩ := mkS_obj hS (Nat.le_of_ble_eq_true rfl) (Nat.le_of_ble_eq_true rfl) (mkC_of rfl) hp (Nat.le_of_ble_eq_true rfl)
  subst hN1
  have hO : f1 3 = .inr (6, [.null, .null]) := by rw [hfk, hO]
  refine w_putFs C hmn hw [.ref (g1 4), .null] (k := 3) (v := .ref (g1 4)) (ty := tyX5) (j := 0) (Nat.le_of_ble_eq_true rfl) hO rfl tyX5_ok nmX5 (by decide) k32 rfl rfl rfl rfl (Nat.le_of_ble_eq_true rfl) rfl (by rw [hq, hS.1 3 (Nat.le_refl _)]) dX5_init_12 fun H locs hw => ?_
  have hS := mkS_up hS (x := (.inr (6, [.ref (g1 4), .null])))
  have hO := va_up_self f1 3 (.inr (6, [.ref (g1 4), .null]) : va_E)
  generalize va_up f1 3 (.inr (6, [.ref (g1 4), .null])) = fz1 at hS hO hw
  refine lv_aload_n hx hb dX5_init_15 rfl (lv_at hl 0 rfl) ?_
  refine w_newo C hw tyX4 tyX4_ok k174 k175 k176 (ci := 5) rfl dfX4 (Nat.le_of_ble_eq_true rfl) (Nat.le_of_ble_eq_true rfl) dX5_init_16 fun q2 H hw => ?_
  refine lv_dup hx hb dX5_init_19 rfl ?_
  refine lv_iconst (v := 0) hx hb dX5_init_20 (by decide) ?_
  refine lv_iconst (v := 0) hx hb dX5_init_21 (by decide) ?_
  refine lv_iconst (v := 0) hx hb dX5_init_22 (by decide) ?_
  refine lv_iconst (v := 0) hx hb dX5_init_23 (by decide) ?_
  refine lv_iconst (v := 0) hx hb dX5_init_24 (by decide) ?_
  refine w_iWv C hw bX4_init k179 (k := 5) (As := [.int 0, .int 0, .int 0, .int 0, .int 0]) (c_X4_init hfl (g := va_up g1 5 q2) (f := va_up fz1 5 _) (by decide) (va_up_self _ _ _)) (by rw [va_up_self]; rfl) rfl dX5_init_25 ⟨rfl, rfl⟩ (by decide) hl.1 (Nat.le_of_ble_eq_true rfl) ⟨Nat.le_of_ble_eq_true rfl, Nat.le_of_ble_eq_true rfl⟩ fun f9 H locs hf9 hw => ?_
  subst hf9
  rw [va_up_up] at hw
  have hg4 : va_up g1 5 q2 4 = g1 4 := va_up_ne _ _ (by decide)
  have hg3 : va_up g1 5 q2 3 = g 3 := (va_up_ne _ _ (by decide)).trans (hS.1 3 (Nat.le_refl _))
  have hg5 : va_up g1 5 q2 5 = q2 := va_up_self _ _ _
  have hS6 := mkS_arr (q := q2) hS (Nat.le_of_ble_eq_true rfl) (Nat.le_of_ble_eq_true rfl) (mkC_of rfl) (x := .inr (5, [.int 0, .int 0, .int 0, .int 0, .int 0, .int 0, .int 0])) (fun _ => rfl)
  generalize va_up g1 5 q2 = g2 at hw hg4 hg3 hg5 hS6
  refine w_putFs C hmn hw [.ref (g2 4), .ref (g2 5)] (k := 3) (v := .ref (g2 5)) (ty := tyX5) (j := 1) (Nat.le_of_ble_eq_true rfl) (fs := [.ref (g2 4), .null]) (by rw [va_up_ne _ _ (by decide), hO, hg4]) rfl tyX5_ok nmX5 (by decide) k52 rfl rfl rfl rfl (Nat.le_of_ble_eq_true rfl) rfl (by rw [hg5, hg3]) dX5_init_28 fun H locs hw => ?_
  refine lv_aload_n hx hb dX5_init_31 rfl (lv_at hl 0 rfl) ?_
  rw [← hg3]
  refine w_get C hw (k := 3) (v := .ref (g2 5)) (j := 1) (Nat.le_of_ble_eq_true rfl) (va_up_self _ _ _) rfl (by decide) k52 rfl dX5_init_32 ?_
  refine lv_iconst (v := 0) hx hb dX5_init_35 (by decide) ?_
  refine w_putN C hw [.int 0, .int 0, .int 0, .int 0, .int 0, .int 0, .int 0] (k := 5) (v := .int 0) (ty := tyX4) (j := 6) (Nat.le_of_ble_eq_true rfl) (fs := [.int 0, .int 0, .int 0, .int 0, .int 0, .int 0, .int 1]) (by rw [va_up_ne _ _ (by decide), va_up_self]) rfl tyX4_ok nmX4 (by decide) k845 rfl rfl rfl (Nat.le_of_ble_eq_true rfl) rfl dX5_init_36 fun H locs hw => ?_
  refine hret 39 ls _ _ _ _ _ _ _ ⟨rfl, mkS_ext hS6 (fun j hj => ?_), ?_⟩ hw (Nat.le_of_ble_eq_true rfl) (Nat.le_of_ble_eq_true rfl) dX5_init_39
  · show va_up (va_up (va_up fz1 5 (.inr (5, [.int 0, .int 0, .int 0, .int 0, .int 0, .int 0, .int 1]))) 3 (.inr (6, [.ref (g2 4), .ref (g2 5)]))) 5 (.inr (5, [.int 0, .int 0, .int 0, .int 0, .int 0, .int 0, .int 0])) j = va_up fz1 5 (.inr (5, [.int 0, .int 0, .int 0, .int 0, .int 0, .int 0, .int 0])) j
    by_cases h5 : j = 5
    · subst h5; rw [va_up_self, va_up_self]
    · rw [va_up_ne _ _ h5, va_up_ne _ _ hj, va_up_ne _ _ h5, va_up_ne _ _ h5]
  · have hz : va_up (va_up (va_up fz1 5 (.inr (5, [.int 0, .int 0, .int 0, .int 0, .int 0, .int 0, .int 1]))) 3 (.inr (6, [.ref (g2 4), .ref (g2 5)]))) 5 (.inr (5, [.int 0, .int 0, .int 0, .int 0, .int 0, .int 0, .int 0])) 3 = (.inr (6, [.ref (g2 4), .ref (g2 5)])) := by rw [va_up_ne _ _ (by decide), va_up_self]
    exact hz
set_option maxHeartbeats 4000000 in
theorem c_X0_init {l : Launch} {D : va_G} {cy : Nat → Nat} {g : Nat → Nat} {f : Nat → va_E} (hfl : l.stackTraces = false) (hO : f 6 = .inr (1, [.null, .null, .null, .null, .null, .int 0, .int 0])) : cNv l D cy yX0_init cX0_init 1 none 1 5 168 [.ref (g 6)] g 7 f (mkP cy g f 6 12) := by
  refine jNv (own := RX0) (by decide) rfl hfl (Nat.le_of_ble_eq_true rfl) rfl ?_
  intro p e R s m args below meth c ls A Q hRe C hmn hw hl hret
  subst hRe
  have hx := C.1
  have hb := C.2.1
  have hl : lv_has ls 1 [(0, .ref (g 6))] := hl
  have hS := mkS_0 cy g f 6
  refine lv_aload_n hx hb dX0_init_0 rfl (lv_at hl 0 rfl) ?_
  refine w_objI C k1 hl.1 dX0_init_1 (Nat.le_of_ble_eq_true rfl) (by decide) ?_
  refine lv_aload_n hx hb dX0_init_4 rfl (lv_at hl 0 rfl) ?_
  refine lv_bipush (v := 24) hx hb dX0_init_5 (by decide) ?_
  refine w_newa C hw (atype := .int) (ty := .int) (t := 0) (n := 24) (N' := 24) (a0 := (24, .inl (fun _ => 0))) rfl (Or.inl rfl) rfl (fun _ => rfl) (by decide) rfl (Nat.le_of_ble_eq_true rfl) (Nat.le_of_ble_eq_true rfl) (Nat.le_of_ble_eq_true rfl) dX0_init_7 fun q1 H hw => ?_
  obtain ⟨hS, hg, hq, hfk⟩ := mkS_arr2 (q := q1) hS (Nat.le_of_ble_eq_true rfl) (Nat.le_of_ble_eq_true rfl) (mkC_of rfl) (x := .inl (cy 0, 24, .inl (fun _ => 0))) (fun _ => rfl)
  generalize va_up g 7 q1 = g1 at hS hg hq hw
  generalize va_up f 7 (.inl (cy 0, 24, .inl (fun _ => 0))) = f1 at hS hfk hw
  have hO : f1 6 = .inr (1, [.null, .null, .null, .null, .null, .int 0, .int 0]) := by rw [hfk, hO]
  refine w_putFs C hmn hw [.ref (g1 7), .null, .null, .null, .null, .int 0, .int 0] (k := 6) (v := .ref (g1 7)) (ty := tyX0) (j := 0) (Nat.le_of_ble_eq_true rfl) hO rfl tyX0_ok nmX0 (by decide) k4 rfl rfl rfl rfl (Nat.le_of_ble_eq_true rfl) rfl (by rw [hq, hS.1 6 (Nat.le_refl _)]) dX0_init_9 fun H locs hw => ?_
  have hS := mkS_up hS (x := (.inr (1, [.ref (g1 7), .null, .null, .null, .null, .int 0, .int 0])))
  have hO := va_up_self f1 6 ((.inr (1, [.ref (g1 7), .null, .null, .null, .null, .int 0, .int 0])) : va_E)
  generalize va_up f1 6 (.inr (1, [.ref (g1 7), .null, .null, .null, .null, .int 0, .int 0])) = fz1 at hS hO hw
  refine lv_aload_n hx hb dX0_init_12 rfl (lv_at hl 0 rfl) ?_
  refine lv_bipush (v := 24) hx hb dX0_init_13 (by decide) ?_
  refine w_newa C hw (atype := .int) (ty := .int) (t := 0) (n := 24) (N' := 24) (a0 := (24, .inl (fun _ => 0))) rfl (Or.inl rfl) rfl (fun _ => rfl) (by decide) rfl (Nat.le_of_ble_eq_true rfl) (Nat.le_of_ble_eq_true rfl) (Nat.le_of_ble_eq_true rfl) dX0_init_15 fun q2 H hw => ?_
  obtain ⟨hS, hg, hq, hfk⟩ := mkS_arr2 (q := q2) hS (Nat.le_of_ble_eq_true rfl) (Nat.le_of_ble_eq_true rfl) (mkC_of rfl) (x := .inl (cy 0, 24, .inl (fun _ => 0))) (fun _ => rfl)
  generalize va_up g1 8 q2 = g2 at hS hg hq hw
  generalize va_up fz1 8 (.inl (cy 0, 24, .inl (fun _ => 0))) = f2 at hS hfk hw
  have hO : f2 6 = .inr (1, [.ref (g2 7), .null, .null, .null, .null, .int 0, .int 0]) := by rw [hfk, hO, hg 7 (Nat.le_of_ble_eq_true rfl)]
  refine w_putFs C hmn hw [.ref (g2 7), .ref (g2 8), .null, .null, .null, .int 0, .int 0] (k := 6) (v := .ref (g2 8)) (ty := tyX0) (j := 1) (Nat.le_of_ble_eq_true rfl) hO rfl tyX0_ok nmX0 (by decide) k5 rfl rfl rfl rfl (Nat.le_of_ble_eq_true rfl) rfl (by rw [hq, hS.1 6 (Nat.le_refl _)]) dX0_init_17 fun H locs hw => ?_
  have hS := mkS_up hS (x := (.inr (1, [.ref (g2 7), .ref (g2 8), .null, .null, .null, .int 0, .int 0])))
  have hO := va_up_self f2 6 ((.inr (1, [.ref (g2 7), .ref (g2 8), .null, .null, .null, .int 0, .int 0])) : va_E)
  generalize va_up f2 6 (.inr (1, [.ref (g2 7), .ref (g2 8), .null, .null, .null, .int 0, .int 0])) = fz2 at hS hO hw
  refine lv_aload_n hx hb dX0_init_20 rfl (lv_at hl 0 rfl) ?_
  refine lv_bipush (v := 24) hx hb dX0_init_21 (by decide) ?_
  refine w_newa C hw (atype := .int) (ty := .int) (t := 0) (n := 24) (N' := 24) (a0 := (24, .inl (fun _ => 0))) rfl (Or.inl rfl) rfl (fun _ => rfl) (by decide) rfl (Nat.le_of_ble_eq_true rfl) (Nat.le_of_ble_eq_true rfl) (Nat.le_of_ble_eq_true rfl) dX0_init_23 fun q3 H hw => ?_
  obtain ⟨hS, hg, hq, hfk⟩ := mkS_arr2 (q := q3) hS (Nat.le_of_ble_eq_true rfl) (Nat.le_of_ble_eq_true rfl) (mkC_of rfl) (x := .inl (cy 0, 24, .inl (fun _ => 0))) (fun _ => rfl)
  generalize va_up g2 9 q3 = g3 at hS hg hq hw
  generalize va_up fz2 9 (.inl (cy 0, 24, .inl (fun _ => 0))) = f3 at hS hfk hw
  have hO : f3 6 = .inr (1, [.ref (g3 7), .ref (g3 8), .null, .null, .null, .int 0, .int 0]) := by rw [hfk, hO, hg 7 (Nat.le_of_ble_eq_true rfl), hg 8 (Nat.le_of_ble_eq_true rfl)]
  refine w_putFs C hmn hw [.ref (g3 7), .ref (g3 8), .ref (g3 9), .null, .null, .int 0, .int 0] (k := 6) (v := .ref (g3 9)) (ty := tyX0) (j := 2) (Nat.le_of_ble_eq_true rfl) hO rfl tyX0_ok nmX0 (by decide) k6 rfl rfl rfl rfl (Nat.le_of_ble_eq_true rfl) rfl (by rw [hq, hS.1 6 (Nat.le_refl _)]) dX0_init_25 fun H locs hw => ?_
  have hS := mkS_up hS (x := (.inr (1, [.ref (g3 7), .ref (g3 8), .ref (g3 9), .null, .null, .int 0, .int 0])))
  have hO := va_up_self f3 6 ((.inr (1, [.ref (g3 7), .ref (g3 8), .ref (g3 9), .null, .null, .int 0, .int 0])) : va_E)
  generalize va_up f3 6 (.inr (1, [.ref (g3 7), .ref (g3 8), .ref (g3 9), .null, .null, .int 0, .int 0])) = fz3 at hS hO hw
  refine lv_aload_n hx hb dX0_init_28 rfl (lv_at hl 0 rfl) ?_
  refine lv_bipush (v := 72) hx hb dX0_init_29 (by decide) ?_
  refine w_newa C hw (atype := .int) (ty := .int) (t := 0) (n := 72) (N' := 72) (a0 := (72, .inl (fun _ => 0))) rfl (Or.inl rfl) rfl (fun _ => rfl) (by decide) rfl (Nat.le_of_ble_eq_true rfl) (Nat.le_of_ble_eq_true rfl) (Nat.le_of_ble_eq_true rfl) dX0_init_31 fun q4 H hw => ?_
  obtain ⟨hS, hg, hq, hfk⟩ := mkS_arr2 (q := q4) hS (Nat.le_of_ble_eq_true rfl) (Nat.le_of_ble_eq_true rfl) (mkC_of rfl) (x := .inl (cy 0, 72, .inl (fun _ => 0))) (fun _ => rfl)
  generalize va_up g3 10 q4 = g4 at hS hg hq hw
  generalize va_up fz3 10 (.inl (cy 0, 72, .inl (fun _ => 0))) = f4 at hS hfk hw
  have hO : f4 6 = .inr (1, [.ref (g4 7), .ref (g4 8), .ref (g4 9), .null, .null, .int 0, .int 0]) := by rw [hfk, hO, hg 7 (Nat.le_of_ble_eq_true rfl), hg 8 (Nat.le_of_ble_eq_true rfl), hg 9 (Nat.le_of_ble_eq_true rfl)]
  refine w_putFs C hmn hw [.ref (g4 7), .ref (g4 8), .ref (g4 9), .ref (g4 10), .null, .int 0, .int 0] (k := 6) (v := .ref (g4 10)) (ty := tyX0) (j := 3) (Nat.le_of_ble_eq_true rfl) hO rfl tyX0_ok nmX0 (by decide) k7 rfl rfl rfl rfl (Nat.le_of_ble_eq_true rfl) rfl (by rw [hq, hS.1 6 (Nat.le_refl _)]) dX0_init_33 fun H locs hw => ?_
  have hS := mkS_up hS (x := (.inr (1, [.ref (g4 7), .ref (g4 8), .ref (g4 9), .ref (g4 10), .null, .int 0, .int 0])))
  have hO := va_up_self f4 6 ((.inr (1, [.ref (g4 7), .ref (g4 8), .ref (g4 9), .ref (g4 10), .null, .int 0, .int 0])) : va_E)
  generalize va_up f4 6 (.inr (1, [.ref (g4 7), .ref (g4 8), .ref (g4 9), .ref (g4 10), .null, .int 0, .int 0])) = fz4 at hS hO hw
  refine lv_aload_n hx hb dX0_init_36 rfl (lv_at hl 0 rfl) ?_
  refine lv_bipush (v := 24) hx hb dX0_init_37 (by decide) ?_
  refine w_newa C hw (atype := .int) (ty := .int) (t := 0) (n := 24) (N' := 24) (a0 := (24, .inl (fun _ => 0))) rfl (Or.inl rfl) rfl (fun _ => rfl) (by decide) rfl (Nat.le_of_ble_eq_true rfl) (Nat.le_of_ble_eq_true rfl) (Nat.le_of_ble_eq_true rfl) dX0_init_39 fun q5 H hw => ?_
  obtain ⟨hS, hg, hq, hfk⟩ := mkS_arr2 (q := q5) hS (Nat.le_of_ble_eq_true rfl) (Nat.le_of_ble_eq_true rfl) (mkC_of rfl) (x := .inl (cy 0, 24, .inl (fun _ => 0))) (fun _ => rfl)
  generalize va_up g4 11 q5 = g5 at hS hg hq hw
  generalize va_up fz4 11 (.inl (cy 0, 24, .inl (fun _ => 0))) = f5 at hS hfk hw
  have hO : f5 6 = .inr (1, [.ref (g5 7), .ref (g5 8), .ref (g5 9), .ref (g5 10), .null, .int 0, .int 0]) := by rw [hfk, hO, hg 7 (Nat.le_of_ble_eq_true rfl), hg 8 (Nat.le_of_ble_eq_true rfl), hg 9 (Nat.le_of_ble_eq_true rfl), hg 10 (Nat.le_of_ble_eq_true rfl)]
  refine w_putFs C hmn hw [.ref (g5 7), .ref (g5 8), .ref (g5 9), .ref (g5 10), .ref (g5 11), .int 0, .int 0] (k := 6) (v := .ref (g5 11)) (ty := tyX0) (j := 4) (Nat.le_of_ble_eq_true rfl) hO rfl tyX0_ok nmX0 (by decide) k8 rfl rfl rfl rfl (Nat.le_of_ble_eq_true rfl) rfl (by rw [hq, hS.1 6 (Nat.le_refl _)]) dX0_init_41 fun H locs hw => ?_
  have hS := mkS_up hS (x := (.inr (1, [.ref (g5 7), .ref (g5 8), .ref (g5 9), .ref (g5 10), .ref (g5 11), .int 0, .int 0])))
  have hO := va_up_self f5 6 ((.inr (1, [.ref (g5 7), .ref (g5 8), .ref (g5 9), .ref (g5 10), .ref (g5 11), .int 0, .int 0])) : va_E)
  generalize va_up f5 6 (.inr (1, [.ref (g5 7), .ref (g5 8), .ref (g5 9), .ref (g5 10), .ref (g5 11), .int 0, .int 0])) = fz5 at hS hO hw
  exact hret 44 ls _ _ _ _ _ _ _ ⟨rfl, hS, hO⟩ hw (Nat.le_of_ble_eq_true rfl) (Nat.le_of_ble_eq_true rfl) dX0_init_44
set_option maxHeartbeats 4000000 in
theorem c_X1_init {l : Launch} {D : va_G} {cy : Nat → Nat} {g : Nat → Nat} {f : Nat → va_E} (hfl : l.stackTraces = false) (hO : f 12 = .inr (2, [.null])) : cNv l D cy yX1_init cX1_init 1 none 1 1 24 [.ref (g 12)] g 13 f (mkP cy g f 12 14) := by
  refine jNv (own := RX1) (by decide) rfl hfl (Nat.le_of_ble_eq_true rfl) rfl ?_
  intro p e R s m args below meth c ls A Q hRe C hmn hw hl hret
  subst hRe
  have hx := C.1
  have hb := C.2.1
  have hl : lv_has ls 1 [(0, .ref (g 12))] := hl
  have hS := mkS_0 cy g f 12
  refine lv_aload_n hx hb dX1_init_0 rfl (lv_at hl 0 rfl) ?_
  refine w_objI C k97 hl.1 dX1_init_1 (Nat.le_of_ble_eq_true rfl) (by decide) ?_
  refine lv_aload_n hx hb dX1_init_4 rfl (lv_at hl 0 rfl) ?_
  refine lv_bipush (v := 24) hx hb dX1_init_5 (by decide) ?_
  refine w_newa C hw (atype := .int) (ty := .int) (t := 0) (n := 24) (N' := 24) (a0 := (24, .inl (fun _ => 0))) rfl (Or.inl rfl) rfl (fun _ => rfl) (by decide) rfl (Nat.le_of_ble_eq_true rfl) (Nat.le_of_ble_eq_true rfl) (Nat.le_of_ble_eq_true rfl) dX1_init_7 fun q1 H hw => ?_
  obtain ⟨hS, hg, hq, hfk⟩ := mkS_arr2 (q := q1) hS (Nat.le_of_ble_eq_true rfl) (Nat.le_of_ble_eq_true rfl) (mkC_of rfl) (x := .inl (cy 0, 24, .inl (fun _ => 0))) (fun _ => rfl)
  generalize va_up g 13 q1 = g1 at hS hg hq hw
  generalize va_up f 13 (.inl (cy 0, 24, .inl (fun _ => 0))) = f1 at hS hfk hw
  have hO : f1 12 = .inr (2, [.null]) := by rw [hfk, hO]
  refine w_putFs C hmn hw [.ref (g1 13)] (k := 12) (v := .ref (g1 13)) (ty := tyX1) (j := 0) (Nat.le_of_ble_eq_true rfl) hO rfl tyX1_ok nmX1 (by decide) k98 rfl rfl rfl rfl (Nat.le_of_ble_eq_true rfl) rfl (by rw [hq, hS.1 12 (Nat.le_refl _)]) dX1_init_9 fun H locs hw => ?_
  have hS := mkS_up hS (x := (.inr (2, [.ref (g1 13)])))
  have hO := va_up_self f1 12 ((.inr (2, [.ref (g1 13)])) : va_E)
  generalize va_up f1 12 (.inr (2, [.ref (g1 13)])) = fz1 at hS hO hw
  exact hret 12 ls _ _ _ _ _ _ _ ⟨rfl, hS, hO⟩ hw (Nat.le_of_ble_eq_true rfl) (Nat.le_of_ble_eq_true rfl) dX1_init_12
set_option maxHeartbeats 4000000 in
theorem c_X3_init {l : Launch} {D : va_G} {cy : Nat → Nat} {g : Nat → Nat} {f : Nat → va_E} (hfl : l.stackTraces = false) (hO : f 14 = .inr (4, [.null, .int 0, .int 0])) : cNv l D cy yX3_init cX3_init 1 none 1 1 24 [.ref (g 14)] g 15 f (mkP cy g f 14 16) := by
  refine jNv (own := RX3) (by decide) rfl hfl (Nat.le_of_ble_eq_true rfl) rfl ?_
  intro p e R s m args below meth c ls A Q hRe C hmn hw hl hret
  subst hRe
  have hx := C.1
  have hb := C.2.1
  have hl : lv_has ls 1 [(0, .ref (g 14))] := hl
  have hS := mkS_0 cy g f 14
  refine lv_aload_n hx hb dX3_init_0 rfl (lv_at hl 0 rfl) ?_
  refine w_objI C k127 hl.1 dX3_init_1 (Nat.le_of_ble_eq_true rfl) (by decide) ?_
  refine lv_aload_n hx hb dX3_init_4 rfl (lv_at hl 0 rfl) ?_
  refine lv_bipush (v := 24) hx hb dX3_init_5 (by decide) ?_
  refine w_newa C hw (atype := .int) (ty := .int) (t := 0) (n := 24) (N' := 24) (a0 := (24, .inl (fun _ => 0))) rfl (Or.inl rfl) rfl (fun _ => rfl) (by decide) rfl (Nat.le_of_ble_eq_true rfl) (Nat.le_of_ble_eq_true rfl) (Nat.le_of_ble_eq_true rfl) dX3_init_7 fun q1 H hw => ?_
  obtain ⟨hS, hg, hq, hfk⟩ := mkS_arr2 (q := q1) hS (Nat.le_of_ble_eq_true rfl) (Nat.le_of_ble_eq_true rfl) (mkC_of rfl) (x := .inl (cy 0, 24, .inl (fun _ => 0))) (fun _ => rfl)
  generalize va_up g 15 q1 = g1 at hS hg hq hw
  generalize va_up f 15 (.inl (cy 0, 24, .inl (fun _ => 0))) = f1 at hS hfk hw
  have hO : f1 14 = .inr (4, [.null, .int 0, .int 0]) := by rw [hfk, hO]
  refine w_putFs C hmn hw [.ref (g1 15), .int 0, .int 0] (k := 14) (v := .ref (g1 15)) (ty := tyX3) (j := 0) (Nat.le_of_ble_eq_true rfl) hO rfl tyX3_ok nmX3 (by decide) k128 rfl rfl rfl rfl (Nat.le_of_ble_eq_true rfl) rfl (by rw [hq, hS.1 14 (Nat.le_refl _)]) dX3_init_9 fun H locs hw => ?_
  have hS := mkS_up hS (x := (.inr (4, [.ref (g1 15), .int 0, .int 0])))
  have hO := va_up_self f1 14 ((.inr (4, [.ref (g1 15), .int 0, .int 0])) : va_E)
  generalize va_up f1 14 (.inr (4, [.ref (g1 15), .int 0, .int 0])) = fz1 at hS hO hw
  exact hret 12 ls _ _ _ _ _ _ _ ⟨rfl, hS, hO⟩ hw (Nat.le_of_ble_eq_true rfl) (Nat.le_of_ble_eq_true rfl) dX3_init_12
set_option maxHeartbeats 4000000 in
theorem c_X8_init_17 {l : Launch} {D : va_G} {cy : Nat → Nat} {g : Nat → Nat} {f : Nat → va_E} (hfl : l.stackTraces = false) (hO : f 17 = .inr (9, [.null, .null, .null])) : cNv l D cy yX8_init cX8_init 1 none 1 3 270 [.ref (g 17)] g 18 f (mkP cy g f 17 21) := by
  refine jNv (own := RX8) (by decide) rfl hfl (Nat.le_of_ble_eq_true rfl) rfl ?_
  intro p e R s m args below meth c ls A Q hRe C hmn hw hl hret
  subst hRe
  have hx := C.1
  have hb := C.2.1
  have hl : lv_has ls 1 [(0, .ref (g 17))] := hl
  have hS := mkS_0 cy g f 17
  refine lv_aload_n hx hb dX8_init_0 rfl (lv_at hl 0 rfl) ?_
  refine w_objI C k243 hl.1 dX8_init_1 (Nat.le_of_ble_eq_true rfl) (by decide) ?_
  refine lv_aload_n hx hb dX8_init_4 rfl (lv_at hl 0 rfl) ?_
  refine lv_bipush (v := 14) hx hb dX8_init_5 (by decide) ?_
  refine w_newa C hw (atype := .int) (ty := .int) (t := 0) (n := 14) (N' := 14) (a0 := (14, .inl (fun _ => 0))) rfl (Or.inl rfl) rfl (fun _ => rfl) (by decide) rfl (Nat.le_of_ble_eq_true rfl) (Nat.le_of_ble_eq_true rfl) (Nat.le_of_ble_eq_true rfl) dX8_init_7 fun q1 H hw => ?_
  obtain ⟨hS, hg, hq, hfk⟩ := mkS_arr2 (q := q1) hS (Nat.le_of_ble_eq_true rfl) (Nat.le_of_ble_eq_true rfl) (mkC_of rfl) (x := .inl (cy 0, 14, .inl (fun _ => 0))) (fun _ => rfl)
  generalize va_up g 18 q1 = g1 at hS hg hq hw
  generalize va_up f 18 (.inl (cy 0, 14, .inl (fun _ => 0))) = f1 at hS hfk hw
  have hO : f1 17 = .inr (9, [.null, .null, .null]) := by rw [hfk, hO]
  refine w_putFs C hmn hw [.ref (g1 18), .null, .null] (k := 17) (v := .ref (g1 18)) (ty := tyX8) (j := 0) (Nat.le_of_ble_eq_true rfl) hO rfl tyX8_ok nmX8 (by decide) k244 rfl rfl rfl rfl (Nat.le_of_ble_eq_true rfl) rfl (by rw [hq, hS.1 17 (Nat.le_refl _)]) dX8_init_9 fun H locs hw => ?_
  have hS := mkS_up hS (x := (.inr (9, [.ref (g1 18), .null, .null])))
  have hO := va_up_self f1 17 ((.inr (9, [.ref (g1 18), .null, .null])) : va_E)
  generalize va_up f1 17 (.inr (9, [.ref (g1 18), .null, .null])) = fz1 at hS hO hw
  refine lv_aload_n hx hb dX8_init_12 rfl (lv_at hl 0 rfl) ?_
  refine lv_sipush (v := 128) hx hb dX8_init_13 (by decide) ?_
  refine w_newa C hw (atype := .int) (ty := .int) (t := 0) (n := 128) (N' := 128) (a0 := (128, .inl (fun _ => 0))) rfl (Or.inl rfl) rfl (fun _ => rfl) (by decide) rfl (Nat.le_of_ble_eq_true rfl) (Nat.le_of_ble_eq_true rfl) (Nat.le_of_ble_eq_true rfl) dX8_init_16 fun q2 H hw => ?_
  obtain ⟨hS, hg, hq, hfk⟩ := mkS_arr2 (q := q2) hS (Nat.le_of_ble_eq_true rfl) (Nat.le_of_ble_eq_true rfl) (mkC_of rfl) (x := .inl (cy 0, 128, .inl (fun _ => 0))) (fun _ => rfl)
  generalize va_up g1 19 q2 = g2 at hS hg hq hw
  generalize va_up fz1 19 (.inl (cy 0, 128, .inl (fun _ => 0))) = f2 at hS hfk hw
  have hO : f2 17 = .inr (9, [.ref (g2 18), .null, .null]) := by rw [hfk, hO, hg 18 (Nat.le_of_ble_eq_true rfl)]
  refine w_putFs C hmn hw [.ref (g2 18), .ref (g2 19), .null] (k := 17) (v := .ref (g2 19)) (ty := tyX8) (j := 1) (Nat.le_of_ble_eq_true rfl) hO rfl tyX8_ok nmX8 (by decide) k245 rfl rfl rfl rfl (Nat.le_of_ble_eq_true rfl) rfl (by rw [hq, hS.1 17 (Nat.le_refl _)]) dX8_init_18 fun H locs hw => ?_
  have hS := mkS_up hS (x := (.inr (9, [.ref (g2 18), .ref (g2 19), .null])))
  have hO := va_up_self f2 17 ((.inr (9, [.ref (g2 18), .ref (g2 19), .null])) : va_E)
  generalize va_up f2 17 (.inr (9, [.ref (g2 18), .ref (g2 19), .null])) = fz2 at hS hO hw
  refine lv_aload_n hx hb dX8_init_21 rfl (lv_at hl 0 rfl) ?_
  refine lv_sipush (v := 128) hx hb dX8_init_22 (by decide) ?_
  refine w_newa C hw (atype := .int) (ty := .int) (t := 0) (n := 128) (N' := 128) (a0 := (128, .inl (fun _ => 0))) rfl (Or.inl rfl) rfl (fun _ => rfl) (by decide) rfl (Nat.le_of_ble_eq_true rfl) (Nat.le_of_ble_eq_true rfl) (Nat.le_of_ble_eq_true rfl) dX8_init_25 fun q3 H hw => ?_
  obtain ⟨hS, hg, hq, hfk⟩ := mkS_arr2 (q := q3) hS (Nat.le_of_ble_eq_true rfl) (Nat.le_of_ble_eq_true rfl) (mkC_of rfl) (x := .inl (cy 0, 128, .inl (fun _ => 0))) (fun _ => rfl)
  generalize va_up g2 20 q3 = g3 at hS hg hq hw
  generalize va_up fz2 20 (.inl (cy 0, 128, .inl (fun _ => 0))) = f3 at hS hfk hw
  have hO : f3 17 = .inr (9, [.ref (g3 18), .ref (g3 19), .null]) := by rw [hfk, hO, hg 18 (Nat.le_of_ble_eq_true rfl), hg 19 (Nat.le_of_ble_eq_true rfl)]
  refine w_putFs C hmn hw [.ref (g3 18), .ref (g3 19), .ref (g3 20)] (k := 17) (v := .ref (g3 20)) (ty := tyX8) (j := 2) (Nat.le_of_ble_eq_true rfl) hO rfl tyX8_ok nmX8 (by decide) k246 rfl rfl rfl rfl (Nat.le_of_ble_eq_true rfl) rfl (by rw [hq, hS.1 17 (Nat.le_refl _)]) dX8_init_27 fun H locs hw => ?_
  have hS := mkS_up hS (x := (.inr (9, [.ref (g3 18), .ref (g3 19), .ref (g3 20)])))
  have hO := va_up_self f3 17 ((.inr (9, [.ref (g3 18), .ref (g3 19), .ref (g3 20)])) : va_E)
  generalize va_up f3 17 (.inr (9, [.ref (g3 18), .ref (g3 19), .ref (g3 20)])) = fz3 at hS hO hw
  exact hret 30 ls _ _ _ _ _ _ _ ⟨rfl, hS, hO⟩ hw (Nat.le_of_ble_eq_true rfl) (Nat.le_of_ble_eq_true rfl) dX8_init_30
set_option maxHeartbeats 4000000 in
theorem c_X8_init_21 {l : Launch} {D : va_G} {cy : Nat → Nat} {g : Nat → Nat} {f : Nat → va_E} (hfl : l.stackTraces = false) (hO : f 21 = .inr (9, [.null, .null, .null])) : cNv l D cy yX8_init cX8_init 1 none 1 3 270 [.ref (g 21)] g 22 f (mkP cy g f 21 25) := by
  refine jNv (own := RX8) (by decide) rfl hfl (Nat.le_of_ble_eq_true rfl) rfl ?_
  intro p e R s m args below meth c ls A Q hRe C hmn hw hl hret
  subst hRe
  have hx := C.1
  have hb := C.2.1
  have hl : lv_has ls 1 [(0, .ref (g 21))] := hl
  have hS := mkS_0 cy g f 21
  refine lv_aload_n hx hb dX8_init_0 rfl (lv_at hl 0 rfl) ?_
  refine w_objI C k243 hl.1 dX8_init_1 (Nat.le_of_ble_eq_true rfl) (by decide) ?_
  refine lv_aload_n hx hb dX8_init_4 rfl (lv_at hl 0 rfl) ?_
  refine lv_bipush (v := 14) hx hb dX8_init_5 (by decide) ?_
  refine w_newa C hw (atype := .int) (ty := .int) (t := 0) (n := 14) (N' := 14) (a0 := (14, .inl (fun _ => 0))) rfl (Or.inl rfl) rfl (fun _ => rfl) (by decide) rfl (Nat.le_of_ble_eq_true rfl) (Nat.le_of_ble_eq_true rfl) (Nat.le_of_ble_eq_true rfl) dX8_init_7 fun q1 H hw => ?_
  obtain ⟨hS, hg, hq, hfk⟩ := mkS_arr2 (q := q1) hS (Nat.le_of_ble_eq_true rfl) (Nat.le_of_ble_eq_true rfl) (mkC_of rfl) (x := .inl (cy 0, 14, .inl (fun _ => 0))) (fun _ => rfl)
  generalize va_up g 22 q1 = g1 at hS hg hq hw
  generalize va_up f 22 (.inl (cy 0, 14, .inl (fun _ => 0))) = f1 at hS hfk hw
  have hO : f1 21 = .inr (9, [.null, .null, .null]) := by rw [hfk, hO]
  refine w_putFs C hmn hw [.ref (g1 22), .null, .null] (k := 21) (v := .ref (g1 22)) (ty := tyX8) (j := 0) (Nat.le_of_ble_eq_true rfl) hO rfl tyX8_ok nmX8 (by decide) k244 rfl rfl rfl rfl (Nat.le_of_ble_eq_true rfl) rfl (by rw [hq, hS.1 21 (Nat.le_refl _)]) dX8_init_9 fun H locs hw => ?_
  have hS := mkS_up hS (x := (.inr (9, [.ref (g1 22), .null, .null])))
  have hO := va_up_self f1 21 ((.inr (9, [.ref (g1 22), .null, .null])) : va_E)
  generalize va_up f1 21 (.inr (9, [.ref (g1 22), .null, .null])) = fz1 at hS hO hw
  refine lv_aload_n hx hb dX8_init_12 rfl (lv_at hl 0 rfl) ?_
  refine lv_sipush (v := 128) hx hb dX8_init_13 (by decide) ?_
  refine w_newa C hw (atype := .int) (ty := .int) (t := 0) (n := 128) (N' := 128) (a0 := (128, .inl (fun _ => 0))) rfl (Or.inl rfl) rfl (fun _ => rfl) (by decide) rfl (Nat.le_of_ble_eq_true rfl) (Nat.le_of_ble_eq_true rfl) (Nat.le_of_ble_eq_true rfl) dX8_init_16 fun q2 H hw => ?_
  obtain ⟨hS, hg, hq, hfk⟩ := mkS_arr2 (q := q2) hS (Nat.le_of_ble_eq_true rfl) (Nat.le_of_ble_eq_true rfl) (mkC_of rfl) (x := .inl (cy 0, 128, .inl (fun _ => 0))) (fun _ => rfl)
  generalize va_up g1 23 q2 = g2 at hS hg hq hw
  generalize va_up fz1 23 (.inl (cy 0, 128, .inl (fun _ => 0))) = f2 at hS hfk hw
  have hO : f2 21 = .inr (9, [.ref (g2 22), .null, .null]) := by rw [hfk, hO, hg 22 (Nat.le_of_ble_eq_true rfl)]
  refine w_putFs C hmn hw [.ref (g2 22), .ref (g2 23), .null] (k := 21) (v := .ref (g2 23)) (ty := tyX8) (j := 1) (Nat.le_of_ble_eq_true rfl) hO rfl tyX8_ok nmX8 (by decide) k245 rfl rfl rfl rfl (Nat.le_of_ble_eq_true rfl) rfl (by rw [hq, hS.1 21 (Nat.le_refl _)]) dX8_init_18 fun H locs hw => ?_
  have hS := mkS_up hS (x := (.inr (9, [.ref (g2 22), .ref (g2 23), .null])))
  have hO := va_up_self f2 21 ((.inr (9, [.ref (g2 22), .ref (g2 23), .null])) : va_E)
  generalize va_up f2 21 (.inr (9, [.ref (g2 22), .ref (g2 23), .null])) = fz2 at hS hO hw
  refine lv_aload_n hx hb dX8_init_21 rfl (lv_at hl 0 rfl) ?_
  refine lv_sipush (v := 128) hx hb dX8_init_22 (by decide) ?_
  refine w_newa C hw (atype := .int) (ty := .int) (t := 0) (n := 128) (N' := 128) (a0 := (128, .inl (fun _ => 0))) rfl (Or.inl rfl) rfl (fun _ => rfl) (by decide) rfl (Nat.le_of_ble_eq_true rfl) (Nat.le_of_ble_eq_true rfl) (Nat.le_of_ble_eq_true rfl) dX8_init_25 fun q3 H hw => ?_
  obtain ⟨hS, hg, hq, hfk⟩ := mkS_arr2 (q := q3) hS (Nat.le_of_ble_eq_true rfl) (Nat.le_of_ble_eq_true rfl) (mkC_of rfl) (x := .inl (cy 0, 128, .inl (fun _ => 0))) (fun _ => rfl)
  generalize va_up g2 24 q3 = g3 at hS hg hq hw
  generalize va_up fz2 24 (.inl (cy 0, 128, .inl (fun _ => 0))) = f3 at hS hfk hw
  have hO : f3 21 = .inr (9, [.ref (g3 22), .ref (g3 23), .null]) := by rw [hfk, hO, hg 22 (Nat.le_of_ble_eq_true rfl), hg 23 (Nat.le_of_ble_eq_true rfl)]
  refine w_putFs C hmn hw [.ref (g3 22), .ref (g3 23), .ref (g3 24)] (k := 21) (v := .ref (g3 24)) (ty := tyX8) (j := 2) (Nat.le_of_ble_eq_true rfl) hO rfl tyX8_ok nmX8 (by decide) k246 rfl rfl rfl rfl (Nat.le_of_ble_eq_true rfl) rfl (by rw [hq, hS.1 21 (Nat.le_refl _)]) dX8_init_27 fun H locs hw => ?_
  have hS := mkS_up hS (x := (.inr (9, [.ref (g3 22), .ref (g3 23), .ref (g3 24)])))
  have hO := va_up_self f3 21 ((.inr (9, [.ref (g3 22), .ref (g3 23), .ref (g3 24)])) : va_E)
  generalize va_up f3 21 (.inr (9, [.ref (g3 22), .ref (g3 23), .ref (g3 24)])) = fz3 at hS hO hw
  exact hret 30 ls _ _ _ _ _ _ _ ⟨rfl, hS, hO⟩ hw (Nat.le_of_ble_eq_true rfl) (Nat.le_of_ble_eq_true rfl) dX8_init_30
set_option maxHeartbeats 4000000 in
theorem c_X6_init_25 {l : Launch} {D : va_G} {cy : Nat → Nat} {g : Nat → Nat} {f : Nat → va_E} (hfl : l.stackTraces = false) (hO : f 25 = .inr (7, [.null, .int 0])) : cNv l D cy yX6_init cX6_init 1 none 1 1 162 [.ref (g 25)] g 26 f (mkP cy g f 25 27) := by
  refine jNv (own := RX6) (by decide) rfl hfl (Nat.le_of_ble_eq_true rfl) rfl ?_
  intro p e R s m args below meth c ls A Q hRe C hmn hw hl hret
  subst hRe
  have hx := C.1
  have hb := C.2.1
  have hl : lv_has ls 1 [(0, .ref (g 25))] := hl
  have hS := mkS_0 cy g f 25
  refine lv_aload_n hx hb dX6_init_0 rfl (lv_at hl 0 rfl) ?_
  refine w_objI C k233 hl.1 dX6_init_1 (Nat.le_of_ble_eq_true rfl) (by decide) ?_
  refine lv_aload_n hx hb dX6_init_4 rfl (lv_at hl 0 rfl) ?_
  refine lv_sipush (v := 162) hx hb dX6_init_5 (by decide) ?_
  refine w_newa C hw (atype := .int) (ty := .int) (t := 0) (n := 162) (N' := 162) (a0 := (162, .inl (fun _ => 0))) rfl (Or.inl rfl) rfl (fun _ => rfl) (by decide) rfl (Nat.le_of_ble_eq_true rfl) (Nat.le_of_ble_eq_true rfl) (Nat.le_of_ble_eq_true rfl) dX6_init_8 fun q1 H hw => ?_
  obtain ⟨hS, hg, hq, hfk⟩ := mkS_arr2 (q := q1) hS (Nat.le_of_ble_eq_true rfl) (Nat.le_of_ble_eq_true rfl) (mkC_of rfl) (x := .inl (cy 0, 162, .inl (fun _ => 0))) (fun _ => rfl)
  generalize va_up g 26 q1 = g1 at hS hg hq hw
  generalize va_up f 26 (.inl (cy 0, 162, .inl (fun _ => 0))) = f1 at hS hfk hw
  have hO : f1 25 = .inr (7, [.null, .int 0]) := by rw [hfk, hO]
  refine w_putFs C hmn hw [.ref (g1 26), .int 0] (k := 25) (v := .ref (g1 26)) (ty := tyX6) (j := 0) (Nat.le_of_ble_eq_true rfl) hO rfl tyX6_ok nmX6 (by decide) k234 rfl rfl rfl rfl (Nat.le_of_ble_eq_true rfl) rfl (by rw [hq, hS.1 25 (Nat.le_refl _)]) dX6_init_10 fun H locs hw => ?_
  have hS := mkS_up hS (x := (.inr (7, [.ref (g1 26), .int 0])))
  have hO := va_up_self f1 25 ((.inr (7, [.ref (g1 26), .int 0])) : va_E)
  generalize va_up f1 25 (.inr (7, [.ref (g1 26), .int 0])) = fz1 at hS hO hw
  exact hret 13 ls _ _ _ _ _ _ _ ⟨rfl, hS, hO⟩ hw (Nat.le_of_ble_eq_true rfl) (Nat.le_of_ble_eq_true rfl) dX6_init_13
set_option maxHeartbeats 4000000 in
theorem c_X6_init_27 {l : Launch} {D : va_G} {cy : Nat → Nat} {g : Nat → Nat} {f : Nat → va_E} (hfl : l.stackTraces = false) (hO : f 27 = .inr (7, [.null, .int 0])) : cNv l D cy yX6_init cX6_init 1 none 1 1 162 [.ref (g 27)] g 28 f (mkP cy g f 27 29) := by
  refine jNv (own := RX6) (by decide) rfl hfl (Nat.le_of_ble_eq_true rfl) rfl ?_
  intro p e R s m args below meth c ls A Q hRe C hmn hw hl hret
  subst hRe
  have hx := C.1
  have hb := C.2.1
  have hl : lv_has ls 1 [(0, .ref (g 27))] := hl
  have hS := mkS_0 cy g f 27
  refine lv_aload_n hx hb dX6_init_0 rfl (lv_at hl 0 rfl) ?_
  refine w_objI C k233 hl.1 dX6_init_1 (Nat.le_of_ble_eq_true rfl) (by decide) ?_
  refine lv_aload_n hx hb dX6_init_4 rfl (lv_at hl 0 rfl) ?_
  refine lv_sipush (v := 162) hx hb dX6_init_5 (by decide) ?_
  refine w_newa C hw (atype := .int) (ty := .int) (t := 0) (n := 162) (N' := 162) (a0 := (162, .inl (fun _ => 0))) rfl (Or.inl rfl) rfl (fun _ => rfl) (by decide) rfl (Nat.le_of_ble_eq_true rfl) (Nat.le_of_ble_eq_true rfl) (Nat.le_of_ble_eq_true rfl) dX6_init_8 fun q1 H hw => ?_
  obtain ⟨hS, hg, hq, hfk⟩ := mkS_arr2 (q := q1) hS (Nat.le_of_ble_eq_true rfl) (Nat.le_of_ble_eq_true rfl) (mkC_of rfl) (x := .inl (cy 0, 162, .inl (fun _ => 0))) (fun _ => rfl)
  generalize va_up g 28 q1 = g1 at hS hg hq hw
  generalize va_up f 28 (.inl (cy 0, 162, .inl (fun _ => 0))) = f1 at hS hfk hw
  have hO : f1 27 = .inr (7, [.null, .int 0]) := by rw [hfk, hO]
  refine w_putFs C hmn hw [.ref (g1 28), .int 0] (k := 27) (v := .ref (g1 28)) (ty := tyX6) (j := 0) (Nat.le_of_ble_eq_true rfl) hO rfl tyX6_ok nmX6 (by decide) k234 rfl rfl rfl rfl (Nat.le_of_ble_eq_true rfl) rfl (by rw [hq, hS.1 27 (Nat.le_refl _)]) dX6_init_10 fun H locs hw => ?_
  have hS := mkS_up hS (x := (.inr (7, [.ref (g1 28), .int 0])))
  have hO := va_up_self f1 27 ((.inr (7, [.ref (g1 28), .int 0])) : va_E)
  generalize va_up f1 27 (.inr (7, [.ref (g1 28), .int 0])) = fz1 at hS hO hw
  exact hret 13 ls _ _ _ _ _ _ _ ⟨rfl, hS, hO⟩ hw (Nat.le_of_ble_eq_true rfl) (Nat.le_of_ble_eq_true rfl) dX6_init_13
theorem dfX8 : ∀ j, j < 3 → defaultValue (tyX8 j) = vp_V [.null, .null, .null] j := fun j hj => by
  match j, hj with
  | 0, _ => rfl
  | 1, _ => rfl
  | 2, _ => rfl
  | j + 3, hj => omega
theorem dfX6 : ∀ j, j < 2 → defaultValue (tyX6 j) = vp_V [.null, .int 0] j := fun j hj => by
  match j, hj with
  | 0, _ => rfl
  | 1, _ => rfl
  | j + 2, hj => omega
set_option maxHeartbeats 4000000 in
theorem c_X7_init {l : Launch} {D : va_G} {cy : Nat → Nat} {g : Nat → Nat} {f : Nat → va_E} (hfl : l.stackTraces = false) (hO : f 16 = .inr (8, [.null, .null, .null, .null, .int 0])) : cNv l D cy yX7_init cX7_init 1 none 2 12 874 [.ref (g 16)] g 17 f (mkP cy g f 16 29) := by
  refine jNv (own := RX7) (by decide) rfl hfl (Nat.le_of_ble_eq_true rfl) rfl ?_
  intro p e R s m args below meth c ls A Q hRe C hmn hw hl hret
  subst hRe
  have hx := C.1
  have hb := C.2.1
  have hl : lv_has ls 1 [(0, .ref (g 16))] := hl
  have hS := mkS_0 cy g f 16
  refine lv_aload_n hx hb dX7_init_0 rfl (lv_at hl 0 rfl) ?_
  refine w_objI C k248 hl.1 dX7_init_1 (Nat.le_of_ble_eq_true rfl) (by decide) ?_
  refine lv_aload_n hx hb dX7_init_4 rfl (lv_at hl 0 rfl) ?_
  refine w_newo C hw tyX8 tyX8_ok k249 k250 k251 (ci := 9) rfl dfX8 (Nat.le_of_ble_eq_true rfl) (Nat.le_of_ble_eq_true rfl) dX7_init_5 fun q1 H hw => ?_
  refine lv_dup hx hb dX7_init_8 rfl ?_
  refine w_inNv C hw bX8_init k855 (k := 17) (As := []) (c_X8_init_17 hfl (g := va_up g 17 q1) (f := va_up f 17 _) (va_up_self _ _ _)) (by rw [va_up_self]; rfl) rfl dX7_init_9 ⟨rfl, rfl⟩ (by decide) hl.1 (Nat.le_of_ble_eq_true rfl) ⟨Nat.le_of_ble_eq_true rfl, Nat.le_of_ble_eq_true rfl⟩ fun g1 N1 f1 H locs hp hw => ?_
  obtain ⟨hN1, hS, hg, hq, hfk⟩ := mkS_obj hS (Nat.le_of_ble_eq_true rfl) (Nat.le_of_ble_eq_true rfl) (mkC_of rfl) hp (Nat.le_of_ble_eq_true rfl)
  subst hN1
  have hO : f1 16 = .inr (8, [.null, .null, .null, .null, .int 0]) := by rw [hfk, hO]
  refine w_putFs C hmn hw [.ref (g1 17), .null, .null, .null, .int 0] (k := 16) (v := .ref (g1 17)) (ty := tyX7) (j := 0) (Nat.le_of_ble_eq_true rfl) hO rfl tyX7_ok nmX7 (by decide) k252 rfl rfl rfl rfl (Nat.le_of_ble_eq_true rfl) rfl (by rw [hq, hS.1 16 (Nat.le_refl _)]) dX7_init_12 fun H locs hw => ?_
  have hS := mkS_up hS (x := (.inr (8, [.ref (g1 17), .null, .null, .null, .int 0])))
  have hO := va_up_self f1 16 ((.inr (8, [.ref (g1 17), .null, .null, .null, .int 0])) : va_E)
  generalize va_up f1 16 (.inr (8, [.ref (g1 17), .null, .null, .null, .int 0])) = fz1 at hS hO hw
  refine lv_aload_n hx hb dX7_init_15 rfl (lv_at hl 0 rfl) ?_
  refine w_newo C hw tyX8 tyX8_ok k249 k250 k251 (ci := 9) rfl dfX8 (Nat.le_of_ble_eq_true rfl) (Nat.le_of_ble_eq_true rfl) dX7_init_16 fun q2 H hw => ?_
  refine lv_dup hx hb dX7_init_19 rfl ?_
  refine w_inNv C hw bX8_init k855 (k := 21) (As := []) (c_X8_init_21 hfl (g := va_up g1 21 q2) (f := va_up fz1 21 _) (va_up_self _ _ _)) (by rw [va_up_self]; rfl) rfl dX7_init_20 ⟨rfl, rfl⟩ (by decide) hl.1 (Nat.le_of_ble_eq_true rfl) ⟨Nat.le_of_ble_eq_true rfl, Nat.le_of_ble_eq_true rfl⟩ fun g2 N2 f2 H locs hp hw => ?_
  obtain ⟨hN2, hS, hg, hq, hfk⟩ := mkS_obj hS (Nat.le_of_ble_eq_true rfl) (Nat.le_of_ble_eq_true rfl) (mkC_of rfl) hp (Nat.le_of_ble_eq_true rfl)
  subst hN2
  have hO : f2 16 = .inr (8, [.ref (g2 17), .null, .null, .null, .int 0]) := by rw [hfk, hO, hg 17 (Nat.le_of_ble_eq_true rfl)]
  refine w_putFs C hmn hw [.ref (g2 17), .ref (g2 21), .null, .null, .int 0] (k := 16) (v := .ref (g2 21)) (ty := tyX7) (j := 1) (Nat.le_of_ble_eq_true rfl) hO rfl tyX7_ok nmX7 (by decide) k253 rfl rfl rfl rfl (Nat.le_of_ble_eq_true rfl) rfl (by rw [hq, hS.1 16 (Nat.le_refl _)]) dX7_init_23 fun H locs hw => ?_
  have hS := mkS_up hS (x := (.inr (8, [.ref (g2 17), .ref (g2 21), .null, .null, .int 0])))
  have hO := va_up_self f2 16 ((.inr (8, [.ref (g2 17), .ref (g2 21), .null, .null, .int 0])) : va_E)
  generalize va_up f2 16 (.inr (8, [.ref (g2 17), .ref (g2 21), .null, .null, .int 0])) = fz2 at hS hO hw
  refine lv_aload_n hx hb dX7_init_26 rfl (lv_at hl 0 rfl) ?_
  refine w_newo C hw tyX6 tyX6_ok k254 k255 k256 (ci := 7) rfl dfX6 (Nat.le_of_ble_eq_true rfl) (Nat.le_of_ble_eq_true rfl) dX7_init_27 fun q3 H hw => ?_
  refine lv_dup hx hb dX7_init_30 rfl ?_
  refine w_inNv C hw bX6_init k856 (k := 25) (As := []) (c_X6_init_25 hfl (g := va_up g2 25 q3) (f := va_up fz2 25 _) (va_up_self _ _ _)) (by rw [va_up_self]; rfl) rfl dX7_init_31 ⟨rfl, rfl⟩ (by decide) hl.1 (Nat.le_of_ble_eq_true rfl) ⟨Nat.le_of_ble_eq_true rfl, Nat.le_of_ble_eq_true rfl⟩ fun g3 N3 f3 H locs hp hw => ?_
  obtain ⟨hN3, hS, hg, hq, hfk⟩ := mkS_obj hS (Nat.le_of_ble_eq_true rfl) (Nat.le_of_ble_eq_true rfl) (mkC_of rfl) hp (Nat.le_of_ble_eq_true rfl)
  subst hN3
  have hO : f3 16 = .inr (8, [.ref (g3 17), .ref (g3 21), .null, .null, .int 0]) := by rw [hfk, hO, hg 17 (Nat.le_of_ble_eq_true rfl), hg 21 (Nat.le_of_ble_eq_true rfl)]
  refine w_putFs C hmn hw [.ref (g3 17), .ref (g3 21), .ref (g3 25), .null, .int 0] (k := 16) (v := .ref (g3 25)) (ty := tyX7) (j := 2) (Nat.le_of_ble_eq_true rfl) hO rfl tyX7_ok nmX7 (by decide) k257 rfl rfl rfl rfl (Nat.le_of_ble_eq_true rfl) rfl (by rw [hq, hS.1 16 (Nat.le_refl _)]) dX7_init_34 fun H locs hw => ?_
  have hS := mkS_up hS (x := (.inr (8, [.ref (g3 17), .ref (g3 21), .ref (g3 25), .null, .int 0])))
  have hO := va_up_self f3 16 ((.inr (8, [.ref (g3 17), .ref (g3 21), .ref (g3 25), .null, .int 0])) : va_E)
  generalize va_up f3 16 (.inr (8, [.ref (g3 17), .ref (g3 21), .ref (g3 25), .null, .int 0])) = fz3 at hS hO hw
  refine lv_aload_n hx hb dX7_init_37 rfl (lv_at hl 0 rfl) ?_
  refine w_newo C hw tyX6 tyX6_ok k254 k255 k256 (ci := 7) rfl dfX6 (Nat.le_of_ble_eq_true rfl) (Nat.le_of_ble_eq_true rfl) dX7_init_38 fun q4 H hw => ?_
  refine lv_dup hx hb dX7_init_41 rfl ?_
  refine w_inNv C hw bX6_init k856 (k := 27) (As := []) (c_X6_init_27 hfl (g := va_up g3 27 q4) (f := va_up fz3 27 _) (va_up_self _ _ _)) (by rw [va_up_self]; rfl) rfl dX7_init_42 ⟨rfl, rfl⟩ (by decide) hl.1 (Nat.le_of_ble_eq_true rfl) ⟨Nat.le_of_ble_eq_true rfl, Nat.le_of_ble_eq_true rfl⟩ fun g4 N4 f4 H locs hp hw => ?_
  obtain ⟨hN4, hS, hg, hq, hfk⟩ := mkS_obj hS (Nat.le_of_ble_eq_true rfl) (Nat.le_of_ble_eq_true rfl) (mkC_of rfl) hp (Nat.le_of_ble_eq_true rfl)
  subst hN4
  have hO : f4 16 = .inr (8, [.ref (g4 17), .ref (g4 21), .ref (g4 25), .null, .int 0]) := by rw [hfk, hO, hg 17 (Nat.le_of_ble_eq_true rfl), hg 21 (Nat.le_of_ble_eq_true rfl), hg 25 (Nat.le_of_ble_eq_true rfl)]
  refine w_putFs C hmn hw [.ref (g4 17), .ref (g4 21), .ref (g4 25), .ref (g4 27), .int 0] (k := 16) (v := .ref (g4 27)) (ty := tyX7) (j := 3) (Nat.le_of_ble_eq_true rfl) hO rfl tyX7_ok nmX7 (by decide) k258 rfl rfl rfl rfl (Nat.le_of_ble_eq_true rfl) rfl (by rw [hq, hS.1 16 (Nat.le_refl _)]) dX7_init_45 fun H locs hw => ?_
  have hS := mkS_up hS (x := (.inr (8, [.ref (g4 17), .ref (g4 21), .ref (g4 25), .ref (g4 27), .int 0])))
  have hO := va_up_self f4 16 ((.inr (8, [.ref (g4 17), .ref (g4 21), .ref (g4 25), .ref (g4 27), .int 0])) : va_E)
  generalize va_up f4 16 (.inr (8, [.ref (g4 17), .ref (g4 21), .ref (g4 25), .ref (g4 27), .int 0])) = fz4 at hS hO hw
  exact hret 48 ls _ _ _ _ _ _ _ ⟨rfl, hS, hO⟩ hw (Nat.le_of_ble_eq_true rfl) (Nat.le_of_ble_eq_true rfl) dX7_init_48
theorem dfX2 : ∀ j, j < 2 → defaultValue (tyX2 j) = vp_V [.null, .int 0] j := fun j hj => by
  match j, hj with
  | 0, _ => rfl
  | 1, _ => rfl
  | j + 2, hj => omega
theorem dfX5 : ∀ j, j < 2 → defaultValue (tyX5 j) = vp_V [.null, .null] j := fun j hj => by
  match j, hj with
  | 0, _ => rfl
  | 1, _ => rfl
  | j + 2, hj => omega
theorem dfX0 : ∀ j, j < 7 → defaultValue (tyX0 j) = vp_V [.null, .null, .null, .null, .null, .int 0, .int 0] j := fun j hj => by
  match j, hj with
  | 0, _ => rfl
  | 1, _ => rfl
  | 2, _ => rfl
  | 3, _ => rfl
  | 4, _ => rfl
  | 5, _ => rfl
  | 6, _ => rfl
  | j + 7, hj => omega
theorem dfX1 : ∀ j, j < 1 → defaultValue (tyX1 j) = vp_V [.null] j := fun j hj => by
  match j, hj with
  | 0, _ => rfl
  | j + 1, hj => omega
theorem dfX3 : ∀ j, j < 3 → defaultValue (tyX3 j) = vp_V [.null, .int 0, .int 0] j := fun j hj => by
  match j, hj with
  | 0, _ => rfl
  | 1, _ => rfl
  | 2, _ => rfl
  | j + 3, hj => omega
theorem dfX7 : ∀ j, j < 5 → defaultValue (tyX7 j) = vp_V [.null, .null, .null, .null, .int 0] j := fun j hj => by
  match j, hj with
  | 0, _ => rfl
  | 1, _ => rfl
  | 2, _ => rfl
  | 3, _ => rfl
  | 4, _ => rfl
  | j + 5, hj => omega
set_option maxHeartbeats 4000000 in
theorem c_X9_init {l : Launch} {D : va_G} {cy : Nat → Nat} {g : Nat → Nat} {f : Nat → va_E} (hfl : l.stackTraces = false) (hO : f 0 = .inr (10, [.null, .null, .null, .null, .null, .null, .int 0, .int 0, .int 0])) : cNv l D cy yX9_init cX9_init 1 none 5 28 1141 [.ref (g 0)] g 1 f (mkP cy g f 0 29) := by
  refine jNv (own := RX9) (by decide) rfl hfl (Nat.le_of_ble_eq_true rfl) rfl ?_
  intro p e R s m args below meth c ls A Q hRe C hmn hw hl hret
  subst hRe
  have hx := C.1
  have hb := C.2.1
  have hl : lv_has ls 1 [(0, .ref (g 0))] := hl
  have hS := mkS_0 cy g f 0
  refine lv_aload_n hx hb dX9_init_0 rfl (lv_at hl 0 rfl) ?_
  refine w_objI C k310 hl.1 dX9_init_1 (Nat.le_of_ble_eq_true rfl) (by decide) ?_
  refine lv_aload_n hx hb dX9_init_4 rfl (lv_at hl 0 rfl) ?_
  refine w_newo C hw tyX2 tyX2_ok k311 k312 k84 (ci := 3) rfl dfX2 (Nat.le_of_ble_eq_true rfl) (Nat.le_of_ble_eq_true rfl) dX9_init_5 fun q1 H hw => ?_
  refine lv_dup hx hb dX9_init_8 rfl ?_
  refine w_inNv C hw bX2_init k834 (k := 1) (As := []) (c_X2_init hfl (g := va_up g 1 q1) (f := va_up f 1 _) (va_up_self _ _ _)) (by rw [va_up_self]; rfl) rfl dX9_init_9 ⟨rfl, rfl⟩ (by decide) hl.1 (Nat.le_of_ble_eq_true rfl) ⟨Nat.le_of_ble_eq_true rfl, Nat.le_of_ble_eq_true rfl⟩ fun g1 N1 f1 H locs hp hw => ?_
  obtain ⟨hN1, hS, hg, hq, hfk⟩ := mkS_obj hS (Nat.le_of_ble_eq_true rfl) (Nat.le_of_ble_eq_true rfl) (mkC_of rfl) hp (Nat.le_of_ble_eq_true rfl)
  subst hN1
  have hO : f1 0 = .inr (10, [.null, .null, .null, .null, .null, .null, .int 0, .int 0, .int 0]) := by rw [hfk, hO]
  refine w_putFs C hmn hw [.ref (g1 1), .null, .null, .null, .null, .null, .int 0, .int 0, .int 0] (k := 0) (v := .ref (g1 1)) (ty := tyX9) (j := 0) (Nat.le_of_ble_eq_true rfl) hO rfl tyX9_ok nmX9 (by decide) k313 rfl rfl rfl rfl (Nat.le_of_ble_eq_true rfl) rfl (by rw [hq, hS.1 0 (Nat.le_refl _)]) dX9_init_12 fun H locs hw => ?_
  have hS := mkS_up hS (x := (.inr (10, [.ref (g1 1), .null, .null, .null, .null, .null, .int 0, .int 0, .int 0])))
  have hO := va_up_self f1 0 ((.inr (10, [.ref (g1 1), .null, .null, .null, .null, .null, .int 0, .int 0, .int 0])) : va_E)
  generalize va_up f1 0 (.inr (10, [.ref (g1 1), .null, .null, .null, .null, .null, .int 0, .int 0, .int 0])) = fz1 at hS hO hw
  refine lv_aload_n hx hb dX9_init_15 rfl (lv_at hl 0 rfl) ?_
  refine w_newo C hw tyX5 tyX5_ok k314 k315 k88 (ci := 6) rfl dfX5 (Nat.le_of_ble_eq_true rfl) (Nat.le_of_ble_eq_true rfl) dX9_init_16 fun q2 H hw => ?_
  refine lv_dup hx hb dX9_init_19 rfl ?_
  refine w_iNv C hw bX5_init k330 (k := 3) (As := []) (c_X5_init hfl (g := va_up g1 3 q2) (f := va_up fz1 3 _) (va_up_self _ _ _)) (by rw [va_up_self]; rfl) rfl dX9_init_20 ⟨rfl, rfl⟩ (by decide) hl.1 (Nat.le_of_ble_eq_true rfl) ⟨Nat.le_of_ble_eq_true rfl, Nat.le_of_ble_eq_true rfl⟩ fun g2 N2 f2 H locs hp hw => ?_
  obtain ⟨hN2, hS, hg, hq, hfk⟩ := mkS_obj hS (Nat.le_of_ble_eq_true rfl) (Nat.le_of_ble_eq_true rfl) (mkC_of rfl) hp (Nat.le_of_ble_eq_true rfl)
  subst hN2
  have hO : f2 0 = .inr (10, [.ref (g2 1), .null, .null, .null, .null, .null, .int 0, .int 0, .int 0]) := by rw [hfk, hO, hg 1 (Nat.le_of_ble_eq_true rfl)]
  refine w_putFs C hmn hw [.ref (g2 1), .ref (g2 3), .null, .null, .null, .null, .int 0, .int 0, .int 0] (k := 0) (v := .ref (g2 3)) (ty := tyX9) (j := 1) (Nat.le_of_ble_eq_true rfl) hO rfl tyX9_ok nmX9 (by decide) k316 rfl rfl rfl rfl (Nat.le_of_ble_eq_true rfl) rfl (by rw [hq, hS.1 0 (Nat.le_refl _)]) dX9_init_23 fun H locs hw => ?_
  have hS := mkS_up hS (x := (.inr (10, [.ref (g2 1), .ref (g2 3), .null, .null, .null, .null, .int 0, .int 0, .int 0])))
  have hO := va_up_self f2 0 ((.inr (10, [.ref (g2 1), .ref (g2 3), .null, .null, .null, .null, .int 0, .int 0, .int 0])) : va_E)
  generalize va_up f2 0 (.inr (10, [.ref (g2 1), .ref (g2 3), .null, .null, .null, .null, .int 0, .int 0, .int 0])) = fz2 at hS hO hw
  refine lv_aload_n hx hb dX9_init_26 rfl (lv_at hl 0 rfl) ?_
  refine w_newo C hw tyX0 tyX0_ok k317 k318 k25 (ci := 1) rfl dfX0 (Nat.le_of_ble_eq_true rfl) (Nat.le_of_ble_eq_true rfl) dX9_init_27 fun q3 H hw => ?_
  refine lv_dup hx hb dX9_init_30 rfl ?_
  refine w_inNv C hw bX0_init k848 (k := 6) (As := []) (c_X0_init hfl (g := va_up g2 6 q3) (f := va_up fz2 6 _) (va_up_self _ _ _)) (by rw [va_up_self]; rfl) rfl dX9_init_31 ⟨rfl, rfl⟩ (by decide) hl.1 (Nat.le_of_ble_eq_true rfl) ⟨Nat.le_of_ble_eq_true rfl, Nat.le_of_ble_eq_true rfl⟩ fun g3 N3 f3 H locs hp hw => ?_
  obtain ⟨hN3, hS, hg, hq, hfk⟩ := mkS_obj hS (Nat.le_of_ble_eq_true rfl) (Nat.le_of_ble_eq_true rfl) (mkC_of rfl) hp (Nat.le_of_ble_eq_true rfl)
  subst hN3
  have hO : f3 0 = .inr (10, [.ref (g3 1), .ref (g3 3), .null, .null, .null, .null, .int 0, .int 0, .int 0]) := by rw [hfk, hO, hg 1 (Nat.le_of_ble_eq_true rfl), hg 3 (Nat.le_of_ble_eq_true rfl)]
  refine w_putFs C hmn hw [.ref (g3 1), .ref (g3 3), .ref (g3 6), .null, .null, .null, .int 0, .int 0, .int 0] (k := 0) (v := .ref (g3 6)) (ty := tyX9) (j := 2) (Nat.le_of_ble_eq_true rfl) hO rfl tyX9_ok nmX9 (by decide) k319 rfl rfl rfl rfl (Nat.le_of_ble_eq_true rfl) rfl (by rw [hq, hS.1 0 (Nat.le_refl _)]) dX9_init_34 fun H locs hw => ?_
  have hS := mkS_up hS (x := (.inr (10, [.ref (g3 1), .ref (g3 3), .ref (g3 6), .null, .null, .null, .int 0, .int 0, .int 0])))
  have hO := va_up_self f3 0 ((.inr (10, [.ref (g3 1), .ref (g3 3), .ref (g3 6), .null, .null, .null, .int 0, .int 0, .int 0])) : va_E)
  generalize va_up f3 0 (.inr (10, [.ref (g3 1), .ref (g3 3), .ref (g3 6), .null, .null, .null, .int 0, .int 0, .int 0])) = fz3 at hS hO hw
  refine lv_aload_n hx hb dX9_init_37 rfl (lv_at hl 0 rfl) ?_
  refine w_newo C hw tyX1 tyX1_ok k320 k321 k104 (ci := 2) rfl dfX1 (Nat.le_of_ble_eq_true rfl) (Nat.le_of_ble_eq_true rfl) dX9_init_38 fun q4 H hw => ?_
  refine lv_dup hx hb dX9_init_41 rfl ?_
  refine w_inNv C hw bX1_init k852 (k := 12) (As := []) (c_X1_init hfl (g := va_up g3 12 q4) (f := va_up fz3 12 _) (va_up_self _ _ _)) (by rw [va_up_self]; rfl) rfl dX9_init_42 ⟨rfl, rfl⟩ (by decide) hl.1 (Nat.le_of_ble_eq_true rfl) ⟨Nat.le_of_ble_eq_true rfl, Nat.le_of_ble_eq_true rfl⟩ fun g4 N4 f4 H locs hp hw => ?_
  obtain ⟨hN4, hS, hg, hq, hfk⟩ := mkS_obj hS (Nat.le_of_ble_eq_true rfl) (Nat.le_of_ble_eq_true rfl) (mkC_of rfl) hp (Nat.le_of_ble_eq_true rfl)
  subst hN4
  have hO : f4 0 = .inr (10, [.ref (g4 1), .ref (g4 3), .ref (g4 6), .null, .null, .null, .int 0, .int 0, .int 0]) := by rw [hfk, hO, hg 1 (Nat.le_of_ble_eq_true rfl), hg 3 (Nat.le_of_ble_eq_true rfl), hg 6 (Nat.le_of_ble_eq_true rfl)]
  refine w_putFs C hmn hw [.ref (g4 1), .ref (g4 3), .ref (g4 6), .ref (g4 12), .null, .null, .int 0, .int 0, .int 0] (k := 0) (v := .ref (g4 12)) (ty := tyX9) (j := 3) (Nat.le_of_ble_eq_true rfl) hO rfl tyX9_ok nmX9 (by decide) k322 rfl rfl rfl rfl (Nat.le_of_ble_eq_true rfl) rfl (by rw [hq, hS.1 0 (Nat.le_refl _)]) dX9_init_45 fun H locs hw => ?_
  have hS := mkS_up hS (x := (.inr (10, [.ref (g4 1), .ref (g4 3), .ref (g4 6), .ref (g4 12), .null, .null, .int 0, .int 0, .int 0])))
  have hO := va_up_self f4 0 ((.inr (10, [.ref (g4 1), .ref (g4 3), .ref (g4 6), .ref (g4 12), .null, .null, .int 0, .int 0, .int 0])) : va_E)
  generalize va_up f4 0 (.inr (10, [.ref (g4 1), .ref (g4 3), .ref (g4 6), .ref (g4 12), .null, .null, .int 0, .int 0, .int 0])) = fz4 at hS hO hw
  refine lv_aload_n hx hb dX9_init_48 rfl (lv_at hl 0 rfl) ?_
  refine w_newo C hw tyX3 tyX3_ok k323 k324 k137 (ci := 4) rfl dfX3 (Nat.le_of_ble_eq_true rfl) (Nat.le_of_ble_eq_true rfl) dX9_init_49 fun q5 H hw => ?_
  refine lv_dup hx hb dX9_init_52 rfl ?_
  refine w_inNv C hw bX3_init k853 (k := 14) (As := []) (c_X3_init hfl (g := va_up g4 14 q5) (f := va_up fz4 14 _) (va_up_self _ _ _)) (by rw [va_up_self]; rfl) rfl dX9_init_53 ⟨rfl, rfl⟩ (by decide) hl.1 (Nat.le_of_ble_eq_true rfl) ⟨Nat.le_of_ble_eq_true rfl, Nat.le_of_ble_eq_true rfl⟩ fun g5 N5 f5 H locs hp hw => ?_
  obtain ⟨hN5, hS, hg, hq, hfk⟩ := mkS_obj hS (Nat.le_of_ble_eq_true rfl) (Nat.le_of_ble_eq_true rfl) (mkC_of rfl) hp (Nat.le_of_ble_eq_true rfl)
  subst hN5
  have hO : f5 0 = .inr (10, [.ref (g5 1), .ref (g5 3), .ref (g5 6), .ref (g5 12), .null, .null, .int 0, .int 0, .int 0]) := by rw [hfk, hO, hg 1 (Nat.le_of_ble_eq_true rfl), hg 3 (Nat.le_of_ble_eq_true rfl), hg 6 (Nat.le_of_ble_eq_true rfl), hg 12 (Nat.le_of_ble_eq_true rfl)]
  refine w_putFs C hmn hw [.ref (g5 1), .ref (g5 3), .ref (g5 6), .ref (g5 12), .ref (g5 14), .null, .int 0, .int 0, .int 0] (k := 0) (v := .ref (g5 14)) (ty := tyX9) (j := 4) (Nat.le_of_ble_eq_true rfl) hO rfl tyX9_ok nmX9 (by decide) k325 rfl rfl rfl rfl (Nat.le_of_ble_eq_true rfl) rfl (by rw [hq, hS.1 0 (Nat.le_refl _)]) dX9_init_56 fun H locs hw => ?_
  have hS := mkS_up hS (x := (.inr (10, [.ref (g5 1), .ref (g5 3), .ref (g5 6), .ref (g5 12), .ref (g5 14), .null, .int 0, .int 0, .int 0])))
  have hO := va_up_self f5 0 ((.inr (10, [.ref (g5 1), .ref (g5 3), .ref (g5 6), .ref (g5 12), .ref (g5 14), .null, .int 0, .int 0, .int 0])) : va_E)
  generalize va_up f5 0 (.inr (10, [.ref (g5 1), .ref (g5 3), .ref (g5 6), .ref (g5 12), .ref (g5 14), .null, .int 0, .int 0, .int 0])) = fz5 at hS hO hw
  refine lv_aload_n hx hb dX9_init_59 rfl (lv_at hl 0 rfl) ?_
  refine w_newo C hw tyX7 tyX7_ok k326 k327 k289 (ci := 8) rfl dfX7 (Nat.le_of_ble_eq_true rfl) (Nat.le_of_ble_eq_true rfl) dX9_init_60 fun q6 H hw => ?_
  refine lv_dup hx hb dX9_init_63 rfl ?_
  refine w_inNv C hw bX7_init k854 (k := 16) (As := []) (c_X7_init hfl (g := va_up g5 16 q6) (f := va_up fz5 16 _) (va_up_self _ _ _)) (by rw [va_up_self]; rfl) rfl dX9_init_64 ⟨rfl, rfl⟩ (by decide) hl.1 (Nat.le_of_ble_eq_true rfl) ⟨Nat.le_of_ble_eq_true rfl, Nat.le_of_ble_eq_true rfl⟩ fun g6 N6 f6 H locs hp hw => ?_
  obtain ⟨hN6, hS, hg, hq, hfk⟩ := mkS_obj hS (Nat.le_of_ble_eq_true rfl) (Nat.le_of_ble_eq_true rfl) (mkC_of rfl) hp (Nat.le_of_ble_eq_true rfl)
  subst hN6
  have hO : f6 0 = .inr (10, [.ref (g6 1), .ref (g6 3), .ref (g6 6), .ref (g6 12), .ref (g6 14), .null, .int 0, .int 0, .int 0]) := by rw [hfk, hO, hg 1 (Nat.le_of_ble_eq_true rfl), hg 3 (Nat.le_of_ble_eq_true rfl), hg 6 (Nat.le_of_ble_eq_true rfl), hg 12 (Nat.le_of_ble_eq_true rfl), hg 14 (Nat.le_of_ble_eq_true rfl)]
  refine w_putFs C hmn hw [.ref (g6 1), .ref (g6 3), .ref (g6 6), .ref (g6 12), .ref (g6 14), .ref (g6 16), .int 0, .int 0, .int 0] (k := 0) (v := .ref (g6 16)) (ty := tyX9) (j := 5) (Nat.le_of_ble_eq_true rfl) hO rfl tyX9_ok nmX9 (by decide) k328 rfl rfl rfl rfl (Nat.le_of_ble_eq_true rfl) rfl (by rw [hq, hS.1 0 (Nat.le_refl _)]) dX9_init_67 fun H locs hw => ?_
  have hS := mkS_up hS (x := (.inr (10, [.ref (g6 1), .ref (g6 3), .ref (g6 6), .ref (g6 12), .ref (g6 14), .ref (g6 16), .int 0, .int 0, .int 0])))
  have hO := va_up_self f6 0 ((.inr (10, [.ref (g6 1), .ref (g6 3), .ref (g6 6), .ref (g6 12), .ref (g6 14), .ref (g6 16), .int 0, .int 0, .int 0])) : va_E)
  generalize va_up f6 0 (.inr (10, [.ref (g6 1), .ref (g6 3), .ref (g6 6), .ref (g6 12), .ref (g6 14), .ref (g6 16), .int 0, .int 0, .int 0])) = fz6 at hS hO hw
  exact hret 70 ls _ _ _ _ _ _ _ ⟨rfl, hS, hO⟩ hw (Nat.le_of_ble_eq_true rfl) (Nat.le_of_ble_eq_true rfl) dX9_init_70
set_option maxHeartbeats 4000000 in
theorem c_X10_init {l : Launch} {D : va_G} {cy : Nat → Nat} {g : Nat → Nat} {f : Nat → va_E} (hfl : l.stackTraces = false) (hO : f 29 = .inr (11, [.int 0, .null, .int 0, .null, .null, .null, .null, .null, .int 0, .int 0, .null, .null, .null, .null, .null, .null, .null, .null, .null, .null])) : cNv l D cy yX10_init cX10_init 1 none 1 16 33113 [.ref (g 29)] g 30 f (mkP cy g f 29 46) := by
  refine jNv (own := RX10) (by decide) rfl hfl (Nat.le_of_ble_eq_true rfl) rfl ?_
  intro p e R s m args below meth c ls A Q hRe C hmn hw hl hret
  subst hRe
  have hx := C.1
  have hb := C.2.1
  have hl : lv_has ls 1 [(0, .ref (g 29))] := hl
  have hS := mkS_0 cy g f 29
  refine lv_aload_n hx hb dX10_init_0 rfl (lv_at hl 0 rfl) ?_
  refine w_objI C k468 hl.1 dX10_init_1 (Nat.le_of_ble_eq_true rfl) (by decide) ?_
  refine lv_aload_n hx hb dX10_init_4 rfl (lv_at hl 0 rfl) ?_
  refine lv_bipush (v := 21) hx hb dX10_init_5 (by decide) ?_
  refine w_newa C hw (atype := .boolean) (ty := .boolean) (t := 1) (n := 21) (N' := 21) (a0 := (21, .inl (fun _ => 0))) rfl (Or.inr (Or.inl rfl)) rfl (fun _ => rfl) (by decide) rfl (Nat.le_of_ble_eq_true rfl) (Nat.le_of_ble_eq_true rfl) (Nat.le_of_ble_eq_true rfl) dX10_init_7 fun q1 H hw => ?_
  obtain ⟨hS, hg, hq, hfk⟩ := mkS_arr2 (q := q1) hS (Nat.le_of_ble_eq_true rfl) (Nat.le_of_ble_eq_true rfl) (mkC_of rfl) (x := .inl (cy 1, 21, .inl (fun _ => 0))) (fun _ => rfl)
  generalize va_up g 30 q1 = g1 at hS hg hq hw
  generalize va_up f 30 (.inl (cy 1, 21, .inl (fun _ => 0))) = f1 at hS hfk hw
  have hO : f1 29 = .inr (11, [.int 0, .null, .int 0, .null, .null, .null, .null, .null, .int 0, .int 0, .null, .null, .null, .null, .null, .null, .null, .null, .null, .null]) := by rw [hfk, hO]
  refine w_putFs C hmn hw [.int 0, .ref (g1 30), .int 0, .null, .null, .null, .null, .null, .int 0, .int 0, .null, .null, .null, .null, .null, .null, .null, .null, .null, .null] (k := 29) (v := .ref (g1 30)) (ty := tyX10) (j := 1) (Nat.le_of_ble_eq_true rfl) hO rfl tyX10_ok nmX10 (by decide) k469 rfl rfl rfl rfl (Nat.le_of_ble_eq_true rfl) rfl (by rw [hq, hS.1 29 (Nat.le_refl _)]) dX10_init_9 fun H locs hw => ?_
  have hS := mkS_up hS (x := (.inr (11, [.int 0, .ref (g1 30), .int 0, .null, .null, .null, .null, .null, .int 0, .int 0, .null, .null, .null, .null, .null, .null, .null, .null, .null, .null])))
  have hO := va_up_self f1 29 ((.inr (11, [.int 0, .ref (g1 30), .int 0, .null, .null, .null, .null, .null, .int 0, .int 0, .null, .null, .null, .null, .null, .null, .null, .null, .null, .null])) : va_E)
  generalize va_up f1 29 (.inr (11, [.int 0, .ref (g1 30), .int 0, .null, .null, .null, .null, .null, .int 0, .int 0, .null, .null, .null, .null, .null, .null, .null, .null, .null, .null])) = fz1 at hS hO hw
  refine lv_aload_n hx hb dX10_init_12 rfl (lv_at hl 0 rfl) ?_
  refine lv_bipush (v := 12) hx hb dX10_init_13 (by decide) ?_
  refine w_newa C hw (atype := .int) (ty := .int) (t := 0) (n := 12) (N' := 12) (a0 := (12, .inl (fun _ => 0))) rfl (Or.inl rfl) rfl (fun _ => rfl) (by decide) rfl (Nat.le_of_ble_eq_true rfl) (Nat.le_of_ble_eq_true rfl) (Nat.le_of_ble_eq_true rfl) dX10_init_15 fun q2 H hw => ?_
  obtain ⟨hS, hg, hq, hfk⟩ := mkS_arr2 (q := q2) hS (Nat.le_of_ble_eq_true rfl) (Nat.le_of_ble_eq_true rfl) (mkC_of rfl) (x := .inl (cy 0, 12, .inl (fun _ => 0))) (fun _ => rfl)
  generalize va_up g1 31 q2 = g2 at hS hg hq hw
  generalize va_up fz1 31 (.inl (cy 0, 12, .inl (fun _ => 0))) = f2 at hS hfk hw
  have hO : f2 29 = .inr (11, [.int 0, .ref (g2 30), .int 0, .null, .null, .null, .null, .null, .int 0, .int 0, .null, .null, .null, .null, .null, .null, .null, .null, .null, .null]) := by rw [hfk, hO, hg 30 (Nat.le_of_ble_eq_true rfl)]
  refine w_putFs C hmn hw [.int 0, .ref (g2 30), .int 0, .ref (g2 31), .null, .null, .null, .null, .int 0, .int 0, .null, .null, .null, .null, .null, .null, .null, .null, .null, .null] (k := 29) (v := .ref (g2 31)) (ty := tyX10) (j := 3) (Nat.le_of_ble_eq_true rfl) hO rfl tyX10_ok nmX10 (by decide) k470 rfl rfl rfl rfl (Nat.le_of_ble_eq_true rfl) rfl (by rw [hq, hS.1 29 (Nat.le_refl _)]) dX10_init_17 fun H locs hw => ?_
  have hS := mkS_up hS (x := (.inr (11, [.int 0, .ref (g2 30), .int 0, .ref (g2 31), .null, .null, .null, .null, .int 0, .int 0, .null, .null, .null, .null, .null, .null, .null, .null, .null, .null])))
  have hO := va_up_self f2 29 ((.inr (11, [.int 0, .ref (g2 30), .int 0, .ref (g2 31), .null, .null, .null, .null, .int 0, .int 0, .null, .null, .null, .null, .null, .null, .null, .null, .null, .null])) : va_E)
  generalize va_up f2 29 (.inr (11, [.int 0, .ref (g2 30), .int 0, .ref (g2 31), .null, .null, .null, .null, .int 0, .int 0, .null, .null, .null, .null, .null, .null, .null, .null, .null, .null])) = fz2 at hS hO hw
  refine lv_aload_n hx hb dX10_init_20 rfl (lv_at hl 0 rfl) ?_
  refine lv_bipush (v := 36) hx hb dX10_init_21 (by decide) ?_
  refine w_newa C hw (atype := .int) (ty := .int) (t := 0) (n := 36) (N' := 36) (a0 := (36, .inl (fun _ => 0))) rfl (Or.inl rfl) rfl (fun _ => rfl) (by decide) rfl (Nat.le_of_ble_eq_true rfl) (Nat.le_of_ble_eq_true rfl) (Nat.le_of_ble_eq_true rfl) dX10_init_23 fun q3 H hw => ?_
  obtain ⟨hS, hg, hq, hfk⟩ := mkS_arr2 (q := q3) hS (Nat.le_of_ble_eq_true rfl) (Nat.le_of_ble_eq_true rfl) (mkC_of rfl) (x := .inl (cy 0, 36, .inl (fun _ => 0))) (fun _ => rfl)
  generalize va_up g2 32 q3 = g3 at hS hg hq hw
  generalize va_up fz2 32 (.inl (cy 0, 36, .inl (fun _ => 0))) = f3 at hS hfk hw
  have hO : f3 29 = .inr (11, [.int 0, .ref (g3 30), .int 0, .ref (g3 31), .null, .null, .null, .null, .int 0, .int 0, .null, .null, .null, .null, .null, .null, .null, .null, .null, .null]) := by rw [hfk, hO, hg 30 (Nat.le_of_ble_eq_true rfl), hg 31 (Nat.le_of_ble_eq_true rfl)]
  refine w_putFs C hmn hw [.int 0, .ref (g3 30), .int 0, .ref (g3 31), .ref (g3 32), .null, .null, .null, .int 0, .int 0, .null, .null, .null, .null, .null, .null, .null, .null, .null, .null] (k := 29) (v := .ref (g3 32)) (ty := tyX10) (j := 4) (Nat.le_of_ble_eq_true rfl) hO rfl tyX10_ok nmX10 (by decide) k471 rfl rfl rfl rfl (Nat.le_of_ble_eq_true rfl) rfl (by rw [hq, hS.1 29 (Nat.le_refl _)]) dX10_init_25 fun H locs hw => ?_
  have hS := mkS_up hS (x := (.inr (11, [.int 0, .ref (g3 30), .int 0, .ref (g3 31), .ref (g3 32), .null, .null, .null, .int 0, .int 0, .null, .null, .null, .null, .null, .null, .null, .null, .null, .null])))
  have hO := va_up_self f3 29 ((.inr (11, [.int 0, .ref (g3 30), .int 0, .ref (g3 31), .ref (g3 32), .null, .null, .null, .int 0, .int 0, .null, .null, .null, .null, .null, .null, .null, .null, .null, .null])) : va_E)
  generalize va_up f3 29 (.inr (11, [.int 0, .ref (g3 30), .int 0, .ref (g3 31), .ref (g3 32), .null, .null, .null, .int 0, .int 0, .null, .null, .null, .null, .null, .null, .null, .null, .null, .null])) = fz3 at hS hO hw
  refine lv_aload_n hx hb dX10_init_28 rfl (lv_at hl 0 rfl) ?_
  refine lv_bipush (v := 12) hx hb dX10_init_29 (by decide) ?_
  refine w_newa C hw (atype := .int) (ty := .int) (t := 0) (n := 12) (N' := 12) (a0 := (12, .inl (fun _ => 0))) rfl (Or.inl rfl) rfl (fun _ => rfl) (by decide) rfl (Nat.le_of_ble_eq_true rfl) (Nat.le_of_ble_eq_true rfl) (Nat.le_of_ble_eq_true rfl) dX10_init_31 fun q4 H hw => ?_
  obtain ⟨hS, hg, hq, hfk⟩ := mkS_arr2 (q := q4) hS (Nat.le_of_ble_eq_true rfl) (Nat.le_of_ble_eq_true rfl) (mkC_of rfl) (x := .inl (cy 0, 12, .inl (fun _ => 0))) (fun _ => rfl)
  generalize va_up g3 33 q4 = g4 at hS hg hq hw
  generalize va_up fz3 33 (.inl (cy 0, 12, .inl (fun _ => 0))) = f4 at hS hfk hw
  have hO : f4 29 = .inr (11, [.int 0, .ref (g4 30), .int 0, .ref (g4 31), .ref (g4 32), .null, .null, .null, .int 0, .int 0, .null, .null, .null, .null, .null, .null, .null, .null, .null, .null]) := by rw [hfk, hO, hg 30 (Nat.le_of_ble_eq_true rfl), hg 31 (Nat.le_of_ble_eq_true rfl), hg 32 (Nat.le_of_ble_eq_true rfl)]
  refine w_putFs C hmn hw [.int 0, .ref (g4 30), .int 0, .ref (g4 31), .ref (g4 32), .ref (g4 33), .null, .null, .int 0, .int 0, .null, .null, .null, .null, .null, .null, .null, .null, .null, .null] (k := 29) (v := .ref (g4 33)) (ty := tyX10) (j := 5) (Nat.le_of_ble_eq_true rfl) hO rfl tyX10_ok nmX10 (by decide) k472 rfl rfl rfl rfl (Nat.le_of_ble_eq_true rfl) rfl (by rw [hq, hS.1 29 (Nat.le_refl _)]) dX10_init_33 fun H locs hw => ?_
  have hS := mkS_up hS (x := (.inr (11, [.int 0, .ref (g4 30), .int 0, .ref (g4 31), .ref (g4 32), .ref (g4 33), .null, .null, .int 0, .int 0, .null, .null, .null, .null, .null, .null, .null, .null, .null, .null])))
  have hO := va_up_self f4 29 ((.inr (11, [.int 0, .ref (g4 30), .int 0, .ref (g4 31), .ref (g4 32), .ref (g4 33), .null, .null, .int 0, .int 0, .null, .null, .null, .null, .null, .null, .null, .null, .null, .null])) : va_E)
  generalize va_up f4 29 (.inr (11, [.int 0, .ref (g4 30), .int 0, .ref (g4 31), .ref (g4 32), .ref (g4 33), .null, .null, .int 0, .int 0, .null, .null, .null, .null, .null, .null, .null, .null, .null, .null])) = fz4 at hS hO hw
  refine lv_aload_n hx hb dX10_init_36 rfl (lv_at hl 0 rfl) ?_
  refine lv_bipush (v := 12) hx hb dX10_init_37 (by decide) ?_
  refine w_newa C hw (atype := .int) (ty := .int) (t := 0) (n := 12) (N' := 12) (a0 := (12, .inl (fun _ => 0))) rfl (Or.inl rfl) rfl (fun _ => rfl) (by decide) rfl (Nat.le_of_ble_eq_true rfl) (Nat.le_of_ble_eq_true rfl) (Nat.le_of_ble_eq_true rfl) dX10_init_39 fun q5 H hw => ?_
  obtain ⟨hS, hg, hq, hfk⟩ := mkS_arr2 (q := q5) hS (Nat.le_of_ble_eq_true rfl) (Nat.le_of_ble_eq_true rfl) (mkC_of rfl) (x := .inl (cy 0, 12, .inl (fun _ => 0))) (fun _ => rfl)
  generalize va_up g4 34 q5 = g5 at hS hg hq hw
  generalize va_up fz4 34 (.inl (cy 0, 12, .inl (fun _ => 0))) = f5 at hS hfk hw
  have hO : f5 29 = .inr (11, [.int 0, .ref (g5 30), .int 0, .ref (g5 31), .ref (g5 32), .ref (g5 33), .null, .null, .int 0, .int 0, .null, .null, .null, .null, .null, .null, .null, .null, .null, .null]) := by rw [hfk, hO, hg 30 (Nat.le_of_ble_eq_true rfl), hg 31 (Nat.le_of_ble_eq_true rfl), hg 32 (Nat.le_of_ble_eq_true rfl), hg 33 (Nat.le_of_ble_eq_true rfl)]
  refine w_putFs C hmn hw [.int 0, .ref (g5 30), .int 0, .ref (g5 31), .ref (g5 32), .ref (g5 33), .ref (g5 34), .null, .int 0, .int 0, .null, .null, .null, .null, .null, .null, .null, .null, .null, .null] (k := 29) (v := .ref (g5 34)) (ty := tyX10) (j := 6) (Nat.le_of_ble_eq_true rfl) hO rfl tyX10_ok nmX10 (by decide) k473 rfl rfl rfl rfl (Nat.le_of_ble_eq_true rfl) rfl (by rw [hq, hS.1 29 (Nat.le_refl _)]) dX10_init_41 fun H locs hw => ?_
  have hS := mkS_up hS (x := (.inr (11, [.int 0, .ref (g5 30), .int 0, .ref (g5 31), .ref (g5 32), .ref (g5 33), .ref (g5 34), .null, .int 0, .int 0, .null, .null, .null, .null, .null, .null, .null, .null, .null, .null])))
  have hO := va_up_self f5 29 ((.inr (11, [.int 0, .ref (g5 30), .int 0, .ref (g5 31), .ref (g5 32), .ref (g5 33), .ref (g5 34), .null, .int 0, .int 0, .null, .null, .null, .null, .null, .null, .null, .null, .null, .null])) : va_E)
  generalize va_up f5 29 (.inr (11, [.int 0, .ref (g5 30), .int 0, .ref (g5 31), .ref (g5 32), .ref (g5 33), .ref (g5 34), .null, .int 0, .int 0, .null, .null, .null, .null, .null, .null, .null, .null, .null, .null])) = fz5 at hS hO hw
  refine lv_aload_n hx hb dX10_init_44 rfl (lv_at hl 0 rfl) ?_
  refine lv_bipush (v := 12) hx hb dX10_init_45 (by decide) ?_
  refine w_newa C hw (atype := .boolean) (ty := .boolean) (t := 1) (n := 12) (N' := 12) (a0 := (12, .inl (fun _ => 0))) rfl (Or.inr (Or.inl rfl)) rfl (fun _ => rfl) (by decide) rfl (Nat.le_of_ble_eq_true rfl) (Nat.le_of_ble_eq_true rfl) (Nat.le_of_ble_eq_true rfl) dX10_init_47 fun q6 H hw => ?_
  obtain ⟨hS, hg, hq, hfk⟩ := mkS_arr2 (q := q6) hS (Nat.le_of_ble_eq_true rfl) (Nat.le_of_ble_eq_true rfl) (mkC_of rfl) (x := .inl (cy 1, 12, .inl (fun _ => 0))) (fun _ => rfl)
  generalize va_up g5 35 q6 = g6 at hS hg hq hw
  generalize va_up fz5 35 (.inl (cy 1, 12, .inl (fun _ => 0))) = f6 at hS hfk hw
  have hO : f6 29 = .inr (11, [.int 0, .ref (g6 30), .int 0, .ref (g6 31), .ref (g6 32), .ref (g6 33), .ref (g6 34), .null, .int 0, .int 0, .null, .null, .null, .null, .null, .null, .null, .null, .null, .null]) := by rw [hfk, hO, hg 30 (Nat.le_of_ble_eq_true rfl), hg 31 (Nat.le_of_ble_eq_true rfl), hg 32 (Nat.le_of_ble_eq_true rfl), hg 33 (Nat.le_of_ble_eq_true rfl), hg 34 (Nat.le_of_ble_eq_true rfl)]
  refine w_putFs C hmn hw [.int 0, .ref (g6 30), .int 0, .ref (g6 31), .ref (g6 32), .ref (g6 33), .ref (g6 34), .ref (g6 35), .int 0, .int 0, .null, .null, .null, .null, .null, .null, .null, .null, .null, .null] (k := 29) (v := .ref (g6 35)) (ty := tyX10) (j := 7) (Nat.le_of_ble_eq_true rfl) hO rfl tyX10_ok nmX10 (by decide) k474 rfl rfl rfl rfl (Nat.le_of_ble_eq_true rfl) rfl (by rw [hq, hS.1 29 (Nat.le_refl _)]) dX10_init_49 fun H locs hw => ?_
  have hS := mkS_up hS (x := (.inr (11, [.int 0, .ref (g6 30), .int 0, .ref (g6 31), .ref (g6 32), .ref (g6 33), .ref (g6 34), .ref (g6 35), .int 0, .int 0, .null, .null, .null, .null, .null, .null, .null, .null, .null, .null])))
  have hO := va_up_self f6 29 ((.inr (11, [.int 0, .ref (g6 30), .int 0, .ref (g6 31), .ref (g6 32), .ref (g6 33), .ref (g6 34), .ref (g6 35), .int 0, .int 0, .null, .null, .null, .null, .null, .null, .null, .null, .null, .null])) : va_E)
  generalize va_up f6 29 (.inr (11, [.int 0, .ref (g6 30), .int 0, .ref (g6 31), .ref (g6 32), .ref (g6 33), .ref (g6 34), .ref (g6 35), .int 0, .int 0, .null, .null, .null, .null, .null, .null, .null, .null, .null, .null])) = fz6 at hS hO hw
  refine lv_aload_n hx hb dX10_init_52 rfl (lv_at hl 0 rfl) ?_
  refine lv_bipush (v := 24) hx hb dX10_init_53 (by decide) ?_
  refine w_newa C hw (atype := .int) (ty := .int) (t := 0) (n := 24) (N' := 24) (a0 := (24, .inl (fun _ => 0))) rfl (Or.inl rfl) rfl (fun _ => rfl) (by decide) rfl (Nat.le_of_ble_eq_true rfl) (Nat.le_of_ble_eq_true rfl) (Nat.le_of_ble_eq_true rfl) dX10_init_55 fun q7 H hw => ?_
  obtain ⟨hS, hg, hq, hfk⟩ := mkS_arr2 (q := q7) hS (Nat.le_of_ble_eq_true rfl) (Nat.le_of_ble_eq_true rfl) (mkC_of rfl) (x := .inl (cy 0, 24, .inl (fun _ => 0))) (fun _ => rfl)
  generalize va_up g6 36 q7 = g7 at hS hg hq hw
  generalize va_up fz6 36 (.inl (cy 0, 24, .inl (fun _ => 0))) = f7 at hS hfk hw
  have hO : f7 29 = .inr (11, [.int 0, .ref (g7 30), .int 0, .ref (g7 31), .ref (g7 32), .ref (g7 33), .ref (g7 34), .ref (g7 35), .int 0, .int 0, .null, .null, .null, .null, .null, .null, .null, .null, .null, .null]) := by rw [hfk, hO, hg 30 (Nat.le_of_ble_eq_true rfl), hg 31 (Nat.le_of_ble_eq_true rfl), hg 32 (Nat.le_of_ble_eq_true rfl), hg 33 (Nat.le_of_ble_eq_true rfl), hg 34 (Nat.le_of_ble_eq_true rfl), hg 35 (Nat.le_of_ble_eq_true rfl)]
  refine w_putFs C hmn hw [.int 0, .ref (g7 30), .int 0, .ref (g7 31), .ref (g7 32), .ref (g7 33), .ref (g7 34), .ref (g7 35), .int 0, .int 0, .ref (g7 36), .null, .null, .null, .null, .null, .null, .null, .null, .null] (k := 29) (v := .ref (g7 36)) (ty := tyX10) (j := 10) (Nat.le_of_ble_eq_true rfl) hO rfl tyX10_ok nmX10 (by decide) k475 rfl rfl rfl rfl (Nat.le_of_ble_eq_true rfl) rfl (by rw [hq, hS.1 29 (Nat.le_refl _)]) dX10_init_57 fun H locs hw => ?_
  have hS := mkS_up hS (x := (.inr (11, [.int 0, .ref (g7 30), .int 0, .ref (g7 31), .ref (g7 32), .ref (g7 33), .ref (g7 34), .ref (g7 35), .int 0, .int 0, .ref (g7 36), .null, .null, .null, .null, .null, .null, .null, .null, .null])))
  have hO := va_up_self f7 29 ((.inr (11, [.int 0, .ref (g7 30), .int 0, .ref (g7 31), .ref (g7 32), .ref (g7 33), .ref (g7 34), .ref (g7 35), .int 0, .int 0, .ref (g7 36), .null, .null, .null, .null, .null, .null, .null, .null, .null])) : va_E)
  generalize va_up f7 29 (.inr (11, [.int 0, .ref (g7 30), .int 0, .ref (g7 31), .ref (g7 32), .ref (g7 33), .ref (g7 34), .ref (g7 35), .int 0, .int 0, .ref (g7 36), .null, .null, .null, .null, .null, .null, .null, .null, .null])) = fz7 at hS hO hw
  refine lv_aload_n hx hb dX10_init_60 rfl (lv_at hl 0 rfl) ?_
  refine lv_bipush (v := 24) hx hb dX10_init_61 (by decide) ?_
  refine w_newa C hw (atype := .int) (ty := .int) (t := 0) (n := 24) (N' := 24) (a0 := (24, .inl (fun _ => 0))) rfl (Or.inl rfl) rfl (fun _ => rfl) (by decide) rfl (Nat.le_of_ble_eq_true rfl) (Nat.le_of_ble_eq_true rfl) (Nat.le_of_ble_eq_true rfl) dX10_init_63 fun q8 H hw => ?_
  obtain ⟨hS, hg, hq, hfk⟩ := mkS_arr2 (q := q8) hS (Nat.le_of_ble_eq_true rfl) (Nat.le_of_ble_eq_true rfl) (mkC_of rfl) (x := .inl (cy 0, 24, .inl (fun _ => 0))) (fun _ => rfl)
  generalize va_up g7 37 q8 = g8 at hS hg hq hw
  generalize va_up fz7 37 (.inl (cy 0, 24, .inl (fun _ => 0))) = f8 at hS hfk hw
  have hO : f8 29 = .inr (11, [.int 0, .ref (g8 30), .int 0, .ref (g8 31), .ref (g8 32), .ref (g8 33), .ref (g8 34), .ref (g8 35), .int 0, .int 0, .ref (g8 36), .null, .null, .null, .null, .null, .null, .null, .null, .null]) := by rw [hfk, hO, hg 30 (Nat.le_of_ble_eq_true rfl), hg 31 (Nat.le_of_ble_eq_true rfl), hg 32 (Nat.le_of_ble_eq_true rfl), hg 33 (Nat.le_of_ble_eq_true rfl), hg 34 (Nat.le_of_ble_eq_true rfl), hg 35 (Nat.le_of_ble_eq_true rfl), hg 36 (Nat.le_of_ble_eq_true rfl)]
  refine w_putFs C hmn hw [.int 0, .ref (g8 30), .int 0, .ref (g8 31), .ref (g8 32), .ref (g8 33), .ref (g8 34), .ref (g8 35), .int 0, .int 0, .ref (g8 36), .ref (g8 37), .null, .null, .null, .null, .null, .null, .null, .null] (k := 29) (v := .ref (g8 37)) (ty := tyX10) (j := 11) (Nat.le_of_ble_eq_true rfl) hO rfl tyX10_ok nmX10 (by decide) k476 rfl rfl rfl rfl (Nat.le_of_ble_eq_true rfl) rfl (by rw [hq, hS.1 29 (Nat.le_refl _)]) dX10_init_65 fun H locs hw => ?_
  have hS := mkS_up hS (x := (.inr (11, [.int 0, .ref (g8 30), .int 0, .ref (g8 31), .ref (g8 32), .ref (g8 33), .ref (g8 34), .ref (g8 35), .int 0, .int 0, .ref (g8 36), .ref (g8 37), .null, .null, .null, .null, .null, .null, .null, .null])))
  have hO := va_up_self f8 29 ((.inr (11, [.int 0, .ref (g8 30), .int 0, .ref (g8 31), .ref (g8 32), .ref (g8 33), .ref (g8 34), .ref (g8 35), .int 0, .int 0, .ref (g8 36), .ref (g8 37), .null, .null, .null, .null, .null, .null, .null, .null])) : va_E)
  generalize va_up f8 29 (.inr (11, [.int 0, .ref (g8 30), .int 0, .ref (g8 31), .ref (g8 32), .ref (g8 33), .ref (g8 34), .ref (g8 35), .int 0, .int 0, .ref (g8 36), .ref (g8 37), .null, .null, .null, .null, .null, .null, .null, .null])) = fz8 at hS hO hw
  refine lv_aload_n hx hb dX10_init_68 rfl (lv_at hl 0 rfl) ?_
  refine lv_bipush (v := 72) hx hb dX10_init_69 (by decide) ?_
  refine w_newa C hw (atype := .int) (ty := .int) (t := 0) (n := 72) (N' := 72) (a0 := (72, .inl (fun _ => 0))) rfl (Or.inl rfl) rfl (fun _ => rfl) (by decide) rfl (Nat.le_of_ble_eq_true rfl) (Nat.le_of_ble_eq_true rfl) (Nat.le_of_ble_eq_true rfl) dX10_init_71 fun q9 H hw => ?_
  obtain ⟨hS, hg, hq, hfk⟩ := mkS_arr2 (q := q9) hS (Nat.le_of_ble_eq_true rfl) (Nat.le_of_ble_eq_true rfl) (mkC_of rfl) (x := .inl (cy 0, 72, .inl (fun _ => 0))) (fun _ => rfl)
  generalize va_up g8 38 q9 = g9 at hS hg hq hw
  generalize va_up fz8 38 (.inl (cy 0, 72, .inl (fun _ => 0))) = f9 at hS hfk hw
  have hO : f9 29 = .inr (11, [.int 0, .ref (g9 30), .int 0, .ref (g9 31), .ref (g9 32), .ref (g9 33), .ref (g9 34), .ref (g9 35), .int 0, .int 0, .ref (g9 36), .ref (g9 37), .null, .null, .null, .null, .null, .null, .null, .null]) := by rw [hfk, hO, hg 30 (Nat.le_of_ble_eq_true rfl), hg 31 (Nat.le_of_ble_eq_true rfl), hg 32 (Nat.le_of_ble_eq_true rfl), hg 33 (Nat.le_of_ble_eq_true rfl), hg 34 (Nat.le_of_ble_eq_true rfl), hg 35 (Nat.le_of_ble_eq_true rfl), hg 36 (Nat.le_of_ble_eq_true rfl), hg 37 (Nat.le_of_ble_eq_true rfl)]
  refine w_putFs C hmn hw [.int 0, .ref (g9 30), .int 0, .ref (g9 31), .ref (g9 32), .ref (g9 33), .ref (g9 34), .ref (g9 35), .int 0, .int 0, .ref (g9 36), .ref (g9 37), .ref (g9 38), .null, .null, .null, .null, .null, .null, .null] (k := 29) (v := .ref (g9 38)) (ty := tyX10) (j := 12) (Nat.le_of_ble_eq_true rfl) hO rfl tyX10_ok nmX10 (by decide) k477 rfl rfl rfl rfl (Nat.le_of_ble_eq_true rfl) rfl (by rw [hq, hS.1 29 (Nat.le_refl _)]) dX10_init_73 fun H locs hw => ?_
  have hS := mkS_up hS (x := (.inr (11, [.int 0, .ref (g9 30), .int 0, .ref (g9 31), .ref (g9 32), .ref (g9 33), .ref (g9 34), .ref (g9 35), .int 0, .int 0, .ref (g9 36), .ref (g9 37), .ref (g9 38), .null, .null, .null, .null, .null, .null, .null])))
  have hO := va_up_self f9 29 ((.inr (11, [.int 0, .ref (g9 30), .int 0, .ref (g9 31), .ref (g9 32), .ref (g9 33), .ref (g9 34), .ref (g9 35), .int 0, .int 0, .ref (g9 36), .ref (g9 37), .ref (g9 38), .null, .null, .null, .null, .null, .null, .null])) : va_E)
  generalize va_up f9 29 (.inr (11, [.int 0, .ref (g9 30), .int 0, .ref (g9 31), .ref (g9 32), .ref (g9 33), .ref (g9 34), .ref (g9 35), .int 0, .int 0, .ref (g9 36), .ref (g9 37), .ref (g9 38), .null, .null, .null, .null, .null, .null, .null])) = fz9 at hS hO hw
  refine lv_aload_n hx hb dX10_init_76 rfl (lv_at hl 0 rfl) ?_
  refine lv_bipush (v := 24) hx hb dX10_init_77 (by decide) ?_
  refine w_newa C hw (atype := .int) (ty := .int) (t := 0) (n := 24) (N' := 24) (a0 := (24, .inl (fun _ => 0))) rfl (Or.inl rfl) rfl (fun _ => rfl) (by decide) rfl (Nat.le_of_ble_eq_true rfl) (Nat.le_of_ble_eq_true rfl) (Nat.le_of_ble_eq_true rfl) dX10_init_79 fun q10 H hw => ?_
  obtain ⟨hS, hg, hq, hfk⟩ := mkS_arr2 (q := q10) hS (Nat.le_of_ble_eq_true rfl) (Nat.le_of_ble_eq_true rfl) (mkC_of rfl) (x := .inl (cy 0, 24, .inl (fun _ => 0))) (fun _ => rfl)
  generalize va_up g9 39 q10 = g10 at hS hg hq hw
  generalize va_up fz9 39 (.inl (cy 0, 24, .inl (fun _ => 0))) = f10 at hS hfk hw
  have hO : f10 29 = .inr (11, [.int 0, .ref (g10 30), .int 0, .ref (g10 31), .ref (g10 32), .ref (g10 33), .ref (g10 34), .ref (g10 35), .int 0, .int 0, .ref (g10 36), .ref (g10 37), .ref (g10 38), .null, .null, .null, .null, .null, .null, .null]) := by rw [hfk, hO, hg 30 (Nat.le_of_ble_eq_true rfl), hg 31 (Nat.le_of_ble_eq_true rfl), hg 32 (Nat.le_of_ble_eq_true rfl), hg 33 (Nat.le_of_ble_eq_true rfl), hg 34 (Nat.le_of_ble_eq_true rfl), hg 35 (Nat.le_of_ble_eq_true rfl), hg 36 (Nat.le_of_ble_eq_true rfl), hg 37 (Nat.le_of_ble_eq_true rfl), hg 38 (Nat.le_of_ble_eq_true rfl)]
  refine w_putFs C hmn hw [.int 0, .ref (g10 30), .int 0, .ref (g10 31), .ref (g10 32), .ref (g10 33), .ref (g10 34), .ref (g10 35), .int 0, .int 0, .ref (g10 36), .ref (g10 37), .ref (g10 38), .ref (g10 39), .null, .null, .null, .null, .null, .null] (k := 29) (v := .ref (g10 39)) (ty := tyX10) (j := 13) (Nat.le_of_ble_eq_true rfl) hO rfl tyX10_ok nmX10 (by decide) k478 rfl rfl rfl rfl (Nat.le_of_ble_eq_true rfl) rfl (by rw [hq, hS.1 29 (Nat.le_refl _)]) dX10_init_81 fun H locs hw => ?_
  have hS := mkS_up hS (x := (.inr (11, [.int 0, .ref (g10 30), .int 0, .ref (g10 31), .ref (g10 32), .ref (g10 33), .ref (g10 34), .ref (g10 35), .int 0, .int 0, .ref (g10 36), .ref (g10 37), .ref (g10 38), .ref (g10 39), .null, .null, .null, .null, .null, .null])))
  have hO := va_up_self f10 29 ((.inr (11, [.int 0, .ref (g10 30), .int 0, .ref (g10 31), .ref (g10 32), .ref (g10 33), .ref (g10 34), .ref (g10 35), .int 0, .int 0, .ref (g10 36), .ref (g10 37), .ref (g10 38), .ref (g10 39), .null, .null, .null, .null, .null, .null])) : va_E)
  generalize va_up f10 29 (.inr (11, [.int 0, .ref (g10 30), .int 0, .ref (g10 31), .ref (g10 32), .ref (g10 33), .ref (g10 34), .ref (g10 35), .int 0, .int 0, .ref (g10 36), .ref (g10 37), .ref (g10 38), .ref (g10 39), .null, .null, .null, .null, .null, .null])) = fz10 at hS hO hw
  refine lv_aload_n hx hb dX10_init_84 rfl (lv_at hl 0 rfl) ?_
  refine lv_bipush (v := 24) hx hb dX10_init_85 (by decide) ?_
  refine w_newa C hw (atype := .int) (ty := .int) (t := 0) (n := 24) (N' := 24) (a0 := (24, .inl (fun _ => 0))) rfl (Or.inl rfl) rfl (fun _ => rfl) (by decide) rfl (Nat.le_of_ble_eq_true rfl) (Nat.le_of_ble_eq_true rfl) (Nat.le_of_ble_eq_true rfl) dX10_init_87 fun q11 H hw => ?_
  obtain ⟨hS, hg, hq, hfk⟩ := mkS_arr2 (q := q11) hS (Nat.le_of_ble_eq_true rfl) (Nat.le_of_ble_eq_true rfl) (mkC_of rfl) (x := .inl (cy 0, 24, .inl (fun _ => 0))) (fun _ => rfl)
  generalize va_up g10 40 q11 = g11 at hS hg hq hw
  generalize va_up fz10 40 (.inl (cy 0, 24, .inl (fun _ => 0))) = f11 at hS hfk hw
  have hO : f11 29 = .inr (11, [.int 0, .ref (g11 30), .int 0, .ref (g11 31), .ref (g11 32), .ref (g11 33), .ref (g11 34), .ref (g11 35), .int 0, .int 0, .ref (g11 36), .ref (g11 37), .ref (g11 38), .ref (g11 39), .null, .null, .null, .null, .null, .null]) := by rw [hfk, hO, hg 30 (Nat.le_of_ble_eq_true rfl), hg 31 (Nat.le_of_ble_eq_true rfl), hg 32 (Nat.le_of_ble_eq_true rfl), hg 33 (Nat.le_of_ble_eq_true rfl), hg 34 (Nat.le_of_ble_eq_true rfl), hg 35 (Nat.le_of_ble_eq_true rfl), hg 36 (Nat.le_of_ble_eq_true rfl), hg 37 (Nat.le_of_ble_eq_true rfl), hg 38 (Nat.le_of_ble_eq_true rfl), hg 39 (Nat.le_of_ble_eq_true rfl)]
  refine w_putFs C hmn hw [.int 0, .ref (g11 30), .int 0, .ref (g11 31), .ref (g11 32), .ref (g11 33), .ref (g11 34), .ref (g11 35), .int 0, .int 0, .ref (g11 36), .ref (g11 37), .ref (g11 38), .ref (g11 39), .ref (g11 40), .null, .null, .null, .null, .null] (k := 29) (v := .ref (g11 40)) (ty := tyX10) (j := 14) (Nat.le_of_ble_eq_true rfl) hO rfl tyX10_ok nmX10 (by decide) k479 rfl rfl rfl rfl (Nat.le_of_ble_eq_true rfl) rfl (by rw [hq, hS.1 29 (Nat.le_refl _)]) dX10_init_89 fun H locs hw => ?_
  have hS := mkS_up hS (x := (.inr (11, [.int 0, .ref (g11 30), .int 0, .ref (g11 31), .ref (g11 32), .ref (g11 33), .ref (g11 34), .ref (g11 35), .int 0, .int 0, .ref (g11 36), .ref (g11 37), .ref (g11 38), .ref (g11 39), .ref (g11 40), .null, .null, .null, .null, .null])))
  have hO := va_up_self f11 29 ((.inr (11, [.int 0, .ref (g11 30), .int 0, .ref (g11 31), .ref (g11 32), .ref (g11 33), .ref (g11 34), .ref (g11 35), .int 0, .int 0, .ref (g11 36), .ref (g11 37), .ref (g11 38), .ref (g11 39), .ref (g11 40), .null, .null, .null, .null, .null])) : va_E)
  generalize va_up f11 29 (.inr (11, [.int 0, .ref (g11 30), .int 0, .ref (g11 31), .ref (g11 32), .ref (g11 33), .ref (g11 34), .ref (g11 35), .int 0, .int 0, .ref (g11 36), .ref (g11 37), .ref (g11 38), .ref (g11 39), .ref (g11 40), .null, .null, .null, .null, .null])) = fz11 at hS hO hw
  refine lv_aload_n hx hb dX10_init_92 rfl (lv_at hl 0 rfl) ?_
  refine lv_bipush (v := 24) hx hb dX10_init_93 (by decide) ?_
  refine w_newa C hw (atype := .int) (ty := .int) (t := 0) (n := 24) (N' := 24) (a0 := (24, .inl (fun _ => 0))) rfl (Or.inl rfl) rfl (fun _ => rfl) (by decide) rfl (Nat.le_of_ble_eq_true rfl) (Nat.le_of_ble_eq_true rfl) (Nat.le_of_ble_eq_true rfl) dX10_init_95 fun q12 H hw => ?_
  obtain ⟨hS, hg, hq, hfk⟩ := mkS_arr2 (q := q12) hS (Nat.le_of_ble_eq_true rfl) (Nat.le_of_ble_eq_true rfl) (mkC_of rfl) (x := .inl (cy 0, 24, .inl (fun _ => 0))) (fun _ => rfl)
  generalize va_up g11 41 q12 = g12 at hS hg hq hw
  generalize va_up fz11 41 (.inl (cy 0, 24, .inl (fun _ => 0))) = f12 at hS hfk hw
  have hO : f12 29 = .inr (11, [.int 0, .ref (g12 30), .int 0, .ref (g12 31), .ref (g12 32), .ref (g12 33), .ref (g12 34), .ref (g12 35), .int 0, .int 0, .ref (g12 36), .ref (g12 37), .ref (g12 38), .ref (g12 39), .ref (g12 40), .null, .null, .null, .null, .null]) := by rw [hfk, hO, hg 30 (Nat.le_of_ble_eq_true rfl), hg 31 (Nat.le_of_ble_eq_true rfl), hg 32 (Nat.le_of_ble_eq_true rfl), hg 33 (Nat.le_of_ble_eq_true rfl), hg 34 (Nat.le_of_ble_eq_true rfl), hg 35 (Nat.le_of_ble_eq_true rfl), hg 36 (Nat.le_of_ble_eq_true rfl), hg 37 (Nat.le_of_ble_eq_true rfl), hg 38 (Nat.le_of_ble_eq_true rfl), hg 39 (Nat.le_of_ble_eq_true rfl), hg 40 (Nat.le_of_ble_eq_true rfl)]
  refine w_putFs C hmn hw [.int 0, .ref (g12 30), .int 0, .ref (g12 31), .ref (g12 32), .ref (g12 33), .ref (g12 34), .ref (g12 35), .int 0, .int 0, .ref (g12 36), .ref (g12 37), .ref (g12 38), .ref (g12 39), .ref (g12 40), .ref (g12 41), .null, .null, .null, .null] (k := 29) (v := .ref (g12 41)) (ty := tyX10) (j := 15) (Nat.le_of_ble_eq_true rfl) hO rfl tyX10_ok nmX10 (by decide) k480 rfl rfl rfl rfl (Nat.le_of_ble_eq_true rfl) rfl (by rw [hq, hS.1 29 (Nat.le_refl _)]) dX10_init_97 fun H locs hw => ?_
  have hS := mkS_up hS (x := (.inr (11, [.int 0, .ref (g12 30), .int 0, .ref (g12 31), .ref (g12 32), .ref (g12 33), .ref (g12 34), .ref (g12 35), .int 0, .int 0, .ref (g12 36), .ref (g12 37), .ref (g12 38), .ref (g12 39), .ref (g12 40), .ref (g12 41), .null, .null, .null, .null])))
  have hO := va_up_self f12 29 ((.inr (11, [.int 0, .ref (g12 30), .int 0, .ref (g12 31), .ref (g12 32), .ref (g12 33), .ref (g12 34), .ref (g12 35), .int 0, .int 0, .ref (g12 36), .ref (g12 37), .ref (g12 38), .ref (g12 39), .ref (g12 40), .ref (g12 41), .null, .null, .null, .null])) : va_E)
  generalize va_up f12 29 (.inr (11, [.int 0, .ref (g12 30), .int 0, .ref (g12 31), .ref (g12 32), .ref (g12 33), .ref (g12 34), .ref (g12 35), .int 0, .int 0, .ref (g12 36), .ref (g12 37), .ref (g12 38), .ref (g12 39), .ref (g12 40), .ref (g12 41), .null, .null, .null, .null])) = fz12 at hS hO hw
  refine lv_aload_n hx hb dX10_init_100 rfl (lv_at hl 0 rfl) ?_
  refine lv_bipush (v := 24) hx hb dX10_init_101 (by decide) ?_
  refine w_newa C hw (atype := .int) (ty := .int) (t := 0) (n := 24) (N' := 24) (a0 := (24, .inl (fun _ => 0))) rfl (Or.inl rfl) rfl (fun _ => rfl) (by decide) rfl (Nat.le_of_ble_eq_true rfl) (Nat.le_of_ble_eq_true rfl) (Nat.le_of_ble_eq_true rfl) dX10_init_103 fun q13 H hw => ?_
  obtain ⟨hS, hg, hq, hfk⟩ := mkS_arr2 (q := q13) hS (Nat.le_of_ble_eq_true rfl) (Nat.le_of_ble_eq_true rfl) (mkC_of rfl) (x := .inl (cy 0, 24, .inl (fun _ => 0))) (fun _ => rfl)
  generalize va_up g12 42 q13 = g13 at hS hg hq hw
  generalize va_up fz12 42 (.inl (cy 0, 24, .inl (fun _ => 0))) = f13 at hS hfk hw
  have hO : f13 29 = .inr (11, [.int 0, .ref (g13 30), .int 0, .ref (g13 31), .ref (g13 32), .ref (g13 33), .ref (g13 34), .ref (g13 35), .int 0, .int 0, .ref (g13 36), .ref (g13 37), .ref (g13 38), .ref (g13 39), .ref (g13 40), .ref (g13 41), .null, .null, .null, .null]) := by rw [hfk, hO, hg 30 (Nat.le_of_ble_eq_true rfl), hg 31 (Nat.le_of_ble_eq_true rfl), hg 32 (Nat.le_of_ble_eq_true rfl), hg 33 (Nat.le_of_ble_eq_true rfl), hg 34 (Nat.le_of_ble_eq_true rfl), hg 35 (Nat.le_of_ble_eq_true rfl), hg 36 (Nat.le_of_ble_eq_true rfl), hg 37 (Nat.le_of_ble_eq_true rfl), hg 38 (Nat.le_of_ble_eq_true rfl), hg 39 (Nat.le_of_ble_eq_true rfl), hg 40 (Nat.le_of_ble_eq_true rfl), hg 41 (Nat.le_of_ble_eq_true rfl)]
  refine w_putFs C hmn hw [.int 0, .ref (g13 30), .int 0, .ref (g13 31), .ref (g13 32), .ref (g13 33), .ref (g13 34), .ref (g13 35), .int 0, .int 0, .ref (g13 36), .ref (g13 37), .ref (g13 38), .ref (g13 39), .ref (g13 40), .ref (g13 41), .ref (g13 42), .null, .null, .null] (k := 29) (v := .ref (g13 42)) (ty := tyX10) (j := 16) (Nat.le_of_ble_eq_true rfl) hO rfl tyX10_ok nmX10 (by decide) k481 rfl rfl rfl rfl (Nat.le_of_ble_eq_true rfl) rfl (by rw [hq, hS.1 29 (Nat.le_refl _)]) dX10_init_105 fun H locs hw => ?_
  have hS := mkS_up hS (x := (.inr (11, [.int 0, .ref (g13 30), .int 0, .ref (g13 31), .ref (g13 32), .ref (g13 33), .ref (g13 34), .ref (g13 35), .int 0, .int 0, .ref (g13 36), .ref (g13 37), .ref (g13 38), .ref (g13 39), .ref (g13 40), .ref (g13 41), .ref (g13 42), .null, .null, .null])))
  have hO := va_up_self f13 29 ((.inr (11, [.int 0, .ref (g13 30), .int 0, .ref (g13 31), .ref (g13 32), .ref (g13 33), .ref (g13 34), .ref (g13 35), .int 0, .int 0, .ref (g13 36), .ref (g13 37), .ref (g13 38), .ref (g13 39), .ref (g13 40), .ref (g13 41), .ref (g13 42), .null, .null, .null])) : va_E)
  generalize va_up f13 29 (.inr (11, [.int 0, .ref (g13 30), .int 0, .ref (g13 31), .ref (g13 32), .ref (g13 33), .ref (g13 34), .ref (g13 35), .int 0, .int 0, .ref (g13 36), .ref (g13 37), .ref (g13 38), .ref (g13 39), .ref (g13 40), .ref (g13 41), .ref (g13 42), .null, .null, .null])) = fz13 at hS hO hw
  refine lv_aload_n hx hb dX10_init_108 rfl (lv_at hl 0 rfl) ?_
  refine lv_bipush (v := 24) hx hb dX10_init_109 (by decide) ?_
  refine w_newa C hw (atype := .int) (ty := .int) (t := 0) (n := 24) (N' := 24) (a0 := (24, .inl (fun _ => 0))) rfl (Or.inl rfl) rfl (fun _ => rfl) (by decide) rfl (Nat.le_of_ble_eq_true rfl) (Nat.le_of_ble_eq_true rfl) (Nat.le_of_ble_eq_true rfl) dX10_init_111 fun q14 H hw => ?_
  obtain ⟨hS, hg, hq, hfk⟩ := mkS_arr2 (q := q14) hS (Nat.le_of_ble_eq_true rfl) (Nat.le_of_ble_eq_true rfl) (mkC_of rfl) (x := .inl (cy 0, 24, .inl (fun _ => 0))) (fun _ => rfl)
  generalize va_up g13 43 q14 = g14 at hS hg hq hw
  generalize va_up fz13 43 (.inl (cy 0, 24, .inl (fun _ => 0))) = f14 at hS hfk hw
  have hO : f14 29 = .inr (11, [.int 0, .ref (g14 30), .int 0, .ref (g14 31), .ref (g14 32), .ref (g14 33), .ref (g14 34), .ref (g14 35), .int 0, .int 0, .ref (g14 36), .ref (g14 37), .ref (g14 38), .ref (g14 39), .ref (g14 40), .ref (g14 41), .ref (g14 42), .null, .null, .null]) := by rw [hfk, hO, hg 30 (Nat.le_of_ble_eq_true rfl), hg 31 (Nat.le_of_ble_eq_true rfl), hg 32 (Nat.le_of_ble_eq_true rfl), hg 33 (Nat.le_of_ble_eq_true rfl), hg 34 (Nat.le_of_ble_eq_true rfl), hg 35 (Nat.le_of_ble_eq_true rfl), hg 36 (Nat.le_of_ble_eq_true rfl), hg 37 (Nat.le_of_ble_eq_true rfl), hg 38 (Nat.le_of_ble_eq_true rfl), hg 39 (Nat.le_of_ble_eq_true rfl), hg 40 (Nat.le_of_ble_eq_true rfl), hg 41 (Nat.le_of_ble_eq_true rfl), hg 42 (Nat.le_of_ble_eq_true rfl)]
  refine w_putFs C hmn hw [.int 0, .ref (g14 30), .int 0, .ref (g14 31), .ref (g14 32), .ref (g14 33), .ref (g14 34), .ref (g14 35), .int 0, .int 0, .ref (g14 36), .ref (g14 37), .ref (g14 38), .ref (g14 39), .ref (g14 40), .ref (g14 41), .ref (g14 42), .ref (g14 43), .null, .null] (k := 29) (v := .ref (g14 43)) (ty := tyX10) (j := 17) (Nat.le_of_ble_eq_true rfl) hO rfl tyX10_ok nmX10 (by decide) k482 rfl rfl rfl rfl (Nat.le_of_ble_eq_true rfl) rfl (by rw [hq, hS.1 29 (Nat.le_refl _)]) dX10_init_113 fun H locs hw => ?_
  have hS := mkS_up hS (x := (.inr (11, [.int 0, .ref (g14 30), .int 0, .ref (g14 31), .ref (g14 32), .ref (g14 33), .ref (g14 34), .ref (g14 35), .int 0, .int 0, .ref (g14 36), .ref (g14 37), .ref (g14 38), .ref (g14 39), .ref (g14 40), .ref (g14 41), .ref (g14 42), .ref (g14 43), .null, .null])))
  have hO := va_up_self f14 29 ((.inr (11, [.int 0, .ref (g14 30), .int 0, .ref (g14 31), .ref (g14 32), .ref (g14 33), .ref (g14 34), .ref (g14 35), .int 0, .int 0, .ref (g14 36), .ref (g14 37), .ref (g14 38), .ref (g14 39), .ref (g14 40), .ref (g14 41), .ref (g14 42), .ref (g14 43), .null, .null])) : va_E)
  generalize va_up f14 29 (.inr (11, [.int 0, .ref (g14 30), .int 0, .ref (g14 31), .ref (g14 32), .ref (g14 33), .ref (g14 34), .ref (g14 35), .int 0, .int 0, .ref (g14 36), .ref (g14 37), .ref (g14 38), .ref (g14 39), .ref (g14 40), .ref (g14 41), .ref (g14 42), .ref (g14 43), .null, .null])) = fz14 at hS hO hw
  refine lv_aload_n hx hb dX10_init_116 rfl (lv_at hl 0 rfl) ?_
  refine lv_sipush (v := 16384) hx hb dX10_init_117 (by decide) ?_
  refine w_newa C hw (atype := .boolean) (ty := .boolean) (t := 1) (n := 16384) (N' := 16384) (a0 := (16384, .inl (fun _ => 0))) rfl (Or.inr (Or.inl rfl)) rfl (fun _ => rfl) (by decide) rfl (Nat.le_of_ble_eq_true rfl) (Nat.le_of_ble_eq_true rfl) (Nat.le_of_ble_eq_true rfl) dX10_init_120 fun q15 H hw => ?_
  obtain ⟨hS, hg, hq, hfk⟩ := mkS_arr2 (q := q15) hS (Nat.le_of_ble_eq_true rfl) (Nat.le_of_ble_eq_true rfl) (mkC_of rfl) (x := .inl (cy 1, 16384, .inl (fun _ => 0))) (fun _ => rfl)
  generalize va_up g14 44 q15 = g15 at hS hg hq hw
  generalize va_up fz14 44 (.inl (cy 1, 16384, .inl (fun _ => 0))) = f15 at hS hfk hw
  have hO : f15 29 = .inr (11, [.int 0, .ref (g15 30), .int 0, .ref (g15 31), .ref (g15 32), .ref (g15 33), .ref (g15 34), .ref (g15 35), .int 0, .int 0, .ref (g15 36), .ref (g15 37), .ref (g15 38), .ref (g15 39), .ref (g15 40), .ref (g15 41), .ref (g15 42), .ref (g15 43), .null, .null]) := by rw [hfk, hO, hg 30 (Nat.le_of_ble_eq_true rfl), hg 31 (Nat.le_of_ble_eq_true rfl), hg 32 (Nat.le_of_ble_eq_true rfl), hg 33 (Nat.le_of_ble_eq_true rfl), hg 34 (Nat.le_of_ble_eq_true rfl), hg 35 (Nat.le_of_ble_eq_true rfl), hg 36 (Nat.le_of_ble_eq_true rfl), hg 37 (Nat.le_of_ble_eq_true rfl), hg 38 (Nat.le_of_ble_eq_true rfl), hg 39 (Nat.le_of_ble_eq_true rfl), hg 40 (Nat.le_of_ble_eq_true rfl), hg 41 (Nat.le_of_ble_eq_true rfl), hg 42 (Nat.le_of_ble_eq_true rfl), hg 43 (Nat.le_of_ble_eq_true rfl)]
  refine w_putFs C hmn hw [.int 0, .ref (g15 30), .int 0, .ref (g15 31), .ref (g15 32), .ref (g15 33), .ref (g15 34), .ref (g15 35), .int 0, .int 0, .ref (g15 36), .ref (g15 37), .ref (g15 38), .ref (g15 39), .ref (g15 40), .ref (g15 41), .ref (g15 42), .ref (g15 43), .ref (g15 44), .null] (k := 29) (v := .ref (g15 44)) (ty := tyX10) (j := 18) (Nat.le_of_ble_eq_true rfl) hO rfl tyX10_ok nmX10 (by decide) k483 rfl rfl rfl rfl (Nat.le_of_ble_eq_true rfl) rfl (by rw [hq, hS.1 29 (Nat.le_refl _)]) dX10_init_122 fun H locs hw => ?_
  have hS := mkS_up hS (x := (.inr (11, [.int 0, .ref (g15 30), .int 0, .ref (g15 31), .ref (g15 32), .ref (g15 33), .ref (g15 34), .ref (g15 35), .int 0, .int 0, .ref (g15 36), .ref (g15 37), .ref (g15 38), .ref (g15 39), .ref (g15 40), .ref (g15 41), .ref (g15 42), .ref (g15 43), .ref (g15 44), .null])))
  have hO := va_up_self f15 29 ((.inr (11, [.int 0, .ref (g15 30), .int 0, .ref (g15 31), .ref (g15 32), .ref (g15 33), .ref (g15 34), .ref (g15 35), .int 0, .int 0, .ref (g15 36), .ref (g15 37), .ref (g15 38), .ref (g15 39), .ref (g15 40), .ref (g15 41), .ref (g15 42), .ref (g15 43), .ref (g15 44), .null])) : va_E)
  generalize va_up f15 29 (.inr (11, [.int 0, .ref (g15 30), .int 0, .ref (g15 31), .ref (g15 32), .ref (g15 33), .ref (g15 34), .ref (g15 35), .int 0, .int 0, .ref (g15 36), .ref (g15 37), .ref (g15 38), .ref (g15 39), .ref (g15 40), .ref (g15 41), .ref (g15 42), .ref (g15 43), .ref (g15 44), .null])) = fz15 at hS hO hw
  refine lv_aload_n hx hb dX10_init_125 rfl (lv_at hl 0 rfl) ?_
  refine lv_sipush (v := 16384) hx hb dX10_init_126 (by decide) ?_
  refine w_newa C hw (atype := .boolean) (ty := .boolean) (t := 1) (n := 16384) (N' := 16384) (a0 := (16384, .inl (fun _ => 0))) rfl (Or.inr (Or.inl rfl)) rfl (fun _ => rfl) (by decide) rfl (Nat.le_of_ble_eq_true rfl) (Nat.le_of_ble_eq_true rfl) (Nat.le_of_ble_eq_true rfl) dX10_init_129 fun q16 H hw => ?_
  obtain ⟨hS, hg, hq, hfk⟩ := mkS_arr2 (q := q16) hS (Nat.le_of_ble_eq_true rfl) (Nat.le_of_ble_eq_true rfl) (mkC_of rfl) (x := .inl (cy 1, 16384, .inl (fun _ => 0))) (fun _ => rfl)
  generalize va_up g15 45 q16 = g16 at hS hg hq hw
  generalize va_up fz15 45 (.inl (cy 1, 16384, .inl (fun _ => 0))) = f16 at hS hfk hw
  have hO : f16 29 = .inr (11, [.int 0, .ref (g16 30), .int 0, .ref (g16 31), .ref (g16 32), .ref (g16 33), .ref (g16 34), .ref (g16 35), .int 0, .int 0, .ref (g16 36), .ref (g16 37), .ref (g16 38), .ref (g16 39), .ref (g16 40), .ref (g16 41), .ref (g16 42), .ref (g16 43), .ref (g16 44), .null]) := by rw [hfk, hO, hg 30 (Nat.le_of_ble_eq_true rfl), hg 31 (Nat.le_of_ble_eq_true rfl), hg 32 (Nat.le_of_ble_eq_true rfl), hg 33 (Nat.le_of_ble_eq_true rfl), hg 34 (Nat.le_of_ble_eq_true rfl), hg 35 (Nat.le_of_ble_eq_true rfl), hg 36 (Nat.le_of_ble_eq_true rfl), hg 37 (Nat.le_of_ble_eq_true rfl), hg 38 (Nat.le_of_ble_eq_true rfl), hg 39 (Nat.le_of_ble_eq_true rfl), hg 40 (Nat.le_of_ble_eq_true rfl), hg 41 (Nat.le_of_ble_eq_true rfl), hg 42 (Nat.le_of_ble_eq_true rfl), hg 43 (Nat.le_of_ble_eq_true rfl), hg 44 (Nat.le_of_ble_eq_true rfl)]
  refine w_putFs C hmn hw [.int 0, .ref (g16 30), .int 0, .ref (g16 31), .ref (g16 32), .ref (g16 33), .ref (g16 34), .ref (g16 35), .int 0, .int 0, .ref (g16 36), .ref (g16 37), .ref (g16 38), .ref (g16 39), .ref (g16 40), .ref (g16 41), .ref (g16 42), .ref (g16 43), .ref (g16 44), .ref (g16 45)] (k := 29) (v := .ref (g16 45)) (ty := tyX10) (j := 19) (Nat.le_of_ble_eq_true rfl) hO rfl tyX10_ok nmX10 (by decide) k484 rfl rfl rfl rfl (Nat.le_of_ble_eq_true rfl) rfl (by rw [hq, hS.1 29 (Nat.le_refl _)]) dX10_init_131 fun H locs hw => ?_
  have hS := mkS_up hS (x := (.inr (11, [.int 0, .ref (g16 30), .int 0, .ref (g16 31), .ref (g16 32), .ref (g16 33), .ref (g16 34), .ref (g16 35), .int 0, .int 0, .ref (g16 36), .ref (g16 37), .ref (g16 38), .ref (g16 39), .ref (g16 40), .ref (g16 41), .ref (g16 42), .ref (g16 43), .ref (g16 44), .ref (g16 45)])))
  have hO := va_up_self f16 29 ((.inr (11, [.int 0, .ref (g16 30), .int 0, .ref (g16 31), .ref (g16 32), .ref (g16 33), .ref (g16 34), .ref (g16 35), .int 0, .int 0, .ref (g16 36), .ref (g16 37), .ref (g16 38), .ref (g16 39), .ref (g16 40), .ref (g16 41), .ref (g16 42), .ref (g16 43), .ref (g16 44), .ref (g16 45)])) : va_E)
  generalize va_up f16 29 (.inr (11, [.int 0, .ref (g16 30), .int 0, .ref (g16 31), .ref (g16 32), .ref (g16 33), .ref (g16 34), .ref (g16 35), .int 0, .int 0, .ref (g16 36), .ref (g16 37), .ref (g16 38), .ref (g16 39), .ref (g16 40), .ref (g16 41), .ref (g16 42), .ref (g16 43), .ref (g16 44), .ref (g16 45)])) = fz16 at hS hO hw
  exact hret 134 ls _ _ _ _ _ _ _ ⟨rfl, hS, hO⟩ hw (Nat.le_of_ble_eq_true rfl) (Nat.le_of_ble_eq_true rfl) dX10_init_134

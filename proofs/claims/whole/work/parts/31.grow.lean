/-! the list of the library: adding -/
section GRW
variable {p : Program} {l : Launch} {e : Env} {R : Room} {s : State} {m : MethodId} {args : Array Value} {below : List Frame} {meth : Method} {c : Code} {H : Heap} {locs : List Loc} {cells slots : Nat} {Q : State → Prop}
variable {cc : ByteArray} {nL : Nat} {own : String} {pc : Nat} {ls : Array Slot} {rest st0 : List Value} {D : va_G} {cy : Nat → Nat} {A : Nat → Prop} {g : Nat → Nat} {N : Nat} {f : Nat → va_E}
variable {y : MethodName} {bytes : ByteArray} {maxL : Nat} {ret : Option FieldType} {n index d dc mc ms : Nat} {host : String} {As : List Value} {k ci n0 : Nat} {fs : List Value} {T : u_T}
theorem w_vNr {post : (Nat → Nat) × Nat × (Nat → va_E) → Nat → Prop} (C : wCx p l s m args c meth cc nL own D cy A) (h : Wd D A s.heap g N f H locs) (b : wBV y bytes maxL ret n) (hl : Cond.methodLink own index y ∈ wAll) (hk : k < N) (hf : f k = .inr (ci, fs)) (hc : vwCl[ci]? = some (y.cls, T, n0)) (hM : cNr l D cy y bytes maxL ret dc mc ms (.ref (g k) :: As) g N f post) (hst : st0 = As.reverse ++ .ref (g k) :: rest) (hn : As.length = n) (hdg : decode cc pc = .ok (.invokevirtual index, 3)) (hR : R.frames = d ∧ R.locals = 40 * d) (hd : dc + 1 ≤ d) (hsz : ls.size = nL) (hW : (rest.map fun v => v.category).sum ≤ 8) (hfit : cells + mc ≤ R.cells ∧ slots + ms ≤ R.slots)
    (kk : ∀ (g1 : Nat → Nat) (N1 : Nat) (f1 : Nat → va_E) (ra : Nat) (H1 : Heap) (locs1 : List Loc), post (g1, N1, f1) ra → Wd D A s.heap g1 N1 f1 H1 locs1 → W p l e R s m args below meth c H1 locs1 (cells + mc) (slots + ms) Q (F0 m (pc + 3) ls (.ref ra :: rest))) : W p l e R s m args below meth c H locs cells slots Q (F0 m pc ls st0) := by
  have hsub := h.sub C.2.2.2.2.2.2.1
  refine va_callr (va_runV (As := As) (rest := rest) (b := g k) (C := y.cls) C.fix (hM H.size) ⟨w_cb C b.2.1 b.2.2.1 b.2.2.2.1 b.2.2.2.2.1 b.2.2.2.2.2 hl hR hd, C.w b.1.1, C.w b.1.2⟩ ⟨wPre_blind, w_recv C h hk hf hc, fun U hU hW => ⟨rfl, h.pre C hU hW⟩⟩ rfl hn hsz hst (lv_room hW) hdg hfit) h.2.2 (fun q _ hq => hsub q hq) hsub (fun u ra t H1 locs1 ht _ _ hB _ _ hS => ?_)
  obtain ⟨hp, hP1, hD1⟩ := hB
  rw [ht] at hP1
  exact kk u.1 u.2.1 u.2.2 ra H1 locs1 hp ⟨hP1, hD1.weaken (fun _ q _ hq => hsub q.1 hq), hS⟩
theorem w_sNr {post : (Nat → Nat) × Nat × (Nat → va_E) → Nat → Prop} (C : wCx p l s m args c meth cc nL own D cy A) (h : Wd D A s.heap g N f H locs) (b : wBS y bytes maxL ret n) (hl : Cond.methodLink own index y ∈ wAll) (hM : cNr l D cy y bytes maxL ret dc mc ms As g N f post) (hst : st0 = As.reverse ++ rest) (hn : As.length = n) (hdg : decode cc pc = .ok (.invokestatic index, 3)) (hR : R.frames = d ∧ R.locals = 40 * d) (hd : dc + 1 ≤ d) (hsz : ls.size = nL) (hW : (rest.map fun v => v.category).sum ≤ 8) (hfit : cells + mc ≤ R.cells ∧ slots + ms ≤ R.slots)
    (kk : ∀ (g1 : Nat → Nat) (N1 : Nat) (f1 : Nat → va_E) (ra : Nat) (H1 : Heap) (locs1 : List Loc), post (g1, N1, f1) ra → Wd D A s.heap g1 N1 f1 H1 locs1 → W p l e R s m args below meth c H1 locs1 (cells + mc) (slots + ms) Q (F0 m (pc + 3) ls (.ref ra :: rest))) : W p l e R s m args below meth c H locs cells slots Q (F0 m pc ls st0) := by
  have hsub := h.sub C.2.2.2.2.2.2.1
  refine va_callr (va_runS (As := As) (rest := rest) C.fix (hM H.size) ⟨w_cb C b.2.1 b.2.2.1 b.2.2.2.1 b.2.2.2.2.1 b.2.2.2.2.2 hl hR hd, C.w b.1⟩ ⟨wPre_blind, fun U hU hW => ⟨rfl, h.pre C hU hW⟩⟩ rfl hn hsz hst (lv_room hW) hdg hfit) h.2.2 (fun q _ hq => hsub q hq) hsub (fun u ra t H1 locs1 ht _ _ hB _ _ hS => ?_)
  obtain ⟨hp, hP1, hD1⟩ := hB
  rw [ht] at hP1
  exact kk u.1 u.2.1 u.2.2 ra H1 locs1 hp ⟨hP1, hD1.weaken (fun _ q _ hq => hsub q.1 hq), hS⟩
theorem w_vNv {post : (Nat → Nat) × Nat × (Nat → va_E) → Prop} (C : wCx p l s m args c meth cc nL own D cy A) (h : Wd D A s.heap g N f H locs) (b : wBV y bytes maxL ret n) (hl : Cond.methodLink own index y ∈ wAll) (hk : k < N) (hf : f k = .inr (ci, fs)) (hc : vwCl[ci]? = some (y.cls, T, n0)) (hM : cNv l D cy y bytes maxL ret dc mc ms (.ref (g k) :: As) g N f post) (hst : st0 = As.reverse ++ .ref (g k) :: rest) (hn : As.length = n) (hdg : decode cc pc = .ok (.invokevirtual index, 3)) (hR : R.frames = d ∧ R.locals = 40 * d) (hd : dc + 1 ≤ d) (hsz : ls.size = nL) (hW : (rest.map fun v => v.category).sum ≤ 8) (hfit : cells + mc ≤ R.cells ∧ slots + ms ≤ R.slots)
    (kk : ∀ (g1 : Nat → Nat) (N1 : Nat) (f1 : Nat → va_E) (H1 : Heap) (locs1 : List Loc), post (g1, N1, f1) → Wd D A s.heap g1 N1 f1 H1 locs1 → W p l e R s m args below meth c H1 locs1 (cells + mc) (slots + ms) Q (F0 m (pc + 3) ls rest)) : W p l e R s m args below meth c H locs cells slots Q (F0 m pc ls st0) := by
  have hsub := h.sub C.2.2.2.2.2.2.1
  refine va_callv (va_runV (As := As) (rest := rest) (b := g k) (C := y.cls) C.fix (hM H.size) ⟨w_cb C b.2.1 b.2.2.1 b.2.2.2.1 b.2.2.2.2.1 b.2.2.2.2.2 hl hR hd, C.w b.1.1, C.w b.1.2⟩ ⟨wPre_blind, w_recv C h hk hf hc, fun U hU hW => ⟨rfl, h.pre C hU hW⟩⟩ rfl hn hsz hst (lv_room hW) hdg hfit) h.2.2 (fun q _ hq => hsub q hq) hsub (fun u t H1 locs1 ht _ hp hB _ _ hS => ?_)
  obtain ⟨hP1, hD1⟩ := hB
  rw [ht] at hP1
  exact kk u.1 u.2.1 u.2.2 H1 locs1 hp ⟨hP1, hD1.weaken (fun _ q _ hq => hsub q.1 hq), hS⟩
theorem w_vNi {post : Int32 → (Nat → Nat) × Nat × (Nat → va_E) → Prop} (C : wCx p l s m args c meth cc nL own D cy A) (h : Wd D A s.heap g N f H locs) (b : wBV y bytes maxL ret n) (hl : Cond.methodLink own index y ∈ wAll) (hk : k < N) (hf : f k = .inr (ci, fs)) (hc : vwCl[ci]? = some (y.cls, T, n0)) (hM : cNi l D cy y bytes maxL ret dc mc ms (.ref (g k) :: As) g N f post) (hst : st0 = As.reverse ++ .ref (g k) :: rest) (hn : As.length = n) (hdg : decode cc pc = .ok (.invokevirtual index, 3)) (hR : R.frames = d ∧ R.locals = 40 * d) (hd : dc + 1 ≤ d) (hsz : ls.size = nL) (hW : (rest.map fun v => v.category).sum ≤ 8) (hfit : cells + mc ≤ R.cells ∧ slots + ms ≤ R.slots)
    (kk : ∀ (r : Int32) (g1 : Nat → Nat) (N1 : Nat) (f1 : Nat → va_E) (H1 : Heap) (locs1 : List Loc), post r (g1, N1, f1) → Wd D A s.heap g1 N1 f1 H1 locs1 → W p l e R s m args below meth c H1 locs1 (cells + mc) (slots + ms) Q (F0 m (pc + 3) ls (.int r :: rest))) : W p l e R s m args below meth c H locs cells slots Q (F0 m pc ls st0) := by
  have hsub := h.sub C.2.2.2.2.2.2.1
  refine va_calli (va_runV (As := As) (rest := rest) (b := g k) (C := y.cls) C.fix (hM H.size) ⟨w_cb C b.2.1 b.2.2.1 b.2.2.2.1 b.2.2.2.2.1 b.2.2.2.2.2 hl hR hd, C.w b.1.1, C.w b.1.2⟩ ⟨wPre_blind, w_recv C h hk hf hc, fun U hU hW => ⟨rfl, h.pre C hU hW⟩⟩ rfl hn hsz hst (lv_room hW) hdg hfit) h.2.2 (fun q _ hq => hsub q hq) hsub (fun r u t H1 locs1 ht _ hp hB _ _ hS => ?_)
  obtain ⟨hP1, hD1⟩ := hB
  rw [ht] at hP1
  exact kk r u.1 u.2.1 u.2.2 H1 locs1 hp ⟨hP1, hD1.weaken (fun _ q _ hq => hsub q.1 hq), hS⟩
abbrev objs (cy : Nat → Nat) (L : Nat) (F : Nat → Option Nat) : va_E := .inl (cy 2, L, .inr (.inr (.inr (.inr F))))
/-- an array's length -/
theorem w_qlen (C : wCx p l s m args c meth cc nL own D cy A) (h : Wd D A s.heap g N f H locs) {k L : Nat} {F : Nat → Option Nat} {v : Int32} (hk : k < N) (hf : f k = objs cy L F) (hv : Int32.ofNat L = v) (hst : st0 = .ref (g k) :: rest) (hdg : decode cc pc = .ok (.arraylength, 1))
    (kk : W p l e R s m args below meth c H locs cells slots Q (F0 m (pc + 1) ls (.int v :: rest))) : W p l e R s m args below meth c H locs cells slots Q (F0 m pc ls st0) := by
  subst hst
  exact va_alen C.1 C.2.1 C.2.2.2.2.2.1.1 h.1 k 2 (x := (L, .inr (.inr (.inr (.inr F))))) (by rw [wd_get hk, hf]) rfl hv hdg kk
/-- a rule put into an array -/
theorem w_qast (C : wCx p l s m args c meth cc nL own D cy A) (h : Wd D A s.heap g N f H locs) {k t L : Nat} {F : Nat → Option Nat} {vs : List Value} {i : Int32} (hk : k < N) (hf : f k = objs cy L F) (ht : t < N) (hft : f t = .inr (5, vs)) (hin : vp_in i L) (hst : st0 = .ref (g t) :: .int i :: .ref (g k) :: rest) (hdg : decode cc pc = .ok (.aastore, 1))
    (kk : ∀ (H1 : Heap) (locs1 : List Loc), Wd D A s.heap g N (va_up f k (objs cy L (va_up F i.toNatClampNeg (some (g t))))) H1 locs1 → W p l e R s m args below meth c H1 locs1 cells slots Q (F0 m (pc + 1) ls rest)) : W p l e R s m args below meth c H locs cells slots Q (F0 m pc ls st0) := by
  subst hst
  exact va_astqO C.1 C.2.1 C.2.2.2.2.2.1.1 h.1 h.2.1 h.2.2 k 2 t 5 (E := "java/lang/Object") (by rw [wd_get hk, hf]) rfl C.2.2.2.2.2.1.j.2.1 (by rw [wd_get ht, hft]) rfl hin hdg fun H1 locs1 h1 h2 h3 => kk H1 locs1 (Wd.upd h1 h2 h3)
theorem w_qcpy (C : wCx p l s m args c meth cc nL own D cy A) (h : Wd D A s.heap g N f H locs) {k0 k1 n0 n1 : Nat} {F G : Nat → Option Nat} {sp dp z : Int32} (hml : ls.size = nL) (hl : Cond.methodLink own index arraycopyName ∈ wAll) (hk0 : k0 < N) (hf0 : f k0 = objs cy n0 F) (hk1 : k1 < N) (hf1 : f k1 = objs cy n1 G) (h1 : ¬ sp < 0) (h2 : ¬ dp < 0) (h3 : ¬ z < 0) (h4 : sp.toNatClampNeg + z.toNatClampNeg ≤ n0) (h5 : dp.toNatClampNeg + z.toNatClampNeg ≤ n1) (hel : ∀ (i t9 : Nat), F i = some t9 → ∃ (t : Nat) (vs : List Value), t < N ∧ t9 = g t ∧ f t = .inr (5, vs)) (hframes : 1 ≤ R.frames) (hlocals : (rest.map fun v => v.category).sum + 31 ≤ R.locals) (hst : st0 = .int z :: .int dp :: .ref (g k1) :: .int sp :: .ref (g k0) :: rest) (hdg : decode cc pc = .ok (.invokestatic index, 3))
    (kk : ∀ (H1 : Heap) (locs1 : List Loc), Wd D A s.heap g N (va_up f k1 (objs cy n1 (va_cpy F G sp.toNatClampNeg dp.toNatClampNeg z.toNatClampNeg))) H1 locs1 → W p l e R s m args below meth c H1 locs1 cells slots Q (F0 m (pc + 3) ls rest)) : W p l e R s m args below meth c H locs cells slots Q (F0 m pc ls st0) := by
  subst hst
  have hnw : nativeFrameWords "java/lang/System" "arraycopy" 5 ≤ 20 := by decide
  exact va_copyq C.1 C.2.1 (by rw [C.2.2.1]; exact hml.symm) C.2.2.2.1 (C.w hl) (C.w k196) (C.w k197) (C.w k198) C.2.2.2.2.2.1.1 h.1 h.2.1 h.2.2 k0 k1 2 2 (C := RX4) (E1 := "java/lang/Object") (by rw [wd_get hk0, hf0]) (by rw [wd_get hk1, hf1]) rfl rfl h1 h2 h3 h4 h5 (fun i _ t9 ht9 => by
    obtain ⟨t, vs, q1, q2, q3⟩ := hel _ _ ht9
    rw [q2]
    exact w_recv C h q1 q3 rfl) (fun comp c0 e1 e2 => by
    obtain ⟨c1, t1, f1, f2, f3⟩ := Cond.castable_spec (va_Nw.use (A := #[]) rfl C.2.2.2.2.2.1.j.2.1)
    cases f1.symm.trans e2
    cases f2.symm.trans e1
    exact f3) hframes (by omega) hdg fun H1 locs1 h1 h2 h3 => kk H1 locs1 (Wd.upd h1 h2 h3)
end GRW
theorem c_J8 {l : Launch} {D : va_G} {cy : Nat → Nat} {g : Nat → Nat} {N : Nat} {f : Nat → va_E} {za zb zc : Int32} (hfl : l.stackTraces = false) (h1 : ¬ (za + (if zb < zc then zc else zb)) ≤ 0) (h2 : ¬ 2147483639 < za + (if zb < zc then zc else zb)) : cRi l D cy yJ8_newLength_cabcc cJ8_newLength_cabcc 4 (some .int) 1 [.int za, .int zb, .int zc] g N f (fun r => r = za + (if zb < zc then zc else zb)) := by
  refine iRi (own := RJ8) (by decide) rfl hfl (Nat.le_of_ble_eq_true rfl) ?_
  intro p e s m below meth c ls C hr hw hl
  have hx := C.1
  have hb := C.2.1
  have hl : lv_has ls 4 [(0, .int za), (1, .int zb), (2, .int zc)] := hl
  refine lv_iload_n hx hb dJ8_newLength_cabcc_0 rfl (lv_at hl 0 rfl) ?_
  refine lv_iload_n hx hb dJ8_newLength_cabcc_1 rfl (lv_at hl 1 rfl) ?_
  refine lv_iload_n hx hb dJ8_newLength_cabcc_2 rfl (lv_at hl 2 rfl) ?_
  refine va_mmax hx hb (by rw [C.2.2.1]; exact hl.1.symm) C.2.2.2.1 (C.w k185) (C.w k61) (C.w k62) (C.w k63) (Nat.le_of_ble_eq_true rfl) (Nat.le_of_ble_eq_true rfl) (Nat.le_of_ble_eq_true rfl) (Nat.le_of_ble_eq_true rfl) dJ8_newLength_cabcc_3 ?_
  refine lv_iadd hx hb dJ8_newLength_cabcc_6 ?_
  generalize za + (if zb < zc then zc else zb) = zr at *
  refine lv_istore_n (lv' := [(3, .int zr), (0, .int za), (1, .int zb), (2, .int zc)]) hx hb dJ8_newLength_cabcc_7 rfl hl (by decide) rfl (fun ls hl => ?_)
  refine lv_iconst (v := 0) hx hb dJ8_newLength_cabcc_8 (by decide) ?_
  refine lv_iload_n hx hb dJ8_newLength_cabcc_9 rfl (lv_at hl 0 rfl) ?_
  refine lv_icmp_ge (tgt := 21) hx hb dJ8_newLength_cabcc_10 (by decide) (fun cz => absurd cz h1) (fun _ => ?_)
  refine lv_iload_n hx hb dJ8_newLength_cabcc_13 rfl (lv_at hl 0 rfl) ?_
  refine lv_ldc hx hb C.2.2.2.1 (C.w k183) dJ8_newLength_cabcc_14 ?_
  refine lv_icmp_gt (tgt := 21) hx hb dJ8_newLength_cabcc_16 (by decide) (fun cz => absurd cz h2) (fun _ => ?_)
  refine lv_iload_n hx hb dJ8_newLength_cabcc_19 rfl (lv_at hl 0 rfl) ?_
  exact eRi C hr rfl dJ8_newLength_cabcc_20
theorem c_J7b {l : Launch} {D : va_G} {cy : Nat → Nat} {g : Nat → Nat} {N : Nat} {f : Nat → va_E} {F : Nat → Option Nat} (hfl : l.stackTraces = false) (h48 : 48 < N) (hf : f 48 = objs cy 10 F) (hel : ∀ (i t9 : Nat), F i = some t9 → ∃ (t : Nat) (vs : List Value), t < N ∧ t9 = g t ∧ f t = .inr (5, vs)) : cNr l D cy yJ7_copyOf_6403c cJ7_copyOf_6403c 4 (some (.array (.object "java/lang/Object"))) 1 1 15 [.ref (g 48), .int 15, .ref (cy 8)] g N f (fun u a => u = (va_up g N a, N + 1, va_up f N (objs cy 15 (va_cpy F (fun _ => none) 0 0 10)))) := by
  refine iNr (own := RJ7) (by decide) rfl hfl (Nat.le_of_ble_eq_true rfl) ?_
  intro p e s m below meth c ls C hr hw hl
  have hx := C.1
  have hb := C.2.1
  have hl : lv_has ls 4 [(0, .ref (g 48)), (1, .int 15), (2, .ref (cy 8))] := hl
  refine lv_aload_n hx hb dJ7_copyOf_6403c_0 rfl (lv_at hl 2 rfl) ?_
  refine va_ldcM hx hb C.2.2.2.1 (C.w k190) C.2.2.2.2.2.1.mi dJ7_copyOf_6403c_1 ?_
  refine lv_acmp_ne (rx := some (cy 8)) (ry := some (cy 8)) (tgt := 13) hx hb dJ7_copyOf_6403c_3 (by decide) (fun cz => absurd rfl cz) (fun _ => ?_)
  refine lv_iload_n hx hb dJ7_copyOf_6403c_6 rfl (lv_at hl 1 rfl) ?_
  refine w_newq C hw k191 (N' := 15) (by decide) rfl (by decide) (Nat.le_of_ble_eq_true rfl) (Nat.le_of_ble_eq_true rfl) dJ7_copyOf_6403c_7 fun q H hw => ?_
  refine lv_goto (tgt := 24) hx hb dJ7_copyOf_6403c_10 (by decide) ?_
  refine lv_astore_n (lv' := [(3, .ref q), (0, .ref (g 48)), (1, .int 15), (2, .ref (cy 8))]) hx hb dJ7_copyOf_6403c_24 rfl hl (by decide) rfl (fun ls hl => ?_)
  have hg : va_up g N q 48 = g 48 := va_up_ne _ _ (by omega)
  have hq : va_up g N q N = q := va_up_self _ _ _
  refine lv_aload_n hx hb dJ7_copyOf_6403c_25 rfl (lv_at hl 1 rfl) ?_
  refine lv_iconst (v := 0) hx hb dJ7_copyOf_6403c_26 (by decide) ?_
  refine lv_aload_n hx hb dJ7_copyOf_6403c_27 rfl (lv_at hl 0 rfl) ?_
  refine lv_iconst (v := 0) hx hb dJ7_copyOf_6403c_28 (by decide) ?_
  refine lv_aload_n hx hb dJ7_copyOf_6403c_29 rfl (lv_at hl 1 rfl) ?_
  refine w_qlen C hw (k := 48) (L := 10) (F := F) (v := 10) (by omega) (by rw [va_up_ne _ _ (by omega), hf]) rfl (by rw [hg]) dJ7_copyOf_6403c_30 ?_
  refine lv_iload_n hx hb dJ7_copyOf_6403c_31 rfl (lv_at hl 2 rfl) ?_
  refine va_mmin hx hb (by rw [C.2.2.1]; exact hl.1.symm) C.2.2.2.1 (C.w k192) (C.w k193) (C.w k62) (C.w k194) (Nat.le_of_ble_eq_true rfl) (Nat.le_of_ble_eq_true rfl) (Nat.le_of_ble_eq_true rfl) (Nat.le_of_ble_eq_true rfl) dJ7_copyOf_6403c_32 ?_
  have hmin : (if (15 : Int32) < 10 then (15 : Int32) else 10) = 10 := by decide
  rw [hmin]
  refine w_qcpy C hw (k0 := 48) (k1 := N) (n0 := 10) (n1 := 15) (F := F) (G := fun _ => none) (sp := 0) (dp := 0) (z := 10) (rest := []) hl.1 k195 (by omega) (by rw [va_up_ne _ _ (by omega), hf]) (by omega) (va_up_self _ _ _) (by decide) (by decide) (by decide) (by decide) (by decide) (fun i t9 h9 => ?_) (Nat.le_of_ble_eq_true rfl) (Nat.le_of_ble_eq_true rfl) (by rw [hg, hq]) dJ7_copyOf_6403c_35 fun H locs hw => ?_
  · obtain ⟨t, vs, q1, q2, q3⟩ := hel i t9 h9
    exact ⟨t, vs, by omega, by rw [va_up_ne _ _ (by omega)]; exact q2, by rw [va_up_ne _ _ (by omega)]; exact q3⟩
  · rw [va_up_up] at hw
    refine lv_aload_n hx hb dJ7_copyOf_6403c_38 rfl (lv_at hl 0 rfl) ?_
    exact eNr C hw hr rfl (Nat.le_of_ble_eq_true rfl) (Nat.le_of_ble_eq_true rfl) dJ7_copyOf_6403c_39
theorem c_J7a {l : Launch} {D : va_G} {cy : Nat → Nat} {g : Nat → Nat} {N : Nat} {f : Nat → va_E} {F : Nat → Option Nat} (hfl : l.stackTraces = false) (h48 : 48 < N) (hf : f 48 = objs cy 10 F) (hel : ∀ (i t9 : Nat), F i = some t9 → ∃ (t : Nat) (vs : List Value), t < N ∧ t9 = g t ∧ f t = .inr (5, vs)) : cNr l D cy yJ7_copyOf_1904c cJ7_copyOf_1904c 2 (some (.array (.object "java/lang/Object"))) 2 1 15 [.ref (g 48), .int 15] g N f (fun u a => u = (va_up g N a, N + 1, va_up f N (objs cy 15 (va_cpy F (fun _ => none) 0 0 10)))) := by
  refine iNr (own := RJ7) (by decide) rfl hfl (Nat.le_of_ble_eq_true rfl) ?_
  intro p e s m below meth c ls C hr hw hl
  have hx := C.1
  have hb := C.2.1
  have hl : lv_has ls 2 [(0, .ref (g 48)), (1, .int 15)] := hl
  refine lv_aload_n hx hb dJ7_copyOf_1904c_0 rfl (lv_at hl 0 rfl) ?_
  refine lv_iload_n hx hb dJ7_copyOf_1904c_1 rfl (lv_at hl 1 rfl) ?_
  refine lv_aload_n hx hb dJ7_copyOf_1904c_2 rfl (lv_at hl 0 rfl) ?_
  have hcell : s.heap[g 48]? = some (vp_cell (cy 2) (10, .inr (.inr (.inr (.inr F))))) := by
    have h9 := hw.1 48 (g 48, f 48) (wd_get h48)
    rw [hf] at h9
    exact h9
  refine va_getC hx hb (by rw [C.2.2.1]; exact hl.1.symm) C.2.2.2.1 (C.w k200) (va_Dc.use C.2.2.2.2.2.1.j.2.2.1) (C.w k201) (C.w k202) (C.w k203) C.2.2.2.2.2.1.mi ⟨_, hcell, rfl, va_RA.nm (C.2.2.2.2.2.1.1.2 2 _ rfl).2⟩ (Nat.le_of_ble_eq_true rfl) (Nat.le_of_ble_eq_true rfl) dJ7_copyOf_1904c_3 ?_
  refine w_sNr C hw (As := [.ref (g 48), .int 15, .ref (cy 8)]) bJ7_copyOf_6403c k204 (c_J7b hfl h48 hf hel) rfl rfl dJ7_copyOf_1904c_6 ⟨rfl, rfl⟩ (by decide) hl.1 (Nat.le_of_ble_eq_true rfl) ⟨Nat.le_of_ble_eq_true rfl, Nat.le_of_ble_eq_true rfl⟩ fun g1 N1 f1 ra H locs hp hw => ?_
  exact eNr C hw hr hp (Nat.le_of_ble_eq_true rfl) (Nat.le_of_ble_eq_true rfl) dJ7_copyOf_1904c_9
/-- what growing leaves: a new array of L cells with G, held by the list -/
def grP (cy g : Nat → Nat) (N : Nat) (f : Nat → va_E) (zm zn : Int32) (L : Nat) (G : Nat → Option Nat) (u : (Nat → Nat) × Nat × (Nat → va_E)) (a : Nat) : Prop := u = (va_up g N a, N + 1, va_up (va_up f N (objs cy L G)) 4 (.inr (0, [.int zm, .ref a, .int zn])))
set_option maxHeartbeats 4000000 in
theorem c_grow_a {l : Launch} {D : va_G} {cy : Nat → Nat} {g : Nat → Nat} {N : Nat} {f : Nat → va_E} {zm zn : Int32} (hfl : l.stackTraces = false) (hN : 4 < N) (h4 : f 4 = .inr (0, [.int zm, .ref (cy 9), .int zn])) : cNr l D cy yJx4a65c_grow_92f84 cJx4a65c_grow_92f84 4 (some (.array (.object "java/lang/Object"))) 3 1 15 [.ref (g 4), .int 1] g N f (grP cy g N f zm zn 10 (fun _ => none)) := by
  refine iNr (own := RJx4a65c) (by decide) rfl hfl (Nat.le_of_ble_eq_true rfl) ?_
  intro p e s m below meth c ls C hr hw hl
  have hx := C.1
  have hb := C.2.1
  have hl : lv_has ls 4 [(0, .ref (g 4)), (1, .int 1)] := hl
  refine lv_aload_n hx hb dJx4a65c_grow_92f84_0 rfl (lv_at hl 0 rfl) ?_
  refine w_get C hw (k := 4) (v := .ref (cy 9)) (j := 1) hN h4 rfl (by decide) k43 rfl dJx4a65c_grow_92f84_1 ?_
  refine va_tlen hx hb C.2.2.2.2.2.1.t hw.2.2 (v := 0) rfl dJx4a65c_grow_92f84_4 ?_
  refine lv_istore_n (lv' := [(2, .int 0), (0, .ref (g 4)), (1, .int 1)]) hx hb dJx4a65c_grow_92f84_5 rfl hl (by decide) rfl (fun ls hl => ?_)
  refine lv_iload_n hx hb dJx4a65c_grow_92f84_6 rfl (lv_at hl 0 rfl) ?_
  refine lv_if_gt (tgt := 20) hx hb dJx4a65c_grow_92f84_7 (by decide) (fun cz => absurd cz (by decide)) (fun _ => ?_)
  refine lv_aload_n hx hb dJx4a65c_grow_92f84_10 rfl (lv_at hl 1 rfl) ?_
  refine w_get C hw (k := 4) (v := .ref (cy 9)) (j := 1) hN h4 rfl (by decide) k43 rfl dJx4a65c_grow_92f84_11 ?_
  refine va_gets hx hb C.2.2.2.2.2.1.z hw.2.2 C.2.2.2.1 (C.w k167) (fun _ h => h) dJx4a65c_grow_92f84_14 ?_
  refine lv_acmp_eq (rx := some (cy 9)) (ry := some (cy 9)) (tgt := 45) hx hb dJx4a65c_grow_92f84_17 (by decide) (fun _ => ?_) (fun cz => absurd rfl cz)
  refine lv_aload_n hx hb dJx4a65c_grow_92f84_45 rfl (lv_at hl 1 rfl) ?_
  refine lv_bipush (v := 10) hx hb dJx4a65c_grow_92f84_46 (by decide) ?_
  refine lv_iload_n hx hb dJx4a65c_grow_92f84_48 rfl (lv_at hl 2 rfl) ?_
  refine va_mmax hx hb (by rw [C.2.2.1]; exact hl.1.symm) C.2.2.2.1 (C.w k207) (C.w k61) (C.w k62) (C.w k63) (Nat.le_of_ble_eq_true rfl) (Nat.le_of_ble_eq_true rfl) (Nat.le_of_ble_eq_true rfl) (Nat.le_of_ble_eq_true rfl) dJx4a65c_grow_92f84_49 ?_
  have hmax : (if (10 : Int32) < 1 then (1 : Int32) else 10) = 10 := by decide
  rw [hmax]
  refine w_newq C hw k208 (N' := 10) (by decide) rfl (by decide) (Nat.le_of_ble_eq_true rfl) (Nat.le_of_ble_eq_true rfl) dJx4a65c_grow_92f84_52 fun q H hw => ?_
  refine lv_dup_x1 hx hb dJx4a65c_grow_92f84_55 rfl rfl ?_
  refine w_puts C hw [.int zm, .ref q, .int zn] (k := 4) (v := .ref q) (ty := tyJx4a65c) (j := 1) (by omega) (by rw [va_up_ne _ _ (by omega)]; exact h4) rfl tyJx4a65c_ok nmJx4a65c (by decide) k43 rfl rfl rfl (Nat.le_of_ble_eq_true rfl) rfl (by rw [va_up_ne _ _ (by omega)]) dJx4a65c_grow_92f84_56 fun H locs hw => ?_
  exact eNr C hw hr rfl (Nat.le_of_ble_eq_true rfl) (Nat.le_of_ble_eq_true rfl) dJx4a65c_grow_92f84_59
set_option maxHeartbeats 4000000 in
theorem c_grow_b {l : Launch} {D : va_G} {cy : Nat → Nat} {g : Nat → Nat} {N : Nat} {f : Nat → va_E} {zm zn : Int32} {F : Nat → Option Nat} (hfl : l.stackTraces = false) (h48 : 48 < N) (hf : f 48 = objs cy 10 F) (hel : ∀ (i t9 : Nat), F i = some t9 → ∃ (t : Nat) (vs : List Value), t < N ∧ t9 = g t ∧ f t = .inr (5, vs)) (h4 : f 4 = .inr (0, [.int zm, .ref (g 48), .int zn])) : cNr l D cy yJx4a65c_grow_92f84 cJx4a65c_grow_92f84 4 (some (.array (.object "java/lang/Object"))) 3 1 15 [.ref (g 4), .int 11] g N f (grP cy g N f zm zn 15 (va_cpy F (fun _ => none) 0 0 10)) := by
  refine iNr (own := RJx4a65c) (by decide) rfl hfl (Nat.le_of_ble_eq_true rfl) ?_
  intro p e s m below meth c ls C hr hw hl
  have hx := C.1
  have hb := C.2.1
  have hN : 4 < N := by omega
  have hl : lv_has ls 4 [(0, .ref (g 4)), (1, .int 11)] := hl
  refine lv_aload_n hx hb dJx4a65c_grow_92f84_0 rfl (lv_at hl 0 rfl) ?_
  refine w_get C hw (k := 4) (v := .ref (g 48)) (j := 1) hN h4 rfl (by decide) k43 rfl dJx4a65c_grow_92f84_1 ?_
  refine w_qlen C hw (k := 48) (L := 10) (F := F) (v := 10) h48 hf rfl rfl dJx4a65c_grow_92f84_4 ?_
  refine lv_istore_n (lv' := [(2, .int 10), (0, .ref (g 4)), (1, .int 11)]) hx hb dJx4a65c_grow_92f84_5 rfl hl (by decide) rfl (fun ls hl => ?_)
  refine lv_iload_n hx hb dJx4a65c_grow_92f84_6 rfl (lv_at hl 0 rfl) ?_
  refine lv_if_gt (tgt := 20) hx hb dJx4a65c_grow_92f84_7 (by decide) (fun _ => ?_) (fun cz => absurd (by decide) cz)
  refine lv_iload_n hx hb dJx4a65c_grow_92f84_20 rfl (lv_at hl 0 rfl) ?_
  refine lv_iload_n hx hb dJx4a65c_grow_92f84_21 rfl (lv_at hl 2 rfl) ?_
  refine lv_iload_n hx hb dJx4a65c_grow_92f84_22 rfl (lv_at hl 0 rfl) ?_
  refine lv_isub hx hb dJx4a65c_grow_92f84_23 ?_
  refine lv_iload_n hx hb dJx4a65c_grow_92f84_24 rfl (lv_at hl 0 rfl) ?_
  refine lv_iconst (v := 1) hx hb dJx4a65c_grow_92f84_25 (by decide) ?_
  refine lv_ishr hx hb dJx4a65c_grow_92f84_26 ?_
  have e15 : (10 : Int32) + (if (11 - 10 : Int32) < ((10 : Int32) >>> (1 &&& 31)) then ((10 : Int32) >>> (1 &&& 31)) else (11 - 10)) = 15 := by decide
  refine w_sRi C hw (As := [.int 10, .int (11 - 10), .int ((10 : Int32) >>> (1 &&& 31))]) bJ8_newLength_cabcc k209 (c_J8 hfl (by rw [e15]; decide) (by rw [e15]; decide)) rfl rfl dJx4a65c_grow_92f84_27 ⟨rfl, rfl⟩ (by decide) hl.1 (Nat.le_of_ble_eq_true rfl) ⟨Nat.le_of_ble_eq_true rfl, Nat.le_of_ble_eq_true rfl⟩ fun r hrr => ?_
  rw [e15] at hrr
  rw [hrr]
  refine lv_istore_n (lv' := [(3, .int 15), (2, .int 10), (0, .ref (g 4)), (1, .int 11)]) hx hb dJx4a65c_grow_92f84_30 rfl hl (by decide) rfl (fun ls hl => ?_)
  refine lv_aload_n hx hb dJx4a65c_grow_92f84_31 rfl (lv_at hl 2 rfl) ?_
  refine lv_aload_n hx hb dJx4a65c_grow_92f84_32 rfl (lv_at hl 2 rfl) ?_
  refine w_get C hw (k := 4) (v := .ref (g 48)) (j := 1) hN h4 rfl (by decide) k43 rfl dJx4a65c_grow_92f84_33 ?_
  refine lv_iload_n hx hb dJx4a65c_grow_92f84_36 rfl (lv_at hl 0 rfl) ?_
  refine w_sNr C hw (As := [.ref (g 48), .int 15]) bJ7_copyOf_1904c k211 (c_J7a hfl h48 hf hel) rfl rfl dJx4a65c_grow_92f84_37 ⟨rfl, rfl⟩ (by decide) hl.1 (Nat.le_of_ble_eq_true rfl) ⟨Nat.le_of_ble_eq_true rfl, Nat.le_of_ble_eq_true rfl⟩ fun g1 N1 f1 q H locs hp hw => ?_
  cases hp
  refine lv_dup_x1 hx hb dJx4a65c_grow_92f84_40 rfl rfl ?_
  refine w_puts C hw [.int zm, .ref q, .int zn] (k := 4) (v := .ref q) (ty := tyJx4a65c) (j := 1) (by omega) (by rw [va_up_ne _ _ (by omega)]; exact h4) rfl tyJx4a65c_ok nmJx4a65c (by decide) k43 rfl rfl rfl (Nat.le_of_ble_eq_true rfl) rfl (by rw [va_up_ne _ _ (by omega)]) dJx4a65c_grow_92f84_41 fun H locs hw => ?_
  exact eNr C hw hr rfl (Nat.le_of_ble_eq_true rfl) (Nat.le_of_ble_eq_true rfl) dJx4a65c_grow_92f84_44
theorem c_grow0 {l : Launch} {D : va_G} {cy : Nat → Nat} {g : Nat → Nat} {N : Nat} {f : Nat → va_E} {zm zn zk : Int32} {el L : Nat} {G : Nat → Option Nat} (hfl : l.stackTraces = false) (hN : 4 < N) (h4 : f 4 = .inr (0, [.int zm, .ref el, .int zn])) (hk : zn + 1 = zk) (hM : cNr l D cy yJx4a65c_grow_92f84 cJx4a65c_grow_92f84 4 (some (.array (.object "java/lang/Object"))) 3 1 15 [.ref (g 4), .int zk] g N f (grP cy g N f zm zn L G)) : cNr l D cy yJx4a65c_grow_d5877 cJx4a65c_grow_d5877 1 (some (.array (.object "java/lang/Object"))) 4 1 15 [.ref (g 4)] g N f (grP cy g N f zm zn L G) := by
  refine iNr (own := RJx4a65c) (by decide) rfl hfl (Nat.le_of_ble_eq_true rfl) ?_
  intro p e s m below meth c ls C hr hw hl
  have hx := C.1
  have hb := C.2.1
  have hl : lv_has ls 1 [(0, .ref (g 4))] := hl
  refine lv_aload_n hx hb dJx4a65c_grow_d5877_0 rfl (lv_at hl 0 rfl) ?_
  refine lv_aload_n hx hb dJx4a65c_grow_d5877_1 rfl (lv_at hl 0 rfl) ?_
  refine w_get C hw (k := 4) (v := .int zn) (j := 2) hN h4 rfl (by decide) k30 rfl dJx4a65c_grow_d5877_2 ?_
  refine lv_iconst (v := 1) hx hb dJx4a65c_grow_d5877_5 (by decide) ?_
  refine lv_iadd hx hb dJx4a65c_grow_d5877_6 ?_
  rw [hk]
  refine w_vNr C hw (As := [.int zk]) bJx4a65c_grow_92f84 k214 (k := 4) hN h4 rfl hM rfl rfl dJx4a65c_grow_d5877_7 ⟨rfl, rfl⟩ (by decide) hl.1 (Nat.le_of_ble_eq_true rfl) ⟨Nat.le_of_ble_eq_true rfl, Nat.le_of_ble_eq_true rfl⟩ fun g1 N1 f1 ra H locs hp hw => ?_
  exact eNr C hw hr hp (Nat.le_of_ble_eq_true rfl) (Nat.le_of_ble_eq_true rfl) dJx4a65c_grow_d5877_10

section WR
variable {p : Program} {l : Launch} {e : Env} {R : Room} {s : State} {m : MethodId} {args : Array Value} {below : List Frame} {meth : Method} {c : Code} {H : Heap} {locs : List Loc} {cells slots : Nat} {Q : State → Prop}
variable {cc : ByteArray} {nL : Nat} {own : String} {pc : Nat} {ls : Array Slot} {rest : List Value} {D : va_G} {cy : Nat → Nat} {A : Nat → Prop} {g : Nat → Nat} {N : Nat} {f : Nat → va_E}
theorem wCx.lay {C0 : String} {T : u_T} {n ci : Nat} (C : wCx p l s m args c meth cc nL own D cy A) (hc : vwCl[ci]? = some (C0, T, n)) : ∀ w ∈ u_ws C0 T n, w.before args s = true := fun w hw =>
  C.2.2.2.2.1 w (List.mem_append_right _ (List.mem_append_left _ (List.mem_flatMap.mpr ⟨_, List.mem_of_getElem? hc, hw⟩)))
theorem wCx.w (C : wCx p l s m args c meth cc nL own D cy A) {w : Cond} (h : w ∈ wAll) : w.before args s = true := C.2.2.2.2.1 w (List.mem_append_left _ h)
theorem wCx.nw (C : wCx p l s m args c meth cc nL own D cy A) {w : Cond} (h : w ∈ wAll) : w.before #[] s = true := C.2.2.2.2.2.1.2.1 w (List.mem_append_left _ h)
/-- a field read -/
theorem w_get (C : wCx p l s m args c meth cc nL own D cy A) (h : Wd D A s.heap g N f H locs) {ci k j n index : Nat} {fs : List Value} {v : Value} {C0 : String} {T : u_T} (hk : k < N) (hf : f k = .inr (ci, fs)) (hc : vwCl[ci]? = some (C0, T, n)) (hj : j < n) (hlink : (Cond.fieldLink own index (T j).1 (T j).2.1 (T j).2.2.1) ∈ wAll) (hv : fs[j]? = some v) (hdg : decode cc pc = .ok (.getfield index, 3))
    (kk : W p l e R s m args below meth c H locs cells slots Q (F0 m (pc + 3) ls (v :: rest))) : W p l e R s m args below meth c H locs cells slots Q (F0 m pc ls (.ref (g k) :: rest)) :=
  va_get (D := D) (ci := ci) (C := C0) (T := T) (N := n) C.1 C.2.1 (C.lay hc) (fun _ h => h) C.2.2.2.1 C.2.2.2.2.2.1.1 h.1 k (by rw [wd_get hk, hf]) hc j hj (C.w hlink) (fun _ h => h) hv hdg kk
theorem w_getN (C : wCx p l s m args c meth cc nL own D cy A) (h : Wd D A s.heap g N f H locs) {ci k j n index : Nat} {fs : List Value} {v : Value} {C0 host : String} {T : u_T} (hk : k < N) (hf : f k = .inr (ci, fs)) (hc : vwCl[ci]? = some (C0, T, n)) (hj : j < n) (hlink : (Cond.fieldLinkNest own index (T j).1 (T j).2.1 (T j).2.2.1 host) ∈ wAll) (hv : fs[j]? = some v) (hdg : decode cc pc = .ok (.getfield index, 3))
    (kk : W p l e R s m args below meth c H locs cells slots Q (F0 m (pc + 3) ls (v :: rest))) : W p l e R s m args below meth c H locs cells slots Q (F0 m pc ls (.ref (g k) :: rest)) :=
  va_getN (D := D) (ci := ci) (C := C0) (T := T) (N := n) C.1 C.2.1 (C.lay hc) (fun _ h => h) C.2.2.2.1 C.2.2.2.2.2.1.1 h.1 k (by rw [wd_get hk, hf]) hc j hj (C.w hlink) (fun _ h => h) hv hdg kk
theorem Wd.upd {H1 : Heap} {locs1 : List Loc} {k : Nat} {e : va_E} {H0 : Heap} (h1 : va_P D vwCl ((wd_l g N f).set k (g k, e)) H1) (h2 : va_D A ((wd_l g N f).set k (g k, e))) (h3 : va_S A H0 H1 locs1) : Wd D A H0 g N (va_up f k e) H1 locs1 := by
  rw [wd_set] at h1 h2
  exact ⟨h1, h2, h3⟩
/-- a field written -/
theorem w_put (C : wCx p l s m args c meth cc nL own D cy A) (h : Wd D A s.heap g N f H locs) {ci k j n index : Nat} {fs : List Value} (fs' : List Value) {v : Value} {ty : Nat → FieldType} {C0 : String} {T : u_T} (hk : k < N) (hf : f k = .inr (ci, fs)) (hc : vwCl[ci]? = some (C0, T, n)) (hty : ∀ k, k < n → parseFieldDescriptor (T k).2.2.1 = some (ty k)) (hnm : ∀ a, a < n → ∀ b, b < n → a ≠ b → (T a).2.1 ≠ (T b).2.1) (hj : j < n) (hlink : (Cond.fieldLink own index (T j).1 (T j).2.1 (T j).2.2.1) ∈ wAll) (hfin : (T j).2.2.2 = false) (hn : narrow (ty j) v = v) (hfit : fits (ty j) v = true) (hl : j < fs.length) (hs : fs.set j v = fs') (hdg : decode cc pc = .ok (.putfield index, 3))
    (kk : ∀ (H1 : Heap) (locs1 : List Loc), Wd D A s.heap g N (va_up f k (.inr (ci, fs'))) H1 locs1 → W p l e R s m args below meth c H1 locs1 cells slots Q (F0 m (pc + 3) ls rest)) : W p l e R s m args below meth c H locs cells slots Q (F0 m pc ls (v :: .ref (g k) :: rest)) := by
  subst hs
  exact va_put (D := D) (ci := ci) (C := C0) (T := T) (N := n) C.1 C.2.1 (C.lay hc) (fun _ h => h) ty hty hnm C.2.2.2.1 C.2.2.2.2.2.1.1 h.1 h.2.1 h.2.2 k (by rw [wd_get hk, hf]) hc j hj (C.w hlink) (fun _ h => h) hfin (hty j hj) hn hfit hl hdg fun H1 locs1 h1 h2 h3 => kk H1 locs1 (Wd.upd h1 h2 h3)
theorem w_putN (C : wCx p l s m args c meth cc nL own D cy A) (h : Wd D A s.heap g N f H locs) {ci k j n index : Nat} {fs : List Value} (fs' : List Value) {v : Value} {ty : Nat → FieldType} {C0 host : String} {T : u_T} (hk : k < N) (hf : f k = .inr (ci, fs)) (hc : vwCl[ci]? = some (C0, T, n)) (hty : ∀ k, k < n → parseFieldDescriptor (T k).2.2.1 = some (ty k)) (hnm : ∀ a, a < n → ∀ b, b < n → a ≠ b → (T a).2.1 ≠ (T b).2.1) (hj : j < n) (hlink : (Cond.fieldLinkNest own index (T j).1 (T j).2.1 (T j).2.2.1 host) ∈ wAll) (hfin : (T j).2.2.2 = false) (hn : narrow (ty j) v = v) (hfit : fits (ty j) v = true) (hl : j < fs.length) (hs : fs.set j v = fs') (hdg : decode cc pc = .ok (.putfield index, 3))
    (kk : ∀ (H1 : Heap) (locs1 : List Loc), Wd D A s.heap g N (va_up f k (.inr (ci, fs'))) H1 locs1 → W p l e R s m args below meth c H1 locs1 cells slots Q (F0 m (pc + 3) ls rest)) : W p l e R s m args below meth c H locs cells slots Q (F0 m pc ls (v :: .ref (g k) :: rest)) := by
  subst hs
  exact va_putN (D := D) (ci := ci) (C := C0) (T := T) (N := n) C.1 C.2.1 (C.lay hc) (fun _ h => h) ty hty hnm C.2.2.2.1 C.2.2.2.2.2.1.1 h.1 h.2.1 h.2.2 k (by rw [wd_get hk, hf]) hc j hj (C.w hlink) (fun _ h => h) hfin (hty j hj) hn hfit hl hdg fun H1 locs1 h1 h2 h3 => kk H1 locs1 (Wd.upd h1 h2 h3)
/-- a final field, in its maker -/
theorem w_putF (C : wCx p l s m args c meth cc nL own D cy A) (hin : meth.name = "<init>") (h : Wd D A s.heap g N f H locs) {ci k j n index : Nat} {fs : List Value} (fs' : List Value) {v : Value} {ty : Nat → FieldType} {C0 : String} {T : u_T} (hk : k < N) (hf : f k = .inr (ci, fs)) (hc : vwCl[ci]? = some (C0, T, n)) (hty : ∀ k, k < n → parseFieldDescriptor (T k).2.2.1 = some (ty k)) (hnm : ∀ a, a < n → ∀ b, b < n → a ≠ b → (T a).2.1 ≠ (T b).2.1) (hj : j < n) (hlink : (Cond.fieldLink own index (T j).1 (T j).2.1 (T j).2.2.1) ∈ wAll) (hfin : (T j).2.2.2 = true) (hdecl : (T j).1 = own) (hn : narrow (ty j) v = v) (hfit : fits (ty j) v = true) (hl : j < fs.length) (hs : fs.set j v = fs') (hdg : decode cc pc = .ok (.putfield index, 3))
    (kk : ∀ (H1 : Heap) (locs1 : List Loc), Wd D A s.heap g N (va_up f k (.inr (ci, fs'))) H1 locs1 → W p l e R s m args below meth c H1 locs1 cells slots Q (F0 m (pc + 3) ls rest)) : W p l e R s m args below meth c H locs cells slots Q (F0 m pc ls (v :: .ref (g k) :: rest)) := by
  subst hs
  exact va_putF (D := D) (ci := ci) (C := C0) (T := T) (N := n) C.1 C.2.1 (C.lay hc) (fun _ h => h) ty hty hnm C.2.2.2.1 C.2.2.2.2.2.1.1 h.1 h.2.1 h.2.2 k (by rw [wd_get hk, hf]) hc j hj (C.w hlink) (fun _ h => h) hfin hin hdecl (hty j hj) hn hfit hl hdg fun H1 locs1 h1 h2 h3 => kk H1 locs1 (Wd.upd h1 h2 h3)
/-- arrays -/
theorem w_iald (C : wCx p l s m args c meth cc nL own D cy A) (h : Wd D A s.heap g N f H locs) {k n : Nat} {a : Nat → Int32} (hk : k < N) (hf : f k = .inl (cy 0, n, .inl a)) {i : Int32} (hin : vp_in i n) (hdg : decode cc pc = .ok (.iaload, 1))
    (kk : W p l e R s m args below meth c H locs cells slots Q (F0 m (pc + 1) ls (.int (a i.toNatClampNeg) :: rest))) : W p l e R s m args below meth c H locs cells slots Q (F0 m pc ls (.int i :: .ref (g k) :: rest)) :=
  va_iald C.1 C.2.1 C.2.2.2.2.2.1.1 h.1 k 0 (by rw [wd_get hk, hf]) rfl hin hdg kk
theorem w_zald (C : wCx p l s m args c meth cc nL own D cy A) (h : Wd D A s.heap g N f H locs) {k n : Nat} {a : Nat → Int32} (hk : k < N) (hf : f k = .inl (cy 1, n, .inl a)) {i : Int32} (hin : vp_in i n) (hdg : decode cc pc = .ok (.baload, 1))
    (kk : W p l e R s m args below meth c H locs cells slots Q (F0 m (pc + 1) ls (.int (a i.toNatClampNeg) :: rest))) : W p l e R s m args below meth c H locs cells slots Q (F0 m pc ls (.int i :: .ref (g k) :: rest)) :=
  va_zald C.1 C.2.1 C.2.2.2.2.2.1.1 h.1 k 1 (by rw [wd_get hk, hf]) rfl hin hdg kk
theorem w_lald (C : wCx p l s m args c meth cc nL own D cy A) (h : Wd D A s.heap g N f H locs) {k n : Nat} {a : Nat → Int64} (hk : k < N) (hf : f k = .inl (cy 3, n, .inr (.inl a))) {i : Int32} (hin : vp_in i n) (hdg : decode cc pc = .ok (.laload, 1))
    (kk : W p l e R s m args below meth c H locs cells slots Q (F0 m (pc + 1) ls (.long (a i.toNatClampNeg) :: rest))) : W p l e R s m args below meth c H locs cells slots Q (F0 m pc ls (.int i :: .ref (g k) :: rest)) :=
  va_lald C.1 C.2.1 C.2.2.2.2.2.1.1 h.1 k 3 (by rw [wd_get hk, hf]) rfl hin hdg kk
theorem w_iast (C : wCx p l s m args c meth cc nL own D cy A) (h : Wd D A s.heap g N f H locs) {k n : Nat} {a : Nat → Int32} (hk : k < N) (hf : f k = .inl (cy 0, n, .inl a)) {i x : Int32} (hin : vp_in i n) (hdg : decode cc pc = .ok (.iastore, 1))
    (kk : ∀ (H1 : Heap) (locs1 : List Loc), Wd D A s.heap g N (va_up f k (.inl (cy 0, n, .inl (upd a i.toNatClampNeg x)))) H1 locs1 → W p l e R s m args below meth c H1 locs1 cells slots Q (F0 m (pc + 1) ls rest)) : W p l e R s m args below meth c H locs cells slots Q (F0 m pc ls (.int x :: .int i :: .ref (g k) :: rest)) :=
  va_iast C.1 C.2.1 C.2.2.2.2.2.1.1 h.1 h.2.1 h.2.2 k 0 (by rw [wd_get hk, hf]) rfl hin hdg fun H1 locs1 h1 h2 h3 => kk H1 locs1 (Wd.upd h1 h2 h3)
theorem w_zast (C : wCx p l s m args c meth cc nL own D cy A) (h : Wd D A s.heap g N f H locs) {k n : Nat} {a : Nat → Int32} (hk : k < N) (hf : f k = .inl (cy 1, n, .inl a)) {i x : Int32} (hx : vp_nar .boolean x = x) (hin : vp_in i n) (hdg : decode cc pc = .ok (.bastore, 1))
    (kk : ∀ (H1 : Heap) (locs1 : List Loc), Wd D A s.heap g N (va_up f k (.inl (cy 1, n, .inl (upd a i.toNatClampNeg x)))) H1 locs1 → W p l e R s m args below meth c H1 locs1 cells slots Q (F0 m (pc + 1) ls rest)) : W p l e R s m args below meth c H locs cells slots Q (F0 m pc ls (.int x :: .int i :: .ref (g k) :: rest)) :=
  va_zast C.1 C.2.1 C.2.2.2.2.2.1.1 h.1 h.2.1 h.2.2 k 1 (by rw [wd_get hk, hf]) rfl hin hdg fun H1 locs1 h1 h2 h3 => kk H1 locs1 (by rw [hx] at h1 h2; exact Wd.upd h1 h2 h3)
theorem w_last (C : wCx p l s m args c meth cc nL own D cy A) (h : Wd D A s.heap g N f H locs) {k n : Nat} {a : Nat → Int64} (hk : k < N) (hf : f k = .inl (cy 3, n, .inr (.inl a))) {i : Int32} {x : Int64} (hin : vp_in i n) (hdg : decode cc pc = .ok (.lastore, 1))
    (kk : ∀ (H1 : Heap) (locs1 : List Loc), Wd D A s.heap g N (va_up f k (.inl (cy 3, n, .inr (.inl (vp_updL a i.toNatClampNeg x))))) H1 locs1 → W p l e R s m args below meth c H1 locs1 cells slots Q (F0 m (pc + 1) ls rest)) : W p l e R s m args below meth c H locs cells slots Q (F0 m pc ls (.long x :: .int i :: .ref (g k) :: rest)) :=
  va_last C.1 C.2.1 C.2.2.2.2.2.1.1 h.1 h.2.1 h.2.2 k 3 (by rw [wd_get hk, hf]) rfl hin hdg fun H1 locs1 h1 h2 h3 => kk H1 locs1 (Wd.upd h1 h2 h3)
/-- what a callee is, whoever calls -/
def wBV (y : MethodName) (bytes : ByteArray) (maxL : Nat) (ret : Option FieldType) (n : Nat) : Prop :=
  (Cond.instanceMethod y ∈ wAll ∧ Cond.selects y.cls y y ∈ wAll) ∧ Cond.initialized y.cls ∈ wAll ∧ Cond.code y bytes maxL ret ∈ wAll ∧ (y.cls ≠ "java/lang/invoke/MethodHandle" ∧ y.cls ≠ "java/lang/invoke/VarHandle") ∧ (parseMethodDescriptor y.desc).map (fun d => d.parameters.length) = some n ∧ maxL ≤ 21
def wBS (y : MethodName) (bytes : ByteArray) (maxL : Nat) (ret : Option FieldType) (n : Nat) : Prop :=
  Cond.static y ∈ wAll ∧ Cond.initialized y.cls ∈ wAll ∧ Cond.code y bytes maxL ret ∈ wAll ∧ (y.cls ≠ "java/lang/invoke/MethodHandle" ∧ y.cls ≠ "java/lang/invoke/VarHandle") ∧ (parseMethodDescriptor y.desc).map (fun d => d.parameters.length) = some n ∧ maxL ≤ 21
def wBI (y : MethodName) (bytes : ByteArray) (maxL : Nat) (n : Nat) : Prop :=
  (Cond.instanceMethod y ∈ wAll ∧ y.name = "<init>") ∧ Cond.initialized y.cls ∈ wAll ∧ Cond.code y bytes maxL none ∈ wAll ∧ (y.cls ≠ "java/lang/invoke/MethodHandle" ∧ y.cls ≠ "java/lang/invoke/VarHandle") ∧ (parseMethodDescriptor y.desc).map (fun d => d.parameters.length) = some n ∧ maxL ≤ 21
variable {y : MethodName} {bytes : ByteArray} {maxL : Nat} {ret : Option FieldType} {n index d dc mc ms : Nat} {host : String} {av : List Value}
theorem w_code {a a' : Array Value} {U : State} (hW : s.WarmedH U.vm) (h : (Cond.code y bytes maxL ret).before a s = true) : (Cond.code y bytes maxL ret).before a' U = true := word_at hW (Or.inl rfl) h
theorem w_cb (C : wCx p l s m args c meth cc nL own D cy A) (hi : Cond.initialized y.cls ∈ wAll) (hcode : Cond.code y bytes maxL ret ∈ wAll) (hy : y.cls ≠ "java/lang/invoke/MethodHandle" ∧ y.cls ≠ "java/lang/invoke/VarHandle") (hp : (parseMethodDescriptor y.desc).map (fun d => d.parameters.length) = some n) (hm : maxL ≤ 21) (hl : Cond.methodLink own index y ∈ wAll) (hR : R.frames = d ∧ R.locals = 40 * d) (hd : dc + 1 ≤ d) : CallB R s args own index y bytes maxL ret [.code y bytes maxL ret] (wR dc mc ms) mc ms n := by
  refine ⟨rfl, rfl, ?_, ?_, ?_, List.mem_cons_self, C.w hcode, C.w hi, hy, fun sig h => ?_, C.w hl⟩
  · rw [hR.1]; exact hd
  · rw [hR.2]; show 8 + (maxL + 11) + 40 * dc ≤ 40 * d; omega
  · intro w hw a' U hW
    rw [List.mem_singleton.mp hw]
    exact w_code hW (C.w hcode)
  · rw [h] at hp
    exact (Option.some.inj hp).symm
theorem w_cn (C : wCx p l s m args c meth cc nL own D cy A) (hi : Cond.initialized y.cls ∈ wAll) (hcode : Cond.code y bytes maxL ret ∈ wAll) (hy : y.cls ≠ "java/lang/invoke/MethodHandle" ∧ y.cls ≠ "java/lang/invoke/VarHandle") (hp : (parseMethodDescriptor y.desc).map (fun d => d.parameters.length) = some n) (hm : maxL ≤ 21) (hl : Cond.methodLinkNest own index y host ∈ wAll) (hR : R.frames = d ∧ R.locals = 40 * d) (hd : dc + 1 ≤ d) : va_CN R s args own index y host bytes maxL ret [.code y bytes maxL ret] (wR dc mc ms) mc ms n := by
  refine ⟨⟨rfl, rfl, ?_, ?_, ?_, List.mem_cons_self⟩, C.w hcode, C.w hi, hy, fun sig h => ?_, C.w hl⟩
  · rw [hR.1]; exact hd
  · rw [hR.2]; show 8 + (maxL + 11) + 40 * dc ≤ 40 * d; omega
  · intro w hw a' U hW
    rw [List.mem_singleton.mp hw]
    exact w_code hW (C.w hcode)
  · rw [h] at hp
    exact (Option.some.inj hp).symm
theorem wCx.fix (C : wCx p l s m args c meth cc nL own D cy A) : CallFix p m c cc nL s args wWords own := ⟨C.1, C.2.1, C.2.2.1, C.2.2.2.1, C.2.2.2.2.1⟩
/-- the receiver: an object of the class that the method names -/
theorem w_recv (C : wCx p l s m args c meth cc nL own D cy A) (h : Wd D A s.heap g N f H locs) {k ci : Nat} {fs : List Value} {C0 : String} {T : u_T} {n0 : Nat} (hk : k < N) (hf : f k = .inr (ci, fs)) (hc : vwCl[ci]? = some (C0, T, n0)) : ∃ cell : Cell, H[g k]? = some cell ∧ cell.vm.isStatics = false ∧ s.vm.findClass C0 = some cell.cls :=
  va_recv C.2.2.2.2.2.1.1 h.1 (ci := ci) (q0 := k) hc (by rw [wd_get hk, hf])
end WR

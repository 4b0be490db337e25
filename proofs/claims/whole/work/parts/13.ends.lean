section WEN
variable {p : Program} {l : Launch} {e : Env} {R : Room} {s : State} {m : MethodId} {args : Array Value} {below : List Frame} {meth : Method} {c : Code} {H : Heap} {locs : List Loc} {cells slots : Nat} {Q : State → Prop}
variable {cc : ByteArray} {nL : Nat} {own : String} {pc : Nat} {ls : Array Slot} {rest st0 : List Value} {D : va_G} {cy : Nat → Nat} {A : Nat → Prop} {g : Nat → Nat} {N : Nat} {f : Nat → va_E}
variable {y : MethodName} {maxL : Nat} {ret : Option FieldType} {d mc ms sz : Nat} {av : List Value}
theorem w_enter {s₁ : State} {rm : Room} (B : BodyLoose p l y (headSpec [.code y cc maxL ret] rm) cc maxL ret e s m args below meth c s₁) (hml : c.maxLocals = maxL) (hpre : wPre D cy g N f sz s) (hown : y.cls = own) (hfl : l.stackTraces = false) : wCx p l s m args c meth cc maxL own D cy (wA g N s.heap.size) ∧ meth.sig.returnType = ret ∧ meth.name = y.name ∧ Wd D (wA g N s.heap.size) s.heap g N f s.heap [] ∧ s.heap.size = sz := by
  have h0 := hpre.1
  subst h0
  refine ⟨⟨B.exec, B.bytes, hml, by rw [← hown]; exact findClass_of_methodNamed B.named, hpre.2.2.2.words, hpre.2.2.2, fun q h => Or.inr h, B.notSynchronized, hfl⟩, B.returns, (name_of_methodNamed B.named B.method).1, wPre_start hpre, rfl⟩
/-- entries -/
theorem iRi {post : Int32 → Prop} (hy : plainName y.cls = true) (hown : y.cls = own) (hfl : l.stackTraces = false) (hav : (lg_sl av).length ≤ maxL)
    (body : ∀ (p : Program) (e : Env) (s : State) (m : MethodId) (below : List Frame) (meth : Method) (c : Code) (ls : Array Slot), wCx p l s m av.toArray c meth cc maxL own D cy (wA g N s.heap.size) → meth.sig.returnType = ret → Wd D (wA g N s.heap.size) s.heap g N f s.heap [] → lv_has ls maxL (lv_args 0 av) → W p l e (wR d 0 0) s m av.toArray below meth c s.heap [] 0 0 (MQ below (vp_Si post) av.toArray s 0 0 (fun _ => False)) (F0 m 0 ls [])) : cRi l D cy y cc maxL ret d av g N f post := by
  refine Met.ofW (cc := cc) (maxL := maxL) (ret := ret) hy rfl ?_
  intro p e s m args below meth c s₁ B hml hv
  obtain ⟨rfl, hpre⟩ := hv
  obtain ⟨hC, hr, hn, hw, -⟩ := w_enter B hml hpre hown hfl
  rw [lg_entry_eq]
  exact body p e s m below meth c _ hC hr hw (lv_entry av hav)
theorem iRr {post : Nat → Prop} (hy : plainName y.cls = true) (hown : y.cls = own) (hfl : l.stackTraces = false) (hav : (lg_sl av).length ≤ maxL)
    (body : ∀ (p : Program) (e : Env) (s : State) (m : MethodId) (below : List Frame) (meth : Method) (c : Code) (ls : Array Slot), wCx p l s m av.toArray c meth cc maxL own D cy (wA g N s.heap.size) → meth.sig.returnType = ret → Wd D (wA g N s.heap.size) s.heap g N f s.heap [] → lv_has ls maxL (lv_args 0 av) → W p l e (wR d 0 0) s m av.toArray below meth c s.heap [] 0 0 (MQ below (va_Sr post (fun k => .ref (g k))) av.toArray s 0 0 (fun _ => False)) (F0 m 0 ls [])) : cRr l D cy y cc maxL ret d av g N f post := by
  refine Met.ofW (cc := cc) (maxL := maxL) (ret := ret) hy rfl ?_
  intro p e s m args below meth c s₁ B hml hv
  obtain ⟨rfl, hpre⟩ := hv
  obtain ⟨hC, hr, hn, hw, -⟩ := w_enter B hml hpre hown hfl
  rw [lg_entry_eq]
  exact body p e s m below meth c _ hC hr hw (lv_entry av hav)
theorem iWi {post : Int32 → (Nat → va_E) → Prop} (hy : plainName y.cls = true) (hown : y.cls = own) (hfl : l.stackTraces = false) (hav : (lg_sl av).length ≤ maxL)
    (body : ∀ (p : Program) (e : Env) (s : State) (m : MethodId) (below : List Frame) (meth : Method) (c : Code) (ls : Array Slot), wCx p l s m av.toArray c meth cc maxL own D cy (wA g N s.heap.size) → meth.sig.returnType = ret → Wd D (wA g N s.heap.size) s.heap g N f s.heap [] → lv_has ls maxL (lv_args 0 av) → W p l e (wR d mc ms) s m av.toArray below meth c s.heap [] 0 0 (MQ below (va_Qi post (fun f' t => wPo D g N s.heap.size f' t) (wA g N s.heap.size) ) av.toArray s mc ms (wA g N s.heap.size)) (F0 m 0 ls [])) : cWi l D cy y cc maxL ret d mc ms av g N f post := by
  intro sz
  refine Met.ofW (cc := cc) (maxL := maxL) (ret := ret) hy rfl ?_
  intro p e s m args below meth c s₁ B hml hv
  obtain ⟨rfl, hpre⟩ := hv
  obtain ⟨hC, hr, hn, hw, hsz⟩ := w_enter B hml hpre hown hfl
  subst hsz
  rw [lg_entry_eq]
  exact body p e s m below meth c _ hC hr hw (lv_entry av hav)
theorem iWv {post : (Nat → va_E) → Prop} (hy : plainName y.cls = true) (hown : y.cls = own) (hfl : l.stackTraces = false) (hav : (lg_sl av).length ≤ maxL)
    (body : ∀ (p : Program) (e : Env) (s : State) (m : MethodId) (below : List Frame) (meth : Method) (c : Code) (ls : Array Slot), wCx p l s m av.toArray c meth cc maxL own D cy (wA g N s.heap.size) → meth.sig.returnType = ret ∧ meth.name = y.name → Wd D (wA g N s.heap.size) s.heap g N f s.heap [] → lv_has ls maxL (lv_args 0 av) → W p l e (wR d mc ms) s m av.toArray below meth c s.heap [] 0 0 (MQ below (va_Qv post (fun f' t => wPo D g N s.heap.size f' t) (wA g N s.heap.size)) av.toArray s mc ms (wA g N s.heap.size)) (F0 m 0 ls [])) : cWv l D cy y cc maxL ret d mc ms av g N f post := by
  intro sz
  refine Met.ofW (cc := cc) (maxL := maxL) (ret := ret) hy rfl ?_
  intro p e s m args below meth c s₁ B hml hv
  obtain ⟨rfl, hpre⟩ := hv
  obtain ⟨hC, hr, hn, hw, hsz⟩ := w_enter B hml hpre hown hfl
  subst hsz
  rw [lg_entry_eq]
  exact body p e s m below meth c _ hC ⟨hr, hn⟩ hw (lv_entry av hav)
theorem iNv {post : (Nat → Nat) × Nat × (Nat → va_E) → Prop} (hy : plainName y.cls = true) (hown : y.cls = own) (hfl : l.stackTraces = false) (hav : (lg_sl av).length ≤ maxL)
    (body : ∀ (p : Program) (e : Env) (s : State) (m : MethodId) (below : List Frame) (meth : Method) (c : Code) (ls : Array Slot), wCx p l s m av.toArray c meth cc maxL own D cy (wA g N s.heap.size) → meth.sig.returnType = ret ∧ meth.name = y.name → Wd D (wA g N s.heap.size) s.heap g N f s.heap [] → lv_has ls maxL (lv_args 0 av) → W p l e (wR d mc ms) s m av.toArray below meth c s.heap [] 0 0 (MQ below (va_Qv post (fun u t => wPn D (wA g N s.heap.size) u t) (wA g N s.heap.size)) av.toArray s mc ms (wA g N s.heap.size)) (F0 m 0 ls [])) : cNv l D cy y cc maxL ret d mc ms av g N f post := by
  intro sz
  refine Met.ofW (cc := cc) (maxL := maxL) (ret := ret) hy rfl ?_
  intro p e s m args below meth c s₁ B hml hv
  obtain ⟨rfl, hpre⟩ := hv
  obtain ⟨hC, hr, hn, hw, hsz⟩ := w_enter B hml hpre hown hfl
  subst hsz
  rw [lg_entry_eq]
  exact body p e s m below meth c _ hC ⟨hr, hn⟩ hw (lv_entry av hav)
theorem iNi {post : Int32 → (Nat → Nat) × Nat × (Nat → va_E) → Prop} (hy : plainName y.cls = true) (hown : y.cls = own) (hfl : l.stackTraces = false) (hav : (lg_sl av).length ≤ maxL)
    (body : ∀ (p : Program) (e : Env) (s : State) (m : MethodId) (below : List Frame) (meth : Method) (c : Code) (ls : Array Slot), wCx p l s m av.toArray c meth cc maxL own D cy (wA g N s.heap.size) → meth.sig.returnType = ret → Wd D (wA g N s.heap.size) s.heap g N f s.heap [] → lv_has ls maxL (lv_args 0 av) → W p l e (wR d mc ms) s m av.toArray below meth c s.heap [] 0 0 (MQ below (va_Qi post (fun u t => wPn D (wA g N s.heap.size) u t) (wA g N s.heap.size)) av.toArray s mc ms (wA g N s.heap.size)) (F0 m 0 ls [])) : cNi l D cy y cc maxL ret d mc ms av g N f post := by
  intro sz
  refine Met.ofW (cc := cc) (maxL := maxL) (ret := ret) hy rfl ?_
  intro p e s m args below meth c s₁ B hml hv
  obtain ⟨rfl, hpre⟩ := hv
  obtain ⟨hC, hr, hn, hw, hsz⟩ := w_enter B hml hpre hown hfl
  subst hsz
  rw [lg_entry_eq]
  exact body p e s m below meth c _ hC hr hw (lv_entry av hav)
theorem iNr {post : (Nat → Nat) × Nat × (Nat → va_E) → Nat → Prop} (hy : plainName y.cls = true) (hown : y.cls = own) (hfl : l.stackTraces = false) (hav : (lg_sl av).length ≤ maxL)
    (body : ∀ (p : Program) (e : Env) (s : State) (m : MethodId) (below : List Frame) (meth : Method) (c : Code) (ls : Array Slot), wCx p l s m av.toArray c meth cc maxL own D cy (wA g N s.heap.size) → meth.sig.returnType = ret → Wd D (wA g N s.heap.size) s.heap g N f s.heap [] → lv_has ls maxL (lv_args 0 av) → W p l e (wR d mc ms) s m av.toArray below meth c s.heap [] 0 0 (MQ below (va_Qr (fun _ => True) (fun u a t => post u a ∧ wPn D (wA g N s.heap.size) u t) (wA g N s.heap.size)) av.toArray s mc ms (wA g N s.heap.size)) (F0 m 0 ls [])) : cNr l D cy y cc maxL ret d mc ms av g N f post := by
  intro sz
  refine Met.ofW (cc := cc) (maxL := maxL) (ret := ret) hy rfl ?_
  intro p e s m args below meth c s₁ B hml hv
  obtain ⟨rfl, hpre⟩ := hv
  obtain ⟨hC, hr, hn, hw, hsz⟩ := w_enter B hml hpre hown hfl
  subst hsz
  rw [lg_entry_eq]
  exact body p e s m below meth c _ hC hr hw (lv_entry av hav)
theorem iXi {post : Int32 → (Nat → va_E) → Prop} {px : String → (Nat → va_E) → Prop} (hy : plainName y.cls = true) (hown : y.cls = own) (hfl : l.stackTraces = false) (hav : (lg_sl av).length ≤ maxL)
    (body : ∀ (p : Program) (e : Env) (s : State) (m : MethodId) (below : List Frame) (meth : Method) (c : Code) (ls : Array Slot), wCx p l s m av.toArray c meth cc maxL own D cy (wA g N s.heap.size) → meth.sig.returnType = ret → (∀ x ∈ c.exceptionTable.toList, False) → Wd D (wA g N s.heap.size) s.heap g N f s.heap [] → lv_has ls maxL (lv_args 0 av) → W p l e (wR d mc ms) s m av.toArray below meth c s.heap [] 0 0 (vx_MQ below (va_Qi post (fun f' t => wPo D g N s.heap.size f' t) (wA g N s.heap.size)) (wXc D g N s.heap.size px) av.toArray s mc ms (wA g N s.heap.size)) (F0 m 0 ls [])) : cXi l D cy y cc maxL ret d mc ms av g N f post px := by
  intro sz
  refine vx_ofW (cc := cc) (maxL := maxL) (ret := ret) hy rfl ?_
  intro p e s m args below meth c s₁ B hml hx hv
  obtain ⟨rfl, hpre⟩ := hv
  obtain ⟨hC, hr, hn, hw, hsz⟩ := w_enter B hml hpre hown hfl
  subst hsz
  rw [lg_entry_eq]
  exact body p e s m below meth c _ hC hr hx hw (lv_entry av hav)
theorem iXNi {post : Int32 → (Nat → Nat) × Nat × (Nat → va_E) → Prop} {px : String → (Nat → va_E) → Prop} (hy : plainName y.cls = true) (hown : y.cls = own) (hfl : l.stackTraces = false) (hav : (lg_sl av).length ≤ maxL)
    (body : ∀ (p : Program) (e : Env) (s : State) (m : MethodId) (below : List Frame) (meth : Method) (c : Code) (ls : Array Slot), wCx p l s m av.toArray c meth cc maxL own D cy (wA g N s.heap.size) → meth.sig.returnType = ret → (∀ x ∈ c.exceptionTable.toList, False) → Wd D (wA g N s.heap.size) s.heap g N f s.heap [] → lv_has ls maxL (lv_args 0 av) → W p l e (wR d mc ms) s m av.toArray below meth c s.heap [] 0 0 (vx_MQ below (va_Qi post (fun u t => wPn D (wA g N s.heap.size) u t) (wA g N s.heap.size)) (wXc D g N s.heap.size px) av.toArray s mc ms (wA g N s.heap.size)) (F0 m 0 ls [])) : cXNi l D cy y cc maxL ret d mc ms av g N f post px := by
  intro sz
  refine vx_ofW (cc := cc) (maxL := maxL) (ret := ret) hy rfl ?_
  intro p e s m args below meth c s₁ B hml hx hv
  obtain ⟨rfl, hpre⟩ := hv
  obtain ⟨hC, hr, hn, hw, hsz⟩ := w_enter B hml hpre hown hfl
  subst hsz
  rw [lg_entry_eq]
  exact body p e s m below meth c _ hC hr hx hw (lv_entry av hav)
theorem iXv {post : (Nat → va_E) → Prop} {px : String → (Nat → va_E) → Prop} (hy : plainName y.cls = true) (hown : y.cls = own) (hfl : l.stackTraces = false) (hav : (lg_sl av).length ≤ maxL)
    (body : ∀ (p : Program) (e : Env) (s : State) (m : MethodId) (below : List Frame) (meth : Method) (c : Code) (ls : Array Slot), wCx p l s m av.toArray c meth cc maxL own D cy (wA g N s.heap.size) → meth.sig.returnType = ret → (∀ x ∈ c.exceptionTable.toList, False) → Wd D (wA g N s.heap.size) s.heap g N f s.heap [] → lv_has ls maxL (lv_args 0 av) → W p l e (wR d mc ms) s m av.toArray below meth c s.heap [] 0 0 (vx_MQ below (va_Qv post (fun f' t => wPo D g N s.heap.size f' t) (wA g N s.heap.size)) (wXc D g N s.heap.size px) av.toArray s mc ms (wA g N s.heap.size)) (F0 m 0 ls [])) : cXv l D cy y cc maxL ret d mc ms av g N f post px := by
  intro sz
  refine vx_ofW (cc := cc) (maxL := maxL) (ret := ret) hy rfl ?_
  intro p e s m args below meth c s₁ B hml hx hv
  obtain ⟨rfl, hpre⟩ := hv
  obtain ⟨hC, hr, hn, hw, hsz⟩ := w_enter B hml hpre hown hfl
  subst hsz
  rw [lg_entry_eq]
  exact body p e s m below meth c _ hC hr hx hw (lv_entry av hav)
/-- ends -/
theorem eRi {post : Int32 → Prop} {v : Int32} (C : wCx p l s m args c meth cc nL own D cy A) (hr : meth.sig.returnType = some .int) (hp : post v) (hdg : decode cc pc = .ok (.ireturn, 1)) : W p l e R s m args below meth c s.heap [] 0 0 (MQ below (vp_Si post) args s 0 0 (fun _ => False)) (F0 m pc ls [.int v]) :=
  W.iret C.1 C.2.1 hr (fun t ht _ => ⟨v, rfl, hp, ht⟩) (fun _ h => by cases h) hdg C.2.2.2.2.2.2.2.1
theorem w_nar {v : Int32} (h : v = 0 ∨ v = 1) : narrow .boolean (.int v) = .int v := by rcases h with rfl | rfl <;> rfl
theorem eRz {post : Int32 → Prop} {v : Int32} (C : wCx p l s m args c meth cc nL own D cy A) (hr : meth.sig.returnType = some .boolean) (hz : v = 0 ∨ v = 1) (hp : post v) (hdg : decode cc pc = .ok (.ireturn, 1)) : W p l e R s m args below meth c s.heap [] 0 0 (MQ below (vp_Si post) args s 0 0 (fun _ => False)) (F0 m pc ls [.int v]) :=
  W.zret C.1 C.2.1 hr (w_nar hz) (fun t ht _ => ⟨v, rfl, hp, ht⟩) (fun _ h => by cases h) hdg C.2.2.2.2.2.2.2.1
theorem eRr {post : Nat → Prop} {k : Nat} {C0 : String} (C : wCx p l s m args c meth cc nL own D cy A) (hr : meth.sig.returnType = some (.object C0)) (hp : post k) (hdg : decode cc pc = .ok (.areturn, 1)) : W p l e R s m args below meth c s.heap [] 0 0 (MQ below (va_Sr post (fun k => .ref (g k))) args s 0 0 (fun _ => False)) (F0 m pc ls [.ref (g k)]) :=
  W.aret C.1 C.2.1 hr (Or.inl ⟨_, rfl⟩) (Or.inr ⟨_, rfl⟩) (fun t ht _ => ⟨k, rfl, hp, ht⟩) (fun _ h => by cases h) hdg C.2.2.2.2.2.2.2.1
theorem eWi {post : Int32 → (Nat → va_E) → Prop} {v : Int32} (C : wCx p l s m args c meth cc nL own D cy (wA g N s.heap.size)) (h : Wd D (wA g N s.heap.size) s.heap g N f H locs) (hr : meth.sig.returnType = some .int) (hp : post v f) (hc : cells ≤ mc) (hs : slots ≤ ms) (hdg : decode cc pc = .ok (.ireturn, 1)) : W p l e R s m args below meth c H locs cells slots (MQ below (va_Qi post (fun f' t => wPo D g N s.heap.size f' t) (wA g N s.heap.size)) args s mc ms (wA g N s.heap.size)) (F0 m pc ls [.int v]) :=
  W.widen hc hs (W.iret C.1 C.2.1 hr (fun t ht _ => ⟨⟨v, f, rfl, hp, by rw [ht]; exact h.1, h.2.1⟩, h.2.2.F ht⟩) h.2.2.2.2 hdg C.2.2.2.2.2.2.2.1)
theorem eWz {post : Int32 → (Nat → va_E) → Prop} {v : Int32} (C : wCx p l s m args c meth cc nL own D cy (wA g N s.heap.size)) (h : Wd D (wA g N s.heap.size) s.heap g N f H locs) (hr : meth.sig.returnType = some .boolean) (hz : v = 0 ∨ v = 1) (hp : post v f) (hc : cells ≤ mc) (hs : slots ≤ ms) (hdg : decode cc pc = .ok (.ireturn, 1)) : W p l e R s m args below meth c H locs cells slots (MQ below (va_Qi post (fun f' t => wPo D g N s.heap.size f' t) (wA g N s.heap.size)) args s mc ms (wA g N s.heap.size)) (F0 m pc ls [.int v]) :=
  W.widen hc hs (W.zret C.1 C.2.1 hr (w_nar hz) (fun t ht _ => ⟨⟨v, f, rfl, hp, by rw [ht]; exact h.1, h.2.1⟩, h.2.2.F ht⟩) h.2.2.2.2 hdg C.2.2.2.2.2.2.2.1)
theorem eWv {post : (Nat → va_E) → Prop} (C : wCx p l s m args c meth cc nL own D cy (wA g N s.heap.size)) (h : Wd D (wA g N s.heap.size) s.heap g N f H locs) (hr : meth.sig.returnType = none) (hp : post f) (hc : cells ≤ mc) (hs : slots ≤ ms) (hdg : decode cc pc = .ok (.return_, 1)) : W p l e R s m args below meth c H locs cells slots (MQ below (va_Qv post (fun f' t => wPo D g N s.heap.size f' t) (wA g N s.heap.size)) args s mc ms (wA g N s.heap.size)) (F0 m pc ls []) :=
  W.widen hc hs (W.vret C.1 C.2.1 hr (fun t ht _ => ⟨⟨f, rfl, hp, by rw [ht]; exact h.1, h.2.1⟩, h.2.2.F ht⟩) h.2.2.2.2 hdg C.2.2.2.2.2.2.2.1)
theorem eNv {post : (Nat → Nat) × Nat × (Nat → va_E) → Prop} {g1 : Nat → Nat} {N1 : Nat} {f1 : Nat → va_E} (C : wCx p l s m args c meth cc nL own D cy (wA g N s.heap.size)) (h : Wd D (wA g N s.heap.size) s.heap g1 N1 f1 H locs) (hr : meth.sig.returnType = none) (hp : post (g1, N1, f1)) (hc : cells ≤ mc) (hs : slots ≤ ms) (hdg : decode cc pc = .ok (.return_, 1)) : W p l e R s m args below meth c H locs cells slots (MQ below (va_Qv post (fun u t => wPn D (wA g N s.heap.size) u t) (wA g N s.heap.size)) args s mc ms (wA g N s.heap.size)) (F0 m pc ls []) :=
  W.widen hc hs (W.vret C.1 C.2.1 hr (fun t ht _ => ⟨⟨(g1, N1, f1), rfl, hp, by rw [ht]; exact h.1, h.2.1⟩, h.2.2.F ht⟩) h.2.2.2.2 hdg C.2.2.2.2.2.2.2.1)
theorem eNi {post : Int32 → (Nat → Nat) × Nat × (Nat → va_E) → Prop} {v : Int32} {g1 : Nat → Nat} {N1 : Nat} {f1 : Nat → va_E} (C : wCx p l s m args c meth cc nL own D cy (wA g N s.heap.size)) (h : Wd D (wA g N s.heap.size) s.heap g1 N1 f1 H locs) (hr : meth.sig.returnType = some .int) (hp : post v (g1, N1, f1)) (hc : cells ≤ mc) (hs : slots ≤ ms) (hdg : decode cc pc = .ok (.ireturn, 1)) : W p l e R s m args below meth c H locs cells slots (MQ below (va_Qi post (fun u t => wPn D (wA g N s.heap.size) u t) (wA g N s.heap.size)) args s mc ms (wA g N s.heap.size)) (F0 m pc ls [.int v]) :=
  W.widen hc hs (W.iret C.1 C.2.1 hr (fun t ht _ => ⟨⟨v, (g1, N1, f1), rfl, hp, by rw [ht]; exact h.1, h.2.1⟩, h.2.2.F ht⟩) h.2.2.2.2 hdg C.2.2.2.2.2.2.2.1)
theorem eNz {post : Int32 → (Nat → Nat) × Nat × (Nat → va_E) → Prop} {v : Int32} {g1 : Nat → Nat} {N1 : Nat} {f1 : Nat → va_E} (C : wCx p l s m args c meth cc nL own D cy (wA g N s.heap.size)) (h : Wd D (wA g N s.heap.size) s.heap g1 N1 f1 H locs) (hr : meth.sig.returnType = some .boolean) (hz : v = 0 ∨ v = 1) (hp : post v (g1, N1, f1)) (hc : cells ≤ mc) (hs : slots ≤ ms) (hdg : decode cc pc = .ok (.ireturn, 1)) : W p l e R s m args below meth c H locs cells slots (MQ below (va_Qi post (fun u t => wPn D (wA g N s.heap.size) u t) (wA g N s.heap.size)) args s mc ms (wA g N s.heap.size)) (F0 m pc ls [.int v]) :=
  W.widen hc hs (W.zret C.1 C.2.1 hr (w_nar hz) (fun t ht _ => ⟨⟨v, (g1, N1, f1), rfl, hp, by rw [ht]; exact h.1, h.2.1⟩, h.2.2.F ht⟩) h.2.2.2.2 hdg C.2.2.2.2.2.2.2.1)
theorem eNr {post : (Nat → Nat) × Nat × (Nat → va_E) → Nat → Prop} {a : Nat} {g1 : Nat → Nat} {N1 : Nat} {f1 : Nat → va_E} {t0 : FieldType} (C : wCx p l s m args c meth cc nL own D cy (wA g N s.heap.size)) (h : Wd D (wA g N s.heap.size) s.heap g1 N1 f1 H locs) (hr : meth.sig.returnType = some (.array t0)) (hp : post (g1, N1, f1) a) (hc : cells ≤ mc) (hs : slots ≤ ms) (hdg : decode cc pc = .ok (.areturn, 1)) : W p l e R s m args below meth c H locs cells slots (MQ below (va_Qr (fun _ => True) (fun u a t => post u a ∧ wPn D (wA g N s.heap.size) u t) (wA g N s.heap.size)) args s mc ms (wA g N s.heap.size)) (F0 m pc ls [.ref a]) :=
  W.widen hc hs (W.aret C.1 C.2.1 hr (Or.inr ⟨_, rfl⟩) (Or.inr ⟨_, rfl⟩) (fun t ht _ => ⟨⟨(g1, N1, f1), a, rfl, trivial, hp, by rw [ht]; exact h.1, h.2.1⟩, h.2.2.F ht⟩) h.2.2.2.2 hdg C.2.2.2.2.2.2.2.1)
/-- ends by a throw that a callee made -/
theorem eOut {Qc : Array Value → State → Outcome → State → Prop} {px : String → (Nat → va_E) → Prop} {E : String} {ce : Cell} {q9 : Addr} (C : wCx p l s m args c meth cc nL own D cy (wA g N s.heap.size)) (hx : ∀ x ∈ c.exceptionTable.toList, False) (h : Wd D (wA g N s.heap.size) s.heap g N f H locs) (hp : px E f) (h1 : H[q9]? = some ce) (h2 : ce.vm = .none) (h3 : s.vm.findClass E = some ce.cls) (hc : cells ≤ mc) (hs : slots ≤ ms) : vx_W p l e R s m args below meth c H locs cells slots (vx_MQ below Qc (wXc D g N s.heap.size px) args s mc ms (wA g N s.heap.size)) (F0 m pc ls rest) q9 :=
  vx_out (fun x hx9 => (hx x hx9).elim) C.2.2.2.2.2.2.2.1 h1 h2 h3 (fun t ht _ => ⟨f, trivial, ⟨hp, by rw [ht]; exact h.1, h.2.1⟩, h.2.2.F ht⟩) h.2.2.2.2 hc hs
/-- ends by a throw of its own -/
theorem wExc_ok : ∀ q ∈ ([(93, "java/lang/IllegalArgumentException", 89), (63, "java/lang/IllegalStateException", 59), (155, "java/lang/IndexOutOfBoundsException", 151)] : List (Nat × String × Nat)), (Cond.classLink RX9 q.2.2 q.2.1 :: Cond.initialized q.2.1 :: vx_atS RX9 q.1 q.2.1 ["java/lang/RuntimeException", "java/lang/Exception"]).all (fun w => vx_ot w && decide (w ∈ wWords)) = true := by decide +kernel
theorem eThrow {Qc : Array Value → State → Outcome → State → Prop} {px : String → (Nat → va_E) → Prop} {ik ic is : Nat} {cls text : String} (C : wCx p l s m args c meth cc nL RX9 D cy (wA g N s.heap.size)) (hx : ∀ x ∈ c.exceptionTable.toList, False) (h : Wd D (wA g N s.heap.size) s.heap g N f H locs) (hq : (ic, cls, ik) ∈ ([(93, "java/lang/IllegalArgumentException", 89), (63, "java/lang/IllegalStateException", 59), (155, "java/lang/IndexOutOfBoundsException", 151)] : List (Nat × String × Nat))) (hcls : Bundle.fit cls = true) (htx : (is, text) ∈ wStrs) (hp : px cls f) (hsz : ls.size = nL)
    (d0 : decode cc pc = .ok (.new ik, 3)) (d3 : decode cc (pc + 3) = .ok (.dup, 1)) (d4 : decode cc (pc + 4) = .ok (.ldc is, 2)) (d6 : decode cc (pc + 6) = .ok (.invokespecial ic, 3)) (d9 : decode cc (pc + 9) = .ok (.athrow, 1))
    (hR : 6 ≤ R.frames ∧ 120 ≤ R.locals ∧ cells + 1 ≤ R.cells ∧ slots + 6 ≤ R.slots) (hrest : rest = []) (hc : cells + 1 ≤ mc) (hs : slots + 6 ≤ ms) : W p l e R s m args below meth c H locs cells slots (vx_MQ below Qc (wXc D g N s.heap.size px) args s mc ms (wA g N s.heap.size)) (F0 m pc ls rest) := by
  have hall := List.all_eq_true.mp (wExc_ok _ hq)
  have hmem : ∀ w ∈ (Cond.classLink RX9 ik cls :: Cond.initialized cls :: vx_atS RX9 ic cls ["java/lang/RuntimeException", "java/lang/Exception"]), vx_ot w = true ∧ w ∈ wWords := fun w hw => by
    have h1 := hall w hw
    rw [Bool.and_eq_true] at h1
    exact ⟨h1.1, of_decide_eq_true h1.2⟩
  have hb := C.2.2.2.2.1
  obtain ⟨sa, hstr⟩ := C.2.2.2.2.2.1.2.2.1 _ htx
  subst hrest
  refine vx_throwS (own := RX9) (cls := cls) (text := text) (names := ["java/lang/RuntimeException", "java/lang/Exception"]) (ik := ik) (is := is) (ic := ic) (sa := sa) (A := wA g N s.heap.size) C.1 C.2.1 C.2.2.2.2.2.2.2.2 C.2.2.2.1 hcls ?_ (hb _ (hmem _ List.mem_cons_self).2) (hb _ (hmem _ (List.mem_cons_of_mem _ List.mem_cons_self)).2) hstr (fun w hw => hb _ (hmem _ (List.mem_cons_of_mem _ (List.mem_cons_of_mem _ hw))).2) (fun w hw => (hmem w hw).1) C.2.2.2.2.2.1.2.2.2.2.1 C.2.2.2.2.2.1.2.2.2.2.2.1 h.2.2 (hsz.trans C.2.2.1.symm) d0 d3 d4 d6 d9 (fun x hx9 => (hx x hx9).elim) ?_ ?_ hR.2.2.1 hR.2.2.2 C.2.2.2.2.2.2.2.1 ?_ h.2.2.2.2 hc hs
  · decide
  · exact hR.1
  · show 0 + (13 * (2 + 1) + 43) ≤ R.locals
    have := hR.2.1
    omega
  · intro t _ hz hk
    refine ⟨f, trivial, ⟨hp, ?_, h.2.1⟩, ?_⟩
    · exact h.1.kept (fun k q hk9 => hk q.1 (h.1 k q hk9).lt)
    · exact ⟨Nat.le_trans h.2.2.1 hz, fun q h1 h2 => (hk q (Nat.lt_of_lt_of_le h1 h.2.2.1)).trans (h.2.2.2.1 q h1 h2)⟩
end WEN

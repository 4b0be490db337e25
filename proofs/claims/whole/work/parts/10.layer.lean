/-! THE LAYER: one world for all: cells by number, at addresses g, with contents f; every contract speaks of the whole world, so no cell is ever cut out -/
def wd_l (g : Nat → Nat) (N : Nat) (f : Nat → va_E) : va_W := (List.range N).map (fun k => (g k, f k))
theorem wd_get {g : Nat → Nat} {N : Nat} {f : Nat → va_E} {k : Nat} (h : k < N) : (wd_l g N f)[k]? = some (g k, f k) := by simp [wd_l, h]
theorem wd_inv {g : Nat → Nat} {N : Nat} {f : Nat → va_E} {k : Nat} {q : Nat × va_E} (h : (wd_l g N f)[k]? = some q) : k < N ∧ q = (g k, f k) := by
  have hl : k < (wd_l g N f).length := (List.getElem?_eq_some_iff.mp h).1
  have hk : k < N := by simpa [wd_l] using hl
  rw [wd_get hk] at h
  exact ⟨hk, (Option.some.inj h).symm⟩
theorem wd_set (g : Nat → Nat) (N : Nat) (f : Nat → va_E) (k : Nat) (e : va_E) : (wd_l g N f).set k (g k, e) = wd_l g N (va_up f k e) := by
  apply List.ext_getElem?
  intro j
  by_cases hj : j < N
  · rw [wd_get hj]
    by_cases hk : j = k
    · subst hk
      rw [List.getElem?_set_self (by simpa [wd_l] using hj), va_up_self]
    · rw [List.getElem?_set_ne (Ne.symm hk), wd_get hj, va_up_ne _ _ hk]
  · rw [List.getElem?_eq_none (by simp [wd_l]; omega), List.getElem?_eq_none (by simp [wd_l]; omega)]
theorem wd_push (g : Nat → Nat) (N : Nat) (f : Nat → va_E) (a : Nat) (e : va_E) : wd_l g N f ++ [(a, e)] = wd_l (va_up g N a) (N + 1) (va_up f N e) := by
  simp only [wd_l, List.range_succ, List.map_append, List.map_cons, List.map_nil, va_up_self]
  congr 1
  apply List.map_congr_left
  intro b hb
  have h1 : b < N := List.mem_range.mp hb
  rw [va_up_ne _ _ (by omega), va_up_ne _ _ (by omega)]
/-- what a method may change: the world's cells, and new ones -/
def wA (g : Nat → Nat) (N sz : Nat) : Nat → Prop := fun q => (∃ k, k < N ∧ q = g k) ∨ sz ≤ q
def wTy (cy : Nat → ClassId) : List (ClassId × FieldType) := [(cy 0, .int), (cy 1, .boolean), (cy 2, .object "java/lang/Object"), (cy 3, .long)]
def wLay : List Cond := vwCl.flatMap (fun q => u_ws q.1 q.2.1 q.2.2)
def wExc : List Cond := vx_atS RX9 93 "java/lang/IllegalArgumentException" ["java/lang/RuntimeException", "java/lang/Exception"] ++ (vx_atS RX9 63 "java/lang/IllegalStateException" ["java/lang/RuntimeException", "java/lang/Exception"] ++ vx_atS RX9 155 "java/lang/IndexOutOfBoundsException" ["java/lang/RuntimeException", "java/lang/Exception"])
def wOkw : Cond → Bool
  | .fieldLinkNest .. => true
  | .methodLinkNest .. => true
  | .castable .. => true
  | .declares .. => true
  | w => w.onTables && w.keeps
theorem wOkw_warm {w : Cond} (h : wOkw w = true) {s U : State} (hW : s.WarmedH U.vm) (hb : w.before #[] s = true) : w.before #[] U = true := by
  cases w <;> first
    | exact va_Nw.warmF hW hb
    | exact va_Nw.warmM hW hb
    | exact va_Nw.warmC hW hb
    | exact va_Nw.warmD hW hb
    | exact word_at hW (Or.inl h) hb
def wWords : List Cond := wAll ++ (wLay ++ wExc)
theorem wWords_ok : wWords.all (fun w => wOkw w && w.onTables) = true := by decide +kernel
def wStrs : List (Nat × String) := [(61, "it or its opposite is a fact"), (91, "a literal follows a 0 or comes twice"), (94, "a literal comes twice"), (100, "there are 12 rules"), (153, "no such part"), (195, "no such preferred set"), (203, "0 is no literal"), (208, "literal out of range"), (210, "priority out of range"), (212, "no such rule"), (214, "too many arguments"), (216, "too many arguments for preferred sets"), (218, "no such argument")]
def xIA : String := "java/lang/IllegalArgumentException"
def xIS : String := "java/lang/IllegalStateException"
def xIB : String := "java/lang/IndexOutOfBoundsException"
/-- what the list's growth needs besides -/
def wEj (U : State) : Prop := va_AO "java/lang/Object" U ∧ va_Nw (.castable RX4 "java/lang/Object") U ∧ va_Dc U ∧ va_Nw (.castable "java/lang/IllegalArgumentException" "java/lang/IllegalArgumentException") U ∧ va_Nw (.castable "java/lang/IllegalStateException" "java/lang/IllegalStateException") U ∧ va_Nw (.castable "java/lang/IndexOutOfBoundsException" "java/lang/IndexOutOfBoundsException") U
def wNcs : List (String × String) := [(xIA, xIS), (xIA, xIB), (xIS, xIA), (xIS, xIB), (xIB, xIA), (xIB, xIS)]
/-- what stands through the whole run: tables, words, texts, statics -/
def wE (D : va_G) (cy : Nat → Nat) (A : Nat → Prop) (U : State) (H : Heap) : Prop :=
  va_K D vwCl (wTy cy) U ∧ (∀ w ∈ wWords, w.before #[] U = true) ∧ (∀ q ∈ wStrs, ∃ sa, vk_R RX9 q.1 q.2 sa U) ∧ (∀ q ∈ wNcs, va_Nc q.1 q.2 U) ∧
  vx_Zq Bundle.tN "UNASSIGNED_STACK" Bundle.steD A U H ∧ vx_Zq Bundle.tN "SUPPRESSED_SENTINEL" Bundle.listD A U H ∧
  va_Z "java/util/ArrayList" "DEFAULTCAPACITY_EMPTY_ELEMENTDATA" "[Ljava/lang/Object;" (.ref (cy 9)) A U H ∧ va_T (.object "java/lang/Object") (cy 9) 0 (fun _ => .null) A U H ∧ va_Mi "[Ljava/lang/Object;" (cy 8) U ∧ (∀ ty, ty = .int ∨ ty = .boolean ∨ ty = .long → (Cond.arrayClass ty).before #[] U = true) ∧ wEj U
theorem wE.go {D : va_G} {cy : Nat → Nat} {A B : Nat → Prop} {s U : State} {H H1 : Heap} (h : wE D cy A s H) (hW : s.WarmedH U.vm) (hq : ∀ q : Nat, q < H.size → ¬ A q → H1[q]? = H[q]?) (hAB : ∀ q, B q → A q) : wE D cy B U H1 := by
  obtain ⟨h1, h2, h3, h4, h5, h6, h7, h8, h9, h10, h11⟩ := h
  have ha : s.vm.Alike U.vm := hW.alike
  refine ⟨va_K.moved ha h1, fun w hw => ?_, fun q hq => ?_, fun q hq => va_Nc.moved ha (h4 q hq), ((h5.kept hq).moved ha).narrow hAB, ((h6.kept hq).moved ha).narrow hAB, ((h7.kept hq).moved ha).narrow hAB, ((h8.kept hq).moved ha).narrow hAB, va_Mi.moved ha h9, fun ty hty => word_at hW (Or.inr ⟨ty, rfl⟩) (h10 ty hty), va_AO.moved ha h11.1, va_Nw.warmC hW h11.2.1, va_Dc.moved ha h11.2.2.1, va_Nw.warmC hW h11.2.2.2.1, va_Nw.warmC hW h11.2.2.2.2.1, va_Nw.warmC hW h11.2.2.2.2.2⟩
  · have hk := List.all_eq_true.mp wWords_ok w hw
    rw [Bool.and_eq_true] at hk
    exact wOkw_warm hk.1 hW (h2 w hw)
  · obtain ⟨sa, h⟩ := h3 q hq
    exact ⟨sa, vk_R.warm hW h⟩
theorem wE.calling {D : va_G} {cy : Nat → Nat} {A : Nat → Prop} {U : State} {H : Heap} {g : JFrame} {mk : MethodId} {a : Array Value} (h : wE D cy A U H) : wE D cy A (U.calling g mk a) H := h.go (U := U.calling g mk a) (State.WarmedH.refl U) (fun _ _ _ => rfl) (fun _ h => h)
/-- a method's start -/
def wPre (D : va_G) (cy : Nat → Nat) (g : Nat → Nat) (N : Nat) (f : Nat → va_E) (sz : Nat) (U : State) : Prop :=
  U.heap.size = sz ∧ va_P D vwCl (wd_l g N f) U.heap ∧ va_D (fun _ => True) (wd_l g N f) ∧ wE D cy (wA g N sz) U U.heap
def wPo (D : va_G) (g : Nat → Nat) (N sz : Nat) (f : Nat → va_E) (t : State) : Prop := va_P D vwCl (wd_l g N f) t.heap ∧ va_D (wA g N sz) (wd_l g N f)
def wR (d mc ms : Nat) : Room := { frames := d, cells := mc, slots := ms, locals := 40 * d }
/-- contracts: of methods that only read (an int, a cell), that write (an int, nothing), that make cells, that may throw -/
def cRi (l : Launch) (D : va_G) (cy : Nat → Nat) (y : MethodName) (cc : ByteArray) (maxL : Nat) (ret : Option FieldType) (d : Nat) (av : List Value) (g : Nat → Nat) (N : Nat) (f : Nat → va_E) (post : Int32 → Prop) : Prop :=
  Met l y [.code y cc maxL ret] (wR d 0 0) (va_Pc av (fun U => wPre D cy g N f U.heap.size U)) (vp_Si post) 0 0 (fun _ => False)
def cRr (l : Launch) (D : va_G) (cy : Nat → Nat) (y : MethodName) (cc : ByteArray) (maxL : Nat) (ret : Option FieldType) (d : Nat) (av : List Value) (g : Nat → Nat) (N : Nat) (f : Nat → va_E) (post : Nat → Prop) : Prop :=
  Met l y [.code y cc maxL ret] (wR d 0 0) (va_Pc av (fun U => wPre D cy g N f U.heap.size U)) (va_Sr post (fun k => .ref (g k))) 0 0 (fun _ => False)
def cWi (l : Launch) (D : va_G) (cy : Nat → Nat) (y : MethodName) (cc : ByteArray) (maxL : Nat) (ret : Option FieldType) (d mc ms : Nat) (av : List Value) (g : Nat → Nat) (N : Nat) (f : Nat → va_E) (post : Int32 → (Nat → va_E) → Prop) : Prop :=
  ∀ sz, Met l y [.code y cc maxL ret] (wR d mc ms) (va_Pc av (wPre D cy g N f sz)) (va_Qi post (fun f' t => wPo D g N sz f' t) (wA g N sz)) mc ms (wA g N sz)
def cWv (l : Launch) (D : va_G) (cy : Nat → Nat) (y : MethodName) (cc : ByteArray) (maxL : Nat) (ret : Option FieldType) (d mc ms : Nat) (av : List Value) (g : Nat → Nat) (N : Nat) (f : Nat → va_E) (post : (Nat → va_E) → Prop) : Prop :=
  ∀ sz, Met l y [.code y cc maxL ret] (wR d mc ms) (va_Pc av (wPre D cy g N f sz)) (va_Qv post (fun f' t => wPo D g N sz f' t) (wA g N sz)) mc ms (wA g N sz)
/-- what a maker leaves: addresses, number and contents anew; all in A -/
def wPn (D : va_G) (A : Nat → Prop) (u : (Nat → Nat) × Nat × (Nat → va_E)) (t : State) : Prop := va_P D vwCl (wd_l u.1 u.2.1 u.2.2) t.heap ∧ va_D A (wd_l u.1 u.2.1 u.2.2)
def cNv (l : Launch) (D : va_G) (cy : Nat → Nat) (y : MethodName) (cc : ByteArray) (maxL : Nat) (ret : Option FieldType) (d mc ms : Nat) (av : List Value) (g : Nat → Nat) (N : Nat) (f : Nat → va_E) (post : (Nat → Nat) × Nat × (Nat → va_E) → Prop) : Prop :=
  ∀ sz, Met l y [.code y cc maxL ret] (wR d mc ms) (va_Pc av (wPre D cy g N f sz)) (va_Qv post (fun u t => wPn D (wA g N sz) u t) (wA g N sz)) mc ms (wA g N sz)
def cNi (l : Launch) (D : va_G) (cy : Nat → Nat) (y : MethodName) (cc : ByteArray) (maxL : Nat) (ret : Option FieldType) (d mc ms : Nat) (av : List Value) (g : Nat → Nat) (N : Nat) (f : Nat → va_E) (post : Int32 → (Nat → Nat) × Nat × (Nat → va_E) → Prop) : Prop :=
  ∀ sz, Met l y [.code y cc maxL ret] (wR d mc ms) (va_Pc av (wPre D cy g N f sz)) (va_Qi post (fun u t => wPn D (wA g N sz) u t) (wA g N sz)) mc ms (wA g N sz)
def cNr (l : Launch) (D : va_G) (cy : Nat → Nat) (y : MethodName) (cc : ByteArray) (maxL : Nat) (ret : Option FieldType) (d mc ms : Nat) (av : List Value) (g : Nat → Nat) (N : Nat) (f : Nat → va_E) (post : (Nat → Nat) × Nat × (Nat → va_E) → Nat → Prop) : Prop :=
  ∀ sz, Met l y [.code y cc maxL ret] (wR d mc ms) (va_Pc av (wPre D cy g N f sz)) (va_Qr (fun _ => True) (fun u a t => post u a ∧ wPn D (wA g N sz) u t) (wA g N sz)) mc ms (wA g N sz)
/-- those that may throw: px says of the exception's name and the contents behind it -/
def wXc (D : va_G) (g : Nat → Nat) (N sz : Nat) (px : String → (Nat → va_E) → Prop) : String → State → State → Prop := vx_X (fun _ : Nat → va_E => True) (fun E f' t => px E f' ∧ wPo D g N sz f' t) (wA g N sz)
def cXi (l : Launch) (D : va_G) (cy : Nat → Nat) (y : MethodName) (cc : ByteArray) (maxL : Nat) (ret : Option FieldType) (d mc ms : Nat) (av : List Value) (g : Nat → Nat) (N : Nat) (f : Nat → va_E) (post : Int32 → (Nat → va_E) → Prop) (px : String → (Nat → va_E) → Prop) : Prop :=
  ∀ sz, vx_Met l y [.code y cc maxL ret] (wR d mc ms) (va_Pc av (wPre D cy g N f sz)) (va_Qi post (fun f' t => wPo D g N sz f' t) (wA g N sz)) (wXc D g N sz px) mc ms (wA g N sz)
def cXv (l : Launch) (D : va_G) (cy : Nat → Nat) (y : MethodName) (cc : ByteArray) (maxL : Nat) (ret : Option FieldType) (d mc ms : Nat) (av : List Value) (g : Nat → Nat) (N : Nat) (f : Nat → va_E) (post : (Nat → va_E) → Prop) (px : String → (Nat → va_E) → Prop) : Prop :=
  ∀ sz, vx_Met l y [.code y cc maxL ret] (wR d mc ms) (va_Pc av (wPre D cy g N f sz)) (va_Qv post (fun f' t => wPo D g N sz f' t) (wA g N sz)) (wXc D g N sz px) mc ms (wA g N sz)
def cXNi (l : Launch) (D : va_G) (cy : Nat → Nat) (y : MethodName) (cc : ByteArray) (maxL : Nat) (ret : Option FieldType) (d mc ms : Nat) (av : List Value) (g : Nat → Nat) (N : Nat) (f : Nat → va_E) (post : Int32 → (Nat → Nat) × Nat × (Nat → va_E) → Prop) (px : String → (Nat → va_E) → Prop) : Prop :=
  ∀ sz, vx_Met l y [.code y cc maxL ret] (wR d mc ms) (va_Pc av (wPre D cy g N f sz)) (va_Qi post (fun u t => wPn D (wA g N sz) u t) (wA g N sz)) (wXc D g N sz px) mc ms (wA g N sz)
/-- the world at a point of a method -/
def Wd (D : va_G) (A : Nat → Prop) (H0 : Heap) (g : Nat → Nat) (N : Nat) (f : Nat → va_E) (H : Heap) (locs : List Loc) : Prop := va_P D vwCl (wd_l g N f) H ∧ va_D A (wd_l g N f) ∧ va_S A H0 H locs
/-- what a method's body knows of its machine -/
def wCx (p : Program) (l : Launch) (s : State) (m : MethodId) (args : Array Value) (c : Code) (meth : Method) (cc : ByteArray) (nL : Nat) (own : String) (D : va_G) (cy : Nat → Nat) (A : Nat → Prop) : Prop :=
  p.tables.exec = Jvm.exec ∧ c.code = cc ∧ c.maxLocals = nL ∧ s.vm.findClass own = some m.cls ∧ (∀ w ∈ wWords, w.before args s = true) ∧ wE D cy A s s.heap ∧ (∀ q, s.heap.size ≤ q → A q) ∧ meth.locks = false ∧ l.stackTraces = false
theorem wE.words {D : va_G} {cy : Nat → Nat} {A : Nat → Prop} {U : State} {H : Heap} (h : wE D cy A U H) {args : Array Value} : ∀ w ∈ wWords, w.before args U = true := fun w hw => by
  have hk := List.all_eq_true.mp wWords_ok w hw
  rw [Bool.and_eq_true] at hk
  exact va_Nw.use hk.2 (h.2.1 w hw)
theorem wA_top {g : Nat → Nat} {N sz q : Nat} (h : sz ≤ q) : wA g N sz q := Or.inr h
/-- the callee's part lies in the caller's -/
theorem Wd.sub {D : va_G} {A : Nat → Prop} {H0 H : Heap} {g : Nat → Nat} {N : Nat} {f : Nat → va_E} {locs : List Loc} (h : Wd D A H0 g N f H locs) (hA : ∀ q, H0.size ≤ q → A q) : ∀ q, wA g N H.size q → A q := by
  intro q hq
  rcases hq with ⟨k, hk, rfl⟩ | hq
  · exact h.2.1.2 k _ (wd_get hk)
  · exact hA q (Nat.le_trans h.2.2.1 hq)
theorem wPre_start {D : va_G} {cy : Nat → Nat} {g : Nat → Nat} {N : Nat} {f : Nat → va_E} {sz : Nat} {s : State} (h : wPre D cy g N f sz s) : Wd D (wA g N sz) s.heap g N f s.heap [] := by
  obtain ⟨rfl, h1, h2, h3⟩ := h
  refine ⟨h1, ⟨h2.1, fun k q hk => ?_⟩, va_S.rf⟩
  obtain ⟨hk9, rfl⟩ := wd_inv hk
  exact Or.inl ⟨k, hk9, rfl⟩
theorem wPre_blind {D : va_G} {cy : Nat → Nat} {g : Nat → Nat} {N : Nat} {f : Nat → va_E} {av : List Value} {sz : Nat} : FrameBlind (va_Pc av (wPre D cy g N f sz)) := fun _ _ _ _ h => ⟨h.1, h.2.1, h.2.2.1, h.2.2.2.1, h.2.2.2.2.calling⟩
theorem wPre_blind0 {D : va_G} {cy : Nat → Nat} {g : Nat → Nat} {N : Nat} {f : Nat → va_E} {av : List Value} : FrameBlind (va_Pc av (fun U => wPre D cy g N f U.heap.size U)) := fun _ _ _ _ h => ⟨h.1, h.2.1, h.2.2.1, h.2.2.2.1, h.2.2.2.2.calling⟩
/-- a callee's start, out of the caller's world -/
theorem Wd.pre {p : Program} {l : Launch} {s : State} {m : MethodId} {args : Array Value} {c : Code} {meth : Method} {cc : ByteArray} {nL : Nat} {own : String} {D : va_G} {cy : Nat → Nat} {A : Nat → Prop} {H : Heap} {g : Nat → Nat} {N : Nat} {f : Nat → va_E} {locs : List Loc} (C : wCx p l s m args c meth cc nL own D cy A) (h : Wd D A s.heap g N f H locs) {U : State} (hU : U.heap = H) (hW : s.WarmedH U.vm) : wPre D cy g N f H.size U := by
  obtain ⟨-, -, -, -, -, hE, hA, -⟩ := C
  refine ⟨by rw [hU], by rw [hU]; exact h.1, h.2.1.weaken (fun _ _ _ _ => trivial), ?_⟩
  rw [hU]
  exact hE.go hW h.2.2.2.1 (h.sub hA)

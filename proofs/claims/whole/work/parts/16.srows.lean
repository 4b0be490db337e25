section SRW
variable {p : Program} {l : Launch} {e : Env} {R : Room} {s : State} {m : MethodId} {args : Array Value} {below : List Frame} {meth : Method} {c : Code} {H : Heap} {locs : List Loc} {cells slots : Nat} {Q : State → Prop}
variable {cc : ByteArray} {nL : Nat} {own : String} {pc : Nat} {ls : Array Slot} {rest : List Value} {D : va_G} {cy : Nat → Nat} {A : Nat → Prop} {g : Nat → Nat} {N : Nat} {X : Nat → Nat → Int32}
theorem w_norm {x y : Int32} (h : x = y) (kk : W p l e R s m args below meth c H locs cells slots Q (F0 m pc ls (.int y :: rest))) : W p l e R s m args below meth c H locs cells slots Q (F0 m pc ls (.int x :: rest)) := by rw [h]; exact kk
theorem w_dup2 (hexec : p.tables.exec = Jvm.exec) (hb : c.code = cc) {v w : Value} (h1 : v.category = 1) (h2 : w.category = 1) (hdg : decode cc pc = .ok (.dup2, 1)) (k : W p l e R s m args below meth c H locs cells slots Q (F0 m (pc + 1) ls (w :: v :: w :: v :: rest))) : W p l e R s m args below meth c H locs cells slots Q (F0 m pc ls (w :: v :: rest)) := lv_dup2_11 hexec hb hdg h2 h1 k
/-- writes over the shape -/
theorem s_put (C : wCx p l s m args c meth cc nL own D cy A) (h : Wd D A s.heap g N (shp g cy X) H locs) {ci k j n index : Nat} {fs : List Value} (row : Nat → Int32) {v : Value} {ty : Nat → FieldType} {C0 : String} {T : u_T} (hk : k < N) (hf : shp g cy X k = .inr (ci, fs)) (hc : vwCl[ci]? = some (C0, T, n)) (hty : ∀ k, k < n → parseFieldDescriptor (T k).2.2.1 = some (ty k)) (hnm : ∀ a, a < n → ∀ b, b < n → a ≠ b → (T a).2.1 ≠ (T b).2.1) (hj : j < n) (hlink : (Cond.fieldLink own index (T j).1 (T j).2.1 (T j).2.2.1) ∈ wAll) (hfin : (T j).2.2.2 = false) (hn : narrow (ty j) v = v) (hfit : fits (ty j) v = true) (hl : j < fs.length) (he : sh g cy k row = .inr (ci, fs.set j v)) (hdg : decode cc pc = .ok (.putfield index, 3))
    (kk : ∀ (H1 : Heap) (locs1 : List Loc), Wd D A s.heap g N (shp g cy (up X k row)) H1 locs1 → W p l e R s m args below meth c H1 locs1 cells slots Q (F0 m (pc + 3) ls rest)) : W p l e R s m args below meth c H locs cells slots Q (F0 m pc ls (v :: .ref (g k) :: rest)) :=
  w_put C h _ hk hf hc hty hnm hj hlink hfin hn hfit hl rfl hdg fun H1 locs1 h1 => kk H1 locs1 (by rw [shp_up he] at h1; exact h1)
theorem s_putN (C : wCx p l s m args c meth cc nL own D cy A) (h : Wd D A s.heap g N (shp g cy X) H locs) {ci k j n index : Nat} {fs : List Value} (row : Nat → Int32) {v : Value} {ty : Nat → FieldType} {C0 host : String} {T : u_T} (hk : k < N) (hf : shp g cy X k = .inr (ci, fs)) (hc : vwCl[ci]? = some (C0, T, n)) (hty : ∀ k, k < n → parseFieldDescriptor (T k).2.2.1 = some (ty k)) (hnm : ∀ a, a < n → ∀ b, b < n → a ≠ b → (T a).2.1 ≠ (T b).2.1) (hj : j < n) (hlink : (Cond.fieldLinkNest own index (T j).1 (T j).2.1 (T j).2.2.1 host) ∈ wAll) (hfin : (T j).2.2.2 = false) (hn : narrow (ty j) v = v) (hfit : fits (ty j) v = true) (hl : j < fs.length) (he : sh g cy k row = .inr (ci, fs.set j v)) (hdg : decode cc pc = .ok (.putfield index, 3))
    (kk : ∀ (H1 : Heap) (locs1 : List Loc), Wd D A s.heap g N (shp g cy (up X k row)) H1 locs1 → W p l e R s m args below meth c H1 locs1 cells slots Q (F0 m (pc + 3) ls rest)) : W p l e R s m args below meth c H locs cells slots Q (F0 m pc ls (v :: .ref (g k) :: rest)) :=
  w_putN C h _ hk hf hc hty hnm hj hlink hfin hn hfit hl rfl hdg fun H1 locs1 h1 => kk H1 locs1 (by rw [shp_up he] at h1; exact h1)
theorem s_iast (C : wCx p l s m args c meth cc nL own D cy A) (h : Wd D A s.heap g N (shp g cy X) H locs) {k n : Nat} {a : Nat → Int32} (hk : k < N) (hf : ∀ r, sh g cy k r = .inl (cy 0, n, .inl r)) (ha : X k = a) {i x : Int32} (hin : ¬ (i < 0 ∨ n ≤ i.toNatClampNeg)) (hdg : decode cc pc = .ok (.iastore, 1))
    (kk : ∀ (H1 : Heap) (locs1 : List Loc) (w : Nat → Int32), w = upd a i.toNatClampNeg x → Wd D A s.heap g N (shp g cy (up X k w)) H1 locs1 → W p l e R s m args below meth c H1 locs1 cells slots Q (F0 m (pc + 1) ls rest)) : W p l e R s m args below meth c H locs cells slots Q (F0 m pc ls (.int x :: .int i :: .ref (g k) :: rest)) := by
  subst ha
  exact w_iast C h hk (hf _) hin hdg fun H1 locs1 h1 => kk H1 locs1 _ rfl (by rw [shp_up (hf _)] at h1; exact h1)
theorem s_nar {x : Int32} (h : x = 0 ∨ x = 1) : vp_nar .boolean x = x := by rcases h with rfl | rfl <;> rfl
theorem s_zast (C : wCx p l s m args c meth cc nL own D cy A) (h : Wd D A s.heap g N (shp g cy X) H locs) {k n : Nat} {a : Nat → Int32} (hk : k < N) (hf : ∀ r, sh g cy k r = .inl (cy 1, n, .inl r)) (ha : X k = a) {i x : Int32} (hx : x = 0 ∨ x = 1) (hin : ¬ (i < 0 ∨ n ≤ i.toNatClampNeg)) (hdg : decode cc pc = .ok (.bastore, 1))
    (kk : ∀ (H1 : Heap) (locs1 : List Loc) (w : Nat → Int32), w = upd a i.toNatClampNeg x → Wd D A s.heap g N (shp g cy (up X k w)) H1 locs1 → W p l e R s m args below meth c H1 locs1 cells slots Q (F0 m (pc + 1) ls rest)) : W p l e R s m args below meth c H locs cells slots Q (F0 m pc ls (.int x :: .int i :: .ref (g k) :: rest)) := by
  subst ha
  exact w_zast C h hk (hf _) (s_nar hx) hin hdg fun H1 locs1 h1 => kk H1 locs1 _ rfl (by rw [shp_up (hf _)] at h1; exact h1)
theorem s_iald (C : wCx p l s m args c meth cc nL own D cy A) (h : Wd D A s.heap g N (shp g cy X) H locs) {k n : Nat} {a : Nat → Int32} (hk : k < N) (hf : ∀ r, sh g cy k r = .inl (cy 0, n, .inl r)) (ha : X k = a) {i : Int32} (hin : ¬ (i < 0 ∨ n ≤ i.toNatClampNeg)) (hdg : decode cc pc = .ok (.iaload, 1))
    (kk : W p l e R s m args below meth c H locs cells slots Q (F0 m (pc + 1) ls (.int (a i.toNatClampNeg) :: rest))) : W p l e R s m args below meth c H locs cells slots Q (F0 m pc ls (.int i :: .ref (g k) :: rest)) := by
  subst ha
  exact w_iald C h hk (hf _) hin hdg kk
theorem s_zald (C : wCx p l s m args c meth cc nL own D cy A) (h : Wd D A s.heap g N (shp g cy X) H locs) {k n : Nat} {a : Nat → Int32} (hk : k < N) (hf : ∀ r, sh g cy k r = .inl (cy 1, n, .inl r)) (ha : X k = a) {i : Int32} (hin : ¬ (i < 0 ∨ n ≤ i.toNatClampNeg)) (hdg : decode cc pc = .ok (.baload, 1))
    (kk : W p l e R s m args below meth c H locs cells slots Q (F0 m (pc + 1) ls (.int (a i.toNatClampNeg) :: rest))) : W p l e R s m args below meth c H locs cells slots Q (F0 m pc ls (.int i :: .ref (g k) :: rest)) := by
  subst ha
  exact w_zald C h hk (hf _) hin hdg kk
/-- a rule's field -/
theorem s_getRN (C : wCx p l s m args c meth cc nL own D cy A) (h : Wd D A s.heap g N (shp g cy X) H locs) {RR : Nat → Nat → Int32} {t j index : Nat} {host : String} (ht : rkt X RR N t) (hj : j < 7) (hlink : (Cond.fieldLinkNest own index (TX4 j).1 (TX4 j).2.1 (TX4 j).2.2.1 host) ∈ wAll) (hdg : decode cc pc = .ok (.getfield index, 3))
    (kk : W p l e R s m args below meth c H locs cells slots Q (F0 m (pc + 3) ls (.int (RR t j) :: rest))) : W p l e R s m args below meth c H locs cells slots Q (F0 m pc ls (.ref (g t) :: rest)) := by
  refine w_getN C h (k := t) (ci := 5) (C0 := RX4) (T := TX4) (n := 7) (j := j) (v := .int (RR t j)) ht.2.1 (sh_rl g cy ht.1 (X t)) rfl hj hlink ?_ hdg kk
  rw [ht.2.2]
  match j, hj with
  | 0, _ => rfl
  | 1, _ => rfl
  | 2, _ => rfl
  | 3, _ => rfl
  | 4, _ => rfl
  | 5, _ => rfl
  | 6, _ => rfl
  | j + 7, hj => omega
theorem up_up (X : Nat → Nat → Int32) (k : Nat) (a b : Nat → Int32) : up (up X k a) k b = up X k b := by
  funext j
  by_cases h : j = k <;> simp [up, h]
end SRW

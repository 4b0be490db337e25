/-! MAKERS: the layer -/
theorem wE.z {D : va_G} {cy : Nat → Nat} {A : Nat → Prop} {U : State} {H : Heap} (h : wE D cy A U H) : va_Z "java/util/ArrayList" "DEFAULTCAPACITY_EMPTY_ELEMENTDATA" "[Ljava/lang/Object;" (.ref (cy 9)) A U H := h.2.2.2.2.2.2.1
theorem wE.t {D : va_G} {cy : Nat → Nat} {A : Nat → Prop} {U : State} {H : Heap} (h : wE D cy A U H) : va_T (.object "java/lang/Object") (cy 9) 0 (fun _ => .null) A U H := h.2.2.2.2.2.2.2.1
theorem wE.mi {D : va_G} {cy : Nat → Nat} {A : Nat → Prop} {U : State} {H : Heap} (h : wE D cy A U H) : va_Mi "[Ljava/lang/Object;" (cy 8) U := h.2.2.2.2.2.2.2.2.1
theorem wE.arr {D : va_G} {cy : Nat → Nat} {A : Nat → Prop} {U : State} {H : Heap} (h : wE D cy A U H) : ∀ ty, ty = .int ∨ ty = .boolean ∨ ty = .long → (Cond.arrayClass ty).before #[] U = true := h.2.2.2.2.2.2.2.2.2.1
theorem wE.j {D : va_G} {cy : Nat → Nat} {A : Nat → Prop} {U : State} {H : Heap} (h : wE D cy A U H) : wEj U := h.2.2.2.2.2.2.2.2.2.2
theorem va_RA.nm {U : State} {cA : ClassId} {ty : FieldType} (h : va_RA U cA ty) : U.vm.findClass ("[" ++ ty.toString) = some cA := by
  cases ty with
  | object C =>
    obtain ⟨kA, comp, h1, h2, h3, h4⟩ := h
    exact h4
  | _ => exact h
theorem va_K.same {D : va_G} {cl : List vw_C} {tys : List (ClassId × FieldType)} {U : State} {c1 c2 : ClassId} {ty : FieldType} {i j : Nat} (h : va_K D cl tys U) (h1 : tys[i]? = some (c1, ty)) (h2 : tys[j]? = some (c2, ty)) : c1 = c2 :=
  Option.some.inj ((va_RA.nm (h.2 i _ h1).2).symm.trans (va_RA.nm (h.2 j _ h2).2))
section MKL
variable {p : Program} {l : Launch} {e : Env} {R : Room} {s : State} {m : MethodId} {args : Array Value} {below : List Frame} {meth : Method} {c : Code} {H : Heap} {locs : List Loc} {cells slots : Nat} {Q : State → Prop}
variable {cc : ByteArray} {nL : Nat} {own : String} {pc : Nat} {ls : Array Slot} {rest : List Value} {D : va_G} {cy : Nat → Nat} {A : Nat → Prop} {g : Nat → Nat} {N : Nat} {f : Nat → va_E}
theorem w_objI (C : wCx p l s m args c meth cc nL own D cy A) {idx a : Nat} (hl : Cond.methodLink own idx Lib.objectInit ∈ wAll) (hsz : ls.size = nL) (hdg : decode cc pc = .ok (.invokespecial idx, 3)) (hf : 1 ≤ R.frames) (hR : (rest.map fun v => v.category).sum + 12 ≤ R.locals)
    (kk : W p l e R s m args below meth c H locs cells slots Q (F0 m (pc + 3) ls rest)) : W p l e R s m args below meth c H locs cells slots Q (F0 m pc ls (.ref a :: rest)) := by
  refine W.objInit (g := F0 m pc ls (.ref a :: rest)) (rest := rest) C.1 C.2.1 C.2.2.2.1 (C.w hl) (C.w k2) (C.w k3) rfl (by rw [C.2.2.1]; exact hsz) rfl hdg hf ?_ kk
  show 2 * 0 + _ + 12 ≤ _
  omega
theorem w_newq (C : wCx p l s m args c meth cc nL own D cy A) (h : Wd D A s.heap g N f H locs) {index : Nat} (hl : Cond.classLink own index "java/lang/Object" ∈ wAll) {n : Int32} {N' : Nat} (hn : ¬ n < 0) (hN : n.toNatClampNeg = N') (hbytes : N' * 4 ≤ 536870912) (hcells : cells + 1 ≤ R.cells) (hslots : slots + N' ≤ R.slots) (hdg : decode cc pc = .ok (.anewarray index, 3))
    (kk : ∀ (q : Nat) (H1 : Heap), Wd D A s.heap (va_up g N q) (N + 1) (va_up f N (.inl (cy 2, N', .inr (.inr (.inr (.inr (fun _ => none))))))) H1 locs → W p l e R s m args below meth c H1 locs (cells + 1) (slots + N') Q (F0 m (pc + 3) ls (.ref q :: rest))) : W p l e R s m args below meth c H locs cells slots Q (F0 m pc ls (.int n :: rest)) := by
  refine va_newq C.1 C.2.1 C.2.2.2.1 (C.w hl) C.2.2.2.2.2.1.j.1 C.2.2.2.2.2.1.1 h.1 h.2.1 h.2.2 C.2.2.2.2.2.2.1 hn hN hbytes hcells hslots hdg fun q cA H1 hK h1 h2 h3 => ?_
  have hc : cA = cy 2 := hK.same (i := 4) (j := 2) (ty := .object "java/lang/Object") rfl rfl
  subst hc
  rw [wd_push] at h1 h2
  exact kk q H1 ⟨h1, h2, h3⟩
theorem w_newa (C : wCx p l s m args c meth cc nL own D cy A) (h : Wd D A s.heap g N f H locs) {atype : ArrayType} {ty : FieldType} {t : Nat} (hty : newarray.typeOf atype = ty) (h3 : ty = .int ∨ ty = .boolean ∨ ty = .long) (ht : (wTy cy)[t]? = some (cy t, ty)) {n : Int32} {N' : Nat} {a0 : vp_A} (ha : ∀ cA : ClassId, vp_cell cA a0 = arrV cA N' (fun _ => defaultValue ty)) (hn : ¬ n < 0) (hN : n.toNatClampNeg = N') (hbytes : N' * componentBytes ty ≤ 536870912) (hcells : cells + 1 ≤ R.cells) (hslots : slots + N' ≤ R.slots) (hdg : decode cc pc = .ok (.newarray atype, 2))
    (kk : ∀ (q : Nat) (H1 : Heap), Wd D A s.heap (va_up g N q) (N + 1) (va_up f N (.inl (cy t, a0))) H1 locs → W p l e R s m args below meth c H1 locs (cells + 1) (slots + N') Q (F0 m (pc + 2) ls (.ref q :: rest))) : W p l e R s m args below meth c H locs cells slots Q (F0 m pc ls (.int n :: rest)) := by
  have harr : (Cond.arrayClass (newarray.typeOf atype)).before args s = true := by rw [hty]; exact C.2.2.2.2.2.1.arr ty h3
  refine va_newa C.1 C.2.1 harr hty C.2.2.2.2.2.1.1 h.1 h.2.1 h.2.2 C.2.2.2.2.2.2.1 ha hn hN hbytes hcells hslots hdg fun q cA H1 hK h1 h2 h3 => ?_
  have ht4 : (wTy cy ++ [(cA, ty)])[t]? = some (cy t, ty) := by
    rw [List.getElem?_append_left (by exact (List.getElem?_eq_some_iff.mp ht).1)]
    exact ht
  have hc : cA = cy t := hK.same (i := 4) (j := t) rfl ht4
  subst hc
  rw [wd_push] at h1 h2
  exact kk q H1 ⟨h1, h2, h3⟩
theorem w_newo (C : wCx p l s m args c meth cc nL own D cy A) (h : Wd D A s.heap g N f H locs) {C0 : String} {T : u_T} {n ci index : Nat} (ty : Nat → FieldType) (hty : ∀ k, k < n → parseFieldDescriptor (T k).2.2.1 = some (ty k)) (hcl : Cond.classLink own index C0 ∈ wAll) (hinst : Cond.instantiable C0 n ∈ wAll) (hini : Cond.initialized C0 ∈ wAll) (hc : vwCl[ci]? = some (C0, T, n)) {fs : List Value} (hfs : ∀ j, j < n → defaultValue (ty j) = vp_V fs j) (hcells : cells + 1 ≤ R.cells) (hslots : slots + n ≤ R.slots) (hdg : decode cc pc = .ok (.new index, 3))
    (kk : ∀ (q : Nat) (H1 : Heap), Wd D A s.heap (va_up g N q) (N + 1) (va_up f N (.inr (ci, fs))) H1 locs → W p l e R s m args below meth c H1 locs (cells + 1) (slots + n) Q (F0 m (pc + 3) ls (.ref q :: rest))) : W p l e R s m args below meth c H locs cells slots Q (F0 m pc ls rest) := by
  refine va_new C.1 C.2.1 (C.lay hc) (fun _ h => h) ty hty C.2.2.2.1 (C.w hcl) (C.w hinst) (C.w hini) C.2.2.2.2.2.1.1 h.1 h.2.1 h.2.2 C.2.2.2.2.2.2.1 hc hfs hcells hslots hdg fun q H1 h1 h2 h3 => ?_
  rw [wd_push] at h1 h2
  exact kk q H1 ⟨h1, h2, h3⟩
end MKL
theorem Wd.ext {D : va_G} {A : Nat → Prop} {H0 H : Heap} {g : Nat → Nat} {N : Nat} {f f' : Nat → va_E} {locs : List Loc} (h : Wd D A H0 g N f H locs) (hf : ∀ k, k < N → f k = f' k) : Wd D A H0 g N f' H locs := by
  have he : wd_l g N f = wd_l g N f' := by
    apply List.map_congr_left
    intro k hk
    rw [hf k (List.mem_range.mp hk)]
  unfold Wd at *
  rw [← he]
  exact h
def X00 : Nat → Nat → Int32 := fun _ _ => 0
/-- the cells that a cell names, and more, are below this -/
def mx (j : Nat) : Nat := match j with
  | 0 => 17
  | 1 => 3
  | 3 => 6
  | 6 => 12
  | 12 => 14
  | 14 => 16
  | 16 => 28
  | 17 => 21
  | 21 => 25
  | 25 => 27
  | 27 => 29
  | 29 => 46
  | _ => 0
theorem sh_gz_0 {g g1 cy : Nat → Nat} (h : ∀ i, i < 17 → g1 i = g i) : sh g1 cy 0 (fun _ => 0) = sh g cy 0 (fun _ => 0) := by
  rw [sh_0, sh_0, h 1 (by decide), h 3 (by decide), h 6 (by decide), h 12 (by decide), h 14 (by decide), h 16 (by decide)]
theorem sh_gz_1 {g g1 cy : Nat → Nat} (h : ∀ i, i < 3 → g1 i = g i) : sh g1 cy 1 (fun _ => 0) = sh g cy 1 (fun _ => 0) := by
  rw [sh_1, sh_1, h 2 (by decide)]
theorem sh_gz_3 {g g1 cy : Nat → Nat} (h : ∀ i, i < 6 → g1 i = g i) : sh g1 cy 3 (fun _ => 0) = sh g cy 3 (fun _ => 0) := by
  rw [sh_3, sh_3, h 4 (by decide), h 5 (by decide)]
theorem sh_gz_6 {g g1 cy : Nat → Nat} (h : ∀ i, i < 12 → g1 i = g i) : sh g1 cy 6 (fun _ => 0) = sh g cy 6 (fun _ => 0) := by
  rw [sh_6, sh_6, h 7 (by decide), h 8 (by decide), h 9 (by decide), h 10 (by decide), h 11 (by decide)]
theorem sh_gz_12 {g g1 cy : Nat → Nat} (h : ∀ i, i < 14 → g1 i = g i) : sh g1 cy 12 (fun _ => 0) = sh g cy 12 (fun _ => 0) := by
  rw [sh_12, sh_12, h 13 (by decide)]
theorem sh_gz_14 {g g1 cy : Nat → Nat} (h : ∀ i, i < 16 → g1 i = g i) : sh g1 cy 14 (fun _ => 0) = sh g cy 14 (fun _ => 0) := by
  rw [sh_14, sh_14, h 15 (by decide)]
theorem sh_gz_16 {g g1 cy : Nat → Nat} (h : ∀ i, i < 28 → g1 i = g i) : sh g1 cy 16 (fun _ => 0) = sh g cy 16 (fun _ => 0) := by
  rw [sh_16, sh_16, h 17 (by decide), h 21 (by decide), h 25 (by decide), h 27 (by decide)]
theorem sh_gz_17 {g g1 cy : Nat → Nat} (h : ∀ i, i < 21 → g1 i = g i) : sh g1 cy 17 (fun _ => 0) = sh g cy 17 (fun _ => 0) := by
  rw [sh_17, sh_17, h 18 (by decide), h 19 (by decide), h 20 (by decide)]
theorem sh_gz_21 {g g1 cy : Nat → Nat} (h : ∀ i, i < 25 → g1 i = g i) : sh g1 cy 21 (fun _ => 0) = sh g cy 21 (fun _ => 0) := by
  rw [sh_21, sh_21, h 22 (by decide), h 23 (by decide), h 24 (by decide)]
theorem sh_gz_25 {g g1 cy : Nat → Nat} (h : ∀ i, i < 27 → g1 i = g i) : sh g1 cy 25 (fun _ => 0) = sh g cy 25 (fun _ => 0) := by
  rw [sh_25, sh_25, h 26 (by decide)]
theorem sh_gz_27 {g g1 cy : Nat → Nat} (h : ∀ i, i < 29 → g1 i = g i) : sh g1 cy 27 (fun _ => 0) = sh g cy 27 (fun _ => 0) := by
  rw [sh_27, sh_27, h 28 (by decide)]
theorem sh_gz_29 {g g1 cy : Nat → Nat} (h : ∀ i, i < 46 → g1 i = g i) : sh g1 cy 29 (fun _ => 0) = sh g cy 29 (fun _ => 0) := by
  rw [sh_29, sh_29, h 30 (by decide), h 31 (by decide), h 32 (by decide), h 33 (by decide), h 34 (by decide), h 35 (by decide), h 36 (by decide), h 37 (by decide), h 38 (by decide), h 39 (by decide), h 40 (by decide), h 41 (by decide), h 42 (by decide), h 43 (by decide), h 44 (by decide), h 45 (by decide)]
theorem sh_gz {g g1 cy : Nat → Nat} {j : Nat} (hj : j < 47) (h : ∀ i, i < mx j → g1 i = g i) : sh g1 cy j (fun _ => 0) = sh g cy j (fun _ => 0) := by
  match j, hj with
  | 0, _ => exact sh_gz_0 h
  | 1, _ => exact sh_gz_1 h
  | 2, _ => exact rfl
  | 3, _ => exact sh_gz_3 h
  | 4, _ => exact rfl
  | 5, _ => exact rfl
  | 6, _ => exact sh_gz_6 h
  | 7, _ => exact rfl
  | 8, _ => exact rfl
  | 9, _ => exact rfl
  | 10, _ => exact rfl
  | 11, _ => exact rfl
  | 12, _ => exact sh_gz_12 h
  | 13, _ => exact rfl
  | 14, _ => exact sh_gz_14 h
  | 15, _ => exact rfl
  | 16, _ => exact sh_gz_16 h
  | 17, _ => exact sh_gz_17 h
  | 18, _ => exact rfl
  | 19, _ => exact rfl
  | 20, _ => exact rfl
  | 21, _ => exact sh_gz_21 h
  | 22, _ => exact rfl
  | 23, _ => exact rfl
  | 24, _ => exact rfl
  | 25, _ => exact sh_gz_25 h
  | 26, _ => exact rfl
  | 27, _ => exact sh_gz_27 h
  | 28, _ => exact rfl
  | 29, _ => exact sh_gz_29 h
  | 30, _ => exact rfl
  | 31, _ => exact rfl
  | 32, _ => exact rfl
  | 33, _ => exact rfl
  | 34, _ => exact rfl
  | 35, _ => exact rfl
  | 36, _ => exact rfl
  | 37, _ => exact rfl
  | 38, _ => exact rfl
  | 39, _ => exact rfl
  | 40, _ => exact rfl
  | 41, _ => exact rfl
  | 42, _ => exact rfl
  | 43, _ => exact rfl
  | 44, _ => exact rfl
  | 45, _ => exact rfl
  | 46, _ => exact rfl
  | j + 47, hj => omega
def mkS (cy g0 : Nat → Nat) (f0 : Nat → va_E) (k N : Nat) (g : Nat → Nat) (f : Nat → va_E) : Prop := (∀ j, j ≤ k → g j = g0 j) ∧ (∀ j, j < k → f j = f0 j) ∧ ∀ j, k < j → j < N → f j = sh g cy j (fun _ => 0)
def mkP (cy g0 : Nat → Nat) (f0 : Nat → va_E) (k N : Nat) (u : (Nat → Nat) × Nat × (Nat → va_E)) : Prop := u.2.1 = N ∧ mkS cy g0 f0 k N u.1 u.2.2 ∧ u.2.2 k = sh u.1 cy k (fun _ => 0)
/-- all named cells stand -/
def mkC (k N : Nat) : Prop := ∀ j, k < j → j < N → mx j ≤ N
theorem mkC_of {k N : Nat} (h : (List.range N).all (fun j => decide (j ≤ k) || decide (mx j ≤ N)) = true) : mkC k N := fun j h1 h2 => by
  have := List.all_eq_true.mp h j (List.mem_range.mpr h2)
  simp only [Bool.or_eq_true, decide_eq_true_eq] at this
  omega
theorem mkS_0 (cy g0 : Nat → Nat) (f0 : Nat → va_E) (k : Nat) : mkS cy g0 f0 k (k + 1) g0 f0 := ⟨fun _ _ => rfl, fun _ _ => rfl, fun j h1 h2 => by omega⟩
theorem mkS_up {cy g0 g : Nat → Nat} {f0 f : Nat → va_E} {k N : Nat} {x : va_E} (h : mkS cy g0 f0 k N g f) : mkS cy g0 f0 k N g (va_up f k x) :=
  ⟨h.1, fun j hj => (va_up_ne _ _ (by omega)).trans (h.2.1 j hj), fun j h1 h2 => (va_up_ne _ _ (by omega)).trans (h.2.2 j h1 h2)⟩
/-- an array made -/
theorem mkS_arr {cy g0 g : Nat → Nat} {f0 f : Nat → va_E} {k N q : Nat} {x : va_E} (h : mkS cy g0 f0 k N g f) (hk : k < N) (hN : N < 47) (hC : mkC k N) (hx : ∀ g1, sh g1 cy N (fun _ => 0) = x) : mkS cy g0 f0 k (N + 1) (va_up g N q) (va_up f N x) := by
  refine ⟨fun j hj => (va_up_ne _ _ (by omega)).trans (h.1 j hj), fun j hj => (va_up_ne _ _ (by omega)).trans (h.2.1 j hj), fun j h1 h2 => ?_⟩
  by_cases hj : j = N
  · subst hj; rw [va_up_self, hx]
  · rw [va_up_ne _ _ hj, h.2.2 j h1 (by omega)]
    exact (sh_gz (by omega) (fun i hi => va_up_ne _ _ (by have := hC j h1 (by omega); omega))).symm
/-- an object made, by its maker -/
theorem mkS_obj {cy g0 g g1 : Nat → Nat} {f0 f f1 : Nat → va_E} {k N N1 M q : Nat} {x : va_E} (h : mkS cy g0 f0 k N g f) (hk : k < N) (hM : M ≤ 47) (hC : mkC k N) (hp : mkP cy (va_up g N q) (va_up f N x) N M (g1, N1, f1)) (hNM : N < M) : N1 = M ∧ mkS cy g0 f0 k M g1 f1 ∧ (∀ i, i < N → g1 i = g i) ∧ g1 N = q ∧ f1 k = f k := by
  obtain ⟨h1, ⟨h2, h3, h4⟩, h5⟩ := hp
  have e1 : ∀ i, i < N → g1 i = g i := fun i hi => (h2 i (by omega)).trans (va_up_ne _ _ (by omega))
  have e2 : ∀ i, i < N → f1 i = f i := fun i hi => (h3 i hi).trans (va_up_ne _ _ (by omega))
  refine ⟨h1, ⟨fun j hj => (e1 j (by omega)).trans (h.1 j hj), fun j hj => (e2 j (by omega)).trans (h.2.1 j hj), fun j hj1 hj2 => ?_⟩, e1, (h2 N (Nat.le_refl _)).trans (va_up_self _ _ _), e2 k hk⟩
  by_cases c1 : j < N
  · rw [e2 j c1, h.2.2 j hj1 c1]
    exact (sh_gz (by omega) (fun i hi => e1 i (by have := hC j hj1 c1; omega))).symm
  · by_cases c2 : j = N
    · subst c2; exact h5
    · exact h4 j (by omega) hj2

section WCL
variable {p : Program} {l : Launch} {e : Env} {R : Room} {s : State} {m : MethodId} {args : Array Value} {below : List Frame} {meth : Method} {c : Code} {H : Heap} {locs : List Loc} {cells slots : Nat} {Q : State → Prop}
variable {cc : ByteArray} {nL : Nat} {own : String} {pc : Nat} {ls : Array Slot} {rest st0 : List Value} {D : va_G} {cy : Nat → Nat} {A : Nat → Prop} {g : Nat → Nat} {N : Nat} {f : Nat → va_E}
variable {y : MethodName} {bytes : ByteArray} {maxL : Nat} {ret : Option FieldType} {n index d dc mc ms : Nat} {host : String} {As : List Value} {k ci n0 : Nat} {fs : List Value} {C0 : String} {T : u_T}
theorem w_blindR : FrameBlind (va_Pc As (fun U => wPre D cy g N f U.heap.size U)) := wPre_blind0
/-- calls of readers -/
theorem w_vRi {post : Int32 → Prop} (C : wCx p l s m args c meth cc nL own D cy A) (h : Wd D A s.heap g N f H locs) (b : wBV y bytes maxL ret n) (hl : Cond.methodLink own index y ∈ wAll) (hk : k < N) (hf : f k = .inr (ci, fs)) (hc : vwCl[ci]? = some (y.cls, T, n0)) (hM : cRi l D cy y bytes maxL ret dc (.ref (g k) :: As) g N f post) (hst : st0 = As.reverse ++ .ref (g k) :: rest) (hn : As.length = n) (hdg : decode cc pc = .ok (.invokevirtual index, 3)) (hR : R.frames = d ∧ R.locals = 40 * d) (hd : dc + 1 ≤ d) (hsz : ls.size = nL) (hW : (rest.map fun v => v.category).sum ≤ 8) (hfit : cells ≤ R.cells ∧ slots ≤ R.slots)
    (kk : ∀ r : Int32, post r → W p l e R s m args below meth c H locs cells slots Q (F0 m (pc + 3) ls (.int r :: rest))) : W p l e R s m args below meth c H locs cells slots Q (F0 m pc ls st0) := by
  refine vp_callSi (W.runV (As := As) (rest := rest) (b := g k) (C := y.cls) C.fix hM ⟨w_cb C b.2.1 b.2.2.1 b.2.2.2.1 b.2.2.2.2.1 b.2.2.2.2.2 hl hR hd, C.w b.1.1, C.w b.1.2⟩ ⟨wPre_blind0, w_recv C h hk hf hc, fun U hU hW => ⟨rfl, ?_⟩⟩ rfl hn hsz hst (lv_room hW) hdg hfit) kk
  show wPre D cy g N f (Array.size U.heap) U; rw [hU]; exact h.pre C hU hW
theorem w_vRr {post : Nat → Prop} (C : wCx p l s m args c meth cc nL own D cy A) (h : Wd D A s.heap g N f H locs) (b : wBV y bytes maxL ret n) (hl : Cond.methodLink own index y ∈ wAll) (hk : k < N) (hf : f k = .inr (ci, fs)) (hc : vwCl[ci]? = some (y.cls, T, n0)) (hM : cRr l D cy y bytes maxL ret dc (.ref (g k) :: As) g N f post) (hst : st0 = As.reverse ++ .ref (g k) :: rest) (hn : As.length = n) (hdg : decode cc pc = .ok (.invokevirtual index, 3)) (hR : R.frames = d ∧ R.locals = 40 * d) (hd : dc + 1 ≤ d) (hsz : ls.size = nL) (hW : (rest.map fun v => v.category).sum ≤ 8) (hfit : cells ≤ R.cells ∧ slots ≤ R.slots)
    (kk : ∀ r : Nat, post r → W p l e R s m args below meth c H locs cells slots Q (F0 m (pc + 3) ls (.ref (g r) :: rest))) : W p l e R s m args below meth c H locs cells slots Q (F0 m pc ls st0) := by
  refine va_csr (W.runV (As := As) (rest := rest) (b := g k) (C := y.cls) C.fix hM ⟨w_cb C b.2.1 b.2.2.1 b.2.2.2.1 b.2.2.2.2.1 b.2.2.2.2.2 hl hR hd, C.w b.1.1, C.w b.1.2⟩ ⟨wPre_blind0, w_recv C h hk hf hc, fun U hU hW => ⟨rfl, ?_⟩⟩ rfl hn hsz hst (lv_room hW) hdg hfit) kk
  show wPre D cy g N f (Array.size U.heap) U; rw [hU]; exact h.pre C hU hW
theorem w_sRi {post : Int32 → Prop} (C : wCx p l s m args c meth cc nL own D cy A) (h : Wd D A s.heap g N f H locs) (b : wBS y bytes maxL ret n) (hl : Cond.methodLink own index y ∈ wAll) (hM : cRi l D cy y bytes maxL ret dc As g N f post) (hst : st0 = As.reverse ++ rest) (hn : As.length = n) (hdg : decode cc pc = .ok (.invokestatic index, 3)) (hR : R.frames = d ∧ R.locals = 40 * d) (hd : dc + 1 ≤ d) (hsz : ls.size = nL) (hW : (rest.map fun v => v.category).sum ≤ 8) (hfit : cells ≤ R.cells ∧ slots ≤ R.slots)
    (kk : ∀ r : Int32, post r → W p l e R s m args below meth c H locs cells slots Q (F0 m (pc + 3) ls (.int r :: rest))) : W p l e R s m args below meth c H locs cells slots Q (F0 m pc ls st0) := by
  refine vp_callSi (W.runS (As := As) (rest := rest) C.fix hM ⟨w_cb C b.2.1 b.2.2.1 b.2.2.2.1 b.2.2.2.2.1 b.2.2.2.2.2 hl hR hd, C.w b.1⟩ ⟨wPre_blind0, fun U hU hW => ⟨rfl, ?_⟩⟩ rfl hn hsz hst (lv_room hW) hdg hfit) kk
  show wPre D cy g N f (Array.size U.heap) U; rw [hU]; exact h.pre C hU hW
/-- calls of writers -/
theorem w_vWi {post : Int32 → (Nat → va_E) → Prop} (C : wCx p l s m args c meth cc nL own D cy A) (h : Wd D A s.heap g N f H locs) (b : wBV y bytes maxL ret n) (hl : Cond.methodLink own index y ∈ wAll) (hk : k < N) (hf : f k = .inr (ci, fs)) (hc : vwCl[ci]? = some (y.cls, T, n0)) (hM : cWi l D cy y bytes maxL ret dc mc ms (.ref (g k) :: As) g N f post) (hst : st0 = As.reverse ++ .ref (g k) :: rest) (hn : As.length = n) (hdg : decode cc pc = .ok (.invokevirtual index, 3)) (hR : R.frames = d ∧ R.locals = 40 * d) (hd : dc + 1 ≤ d) (hsz : ls.size = nL) (hW : (rest.map fun v => v.category).sum ≤ 8) (hfit : cells + mc ≤ R.cells ∧ slots + ms ≤ R.slots)
    (kk : ∀ (r : Int32) (f1 : Nat → va_E) (H1 : Heap) (locs1 : List Loc), post r f1 → Wd D A s.heap g N f1 H1 locs1 → W p l e R s m args below meth c H1 locs1 (cells + mc) (slots + ms) Q (F0 m (pc + 3) ls (.int r :: rest))) : W p l e R s m args below meth c H locs cells slots Q (F0 m pc ls st0) := by
  have hsub := h.sub C.2.2.2.2.2.2.1
  refine va_calli (va_runV (As := As) (rest := rest) (b := g k) (C := y.cls) C.fix (hM H.size) ⟨w_cb C b.2.1 b.2.2.1 b.2.2.2.1 b.2.2.2.2.1 b.2.2.2.2.2 hl hR hd, C.w b.1.1, C.w b.1.2⟩ ⟨wPre_blind, w_recv C h hk hf hc, fun U hU hW => ⟨rfl, h.pre C hU hW⟩⟩ rfl hn hsz hst (lv_room hW) hdg hfit) h.2.2 (fun q _ hq => hsub q hq) hsub (fun r u t H1 locs1 ht _ hp hB _ _ hS => ?_)
  obtain ⟨hP1, hD1⟩ := hB
  rw [ht] at hP1
  exact kk r u H1 locs1 hp ⟨hP1, hD1.weaken (fun _ q _ hq => hsub q.1 hq), hS⟩
theorem w_vWv {post : (Nat → va_E) → Prop} (C : wCx p l s m args c meth cc nL own D cy A) (h : Wd D A s.heap g N f H locs) (b : wBV y bytes maxL ret n) (hl : Cond.methodLink own index y ∈ wAll) (hk : k < N) (hf : f k = .inr (ci, fs)) (hc : vwCl[ci]? = some (y.cls, T, n0)) (hM : cWv l D cy y bytes maxL ret dc mc ms (.ref (g k) :: As) g N f post) (hst : st0 = As.reverse ++ .ref (g k) :: rest) (hn : As.length = n) (hdg : decode cc pc = .ok (.invokevirtual index, 3)) (hR : R.frames = d ∧ R.locals = 40 * d) (hd : dc + 1 ≤ d) (hsz : ls.size = nL) (hW : (rest.map fun v => v.category).sum ≤ 8) (hfit : cells + mc ≤ R.cells ∧ slots + ms ≤ R.slots)
    (kk : ∀ (f1 : Nat → va_E) (H1 : Heap) (locs1 : List Loc), post f1 → Wd D A s.heap g N f1 H1 locs1 → W p l e R s m args below meth c H1 locs1 (cells + mc) (slots + ms) Q (F0 m (pc + 3) ls rest)) : W p l e R s m args below meth c H locs cells slots Q (F0 m pc ls st0) := by
  have hsub := h.sub C.2.2.2.2.2.2.1
  refine va_callv (va_runV (As := As) (rest := rest) (b := g k) (C := y.cls) C.fix (hM H.size) ⟨w_cb C b.2.1 b.2.2.1 b.2.2.2.1 b.2.2.2.2.1 b.2.2.2.2.2 hl hR hd, C.w b.1.1, C.w b.1.2⟩ ⟨wPre_blind, w_recv C h hk hf hc, fun U hU hW => ⟨rfl, h.pre C hU hW⟩⟩ rfl hn hsz hst (lv_room hW) hdg hfit) h.2.2 (fun q _ hq => hsub q hq) hsub (fun u t H1 locs1 ht _ hp hB _ _ hS => ?_)
  obtain ⟨hP1, hD1⟩ := hB
  rw [ht] at hP1
  exact kk u H1 locs1 hp ⟨hP1, hD1.weaken (fun _ q _ hq => hsub q.1 hq), hS⟩
theorem w_sWv {post : (Nat → va_E) → Prop} (C : wCx p l s m args c meth cc nL own D cy A) (h : Wd D A s.heap g N f H locs) (b : wBS y bytes maxL ret n) (hl : Cond.methodLink own index y ∈ wAll) (hM : cWv l D cy y bytes maxL ret dc mc ms As g N f post) (hst : st0 = As.reverse ++ rest) (hn : As.length = n) (hdg : decode cc pc = .ok (.invokestatic index, 3)) (hR : R.frames = d ∧ R.locals = 40 * d) (hd : dc + 1 ≤ d) (hsz : ls.size = nL) (hW : (rest.map fun v => v.category).sum ≤ 8) (hfit : cells + mc ≤ R.cells ∧ slots + ms ≤ R.slots)
    (kk : ∀ (f1 : Nat → va_E) (H1 : Heap) (locs1 : List Loc), post f1 → Wd D A s.heap g N f1 H1 locs1 → W p l e R s m args below meth c H1 locs1 (cells + mc) (slots + ms) Q (F0 m (pc + 3) ls rest)) : W p l e R s m args below meth c H locs cells slots Q (F0 m pc ls st0) := by
  have hsub := h.sub C.2.2.2.2.2.2.1
  refine va_callv (va_runS (As := As) (rest := rest) C.fix (hM H.size) ⟨w_cb C b.2.1 b.2.2.1 b.2.2.2.1 b.2.2.2.2.1 b.2.2.2.2.2 hl hR hd, C.w b.1⟩ ⟨wPre_blind, fun U hU hW => ⟨rfl, h.pre C hU hW⟩⟩ rfl hn hsz hst (lv_room hW) hdg hfit) h.2.2 (fun q _ hq => hsub q hq) hsub (fun u t H1 locs1 ht _ hp hB _ _ hS => ?_)
  obtain ⟨hP1, hD1⟩ := hB
  rw [ht] at hP1
  exact kk u H1 locs1 hp ⟨hP1, hD1.weaken (fun _ q _ hq => hsub q.1 hq), hS⟩
theorem w_nRi {post : Int32 → Prop} (C : wCx p l s m args c meth cc nL own D cy A) (h : Wd D A s.heap g N f H locs) (b : wBS y bytes maxL ret n) (hl : Cond.methodLinkNest own index y host ∈ wAll) (hM : cRi l D cy y bytes maxL ret dc As g N f post) (hst : st0 = As.reverse ++ rest) (hn : As.length = n) (hdg : decode cc pc = .ok (.invokestatic index, 3)) (hR : R.frames = d ∧ R.locals = 40 * d) (hd : dc + 1 ≤ d) (hsz : ls.size = nL) (hW : (rest.map fun v => v.category).sum ≤ 8) (hfit : cells ≤ R.cells ∧ slots ≤ R.slots)
    (kk : ∀ r : Int32, post r → W p l e R s m args below meth c H locs cells slots Q (F0 m (pc + 3) ls (.int r :: rest))) : W p l e R s m args below meth c H locs cells slots Q (F0 m pc ls st0) := by
  refine vp_callSi (va_Run.run (va_runSN (As := As) (rest := rest) (host := host) C.fix hM ⟨w_cn C b.2.1 b.2.2.1 b.2.2.2.1 b.2.2.2.2.1 b.2.2.2.2.2 hl hR hd, C.w b.1, trivial⟩ ⟨wPre_blind0, fun U hU hW => ⟨rfl, ?_⟩⟩ rfl hn hsz hst (lv_room hW) hdg hfit)) kk
  show wPre D cy g N f (Array.size U.heap) U; rw [hU]; exact h.pre C hU hW
/-- makers -/
theorem w_iNv {post : (Nat → Nat) × Nat × (Nat → va_E) → Prop} (C : wCx p l s m args c meth cc nL own D cy A) (h : Wd D A s.heap g N f H locs) (b : wBI y bytes maxL n) (hl : Cond.methodLink own index y ∈ wAll) (hM : cNv l D cy y bytes maxL none dc mc ms (.ref (g k) :: As) g N f post) (hst : st0 = As.reverse ++ .ref (g k) :: rest) (hn : As.length = n) (hdg : decode cc pc = .ok (.invokespecial index, 3)) (hR : R.frames = d ∧ R.locals = 40 * d) (hd : dc + 1 ≤ d) (hsz : ls.size = nL) (hW : (rest.map fun v => v.category).sum ≤ 8) (hfit : cells + mc ≤ R.cells ∧ slots + ms ≤ R.slots)
    (kk : ∀ (g1 : Nat → Nat) (N1 : Nat) (f1 : Nat → va_E) (H1 : Heap) (locs1 : List Loc), post (g1, N1, f1) → Wd D A s.heap g1 N1 f1 H1 locs1 → W p l e R s m args below meth c H1 locs1 (cells + mc) (slots + ms) Q (F0 m (pc + 3) ls rest)) : W p l e R s m args below meth c H locs cells slots Q (F0 m pc ls st0) := by
  have hsub := h.sub C.2.2.2.2.2.2.1
  refine va_callv (va_runI (As := As) (rest := rest) (b := g k) C.fix (hM H.size) ⟨w_cb C b.2.1 b.2.2.1 b.2.2.2.1 b.2.2.2.2.1 b.2.2.2.2.2 hl hR hd, b.1.2, C.w b.1.1⟩ ⟨wPre_blind, fun U hU hW => ⟨rfl, h.pre C hU hW⟩⟩ rfl hn hsz hst (lv_room hW) hdg hfit) h.2.2 (fun q _ hq => hsub q hq) hsub (fun u t H1 locs1 ht _ hp hB _ _ hS => ?_)
  obtain ⟨hP1, hD1⟩ := hB
  rw [ht] at hP1
  exact kk u.1 u.2.1 u.2.2 H1 locs1 hp ⟨hP1, hD1.weaken (fun _ q _ hq => hsub q.1 hq), hS⟩
theorem w_iWv {post : (Nat → va_E) → Prop} (C : wCx p l s m args c meth cc nL own D cy A) (h : Wd D A s.heap g N f H locs) (b : wBI y bytes maxL n) (hl : Cond.methodLink own index y ∈ wAll) (hM : cWv l D cy y bytes maxL none dc mc ms (.ref (g k) :: As) g N f post) (hst : st0 = As.reverse ++ .ref (g k) :: rest) (hn : As.length = n) (hdg : decode cc pc = .ok (.invokespecial index, 3)) (hR : R.frames = d ∧ R.locals = 40 * d) (hd : dc + 1 ≤ d) (hsz : ls.size = nL) (hW : (rest.map fun v => v.category).sum ≤ 8) (hfit : cells + mc ≤ R.cells ∧ slots + ms ≤ R.slots)
    (kk : ∀ (f1 : Nat → va_E) (H1 : Heap) (locs1 : List Loc), post f1 → Wd D A s.heap g N f1 H1 locs1 → W p l e R s m args below meth c H1 locs1 (cells + mc) (slots + ms) Q (F0 m (pc + 3) ls rest)) : W p l e R s m args below meth c H locs cells slots Q (F0 m pc ls st0) := by
  have hsub := h.sub C.2.2.2.2.2.2.1
  refine va_callv (va_runI (As := As) (rest := rest) (b := g k) C.fix (hM H.size) ⟨w_cb C b.2.1 b.2.2.1 b.2.2.2.1 b.2.2.2.2.1 b.2.2.2.2.2 hl hR hd, b.1.2, C.w b.1.1⟩ ⟨wPre_blind, fun U hU hW => ⟨rfl, h.pre C hU hW⟩⟩ rfl hn hsz hst (lv_room hW) hdg hfit) h.2.2 (fun q _ hq => hsub q hq) hsub (fun u t H1 locs1 ht _ hp hB _ _ hS => ?_)
  obtain ⟨hP1, hD1⟩ := hB
  rw [ht] at hP1
  exact kk u H1 locs1 hp ⟨hP1, hD1.weaken (fun _ q _ hq => hsub q.1 hq), hS⟩
theorem w_inNv {post : (Nat → Nat) × Nat × (Nat → va_E) → Prop} (C : wCx p l s m args c meth cc nL own D cy A) (h : Wd D A s.heap g N f H locs) (b : wBI y bytes maxL n) (hl : Cond.methodLinkNest own index y host ∈ wAll) (hM : cNv l D cy y bytes maxL none dc mc ms (.ref (g k) :: As) g N f post) (hst : st0 = As.reverse ++ .ref (g k) :: rest) (hn : As.length = n) (hdg : decode cc pc = .ok (.invokespecial index, 3)) (hR : R.frames = d ∧ R.locals = 40 * d) (hd : dc + 1 ≤ d) (hsz : ls.size = nL) (hW : (rest.map fun v => v.category).sum ≤ 8) (hfit : cells + mc ≤ R.cells ∧ slots + ms ≤ R.slots)
    (kk : ∀ (g1 : Nat → Nat) (N1 : Nat) (f1 : Nat → va_E) (H1 : Heap) (locs1 : List Loc), post (g1, N1, f1) → Wd D A s.heap g1 N1 f1 H1 locs1 → W p l e R s m args below meth c H1 locs1 (cells + mc) (slots + ms) Q (F0 m (pc + 3) ls rest)) : W p l e R s m args below meth c H locs cells slots Q (F0 m pc ls st0) := by
  have hsub := h.sub C.2.2.2.2.2.2.1
  refine va_callv (va_runIN (As := As) (rest := rest) (b := g k) (host := host) C.fix (hM H.size) ⟨w_cn C b.2.1 b.2.2.1 b.2.2.2.1 b.2.2.2.2.1 b.2.2.2.2.2 hl hR hd, b.1.2, C.w b.1.1⟩ ⟨wPre_blind, fun U hU hW => ⟨rfl, h.pre C hU hW⟩⟩ rfl hn hsz hst (lv_room hW) hdg hfit) h.2.2 (fun q _ hq => hsub q hq) hsub (fun u t H1 locs1 ht _ hp hB _ _ hS => ?_)
  obtain ⟨hP1, hD1⟩ := hB
  rw [ht] at hP1
  exact kk u.1 u.2.1 u.2.2 H1 locs1 hp ⟨hP1, hD1.weaken (fun _ q _ hq => hsub q.1 hq), hS⟩
/-- calls that may throw -/
theorem w_vXi {post : Int32 → (Nat → va_E) → Prop} {px : String → (Nat → va_E) → Prop} (C : wCx p l s m args c meth cc nL own D cy A) (h : Wd D A s.heap g N f H locs) (b : wBV y bytes maxL ret n) (hl : Cond.methodLink own index y ∈ wAll) (hk : k < N) (hf : f k = .inr (ci, fs)) (hc : vwCl[ci]? = some (y.cls, T, n0)) (hM : cXi l D cy y bytes maxL ret dc mc ms (.ref (g k) :: As) g N f post px) (hst : st0 = As.reverse ++ .ref (g k) :: rest) (hn : As.length = n) (hdg : decode cc pc = .ok (.invokevirtual index, 3)) (hR : R.frames = d ∧ R.locals = 40 * d) (hd : dc + 1 ≤ d) (hsz : ls.size = nL) (hW : (rest.map fun v => v.category).sum ≤ 8) (hfit : cells + mc ≤ R.cells ∧ slots + ms ≤ R.slots)
    (kx : ∀ (E : String) (ce : Cell) (q9 : Addr) (f1 : Nat → va_E) (H1 : Heap) (locs1 : List Loc), px E f1 → Wd D A s.heap g N f1 H1 locs1 → H1[q9]? = some ce → ce.vm = .none → s.vm.findClass E = some ce.cls → vx_W p l e R s m args below meth c H1 locs1 (cells + mc) (slots + ms) Q (F0 m pc ls rest) q9)
    (kk : ∀ (r : Int32) (f1 : Nat → va_E) (H1 : Heap) (locs1 : List Loc), post r f1 → Wd D A s.heap g N f1 H1 locs1 → W p l e R s m args below meth c H1 locs1 (cells + mc) (slots + ms) Q (F0 m (pc + 3) ls (.int r :: rest))) : W p l e R s m args below meth c H locs cells slots Q (F0 m pc ls st0) := by
  have hsub := h.sub C.2.2.2.2.2.2.1
  refine vx_calli (vx_runV (As := As) (rest := rest) (b := g k) (C := y.cls) C.fix (hM H.size) ⟨w_cb C b.2.1 b.2.2.1 b.2.2.2.1 b.2.2.2.2.1 b.2.2.2.2.2 hl hR hd, C.w b.1.1, C.w b.1.2⟩ ⟨wPre_blind, w_recv C h hk hf hc, fun U hU hW => ⟨rfl, h.pre C hU hW⟩⟩ rfl hn hsz hst (lv_room hW) hdg hfit) h.2.2 (fun q _ hq => hsub q hq) hsub (fun q _ hq => hsub q hq) (fun E ce q9 u t H1 locs1 ht _ _ hB _ _ hS h1 h2 h3 => ?_) (fun r u t H1 locs1 ht _ hp hB _ _ hS => ?_)
  · obtain ⟨hp, hP1, hD1⟩ := hB
    rw [ht] at hP1
    exact kx E ce q9 u H1 locs1 hp ⟨hP1, hD1.weaken (fun _ q _ hq => hsub q.1 hq), hS⟩ h1 h2 h3
  · obtain ⟨hP1, hD1⟩ := hB
    rw [ht] at hP1
    exact kk r u H1 locs1 hp ⟨hP1, hD1.weaken (fun _ q _ hq => hsub q.1 hq), hS⟩
theorem w_vXNi {post : Int32 → (Nat → Nat) × Nat × (Nat → va_E) → Prop} {px : String → (Nat → va_E) → Prop} (C : wCx p l s m args c meth cc nL own D cy A) (h : Wd D A s.heap g N f H locs) (b : wBV y bytes maxL ret n) (hl : Cond.methodLink own index y ∈ wAll) (hk : k < N) (hf : f k = .inr (ci, fs)) (hc : vwCl[ci]? = some (y.cls, T, n0)) (hM : cXNi l D cy y bytes maxL ret dc mc ms (.ref (g k) :: As) g N f post px) (hst : st0 = As.reverse ++ .ref (g k) :: rest) (hn : As.length = n) (hdg : decode cc pc = .ok (.invokevirtual index, 3)) (hR : R.frames = d ∧ R.locals = 40 * d) (hd : dc + 1 ≤ d) (hsz : ls.size = nL) (hW : (rest.map fun v => v.category).sum ≤ 8) (hfit : cells + mc ≤ R.cells ∧ slots + ms ≤ R.slots)
    (kx : ∀ (E : String) (ce : Cell) (q9 : Addr) (f1 : Nat → va_E) (H1 : Heap) (locs1 : List Loc), px E f1 → Wd D A s.heap g N f1 H1 locs1 → H1[q9]? = some ce → ce.vm = .none → s.vm.findClass E = some ce.cls → vx_W p l e R s m args below meth c H1 locs1 (cells + mc) (slots + ms) Q (F0 m pc ls rest) q9)
    (kk : ∀ (r : Int32) (g1 : Nat → Nat) (N1 : Nat) (f1 : Nat → va_E) (H1 : Heap) (locs1 : List Loc), post r (g1, N1, f1) → Wd D A s.heap g1 N1 f1 H1 locs1 → W p l e R s m args below meth c H1 locs1 (cells + mc) (slots + ms) Q (F0 m (pc + 3) ls (.int r :: rest))) : W p l e R s m args below meth c H locs cells slots Q (F0 m pc ls st0) := by
  have hsub := h.sub C.2.2.2.2.2.2.1
  refine vx_calli (vx_runV (As := As) (rest := rest) (b := g k) (C := y.cls) C.fix (hM H.size) ⟨w_cb C b.2.1 b.2.2.1 b.2.2.2.1 b.2.2.2.2.1 b.2.2.2.2.2 hl hR hd, C.w b.1.1, C.w b.1.2⟩ ⟨wPre_blind, w_recv C h hk hf hc, fun U hU hW => ⟨rfl, h.pre C hU hW⟩⟩ rfl hn hsz hst (lv_room hW) hdg hfit) h.2.2 (fun q _ hq => hsub q hq) hsub (fun q _ hq => hsub q hq) (fun E ce q9 u t H1 locs1 ht _ _ hB _ _ hS h1 h2 h3 => ?_) (fun r u t H1 locs1 ht _ hp hB _ _ hS => ?_)
  · obtain ⟨hp, hP1, hD1⟩ := hB
    rw [ht] at hP1
    exact kx E ce q9 u H1 locs1 hp ⟨hP1, hD1.weaken (fun _ q _ hq => hsub q.1 hq), hS⟩ h1 h2 h3
  · obtain ⟨hP1, hD1⟩ := hB
    rw [ht] at hP1
    exact kk r u.1 u.2.1 u.2.2 H1 locs1 hp ⟨hP1, hD1.weaken (fun _ q _ hq => hsub q.1 hq), hS⟩
theorem w_vXv {post : (Nat → va_E) → Prop} {px : String → (Nat → va_E) → Prop} (C : wCx p l s m args c meth cc nL own D cy A) (h : Wd D A s.heap g N f H locs) (b : wBV y bytes maxL ret n) (hl : Cond.methodLink own index y ∈ wAll) (hk : k < N) (hf : f k = .inr (ci, fs)) (hc : vwCl[ci]? = some (y.cls, T, n0)) (hM : cXv l D cy y bytes maxL ret dc mc ms (.ref (g k) :: As) g N f post px) (hst : st0 = As.reverse ++ .ref (g k) :: rest) (hn : As.length = n) (hdg : decode cc pc = .ok (.invokevirtual index, 3)) (hR : R.frames = d ∧ R.locals = 40 * d) (hd : dc + 1 ≤ d) (hsz : ls.size = nL) (hW : (rest.map fun v => v.category).sum ≤ 8) (hfit : cells + mc ≤ R.cells ∧ slots + ms ≤ R.slots)
    (kx : ∀ (E : String) (ce : Cell) (q9 : Addr) (f1 : Nat → va_E) (H1 : Heap) (locs1 : List Loc), px E f1 → Wd D A s.heap g N f1 H1 locs1 → H1[q9]? = some ce → ce.vm = .none → s.vm.findClass E = some ce.cls → vx_W p l e R s m args below meth c H1 locs1 (cells + mc) (slots + ms) Q (F0 m pc ls rest) q9)
    (kk : ∀ (f1 : Nat → va_E) (H1 : Heap) (locs1 : List Loc), post f1 → Wd D A s.heap g N f1 H1 locs1 → W p l e R s m args below meth c H1 locs1 (cells + mc) (slots + ms) Q (F0 m (pc + 3) ls rest)) : W p l e R s m args below meth c H locs cells slots Q (F0 m pc ls st0) := by
  have hsub := h.sub C.2.2.2.2.2.2.1
  refine vx_callv (vx_runV (As := As) (rest := rest) (b := g k) (C := y.cls) C.fix (hM H.size) ⟨w_cb C b.2.1 b.2.2.1 b.2.2.2.1 b.2.2.2.2.1 b.2.2.2.2.2 hl hR hd, C.w b.1.1, C.w b.1.2⟩ ⟨wPre_blind, w_recv C h hk hf hc, fun U hU hW => ⟨rfl, h.pre C hU hW⟩⟩ rfl hn hsz hst (lv_room hW) hdg hfit) h.2.2 (fun q _ hq => hsub q hq) hsub (fun q _ hq => hsub q hq) (fun E ce q9 u t H1 locs1 ht _ _ hB _ _ hS h1 h2 h3 => ?_) (fun u t H1 locs1 ht _ hp hB _ _ hS => ?_)
  · obtain ⟨hp, hP1, hD1⟩ := hB
    rw [ht] at hP1
    exact kx E ce q9 u H1 locs1 hp ⟨hP1, hD1.weaken (fun _ q _ hq => hsub q.1 hq), hS⟩ h1 h2 h3
  · obtain ⟨hP1, hD1⟩ := hB
    rw [ht] at hP1
    exact kk u H1 locs1 hp ⟨hP1, hD1.weaken (fun _ q _ hq => hsub q.1 hq), hS⟩
theorem w_sXv {post : (Nat → va_E) → Prop} {px : String → (Nat → va_E) → Prop} (C : wCx p l s m args c meth cc nL own D cy A) (h : Wd D A s.heap g N f H locs) (b : wBS y bytes maxL ret n) (hl : Cond.methodLink own index y ∈ wAll) (hM : cXv l D cy y bytes maxL ret dc mc ms As g N f post px) (hst : st0 = As.reverse ++ rest) (hn : As.length = n) (hdg : decode cc pc = .ok (.invokestatic index, 3)) (hR : R.frames = d ∧ R.locals = 40 * d) (hd : dc + 1 ≤ d) (hsz : ls.size = nL) (hW : (rest.map fun v => v.category).sum ≤ 8) (hfit : cells + mc ≤ R.cells ∧ slots + ms ≤ R.slots)
    (kx : ∀ (E : String) (ce : Cell) (q9 : Addr) (f1 : Nat → va_E) (H1 : Heap) (locs1 : List Loc), px E f1 → Wd D A s.heap g N f1 H1 locs1 → H1[q9]? = some ce → ce.vm = .none → s.vm.findClass E = some ce.cls → vx_W p l e R s m args below meth c H1 locs1 (cells + mc) (slots + ms) Q (F0 m pc ls rest) q9)
    (kk : ∀ (f1 : Nat → va_E) (H1 : Heap) (locs1 : List Loc), post f1 → Wd D A s.heap g N f1 H1 locs1 → W p l e R s m args below meth c H1 locs1 (cells + mc) (slots + ms) Q (F0 m (pc + 3) ls rest)) : W p l e R s m args below meth c H locs cells slots Q (F0 m pc ls st0) := by
  have hsub := h.sub C.2.2.2.2.2.2.1
  refine vx_callv (vx_runS (As := As) (rest := rest) C.fix (hM H.size) ⟨w_cb C b.2.1 b.2.2.1 b.2.2.2.1 b.2.2.2.2.1 b.2.2.2.2.2 hl hR hd, C.w b.1⟩ ⟨wPre_blind, fun U hU hW => ⟨rfl, h.pre C hU hW⟩⟩ rfl hn hsz hst (lv_room hW) hdg hfit) h.2.2 (fun q _ hq => hsub q hq) hsub (fun q _ hq => hsub q hq) (fun E ce q9 u t H1 locs1 ht _ _ hB _ _ hS h1 h2 h3 => ?_) (fun u t H1 locs1 ht _ hp hB _ _ hS => ?_)
  · obtain ⟨hp, hP1, hD1⟩ := hB
    rw [ht] at hP1
    exact kx E ce q9 u H1 locs1 hp ⟨hP1, hD1.weaken (fun _ q _ hq => hsub q.1 hq), hS⟩ h1 h2 h3
  · obtain ⟨hP1, hD1⟩ := hB
    rw [ht] at hP1
    exact kk u H1 locs1 hp ⟨hP1, hD1.weaken (fun _ q _ hq => hsub q.1 hq), hS⟩
end WCL

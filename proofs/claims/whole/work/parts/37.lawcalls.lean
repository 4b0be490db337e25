/-! the law's calls: its room is wide -/
section LCL
variable {p : Program} {l : Launch} {e : Env} {R : Room} {s : State} {m : MethodId} {args : Array Value} {below : List Frame} {meth : Method} {c : Code} {H : Heap} {locs : List Loc} {cells slots : Nat} {Q : State → Prop}
variable {cc : ByteArray} {nL : Nat} {own : String} {pc : Nat} {ls : Array Slot} {rest st0 : List Value} {D : va_G} {cy : Nat → Nat} {A : Nat → Prop} {g : Nat → Nat} {N : Nat} {f : Nat → va_E} {X X' : Nat → Nat → Int32}
variable {y : MethodName} {bytes : ByteArray} {maxL : Nat} {ret : Option FieldType} {n index dc mc ms : Nat} {hh : List (Nat × Nat × Nat × Nat)} {As : List Value} {k ci n0 : Nat} {fs : List Value} {T : u_T}
theorem w_cbL (C : wCx p l s m args c meth cc nL own D cy A) (hi : Cond.initialized y.cls ∈ wAll) (hcode : Cond.code y bytes maxL ret ∈ wAll) (hy : y.cls ≠ "java/lang/invoke/MethodHandle" ∧ y.cls ≠ "java/lang/invoke/VarHandle") (hp : (parseMethodDescriptor y.desc).map (fun d => d.parameters.length) = some n) (hm : maxL ≤ 21) (hl : Cond.methodLink own index y ∈ wAll) (hR : dc + 1 ≤ R.frames ∧ 40 * dc + 40 ≤ R.locals) : CallB R s args own index y bytes maxL ret [.code y bytes maxL ret] (wR dc mc ms) mc ms n := by
  refine ⟨rfl, rfl, hR.1, ?_, ?_, List.mem_cons_self, C.w hcode, C.w hi, hy, fun sig h => ?_, C.w hl⟩
  · show 8 + (maxL + 11) + 40 * dc ≤ R.locals; omega
  · intro w hw a' U hW
    rw [List.mem_singleton.mp hw]
    exact w_code hW (C.w hcode)
  · rw [h] at hp
    exact (Option.some.inj hp).symm
theorem t_iNv {post : (Nat → Nat) × Nat × (Nat → va_E) → Prop} (C : wCx p l s m args c meth cc nL own D cy A) (h : Wd D A s.heap g N f H locs) (b : wBI y bytes maxL n) (hl : Cond.methodLink own index y ∈ wAll) (hM : cNv l D cy y bytes maxL none dc mc ms (.ref (g k) :: As) g N f post) (hst : st0 = As.reverse ++ .ref (g k) :: rest) (hn : As.length = n) (hdg : decode cc pc = .ok (.invokespecial index, 3)) (hR : dc + 1 ≤ R.frames ∧ 40 * dc + 40 ≤ R.locals) (hsz : ls.size = nL) (hW : (rest.map fun v => v.category).sum ≤ 8) (hfit : cells + mc ≤ R.cells ∧ slots + ms ≤ R.slots)
    (kk : ∀ (g1 : Nat → Nat) (N1 : Nat) (f1 : Nat → va_E) (H1 : Heap) (locs1 : List Loc), post (g1, N1, f1) → Wd D A s.heap g1 N1 f1 H1 locs1 → W p l e R s m args below meth c H1 locs1 (cells + mc) (slots + ms) Q (F0 m (pc + 3) ls rest)) : W p l e R s m args below meth c H locs cells slots Q (F0 m pc ls st0) := by
  have hsub := h.sub C.2.2.2.2.2.2.1
  refine va_callv (va_runI (As := As) (rest := rest) (b := g k) C.fix (hM H.size) ⟨w_cbL C b.2.1 b.2.2.1 b.2.2.2.1 b.2.2.2.2.1 b.2.2.2.2.2 hl hR, b.1.2, C.w b.1.1⟩ ⟨wPre_blind, fun U hU hW => ⟨rfl, h.pre C hU hW⟩⟩ rfl hn hsz hst (lv_room hW) hdg hfit) h.2.2 (fun q _ hq => hsub q hq) hsub (fun u t H1 locs1 ht _ hp hB _ _ hS => ?_)
  obtain ⟨hP1, hD1⟩ := hB
  rw [ht] at hP1
  exact kk u.1 u.2.1 u.2.2 H1 locs1 hp ⟨hP1, hD1.weaken (fun _ q _ hq => hsub q.1 hq), hS⟩
theorem t_vRi {r0 : Int32} (C : wCx p l s m args c meth cc nL own D cy A) (h : Wd D A s.heap g N (shp g cy X) H locs) (b : wBV y bytes maxL ret n) (hl : Cond.methodLink own index y ∈ wAll) (hk : k < N) (hf : shp g cy X k = .inr (ci, fs)) (hc : vwCl[ci]? = some (y.cls, T, n0)) (hM : sRi l D cy y bytes maxL ret dc (.ref (g k) :: As) g N X r0) (hst : st0 = As.reverse ++ .ref (g k) :: rest) (hn : As.length = n) (hdg : decode cc pc = .ok (.invokevirtual index, 3)) (hR : dc + 1 ≤ R.frames ∧ 40 * dc + 40 ≤ R.locals) (hsz : ls.size = nL) (hW : (rest.map fun v => v.category).sum ≤ 8) (hfit : cells ≤ R.cells ∧ slots ≤ R.slots)
    (kk : W p l e R s m args below meth c H locs cells slots Q (F0 m (pc + 3) ls (.int r0 :: rest))) : W p l e R s m args below meth c H locs cells slots Q (F0 m pc ls st0) := by
  refine vp_callSi (va_Run.run (va_runV (As := As) (rest := rest) (b := g k) (C := y.cls) C.fix hM ⟨w_cbL C b.2.1 b.2.2.1 b.2.2.2.1 b.2.2.2.2.1 b.2.2.2.2.2 hl hR, C.w b.1.1, C.w b.1.2⟩ ⟨wPre_blind0, w_recv C h hk hf hc, fun U hU hW => ⟨rfl, ?_⟩⟩ rfl hn hsz hst (lv_room hW) hdg hfit)) (fun r hr => by rw [hr]; exact kk)
  show wPre D cy g N (shp g cy X) (Array.size U.heap) U; rw [hU]; exact h.pre C hU hW
theorem t_vWi {r0 : Int32} (C : wCx p l s m args c meth cc nL own D cy A) (h : Wd D A s.heap g N (shp g cy X) H locs) (b : wBV y bytes maxL ret n) (hl : Cond.methodLink own index y ∈ wAll) (hk : k < N) (hf : shp g cy X k = .inr (ci, fs)) (hc : vwCl[ci]? = some (y.cls, T, n0)) (hM : sWi l D cy y bytes maxL ret dc mc ms (.ref (g k) :: As) g N X r0 X') (hst : st0 = As.reverse ++ .ref (g k) :: rest) (hn : As.length = n) (hdg : decode cc pc = .ok (.invokevirtual index, 3)) (hR : dc + 1 ≤ R.frames ∧ 40 * dc + 40 ≤ R.locals) (hsz : ls.size = nL) (hW : (rest.map fun v => v.category).sum ≤ 8) (hfit : cells + mc ≤ R.cells ∧ slots + ms ≤ R.slots)
    (kk : ∀ (H1 : Heap) (locs1 : List Loc), Wd D A s.heap g N (shp g cy X') H1 locs1 → W p l e R s m args below meth c H1 locs1 (cells + mc) (slots + ms) Q (F0 m (pc + 3) ls (.int r0 :: rest))) : W p l e R s m args below meth c H locs cells slots Q (F0 m pc ls st0) := by
  have hsub := h.sub C.2.2.2.2.2.2.1
  refine va_calli (va_runV (As := As) (rest := rest) (b := g k) (C := y.cls) C.fix (hM H.size) ⟨w_cbL C b.2.1 b.2.2.1 b.2.2.2.1 b.2.2.2.2.1 b.2.2.2.2.2 hl hR, C.w b.1.1, C.w b.1.2⟩ ⟨wPre_blind, w_recv C h hk hf hc, fun U hU hW => ⟨rfl, h.pre C hU hW⟩⟩ rfl hn hsz hst (lv_room hW) hdg hfit) h.2.2 (fun q _ hq => hsub q hq) hsub (fun r u t H1 locs1 ht _ hp hB _ _ hS => ?_)
  obtain ⟨hP1, hD1⟩ := hB
  rw [ht, hp.2] at hP1
  rw [hp.2] at hD1
  rw [hp.1]
  exact kk H1 locs1 ⟨hP1, hD1.weaken (fun _ q _ hq => hsub q.1 hq), hS⟩
theorem w_codeW {a a' : Array Value} {U : State} (hW : s.WarmedH U.vm) (h : (Cond.codeWith y bytes maxL ret hh).before a s = true) : (Cond.codeWith y bytes maxL ret hh).before a' U = true := word_at hW (Or.inl rfl) h
theorem w_csL (C : wCx p l s m args c meth cc nL own D cy A) (hi : Cond.initialized y.cls ∈ wAll) (hcode : Cond.codeWith y bytes maxL ret hh ∈ wAll) (hs : Cond.static y ∈ wAll) (hy : y.cls ≠ "java/lang/invoke/MethodHandle" ∧ y.cls ≠ "java/lang/invoke/VarHandle") (hp : (parseMethodDescriptor y.desc).map (fun d => d.parameters.length) = some n) (hm : maxL ≤ 21) (hl : Cond.methodLink own index y ∈ wAll) (hR : dc + 1 ≤ R.frames ∧ 40 * dc + 40 ≤ R.locals) : vx_CSW R s args own index y bytes maxL ret hh [.codeWith y bytes maxL ret hh] (wR dc mc ms) mc ms n := by
  refine ⟨⟨rfl, rfl, hR.1, ?_, ?_, List.mem_cons_self⟩, C.w hcode, C.w hi, hy, fun sig h => ?_, C.w hl, C.w hs⟩
  · show 8 + (maxL + 11) + 40 * dc ≤ R.locals; omega
  · intro w hw a' U hW
    rw [List.mem_singleton.mp hw]
    exact w_codeW hW (C.w hcode)
  · rw [h] at hp
    exact (Option.some.inj hp).symm
theorem t_sLi {r0 : Int32} (C : wCx p l s m args c meth cc nL own D cy A) (h : Wd D A s.heap g N (shp g cy X) H locs) (hcs : vx_CSW R s args own index y bytes maxL (some .int) hh [.codeWith y bytes maxL (some .int) hh] (wR dc mc ms) mc ms n) (hM : cLi l D cy y bytes maxL hh dc mc ms As g N (shp g cy X) (fun r f' => r = r0 ∧ f' = shp g cy X')) (hst : st0 = As.reverse ++ rest) (hn : As.length = n) (hdg : decode cc pc = .ok (.invokestatic index, 3)) (hsz : ls.size = nL) (hW : (rest.map fun v => v.category).sum ≤ 8) (hfit : cells + mc ≤ R.cells ∧ slots + ms ≤ R.slots)
    (kk : ∀ (H1 : Heap) (locs1 : List Loc), Wd D A s.heap g N (shp g cy X') H1 locs1 → W p l e R s m args below meth c H1 locs1 (cells + mc) (slots + ms) Q (F0 m (pc + 3) ls (.int r0 :: rest))) : W p l e R s m args below meth c H locs cells slots Q (F0 m pc ls st0) := by
  have hsub := h.sub C.2.2.2.2.2.2.1
  refine va_calli (vx_runSW (As := As) (rest := rest) C.fix (hM H.size) hcs ⟨wPre_blind, fun U hU hW => ⟨rfl, h.pre C hU hW⟩⟩ rfl hn hsz hst (lv_room hW) hdg hfit) h.2.2 (fun q _ hq => hsub q hq) hsub (fun r u t H1 locs1 ht _ hp hB _ _ hS => ?_)
  obtain ⟨hP1, hD1⟩ := hB
  rw [ht, hp.2] at hP1
  rw [hp.2] at hD1
  rw [hp.1]
  exact kk H1 locs1 ⟨hP1, hD1.weaken (fun _ q _ hq => hsub q.1 hq), hS⟩
theorem t_sLNi {post : Int32 → (Nat → Nat) × Nat × (Nat → va_E) → Prop} (C : wCx p l s m args c meth cc nL own D cy A) (h : Wd D A s.heap g N f H locs) (hcs : vx_CSW R s args own index y bytes maxL (some .int) hh [.codeWith y bytes maxL (some .int) hh] (wR dc mc ms) mc ms n) (hM : cLNi l D cy y bytes maxL hh dc mc ms As g N f post) (hst : st0 = As.reverse ++ rest) (hn : As.length = n) (hdg : decode cc pc = .ok (.invokestatic index, 3)) (hsz : ls.size = nL) (hW : (rest.map fun v => v.category).sum ≤ 8) (hfit : cells + mc ≤ R.cells ∧ slots + ms ≤ R.slots)
    (kk : ∀ (r : Int32) (g1 : Nat → Nat) (N1 : Nat) (f1 : Nat → va_E) (H1 : Heap) (locs1 : List Loc), post r (g1, N1, f1) → Wd D A s.heap g1 N1 f1 H1 locs1 → W p l e R s m args below meth c H1 locs1 (cells + mc) (slots + ms) Q (F0 m (pc + 3) ls (.int r :: rest))) : W p l e R s m args below meth c H locs cells slots Q (F0 m pc ls st0) := by
  have hsub := h.sub C.2.2.2.2.2.2.1
  refine va_calli (vx_runSW (As := As) (rest := rest) C.fix (hM H.size) hcs ⟨wPre_blind, fun U hU hW => ⟨rfl, h.pre C hU hW⟩⟩ rfl hn hsz hst (lv_room hW) hdg hfit) h.2.2 (fun q _ hq => hsub q hq) hsub (fun r u t H1 locs1 ht _ hp hB _ _ hS => ?_)
  obtain ⟨hP1, hD1⟩ := hB
  rw [ht] at hP1
  exact kk r u.1 u.2.1 u.2.2 H1 locs1 hp ⟨hP1, hD1.weaken (fun _ q _ hq => hsub q.1 hq), hS⟩
end LCL
/-- how many cells with n rules -/
def nof (n : Nat) : Nat := if n = 12 then 61 else rid n
theorem nof_lt {n : Nat} (h : n < 12) : nof n = rid n := by unfold nof; rw [if_neg (by omega)]
theorem ruN_nof {n : Nat} (h : n < 12) : ruN n = nof (n + 1) := by
  have : ∀ n, n < 12 → ruN n = nof (n + 1) := by decide
  exact this n h
theorem nof_ge (n : Nat) : 47 ≤ nof n := by unfold nof; have := rid_ge n; split <;> omega
theorem rok_lst {X : Nat → Nat → Int32} {n : Nat} (h : lst X n) : rok X X (nof n) := by
  obtain ⟨h12, hs, h48, h59⟩ := h
  have hn : (X 4 2).toNatClampNeg = n := by rw [hs]; exact zo_nat (by omega)
  refine ⟨nof_ge n, rfl, by omega, by rw [hs]; exact zo_nn (by omega), fun i => ⟨aid_rl _ _, ?_, rfl⟩, fun h0 => ?_, fun h10 => ?_, fun j hj => ?_⟩
  · have hge := nof_ge n
    unfold aid
    split
    · omega
    · split
      · omega
      · rename_i hi hl
        have hlt : i < X 4 2 := by rw [Int32.le_iff_toInt_le] at hl; rw [Int32.lt_iff_toInt_lt]; omega
        have := zi_lt hi hlt
        rw [hn] at this
        have h9 : ∀ n, n < 13 → ∀ j, j < n → rid j < nof n := by decide
        exact h9 n (by omega) _ this
  · have : ∀ n, n < 13 → n ≠ 0 → 48 < nof n := by decide
    refine this n (by omega) (fun h => h0 ?_)
    rw [hs, h]; rfl
  · have : ∀ n, n < 13 → ¬ n ≤ 10 → 59 < nof n := by decide
    refine this n (by omega) (fun h => h10 ?_)
    rw [hs]; exact (zo_le (by omega)).mpr h
  · rw [hn] at hj
    by_cases h10 : n ≤ 10
    · rw [hs, if_pos ((zo_le (by omega)).mpr h10), h48 (by omega)]
      unfold lrow
      rw [if_pos (by omega)]
    · rw [hs, if_neg (fun q => h10 ((zo_le (by omega)).mp q)), h59 (by omega)]
      unfold lrow
      rw [if_pos hj]
theorem lkX_ne {tag : Nat} {r0 : Int32} {X1 : Nat → Nat → Int32} : ∀ j, j ≠ 46 → lkX tag r0 X1 j = X1 j := fun j hj => by
  unfold lkX
  split
  · exact up_ne hj
  · rfl
theorem lkX_46 {tag : Nat} {r0 : Int32} {X1 : Nat → Nat → Int32} (h : tag = 0) : lkX tag r0 X1 46 0 = r0 := by
  unfold lkX
  rw [if_pos h, up_at]
  rfl
theorem zt_all : ∀ t, t < 513 → (Int32.ofNat (6 * t) + 6 = Int32.ofNat (6 * (t + 1))) ∧ (Int32.ofNat (6 * t)).toInt = 6 * t ∧ (¬ Int32.ofNat (6 * t) < 0 ∧ (Int32.ofNat (6 * t)).toNatClampNeg = 6 * t) ∧ (¬ Int32.ofNat (6 * t) + 1 < 0 ∧ (Int32.ofNat (6 * t) + 1).toNatClampNeg = 6 * t + 1) ∧ (¬ Int32.ofNat (6 * t) + 2 < 0 ∧ (Int32.ofNat (6 * t) + 2).toNatClampNeg = 6 * t + 2) ∧ (¬ Int32.ofNat (6 * t) + 3 < 0 ∧ (Int32.ofNat (6 * t) + 3).toNatClampNeg = 6 * t + 3) ∧ (¬ Int32.ofNat (6 * t) + 4 < 0 ∧ (Int32.ofNat (6 * t) + 4).toNatClampNeg = 6 * t + 4) ∧ (¬ Int32.ofNat (6 * t) + 5 < 0 ∧ (Int32.ofNat (6 * t) + 5).toNatClampNeg = 6 * t + 5) := by decide +kernel
theorem zL_all : ∀ L, L < 3073 → (Int32.ofNat L - 6).toInt = (L : Int) - 6 := by
  have h : ∀ a, a < 49 → ∀ b, b < 64 → (Int32.ofNat (64 * a + b) - 6).toInt = ((64 * a + b : Nat) : Int) - 6 := by decide +kernel
  intro L hL
  have h1 := h (L / 64) (by omega) (L % 64) (by omega)
  rw [Nat.div_add_mod] at h1
  exact h1
theorem zt_in {t L c : Nat} {i : Int32} (h : ¬ i < 0 ∧ i.toNatClampNeg = 6 * t + c) (hL : 6 * t + c < L) : vp_in i L := fun q => q.elim h.1 (fun q => by omega)
theorem zt_cmp {t L : Nat} (ht : t < 513) (hL : L < 3073) : (Int32.ofNat L - 6 < Int32.ofNat (6 * t)) ↔ L < 6 * t + 6 := by
  rw [Int32.lt_iff_toInt_lt, zL_all L hL, (zt_all t ht).2.1]
  omega

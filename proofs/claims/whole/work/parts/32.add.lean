theorem sh_gr_0 {g g1 cy : Nat → Nat} {row : Nat → Int32} (h : ∀ i, i < 47 → g1 i = g i) : sh g cy 0 row = sh g1 cy 0 row := by
  rw [sh_0, sh_0, h 1 (by decide), h 3 (by decide), h 6 (by decide), h 12 (by decide), h 14 (by decide), h 16 (by decide)]
theorem sh_gr_1 {g g1 cy : Nat → Nat} {row : Nat → Int32} (h : ∀ i, i < 47 → g1 i = g i) : sh g cy 1 row = sh g1 cy 1 row := by
  rw [sh_1, sh_1, h 2 (by decide)]
theorem sh_gr_3 {g g1 cy : Nat → Nat} {row : Nat → Int32} (h : ∀ i, i < 47 → g1 i = g i) : sh g cy 3 row = sh g1 cy 3 row := by
  rw [sh_3, sh_3, h 4 (by decide), h 5 (by decide)]
theorem sh_gr_6 {g g1 cy : Nat → Nat} {row : Nat → Int32} (h : ∀ i, i < 47 → g1 i = g i) : sh g cy 6 row = sh g1 cy 6 row := by
  rw [sh_6, sh_6, h 7 (by decide), h 8 (by decide), h 9 (by decide), h 10 (by decide), h 11 (by decide)]
theorem sh_gr_12 {g g1 cy : Nat → Nat} {row : Nat → Int32} (h : ∀ i, i < 47 → g1 i = g i) : sh g cy 12 row = sh g1 cy 12 row := by
  rw [sh_12, sh_12, h 13 (by decide)]
theorem sh_gr_14 {g g1 cy : Nat → Nat} {row : Nat → Int32} (h : ∀ i, i < 47 → g1 i = g i) : sh g cy 14 row = sh g1 cy 14 row := by
  rw [sh_14, sh_14, h 15 (by decide)]
theorem sh_gr_16 {g g1 cy : Nat → Nat} {row : Nat → Int32} (h : ∀ i, i < 47 → g1 i = g i) : sh g cy 16 row = sh g1 cy 16 row := by
  rw [sh_16, sh_16, h 17 (by decide), h 21 (by decide), h 25 (by decide), h 27 (by decide)]
theorem sh_gr_17 {g g1 cy : Nat → Nat} {row : Nat → Int32} (h : ∀ i, i < 47 → g1 i = g i) : sh g cy 17 row = sh g1 cy 17 row := by
  rw [sh_17, sh_17, h 18 (by decide), h 19 (by decide), h 20 (by decide)]
theorem sh_gr_21 {g g1 cy : Nat → Nat} {row : Nat → Int32} (h : ∀ i, i < 47 → g1 i = g i) : sh g cy 21 row = sh g1 cy 21 row := by
  rw [sh_21, sh_21, h 22 (by decide), h 23 (by decide), h 24 (by decide)]
theorem sh_gr_25 {g g1 cy : Nat → Nat} {row : Nat → Int32} (h : ∀ i, i < 47 → g1 i = g i) : sh g cy 25 row = sh g1 cy 25 row := by
  rw [sh_25, sh_25, h 26 (by decide)]
theorem sh_gr_27 {g g1 cy : Nat → Nat} {row : Nat → Int32} (h : ∀ i, i < 47 → g1 i = g i) : sh g cy 27 row = sh g1 cy 27 row := by
  rw [sh_27, sh_27, h 28 (by decide)]
theorem sh_gr_29 {g g1 cy : Nat → Nat} {row : Nat → Int32} (h : ∀ i, i < 47 → g1 i = g i) : sh g cy 29 row = sh g1 cy 29 row := by
  rw [sh_29, sh_29, h 30 (by decide), h 31 (by decide), h 32 (by decide), h 33 (by decide), h 34 (by decide), h 35 (by decide), h 36 (by decide), h 37 (by decide), h 38 (by decide), h 39 (by decide), h 40 (by decide), h 41 (by decide), h 42 (by decide), h 43 (by decide), h 44 (by decide), h 45 (by decide)]
theorem sh_gx {g g1 cy : Nat → Nat} {k : Nat} {row : Nat → Int32} (h : ∀ i, i < 47 → g1 i = g i) (h4 : k ≠ 4) (h48 : k ≠ 48) (h59 : k ≠ 59) : sh g cy k row = sh g1 cy k row := by
  by_cases hk : k < 47
  · match k, hk with
    | 0, _ => exact sh_gr_0 h
    | 1, _ => exact sh_gr_1 h
    | 2, _ => rfl
    | 3, _ => exact sh_gr_3 h
    | 4, _ => exact absurd rfl h4
    | 5, _ => rfl
    | 6, _ => exact sh_gr_6 h
    | 7, _ => rfl
    | 8, _ => rfl
    | 9, _ => rfl
    | 10, _ => rfl
    | 11, _ => rfl
    | 12, _ => exact sh_gr_12 h
    | 13, _ => rfl
    | 14, _ => exact sh_gr_14 h
    | 15, _ => rfl
    | 16, _ => exact sh_gr_16 h
    | 17, _ => exact sh_gr_17 h
    | 18, _ => rfl
    | 19, _ => rfl
    | 20, _ => rfl
    | 21, _ => exact sh_gr_21 h
    | 22, _ => rfl
    | 23, _ => rfl
    | 24, _ => rfl
    | 25, _ => exact sh_gr_25 h
    | 26, _ => rfl
    | 27, _ => exact sh_gr_27 h
    | 28, _ => rfl
    | 29, _ => exact sh_gr_29 h
    | 30, _ => rfl
    | 31, _ => rfl
    | 32, _ => rfl
    | 33, _ => rfl
    | 34, _ => rfl
    | 35, _ => rfl
    | 36, _ => rfl
    | 37, _ => rfl
    | 38, _ => rfl
    | 39, _ => rfl
    | 40, _ => rfl
    | 41, _ => rfl
    | 42, _ => rfl
    | 43, _ => rfl
    | 44, _ => rfl
    | 45, _ => rfl
    | 46, _ => rfl
    | j + 47, hk => omega
  · rw [sh_rl g cy (Or.inr ⟨by omega, h48, h59⟩) row, sh_rl g1 cy (Or.inr ⟨by omega, h48, h59⟩) row]
def lrow (n : Nat) : Nat → Int32 := fun j => if j < n then 1 else 0
def kaOf (n : Nat) : Nat := if n ≤ 10 then 48 else 59
theorem zo_nat {n : Nat} (h : n < 13) : (Int32.ofNat n).toNatClampNeg = n := by
  have : ∀ n, n < 13 → (Int32.ofNat n).toNatClampNeg = n := by decide
  exact this n h
theorem zo_suc {n : Nat} (h : n < 13) : Int32.ofNat n + 1 = Int32.ofNat (n + 1) := by
  have : ∀ n, n < 13 → Int32.ofNat n + 1 = Int32.ofNat (n + 1) := by decide
  exact this n h
theorem zo_pos {n : Nat} (h : n < 13) (h1 : 1 ≤ n) : ¬ Int32.ofNat n = 0 := by
  have : ∀ n, n < 13 → 1 ≤ n → ¬ Int32.ofNat n = 0 := by decide
  exact this n h h1
theorem zo_nn {n : Nat} (h : n < 13) : ¬ Int32.ofNat n < 0 := by
  have : ∀ n, n < 13 → ¬ Int32.ofNat n < 0 := by decide
  exact this n h
theorem zo_le {n : Nat} (h : n < 13) : Int32.ofNat n ≤ 10 ↔ n ≤ 10 := by
  have : ∀ n, n < 13 → (Int32.ofNat n ≤ 10 ↔ n ≤ 10) := by decide
  exact this n h
theorem wElem_n {cy g : Nat → Nat} {n : Nat} (h : n < 13) (h1 : 1 ≤ n) : wElem cy g (Int32.ofNat n) = g (kaOf n) := by
  unfold wElem kaOf
  rw [if_neg (zo_pos h h1)]
  by_cases h2 : n ≤ 10
  · rw [if_pos h2, if_pos ((zo_le h).mpr h2)]
  · rw [if_neg h2, if_neg (fun q => h2 ((zo_le h).mp q))]
theorem lrow_z {n j : Nat} : lrow n j = 0 ↔ ¬ j < n := by
  unfold lrow
  by_cases h : j < n
  · rw [if_pos h]; constructor
    · intro q; exact absurd q (by decide)
    · intro q; exact absurd h q
  · rw [if_neg h]; exact ⟨fun _ => h, fun _ => rfl⟩
/-- the flags of n rules, and one more -/
theorem lrow_up {g g1 : Nat → Nat} {n : Nat} {F : Nat → Option Nat} (hF : ∀ j, F j = if j < n then some (g1 (rid j)) else none) (hg : g (rid n) = g1 (rid n)) : va_up F n (some (g (rid n))) = fun j => if lrow (n + 1) j = 0 then none else some (g1 (rid j)) := by
  funext j
  by_cases hj : j = n
  · subst hj
    rw [va_up_self, if_neg (fun q => lrow_z.mp q (by omega)), hg]
  · rw [va_up_ne _ _ hj, hF]
    by_cases h1 : j < n
    · rw [if_pos h1, if_neg (fun q => lrow_z.mp q (by omega))]
    · rw [if_neg h1, if_pos (lrow_z.mpr (by omega))]
/-- the list with n rules, as the world holds it -/
def lst (X : Nat → Nat → Int32) (n : Nat) : Prop := n ≤ 12 ∧ X 4 2 = Int32.ofNat n ∧ (1 ≤ n → X 48 = lrow (min n 10)) ∧ (11 ≤ n → X 59 = lrow n)
def addX (X : Nat → Nat → Int32) (n : Nat) : Nat → Nat → Int32 := up (up X (kaOf (n + 1)) (lrow (n + 1))) 4 (fun j => if j = 2 then Int32.ofNat (n + 1) else X 4 j)
def addN (N n : Nat) : Nat := if n = 0 ∨ n = 10 then N + 1 else N
def addP (cy g : Nat → Nat) (N : Nat) (X : Nat → Nat → Int32) (n : Nat) (u : (Nat → Nat) × Nat × (Nat → va_E)) : Prop := u.2.1 = addN N n ∧ (∀ j, j < N → u.1 j = g j) ∧ u.2.2 = shp u.1 cy (addX X n)
theorem w_addtail {p : Program} {l : Launch} {e : Env} {R : Room} {s : State} {m : MethodId} {args : Array Value} {below : List Frame} {meth : Method} {c : Code} {H : Heap} {locs : List Loc} {cells slots : Nat} {Q : State → Prop} {nL : Nat} {D : va_G} {cy : Nat → Nat} {A : Nat → Prop} {g : Nat → Nat} {N : Nat} {f : Nat → va_E} {ls : Array Slot} {zm zn zi : Int32} {el ka L t : Nat} {F : Nat → Option Nat} {vs : List Value} {rv : Value}
    (C : wCx p l s m args c meth cJx4a65c_add_72be8 nL RJx4a65c D cy A) (h : Wd D A s.heap g N f H locs) (hl : lv_has ls nL [(0, .ref (g 4)), (1, .ref (g t)), (2, rv), (3, .int zi)]) (hrv : rv = .ref (g ka)) (h4N : 4 < N) (h4 : f 4 = .inr (0, [.int zm, .ref el, .int zn])) (hkaN : ka < N) (hka : f ka = objs cy L F) (hk4 : ka ≠ 4) (htN : t < N) (ht : f t = .inr (5, vs)) (hin : vp_in zi L)
    (kk : ∀ (H1 : Heap) (locs1 : List Loc), Wd D A s.heap g N (va_up (va_up f ka (objs cy L (va_up F zi.toNatClampNeg (some (g t))))) 4 (.inr (0, [.int zm, .ref el, .int (zi + 1)]))) H1 locs1 → W p l e R s m args below meth c H1 locs1 cells slots Q (F0 m 22 ls [])) : W p l e R s m args below meth c H locs cells slots Q (F0 m 11 ls []) := by
  have hx := C.1
  have hb := C.2.1
  subst hrv
  refine lv_aload_n hx hb dJx4a65c_add_72be8_11 rfl (lv_at hl 2 rfl) ?_
  refine lv_iload_n hx hb dJx4a65c_add_72be8_12 rfl (lv_at hl 3 rfl) ?_
  refine lv_aload_n hx hb dJx4a65c_add_72be8_13 rfl (lv_at hl 1 rfl) ?_
  refine w_qast C h (k := ka) (t := t) hkaN hka htN ht hin rfl dJx4a65c_add_72be8_14 fun H locs hw => ?_
  refine lv_aload_n hx hb dJx4a65c_add_72be8_15 rfl (lv_at hl 0 rfl) ?_
  refine lv_iload_n hx hb dJx4a65c_add_72be8_16 rfl (lv_at hl 3 rfl) ?_
  refine lv_iconst (v := 1) hx hb dJx4a65c_add_72be8_17 (by decide) ?_
  refine lv_iadd hx hb dJx4a65c_add_72be8_18 ?_
  exact w_put C hw [.int zm, .ref el, .int (zi + 1)] (k := 4) (v := .int (zi + 1)) (ty := tyJx4a65c) (j := 2) h4N (by rw [va_up_ne _ _ (Ne.symm hk4)]; exact h4) rfl tyJx4a65c_ok nmJx4a65c (by decide) k30 rfl rfl rfl (Nat.le_of_ble_eq_true rfl) rfl dJx4a65c_add_72be8_19 kk
theorem rid_ge (n : Nat) : 47 ≤ rid n := by
  unfold rid
  split
  · omega
  · split
    · omega
    · split <;> omega
theorem rid_ne (n : Nat) : rid n ≠ 48 ∧ rid n ≠ 59 := by
  have := rid_rl n
  rcases this with h | h
  · have := rid_ge n; omega
  · exact h.2
theorem rid_le {i j : Nat} (h : i ≤ j) (hj : j < 12) : rid i ≤ rid j := by
  have : ∀ j, j < 12 → ∀ i, i ≤ j → rid i ≤ rid j := by decide
  exact this j hj i h
theorem rid_lt {i j : Nat} (h : i < j) (hj : j < 12) : rid i < rid j := by
  have : ∀ j, j < 12 → ∀ i, i < j → rid i < rid j := by decide
  exact this j hj i h
theorem addX_4 (X : Nat → Nat → Int32) (n : Nat) : addX X n 4 = fun j => if j = 2 then Int32.ofNat (n + 1) else X 4 j := by unfold addX; rw [up_at]
theorem kaOf_ne (n : Nat) : kaOf n ≠ 4 := by unfold kaOf; split <;> decide
theorem addX_ka (X : Nat → Nat → Int32) (n : Nat) : addX X n (kaOf (n + 1)) = lrow (n + 1) := by
  unfold addX; rw [up_ne (kaOf_ne _), up_at]
theorem addX_ne {X : Nat → Nat → Int32} {n k : Nat} (h1 : k ≠ 4) (h2 : k ≠ kaOf (n + 1)) : addX X n k = X k := by
  unfold addX; rw [up_ne h1, up_ne h2]
theorem sh_ka {g cy : Nat → Nat} {n : Nat} {row : Nat → Int32} : sh g cy (kaOf n) row = objs cy (if n ≤ 10 then 10 else 15) (fun j => if row j = 0 then none else some (g (rid j))) := by
  unfold kaOf
  by_cases h : n ≤ 10
  · rw [if_pos h, if_pos h]; rfl
  · rw [if_neg h, if_neg h]; rfl
/-- no room wanted -/
theorem c_add72_n {l : Launch} {D : va_G} {cy : Nat → Nat} {g : Nat → Nat} {N n : Nat} {X : Nat → Nat → Int32} (hfl : l.stackTraces = false) (hL : lst X n) (h1 : 1 ≤ n) (h10 : n ≠ 10) (h12 : n < 12) (hN : N = rid n + 1) : cNv l D cy yJx4a65c_add_72be8 cJx4a65c_add_72be8 4 none 5 1 15 [.ref (g 4), .ref (g (rid n)), .ref (wElem cy g (X 4 2)), .int (X 4 2)] g N (shp g cy X) (addP cy g N X n) := by
  refine jNvg (own := RJx4a65c) (by decide) rfl hfl (Nat.le_of_ble_eq_true rfl) ?_
  intro p e R s m args below meth c ls A Q hRe C hw hl hret
  subst hRe
  have hx := C.1
  have hb := C.2.1
  obtain ⟨-, hs, hf48, hf59⟩ := hL
  rw [hs, wElem_n (by omega) h1] at hl
  have hl : lv_has ls 4 [(0, .ref (g 4)), (1, .ref (g (rid n))), (2, .ref (g (kaOf n))), (3, .int (Int32.ofNat n))] := hl
  have hrn := rid_ge n
  have hka : kaOf n < N := by
    have : ∀ n, n < 12 → 1 ≤ n → kaOf n < rid n + 1 := by decide
    rw [hN]; exact this n h12 h1
  have hrow : X (kaOf n) = lrow n := by
    unfold kaOf
    by_cases h : n ≤ 10
    · rw [if_pos h, hf48 h1, Nat.min_eq_left h]
    · rw [if_neg h, hf59 (by omega)]
  have hfka : shp g cy X (kaOf n) = objs cy (if n ≤ 10 then 10 else 15) (fun j => if lrow n j = 0 then none else some (g (rid j))) := by
    show sh g cy (kaOf n) (X (kaOf n)) = _
    rw [hrow, sh_ka]
  have hLn : n < (if n ≤ 10 then 10 else 15) := by split <;> omega
  refine lv_iload_n hx hb dJx4a65c_add_72be8_0 rfl (lv_at hl 3 rfl) ?_
  refine lv_aload_n hx hb dJx4a65c_add_72be8_1 rfl (lv_at hl 2 rfl) ?_
  refine w_qlen C hw (k := kaOf n) hka hfka rfl rfl dJx4a65c_add_72be8_2 ?_
  refine lv_icmp_ne (tgt := 11) hx hb dJx4a65c_add_72be8_3 (by decide) (fun _ => ?_) (fun cz => ?_)
  · refine w_addtail C hw hl rfl (by omega) (zm := X 4 0) (el := wElem cy g (X 4 2)) (zn := X 4 2) rfl hka hfka (kaOf_ne n) (by omega) (sh_rl g cy (rid_rl n) _) (fun h => h.elim (zo_nn (by omega)) (fun h => by rw [zo_nat (by omega)] at h; omega)) fun H locs hw => ?_
    rw [zo_nat (by omega : n < 13)] at hw
    have hkk : kaOf (n + 1) = kaOf n := by unfold kaOf; split <;> split <;> omega
    refine hret 22 ls g N (shp g cy (addX X n)) H locs _ _ ⟨by unfold addN; rw [if_neg (by omega)], fun _ _ => rfl, rfl⟩ (hw.ext fun k hk => ?_) (Nat.le_of_ble_eq_true rfl) (Nat.le_of_ble_eq_true rfl) dJx4a65c_add_72be8_22
    by_cases k4 : k = 4
    · subst k4
      rw [va_up_self]
      show _ = sh g cy 4 (addX X n 4)
      rw [addX_4, sh_4, if_pos rfl, if_neg (by decide), wElem_n (by omega) (by omega), hkk, hs, wElem_n (by omega) h1, zo_suc (by omega)]
    · rw [va_up_ne _ _ k4]
      by_cases kk : k = kaOf n
      · subst kk
        rw [va_up_self]
        show _ = sh g cy (kaOf n) (addX X n (kaOf n))
        have e1 : addX X n (kaOf n) = lrow (n + 1) := by rw [← hkk, addX_ka]
        rw [e1, sh_ka, lrow_up (g := g) (g1 := g) (n := n) (fun j => ?_) rfl]
        by_cases hj : j < n
        · rw [if_pos hj, if_neg (fun q => lrow_z.mp q hj)]
        · rw [if_neg hj, if_pos (lrow_z.mpr hj)]
      · rw [va_up_ne _ _ kk]
        show sh g cy k (X k) = sh g cy k (addX X n k)
        rw [addX_ne k4 (by rw [hkk]; exact kk)]
  · exact absurd cz (by
      have : ∀ n, n < 12 → n ≠ 10 → ¬ Int32.ofNat n = Int32.ofNat (if n ≤ 10 then 10 else 15) := by decide
      exact this n h12 h10)
/-- what stands behind the growth: f4, the new array -/
theorem add_grow_ext {cy g : Nat → Nat} {N n q L : Nat} {X : Nat → Nat → Int32} {F : Nat → Option Nat} (hL : lst X n) (h12 : n < 12) (h0 : n = 0 ∨ n = 10) (hN : N = rid n + 1) (hkN : N = kaOf (n + 1)) (hLe : L = if n + 1 ≤ 10 then 10 else 15) (hF : ∀ j, F j = if j < n then some (g (rid j)) else none) (zm zn : Int32) (hzm : zm = X 4 0) :
    ∀ k, k < N + 1 → va_up (va_up (va_up (va_up (shp g cy X) N (objs cy L F)) 4 (.inr (0, [.int zm, .ref q, .int zn]))) N (objs cy L (va_up F n (some (g (rid n)))))) 4 (.inr (0, [.int zm, .ref q, .int (Int32.ofNat n + 1)])) k = shp (va_up g N q) cy (addX X n) k := by
  have hrn := rid_ge n
  have hg : ∀ i, i < N → va_up g N q i = g i := fun i hi => va_up_ne _ _ (by omega)
  intro k hk
  subst hzm
  by_cases k4 : k = 4
  · subst k4
    rw [va_up_self]
    show _ = sh (va_up g N q) cy 4 (addX X n 4)
    rw [addX_4, sh_4, if_pos rfl, if_neg (by decide), wElem_n (by omega) (by omega), ← hkN, va_up_self, zo_suc (by omega)]
  · rw [va_up_ne _ _ k4]
    by_cases kk : k = N
    · rw [kk, va_up_self]
      show _ = sh (va_up g N q) cy N (addX X n N)
      have e1 : addX X n N = lrow (n + 1) := by rw [hkN, addX_ka]
      rw [e1]
      have e2 : sh (va_up g N q) cy N (lrow (n + 1)) = objs cy L (fun j => if lrow (n + 1) j = 0 then none else some (va_up g N q (rid j))) := by
        rw [hLe]
        exact hkN ▸ sh_ka
      rw [e2, lrow_up (g := g) (g1 := va_up g N q) (n := n) (fun j => ?_) (hg _ (by omega)).symm]
      rw [hF]
      by_cases hj : j < n
      · rw [if_pos hj, if_pos hj, hg _ (by have := rid_le (Nat.le_of_lt hj) h12; omega)]
      · rw [if_neg hj, if_neg hj]
    · rw [va_up_ne _ _ kk, va_up_ne _ _ k4, va_up_ne _ _ kk]
      show sh g cy k (X k) = sh (va_up g N q) cy k (addX X n k)
      rw [addX_ne k4 (by rw [← hkN]; exact kk)]
      by_cases k48 : k = 48
      · subst k48
        have hn1 : 1 ≤ n := by
          rcases h0 with h | h
          · subst h; exact absurd hkN (by rw [hN]; intro q9; exact kk (by rw [hN]; exact q9.trans rfl |>.symm ▸ rfl))
          · omega
        rw [hL.2.2.1 hn1]
        show objs cy 10 _ = objs cy 10 _
        have hmn : min n 10 = n := by omega
        rw [hmn]
        congr 5
        funext j
        by_cases hj : j < n
        · rw [if_neg (fun q9 => lrow_z.mp q9 hj), if_neg (fun q9 => lrow_z.mp q9 hj), hg _ (by have := rid_le (Nat.le_of_lt hj) h12; omega)]
        · rw [if_pos (lrow_z.mpr hj), if_pos (lrow_z.mpr hj)]
      · have k59 : k ≠ 59 := by
          rcases h0 with h | h
          · subst h; have : rid 0 = 47 := rfl; omega
          · subst h; have : rid 10 = 58 := rfl; omega
        exact sh_gx (fun i hi => hg i (by omega)) k4 k48 k59
theorem c_add72_0 {l : Launch} {D : va_G} {cy : Nat → Nat} {g : Nat → Nat} {N : Nat} {X : Nat → Nat → Int32} (hfl : l.stackTraces = false) (hL : lst X 0) (hN : N = rid 0 + 1) : cNv l D cy yJx4a65c_add_72be8 cJx4a65c_add_72be8 4 none 5 1 15 [.ref (g 4), .ref (g (rid 0)), .ref (wElem cy g (X 4 2)), .int (X 4 2)] g N (shp g cy X) (addP cy g N X 0) := by
  refine jNvg (own := RJx4a65c) (by decide) rfl hfl (Nat.le_of_ble_eq_true rfl) ?_
  intro p e R s m args below meth c ls A Q hRe C hw hl hret
  subst hRe
  have hx := C.1
  have hb := C.2.1
  have hs := hL.2.1
  have hN48 : N = 48 := hN
  subst hN48
  rw [hs] at hl
  have hl : lv_has ls 4 [(0, .ref (g 4)), (1, .ref (g 47)), (2, .ref (cy 9)), (3, .int 0)] := hl
  have h4 : shp g cy X 4 = .inr (0, [.int (X 4 0), .ref (cy 9), .int 0]) := by
    show sh g cy 4 (X 4) = _
    rw [sh_4, hs]
    rfl
  refine lv_iload_n hx hb dJx4a65c_add_72be8_0 rfl (lv_at hl 3 rfl) ?_
  refine lv_aload_n hx hb dJx4a65c_add_72be8_1 rfl (lv_at hl 2 rfl) ?_
  refine va_tlen hx hb C.2.2.2.2.2.1.t hw.2.2 (v := 0) rfl dJx4a65c_add_72be8_2 ?_
  refine lv_icmp_ne (tgt := 11) hx hb dJx4a65c_add_72be8_3 (by decide) (fun cz => absurd rfl cz) (fun _ => ?_)
  refine lv_aload_n hx hb dJx4a65c_add_72be8_6 rfl (lv_at hl 0 rfl) ?_
  refine w_vNr C hw (As := []) bJx4a65c_grow_d5877 k218 (k := 4) (Nat.le_of_ble_eq_true rfl) h4 rfl (c_grow0 (zk := 1) hfl (Nat.le_of_ble_eq_true rfl) h4 (by decide) (c_grow_a hfl (Nat.le_of_ble_eq_true rfl) h4)) rfl rfl dJx4a65c_add_72be8_7 ⟨rfl, rfl⟩ (by decide) hl.1 (Nat.le_of_ble_eq_true rfl) ⟨Nat.le_of_ble_eq_true rfl, Nat.le_of_ble_eq_true rfl⟩ fun g1 N1 f1 q H locs hp hw => ?_
  cases hp
  refine lv_astore_n (lv' := [(2, .ref q), (0, .ref (g 4)), (1, .ref (g 47)), (3, .int 0)]) hx hb dJx4a65c_add_72be8_10 rfl hl (by decide) rfl (fun ls hl => ?_)
  have hg4 : va_up g 48 q 4 = g 4 := va_up_ne _ _ (by decide)
  have hg47 : va_up g 48 q 47 = g 47 := va_up_ne _ _ (by decide)
  have hgq : va_up g 48 q 48 = q := va_up_self _ _ _
  have hl := lv_sub hl [1, 2, 0, 3] rfl
  have hext := add_grow_ext (g := g) (cy := cy) (q := q) (L := 10) (F := fun _ => none) hL (by decide) (Or.inl rfl) hN rfl rfl (fun j => by rw [if_neg (Nat.not_lt_zero j)]) (X 4 0) 0 rfl
  refine w_addtail C hw (ka := 48) (t := 47) (zi := 0) (rv := .ref q) (by rw [hg4, hg47]; exact hl) (by rw [hgq]) (by decide) (va_up_self _ _ _) (by decide) (by rw [va_up_ne _ _ (by decide), va_up_self]) (by decide) (by decide) (vs := [.int (X 47 0), .int (X 47 1), .int (X 47 2), .int (X 47 3), .int (X 47 4), .int (X 47 5), .int (X 47 6)]) (by rw [va_up_ne _ _ (by decide), va_up_ne _ _ (by decide)]; rfl) (show ¬ ((0 : Int32) < 0 ∨ 10 ≤ (0 : Int32).toNatClampNeg) by decide) fun H locs hw => ?_
  rw [hg47] at hw
  exact hret 22 ls (va_up g 48 q) 49 (shp (va_up g 48 q) cy (addX X 0)) H locs _ _ ⟨rfl, fun j hj => va_up_ne _ _ (by omega), rfl⟩ (hw.ext hext) (Nat.le_of_ble_eq_true rfl) (Nat.le_of_ble_eq_true rfl) dJx4a65c_add_72be8_22
theorem c_add72_10 {l : Launch} {D : va_G} {cy : Nat → Nat} {g : Nat → Nat} {N : Nat} {X : Nat → Nat → Int32} (hfl : l.stackTraces = false) (hL : lst X 10) (hN : N = rid 10 + 1) : cNv l D cy yJx4a65c_add_72be8 cJx4a65c_add_72be8 4 none 5 1 15 [.ref (g 4), .ref (g (rid 10)), .ref (wElem cy g (X 4 2)), .int (X 4 2)] g N (shp g cy X) (addP cy g N X 10) := by
  refine jNvg (own := RJx4a65c) (by decide) rfl hfl (Nat.le_of_ble_eq_true rfl) ?_
  intro p e R s m args below meth c ls A Q hRe C hw hl hret
  subst hRe
  have hx := C.1
  have hb := C.2.1
  have hs := hL.2.1
  have hN59 : N = 59 := hN
  subst hN59
  rw [hs] at hl
  have hl : lv_has ls 4 [(0, .ref (g 4)), (1, .ref (g 58)), (2, .ref (g 48)), (3, .int 10)] := hl
  have h4 : shp g cy X 4 = .inr (0, [.int (X 4 0), .ref (g 48), .int 10]) := by
    show sh g cy 4 (X 4) = _
    rw [sh_4, hs]
    rfl
  have h48 : shp g cy X 48 = objs cy 10 (fun j => if j < 10 then some (g (rid j)) else none) := by
    show objs cy 10 (fun j => if X 48 j = 0 then none else some (g (rid j))) = _
    have e10 : X 48 = lrow 10 := hL.2.2.1 (by decide)
    rw [e10]
    congr 5
    funext j
    by_cases hj : j < 10
    · rw [if_pos hj, if_neg (fun q9 => lrow_z.mp q9 hj)]
    · rw [if_neg hj, if_pos (lrow_z.mpr hj)]
  have hel : ∀ (i t9 : Nat), (fun j => if j < 10 then some (g (rid j)) else none) i = some t9 → ∃ (t : Nat) (vs : List Value), t < 59 ∧ t9 = g t ∧ shp g cy X t = .inr (5, vs) := by
    intro i t9 h9
    have h9 : (if i < 10 then some (g (rid i)) else none) = some t9 := h9
    by_cases hi : i < 10
    · rw [if_pos hi] at h9
      refine ⟨rid i, _, ?_, (Option.some.inj h9).symm, sh_rl g cy (rid_rl i) _⟩
      have := rid_le (i := i) (j := 10) (by omega) (by decide)
      have e9 : rid 10 = 58 := rfl
      omega
    · rw [if_neg hi] at h9; cases h9
  refine lv_iload_n hx hb dJx4a65c_add_72be8_0 rfl (lv_at hl 3 rfl) ?_
  refine lv_aload_n hx hb dJx4a65c_add_72be8_1 rfl (lv_at hl 2 rfl) ?_
  refine w_qlen C hw (k := 48) (Nat.le_of_ble_eq_true rfl) h48 (v := 10) rfl rfl dJx4a65c_add_72be8_2 ?_
  refine lv_icmp_ne (tgt := 11) hx hb dJx4a65c_add_72be8_3 (by decide) (fun cz => absurd rfl cz) (fun _ => ?_)
  refine lv_aload_n hx hb dJx4a65c_add_72be8_6 rfl (lv_at hl 0 rfl) ?_
  refine w_vNr C hw (As := []) bJx4a65c_grow_d5877 k218 (k := 4) (Nat.le_of_ble_eq_true rfl) h4 rfl (c_grow0 (zk := 11) hfl (Nat.le_of_ble_eq_true rfl) h4 (by decide) (c_grow_b hfl (Nat.le_of_ble_eq_true rfl) h48 hel h4)) rfl rfl dJx4a65c_add_72be8_7 ⟨rfl, rfl⟩ (by decide) hl.1 (Nat.le_of_ble_eq_true rfl) ⟨Nat.le_of_ble_eq_true rfl, Nat.le_of_ble_eq_true rfl⟩ fun g1 N1 f1 q H locs hp hw => ?_
  cases hp
  refine lv_astore_n (lv' := [(2, .ref q), (0, .ref (g 4)), (1, .ref (g 58)), (3, .int 10)]) hx hb dJx4a65c_add_72be8_10 rfl hl (by decide) rfl (fun ls hl => ?_)
  have hg4 : va_up g 59 q 4 = g 4 := va_up_ne _ _ (by decide)
  have hg47 : va_up g 59 q 58 = g 58 := va_up_ne _ _ (by decide)
  have hgq : va_up g 59 q 59 = q := va_up_self _ _ _
  have hl := lv_sub hl [1, 2, 0, 3] rfl
  have hext := add_grow_ext (g := g) (cy := cy) (q := q) (L := 15) (F := va_cpy (fun j => if j < 10 then some (g (rid j)) else none) (fun _ => none) 0 0 10) hL (by decide) (Or.inr rfl) hN rfl rfl (fun j => by
    unfold va_cpy
    by_cases hj : j < 10
    · rw [if_pos ⟨Nat.zero_le _, by omega⟩, if_pos hj]
      show (if 0 + (j - 0) < 10 then _ else _) = _
      rw [if_pos (by omega), Nat.zero_add, Nat.sub_zero]
    · rw [if_neg (fun q9 => hj (by omega)), if_neg hj]) (X 4 0) 10 rfl
  refine w_addtail C hw (ka := 59) (t := 58) (zi := 10) (rv := .ref q) (by rw [hg4, hg47]; exact hl) (by rw [hgq]) (by decide) (va_up_self _ _ _) (by decide) (by rw [va_up_ne _ _ (by decide), va_up_self]) (by decide) (by decide) (vs := [.int (X 58 0), .int (X 58 1), .int (X 58 2), .int (X 58 3), .int (X 58 4), .int (X 58 5), .int (X 58 6)]) (by rw [va_up_ne _ _ (by decide), va_up_ne _ _ (by decide)]; rfl) (show ¬ ((10 : Int32) < 0 ∨ 15 ≤ (10 : Int32).toNatClampNeg) by decide) fun H locs hw => ?_
  rw [hg47] at hw
  exact hret 22 ls (va_up g 59 q) 60 (shp (va_up g 59 q) cy (addX X 10)) H locs _ _ ⟨rfl, fun j hj => va_up_ne _ _ (by omega), rfl⟩ (hw.ext hext) (Nat.le_of_ble_eq_true rfl) (Nat.le_of_ble_eq_true rfl) dJx4a65c_add_72be8_22
/-- all of them -/
theorem c_add72 {l : Launch} {D : va_G} {cy : Nat → Nat} {g : Nat → Nat} {N n : Nat} {X : Nat → Nat → Int32} (hfl : l.stackTraces = false) (hL : lst X n) (h12 : n < 12) (hN : N = rid n + 1) : cNv l D cy yJx4a65c_add_72be8 cJx4a65c_add_72be8 4 none 5 1 15 [.ref (g 4), .ref (g (rid n)), .ref (wElem cy g (X 4 2)), .int (X 4 2)] g N (shp g cy X) (addP cy g N X n) := by
  by_cases h0 : n = 0
  · subst h0; exact c_add72_0 hfl hL hN
  · by_cases h10 : n = 10
    · subst h10; exact c_add72_10 hfl hL hN
    · exact c_add72_n hfl hL (by omega) h10 h12 hN
section GTS
variable {p : Program} {l : Launch} {e : Env} {R : Room} {s : State} {m : MethodId} {args : Array Value} {below : List Frame} {meth : Method} {c : Code} {H : Heap} {locs : List Loc} {cells slots : Nat} {Q : State → Prop}
variable {cc : ByteArray} {nL : Nat} {own : String} {pc : Nat} {ls : Array Slot} {rest : List Value} {D : va_G} {cy : Nat → Nat} {A : Nat → Prop} {g : Nat → Nat} {N : Nat} {f : Nat → va_E}
/-- a field that another class declares -/
theorem w_getS (C : wCx p l s m args c meth cc nL own D cy A) (h : Wd D A s.heap g N f H locs) {ci k j n index : Nat} {fs : List Value} {v : Value} {C0 ref : String} {T : u_T} (hk : k < N) (hf : f k = .inr (ci, fs)) (hc : vwCl[ci]? = some (C0, T, n)) (hj : j < n) (hlink : (Cond.fieldLink own index ref (T j).2.1 (T j).2.2.1) ∈ wAll) (hsm : (Cond.sameField ref (T j).1 (T j).2.1 (T j).2.2.1) ∈ wAll) (hv : fs[j]? = some v) (hdg : decode cc pc = .ok (.getfield index, 3))
    (kk : W p l e R s m args below meth c H locs cells slots Q (F0 m (pc + 3) ls (v :: rest))) : W p l e R s m args below meth c H locs cells slots Q (F0 m pc ls (.ref (g k) :: rest)) :=
  va_get (D := D) (ci := ci) (C := C0) (T := T) (N := n) C.1 C.2.1 (C.lay hc) (fun _ h => h) C.2.2.2.1 C.2.2.2.2.2.1.1 h.1 k (by rw [wd_get hk, hf]) hc j hj (C.w hlink) (u_same (C.w hsm)) hv hdg kk
theorem w_putS (C : wCx p l s m args c meth cc nL own D cy A) (h : Wd D A s.heap g N f H locs) {ci k j n index : Nat} {fs : List Value} (fs' : List Value) {v : Value} {ty : Nat → FieldType} {C0 ref : String} {T : u_T} (hk : k < N) (hf : f k = .inr (ci, fs)) (hc : vwCl[ci]? = some (C0, T, n)) (hty : ∀ k, k < n → parseFieldDescriptor (T k).2.2.1 = some (ty k)) (hnm : ∀ a, a < n → ∀ b, b < n → a ≠ b → (T a).2.1 ≠ (T b).2.1) (hj : j < n) (hlink : (Cond.fieldLink own index ref (T j).2.1 (T j).2.2.1) ∈ wAll) (hsm : (Cond.sameField ref (T j).1 (T j).2.1 (T j).2.2.1) ∈ wAll) (hfin : (T j).2.2.2 = false) (hn : narrow (ty j) v = v) (hfit : fits (ty j) v = true) (hl : j < fs.length) (hs : fs.set j v = fs') (hdg : decode cc pc = .ok (.putfield index, 3))
    (kk : ∀ (H1 : Heap) (locs1 : List Loc), Wd D A s.heap g N (va_up f k (.inr (ci, fs'))) H1 locs1 → W p l e R s m args below meth c H1 locs1 cells slots Q (F0 m (pc + 3) ls rest)) : W p l e R s m args below meth c H locs cells slots Q (F0 m pc ls (v :: .ref (g k) :: rest)) := by
  subst hs
  exact va_put (D := D) (ci := ci) (C := C0) (T := T) (N := n) C.1 C.2.1 (C.lay hc) (fun _ h => h) ty hty hnm C.2.2.2.1 C.2.2.2.2.2.1.1 h.1 h.2.1 h.2.2 k (by rw [wd_get hk, hf]) hc j hj (C.w hlink) (u_same (C.w hsm)) hfin (hty j hj) hn hfit hl hdg fun H1 locs1 h1 h2 h3 => kk H1 locs1 (Wd.upd h1 h2 h3)
end GTS
def modX (X : Nat → Nat → Int32) : Nat → Nat → Int32 := up X 4 (upd (X 4) 0 (X 4 0 + 1))
theorem lst_mod {X : Nat → Nat → Int32} {n : Nat} (h : lst X n) : lst (modX X) n := by
  obtain ⟨h1, h2, h3, h4⟩ := h
  refine ⟨h1, ?_, fun q => ?_, fun q => ?_⟩
  · show up X 4 _ 4 2 = _
    rw [up_at]; exact h2
  · show up X 4 _ 48 = _
    rw [up_ne (by decide)]; exact h3 q
  · show up X 4 _ 59 = _
    rw [up_ne (by decide)]; exact h4 q
theorem c_add9 {l : Launch} {D : va_G} {cy : Nat → Nat} {g : Nat → Nat} {N n : Nat} {X : Nat → Nat → Int32} (hfl : l.stackTraces = false) (hL : lst X n) (h12 : n < 12) (hN : N = rid n + 1) : cNi l D cy yJx4a65c_add_9ea2d cJx4a65c_add_9ea2d 2 (some .boolean) 6 1 15 [.ref (g 4), .ref (g (rid n))] g N (shp g cy X) (fun r u => r = 1 ∧ addP cy g N (modX X) n u) := by
  refine iNi (own := RJx4a65c) (by decide) rfl hfl (Nat.le_of_ble_eq_true rfl) ?_
  intro p e s m below meth c ls C hr hw hl
  have hx := C.1
  have hb := C.2.1
  have hrn := rid_ge n
  have hl : lv_has ls 2 [(0, .ref (g 4)), (1, .ref (g (rid n)))] := hl
  refine lv_aload_n hx hb dJx4a65c_add_9ea2d_0 rfl (lv_at hl 0 rfl) ?_
  refine lv_dup hx hb dJx4a65c_add_9ea2d_1 rfl ?_
  refine w_getS C hw (k := 4) (v := .int (X 4 0)) (j := 0) (by omega) (sh_4 g cy _) rfl (by decide) k222 k223 rfl dJx4a65c_add_9ea2d_2 ?_
  refine lv_iconst (v := 1) hx hb dJx4a65c_add_9ea2d_5 (by decide) ?_
  refine lv_iadd hx hb dJx4a65c_add_9ea2d_6 ?_
  refine w_putS C hw [.int (X 4 0 + 1), .ref (wElem cy g (X 4 2)), .int (X 4 2)] (k := 4) (v := .int (X 4 0 + 1)) (ty := tyJx4a65c) (j := 0) (by omega) (sh_4 g cy _) rfl tyJx4a65c_ok nmJx4a65c (by decide) k222 k223 rfl rfl rfl (Nat.le_of_ble_eq_true rfl) rfl dJx4a65c_add_9ea2d_7 fun H locs hw => ?_
  have hw : Wd D (wA g N s.heap.size) s.heap g N (va_up (shp g cy X) 4 (sh g cy 4 (upd (X 4) 0 (X 4 0 + 1)))) H locs := hw
  rw [shp_up rfl] at hw
  have hm42 : modX X 4 2 = X 4 2 := by show up X 4 _ 4 2 = _; rw [up_at]; rfl
  have hw : Wd D (wA g N s.heap.size) s.heap g N (shp g cy (modX X)) H locs := hw
  refine lv_aload_n hx hb dJx4a65c_add_9ea2d_10 rfl (lv_at hl 0 rfl) ?_
  refine lv_aload_n hx hb dJx4a65c_add_9ea2d_11 rfl (lv_at hl 1 rfl) ?_
  refine lv_aload_n hx hb dJx4a65c_add_9ea2d_12 rfl (lv_at hl 0 rfl) ?_
  refine w_get C hw (k := 4) (v := .ref (wElem cy g (modX X 4 2))) (j := 1) (by omega) (sh_4 g cy _) rfl (by decide) k43 rfl dJx4a65c_add_9ea2d_13 ?_
  refine lv_aload_n hx hb dJx4a65c_add_9ea2d_16 rfl (lv_at hl 0 rfl) ?_
  refine w_get C hw (k := 4) (v := .int (modX X 4 2)) (j := 2) (by omega) (sh_4 g cy _) rfl (by decide) k30 rfl dJx4a65c_add_9ea2d_17 ?_
  refine w_vNv C hw (As := [.ref (g (rid n)), .ref (wElem cy g (modX X 4 2)), .int (modX X 4 2)]) bJx4a65c_add_72be8 k224 (k := 4) (by omega) (sh_4 g cy _) rfl (c_add72 hfl (lst_mod hL) h12 hN) rfl rfl dJx4a65c_add_9ea2d_20 ⟨rfl, rfl⟩ (by decide) hl.1 (Nat.le_of_ble_eq_true rfl) ⟨Nat.le_of_ble_eq_true rfl, Nat.le_of_ble_eq_true rfl⟩ fun g1 N1 f1 H locs hp hw => ?_
  refine lv_iconst (v := 1) hx hb dJx4a65c_add_9ea2d_23 (by decide) ?_
  exact eNz C hw hr (by decide) ⟨rfl, hp⟩ (Nat.le_of_ble_eq_true rfl) (Nat.le_of_ble_eq_true rfl) dJx4a65c_add_9ea2d_24
theorem c_X5_put {l : Launch} {D : va_G} {cy : Nat → Nat} {g : Nat → Nat} {N n : Nat} {X : Nat → Nat → Int32} (hfl : l.stackTraces = false) (hL : lst X n) (h12 : n < 12) (hN : N = rid n + 1) : cNv l D cy yX5_put cX5_put 2 none 7 1 15 [.ref (g 3), .ref (g (rid n))] g N (shp g cy X) (addP cy g N (modX X) n) := by
  refine jNvg (own := RX5) (by decide) rfl hfl (Nat.le_of_ble_eq_true rfl) ?_
  intro p e R s m args below meth c ls A Q hRe C hw hl hret
  subst hRe
  have hx := C.1
  have hb := C.2.1
  have hrn := rid_ge n
  have hN47 : 47 ≤ N := by omega
  have hl : lv_has ls 2 [(0, .ref (g 3)), (1, .ref (g (rid n)))] := hl
  refine lv_aload_n hx hb dX5_put_0 rfl (lv_at hl 0 rfl) ?_
  refine w_get C hw (k := 3) (v := .ref (g 4)) (j := 0) (by omega) (sh_3 g cy _) rfl (by decide) k32 rfl dX5_put_1 ?_
  refine s_vRi C hw (r0 := X 4 2) (As := []) bJx4a65c_size_8abf5 k33 (k := 4) (by omega) (sh_4 g cy _) rfl (c_Jsize (X := X) hfl hN47) rfl rfl dX5_put_4 ⟨rfl, rfl⟩ (by decide) hl.1 (Nat.le_of_ble_eq_true rfl) ⟨Nat.le_of_ble_eq_true rfl, Nat.le_of_ble_eq_true rfl⟩ ?_
  refine lv_bipush (v := 12) hx hb dX5_put_7 (by decide) ?_
  refine lv_icmp_ge (tgt := 21) hx hb dX5_put_9 (by decide) (fun cz => ?_) (fun _ => ?_)
  · exact absurd cz (by
      rw [hL.2.1]
      have : ∀ n, n < 12 → ¬ (12 : Int32) ≤ Int32.ofNat n := by decide
      exact this n h12)
  · refine lv_aload_n hx hb dX5_put_12 rfl (lv_at hl 0 rfl) ?_
    refine w_get C hw (k := 3) (v := .ref (g 4)) (j := 0) (by omega) (sh_3 g cy _) rfl (by decide) k32 rfl dX5_put_13 ?_
    refine lv_aload_n hx hb dX5_put_16 rfl (lv_at hl 1 rfl) ?_
    refine w_vNi C hw (As := [.ref (g (rid n))]) bJx4a65c_add_9ea2d k228 (k := 4) (by omega) (sh_4 g cy _) rfl (c_add9 hfl hL h12 hN) rfl rfl dX5_put_17 ⟨rfl, rfl⟩ (by decide) hl.1 (Nat.le_of_ble_eq_true rfl) ⟨Nat.le_of_ble_eq_true rfl, Nat.le_of_ble_eq_true rfl⟩ fun r g1 N1 f1 H locs hp hw => ?_
    refine lv_pop hx hb dX5_put_20 rfl ?_
    exact hret 21 ls g1 N1 f1 H locs _ _ hp.2 hw (Nat.le_of_ble_eq_true rfl) (Nat.le_of_ble_eq_true rfl) dX5_put_21


/-! THE PLAIN PART: ints by numbers and by bits -/
def tb (x : Int32) (k : Nat) : Bool := x.toBitVec.getLsbD k
theorem tb_or (x y : Int32) (k : Nat) : tb (x ||| y) k = (tb x k || tb y k) := by
  unfold tb; rw [Int32.toBitVec_or, BitVec.getLsbD_or]
theorem tb_and (x y : Int32) (k : Nat) : tb (x &&& y) k = (tb x k && tb y k) := by
  unfold tb; rw [Int32.toBitVec_and, BitVec.getLsbD_and]
theorem tb_xor (x y : Int32) (k : Nat) : tb (x ^^^ y) k = (tb x k ^^ tb y k) := by
  unfold tb; rw [Int32.toBitVec_xor, BitVec.getLsbD_xor]
theorem tb_big (x : Int32) {k : Nat} (h : 32 ≤ k) : tb x k = false := by
  unfold tb; exact BitVec.getLsbD_of_ge _ _ h
theorem tb_ext {x y : Int32} (h : ∀ k, k < 32 → tb x k = tb y k) : x = y := by
  apply Int32.toBitVec_inj.mp
  apply BitVec.eq_of_getLsbD_eq
  intro i hi
  exact h i hi
theorem tb_0 (k : Nat) : tb 0 k = false := by
  unfold tb; exact BitVec.getLsbD_zero
theorem tb_m1 {k : Nat} (h : k < 32) : tb (-1) k = true := by
  have : ∀ k, k < 32 → tb (-1) k = true := by decide
  exact this k h
theorem tb_not (x : Int32) {k : Nat} (h : k < 32) : tb (x ^^^ (-1)) k = !tb x k := by
  rw [tb_xor, tb_m1 h]
  cases tb x k <;> rfl
theorem eq0_tb {x : Int32} : x = 0 ↔ ∀ k, k < 32 → tb x k = false :=
  ⟨fun h k _ => by rw [h]; exact tb_0 k, fun h => tb_ext fun k hk => by rw [h k hk, tb_0]⟩
theorem zi31 {k : Nat} (h : k < 32) : Int32.ofNat k &&& 31 = Int32.ofNat k := by
  have : ∀ k, k < 32 → Int32.ofNat k &&& 31 = Int32.ofNat k := by decide
  exact this k h
theorem zismod {k : Nat} (h : k < 32) : ((Int32.ofNat k).toBitVec.smod 32).toNat = k := by
  have : ∀ k, k < 32 → ((Int32.ofNat k).toBitVec.smod 32).toNat = k := by decide
  exact this k h
theorem tb_shl (x : Int32) {k j : Nat} (h : k < 32) (hj : j < 32) : tb (x <<< (Int32.ofNat k &&& 31)) j = (decide (k ≤ j) && tb x (j - k)) := by
  unfold tb
  rw [zi31 h, Int32.toBitVec_shiftLeft, BitVec.shiftLeft_eq', zismod h, BitVec.getLsbD_shiftLeft]
  simp [hj]
  by_cases hkj : k ≤ j
  · simp [hkj, Nat.not_lt.mpr hkj]
  · simp [hkj, Nat.lt_of_not_le hkj]
theorem tb_shr (x : Int32) {k j : Nat} (h : k + j < 32) : tb (x >>> (Int32.ofNat k &&& 31)) j = tb x (k + j) := by
  unfold tb
  rw [zi31 (by omega), Int32.toBitVec_shiftRight, BitVec.sshiftRight_eq', zismod (by omega), BitVec.getLsbD_sshiftRight]
  simp [h]
  omega

theorem tb_1 {k : Nat} (h : k < 32) : tb 1 k = decide (k = 0) := by
  have : ∀ k, k < 32 → tb 1 k = decide (k = 0) := by decide
  exact this k h
theorem tb_bit {k j : Nat} (h : k < 32) (hj : j < 32) : tb ((1 : Int32) <<< (Int32.ofNat k &&& 31)) j = decide (j = k) := by
  rw [tb_shl _ h hj, tb_1 (by omega)]
  by_cases h1 : j = k
  · subst h1; simp
  · by_cases h2 : k ≤ j
    · simp [h1, h2]; omega
    · simp [h1, h2]
theorem bit_0 (x : Int32) {k : Nat} (h : k < 32) : ((x >>> (Int32.ofNat k &&& 31)) &&& 1) = 0 ↔ tb x k = false := by
  rw [eq0_tb]
  constructor
  · intro q
    have := q 0 (by omega)
    rw [tb_and, tb_shr x (by omega), tb_1 (by omega)] at this
    simpa using this
  · intro q j hj
    rw [tb_and, tb_1 hj]
    by_cases h0 : j = 0
    · subst h0
      rw [tb_shr x (by omega)]
      simpa using q
    · simp [h0]
theorem bit_1 (x : Int32) {k : Nat} (h : k < 32) : ((x >>> (Int32.ofNat k &&& 31)) &&& 1) = 1 ↔ tb x k = true := by
  constructor
  · intro q
    cases hb : tb x k with
    | true => rfl
    | false =>
      have := (bit_0 x h).mpr hb
      rw [q] at this
      exact absurd this (by decide)
  · intro q
    apply tb_ext
    intro j hj
    rw [tb_and, tb_1 hj]
    by_cases h0 : j = 0
    · subst h0
      rw [tb_shr x (by omega)]
      simpa using q
    · simp [h0]
theorem sub_0 (x y : Int32) : (x &&& (y ^^^ (-1))) = 0 ↔ ∀ k, k < 32 → tb x k = true → tb y k = true := by
  rw [eq0_tb]
  constructor
  · intro q k hk hx
    have := q k hk
    rw [tb_and, tb_not y hk, hx] at this
    simpa using this
  · intro q k hk
    rw [tb_and, tb_not y hk]
    cases hx : tb x k with
    | false => rfl
    | true => rw [q k hk hx]; rfl
theorem dis_0 (x y : Int32) : (x &&& y) = 0 ↔ ∀ k, k < 32 → tb x k = true → tb y k = false := by
  rw [eq0_tb]
  constructor
  · intro q k hk hx
    have := q k hk
    rw [tb_and, hx] at this
    simpa using this
  · intro q k hk
    rw [tb_and]
    cases hx : tb x k with
    | false => rfl
    | true => rw [q k hk hx]; rfl
theorem tb_nat {n k : Nat} (h : k < 32) : tb (Int32.ofNat n) k = n.testBit k := by
  unfold tb
  show (BitVec.ofNat 32 n).getLsbD k = _
  rw [BitVec.getLsbD_ofNat]
  simp [h]
/-- numbers -/
theorem zn_nat {n : Nat} (h : n < 2147483648) : (Int32.ofNat n).toNatClampNeg = n := Int32.toNatClampNeg_ofNat_of_lt h
theorem zn_int {n : Nat} (h : n < 2147483648) : (Int32.ofNat n).toInt = n := Int32.toInt_ofNat_of_lt h
theorem zn_lt {a b : Nat} (ha : a < 2147483648) (hb : b < 2147483648) : Int32.ofNat a < Int32.ofNat b ↔ a < b := by
  rw [Int32.lt_iff_toInt_lt, zn_int ha, zn_int hb]; omega
theorem zn_le {a b : Nat} (ha : a < 2147483648) (hb : b < 2147483648) : Int32.ofNat a ≤ Int32.ofNat b ↔ a ≤ b := by
  rw [Int32.le_iff_toInt_le, zn_int ha, zn_int hb]; omega
theorem zn_eq {a b : Nat} (ha : a < 2147483648) (hb : b < 2147483648) : Int32.ofNat a = Int32.ofNat b ↔ a = b :=
  ⟨fun h => by have := congrArg Int32.toInt h; rw [zn_int ha, zn_int hb] at this; omega, fun h => by rw [h]⟩
theorem zn_nn {n : Nat} (h : n < 2147483648) : ¬ Int32.ofNat n < 0 := by
  rw [Int32.lt_iff_toInt_lt, zn_int h]
  show ¬ (n : Int) < 0
  omega
theorem zn_add (a b : Nat) : Int32.ofNat a + Int32.ofNat b = Int32.ofNat (a + b) := (Int32.ofNat_add a b).symm
theorem zn_mul (a b : Nat) : Int32.ofNat a * Int32.ofNat b = Int32.ofNat (a * b) := (Int32.ofNat_mul a b).symm
theorem zn_ok {n m : Nat} (h : n < m) (hm : m ≤ 2147483648) : ¬ (Int32.ofNat n < 0 ∨ m ≤ (Int32.ofNat n).toNatClampNeg) := fun q => q.elim (zn_nn (by omega)) (fun q => by rw [zn_nat (by omega)] at q; omega)
theorem zn_m1 {n : Nat} (h : n < 2147483648) : ¬ Int32.ofNat n = -1 := fun q => by
  have := congrArg Int32.toInt q
  rw [zn_int h] at this
  have e : (-1 : Int32).toInt = -1 := rfl
  omega
/-- every number that is not negative is one of ours -/
theorem zn_of {x : Int32} (h : ¬ x < 0) : ∃ n : Nat, n < 2147483648 ∧ x = Int32.ofNat n := by
  have h0 : 0 ≤ x.toInt := by
    rw [Int32.lt_iff_toInt_lt] at h
    have e : (0 : Int32).toInt = 0 := rfl
    omega
  have h1 := Int32.toInt_lt x
  refine ⟨x.toInt.toNat, by omega, ?_⟩
  apply Int32.toInt_inj.mp
  rw [zn_int (by omega)]
  omega

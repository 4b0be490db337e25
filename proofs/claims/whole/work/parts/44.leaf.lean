/-! what the small methods give -/
theorem tn_m1 : (-1 : Int32) < 0 := by decide
theorem zn_lt24 {k : Nat} (h : k < 24) : ¬ (24 : Int32) ≤ Int32.ofNat k := by
  have : ∀ k, k < 24 → ¬ (24 : Int32) ≤ Int32.ofNat k := by decide
  exact this k h
theorem ev_conclusionAt {F k : Nat} {r : Nat → Int32} (h : k < 24) : m_X0_conclusionAt F r (Int32.ofNat k) = some (r k) := by
  unfold m_X0_conclusionAt
  rw [if_neg (zn_nn (by omega)), if_neg (zn_lt24 h), if_pos (zn_ok h (by omega)), zn_nat (by omega)]
theorem ev_conclusionAt_m {F : Nat} {r : Nat → Int32} : m_X0_conclusionAt F r (-1) = some 0 := by
  unfold m_X0_conclusionAt
  rw [if_pos tn_m1]
theorem ev_makerAt {F k : Nat} {r : Nat → Int32} (h : k < 24) : m_X0_makerAt F r (Int32.ofNat k) = some (r k) := by
  unfold m_X0_makerAt
  rw [if_neg (zn_nn (by omega)), if_neg (zn_lt24 h), if_pos (zn_ok h (by omega)), zn_nat (by omega)]
theorem ev_depthAt {F k : Nat} {r : Nat → Int32} (h : k < 24) : m_X0_depthAt F r (Int32.ofNat k) = some (r k) := by
  unfold m_X0_depthAt
  rw [if_neg (zn_nn (by omega)), if_neg (zn_lt24 h), if_pos (zn_ok h (by omega)), zn_nat (by omega)]
theorem ev_depthAt_m {F : Nat} {r : Nat → Int32} : m_X0_depthAt F r (-1) = some 0 := by
  unfold m_X0_depthAt
  rw [if_pos tn_m1]
theorem ev_reachedAt {F k : Nat} {r : Nat → Int32} (h : k < 24) : m_X0_reachedAt F r (Int32.ofNat k) = some (r k) := by
  unfold m_X0_reachedAt
  rw [if_neg (zn_nn (by omega)), if_neg (zn_lt24 h), if_pos (zn_ok h (by omega)), zn_nat (by omega)]
theorem ev_reachedAt_m {F : Nat} {r : Nat → Int32} : m_X0_reachedAt F r (-1) = some 0 := by
  unfold m_X0_reachedAt
  rw [if_pos tn_m1]
theorem ev_attackersOf {F k : Nat} {r : Nat → Int32} (h : k < 24) : m_X1_attackersOf F r (Int32.ofNat k) = some (r k) := by
  unfold m_X1_attackersOf
  rw [if_neg (zn_nn (by omega)), if_neg (zn_lt24 h), if_pos (zn_ok h (by omega)), zn_nat (by omega)]
theorem ev_attackersOf_m {F : Nat} {r : Nat → Int32} : m_X1_attackersOf F r (-1) = some 0 := by
  unfold m_X1_attackersOf
  rw [if_pos tn_m1]
theorem ev_roundAt {F k : Nat} {r : Nat → Int32} (h : k < 24) : m_X3_roundAt F r (Int32.ofNat k) = some (r k) := by
  unfold m_X3_roundAt
  rw [if_neg (zn_nn (by omega)), if_neg (zn_lt24 h), if_pos (zn_ok h (by omega)), zn_nat (by omega)]
theorem ev_partAt {F i p : Nat} {r : Nat → Int32} (h : i < 24) (hp : p < 3) : m_X0_partAt F r (Int32.ofNat i) (Int32.ofNat p) = some (r (i * 3 + p)) := by
  unfold m_X0_partAt
  have e3 : (3 : Int32) = Int32.ofNat 3 := rfl
  have e : Int32.ofNat i * 3 + Int32.ofNat p = Int32.ofNat (i * 3 + p) := by rw [e3, zn_mul, zn_add]
  have hlt : Int32.ofNat p < 3 := by rw [e3]; exact (zn_lt (by omega) (by omega)).mpr hp
  rw [if_neg (zn_nn (by omega)), if_neg (zn_lt24 h), if_neg (zn_nn (by omega)), if_pos hlt, e, if_pos (zn_ok (by omega) (by omega)), zn_nat (by omega)]
theorem ev_withAll {F k : Nat} {r : Nat → Int32} (h : k < 24) : m_X10_withAll F r (Int32.ofNat k) = some (r k ||| ((1 : Int32) <<< (Int32.ofNat k &&& 31))) := by
  unfold m_X10_withAll
  rw [if_neg (zn_m1 (by omega)), if_pos (zn_ok h (by omega)), zn_nat (by omega)]
theorem ev_withAll_m {F : Nat} {r : Nat → Int32} : m_X10_withAll F r (-1) = some 0 := by
  unfold m_X10_withAll
  rw [if_pos rfl]
theorem ev_depthOf {F k : Nat} {r : Nat → Int32} (h : k < 24) : m_X10_depthOf F r (Int32.ofNat k) = some (r k) := by
  unfold m_X10_depthOf
  rw [if_neg (zn_m1 (by omega)), if_pos (zn_ok h (by omega)), zn_nat (by omega)]
theorem ev_depthOf_m {F : Nat} {r : Nat → Int32} : m_X10_depthOf F r (-1) = some 0 := by
  unfold m_X10_depthOf
  rw [if_pos rfl]
theorem ev_isPart {F ρ p k : Nat} {r32 r36 : Nat → Int32} (hρ : ρ < 12) (hp : p < 3) (h : k < 24) : m_X10_isPart F r32 r36 (Int32.ofNat ρ) (Int32.ofNat p) (Int32.ofNat k) = some (if r32 (3 * ρ + p) = 0 then 0 else if r36 k = r32 (3 * ρ + p) then 1 else 0) := by
  unfold m_X10_isPart
  have e3 : (3 : Int32) = Int32.ofNat 3 := rfl
  have e : 3 * Int32.ofNat ρ + Int32.ofNat p = Int32.ofNat (3 * ρ + p) := by rw [e3, zn_mul, zn_add]
  rw [e, if_pos (zn_ok (by omega) (by omega)), zn_nat (by omega)]
  by_cases h0 : r32 (3 * ρ + p) = 0
  · rw [if_pos h0, if_pos h0, if_neg (zn_m1 (by omega))]
  · rw [if_neg h0, if_neg h0, if_neg (zn_m1 (by omega)), if_pos (zn_ok h (by omega)), zn_nat (by omega)]
    by_cases h1 : r36 k = r32 (3 * ρ + p)
    · rw [if_pos h1, if_pos h1]
    · rw [if_neg h1, if_neg h1]
theorem ev_isPart_m {F ρ p : Nat} {r32 r36 : Nat → Int32} (hρ : ρ < 12) (hp : p < 3) : m_X10_isPart F r32 r36 (Int32.ofNat ρ) (Int32.ofNat p) (-1) = some (if r32 (3 * ρ + p) = 0 then 1 else 0) := by
  unfold m_X10_isPart
  have e3 : (3 : Int32) = Int32.ofNat 3 := rfl
  have e : 3 * Int32.ofNat ρ + Int32.ofNat p = Int32.ofNat (3 * ρ + p) := by rw [e3, zn_mul, zn_add]
  rw [e, if_pos (zn_ok (by omega) (by omega)), zn_nat (by omega)]
  by_cases h0 : r32 (3 * ρ + p) = 0
  · rw [if_pos h0, if_pos h0, if_pos rfl]
  · rw [if_neg h0, if_neg h0, if_pos rfl]
theorem ev_labelAt {F k : Nat} {r : Nat → Int32} (h : k < 32) : m_X3_labelAt F r (Int32.ofNat k) = some (if tb (r 1) k = true then 2 else if tb (r 2) k = true then 0 else 1) := by
  unfold m_X3_labelAt
  cases h1 : tb (r 1) k with
  | false =>
    rw [if_pos ((bit_0 _ h).mpr h1)]
    cases h2 : tb (r 2) k with
    | false => rw [if_pos ((bit_0 _ h).mpr h2)]; rfl
    | true => rw [if_neg (fun q => by rw [(bit_0 _ h).mp q] at h2; cases h2)]; rfl
  | true => rw [if_neg (fun q => by rw [(bit_0 _ h).mp q] at h1; cases h1)]; rfl

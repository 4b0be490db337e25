theorem upd02 {r : Nat → Int32} {v : Int32} : upd r 0 v 2 = r 2 := upd_ne (by decide)
theorem upd08 {r : Nat → Int32} {v : Int32} : upd r 0 v 8 = r 8 := upd_ne (by decide)
theorem ev_partAt_out {F i : Nat} {r : Nat → Int32} {z : Int32} (h : i < 24) (hz : z < 0 ∨ (3 : Int32) ≤ z) : m_X0_partAt F r (Int32.ofNat i) z = some (-1) := by
  unfold m_X0_partAt
  rw [if_neg (zn_nn (by omega)), if_neg (zn_lt24 h)]
  by_cases h0 : z < 0
  · rw [if_pos h0]
  · rw [if_neg h0, if_neg (fun q => by
      have h1 := hz.resolve_left h0
      rw [Int32.le_iff_toInt_le] at h1
      rw [Int32.lt_iff_toInt_lt] at q
      omega)]
theorem ev_parts2 {F i : Nat} {r : Nat → Int32} {z : Int32} (h : i < 24) : ∃ v, m_X0_partAt F r (Int32.ofNat i) z = some v ∧ ∀ q : Nat → Int32, r (3 * i) = q (3 * i) ∧ r (3 * i + 1) = q (3 * i + 1) ∧ r (3 * i + 2) = q (3 * i + 2) → (if z < 0 then some ((-1) : Int32) else (if 3 ≤ z then some ((-1) : Int32) else (if ¬ (((3 * Int32.ofNat i) + z) < 0 ∨ 72 ≤ ((3 * Int32.ofNat i) + z).toNatClampNeg) then some (q ((3 * Int32.ofNat i) + z).toNatClampNeg) else none))) = some v := by
  by_cases hz : z < 0 ∨ (3 : Int32) ≤ z
  · refine ⟨-1, ev_partAt_out h hz, fun q hq => ?_⟩
    by_cases h0 : z < 0
    · rw [if_pos h0]
    · rw [if_neg h0, if_pos (hz.resolve_left h0)]
  · obtain ⟨p, hp, e⟩ := arg_of (m := 3) (za := z) (by omega) hz
    have e3 : (3 : Int32) = Int32.ofNat 3 := rfl
    have e4 : 3 * Int32.ofNat i + Int32.ofNat p = Int32.ofNat (3 * i + p) := by rw [e3, zn_mul, zn_add]
    refine ⟨r (i * 3 + p), by rw [e]; exact ev_partAt h hp, fun q hq => ?_⟩
    rw [if_neg (fun w => hz (Or.inl w)), if_neg (fun w => hz (Or.inr w)), e, e4, if_pos (zn_ok (by omega) (by omega)), zn_nat (by omega), Nat.mul_comm i 3]
    have : p = 0 ∨ p = 1 ∨ p = 2 := by omega
    rcases this with w | w | w
    · subst w; exact congrArg some hq.1.symm
    · subst w; exact congrArg some hq.2.1.symm
    · subst w; exact congrArg some hq.2.2.symm

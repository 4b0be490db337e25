theorem upd02 {r : Nat → Int32} {v : Int32} : upd r 0 v 2 = r 2 := upd_ne (by decide)
theorem upd08 {r : Nat → Int32} {v : Int32} : upd r 0 v 8 = r 8 := upd_ne (by decide)
theorem ev_partAt_out {F i : Nat} {r : Nat → Int32} {z : Int32} (h : i < 24) (hz : z < 0 ∨ (3 : Int32) ≤ z) : m_X0_partAt F r (Int32.ofNat i) z = some (-1) := by
  unfold m_X0_partAt
  rw [if_neg (zn_nn (by omega)), if_neg (zn_lt24 h)]
  by_cases h0 : z < 0
  · rw [if_pos h0]
  · rw [if_neg h0, if_neg (fun q => by
      have h1 := hz.resolve_left h0
      rw [Int32.le_iff_toInt_le] at h1
      rw [Int32.lt_iff_toInt_lt] at q
      omega)]

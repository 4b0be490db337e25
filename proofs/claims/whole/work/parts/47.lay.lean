/-! an argument laid: class and model -/
theorem zn_24 {n : Nat} (h : n < 24) : Int32.ofNat n < 24 := by
  have : ∀ n, n < 24 → Int32.ofNat n < 24 := by decide
  exact this n h
theorem ev_add {F n j : Nat} {r6 r7 r8 r9 r10 r11 : Nat → Int32} {a b c : Option Nat} {mk dep : Int32} (h5 : r6 5 = Int32.ofNat n) (hn : n < 24) (hj : j < 21) (ha : pok a 24) (hb : pok b 24) (hc : pok c 24) : m_X0_add F r6 r7 r8 r9 r10 r11 (lit j) mk dep (pv a) (pv b) (pv c) = some (upd r6 5 (Int32.ofNat (n + 1)), upd r7 n (lit j), upd r8 n mk, upd r9 n dep, upd (upd (upd r10 (n * 3) (pv a)) (n * 3 + 1) (pv b)) (n * 3 + 2) (pv c), upd r11 n (((((1 : Int32) <<< (Int32.ofNat j &&& 31)) ||| pg a r11) ||| pg b r11) ||| pg c r11)) := by
  unfold m_X0_add
  have e3 : Int32.ofNat n * 3 = Int32.ofNat (n * 3) := zn_mul n 3
  have e31 : Int32.ofNat (n * 3) + 1 = Int32.ofNat (n * 3 + 1) := zn_add _ 1
  have e32 : Int32.ofNat (n * 3) + 2 = Int32.ofNat (n * 3 + 2) := zn_add _ 2
  have e1 : Int32.ofNat n + 1 = Int32.ofNat (n + 1) := zn_add n 1
  rw [h5, e3, e31, e32, e1, if_pos (zn_24 hn), if_pos (zn_ok hn (by omega)), if_pos (zn_ok hn (by omega)), if_pos (zn_ok hn (by omega)), if_pos (zn_ok (by omega) (by omega)), if_pos (zn_ok (by omega) (by omega)), if_pos (zn_ok (by omega) (by omega)), ev_literalBit hj, ev_reachedP ha, ev_reachedP hb, ev_reachedP hc]
  simp only [Option.bind_some]
  rw [if_pos (zn_ok hn (by omega)), zn_nat (by omega), zn_nat (by omega), zn_nat (by omega), zn_nat (by omega)]
theorem ev_add_full {F : Nat} {r6 r7 r8 r9 r10 r11 : Nat → Int32} {z1 mk dep z4 z5 z6 : Int32} (h5 : r6 5 = Int32.ofNat 24) : m_X0_add F r6 r7 r8 r9 r10 r11 z1 mk dep z4 z5 z6 = some (upd r6 6 1, r7, r8, r9, r10, r11) := by
  unfold m_X0_add
  rw [h5, if_neg (by decide)]
theorem ev_lays {F n : Nat} {r29 r36 r37 r38 r39 r40 : Nat → Int32} {a b c : Option Nat} {z1 mk dep : Int32} (h8 : r29 8 = Int32.ofNat n) (hn : n < 24) (ha : pok a 24) (hb : pok b 24) (hc : pok c 24) : m_X10_lays F r29 r36 r37 r38 r39 r40 z1 mk (pv a) (pv b) (pv c) dep = some (upd r29 8 (Int32.ofNat (n + 1)), upd r36 n z1, upd r37 n mk, upd (upd (upd r38 (3 * n) (pv a)) (3 * n + 1) (pv b)) (3 * n + 2) (pv c), upd r39 n dep, upd r40 n ((pw a r40 ||| pw b r40) ||| pw c r40)) := by
  unfold m_X10_lays
  have e3 : 3 * Int32.ofNat n = Int32.ofNat (3 * n) := zn_mul 3 n
  have e31 : Int32.ofNat (3 * n) + 1 = Int32.ofNat (3 * n + 1) := zn_add _ 1
  have e32 : Int32.ofNat (3 * n) + 2 = Int32.ofNat (3 * n + 2) := zn_add _ 2
  have e1 : Int32.ofNat n + 1 = Int32.ofNat (n + 1) := zn_add n 1
  have hne : ¬ Int32.ofNat n = 24 := by
    have : ∀ n, n < 24 → ¬ Int32.ofNat n = 24 := by decide
    exact this n hn
  rw [h8, e3, e31, e32, e1, if_neg hne, if_pos (zn_ok hn (by omega)), if_pos (zn_ok hn (by omega)), if_pos (zn_ok (by omega) (by omega)), if_pos (zn_ok (by omega) (by omega)), if_pos (zn_ok (by omega) (by omega)), if_pos (zn_ok hn (by omega)), ev_withAllP ha, ev_withAllP hb, ev_withAllP hc]
  simp only [Option.bind_some]
  rw [if_pos (zn_ok hn (by omega)), zn_nat (by omega), zn_nat (by omega), zn_nat (by omega), zn_nat (by omega)]
theorem ev_lays_full {F : Nat} {r29 r36 r37 r38 r39 r40 : Nat → Int32} {z1 z2 z3 z4 z5 z6 : Int32} (h8 : r29 8 = Int32.ofNat 24) : m_X10_lays F r29 r36 r37 r38 r39 r40 z1 z2 z3 z4 z5 z6 = some (upd r29 9 1, r36, r37, r38, r39, r40) := by
  unfold m_X10_lays
  rw [h8, if_pos (by decide)]

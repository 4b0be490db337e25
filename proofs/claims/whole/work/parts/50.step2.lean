theorem simB_add {n : Nat} {c6 c7 c8 c9 c10 d29 d36 d37 d38 d39 : Nat → Int32} {z1 mk dep pa pb pc : Int32} (h : simB n c6 c7 c8 c9 c10 d29 d36 d37 d38 d39) (hn : n < 24) :
    simB (n + 1) (upd c6 5 (Int32.ofNat (n + 1))) (upd c7 n z1) (upd c8 n mk) (upd c9 n dep) (upd (upd (upd c10 (n * 3) pa) (n * 3 + 1) pb) (n * 3 + 2) pc) (upd d29 8 (Int32.ofNat (n + 1))) (upd d36 n z1) (upd d37 n mk) (upd (upd (upd d38 (3 * n) pa) (3 * n + 1) pb) (3 * n + 2) pc) (upd d39 n dep) := by
  obtain ⟨h1, h2, h3, h4, h5, h6⟩ := h
  refine ⟨by omega, upd_at _ _ _, upd_at _ _ _, ?_, ?_, fun i hi => ?_⟩
  · rw [upd_ne (by decide), upd_ne (by decide)]; exact h4
  · rw [upd_ne (by decide)]; exact h5
  · have e3 : n * 3 = 3 * n := Nat.mul_comm n 3
    rw [e3]
    by_cases e : i = n
    · subst e
      refine ⟨by rw [upd_at, upd_at], by rw [upd_at, upd_at], by rw [upd_at, upd_at], ?_, ?_, ?_⟩
      · rw [upd_ne (by omega), upd_ne (by omega), upd_at, upd_ne (by omega), upd_ne (by omega), upd_at]
      · rw [upd_ne (by omega), upd_at, upd_ne (by omega), upd_at]
      · rw [upd_at, upd_at]
    · obtain ⟨q1, q2, q3, q4, q5, q6⟩ := h6 i (by omega)
      refine ⟨by rw [upd_ne e, upd_ne e]; exact q1, by rw [upd_ne e, upd_ne e]; exact q2, by rw [upd_ne e, upd_ne e]; exact q3, ?_, ?_, ?_⟩
      · rw [upd_ne (by omega), upd_ne (by omega), upd_ne (by omega), upd_ne (by omega), upd_ne (by omega), upd_ne (by omega)]; exact q4
      · rw [upd_ne (by omega), upd_ne (by omega), upd_ne (by omega), upd_ne (by omega), upd_ne (by omega), upd_ne (by omega)]; exact q5
      · rw [upd_ne (by omega), upd_ne (by omega), upd_ne (by omega), upd_ne (by omega), upd_ne (by omega), upd_ne (by omega)]; exact q6
theorem simB_full {n : Nat} {c6 c7 c8 c9 c10 d29 d36 d37 d38 d39 : Nat → Int32} (h : simB n c6 c7 c8 c9 c10 d29 d36 d37 d38 d39) : simB n (upd c6 6 1) c7 c8 c9 c10 (upd d29 9 1) d36 d37 d38 d39 := by
  obtain ⟨h1, h2, h3, h4, h5, h6⟩ := h
  exact ⟨h1, by rw [upd_ne (by decide)]; exact h2, by rw [upd_ne (by decide)]; exact h3, by rw [upd_at, upd_at], Or.inr (upd_at _ _ _), h6⟩

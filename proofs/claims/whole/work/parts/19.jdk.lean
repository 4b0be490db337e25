def m_X5_size (F : Nat) (r4 : Nat → Int32) : Option Int32 := some (r4 2)
theorem c_X5_size {l : Launch} {D : va_G} {cy : Nat → Nat} {g : Nat → Nat} {N : Nat} {X : Nat → Nat → Int32} {F : Nat} {R0 : Int32} (hfl : l.stackTraces = false) (hN : 47 ≤ N) (hinv : m_X5_size F (X 4) = some R0) : sRi l D cy yX5_size cX5_size 1 (some .int) 1 [.ref (g 3)] g N X R0 := by
  sorry
theorem c_X5_at {l : Launch} {D : va_G} {cy : Nat → Nat} {g : Nat → Nat} {N : Nat} {X RR : Nat → Nat → Int32} {a1 : Int32} (hfl : l.stackTraces = false) (hX : rok X RR N) : sRr l D cy yX5_at cX5_at 2 (some (.object "RuleArguments$Rule")) 3 [.ref (g 3), .int a1] g N X (aid (RR 4 2) a1) := by
  sorry

/-! THE SHAPE: each cell by its number; what it holds is a row of ints -/
def rid (j : Nat) : Nat := if j = 0 then 47 else if j ≤ 9 then 48 + j else if j = 10 then 58 else 60
def wElem (cy g : Nat → Nat) (n : Int32) : Nat := if n = 0 then cy 9 else if n ≤ 10 then g 48 else g 59
def sh (g cy : Nat → Nat) (j : Nat) (row : Nat → Int32) : va_E := match j with
  | 0 => .inr (10, [.ref (g 1), .ref (g 3), .ref (g 6), .ref (g 12), .ref (g 14), .ref (g 16), .int (row 6), .int (row 7), .int (row 8)])
  | 1 => .inr (3, [.ref (g 2), .int (row 1)])
  | 2 => .inl (cy 1, 21, .inl row)
  | 3 => .inr (6, [.ref (g 4), .ref (g 5)])
  | 4 => .inr (0, [.int (row 0), .ref (wElem cy g (row 2)), .int (row 2)])
  | 5 => .inr (5, [.int (row 0), .int (row 1), .int (row 2), .int (row 3), .int (row 4), .int (row 5), .int (row 6)])
  | 6 => .inr (1, [.ref (g 7), .ref (g 8), .ref (g 9), .ref (g 10), .ref (g 11), .int (row 5), .int (row 6)])
  | 7 => .inl (cy 0, 24, .inl row)
  | 8 => .inl (cy 0, 24, .inl row)
  | 9 => .inl (cy 0, 24, .inl row)
  | 10 => .inl (cy 0, 72, .inl row)
  | 11 => .inl (cy 0, 24, .inl row)
  | 12 => .inr (2, [.ref (g 13)])
  | 13 => .inl (cy 0, 24, .inl row)
  | 14 => .inr (4, [.ref (g 15), .int (row 1), .int (row 2)])
  | 15 => .inl (cy 0, 24, .inl row)
  | 16 => .inr (8, [.ref (g 17), .ref (g 21), .ref (g 25), .ref (g 27), .int (row 4)])
  | 17 => .inr (9, [.ref (g 18), .ref (g 19), .ref (g 20)])
  | 18 => .inl (cy 0, 14, .inl row)
  | 19 => .inl (cy 0, 128, .inl row)
  | 20 => .inl (cy 0, 128, .inl row)
  | 21 => .inr (9, [.ref (g 22), .ref (g 23), .ref (g 24)])
  | 22 => .inl (cy 0, 14, .inl row)
  | 23 => .inl (cy 0, 128, .inl row)
  | 24 => .inl (cy 0, 128, .inl row)
  | 25 => .inr (7, [.ref (g 26), .int (row 1)])
  | 26 => .inl (cy 0, 162, .inl row)
  | 27 => .inr (7, [.ref (g 28), .int (row 1)])
  | 28 => .inl (cy 0, 162, .inl row)
  | 29 => .inr (11, [.int (row 0), .ref (g 30), .int (row 2), .ref (g 31), .ref (g 32), .ref (g 33), .ref (g 34), .ref (g 35), .int (row 8), .int (row 9), .ref (g 36), .ref (g 37), .ref (g 38), .ref (g 39), .ref (g 40), .ref (g 41), .ref (g 42), .ref (g 43), .ref (g 44), .ref (g 45)])
  | 30 => .inl (cy 1, 21, .inl row)
  | 31 => .inl (cy 0, 12, .inl row)
  | 32 => .inl (cy 0, 36, .inl row)
  | 33 => .inl (cy 0, 12, .inl row)
  | 34 => .inl (cy 0, 12, .inl row)
  | 35 => .inl (cy 1, 12, .inl row)
  | 36 => .inl (cy 0, 24, .inl row)
  | 37 => .inl (cy 0, 24, .inl row)
  | 38 => .inl (cy 0, 72, .inl row)
  | 39 => .inl (cy 0, 24, .inl row)
  | 40 => .inl (cy 0, 24, .inl row)
  | 41 => .inl (cy 0, 24, .inl row)
  | 42 => .inl (cy 0, 24, .inl row)
  | 43 => .inl (cy 0, 24, .inl row)
  | 44 => .inl (cy 1, 16384, .inl row)
  | 45 => .inl (cy 1, 16384, .inl row)
  | 46 => .inl (cy 3, 1, .inr (.inl (fun j => (row j).toInt64)))
  | 48 => .inl (cy 2, 10, .inr (.inr (.inr (.inr (fun j => if row j = 0 then none else some (g (rid j)))))))
  | 59 => .inl (cy 2, 15, .inr (.inr (.inr (.inr (fun j => if row j = 0 then none else some (g (rid j)))))))
  | _ => .inr (5, [.int (row 0), .int (row 1), .int (row 2), .int (row 3), .int (row 4), .int (row 5), .int (row 6)])
def shp (g cy : Nat → Nat) (X : Nat → Nat → Int32) : Nat → va_E := fun j => sh g cy j (X j)
def up (X : Nat → Nat → Int32) (k : Nat) (row : Nat → Int32) : Nat → Nat → Int32 := fun j => if j = k then row else X j
theorem sh_0 (g cy : Nat → Nat) (row : Nat → Int32) : sh g cy 0 row = .inr (10, [.ref (g 1), .ref (g 3), .ref (g 6), .ref (g 12), .ref (g 14), .ref (g 16), .int (row 6), .int (row 7), .int (row 8)]) := rfl
theorem sh_1 (g cy : Nat → Nat) (row : Nat → Int32) : sh g cy 1 row = .inr (3, [.ref (g 2), .int (row 1)]) := rfl
theorem sh_2 (g cy : Nat → Nat) (row : Nat → Int32) : sh g cy 2 row = .inl (cy 1, 21, .inl row) := rfl
theorem sh_3 (g cy : Nat → Nat) (row : Nat → Int32) : sh g cy 3 row = .inr (6, [.ref (g 4), .ref (g 5)]) := rfl
theorem sh_4 (g cy : Nat → Nat) (row : Nat → Int32) : sh g cy 4 row = .inr (0, [.int (row 0), .ref (wElem cy g (row 2)), .int (row 2)]) := rfl
theorem sh_5 (g cy : Nat → Nat) (row : Nat → Int32) : sh g cy 5 row = .inr (5, [.int (row 0), .int (row 1), .int (row 2), .int (row 3), .int (row 4), .int (row 5), .int (row 6)]) := rfl
theorem sh_6 (g cy : Nat → Nat) (row : Nat → Int32) : sh g cy 6 row = .inr (1, [.ref (g 7), .ref (g 8), .ref (g 9), .ref (g 10), .ref (g 11), .int (row 5), .int (row 6)]) := rfl
theorem sh_7 (g cy : Nat → Nat) (row : Nat → Int32) : sh g cy 7 row = .inl (cy 0, 24, .inl row) := rfl
theorem sh_8 (g cy : Nat → Nat) (row : Nat → Int32) : sh g cy 8 row = .inl (cy 0, 24, .inl row) := rfl
theorem sh_9 (g cy : Nat → Nat) (row : Nat → Int32) : sh g cy 9 row = .inl (cy 0, 24, .inl row) := rfl
theorem sh_10 (g cy : Nat → Nat) (row : Nat → Int32) : sh g cy 10 row = .inl (cy 0, 72, .inl row) := rfl
theorem sh_11 (g cy : Nat → Nat) (row : Nat → Int32) : sh g cy 11 row = .inl (cy 0, 24, .inl row) := rfl
theorem sh_12 (g cy : Nat → Nat) (row : Nat → Int32) : sh g cy 12 row = .inr (2, [.ref (g 13)]) := rfl
theorem sh_13 (g cy : Nat → Nat) (row : Nat → Int32) : sh g cy 13 row = .inl (cy 0, 24, .inl row) := rfl
theorem sh_14 (g cy : Nat → Nat) (row : Nat → Int32) : sh g cy 14 row = .inr (4, [.ref (g 15), .int (row 1), .int (row 2)]) := rfl
theorem sh_15 (g cy : Nat → Nat) (row : Nat → Int32) : sh g cy 15 row = .inl (cy 0, 24, .inl row) := rfl
theorem sh_16 (g cy : Nat → Nat) (row : Nat → Int32) : sh g cy 16 row = .inr (8, [.ref (g 17), .ref (g 21), .ref (g 25), .ref (g 27), .int (row 4)]) := rfl
theorem sh_17 (g cy : Nat → Nat) (row : Nat → Int32) : sh g cy 17 row = .inr (9, [.ref (g 18), .ref (g 19), .ref (g 20)]) := rfl
theorem sh_18 (g cy : Nat → Nat) (row : Nat → Int32) : sh g cy 18 row = .inl (cy 0, 14, .inl row) := rfl
theorem sh_19 (g cy : Nat → Nat) (row : Nat → Int32) : sh g cy 19 row = .inl (cy 0, 128, .inl row) := rfl
theorem sh_20 (g cy : Nat → Nat) (row : Nat → Int32) : sh g cy 20 row = .inl (cy 0, 128, .inl row) := rfl
theorem sh_21 (g cy : Nat → Nat) (row : Nat → Int32) : sh g cy 21 row = .inr (9, [.ref (g 22), .ref (g 23), .ref (g 24)]) := rfl
theorem sh_22 (g cy : Nat → Nat) (row : Nat → Int32) : sh g cy 22 row = .inl (cy 0, 14, .inl row) := rfl
theorem sh_23 (g cy : Nat → Nat) (row : Nat → Int32) : sh g cy 23 row = .inl (cy 0, 128, .inl row) := rfl
theorem sh_24 (g cy : Nat → Nat) (row : Nat → Int32) : sh g cy 24 row = .inl (cy 0, 128, .inl row) := rfl
theorem sh_25 (g cy : Nat → Nat) (row : Nat → Int32) : sh g cy 25 row = .inr (7, [.ref (g 26), .int (row 1)]) := rfl
theorem sh_26 (g cy : Nat → Nat) (row : Nat → Int32) : sh g cy 26 row = .inl (cy 0, 162, .inl row) := rfl
theorem sh_27 (g cy : Nat → Nat) (row : Nat → Int32) : sh g cy 27 row = .inr (7, [.ref (g 28), .int (row 1)]) := rfl
theorem sh_28 (g cy : Nat → Nat) (row : Nat → Int32) : sh g cy 28 row = .inl (cy 0, 162, .inl row) := rfl
theorem sh_29 (g cy : Nat → Nat) (row : Nat → Int32) : sh g cy 29 row = .inr (11, [.int (row 0), .ref (g 30), .int (row 2), .ref (g 31), .ref (g 32), .ref (g 33), .ref (g 34), .ref (g 35), .int (row 8), .int (row 9), .ref (g 36), .ref (g 37), .ref (g 38), .ref (g 39), .ref (g 40), .ref (g 41), .ref (g 42), .ref (g 43), .ref (g 44), .ref (g 45)]) := rfl
theorem sh_30 (g cy : Nat → Nat) (row : Nat → Int32) : sh g cy 30 row = .inl (cy 1, 21, .inl row) := rfl
theorem sh_31 (g cy : Nat → Nat) (row : Nat → Int32) : sh g cy 31 row = .inl (cy 0, 12, .inl row) := rfl
theorem sh_32 (g cy : Nat → Nat) (row : Nat → Int32) : sh g cy 32 row = .inl (cy 0, 36, .inl row) := rfl
theorem sh_33 (g cy : Nat → Nat) (row : Nat → Int32) : sh g cy 33 row = .inl (cy 0, 12, .inl row) := rfl
theorem sh_34 (g cy : Nat → Nat) (row : Nat → Int32) : sh g cy 34 row = .inl (cy 0, 12, .inl row) := rfl
theorem sh_35 (g cy : Nat → Nat) (row : Nat → Int32) : sh g cy 35 row = .inl (cy 1, 12, .inl row) := rfl
theorem sh_36 (g cy : Nat → Nat) (row : Nat → Int32) : sh g cy 36 row = .inl (cy 0, 24, .inl row) := rfl
theorem sh_37 (g cy : Nat → Nat) (row : Nat → Int32) : sh g cy 37 row = .inl (cy 0, 24, .inl row) := rfl
theorem sh_38 (g cy : Nat → Nat) (row : Nat → Int32) : sh g cy 38 row = .inl (cy 0, 72, .inl row) := rfl
theorem sh_39 (g cy : Nat → Nat) (row : Nat → Int32) : sh g cy 39 row = .inl (cy 0, 24, .inl row) := rfl
theorem sh_40 (g cy : Nat → Nat) (row : Nat → Int32) : sh g cy 40 row = .inl (cy 0, 24, .inl row) := rfl
theorem sh_41 (g cy : Nat → Nat) (row : Nat → Int32) : sh g cy 41 row = .inl (cy 0, 24, .inl row) := rfl
theorem sh_42 (g cy : Nat → Nat) (row : Nat → Int32) : sh g cy 42 row = .inl (cy 0, 24, .inl row) := rfl
theorem sh_43 (g cy : Nat → Nat) (row : Nat → Int32) : sh g cy 43 row = .inl (cy 0, 24, .inl row) := rfl
theorem sh_44 (g cy : Nat → Nat) (row : Nat → Int32) : sh g cy 44 row = .inl (cy 1, 16384, .inl row) := rfl
theorem sh_45 (g cy : Nat → Nat) (row : Nat → Int32) : sh g cy 45 row = .inl (cy 1, 16384, .inl row) := rfl
theorem sh_46 (g cy : Nat → Nat) (row : Nat → Int32) : sh g cy 46 row = .inl (cy 3, 1, .inr (.inl (fun j => (row j).toInt64))) := rfl
theorem sh_48 (g cy : Nat → Nat) (row : Nat → Int32) : sh g cy 48 row = .inl (cy 2, 10, .inr (.inr (.inr (.inr (fun j => if row j = 0 then none else some (g (rid j))))))) := rfl
theorem sh_59 (g cy : Nat → Nat) (row : Nat → Int32) : sh g cy 59 row = .inl (cy 2, 15, .inr (.inr (.inr (.inr (fun j => if row j = 0 then none else some (g (rid j))))))) := rfl
theorem shp_up {g cy : Nat → Nat} {X : Nat → Nat → Int32} {k : Nat} {row : Nat → Int32} {e : va_E} (h : sh g cy k row = e) : va_up (shp g cy X) k e = shp g cy (up X k row) := by
  funext j
  by_cases hj : j = k
  · subst hj
    rw [va_up_self, ← h]
    show _ = sh g cy j (if j = j then row else X j)
    rw [if_pos rfl]
  · rw [va_up_ne _ _ hj]
    show sh g cy j (X j) = sh g cy j (if j = k then row else X j)
    rw [if_neg hj]
theorem up_self (X : Nat → Nat → Int32) (k : Nat) : up X k (X k) = X := by
  funext j
  by_cases hj : j = k
  · subst hj; simp [up]
  · simp [up, hj]
theorem up_at (X : Nat → Nat → Int32) (k : Nat) (r : Nat → Int32) : up X k r k = r := by simp [up]
theorem up_ne {X : Nat → Nat → Int32} {k j : Nat} {r : Nat → Int32} (h : j ≠ k) : up X k r j = X j := by simp [up, h]
/-- a number that a rule can have -/
def isRl (t : Nat) : Prop := t = 5 ∨ (46 < t ∧ t ≠ 48 ∧ t ≠ 59)
theorem sh_rl (g cy : Nat → Nat) {t : Nat} (h : isRl t) (row : Nat → Int32) : sh g cy t row = .inr (5, [.int (row 0), .int (row 1), .int (row 2), .int (row 3), .int (row 4), .int (row 5), .int (row 6)]) := by
  rcases h with rfl | ⟨h1, h2, h3⟩
  · rfl
  · unfold sh
    split <;> first | rfl | omega
def aid (sz i : Int32) : Nat := if i < 0 then 5 else if sz ≤ i then 5 else rid i.toNatClampNeg
theorem rid_rl (j : Nat) : isRl (rid j) := by
  unfold rid isRl
  split
  · omega
  · split
    · omega
    · split <;> omega
theorem aid_rl (sz i : Int32) : isRl (aid sz i) := by
  unfold aid
  split
  · exact Or.inl rfl
  · split
    · exact Or.inl rfl
    · exact rid_rl _
/-- the rules' cells stand, and hold what RR says -/
def rkt (X RR : Nat → Nat → Int32) (N t : Nat) : Prop := isRl t ∧ t < N ∧ X t = RR t
def rok (X RR : Nat → Nat → Int32) (N : Nat) : Prop := 47 ≤ N ∧ X 4 2 = RR 4 2 ∧ (RR 4 2).toNatClampNeg ≤ 12 ∧ ¬ RR 4 2 < 0 ∧ (∀ i, rkt X RR N (aid (RR 4 2) i)) ∧ (¬ RR 4 2 = 0 → 48 < N) ∧ (¬ RR 4 2 ≤ 10 → 59 < N) ∧ (∀ j, j < (RR 4 2).toNatClampNeg → X (if RR 4 2 ≤ 10 then 48 else 59) j = 1)
theorem rkt_up {X RR : Nat → Nat → Int32} {N t k : Nat} {r : Nat → Int32} (h : rkt X RR N t) (hk : k < 47 ∧ k ≠ 5) : rkt (up X k r) RR N t := by
  refine ⟨h.1, h.2.1, (up_ne ?_).trans h.2.2⟩
  rcases h.1 with h | h <;> omega
theorem rok_up {X RR : Nat → Nat → Int32} {N k : Nat} {r : Nat → Int32} (h : rok X RR N) (hk : k < 47 ∧ k ≠ 5 ∧ k ≠ 4) : rok (up X k r) RR N := by
  obtain ⟨h1, h2, h3, h4, h5, h6, h7, h8⟩ := h
  refine ⟨h1, ?_, h3, h4, fun i => rkt_up (h5 i) ⟨hk.1, hk.2.1⟩, h6, h7, fun j hj => ?_⟩
  · rw [up_ne (Ne.symm hk.2.2)]; exact h2
  · rw [up_ne (by split <;> omega)]; exact h8 j hj
theorem q47 {N k : Nat} (hN : 47 ≤ N) (h : Nat.ble (k + 1) 47 = true) : k < N := Nat.lt_of_lt_of_le (Nat.le_of_ble_eq_true h) hN
theorem ob {α β : Type} {x : Option α} {k : α → Option β} {R : β} (h : Option.bind x k = some R) : ∃ u, x = some u ∧ k u = some R := by
  cases x with
  | none => cases h
  | some u => exact ⟨u, rfl, h⟩
theorem oi_t {α : Type} {P : Prop} [Decidable P] {a b : Option α} {R : α} (c : P) (h : (if P then a else b) = some R) : a = some R := by rwa [if_pos c] at h
theorem oi_f {α : Type} {P : Prop} [Decidable P] {a b : Option α} {R : α} (c : ¬ P) (h : (if P then a else b) = some R) : b = some R := by rwa [if_neg c] at h
theorem oi_c {α : Type} {P : Prop} [Decidable P] {a : Option α} {R : α} (h : (if P then a else none) = some R) : P ∧ a = some R := by
  by_cases c : P
  · exact ⟨c, oi_t c h⟩
  · have := oi_f c h
    cases this

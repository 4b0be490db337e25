/-! one try of three parts -/
def dpt (o : Option Nat) (f : Nat → Nat) : Nat := match o with
  | none => 0
  | some k => f k
theorem mx3_nat {x y z : Nat} (hx : x < 100) (hy : y < 100) (hz : z < 100) : mx3 (Int32.ofNat x) (Int32.ofNat y) (Int32.ofNat z) = Int32.ofNat (max x (max y z)) := by
  unfold mx3
  have h1 : (if Int32.ofNat y < Int32.ofNat z then Int32.ofNat z else Int32.ofNat y) = Int32.ofNat (max y z) := by
    by_cases h : y < z
    · rw [if_pos ((zn_lt (by omega) (by omega)).mpr h), Nat.max_eq_right (Nat.le_of_lt h)]
    · rw [if_neg (fun q => h ((zn_lt (by omega) (by omega)).mp q)), Nat.max_eq_left (by omega)]
  rw [h1]
  by_cases h : x < max y z
  · rw [if_pos ((zn_lt (by omega) (by omega)).mpr h), Nat.max_eq_right (Nat.le_of_lt h)]
  · rw [if_neg (fun q => h ((zn_lt (by omega) (by omega)).mp q)), Nat.max_eq_left (by omega)]
/-- the model's deepest -/
def mxm (x y z : Int32) : Int32 := if z ≤ (if x ≤ y then y else x) then (if x ≤ y then y else x) else z
theorem mxm_nat {x y z : Nat} (hx : x < 100) (hy : y < 100) (hz : z < 100) : mxm (Int32.ofNat x) (Int32.ofNat y) (Int32.ofNat z) = Int32.ofNat (max x (max y z)) := by
  unfold mxm
  have h1 : (if Int32.ofNat x ≤ Int32.ofNat y then Int32.ofNat y else Int32.ofNat x) = Int32.ofNat (max x y) := by
    by_cases h : x ≤ y
    · rw [if_pos ((zn_le (by omega) (by omega)).mpr h), Nat.max_eq_right h]
    · rw [if_neg (fun q => h ((zn_le (by omega) (by omega)).mp q)), Nat.max_eq_left (by omega)]
  rw [h1]
  by_cases h : z ≤ max x y
  · rw [if_pos ((zn_le (by omega) (by omega)).mpr h)]
    congr 1
    omega
  · rw [if_neg (fun q => h ((zn_le (by omega) (by omega)).mp q))]
    congr 1
    omega
/-- a Nodup list of numbers below r is no longer than r -/
theorem nodup_len : ∀ (r : Nat) (l : List Nat), l.Nodup → (∀ x ∈ l, x < r) → l.length ≤ r := by
  intro r
  induction r with
  | zero =>
    intro l _ h
    cases l with
    | nil => exact Nat.le_refl _
    | cons x l => exact absurd (h x List.mem_cons_self) (Nat.not_lt_zero _)
  | succ r ih =>
    intro l hn h
    have h1 := fl_split (fun x => x == r) l
    have h2 := ih (l.filter (fun x => !(x == r))) (hn.sublist List.filter_sublist) (fun x hx => by
      rw [List.mem_filter] at hx
      have h3 := h x hx.1
      have h4 : x ≠ r := by simpa using hx.2
      omega)
    have h3 : (l.filter (fun x => x == r)).length ≤ 1 := by
      have hnd := hn.sublist (List.filter_sublist (p := fun x => x == r))
      have hall : ∀ x ∈ l.filter (fun x => x == r), x = r := fun x hx => by
        have := (List.mem_filter.mp hx).2
        simpa using this
      match l.filter (fun x => x == r), hnd, hall with
      | [], _, _ => simp
      | [_], _, _ => simp
      | a :: b :: t, hnd, hall =>
        exfalso
        have e1 := hall a List.mem_cons_self
        have e2 := hall b (List.mem_cons_of_mem _ List.mem_cons_self)
        rw [e1, e2] at hnd
        simp at hnd
    omega

/-! parts and literals by numbers -/
def pv (o : Option Nat) : Int32 := match o with
  | none => -1
  | some k => Int32.ofNat k
def lit (j : Nat) : Int32 := Int32.ofNat j - 10
theorem lit_10 {j : Nat} (h : j < 21) : lit j + 10 = Int32.ofNat j := by
  have : ∀ j, j < 21 → lit j + 10 = Int32.ofNat j := by decide
  exact this j h
theorem lit_10' {j : Nat} (h : j < 21) : 10 + lit j = Int32.ofNat j := by
  have : ∀ j, j < 21 → 10 + lit j = Int32.ofNat j := by decide
  exact this j h
theorem lit_neg {j : Nat} (h : j < 21) : -lit j = lit (20 - j) := by
  have : ∀ j, j < 21 → -lit j = lit (20 - j) := by decide
  exact this j h
theorem lit_sub {j : Nat} (h : j < 21) : 10 - lit j = Int32.ofNat (20 - j) := by
  have : ∀ j, j < 21 → 10 - lit j = Int32.ofNat (20 - j) := by decide
  exact this j h
theorem lit_inj {i j : Nat} (hi : i < 21) (hj : j < 21) : lit i = lit j ↔ i = j := by
  have : ∀ i, i < 21 → ∀ j, j < 21 → (lit i = lit j ↔ i = j) := by decide
  exact this i hi j hj
theorem lit_zero {j : Nat} (h : j < 21) : lit j = 0 ↔ j = 10 := by
  have : ∀ j, j < 21 → (lit j = 0 ↔ j = 10) := by decide
  exact this j h
/-- in range: one of ours -/
theorem lit_of {x : Int32} (h1 : ¬ x < -10) (h2 : ¬ 10 < x) : ∃ j, j < 21 ∧ x = lit j := by
  rw [Int32.lt_iff_toInt_lt] at h1 h2
  have e1 : (-10 : Int32).toInt = -10 := rfl
  have e2 : (10 : Int32).toInt = 10 := rfl
  rw [e1] at h1
  rw [e2] at h2
  refine ⟨(x.toInt + 10).toNat, by omega, ?_⟩
  have h3 : ∀ j, j < 21 → (lit j).toInt = (j : Int) - 10 := by decide
  apply Int32.toInt_inj.mp
  rw [h3 _ (by omega)]
  omega
theorem lit_in {j : Nat} (h : j < 21) : ¬ lit j < -10 ∧ ¬ 10 < lit j := by
  have : ∀ j, j < 21 → ¬ lit j < -10 ∧ ¬ 10 < lit j := by decide
  exact this j h
theorem ev_literalBit {F j : Nat} (h : j < 21) : m_X0_literalBit F (lit j) = some ((1 : Int32) <<< (Int32.ofNat j &&& 31)) := by
  unfold m_X0_literalBit
  rw [lit_10 h]
/-- what a part gives: its row's entry, or nothing -/
def pg (o : Option Nat) (r : Nat → Int32) : Int32 := match o with
  | none => 0
  | some k => r k
def pok (o : Option Nat) (n : Nat) : Prop := ∀ k, o = some k → k < n
theorem pok_none (n : Nat) : pok none n := fun k h => by cases h
theorem pok_some {k n : Nat} (h : k < n) : pok (some k) n := fun j hj => by cases hj; exact h
theorem ev_depthP {F : Nat} {r : Nat → Int32} {o : Option Nat} (h : pok o 24) : m_X0_depthAt F r (pv o) = some (pg o r) := by
  cases o with
  | none => exact ev_depthAt_m
  | some k => exact ev_depthAt (h k rfl)
theorem ev_reachedP {F : Nat} {r : Nat → Int32} {o : Option Nat} (h : pok o 24) : m_X0_reachedAt F r (pv o) = some (pg o r) := by
  cases o with
  | none => exact ev_reachedAt_m
  | some k => exact ev_reachedAt (h k rfl)
theorem ev_concP {F : Nat} {r : Nat → Int32} {o : Option Nat} (h : pok o 24) : m_X0_conclusionAt F r (pv o) = some (pg o r) := by
  cases o with
  | none => exact ev_conclusionAt_m
  | some k => exact ev_conclusionAt (h k rfl)
theorem ev_attP {F : Nat} {r : Nat → Int32} {o : Option Nat} (h : pok o 24) : m_X1_attackersOf F r (pv o) = some (pg o r) := by
  cases o with
  | none => exact ev_attackersOf_m
  | some k => exact ev_attackersOf (h k rfl)
theorem ev_depthOfP {F : Nat} {r : Nat → Int32} {o : Option Nat} (h : pok o 24) : m_X10_depthOf F r (pv o) = some (pg o r) := by
  cases o with
  | none => exact ev_depthOf_m
  | some k => exact ev_depthOf (h k rfl)
/-- a part and what it is built of -/
def pw (o : Option Nat) (r : Nat → Int32) : Int32 := match o with
  | none => 0
  | some k => r k ||| ((1 : Int32) <<< (Int32.ofNat k &&& 31))
theorem ev_withAllP {F : Nat} {r : Nat → Int32} {o : Option Nat} (h : pok o 24) : m_X10_withAll F r (pv o) = some (pw o r) := by
  cases o with
  | none => exact ev_withAll_m
  | some k => exact ev_withAll (h k rfl)
theorem tb_pw {o : Option Nat} {r : Nat → Int32} (h : pok o 24) {j : Nat} (hj : j < 32) : tb (pw o r) j = true ↔ ∃ k, o = some k ∧ (j = k ∨ tb (r k) j = true) := by
  cases o with
  | none =>
    constructor
    · intro q
      have : tb 0 j = true := q
      rw [tb_0] at this; cases this
    · rintro ⟨k, hk, -⟩; cases hk
  | some k =>
    show tb (r k ||| ((1 : Int32) <<< (Int32.ofNat k &&& 31))) j = true ↔ _
    have hk := h k rfl
    rw [tb_or, tb_bit (by omega) hj, Bool.or_eq_true, decide_eq_true_eq]
    constructor
    · intro q; exact ⟨k, rfl, q.symm⟩
    · rintro ⟨k', hk', q⟩; cases hk'; exact q.symm
theorem ev_isPartP {F ρ p : Nat} {r32 r36 : Nat → Int32} {o : Option Nat} (hρ : ρ < 12) (hp : p < 3) (h : pok o 24) (hne : ∀ k, o = some k → r36 k ≠ 0) : m_X10_isPart F r32 r36 (Int32.ofNat ρ) (Int32.ofNat p) (pv o) = some (if pg o r36 = r32 (3 * ρ + p) then 1 else 0) := by
  cases o with
  | none =>
    rw [show pv none = -1 from rfl, ev_isPart_m hρ hp]
    show some (if r32 (3 * ρ + p) = 0 then (1 : Int32) else 0) = some (if (0 : Int32) = r32 (3 * ρ + p) then 1 else 0)
    by_cases h0 : r32 (3 * ρ + p) = 0
    · rw [if_pos h0, if_pos h0.symm]
    · rw [if_neg h0, if_neg (fun q => h0 q.symm)]
  | some k =>
    rw [show pv (some k) = Int32.ofNat k from rfl, ev_isPart hρ hp (h k rfl)]
    show some (if r32 (3 * ρ + p) = 0 then (0 : Int32) else if r36 k = r32 (3 * ρ + p) then 1 else 0) = some (if r36 k = r32 (3 * ρ + p) then 1 else 0)
    by_cases h0 : r32 (3 * ρ + p) = 0
    · rw [if_pos h0, if_neg (fun q => hne k rfl (q.trans h0))]
    · rw [if_neg h0]

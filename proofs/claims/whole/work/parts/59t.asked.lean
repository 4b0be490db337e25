/-! labels asked for by literals -/
def bst (r7 lab : Nat → Int32) (z : Int32) : Nat → Int32
  | 0 => 0
  | k + 1 => if r7 k = z then (if bst r7 lab z k < lab k then lab k else bst r7 lab z k) else bst r7 lab z k
theorem bst_same {r7 r7' lab lab' : Nat → Int32} {z : Int32} : ∀ k, (∀ i, i < k → r7 i = r7' i ∧ lab i = lab' i) → bst r7 lab z k = bst r7' lab' z k := by
  intro k
  induction k with
  | zero => intro _; rfl
  | succ k ih =>
    intro h
    show (if r7 k = z then (if bst r7 lab z k < lab k then lab k else bst r7 lab z k) else bst r7 lab z k) = (if r7' k = z then (if bst r7' lab' z k < lab' k then lab' k else bst r7' lab' z k) else bst r7' lab' z k)
    rw [ih (fun i hi => h i (by omega)), (h k (by omega)).1, (h k (by omega)).2]
theorem cl_holds {F m : Nat} {z : Int32} {R : B17} (hF : 20000 ≤ F) (hm : m ≤ 24) (h5 : R.2.1 5 = Int32.ofNat m) : m_X9_holds_L12 F z F 0 0 R.1 R.2.1 R.2.2.1 R.2.2.2.1 R.2.2.2.2.1 R.2.2.2.2.2.1 R.2.2.2.2.2.2.1 R.2.2.2.2.2.2.2.1 R.2.2.2.2.2.2.2.2.1 R.2.2.2.2.2.2.2.2.2.1 R.2.2.2.2.2.2.2.2.2.2.1 R.2.2.2.2.2.2.2.2.2.2.2.1 R.2.2.2.2.2.2.2.2.2.2.2.2.1 R.2.2.2.2.2.2.2.2.2.2.2.2.2.1 R.2.2.2.2.2.2.2.2.2.2.2.2.2.2.1 R.2.2.2.2.2.2.2.2.2.2.2.2.2.2.2.1 R.2.2.2.2.2.2.2.2.2.2.2.2.2.2.2.2 = some (0, bst R.2.2.1 (labF (R.2.2.2.2.2.2.2.2.1 1) (R.2.2.2.2.2.2.2.2.1 2)) z m, R) := by
  have key := run1F (F := F) (K := m) (LC := fun f x v => m_X9_holds_L12 F z f x v R.1 R.2.1 R.2.2.1 R.2.2.2.1 R.2.2.2.2.1 R.2.2.2.2.2.1 R.2.2.2.2.2.2.1 R.2.2.2.2.2.2.2.1 R.2.2.2.2.2.2.2.2.1 R.2.2.2.2.2.2.2.2.2.1 R.2.2.2.2.2.2.2.2.2.2.1 R.2.2.2.2.2.2.2.2.2.2.2.1 R.2.2.2.2.2.2.2.2.2.2.2.2.1 R.2.2.2.2.2.2.2.2.2.2.2.2.2.1 R.2.2.2.2.2.2.2.2.2.2.2.2.2.2.1 R.2.2.2.2.2.2.2.2.2.2.2.2.2.2.2.1 R.2.2.2.2.2.2.2.2.2.2.2.2.2.2.2.2) (P := fun k v => v = bst R.2.2.1 (labF (R.2.2.2.2.2.2.2.2.1 1) (R.2.2.2.2.2.2.2.2.1 2)) z k) (gC := fun v => (0, v, R)) (by omega) ?_ ?_ 0 rfl
  · obtain ⟨v, v1, v2⟩ := key
    rw [← v1]; exact v2
  · intro k hk v hv
    by_cases c : R.2.2.1 k = z
    · refine ⟨if v < labF (R.2.2.2.2.2.2.2.2.1 1) (R.2.2.2.2.2.2.2.2.1 2) k then labF (R.2.2.2.2.2.2.2.2.1 1) (R.2.2.2.2.2.2.2.2.1 2) k else v, ?_, fun f => ?_⟩
      · rw [hv]
        exact (if_pos c).symm
      · show m_X9_holds_L12 F z (f + 1) (Int32.ofNat k) v R.1 R.2.1 R.2.2.1 R.2.2.2.1 R.2.2.2.2.1 R.2.2.2.2.2.1 R.2.2.2.2.2.2.1 R.2.2.2.2.2.2.2.1 R.2.2.2.2.2.2.2.2.1 R.2.2.2.2.2.2.2.2.2.1 R.2.2.2.2.2.2.2.2.2.2.1 R.2.2.2.2.2.2.2.2.2.2.2.1 R.2.2.2.2.2.2.2.2.2.2.2.2.1 R.2.2.2.2.2.2.2.2.2.2.2.2.2.1 R.2.2.2.2.2.2.2.2.2.2.2.2.2.2.1 R.2.2.2.2.2.2.2.2.2.2.2.2.2.2.2.1 R.2.2.2.2.2.2.2.2.2.2.2.2.2.2.2.2 = _
        rw [m_X9_holds_L12, h5, if_neg (zn_nle hm hk), ev_conclusionAt (by omega), Option.bind_some, if_pos c, ev_labelAt (by omega), Option.bind_some, zn_s]
        rfl
    · refine ⟨v, ?_, fun f => ?_⟩
      · rw [hv]
        exact (if_neg c).symm
      · show m_X9_holds_L12 F z (f + 1) (Int32.ofNat k) v R.1 R.2.1 R.2.2.1 R.2.2.2.1 R.2.2.2.2.1 R.2.2.2.2.2.1 R.2.2.2.2.2.2.1 R.2.2.2.2.2.2.2.1 R.2.2.2.2.2.2.2.2.1 R.2.2.2.2.2.2.2.2.2.1 R.2.2.2.2.2.2.2.2.2.2.1 R.2.2.2.2.2.2.2.2.2.2.2.1 R.2.2.2.2.2.2.2.2.2.2.2.2.1 R.2.2.2.2.2.2.2.2.2.2.2.2.2.1 R.2.2.2.2.2.2.2.2.2.2.2.2.2.2.1 R.2.2.2.2.2.2.2.2.2.2.2.2.2.2.2.1 R.2.2.2.2.2.2.2.2.2.2.2.2.2.2.2.2 = _
        rw [m_X9_holds_L12, h5, if_neg (zn_nle hm hk), ev_conclusionAt (by omega), Option.bind_some, if_neg c, zn_s]
  · intro f v hv
    show m_X9_holds_L12 F z (f + 1) (Int32.ofNat m) v R.1 R.2.1 R.2.2.1 R.2.2.2.1 R.2.2.2.2.1 R.2.2.2.2.2.1 R.2.2.2.2.2.2.1 R.2.2.2.2.2.2.2.1 R.2.2.2.2.2.2.2.2.1 R.2.2.2.2.2.2.2.2.2.1 R.2.2.2.2.2.2.2.2.2.2.1 R.2.2.2.2.2.2.2.2.2.2.2.1 R.2.2.2.2.2.2.2.2.2.2.2.2.1 R.2.2.2.2.2.2.2.2.2.2.2.2.2.1 R.2.2.2.2.2.2.2.2.2.2.2.2.2.2.1 R.2.2.2.2.2.2.2.2.2.2.2.2.2.2.2.1 R.2.2.2.2.2.2.2.2.2.2.2.2.2.2.2.2 = _
    rw [m_X9_holds_L12, h5, if_pos (Int32.le_refl _)]
theorem ml_holds {F m : Nat} {z : Int32} {q29 q36 q37 q38 q39 q40 q41 q42 q43 : Nat → Int32} (hF : 20000 ≤ F) (hm : m ≤ 24) (h8 : q29 8 = Int32.ofNat m) : m_X10_holds_L12 F z F 0 0 q29 q36 q37 q38 q39 q40 q41 q42 q43 = some (bst q36 q42 z m, q29, q36, q37, q38, q39, q40, q41, q42, q43) := by
  have key := run1F (F := F) (K := m) (LC := fun f x v => m_X10_holds_L12 F z f x v q29 q36 q37 q38 q39 q40 q41 q42 q43) (P := fun k v => v = bst q36 q42 z k) (gC := fun v => (v, q29, q36, q37, q38, q39, q40, q41, q42, q43)) (by omega) ?_ ?_ 0 rfl
  · obtain ⟨v, v1, v2⟩ := key
    rw [← v1]; exact v2
  · intro k hk v hv
    have gk : ¬ (Int32.ofNat k < 0 ∨ 24 ≤ (Int32.ofNat k).toNatClampNeg) := zn_ok (by omega) (by omega)
    have hun : ∀ f, m_X10_holds_L12 F z (f + 1) (Int32.ofNat k) v q29 q36 q37 q38 q39 q40 q41 q42 q43 = if q36 k = z then (if q42 k ≤ v then m_X10_holds_L12 F z f (Int32.ofNat (k + 1)) v q29 q36 q37 q38 q39 q40 q41 q42 q43 else m_X10_holds_L12 F z f (Int32.ofNat (k + 1)) (q42 k) q29 q36 q37 q38 q39 q40 q41 q42 q43) else m_X10_holds_L12 F z f (Int32.ofNat (k + 1)) v q29 q36 q37 q38 q39 q40 q41 q42 q43 := fun f => by
      rw [m_X10_holds_L12, h8, if_neg (zn_nle hm hk)]
      simp only [if_pos gk]
      rw [zn_nat (by omega), zn_s]
    by_cases c : q36 k = z
    · by_cases c2 : q42 k ≤ v
      · refine ⟨v, ?_, fun f => (hun f).trans (by rw [if_pos c, if_pos c2])⟩
        show v = if q36 k = z then (if bst q36 q42 z k < q42 k then q42 k else bst q36 q42 z k) else bst q36 q42 z k
        rw [if_pos c, ← hv, if_neg (fun q => by rw [Int32.lt_iff_toInt_lt] at q; rw [Int32.le_iff_toInt_le] at c2; omega)]
      · refine ⟨q42 k, ?_, fun f => (hun f).trans (by rw [if_pos c, if_neg c2])⟩
        show q42 k = if q36 k = z then (if bst q36 q42 z k < q42 k then q42 k else bst q36 q42 z k) else bst q36 q42 z k
        rw [if_pos c, ← hv, if_pos (by rw [Int32.lt_iff_toInt_lt]; rw [Int32.le_iff_toInt_le] at c2; omega)]
    · refine ⟨v, ?_, fun f => (hun f).trans (if_neg c)⟩
      rw [hv]
      exact (if_neg c).symm
  · intro f v hv
    show m_X10_holds_L12 F z (f + 1) (Int32.ofNat m) v q29 q36 q37 q38 q39 q40 q41 q42 q43 = _
    rw [m_X10_holds_L12, h8, if_pos (Int32.le_refl _)]
/-- the first one of a kind, or none -/
def fo (P : Nat → Bool) : Nat → Nat → Int32
  | 0, _ => -1
  | d + 1, k => if P k = true then Int32.ofNat k else fo P d (k + 1)
theorem fo_same {P P' : Nat → Bool} : ∀ d k, (∀ i, k ≤ i → i < k + d → P i = P' i) → fo P d k = fo P' d k := by
  intro d
  induction d with
  | zero => intro k _; rfl
  | succ d ih =>
    intro k h
    show (if P k = true then Int32.ofNat k else fo P d (k + 1)) = (if P' k = true then Int32.ofNat k else fo P' d (k + 1))
    rw [h k (Nat.le_refl _) (by omega), ih (k + 1) (fun i h1 h2 => h i (by omega) (by omega))]
theorem fo_none {P : Nat → Bool} : ∀ d k, (∀ i, k ≤ i → i < k + d → P i = false) → fo P d k = -1 := by
  intro d
  induction d with
  | zero => intro k _; rfl
  | succ d ih =>
    intro k h
    show (if P k = true then Int32.ofNat k else fo P d (k + 1)) = -1
    rw [h k (Nat.le_refl _) (by omega), if_neg (by decide), ih (k + 1) (fun i h1 h2 => h i (by omega) (by omega))]
theorem fo_add {P : Nat → Bool} : ∀ d c k, (∀ i, k + d ≤ i → i < k + d + c → P i = false) → fo P (d + c) k = fo P d k := by
  intro d
  induction d with
  | zero =>
    intro c k h
    rw [Nat.zero_add]
    exact fo_none c k (fun i h1 h2 => h i h1 h2)
  | succ d ih =>
    intro c k h
    rw [show d + 1 + c = (d + c) + 1 by omega]
    show (if P k = true then Int32.ofNat k else fo P (d + c) (k + 1)) = (if P k = true then Int32.ofNat k else fo P d (k + 1))
    rw [ih c (k + 1) (fun i h1 h2 => h i (by omega) (by omega))]
theorem fo_m1 {P : Nat → Bool} : ∀ d k, k + d ≤ 24 → (fo P d k = -1 ↔ ∀ i, k ≤ i → i < k + d → P i = false) := by
  intro d
  induction d with
  | zero => intro k _; exact ⟨fun _ i h1 h2 => by omega, fun _ => rfl⟩
  | succ d ih =>
    intro k hk
    show (if P k = true then Int32.ofNat k else fo P d (k + 1)) = -1 ↔ _
    cases h : P k with
    | true =>
      rw [if_pos rfl]
      exact ⟨fun q => absurd q (zn_m1 (by omega)), fun q => by rw [q k (Nat.le_refl _) (by omega)] at h; cases h⟩
    | false =>
      rw [if_neg (by decide), ih (k + 1) (by omega)]
      constructor
      · intro q i h1 h2
        by_cases e : i = k
        · subst e; exact h
        · exact q i (by omega) (by omega)
      · intro q i h1 h2; exact q i (by omega) (by omega)

/-! what the calls demand -/
theorem ev_dLN {F : Nat} (z : Int32) : (∃ j, j < 21 ∧ z = lit j ∧ m_X9_demandLiteralOrNone F z = some 0 ∧ m_X10_isLiteralOrNone F z = some 1) ∨ (m_X9_demandLiteralOrNone F z = some 1 ∧ m_X10_isLiteralOrNone F z = some 0) := by
  unfold m_X9_demandLiteralOrNone m_X9_isLiteralOrNone m_X10_isLiteralOrNone
  by_cases h1 : z < -10
  · right
    rw [if_pos h1, Option.bind_some, if_pos rfl]
    exact ⟨rfl, rfl⟩
  · by_cases h2 : 10 < z
    · right
      rw [if_neg h1, if_pos h2, Option.bind_some, if_pos rfl]
      exact ⟨rfl, rfl⟩
    · left
      obtain ⟨j, hj, e⟩ := lit_of h1 h2
      refine ⟨j, hj, e, ?_, by rw [if_neg h1, if_neg h2]⟩
      rw [if_neg h1, if_neg h2, Option.bind_some, if_neg zi_10]
theorem ev_dL {F : Nat} (z : Int32) : (∃ j, j < 21 ∧ j ≠ 10 ∧ z = lit j ∧ m_X9_demandLiteral F z = some 0 ∧ m_X10_isLiteral F z = some 1) ∨ (m_X9_demandLiteral F z = some 1 ∧ m_X10_isLiteral F z = some 0) := by
  unfold m_X9_demandLiteral m_X10_isLiteral
  by_cases h0 : z = 0
  · right
    exact ⟨if_pos h0, if_pos h0⟩
  · rw [if_neg h0, if_neg h0]
    rcases ev_dLN (F := F) z with ⟨j, hj, e, q1, q2⟩ | ⟨q1, q2⟩
    · left
      refine ⟨j, hj, fun w => h0 (by rw [e]; exact (lit_zero hj).mpr w), e, ?_, ?_⟩
      · rw [q1, Option.bind_some, if_pos rfl]
      · unfold m_X10_isLiteralOrNone at q2
        exact q2
    · right
      refine ⟨?_, ?_⟩
      · rw [q1, Option.bind_some, if_neg (by decide)]
      · unfold m_X10_isLiteralOrNone at q2
        exact q2
theorem ev_dP {F : Nat} (z : Int32) : (∃ p, p < 10 ∧ z = Int32.ofNat p ∧ m_X9_demandPriority F z = some 0 ∧ ¬ z < 0 ∧ z ≤ 9 ∧ ¬ 9 < z) ∨ (m_X9_demandPriority F z = some 1 ∧ (z < 0 ∨ (¬ z < 0 ∧ ¬ z ≤ 9 ∧ 9 < z))) := by
  unfold m_X9_demandPriority
  by_cases h0 : z < 0
  · right; exact ⟨if_pos h0, Or.inl h0⟩
  · by_cases h9 : z ≤ 9
    · left
      obtain ⟨p, h1, h2⟩ := zn_of h0
      refine ⟨p, ?_, h2, by rw [if_neg h0, if_pos h9], h0, h9, fun q => ?_⟩
      · rw [h2] at h9
        have h9 : Int32.ofNat p ≤ Int32.ofNat 9 := h9
        rw [zn_le h1 (by omega)] at h9
        omega
      · rw [Int32.lt_iff_toInt_lt] at q
        rw [Int32.le_iff_toInt_le] at h9
        omega
    · right
      refine ⟨by rw [if_neg h0, if_neg h9], Or.inr ⟨h0, h9, ?_⟩⟩
      rw [Int32.le_iff_toInt_le] at h9
      rw [Int32.lt_iff_toInt_lt]
      omega
theorem ev_dR {F n : Nat} {r4 r29 : Nat → Int32} (hn : n ≤ 12) (h4 : r4 2 = Int32.ofNat n) (h29 : r29 2 = Int32.ofNat n) (z : Int32) : (∃ i, i < n ∧ z = Int32.ofNat i ∧ m_X9_demandRule F r4 z = some 0 ∧ m_X10_isRule F r29 z = some 1) ∨ (m_X9_demandRule F r4 z = some 3 ∧ m_X10_isRule F r29 z = some 0) := by
  unfold m_X9_demandRule m_X10_isRule m_X5_size
  rw [h4, h29, Option.bind_some]
  by_cases ha : z < 0 ∨ Int32.ofNat n ≤ z
  · right
    by_cases h0 : z < 0
    · exact ⟨if_pos h0, if_pos h0⟩
    · have h1 := ha.resolve_left h0
      refine ⟨?_, by rw [if_neg h0, if_pos h1]⟩
      rw [if_neg h0, if_neg]
      intro q
      rw [Int32.lt_iff_toInt_lt] at q
      rw [Int32.le_iff_toInt_le] at h1
      omega
  · left
    obtain ⟨i, hi, e⟩ := arg_of (by omega) ha
    refine ⟨i, hi, e, ?_, by rw [if_neg (fun q => ha (Or.inl q)), if_neg (fun q => ha (Or.inr q))]⟩
    rw [if_neg (fun q => ha (Or.inl q)), if_pos]
    rw [e]
    exact (zn_lt (by omega) (by omega)).mpr hi
theorem ev_factsNow {F : Nat} {r30 : Nat → Int32} (hF : 20000 ≤ F) : m_X10_factsNow F r30 = some (Int32.ofNat (nfc r30 21)) := by
  have key := run1F (F := F) (K := 21) (LC := fun f x v => m_X10_factsNow_L4 F r30 f x v) (P := fun k v => v = Int32.ofNat (nfc r30 k)) (gC := fun v => v) (by omega) ?_ ?_ 0 rfl
  · obtain ⟨v, v1, v2⟩ := key
    rw [← v1]; exact v2
  · intro k hk v hv
    have h21 : ¬ (21 : Int32) ≤ Int32.ofNat k := by
      have : ∀ k, k < 21 → ¬ (21 : Int32) ≤ Int32.ofNat k := by decide
      exact this k hk
    have hun : ∀ f, m_X10_factsNow_L4 F r30 (f + 1) (Int32.ofNat k) v = if r30 k = 0 then m_X10_factsNow_L4 F r30 f (Int32.ofNat (k + 1)) (v + 0) else m_X10_factsNow_L4 F r30 f (Int32.ofNat (k + 1)) (v + 1) := fun f => by
      rw [m_X10_factsNow_L4, if_neg h21, if_pos (zn_ok hk (by omega)), zn_nat (by omega), zn_s]
    by_cases c : r30 k = 0
    · refine ⟨v + 0, ?_, fun f => (hun f).trans (if_pos c)⟩
      show v + 0 = Int32.ofNat (nfc r30 k + (if r30 k = 0 then 0 else 1))
      rw [if_pos c, Int32.add_zero, hv]
      rfl
    · refine ⟨v + 1, ?_, fun f => (hun f).trans (if_neg c)⟩
      show v + 1 = Int32.ofNat (nfc r30 k + (if r30 k = 0 then 0 else 1))
      rw [if_neg c, hv, zn_s]
  · intro f v hv
    show m_X10_factsNow_L4 F r30 (f + 1) (Int32.ofNat 21) v = _
    rw [m_X10_factsNow_L4, if_pos (by decide)]
theorem nfc_same {r r' : Nat → Int32} : ∀ k, (∀ i, i < k → r i = r' i) → nfc r k = nfc r' k := by
  intro k
  induction k with
  | zero => intro _; rfl
  | succ k ih =>
    intro h
    show nfc r k + (if r k = 0 then 0 else 1) = nfc r' k + (if r' k = 0 then 0 else 1)
    rw [ih (fun i hi => h i (by omega)), h k (by omega)]
theorem nfc_on {r : Nat → Int32} {j : Nat} (h0 : r j = 0) : ∀ k, j < k → nfc (upd r j 1) k = nfc r k + 1 := by
  intro k
  induction k with
  | zero => intro h; omega
  | succ k ih =>
    intro h
    show nfc (upd r j 1) k + (if upd r j 1 k = 0 then 0 else 1) = nfc r k + (if r k = 0 then 0 else 1) + 1
    by_cases e : j = k
    · subst e
      rw [nfc_same (r := upd r j 1) (r' := r) j (fun i hi => upd_ne (by omega)), upd_at, h0, if_neg zi_10, if_pos rfl]
    · rw [ih (by omega), upd_ne (show k ≠ j by omega)]
      omega
theorem nfc_off {r : Nat → Int32} {j : Nat} (h0 : r j ≠ 0) : ∀ k, j < k → nfc (upd r j 0) k + 1 = nfc r k := by
  intro k
  induction k with
  | zero => intro h; omega
  | succ k ih =>
    intro h
    show nfc (upd r j 0) k + (if upd r j 0 k = 0 then 0 else 1) + 1 = nfc r k + (if r k = 0 then 0 else 1)
    by_cases e : j = k
    · subst e
      rw [nfc_same (r := upd r j 0) (r' := r) j (fun i hi => upd_ne (by omega)), upd_at, if_neg h0, if_pos rfl]
    · have := ih (by omega)
      rw [upd_ne (show k ≠ j by omega)]
      omega
theorem nfc_le {r : Nat → Int32} : ∀ k, nfc r k ≤ k := by
  intro k
  induction k with
  | zero => exact Nat.le_refl _
  | succ k ih =>
    show nfc r k + (if r k = 0 then 0 else 1) ≤ k + 1
    by_cases c : r k = 0
    · rw [if_pos c]; omega
    · rw [if_neg c]; omega
theorem fgt_0 (r : Nat → Int32) : fgt r 6 = 0 ∧ fgt r 7 = 0 ∧ fgt r 8 = 0 := by
  unfold fgt
  refine ⟨?_, ?_, upd_at _ _ _⟩
  · rw [upd_ne (by decide), upd_ne (by decide), upd_at]
  · rw [upd_ne (by decide), upd_at]
/-- something told anew: nothing is held any more -/
theorem Sta_new {F n n' : Nat} {X Z : Nat → Nat → Int32} (hS : Sta F X n) (hl : lst Z n') (h29 : Z 29 2 = Int32.ofNat n') (hfa : faR (Z 2) (Z 30)) (h1 : Z 1 1 = Int32.ofNat (nfc (Z 30) 21)) (hru : ruR n' Z (Z 31) (Z 32) (Z 33) (Z 34) (Z 35)) (h19 : Z 19 = X 19) (h20 : Z 20 = X 20) (h23 : Z 23 = X 23) (h24 : Z 24 = X 24) {r0 : Nat → Int32} (h0 : Z 0 = fgt r0) : Sta F Z n' := by
  obtain ⟨s1, s2, s3, s4, s5, s6, s7, s8, s9, s10⟩ := hS
  obtain ⟨f1, f2, f3⟩ := fgt_0 r0
  rw [← h19, ← h20, ← h23, ← h24] at s6
  rw [← h0] at f1 f2 f3
  exact ⟨hl, h29, hfa, h1, hru, s6, fun _ => ⟨f2, f3⟩, fun q => absurd f1 q, fun q => absurd f2 q, fun q => absurd f3 q⟩
theorem aid_rid {n i : Nat} (hn : n ≤ 12) (hi : i < n) : aid (Int32.ofNat n) (Int32.ofNat i) = rid i := by
  unfold aid
  rw [if_neg (zn_nn (by omega)), if_neg (fun w => by have := (zn_le (by omega) (by omega)).mp w; omega), zn_nat (by omega)]
theorem rid_inj {i j : Nat} (hi : i < 12) (hj : j < 12) (h : rid i = rid j) : i = j := by
  rcases Nat.lt_trichotomy i j with q | q | q
  · have := rid_lt q hj; omega
  · exact q
  · have := rid_lt q hi; omega

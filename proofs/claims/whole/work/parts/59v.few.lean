/-! the calls' fronts where sets are asked for -/
theorem AA_same {m : Nat} {r r' : Nat → Int32} (h : ∀ k, k < m → r k = r' k) : AA m r = AA m r' := funext fun p => funext fun q => by
  unfold AA
  by_cases hq : q < m
  · rw [h (m - 1 - q) (by omega)]
  · rw [decide_eq_false hq, Bool.and_false, Bool.false_and, Bool.false_and]
theorem misFew {F n : Nat} {Y : Nat → Nat → Int32} (hF : 20000 ≤ F) (hS : Sta F Y n) (h06 : Y 0 6 ≠ 0) : ∃ m, m ≤ 24 ∧ Y 6 5 = Int32.ofNat m ∧ (Y 6 6 = 0 ∨ Y 6 6 = 1) ∧ (Y 6 6 = 0 → tabR (min m 14) (Y 13) (Y 16) (Y 19) (Y 20) (Y 23) (Y 24)) ∧
    ∀ (r29 r36 r37 r38 r39 r40 r41 : Nat → Int32) (place : Int32), r29 2 = Int32.ofNat n →
      (¬ (Y 6 6 = 0 ∧ m ≤ 14) → ∃ t' : Six, t'.1 2 = Int32.ofNat n ∧ m_X10_areFew F r29 (Y 30) (Y 31) (Y 32) (Y 33) (Y 34) (Y 35) r36 r37 r38 r39 r40 r41 place = some (0, upd t'.1 0 place, t'.2.1, t'.2.2.1, t'.2.2.2.1, t'.2.2.2.2.1, t'.2.2.2.2.2, r41)) ∧
      (Y 6 6 = 0 → m ≤ 14 → ∃ (t' : Six) (q41 : Nat → Int32), t'.1 8 = Int32.ofNat m ∧ t'.1 2 = Int32.ofNat n ∧ (∀ i, i < m → Y 7 i = t'.2.1 i) ∧ (∀ k, k < m → Y 13 k = q41 k) ∧ m_X10_areFew F r29 (Y 30) (Y 31) (Y 32) (Y 33) (Y 34) (Y 35) r36 r37 r38 r39 r40 r41 place = some (1, upd t'.1 0 0, t'.2.1, t'.2.2.1, t'.2.2.2.1, t'.2.2.2.2.1, t'.2.2.2.2.2, q41)) := by
  obtain ⟨m, hm, h5, h6, hlab, hall⟩ := mtold hF hS h06
  refine ⟨m, hm, h5, h6, fun q => (hlab q).2, fun r29 r36 r37 r38 r39 r40 r41 place h2 => ⟨fun hne => ?_, fun hz h14 => ?_⟩⟩
  · by_cases hz : Y 6 6 = 0
    · obtain ⟨t', q41, f1, f2, f3, f4, f5, f50, f6, f7⟩ := (hall r29 r36 r37 r38 r39 r40 r41 h2).2 hz
      refine ⟨t', f5, ?_⟩
      unfold m_X10_areFew
      rw [f1, Option.bind_some, if_pos f2, if_neg (fun q => hne ⟨hz, by
        rw [f4] at q
        exact (zn_le (b := 14) (by omega) (by omega)).mp q⟩)]
    · obtain ⟨t', f1, f2, f3, f4, f40⟩ := (hall r29 r36 r37 r38 r39 r40 r41 h2).1 hz
      refine ⟨t', f4, ?_⟩
      unfold m_X10_areFew
      rw [f1, Option.bind_some, if_neg f2]
  · obtain ⟨t', q41, f1, f2, f3, f4, f5, f50, f6, f7⟩ := (hall r29 r36 r37 r38 r39 r40 r41 h2).2 hz
    refine ⟨t', q41, f4, f5, fun i hi => (f6 i hi).1, f7, ?_⟩
    have hle : t'.1 8 ≤ 14 := by rw [f4]; exact (zn_le (b := 14) (by omega) (by omega)).mpr h14
    unfold m_X10_areFew
    rw [f1, Option.bind_some, if_pos f2, if_pos hle, f3, Option.bind_some]
theorem upB_0q {X : Nat → Nat → Int32} {R : B17} {q0 : Nat → Int32} : upB X (q0, R.2) = up (upB X R) 0 q0 := funext fun j => by
  by_cases h : j = 0
  · subst h; rfl
  · rw [up_ne h]
    unfold upB
    simp only [up, if_neg h]
theorem tried {F n m : Nat} {Y : Nat → Nat → Int32} (hF : 20000 ≤ F) (hS : Sta F Y n) (h06 : Y 0 6 ≠ 0) (h5 : Y 6 5 = Int32.ofNat m) (hm14 : m ≤ 14) (hT : tabR (min m 14) (Y 13) (Y 16) (Y 19) (Y 20) (Y 23) (Y 24)) :
    ∃ q0 q25 q26 L, m_X9_trySets F (Y 0) (Y 16) (Y 19) (Y 20) (Y 23) (Y 24) (Y 25) (Y 26) = some (q0, q25, q26) ∧ rL m q25 q26 L ∧ isPL (AA m (Y 13)) m 0 (2 ^ m) L ∧ Sta F (up (up (up Y 0 q0) 25 q25) 26 q26) n := by
  have hS' := hS
  obtain ⟨s1, s2, s3, s4, s5, s6, s7, s8, s9, s10⟩ := hS
  rw [Nat.min_eq_left hm14] at hT
  by_cases h7 : Y 0 7 = 0
  · obtain ⟨q25, q26, L, g1, g2, g3⟩ := try_all (F := F) (r25 := Y 25) (r26 := Y 26) hF hm14 hT
    refine ⟨upd (Y 0) 7 1, q25, q26, L, ?_, g2, g3, ?_⟩
    · unfold m_X9_trySets
      rw [if_pos h7, g1, Option.bind_some]
    · have h47 : ∀ j, 47 ≤ j → (up (up (up Y 0 (upd (Y 0) 7 1)) 25 q25) 26 q26) j = Y j := fun j hj => by
        rw [up_ne (by omega), up_ne (by omega), up_ne (by omega)]
      refine ⟨lst_far (X := Y) rfl h47 s1, s2, s3, s4, ruR_far (X := Y) (Z := up (up (up Y 0 (upd (Y 0) 7 1)) 25 q25) 26 q26) rfl rfl h47 s5, s6, fun q => absurd ?_ h06, fun q => s8 h06, fun _ => ⟨m, L, hm14, h5, g2, g3⟩, fun q => s10 (fun w => q (by show upd (Y 0) 7 1 8 = 0; rw [upd_ne (by decide)]; exact w))⟩
      have q : upd (Y 0) 7 1 6 = 0 := q
      rw [upd_ne (by decide)] at q
      exact q
  · obtain ⟨m', L, k1, k2, k3, k4⟩ := s9 h7
    have e : m' = m := (zn_eq (by omega) (by omega)).mp (k2.symm.trans h5)
    subst e
    refine ⟨Y 0, Y 25, Y 26, L, ?_, k3, k4, ?_⟩
    · unfold m_X9_trySets
      rw [if_neg h7]
    · rw [up_self]
      have e25 : up Y 25 (Y 25) = Y := up_self Y 25
      rw [e25, up_self]
      exact hS'
theorem swept {F n m : Nat} {Y : Nat → Nat → Int32} (hF : 20000 ≤ F) (hS : Sta F Y n) (h06 : Y 0 6 ≠ 0) (h5 : Y 6 5 = Int32.ofNat m) (hm14 : m ≤ 14) (hT : tabR (min m 14) (Y 13) (Y 16) (Y 19) (Y 20) (Y 23) (Y 24)) :
    ∃ q0 q25 q26 L, m_X9_sweepSets F (Y 0) (Y 16) (Y 19) (Y 20) (Y 23) (Y 24) (Y 27) (Y 28) = some (q0, q25, q26) ∧ rL m q25 q26 L ∧ isPL (AA m (Y 13)) m 0 (2 ^ m) L ∧ Sta F (up (up (up Y 0 q0) 27 q25) 28 q26) n := by
  have hS' := hS
  obtain ⟨s1, s2, s3, s4, s5, s6, s7, s8, s9, s10⟩ := hS
  rw [Nat.min_eq_left hm14] at hT
  by_cases h7 : Y 0 8 = 0
  · obtain ⟨q25, q26, L, g1, g2, g3⟩ := sweep_all (F := F) (r27 := Y 27) (r28 := Y 28) hF hm14 hT
    refine ⟨upd (Y 0) 8 1, q25, q26, L, ?_, g2, g3, ?_⟩
    · unfold m_X9_sweepSets
      rw [if_pos h7, g1, Option.bind_some]
    · have h47 : ∀ j, 47 ≤ j → (up (up (up Y 0 (upd (Y 0) 8 1)) 27 q25) 28 q26) j = Y j := fun j hj => by
        rw [up_ne (by omega), up_ne (by omega), up_ne (by omega)]
      refine ⟨lst_far (X := Y) rfl h47 s1, s2, s3, s4, ruR_far (X := Y) (Z := up (up (up Y 0 (upd (Y 0) 8 1)) 27 q25) 28 q26) rfl rfl h47 s5, s6, fun q => absurd ?_ h06, fun q => s8 h06, fun q => s9 (fun w => q (by show upd (Y 0) 8 1 7 = 0; rw [upd_ne (by decide)]; exact w)), fun _ => ⟨m, L, hm14, h5, g2, g3⟩⟩
      have q : upd (Y 0) 8 1 6 = 0 := q
      rw [upd_ne (by decide)] at q
      exact q
  · obtain ⟨m', L, k1, k2, k3, k4⟩ := s10 h7
    have e : m' = m := (zn_eq (by omega) (by omega)).mp (k2.symm.trans h5)
    subst e
    refine ⟨Y 0, Y 27, Y 28, L, ?_, k3, k4, ?_⟩
    · unfold m_X9_sweepSets
      rw [if_neg h7]
    · rw [up_self]
      have e25 : up Y 27 (Y 27) = Y := up_self Y 27
      rw [e25, up_self]
      exact hS'
theorem ev_contains {F m i k : Nat} {q25 q26 : Nat → Int32} {L : List Nat} (hm : m ≤ 14) (hL : rL m q25 q26 L) (hi : i < L.length) (hk : k < m) : m_X6_contains F q25 q26 (Int32.ofNat i) (Int32.ofNat k) = some (if (L.getD i 0).testBit (m - 1 - k) = true then 1 else 0) := by
  obtain ⟨l1, l2, l3⟩ := hL
  have hb : (Int32.ofNat (sx m (L.getD i 0)) &&& ((1 : Int32) <<< (Int32.ofNat (13 - k) &&& 31))) = 0 ↔ (L.getD i 0).testBit (m - 1 - k) = false := by
    rw [dis_0]
    have e : (sx m (L.getD i 0)).testBit (13 - k) = (L.getD i 0).testBit (m - 1 - k) := by
      rw [show 13 - k = (m - 1 - k) + (14 - m) by omega, sx_up]
    constructor
    · intro h
      apply Bool.eq_false_iff.mpr
      intro hq
      have := h (13 - k) (by omega) (by rw [tb_nat (by omega), e]; exact hq)
      rw [tb_bit (by omega) (by omega), decide_eq_true rfl] at this
      cases this
    · intro h j hj hq
      rw [tb_bit (by omega) hj]
      apply decide_eq_false
      intro w
      subst w
      rw [tb_nat hj, e, h] at hq
      cases hq
  unfold m_X6_contains
  rw [l1, if_neg (zn_nn (by omega)), if_neg (fun w => by have := (zn_le (by omega) (by omega)).mp w; omega), if_neg (zn_162 (by omega)), if_pos (zn_ok (by omega) (by omega)), ev_setBit (by omega), Option.bind_some, zn_nat (by omega), l3 i hi]
  cases h : (L.getD i 0).testBit (m - 1 - k) with
  | false => rw [if_pos (hb.mpr h)]; rfl
  | true => rw [if_neg (fun w => by rw [hb.mp w] at h; cases h)]; rfl
/-- whether there is one of a kind -/
def anf (P : Nat → Bool) : Nat → Nat → Bool
  | 0, _ => false
  | d + 1, k => P k || anf P d (k + 1)
theorem anf_same {P P' : Nat → Bool} : ∀ d k, (∀ i, k ≤ i → i < k + d → P i = P' i) → anf P d k = anf P' d k := by
  intro d
  induction d with
  | zero => intro k _; rfl
  | succ d ih =>
    intro k h
    show (P k || anf P d (k + 1)) = (P' k || anf P' d (k + 1))
    rw [h k (Nat.le_refl _) (by omega), ih (k + 1) (fun i h1 h2 => h i (by omega) (by omega))]
theorem cl_concl {F m i : Nat} {z : Int32} {r6 r7 q25 q26 : Nat → Int32} {L : List Nat} (hF : 20000 ≤ F) (hm : m ≤ 14) (h5 : r6 5 = Int32.ofNat m) (hL : rL m q25 q26 L) (hi : i < L.length) : m_X9_concludesInSet F r6 r7 q25 q26 (Int32.ofNat i) z = some (if anf (fun k => decide (r7 k = z) && (L.getD i 0).testBit (m - 1 - k)) m 0 = true then 1 else 0) := by
  have key : ∀ d k f, k + d = m → m_X9_concludesInSet_L2 F r6 r7 q25 q26 (Int32.ofNat i) z (f + d + 1) (Int32.ofNat k) = some (if anf (fun k => decide (r7 k = z) && (L.getD i 0).testBit (m - 1 - k)) d k = true then 1 else 0) := by
    intro d
    induction d with
    | zero =>
      intro k f hk
      have hk : k = m := hk
      rw [m_X9_concludesInSet_L2, h5, hk, if_pos (Int32.le_refl _)]
      rfl
    | succ d ih =>
      intro k f hk
      have e : anf (fun k => decide (r7 k = z) && (L.getD i 0).testBit (m - 1 - k)) (d + 1) k = ((decide (r7 k = z) && (L.getD i 0).testBit (m - 1 - k)) || anf (fun k => decide (r7 k = z) && (L.getD i 0).testBit (m - 1 - k)) d (k + 1)) := rfl
      rw [e, show f + (d + 1) + 1 = (f + d + 1) + 1 by omega, m_X9_concludesInSet_L2, h5, if_neg (zn_nle (by omega) (by omega)), ev_conclusionAt (by omega), Option.bind_some, ev_contains hm hL hi (by omega), Option.bind_some, zn_s, ih (k + 1) f (by omega)]
      by_cases c : r7 k = z
      · rw [if_pos c, decide_eq_true c, Bool.true_and]
        cases h : (L.getD i 0).testBit (m - 1 - k) with
        | true => rw [if_pos rfl, if_neg zi_10, Bool.true_or, if_pos rfl]
        | false => rw [if_pos (show (if false = true then (1 : Int32) else 0) = 0 from rfl), Bool.false_or]
      · rw [if_neg c, decide_eq_false c, Bool.false_and, Bool.false_or]
  have := key m 0 (F - m - 1) (by omega)
  rw [show F - m - 1 + m + 1 = F by omega] at this
  exact this
theorem ml_concl {F m s : Nat} {z : Int32} {q29 q36 q37 q38 q39 q40 q41 q44 q45 : Nat → Int32} (hF : 20000 ≤ F) (hm : m ≤ 14) (h8 : q29 8 = Int32.ofNat m) : ∃ w, m_X10_setsFor_L59 F (Int32.ofNat s) z F 0 0 q29 q36 q37 q38 q39 q40 q41 q44 q45 = some (w, (if anf (fun k => decide (q36 k = z) && s.testBit (m - 1 - k)) m 0 = true then 1 else 0), q29, q36, q37, q38, q39, q40, q41, q44, q45) := by
  have key : ∀ d k f (x : Bool), k + d = m → m_X10_setsFor_L59 F (Int32.ofNat s) z (f + d + 1) (Int32.ofNat k) (if x = true then 1 else 0) q29 q36 q37 q38 q39 q40 q41 q44 q45 = some (Int32.ofNat m, (if (x || anf (fun k => decide (q36 k = z) && s.testBit (m - 1 - k)) d k) = true then 1 else 0), q29, q36, q37, q38, q39, q40, q41, q44, q45) := by
    intro d
    induction d with
    | zero =>
      intro k f x hk
      have hk : k = m := hk
      rw [m_X10_setsFor_L59, h8, hk, if_pos (Int32.le_refl _)]
      show some (Int32.ofNat m, (if x = true then (1 : Int32) else 0), _) = some (Int32.ofNat m, (if (x || false) = true then (1 : Int32) else 0), _)
      rw [Bool.or_false]
    | succ d ih =>
      intro k f x hk
      have e : anf (fun k => decide (q36 k = z) && s.testBit (m - 1 - k)) (d + 1) k = ((decide (q36 k = z) && s.testBit (m - 1 - k)) || anf (fun k => decide (q36 k = z) && s.testBit (m - 1 - k)) d (k + 1)) := rfl
      have gk : ¬ (Int32.ofNat k < 0 ∨ 24 ≤ (Int32.ofNat k).toNatClampNeg) := zn_ok (by omega) (by omega)
      have i1 : m_X10_setsFor_L59 F (Int32.ofNat s) z (f + d + 1) (Int32.ofNat (k + 1)) 1 q29 q36 q37 q38 q39 q40 q41 q44 q45 = _ := ih (k + 1) f true (by omega)
      have i0 : m_X10_setsFor_L59 F (Int32.ofNat s) z (f + d + 1) (Int32.ofNat (k + 1)) 0 q29 q36 q37 q38 q39 q40 q41 q44 q45 = _ := ih (k + 1) f false (by omega)
      rw [e, show f + (d + 1) + 1 = (f + d + 1) + 1 by omega, m_X10_setsFor_L59, h8, if_neg (zn_nle (by omega) (by omega)), ev_has2 h8 hm (by omega), Option.bind_some, zn_s, if_pos gk, zn_nat (by omega), i1, i0]
      cases x with
      | true => rw [if_pos rfl, if_neg zi_10, Bool.true_or, Bool.true_or]
      | false =>
        rw [if_pos (show (if false = true then (1 : Int32) else 0) = 0 from rfl), Bool.false_or, Bool.false_or]
        cases h : s.testBit (m - 1 - k) with
        | false => rw [if_pos (show (if false = true then (1 : Int32) else 0) = 0 from rfl), Bool.and_false, Bool.false_or]
        | true =>
          rw [if_pos rfl, if_neg zi_10, Bool.and_true]
          by_cases c : q36 k = z
          · rw [if_pos c, decide_eq_true c]
          · rw [if_neg c, decide_eq_false c, Bool.false_or]
  have := key m 0 (F - m - 1) false (by omega)
  rw [show F - m - 1 + m + 1 = F by omega, Bool.false_or] at this
  exact ⟨_, this⟩
def cnb (Q : Nat → Bool) : Nat → Nat
  | 0 => 0
  | k + 1 => cnb Q k + (if Q k = true then 1 else 0)
theorem cnb_same {Q Q' : Nat → Bool} : ∀ k, (∀ i, i < k → Q i = Q' i) → cnb Q k = cnb Q' k := by
  intro k
  induction k with
  | zero => intro _; rfl
  | succ k ih =>
    intro h
    show cnb Q k + (if Q k = true then 1 else 0) = cnb Q' k + (if Q' k = true then 1 else 0)
    rw [ih (fun i hi => h i (by omega)), h k (by omega)]
theorem ml_setsFor {F m : Nat} {z : Int32} {A : Nat → Nat → Bool} {q29 q36 q37 q38 q39 q40 q41 q44 q45 : Nat → Int32} {L : List Nat} (hF : 20000 ≤ F) (hm : m ≤ 14) (h8 : q29 8 = Int32.ofNat m) (hL : isPL A m 0 (2 ^ m) L) (hR : pfR A m 0 q44 q45) : m_X10_setsFor_L39 F (Int32.ofNat L.length) z F 0 0 q29 q36 q37 q38 q39 q40 q41 q44 q45 = some (Int32.ofNat (cnb (fun i => anf (fun k => decide (q36 k = z) && (L.getD i 0).testBit (m - 1 - k)) m 0) L.length), q29, q36, q37, q38, q39, q40, q41, q44, q45) := by
  have hlen := isPL_len (by omega) hL
  have key := run1F (F := F) (K := L.length) (LC := fun f x v => m_X10_setsFor_L39 F (Int32.ofNat L.length) z f x v q29 q36 q37 q38 q39 q40 q41 q44 q45) (P := fun k v => v = Int32.ofNat (cnb (fun i => anf (fun k => decide (q36 k = z) && (L.getD i 0).testBit (m - 1 - k)) m 0) k)) (gC := fun v => (v, q29, q36, q37, q38, q39, q40, q41, q44, q45)) (by omega) ?_ ?_ 0 rfl
  · obtain ⟨v, v1, v2⟩ := key
    rw [← v1]; exact v2
  · intro k hk v hv
    obtain ⟨w, hw⟩ := ml_concl (F := F) (s := L.getD k 0) (z := z) (q29 := q29) (q36 := q36) (q37 := q37) (q38 := q38) (q39 := q39) (q40 := q40) (q41 := q41) (q44 := q44) (q45 := q45) hF hm h8
    have hun : ∀ f, m_X10_setsFor_L39 F (Int32.ofNat L.length) z (f + 1) (Int32.ofNat k) v q29 q36 q37 q38 q39 q40 q41 q44 q45 = if (if anf (fun i => decide (q36 i = z) && (L.getD k 0).testBit (m - 1 - i)) m 0 = true then (1 : Int32) else 0) = 0 then m_X10_setsFor_L39 F (Int32.ofNat L.length) z f (Int32.ofNat (k + 1)) (v + 0) q29 q36 q37 q38 q39 q40 q41 q44 q45 else m_X10_setsFor_L39 F (Int32.ofNat L.length) z f (Int32.ofNat (k + 1)) (v + 1) q29 q36 q37 q38 q39 q40 q41 q44 q45 := fun f => by
      rw [m_X10_setsFor_L39, if_neg (fun w => by have := (zn_le (by omega) (by omega)).mp w; omega), setAt_all hF h8 hm hL hR hk, Option.bind_some, hw, Option.bind_some, zn_s]
    by_cases c : anf (fun i => decide (q36 i = z) && (L.getD k 0).testBit (m - 1 - i)) m 0 = true
    · refine ⟨v + 1, ?_, fun f => (hun f).trans (by rw [if_pos c, if_neg zi_10])⟩
      show v + 1 = Int32.ofNat (cnb (fun i => anf (fun k => decide (q36 k = z) && (L.getD i 0).testBit (m - 1 - k)) m 0) k + (if anf (fun i => decide (q36 i = z) && (L.getD k 0).testBit (m - 1 - i)) m 0 = true then 1 else 0))
      rw [if_pos c, hv, zn_s]
    · refine ⟨v + 0, ?_, fun f => (hun f).trans (by rw [if_neg c, if_pos rfl])⟩
      show v + 0 = Int32.ofNat (cnb (fun i => anf (fun k => decide (q36 k = z) && (L.getD i 0).testBit (m - 1 - k)) m 0) k + (if anf (fun i => decide (q36 i = z) && (L.getD k 0).testBit (m - 1 - i)) m 0 = true then 1 else 0))
      rw [if_neg c, hv, Int32.add_zero]
      rfl
  · intro f v hv
    show m_X10_setsFor_L39 F (Int32.ofNat L.length) z (f + 1) (Int32.ofNat L.length) v q29 q36 q37 q38 q39 q40 q41 q44 q45 = _
    rw [m_X10_setsFor_L39, if_pos (Int32.le_refl _)]
theorem cl_setsFor {F m : Nat} {z : Int32} {R : B17} {q0 q25 q26 : Nat → Int32} {L : List Nat} (hF : 20000 ≤ F) (hm : m ≤ 14) (h5 : R.2.1 5 = Int32.ofNat m) (hL : rL m q25 q26 L) : m_X9_setsFor_L16 F z F 0 0 q0 R.2.1 R.2.2.1 R.2.2.2.1 R.2.2.2.2.1 R.2.2.2.2.2.1 R.2.2.2.2.2.2.1 R.2.2.2.2.2.2.2.1 R.2.2.2.2.2.2.2.2.1 R.2.2.2.2.2.2.2.2.2.1 R.2.2.2.2.2.2.2.2.2.2.1 R.2.2.2.2.2.2.2.2.2.2.2.1 R.2.2.2.2.2.2.2.2.2.2.2.2.1 R.2.2.2.2.2.2.2.2.2.2.2.2.2.1 R.2.2.2.2.2.2.2.2.2.2.2.2.2.2.1 R.2.2.2.2.2.2.2.2.2.2.2.2.2.2.2.1 R.2.2.2.2.2.2.2.2.2.2.2.2.2.2.2.2 q25 q26 = some (0, Int32.ofNat (cnb (fun i => anf (fun k => decide (R.2.2.1 k = z) && (L.getD i 0).testBit (m - 1 - k)) m 0) L.length), q0, R.2.1, R.2.2.1, R.2.2.2.1, R.2.2.2.2.1, R.2.2.2.2.2.1, R.2.2.2.2.2.2.1, R.2.2.2.2.2.2.2.1, R.2.2.2.2.2.2.2.2.1, R.2.2.2.2.2.2.2.2.2.1, R.2.2.2.2.2.2.2.2.2.2.1, R.2.2.2.2.2.2.2.2.2.2.2.1, R.2.2.2.2.2.2.2.2.2.2.2.2.1, R.2.2.2.2.2.2.2.2.2.2.2.2.2.1, R.2.2.2.2.2.2.2.2.2.2.2.2.2.2.1, R.2.2.2.2.2.2.2.2.2.2.2.2.2.2.2.1, R.2.2.2.2.2.2.2.2.2.2.2.2.2.2.2.2, q25, q26) := by
  have hlen := hL.2.1
  have key := run1F (F := F) (K := L.length) (LC := fun f x v => m_X9_setsFor_L16 F z f x v q0 R.2.1 R.2.2.1 R.2.2.2.1 R.2.2.2.2.1 R.2.2.2.2.2.1 R.2.2.2.2.2.2.1 R.2.2.2.2.2.2.2.1 R.2.2.2.2.2.2.2.2.1 R.2.2.2.2.2.2.2.2.2.1 R.2.2.2.2.2.2.2.2.2.2.1 R.2.2.2.2.2.2.2.2.2.2.2.1 R.2.2.2.2.2.2.2.2.2.2.2.2.1 R.2.2.2.2.2.2.2.2.2.2.2.2.2.1 R.2.2.2.2.2.2.2.2.2.2.2.2.2.2.1 R.2.2.2.2.2.2.2.2.2.2.2.2.2.2.2.1 R.2.2.2.2.2.2.2.2.2.2.2.2.2.2.2.2 q25 q26) (P := fun k v => v = Int32.ofNat (cnb (fun i => anf (fun k => decide (R.2.2.1 k = z) && (L.getD i 0).testBit (m - 1 - k)) m 0) k)) (gC := fun v => (0, v, q0, R.2.1, R.2.2.1, R.2.2.2.1, R.2.2.2.2.1, R.2.2.2.2.2.1, R.2.2.2.2.2.2.1, R.2.2.2.2.2.2.2.1, R.2.2.2.2.2.2.2.2.1, R.2.2.2.2.2.2.2.2.2.1, R.2.2.2.2.2.2.2.2.2.2.1, R.2.2.2.2.2.2.2.2.2.2.2.1, R.2.2.2.2.2.2.2.2.2.2.2.2.1, R.2.2.2.2.2.2.2.2.2.2.2.2.2.1, R.2.2.2.2.2.2.2.2.2.2.2.2.2.2.1, R.2.2.2.2.2.2.2.2.2.2.2.2.2.2.2.1, R.2.2.2.2.2.2.2.2.2.2.2.2.2.2.2.2, q25, q26)) (by omega) ?_ ?_ 0 rfl
  · obtain ⟨v, v1, v2⟩ := key
    rw [← v1]; exact v2
  · intro k hk v hv
    have hun : ∀ f, m_X9_setsFor_L16 F z (f + 1) (Int32.ofNat k) v q0 R.2.1 R.2.2.1 R.2.2.2.1 R.2.2.2.2.1 R.2.2.2.2.2.1 R.2.2.2.2.2.2.1 R.2.2.2.2.2.2.2.1 R.2.2.2.2.2.2.2.2.1 R.2.2.2.2.2.2.2.2.2.1 R.2.2.2.2.2.2.2.2.2.2.1 R.2.2.2.2.2.2.2.2.2.2.2.1 R.2.2.2.2.2.2.2.2.2.2.2.2.1 R.2.2.2.2.2.2.2.2.2.2.2.2.2.1 R.2.2.2.2.2.2.2.2.2.2.2.2.2.2.1 R.2.2.2.2.2.2.2.2.2.2.2.2.2.2.2.1 R.2.2.2.2.2.2.2.2.2.2.2.2.2.2.2.2 q25 q26 = if (if anf (fun i => decide (R.2.2.1 i = z) && (L.getD k 0).testBit (m - 1 - i)) m 0 = true then (1 : Int32) else 0) = 0 then m_X9_setsFor_L16 F z f (Int32.ofNat (k + 1)) v q0 R.2.1 R.2.2.1 R.2.2.2.1 R.2.2.2.2.1 R.2.2.2.2.2.1 R.2.2.2.2.2.2.1 R.2.2.2.2.2.2.2.1 R.2.2.2.2.2.2.2.2.1 R.2.2.2.2.2.2.2.2.2.1 R.2.2.2.2.2.2.2.2.2.2.1 R.2.2.2.2.2.2.2.2.2.2.2.1 R.2.2.2.2.2.2.2.2.2.2.2.2.1 R.2.2.2.2.2.2.2.2.2.2.2.2.2.1 R.2.2.2.2.2.2.2.2.2.2.2.2.2.2.1 R.2.2.2.2.2.2.2.2.2.2.2.2.2.2.2.1 R.2.2.2.2.2.2.2.2.2.2.2.2.2.2.2.2 q25 q26 else m_X9_setsFor_L16 F z f (Int32.ofNat (k + 1)) (v + 1) q0 R.2.1 R.2.2.1 R.2.2.2.1 R.2.2.2.2.1 R.2.2.2.2.2.1 R.2.2.2.2.2.2.1 R.2.2.2.2.2.2.2.1 R.2.2.2.2.2.2.2.2.1 R.2.2.2.2.2.2.2.2.2.1 R.2.2.2.2.2.2.2.2.2.2.1 R.2.2.2.2.2.2.2.2.2.2.2.1 R.2.2.2.2.2.2.2.2.2.2.2.2.1 R.2.2.2.2.2.2.2.2.2.2.2.2.2.1 R.2.2.2.2.2.2.2.2.2.2.2.2.2.2.1 R.2.2.2.2.2.2.2.2.2.2.2.2.2.2.2.1 R.2.2.2.2.2.2.2.2.2.2.2.2.2.2.2.2 q25 q26 := fun f => by
      rw [m_X9_setsFor_L16, hL.1, if_neg (fun w => by have := (zn_le (by omega) (by omega)).mp w; omega), cl_concl hF hm h5 hL hk, Option.bind_some, zn_s]
    by_cases c : anf (fun i => decide (R.2.2.1 i = z) && (L.getD k 0).testBit (m - 1 - i)) m 0 = true
    · refine ⟨v + 1, ?_, fun f => (hun f).trans (by rw [if_pos c, if_neg zi_10])⟩
      show v + 1 = Int32.ofNat (cnb (fun i => anf (fun k => decide (R.2.2.1 k = z) && (L.getD i 0).testBit (m - 1 - k)) m 0) k + (if anf (fun i => decide (R.2.2.1 i = z) && (L.getD k 0).testBit (m - 1 - i)) m 0 = true then 1 else 0))
      rw [if_pos c, hv, zn_s]
    · refine ⟨v, ?_, fun f => (hun f).trans (by rw [if_neg c, if_pos rfl])⟩
      show v = Int32.ofNat (cnb (fun i => anf (fun k => decide (R.2.2.1 k = z) && (L.getD i 0).testBit (m - 1 - k)) m 0) k + (if anf (fun i => decide (R.2.2.1 i = z) && (L.getD k 0).testBit (m - 1 - i)) m 0 = true then 1 else 0))
      rw [if_neg c, hv]
      rfl
  · intro f v hv
    show m_X9_setsFor_L16 F z (f + 1) (Int32.ofNat L.length) v q0 R.2.1 R.2.2.1 R.2.2.2.1 R.2.2.2.2.1 R.2.2.2.2.2.1 R.2.2.2.2.2.2.1 R.2.2.2.2.2.2.2.1 R.2.2.2.2.2.2.2.2.1 R.2.2.2.2.2.2.2.2.2.1 R.2.2.2.2.2.2.2.2.2.2.1 R.2.2.2.2.2.2.2.2.2.2.2.1 R.2.2.2.2.2.2.2.2.2.2.2.2.1 R.2.2.2.2.2.2.2.2.2.2.2.2.2.1 R.2.2.2.2.2.2.2.2.2.2.2.2.2.2.1 R.2.2.2.2.2.2.2.2.2.2.2.2.2.2.2.1 R.2.2.2.2.2.2.2.2.2.2.2.2.2.2.2.2 q25 q26 = _
    rw [m_X9_setsFor_L16, hL.1, if_pos (Int32.le_refl _)]

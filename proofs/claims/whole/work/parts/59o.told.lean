/-! the calls' fronts: class and model -/
theorem ev_demandTold {F : Nat} {X : Nat → Nat → Int32} {R : B17} (hb : m_X9_build F X (X 0) (X 2) (X 4) (X 6) (X 7) (X 8) (X 9) (X 10) (X 11) (X 13) (X 14) (X 15) (X 16) (X 18) (X 19) (X 20) (X 22) (X 23) (X 24) = some R) : (R.2.1 6 = 0 → m_X9_demandTold F X (X 0) (X 2) (X 4) (X 6) (X 7) (X 8) (X 9) (X 10) (X 11) (X 13) (X 14) (X 15) (X 16) (X 18) (X 19) (X 20) (X 22) (X 23) (X 24) = some (0, R)) ∧ (¬ R.2.1 6 = 0 → m_X9_demandTold F X (X 0) (X 2) (X 4) (X 6) (X 7) (X 8) (X 9) (X 10) (X 11) (X 13) (X 14) (X 15) (X 16) (X 18) (X 19) (X 20) (X 22) (X 23) (X 24) = some (2, R)) := by
  constructor
  · intro h
    unfold m_X9_demandTold
    rw [hb, Option.bind_some, if_pos h]
  · intro h
    unfold m_X9_demandTold
    rw [hb, Option.bind_some, if_neg h]
theorem ev_demandFew {F : Nat} {X : Nat → Nat → Int32} {R : B17} (hb : m_X9_build F X (X 0) (X 2) (X 4) (X 6) (X 7) (X 8) (X 9) (X 10) (X 11) (X 13) (X 14) (X 15) (X 16) (X 18) (X 19) (X 20) (X 22) (X 23) (X 24) = some R) : (R.2.1 6 = 0 → R.2.1 5 ≤ 14 → m_X9_demandFew F X (X 0) (X 2) (X 4) (X 6) (X 7) (X 8) (X 9) (X 10) (X 11) (X 13) (X 14) (X 15) (X 16) (X 18) (X 19) (X 20) (X 22) (X 23) (X 24) = some (0, R)) ∧ (¬ (R.2.1 6 = 0 ∧ R.2.1 5 ≤ 14) → m_X9_demandFew F X (X 0) (X 2) (X 4) (X 6) (X 7) (X 8) (X 9) (X 10) (X 11) (X 13) (X 14) (X 15) (X 16) (X 18) (X 19) (X 20) (X 22) (X 23) (X 24) = some (2, R)) := by
  constructor
  · intro h h5
    unfold m_X9_demandFew
    rw [hb, Option.bind_some, if_pos h, if_pos h5]
  · intro h
    unfold m_X9_demandFew
    rw [hb, Option.bind_some]
    by_cases h6 : R.2.1 6 = 0
    · rw [if_pos h6, if_neg (fun q => h ⟨h6, q⟩)]
    · rw [if_neg h6]
theorem ev_demandArgument {F m : Nat} {r6 : Nat → Int32} {za : Int32} (h5 : r6 5 = Int32.ofNat m) : ((za < 0 ∨ Int32.ofNat m ≤ za) → m_X9_demandArgument F r6 za = some 3) ∧ (¬ (za < 0 ∨ Int32.ofNat m ≤ za) → m_X9_demandArgument F r6 za = some 0) := by
  unfold m_X9_demandArgument
  rw [h5]
  constructor
  · intro h
    by_cases h0 : za < 0
    · rw [if_pos h0]
    · rw [if_neg h0, if_neg (fun q => by
        have h1 := h.resolve_left h0
        rw [Int32.le_iff_toInt_le] at h1
        rw [Int32.lt_iff_toInt_lt] at q
        omega)]
  · intro h
    rw [if_neg (fun q => h (Or.inl q)), if_pos]
    have h1 : ¬ Int32.ofNat m ≤ za := fun q => h (Or.inr q)
    rw [Int32.le_iff_toInt_le] at h1
    rw [Int32.lt_iff_toInt_lt]
    omega
theorem arg_of {m : Nat} {za : Int32} (hm : m ≤ 24) (h : ¬ (za < 0 ∨ Int32.ofNat m ≤ za)) : ∃ i, i < m ∧ za = Int32.ofNat i := by
  obtain ⟨i, h1, h2⟩ := zn_of (x := za) (fun q => h (Or.inl q))
  refine ⟨i, ?_, h2⟩
  apply Nat.lt_of_not_le
  intro q
  apply h
  rw [h2, zn_le (by omega) (by omega)]
  exact Or.inr q
/-- the model builds what the class holds -/
theorem mtold {F n : Nat} {Y : Nat → Nat → Int32} (hF : 20000 ≤ F) (hS : Sta F Y n) (h06 : Y 0 6 ≠ 0) : ∃ m, m ≤ 24 ∧ Y 6 5 = Int32.ofNat m ∧ (Y 6 6 = 0 ∨ Y 6 6 = 1) ∧
    (Y 6 6 = 0 → (∀ r29 r41 r42 r43 : Nat → Int32, r29 8 = Int32.ofNat m → (∀ k, k < m → Y 13 k = r41 k) → ∃ q42 q43, m_X10_labelsAll F r29 r41 r42 r43 = some (q42, q43) ∧ LR m (Y 14 1) (Y 14 2) (Y 15) q42 q43) ∧ tabR (min m 14) (Y 13) (Y 16) (Y 19) (Y 20) (Y 23) (Y 24)) ∧
    ∀ r29 r36 r37 r38 r39 r40 r41 : Nat → Int32, r29 2 = Int32.ofNat n →
      (Y 6 6 ≠ 0 → ∃ t' : Six, m_X10_builds F r29 (Y 30) (Y 31) (Y 32) (Y 35) r36 r37 r38 r39 r40 = some t' ∧ t'.1 9 ≠ 0 ∧ t'.1 8 = Int32.ofNat m ∧ t'.1 2 = Int32.ofNat n ∧ t'.1 0 = r29 0) ∧
      (Y 6 6 = 0 → ∃ (t' : Six) (q41 : Nat → Int32), m_X10_builds F r29 (Y 30) (Y 31) (Y 32) (Y 35) r36 r37 r38 r39 r40 = some t' ∧ t'.1 9 = 0 ∧ m_X10_laysAttacks F t'.1 (Y 33) (Y 34) t'.2.1 t'.2.2.1 t'.2.2.2.2.2 r41 = some q41 ∧ t'.1 8 = Int32.ofNat m ∧ t'.1 2 = Int32.ofNat n ∧ t'.1 0 = r29 0 ∧ (∀ i, i < m → Y 7 i = t'.2.1 i ∧ Y 8 i = t'.2.2.1 i ∧ Y 9 i = t'.2.2.2.2.1 i ∧ Y 10 (3 * i) = t'.2.2.2.1 (3 * i) ∧ Y 10 (3 * i + 1) = t'.2.2.2.1 (3 * i + 1) ∧ Y 10 (3 * i + 2) = t'.2.2.2.1 (3 * i + 2)) ∧ ∀ k, k < m → Y 13 k = q41 k) := by
  obtain ⟨s1, s2, s3, s4, s5, s6, s7, s8, s9, s10⟩ := hS
  obtain ⟨m, hm, h5, h6, hall, hlab⟩ := s8 h06
  refine ⟨m, hm, h5, h6, hlab, fun r29 r36 r37 r38 r39 r40 r41 h2 => ⟨fun hne => ?_, fun hz => ?_⟩⟩
  · obtain ⟨t', f1, f2, f3, f4, f5⟩ := hall (r29, r36, r37, r38, r39, r40) h2
    obtain ⟨-, g2, g3, g4, g5, g6⟩ := f2
    exact ⟨t', f1, by rw [← g4]; exact hne, g3, (f3 2 (by decide) (by decide)).trans h2, f3 0 (by decide) (by decide)⟩
  · obtain ⟨t', f1, f2, f3, f4, f5⟩ := hall (r29, r36, r37, r38, r39, r40) h2
    obtain ⟨-, g2, g3, g4, g5, g6⟩ := f2
    obtain ⟨q41, a1, a2⟩ := lays_all (F := F) (r33 := Y 33) (r34 := Y 34) (r36 := t'.2.1) (r40 := t'.2.2.2.2.2) (r41 := r41) hF g3 hm f4
    exact ⟨t', q41, f1, by rw [← g4]; exact hz, a1, g3, (f3 2 (by decide) (by decide)).trans h2, f3 0 (by decide) (by decide), g6, fun k hk => tb_iff fun j hj => (f5 hz k hk j hj).trans (a2 k hk j hj).symm⟩
/-- the model's front: an argument is asked for -/
theorem misArg {F n : Nat} {Y : Nat → Nat → Int32} (hF : 20000 ≤ F) (hS : Sta F Y n) (h06 : Y 0 6 ≠ 0) : ∃ m, m ≤ 24 ∧ Y 6 5 = Int32.ofNat m ∧ (Y 6 6 = 0 ∨ Y 6 6 = 1) ∧
    (Y 6 6 = 0 → (∀ r29 r41 r42 r43 : Nat → Int32, r29 8 = Int32.ofNat m → (∀ k, k < m → Y 13 k = r41 k) → ∃ q42 q43, m_X10_labelsAll F r29 r41 r42 r43 = some (q42, q43) ∧ LR m (Y 14 1) (Y 14 2) (Y 15) q42 q43) ∧ tabR (min m 14) (Y 13) (Y 16) (Y 19) (Y 20) (Y 23) (Y 24)) ∧
    ∀ (r29 r36 r37 r38 r39 r40 r41 : Nat → Int32) (za : Int32), r29 2 = Int32.ofNat n →
      (Y 6 6 ≠ 0 → ∃ t' : Six, t'.1 2 = Int32.ofNat n ∧ m_X10_isArgument F r29 (Y 30) (Y 31) (Y 32) (Y 33) (Y 34) (Y 35) r36 r37 r38 r39 r40 r41 za = some (0, upd t'.1 0 1, t'.2.1, t'.2.2.1, t'.2.2.2.1, t'.2.2.2.2.1, t'.2.2.2.2.2, r41)) ∧
      (Y 6 6 = 0 → ∃ (t' : Six) (q41 : Nat → Int32), t'.1 8 = Int32.ofNat m ∧ t'.1 2 = Int32.ofNat n ∧ (∀ i, i < m → Y 7 i = t'.2.1 i ∧ Y 8 i = t'.2.2.1 i ∧ Y 9 i = t'.2.2.2.2.1 i ∧ Y 10 (3 * i) = t'.2.2.2.1 (3 * i) ∧ Y 10 (3 * i + 1) = t'.2.2.2.1 (3 * i + 1) ∧ Y 10 (3 * i + 2) = t'.2.2.2.1 (3 * i + 2)) ∧ (∀ k, k < m → Y 13 k = q41 k) ∧
        ((za < 0 ∨ Int32.ofNat m ≤ za) → m_X10_isArgument F r29 (Y 30) (Y 31) (Y 32) (Y 33) (Y 34) (Y 35) r36 r37 r38 r39 r40 r41 za = some (0, upd t'.1 0 2, t'.2.1, t'.2.2.1, t'.2.2.2.1, t'.2.2.2.2.1, t'.2.2.2.2.2, q41)) ∧
        (¬ (za < 0 ∨ Int32.ofNat m ≤ za) → m_X10_isArgument F r29 (Y 30) (Y 31) (Y 32) (Y 33) (Y 34) (Y 35) r36 r37 r38 r39 r40 r41 za = some (1, upd t'.1 0 0, t'.2.1, t'.2.2.1, t'.2.2.2.1, t'.2.2.2.2.1, t'.2.2.2.2.2, q41))) := by
  obtain ⟨m, hm, h5, h6, hlab, hall⟩ := mtold hF hS h06
  refine ⟨m, hm, h5, h6, hlab, fun r29 r36 r37 r38 r39 r40 r41 za h2 => ⟨fun hne => ?_, fun hz => ?_⟩⟩
  · obtain ⟨t', f1, f2, f3, f4, f40⟩ := (hall r29 r36 r37 r38 r39 r40 r41 h2).1 hne
    refine ⟨t', f4, ?_⟩
    unfold m_X10_isArgument m_X10_isTold
    rw [f1, Option.bind_some, if_neg f2, Option.bind_some, if_pos rfl]
  · obtain ⟨t', q41, f1, f2, f3, f4, f5, f50, f6, f7⟩ := (hall r29 r36 r37 r38 r39 r40 r41 h2).2 hz
    refine ⟨t', q41, f4, f5, f6, f7, fun ha => ?_, fun ha => ?_⟩
    · unfold m_X10_isArgument m_X10_isTold m_X10_passes
      rw [f1, Option.bind_some, if_pos f2, f3, Option.bind_some, Option.bind_some, if_neg zi_10]
      show Option.bind (if za < 0 then some (2 : Int32) else if t'.1 8 ≤ za then some 2 else some 0) _ = _
      rw [f4]
      have e : (if za < 0 then some (2 : Int32) else if Int32.ofNat m ≤ za then some 2 else some 0) = some 2 := by
        by_cases h0 : za < 0
        · rw [if_pos h0]
        · rw [if_neg h0, if_pos (ha.resolve_left h0)]
      rw [e, Option.bind_some, if_neg (by decide), Option.bind_some, if_pos (Or.inl rfl)]
    · unfold m_X10_isArgument m_X10_isTold m_X10_passes
      rw [f1, Option.bind_some, if_pos f2, f3, Option.bind_some, Option.bind_some, if_neg zi_10]
      show Option.bind (if za < 0 then some (2 : Int32) else if t'.1 8 ≤ za then some 2 else some 0) _ = _
      rw [f4, if_neg (fun q => ha (Or.inl q)), if_neg (fun q => ha (Or.inr q)), Option.bind_some, if_pos rfl, Option.bind_some, if_pos (Or.inr rfl)]
theorem Sta_f5 {F n : Nat} {X2 Y : Nat → Nat → Int32} {b29 b36 b37 b38 b39 b40 : Nat → Int32} (h : ∀ j, j ≠ 46 → X2 j = Y j) (hS : Sta F Y n) (h29 : b29 2 = Int32.ofNat n) : Sta F (up (up (up (up (up (up X2 29 b29) 36 b36) 37 b37) 38 b38) 39 b39) 40 b40) n := Sta_ext (X := Y) (fun j hj => by
  unfold idl at hj
  rw [up_ne (by omega), up_ne (by omega), up_ne (by omega), up_ne (by omega), up_ne (by omega), up_ne (by omega)]
  exact h j (by omega)) (h29.trans hS.2.1.symm) hS
theorem Sta_f7 {F n : Nat} {X2 Y : Nat → Nat → Int32} {b29 b36 b37 b38 b39 b40 b41 : Nat → Int32} (h : ∀ j, j ≠ 46 → X2 j = Y j) (hS : Sta F Y n) (h29 : b29 2 = Int32.ofNat n) : Sta F (up (up (up (up (up (up (up X2 29 b29) 36 b36) 37 b37) 38 b38) 39 b39) 40 b40) 41 b41) n := Sta_ext (X := Y) (fun j hj => by
  unfold idl at hj
  rw [up_ne (by omega), up_ne (by omega), up_ne (by omega), up_ne (by omega), up_ne (by omega), up_ne (by omega), up_ne (by omega)]
  exact h j (by omega)) (h29.trans hS.2.1.symm) hS
theorem Sta_f9 {F n : Nat} {X2 Y : Nat → Nat → Int32} {b29 b36 b37 b38 b39 b40 b41 b42 b43 : Nat → Int32} (h : ∀ j, j ≠ 46 → X2 j = Y j) (hS : Sta F Y n) (h29 : b29 2 = Int32.ofNat n) : Sta F (up (up (up (up (up (up (up (up (up X2 29 b29) 36 b36) 37 b37) 38 b38) 39 b39) 40 b40) 41 b41) 42 b42) 43 b43) n := Sta_ext (X := Y) (fun j hj => by
  unfold idl at hj
  rw [up_ne (by omega), up_ne (by omega), up_ne (by omega), up_ne (by omega), up_ne (by omega), up_ne (by omega), up_ne (by omega), up_ne (by omega), up_ne (by omega)]
  exact h j (by omega)) (h29.trans hS.2.1.symm) hS
theorem Sta_g9 {F n : Nat} {X2 Y : Nat → Nat → Int32} {b29 b36 b37 b38 b39 b40 b41 b44 b45 : Nat → Int32} (h : ∀ j, j ≠ 46 → X2 j = Y j) (hS : Sta F Y n) (h29 : b29 2 = Int32.ofNat n) : Sta F (up (up (up (up (up (up (up (up (up X2 29 b29) 36 b36) 37 b37) 38 b38) 39 b39) 40 b40) 41 b41) 44 b44) 45 b45) n := Sta_ext (X := Y) (fun j hj => by
  unfold idl at hj
  rw [up_ne (by omega), up_ne (by omega), up_ne (by omega), up_ne (by omega), up_ne (by omega), up_ne (by omega), up_ne (by omega), up_ne (by omega), up_ne (by omega)]
  exact h j (by omega)) (h29.trans hS.2.1.symm) hS

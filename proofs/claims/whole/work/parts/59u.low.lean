/-! the first reason, and the lowest attacker -/
theorem cl_reason {F m : Nat} {z : Int32} {R : B17} (hF : 20000 ≤ F) (hm : m ≤ 24) (h5 : R.2.1 5 = Int32.ofNat m) : m_X9_reasonFor_L10 F z F 0 R.1 R.2.1 R.2.2.1 R.2.2.2.1 R.2.2.2.2.1 R.2.2.2.2.2.1 R.2.2.2.2.2.2.1 R.2.2.2.2.2.2.2.1 R.2.2.2.2.2.2.2.2.1 R.2.2.2.2.2.2.2.2.2.1 R.2.2.2.2.2.2.2.2.2.2.1 R.2.2.2.2.2.2.2.2.2.2.2.1 R.2.2.2.2.2.2.2.2.2.2.2.2.1 R.2.2.2.2.2.2.2.2.2.2.2.2.2.1 R.2.2.2.2.2.2.2.2.2.2.2.2.2.2.1 R.2.2.2.2.2.2.2.2.2.2.2.2.2.2.2.1 R.2.2.2.2.2.2.2.2.2.2.2.2.2.2.2.2 = some (0, fo (fun k => decide (R.2.2.1 k = z) && decide (labF (R.2.2.2.2.2.2.2.2.1 1) (R.2.2.2.2.2.2.2.2.1 2) k = 2)) m 0, R) := by
  have key : ∀ d k f, k + d = m → m_X9_reasonFor_L10 F z (f + d + 1) (Int32.ofNat k) R.1 R.2.1 R.2.2.1 R.2.2.2.1 R.2.2.2.2.1 R.2.2.2.2.2.1 R.2.2.2.2.2.2.1 R.2.2.2.2.2.2.2.1 R.2.2.2.2.2.2.2.2.1 R.2.2.2.2.2.2.2.2.2.1 R.2.2.2.2.2.2.2.2.2.2.1 R.2.2.2.2.2.2.2.2.2.2.2.1 R.2.2.2.2.2.2.2.2.2.2.2.2.1 R.2.2.2.2.2.2.2.2.2.2.2.2.2.1 R.2.2.2.2.2.2.2.2.2.2.2.2.2.2.1 R.2.2.2.2.2.2.2.2.2.2.2.2.2.2.2.1 R.2.2.2.2.2.2.2.2.2.2.2.2.2.2.2.2 = some (0, fo (fun k => decide (R.2.2.1 k = z) && decide (labF (R.2.2.2.2.2.2.2.2.1 1) (R.2.2.2.2.2.2.2.2.1 2) k = 2)) d k, R) := by
    intro d
    induction d with
    | zero =>
      intro k f hk
      have hk : k = m := hk
      rw [m_X9_reasonFor_L10, h5, hk, if_pos (Int32.le_refl _)]
      rfl
    | succ d ih =>
      intro k f hk
      have e : fo (fun k => decide (R.2.2.1 k = z) && decide (labF (R.2.2.2.2.2.2.2.2.1 1) (R.2.2.2.2.2.2.2.2.1 2) k = 2)) (d + 1) k = if (decide (R.2.2.1 k = z) && decide (labF (R.2.2.2.2.2.2.2.2.1 1) (R.2.2.2.2.2.2.2.2.1 2) k = 2)) = true then Int32.ofNat k else fo (fun k => decide (R.2.2.1 k = z) && decide (labF (R.2.2.2.2.2.2.2.2.1 1) (R.2.2.2.2.2.2.2.2.1 2) k = 2)) d (k + 1) := rfl
      rw [e, show f + (d + 1) + 1 = (f + d + 1) + 1 by omega, m_X9_reasonFor_L10, h5, if_neg (zn_nle hm (by omega)), ev_conclusionAt (by omega), Option.bind_some, ev_labelAt (by omega), Option.bind_some, zn_s, ih (k + 1) f (by omega)]
      have e2 : (if tb (R.2.2.2.2.2.2.2.2.1 1) k = true then (2 : Int32) else if tb (R.2.2.2.2.2.2.2.2.1 2) k = true then 0 else 1) = labF (R.2.2.2.2.2.2.2.2.1 1) (R.2.2.2.2.2.2.2.2.1 2) k := rfl
      rw [e2]
      by_cases c : R.2.2.1 k = z
      · rw [if_pos c, decide_eq_true c]
        by_cases c2 : labF (R.2.2.2.2.2.2.2.2.1 1) (R.2.2.2.2.2.2.2.2.1 2) k = 2
        · rw [if_pos c2, decide_eq_true c2]
          rfl
        · rw [if_neg c2, decide_eq_false c2]
          rfl
      · rw [if_neg c, decide_eq_false c]
        rfl
  have := key m 0 (F - m - 1) (by omega)
  rw [show F - m - 1 + m + 1 = F by omega] at this
  exact this
theorem ml_reason {F m : Nat} {z : Int32} {q29 q36 q37 q38 q39 q40 q41 q42 q43 : Nat → Int32} (hF : 20000 ≤ F) (hm : m ≤ 24) (h8 : q29 8 = Int32.ofNat m) : m_X10_reasonFor_L19 F z F (q29 8 - 1) (-1) q29 q36 q37 q38 q39 q40 q41 q42 q43 = some (fo (fun k => decide (q36 k = z) && decide (q42 k = 2)) m 0, q29, q36, q37, q38, q39, q40, q41, q42, q43) := by
  have key := run_dnF (F := F) (K := m) (LC := fun f x v => m_X10_reasonFor_L19 F z f x v q29 q36 q37 q38 q39 q40 q41 q42 q43) (P := fun j v => v = fo (fun k => decide (q36 k = z) && decide (q42 k = 2)) (m - j) j) (gC := fun v => (v, q29, q36, q37, q38, q39, q40, q41, q42, q43)) (by omega) ?_ ?_ (-1) (by rw [Nat.sub_self]; rfl)
  · obtain ⟨v, v1, v2⟩ := key
    rw [Nat.sub_zero] at v1
    rw [← v1, h8, Int32.sub_eq_add_neg]
    exact v2
  · intro j hj v hv
    have gk : ¬ (Int32.ofNat j < 0 ∨ 24 ≤ (Int32.ofNat j).toNatClampNeg) := zn_ok (by omega) (by omega)
    have hun : ∀ f, m_X10_reasonFor_L19 F z (f + 1) (Int32.ofNat j) v q29 q36 q37 q38 q39 q40 q41 q42 q43 = if q36 j = z then (if q42 j = 2 then m_X10_reasonFor_L19 F z f (dn j) (Int32.ofNat j) q29 q36 q37 q38 q39 q40 q41 q42 q43 else m_X10_reasonFor_L19 F z f (dn j) v q29 q36 q37 q38 q39 q40 q41 q42 q43) else m_X10_reasonFor_L19 F z f (dn j) v q29 q36 q37 q38 q39 q40 q41 q42 q43 := fun f => by
      rw [m_X10_reasonFor_L19, if_neg (zn_nn (by omega))]
      simp only [if_pos gk]
      rw [zn_nat (by omega)]
      rfl
    have e : fo (fun k => decide (q36 k = z) && decide (q42 k = 2)) (m - j) j = if (decide (q36 j = z) && decide (q42 j = 2)) = true then Int32.ofNat j else fo (fun k => decide (q36 k = z) && decide (q42 k = 2)) (m - (j + 1)) (j + 1) := by
      rw [show m - j = (m - (j + 1)) + 1 by omega]
      rfl
    by_cases c : q36 j = z
    · by_cases c2 : q42 j = 2
      · refine ⟨Int32.ofNat j, ?_, fun f => (hun f).trans (by rw [if_pos c, if_pos c2])⟩
        show Int32.ofNat j = fo (fun k => decide (q36 k = z) && decide (q42 k = 2)) (m - j) j
        rw [e, decide_eq_true c, decide_eq_true c2]
        rfl
      · refine ⟨v, ?_, fun f => (hun f).trans (by rw [if_pos c, if_neg c2])⟩
        show v = fo (fun k => decide (q36 k = z) && decide (q42 k = 2)) (m - j) j
        rw [e, decide_eq_false c2, Bool.and_false, hv, if_neg (by decide)]
    · refine ⟨v, ?_, fun f => (hun f).trans (if_neg c)⟩
      show v = fo (fun k => decide (q36 k = z) && decide (q42 k = 2)) (m - j) j
      rw [e, decide_eq_false c, Bool.false_and, hv, if_neg (by decide)]
  · intro f v hv
    show m_X10_reasonFor_L19 F z (f + 1) (-1) v q29 q36 q37 q38 q39 q40 q41 q42 q43 = _
    rw [m_X10_reasonFor_L19, if_pos (by decide)]
theorem ml_lowest {F : Nat} {s : Int32} (hF : 20000 ≤ F) : m_X10_lowest F s = some (fo (fun k => tb s k) 24 0) := by
  have key := run_dnF (F := F) (K := 24) (LC := fun f x v => m_X10_lowest_L5 F s f x v) (P := fun j v => v = fo (fun k => tb s k) (24 - j) j) (gC := fun v => v) (by omega) ?_ ?_ (-1) rfl
  · obtain ⟨v, v1, v2⟩ := key
    have v1 : v = fo (fun k => tb s k) 24 0 := v1
    rw [← v1]
    exact v2
  · intro j hj v hv
    have hun : ∀ f, m_X10_lowest_L5 F s (f + 1) (Int32.ofNat j) v = if tb s j = true then m_X10_lowest_L5 F s f (dn j) (Int32.ofNat j) else m_X10_lowest_L5 F s f (dn j) v := fun f => by
      rw [m_X10_lowest_L5, if_neg (zn_nn (by omega))]
      by_cases c : tb s j = true
      · rw [if_pos c, if_pos ((bit_1 _ (by omega)).mpr c)]
        rfl
      · rw [if_neg c, if_neg (fun w => c ((bit_1 _ (by omega)).mp w))]
        rfl
    have e : fo (fun k => tb s k) (24 - j) j = if tb s j = true then Int32.ofNat j else fo (fun k => tb s k) (24 - (j + 1)) (j + 1) := by
      rw [show 24 - j = (24 - (j + 1)) + 1 by omega]
      rfl
    by_cases c : tb s j = true
    · refine ⟨Int32.ofNat j, ?_, fun f => (hun f).trans (if_pos c)⟩
      show Int32.ofNat j = fo (fun k => tb s k) (24 - j) j
      rw [e, if_pos c]
    · refine ⟨v, ?_, fun f => (hun f).trans (if_neg c)⟩
      show v = fo (fun k => tb s k) (24 - j) j
      rw [e, if_neg c, hv]
  · intro f v hv
    show m_X10_lowest_L5 F s (f + 1) (-1) v = _
    rw [m_X10_lowest_L5, if_pos (by decide)]
theorem cl_lowest {F m i : Nat} {y : Int32} {r6 r13 r14 : Nat → Int32} (hF : 20000 ≤ F) (hm : m ≤ 24) (h5 : r6 5 = Int32.ofNat m) (hi : i < 24) : m_X9_lowestAttacker F r6 r13 r14 (Int32.ofNat i) y = some (fo (fun k => tb (r13 i) k && decide (labF (r14 1) (r14 2) k = y)) m 0) := by
  have key : ∀ d k f, k + d = m → m_X9_lowestAttacker_L2 F r6 r13 r14 (Int32.ofNat i) y (f + d + 1) (Int32.ofNat k) = some (fo (fun k => tb (r13 i) k && decide (labF (r14 1) (r14 2) k = y)) d k) := by
    intro d
    induction d with
    | zero =>
      intro k f hk
      have hk : k = m := hk
      rw [m_X9_lowestAttacker_L2, h5, hk, if_pos (Int32.le_refl _)]
      rfl
    | succ d ih =>
      intro k f hk
      have e : fo (fun k => tb (r13 i) k && decide (labF (r14 1) (r14 2) k = y)) (d + 1) k = if (tb (r13 i) k && decide (labF (r14 1) (r14 2) k = y)) = true then Int32.ofNat k else fo (fun k => tb (r13 i) k && decide (labF (r14 1) (r14 2) k = y)) d (k + 1) := rfl
      rw [e, show f + (d + 1) + 1 = (f + d + 1) + 1 by omega, m_X9_lowestAttacker_L2, h5, if_neg (zn_nle hm (by omega)), ev_leads (by omega) hi, Option.bind_some, ev_labelAt (by omega), Option.bind_some, zn_s, ih (k + 1) f (by omega)]
      have e2 : (if tb (r14 1) k = true then (2 : Int32) else if tb (r14 2) k = true then 0 else 1) = labF (r14 1) (r14 2) k := rfl
      rw [e2]
      by_cases c : tb (r13 i) k = true
      · rw [if_pos c, if_neg zi_10, c, Bool.true_and]
        by_cases c2 : labF (r14 1) (r14 2) k = y
        · rw [if_pos c2, decide_eq_true c2, if_pos rfl]
        · rw [if_neg c2, decide_eq_false c2, if_neg (by decide)]
      · rw [if_neg c, if_pos rfl, Bool.eq_false_iff.mpr c, Bool.false_and, if_neg (by decide)]
  have := key m 0 (F - m - 1) (by omega)
  rw [show F - m - 1 + m + 1 = F by omega] at this
  exact this
/-- the two lowest ones are one -/
theorem low_same {m i : Nat} {y s v : Int32} {r13 q41 q42 : Nat → Int32} {lab : Nat → Int32} (hm : m ≤ 24) (h13 : r13 i = q41 i) (hlab : ∀ k, k < m → q42 k = lab k) (hv : ∀ k, k < 32 → (tb v k = true ↔ k < m ∧ q42 k = y)) (hs : s = q41 i &&& v) : fo (fun k => tb s k) 24 0 = fo (fun k => tb (r13 i) k && decide (lab k = y)) m 0 := by
  have hb : ∀ k, k < 32 → tb s k = (tb (r13 i) k && decide (k < m ∧ q42 k = y)) := fun k hk => by
    rw [hs, tb_and, h13]
    have := hv k hk
    cases h : tb v k with
    | true => rw [decide_eq_true (this.mp h)]
    | false => rw [decide_eq_false (fun q => by rw [this.mpr q] at h; cases h)]
  obtain ⟨c, hc⟩ : ∃ c, 24 = m + c := ⟨24 - m, by omega⟩
  rw [hc, fo_add m c 0 (fun k h1 h2 => by rw [hb k (by omega), decide_eq_false (fun q => by omega), Bool.and_false])]
  refine fo_same m 0 (fun k _ hk => ?_)
  have hkm : k < m := by omega
  show tb s k = (tb (r13 i) k && decide (lab k = y))
  rw [hb k (by omega), hlab k hkm]
  congr 1
  exact decide_eq_decide.mpr ⟨fun q => q.2, fun q => ⟨hkm, q⟩⟩
theorem low_m1 {s : Int32} {m : Nat} {v : Int32} {q41 : Int32} (hm : m ≤ 24) (hv : ∀ k, k < 32 → (tb v k = true → k < m)) (hs : s = q41 &&& v) : fo (fun k => tb s k) 24 0 = -1 ↔ s = 0 := by
  rw [fo_m1 24 0 (by decide), eq0_tb]
  constructor
  · intro h k hk
    by_cases hkm : k < 24
    · exact h k (Nat.zero_le _) (by omega)
    · rw [hs, tb_and]
      cases hb : tb v k with
      | true => have := hv k hk hb; omega
      | false => rw [Bool.and_false]
  · intro h k _ hk; exact h k (by omega)
/-- the model's front: a literal is asked for -/
theorem misAsked {F n : Nat} {Y : Nat → Nat → Int32} (hF : 20000 ≤ F) (hS : Sta F Y n) (h06 : Y 0 6 ≠ 0) : ∃ m, m ≤ 24 ∧ Y 6 5 = Int32.ofNat m ∧ (Y 6 6 = 0 ∨ Y 6 6 = 1) ∧
    ∀ (r29 r36 r37 r38 r39 r40 r41 r42 r43 : Nat → Int32) (za : Int32), r29 2 = Int32.ofNat n → m_X10_isLiteral F za = some 1 →
      (Y 6 6 ≠ 0 → ∃ t' : Six, t'.1 2 = Int32.ofNat n ∧ m_X10_isAsked F r29 (Y 30) (Y 31) (Y 32) (Y 33) (Y 34) (Y 35) r36 r37 r38 r39 r40 r41 r42 r43 za = some (0, upd t'.1 0 2, t'.2.1, t'.2.2.1, t'.2.2.2.1, t'.2.2.2.2.1, t'.2.2.2.2.2, r41, r42, r43)) ∧
      (Y 6 6 = 0 → ∃ (t' : Six) (q41 q42 q43 : Nat → Int32), t'.1 8 = Int32.ofNat m ∧ t'.1 2 = Int32.ofNat n ∧ t'.1 0 = 0 ∧ (∀ i, i < m → Y 7 i = t'.2.1 i) ∧ LR m (Y 14 1) (Y 14 2) (Y 15) q42 q43 ∧ m_X10_isAsked F r29 (Y 30) (Y 31) (Y 32) (Y 33) (Y 34) (Y 35) r36 r37 r38 r39 r40 r41 r42 r43 za = some (1, t'.1, t'.2.1, t'.2.2.1, t'.2.2.2.1, t'.2.2.2.2.1, t'.2.2.2.2.2, q41, q42, q43)) := by
  obtain ⟨m, hm, h5, h6, hlab, hall⟩ := mtold hF hS h06
  refine ⟨m, hm, h5, h6, fun r29 r36 r37 r38 r39 r40 r41 r42 r43 za h2 hl => ⟨fun hne => ?_, fun hz => ?_⟩⟩
  · obtain ⟨t', f1, f2, f3, f4, f40⟩ := (hall (upd r29 0 0) r36 r37 r38 r39 r40 r41 (upd02.trans h2)).1 hne
    refine ⟨t', f4, ?_⟩
    unfold m_X10_isAsked m_X10_passes m_X10_isTold
    rw [hl, Option.bind_some, if_neg zi_10, Option.bind_some, if_pos rfl, Option.bind_some, if_neg zi_10, f1, Option.bind_some, if_neg f2, Option.bind_some, if_pos rfl]
  · obtain ⟨t', q41, f1, f2, f3, f4, f5, f50, f6, f7⟩ := (hall (upd r29 0 0) r36 r37 r38 r39 r40 r41 (upd02.trans h2)).2 hz
    obtain ⟨q42, q43, g1, g2⟩ := (hlab hz).1 t'.1 q41 r42 r43 f4 f7
    refine ⟨t', q41, q42, q43, f4, f5, f50.trans (upd_at _ _ _), fun i hi => (f6 i hi).1, g2, ?_⟩
    unfold m_X10_isAsked m_X10_passes m_X10_isTold
    rw [hl, Option.bind_some, if_neg zi_10, Option.bind_some, if_pos rfl, Option.bind_some, if_neg zi_10, f1, Option.bind_some, if_pos f2, f3, Option.bind_some, Option.bind_some, if_neg zi_10, g1, Option.bind_some]
theorem upB_self {X : Nat → Nat → Int32} : upB X (X 0, X 6, X 7, X 8, X 9, X 10, X 11, X 13, X 14, X 15, X 16, X 18, X 19, X 20, X 22, X 23, X 24) = X := by
  unfold upB
  rw [up_self, up_self, up_self, up_self, up_self, up_self, up_self, up_self, up_self, up_self, up_self, up_self, up_self, up_self, up_self, up_self, up_self]

theorem st_addFact {F n : Nat} {X : Nat → Nat → Int32} (hF : 20000 ≤ F) (hS : Sta F X n) (za1 : Int32) : ∃ R0, m_X9_addFact F (X 0) (X 1) (X 2) za1 = some R0 ∧ (R0.1 = 0 ∨ R0.1 = 1 ∨ R0.1 = 2) ∧ ∀ X2 : Nat → Nat → Int32, (∀ j, j ≠ 46 → X2 j = (up (up (up X 0 R0.2.2.1) 1 R0.2.2.2.1) 2 R0.2.2.2.2) j) → ∃ R1, m_X10_addFact F (X2 29) (X2 30) za1 = some R1 ∧ ((up (up X2 29 R1.2.1) 30 R1.2.2) 29 0 = lkc R0.1 1) ∧ (R0.1 = 0 → R1.1 = R0.2.1) ∧ Sta F (up (up X2 29 R1.2.1) 30 R1.2.2) n := by
  have s3 := hS.2.2.1
  have s4 := hS.2.2.2.1
  have g29 : ∀ v, upd (X 29) 0 v 2 = Int32.ofNat n := fun v => (upd02 (r := X 29) (v := v)).trans hS.2.1
  rcases ev_dL (F := F) za1 with ⟨j, hj, hj10, e, q1, q2⟩ | ⟨q1, q2⟩
  · subst e
    have hh := ev_has (F := F) s3 hj
    have hn' : m_X2_has F (X 2) (-lit j) = some (X 30 (20 - j)) := by rw [lit_neg hj]; exact ev_has s3 (by omega)
    have j1 : ¬ (Int32.ofNat j < 0 ∨ 21 ≤ (Int32.ofNat j).toNatClampNeg) := zn_ok hj (by omega)
    have j2 : ¬ (Int32.ofNat (20 - j) < 0 ∨ 21 ≤ (Int32.ofNat (20 - j)).toNatClampNeg) := zn_ok (by omega) (by omega)
    by_cases c1 : X 30 j = 0
    · by_cases c2 : X 30 (20 - j) = 0
      · refine ⟨(0, upd (X 1) 1 (X 1 1 + 1) 1, fgt (X 0), upd (X 1) 1 (X 1 1 + 1), upd (X 2) j 1), ?_, Or.inl rfl, fun X2 h2 => ?_⟩
        · unfold m_X9_addFact
          rw [q1, Option.bind_some, if_pos rfl, hh, Option.bind_some, if_pos c1, hn', Option.bind_some, if_pos c2, ev_put s3 hj c1, Option.bind_some]
          rfl
        · have h29 : X2 29 = X 29 := h2 29 (by decide)
          have h30 : X2 30 = X 30 := h2 30 (by decide)
          rw [h29, h30]
          refine ⟨(Int32.ofNat (nfc (upd (X 30) j 1) 21), upd (X 29) 0 0, upd (X 30) j 1), ?_, upd_at (X 29) 0 0, fun _ => ?_, Sta_fact (r0 := X 0) hS h2 (g29 0) (faR_upd s3 hj10 (Or.inr rfl)) ?_⟩
          · unfold m_X10_addFact m_X10_passes
            rw [q2, Option.bind_some, if_neg zi_10, lit_10' hj, lit_sub hj, if_pos j1, zn_nat (show j < 2147483648 by omega), if_pos c1, if_pos j2, zn_nat (show 20 - j < 2147483648 by omega), if_pos c2, Option.bind_some, if_pos rfl, Option.bind_some, if_neg zi_10, if_pos (by rw [zn_nat (show j < 2147483648 by omega)] at j1; exact j1), ev_factsNow hF, Option.bind_some]
          · show Int32.ofNat (nfc (upd (X 30) j 1) 21) = upd (X 1) 1 (X 1 1 + 1) 1
            rw [upd_at, s4, nfc_on c1 21 hj, zn_s]
          · show upd (X 1) 1 (X 1 1 + 1) 1 = Int32.ofNat (nfc (upd (X 30) j 1) 21)
            rw [upd_at, s4, nfc_on c1 21 hj, zn_s]
      · refine ⟨(2, 0, X 0, X 1, X 2), ?_, Or.inr (Or.inr rfl), fun X2 h2 => ?_⟩
        · unfold m_X9_addFact
          rw [q1, Option.bind_some, if_pos rfl, hh, Option.bind_some, if_pos c1, hn', Option.bind_some, if_neg c2]
        · have h2 : ∀ j, j ≠ 46 → X2 j = X j := fun j hj => (h2 j hj).trans (congrFun (same_012 X) j)
          rw [h2 29 (by decide), h2 30 (by decide)]
          refine ⟨(0, upd (X 29) 0 2, X 30), ?_, upd_at (X 29) 0 2, fun q => absurd (show (2 : Nat) = 0 from q) (by decide), Sta_keep hS h2 (g29 2) (by decide)⟩
          unfold m_X10_addFact m_X10_passes
          rw [q2, Option.bind_some, if_neg zi_10, lit_10' hj, lit_sub hj, if_pos j1, zn_nat (show j < 2147483648 by omega), if_pos c1, if_pos j2, zn_nat (show 20 - j < 2147483648 by omega), if_neg c2, Option.bind_some, if_neg (by decide), Option.bind_some, if_pos rfl]
    · refine ⟨(2, 0, X 0, X 1, X 2), ?_, Or.inr (Or.inr rfl), fun X2 h2 => ?_⟩
      · unfold m_X9_addFact
        rw [q1, Option.bind_some, if_pos rfl, hh, Option.bind_some, if_neg c1]
      · have h2 : ∀ j, j ≠ 46 → X2 j = X j := fun j hj => (h2 j hj).trans (congrFun (same_012 X) j)
        rw [h2 29 (by decide), h2 30 (by decide)]
        refine ⟨(0, upd (X 29) 0 2, X 30), ?_, upd_at (X 29) 0 2, fun q => absurd (show (2 : Nat) = 0 from q) (by decide), Sta_keep hS h2 (g29 2) (by decide)⟩
        unfold m_X10_addFact m_X10_passes
        rw [q2, Option.bind_some, if_neg zi_10, lit_10' hj, if_pos j1, zn_nat (show j < 2147483648 by omega), if_neg c1, Option.bind_some, if_neg (by decide), Option.bind_some, if_pos rfl]
  · refine ⟨(1, 0, X 0, X 1, X 2), ?_, Or.inr (Or.inl rfl), fun X2 h2 => ?_⟩
    · unfold m_X9_addFact
      rw [q1, Option.bind_some, if_neg (by decide)]
    · have h2 : ∀ j, j ≠ 46 → X2 j = X j := fun j hj => (h2 j hj).trans (congrFun (same_012 X) j)
      rw [h2 29 (by decide), h2 30 (by decide)]
      refine ⟨(0, upd (X 29) 0 1, X 30), ?_, upd_at (X 29) 0 1, fun q => absurd (show (1 : Nat) = 0 from q) (by decide), Sta_keep hS h2 (g29 1) (by decide)⟩
      unfold m_X10_addFact m_X10_passes
      rw [q2, Option.bind_some, if_pos rfl, Option.bind_some, if_neg zi_10, Option.bind_some, if_pos rfl]
theorem st_takeBack {F n : Nat} {X : Nat → Nat → Int32} (hF : 20000 ≤ F) (hS : Sta F X n) (za1 : Int32) : ∃ R0, m_X9_takeBack F (X 0) (X 1) (X 2) za1 = some R0 ∧ (R0.1 = 0 ∨ R0.1 = 1) ∧ (R0.2.1 = 0 ∨ R0.2.1 = 1) ∧ ∀ X2 : Nat → Nat → Int32, (∀ j, j ≠ 46 → X2 j = (up (up (up X 0 R0.2.2.1) 1 R0.2.2.2.1) 2 R0.2.2.2.2) j) → ∃ R1, m_X10_takeBack F (X2 29) (X2 30) za1 = some R1 ∧ ((up (up X2 29 R1.2.1) 30 R1.2.2) 29 0 = lkc R0.1 1) ∧ (R0.1 = 0 → R1.1 = R0.2.1) ∧ Sta F (up (up X2 29 R1.2.1) 30 R1.2.2) n := by
  have s3 := hS.2.2.1
  have s4 := hS.2.2.2.1
  have g29 : ∀ v, upd (X 29) 0 v 2 = Int32.ofNat n := fun v => (upd02 (r := X 29) (v := v)).trans hS.2.1
  rcases ev_dL (F := F) za1 with ⟨j, hj, hj10, e, q1, q2⟩ | ⟨q1, q2⟩
  · subst e
    have hh := ev_has (F := F) s3 hj
    have j1 : ¬ (Int32.ofNat j < 0 ∨ 21 ≤ (Int32.ofNat j).toNatClampNeg) := zn_ok hj (by omega)
    have j1' : ¬ (Int32.ofNat j < 0 ∨ 21 ≤ j) := by rw [zn_nat (show j < 2147483648 by omega)] at j1; exact j1
    by_cases c1 : X 30 j = 0
    · refine ⟨(0, 0, X 0, X 1, X 2), ?_, Or.inl rfl, Or.inl rfl, fun X2 h2 => ?_⟩
      · unfold m_X9_takeBack
        rw [q1, Option.bind_some, if_pos rfl, hh, Option.bind_some, if_pos c1]
      · have h2 : ∀ j, j ≠ 46 → X2 j = X j := fun j hj => (h2 j hj).trans (congrFun (same_012 X) j)
        rw [h2 29 (by decide), h2 30 (by decide)]
        refine ⟨(0, upd (X 29) 0 0, X 30), ?_, upd_at (X 29) 0 0, fun _ => rfl, Sta_keep hS h2 (g29 0) (by decide)⟩
        unfold m_X10_takeBack m_X10_passes
        rw [q2, Option.bind_some, if_neg zi_10, Option.bind_some, if_pos rfl, Option.bind_some, if_neg zi_10, lit_10' hj, if_pos j1, if_pos j1, zn_nat (show j < 2147483648 by omega), if_pos (Or.inl c1), upd_self c1, c1]
    · have c1' : X 30 j = 1 := (s3 j hj).2.1.resolve_left c1
      refine ⟨(0, 1, fgt (X 0), upd (X 1) 1 (X 1 1 - 1), upd (X 2) j 0), ?_, Or.inl rfl, Or.inr rfl, fun X2 h2 => ?_⟩
      · unfold m_X9_takeBack
        rw [q1, Option.bind_some, if_pos rfl, hh, Option.bind_some, if_neg c1, ev_drop s3 hj c1, Option.bind_some]
        rfl
      · have h29 : X2 29 = X 29 := h2 29 (by decide)
        have h30 : X2 30 = X 30 := h2 30 (by decide)
        rw [h29, h30]
        refine ⟨(1, upd (X 29) 0 0, upd (X 30) j 0), ?_, upd_at (X 29) 0 0, fun _ => rfl, Sta_fact (r0 := X 0) hS h2 (g29 0) (faR_upd s3 hj10 (Or.inl rfl)) ?_⟩
        · unfold m_X10_takeBack m_X10_passes
          rw [q2, Option.bind_some, if_neg zi_10, Option.bind_some, if_pos rfl, Option.bind_some, if_neg zi_10, lit_10' hj, if_pos j1, if_pos j1, zn_nat (show j < 2147483648 by omega), if_pos (Or.inr c1'), c1']
        · show upd (X 1) 1 (X 1 1 - 1) 1 = Int32.ofNat (nfc (upd (X 30) j 0) 21)
          rw [upd_at, s4, ← nfc_off c1 21 hj, ← zn_s, Int32.add_sub_cancel]
  · refine ⟨(1, 0, X 0, X 1, X 2), ?_, Or.inr rfl, Or.inl rfl, fun X2 h2 => ?_⟩
    · unfold m_X9_takeBack
      rw [q1, Option.bind_some, if_neg (by decide)]
    · have h2 : ∀ j, j ≠ 46 → X2 j = X j := fun j hj => (h2 j hj).trans (congrFun (same_012 X) j)
      rw [h2 29 (by decide), h2 30 (by decide)]
      refine ⟨(0, upd (X 29) 0 1, X 30), ?_, upd_at (X 29) 0 1, fun q => absurd (show (1 : Nat) = 0 from q) (by decide), Sta_keep hS h2 (g29 1) (by decide)⟩
      unfold m_X10_takeBack m_X10_passes
      rw [q2, Option.bind_some, if_pos rfl, Option.bind_some, if_neg zi_10, Option.bind_some, if_pos rfl]
theorem st_addRule {F n : Nat} {X : Nat → Nat → Int32} (hF : 20000 ≤ F) (hS : Sta F X n) (za1 : Int32) (za2 : Int32) (za3 : Int32) (za4 : Int32) (za5 : Int32) : ∃ R0, m_X9_addRule F (X 4) za1 za2 za3 za4 za5 = some R0 ∧ (R0.1 = 0 ∨ R0.1 = 1 ∨ R0.1 = 2) ∧ (R0.1 = 0 → n < 12) ∧ ∀ X2 : Nat → Nat → Int32, (R0.1 = 0 → ∀ j, j ≠ 46 → X2 j = (ruX X n za1 za2 za3 za4 za5) j) → (¬ R0.1 = 0 → ∀ j, j ≠ 46 → X2 j = X j) → ∃ R1, m_X10_addRule F (X2 29) (X2 31) (X2 32) (X2 33) (X2 34) (X2 35) za1 za2 za3 za4 za5 = some R1 ∧ ((up (up (up (up (up (up X2 29 R1.2.1) 31 R1.2.2.1) 32 R1.2.2.2.1) 33 R1.2.2.2.2.1) 34 R1.2.2.2.2.2.1) 35 R1.2.2.2.2.2.2) 29 0 = lkc R0.1 1) ∧ (R0.1 = 0 → R1.1 = R0.2) ∧ Sta F (up (up (up (up (up (up X2 29 R1.2.1) 31 R1.2.2.1) 32 R1.2.2.2.1) 33 R1.2.2.2.2.1) 34 R1.2.2.2.2.2.1) 35 R1.2.2.2.2.2.2) (if R0.1 = 0 then n + 1 else n) := by
  have g29 : ∀ v, upd (X 29) 0 v 2 = Int32.ofNat n := fun v => (upd02 (r := X 29) (v := v)).trans hS.2.1
  have hn12 : n ≤ 12 := hS.1.1
  have h42 : X 4 2 = Int32.ofNat n := hS.1.2.1
  have h292 : X 29 2 = Int32.ofNat n := hS.2.1
  obtain ⟨x, y, x1, y1, xy1, xy2⟩ := ev_shapeM (z2 := za2) (z3 := za3) (z4 := za4)
  have hbad : ∀ X2 : Nat → Nat → Int32, (∀ j, j ≠ 46 → X2 j = X j) → m_X10_addRule F (X 29) (X 31) (X 32) (X 33) (X 34) (X 35) za1 za2 za3 za4 za5 = some (0, upd (X 29) 0 1, X 31, X 32, X 33, X 34, X 35) → ∃ R1, m_X10_addRule F (X2 29) (X2 31) (X2 32) (X2 33) (X2 34) (X2 35) za1 za2 za3 za4 za5 = some R1 ∧ ((up (up (up (up (up (up X2 29 R1.2.1) 31 R1.2.2.1) 32 R1.2.2.2.1) 33 R1.2.2.2.2.1) 34 R1.2.2.2.2.2.1) 35 R1.2.2.2.2.2.2) 29 0 = lkc 1 1) ∧ ((1 : Nat) = 0 → R1.1 = 0) ∧ Sta F (up (up (up (up (up (up X2 29 R1.2.1) 31 R1.2.2.1) 32 R1.2.2.2.1) 33 R1.2.2.2.2.1) 34 R1.2.2.2.2.2.1) 35 R1.2.2.2.2.2.2) n := fun X2 h2 hm => by
    rw [h2 29 (by decide), h2 31 (by decide), h2 32 (by decide), h2 33 (by decide), h2 34 (by decide), h2 35 (by decide)]
    exact ⟨_, hm, upd_at (X 29) 0 1, fun q => absurd q (by decide), Sta_keep5 hS h2 (g29 1)⟩
  rcases ev_dL (F := F) za1 with ⟨j, hj, hj10, ej, q1, q2⟩ | ⟨q1, q2⟩
  · skip
    rcases ev_dLN (F := F) za2 with ⟨j2, hj2, ej2, q3, q4⟩ | ⟨q3, q4⟩
    · skip
      rcases ev_dLN (F := F) za3 with ⟨j3, hj3, ej3, q5, q6⟩ | ⟨q5, q6⟩
      · skip
        rcases ev_dLN (F := F) za4 with ⟨j4, hj4, ej4, q7, q8⟩ | ⟨q7, q8⟩
        · skip
          rcases ev_dP (F := F) za5 with ⟨p, hp, ep, q9, d1, d2, d3⟩ | ⟨q9, d1⟩
          · skip
            by_cases hs : shp3 za2 za3 za4
            · obtain ⟨hx, hy⟩ := xy1 hs
              by_cases hn : n < 12
              · have hnlt : Int32.ofNat n < 12 := (zn_lt (b := 12) (by omega) (by omega)).mpr hn
                have hne : ¬ Int32.ofNat n = 12 := fun q => by
                  have := (zn_eq (b := 12) (by omega) (by omega)).mp q
                  omega
                refine ⟨(0, X 4 2), ?_, Or.inl rfl, fun _ => hn, fun X2 h2 _ => ?_⟩
                · unfold m_X9_addRule
                  rw [q1, Option.bind_some, if_pos rfl, q3, Option.bind_some, if_pos rfl, q5, Option.bind_some, if_pos rfl, q7, Option.bind_some, if_pos rfl, q9, Option.bind_some, if_pos rfl]
                  refine (ev_shapeC.1 hs).trans ?_
                  rw [show m_X5_size F (X 4) = some (X 4 2) from rfl, Option.bind_some, h42, if_pos hnlt]
                · have h2 := h2 rfl
                  have hfar : ∀ k, 29 ≤ k → k ≤ 35 → X2 k = X k := fun k k1 k2 => by
                    rw [h2 k (by omega)]
                    exact (ruX_at (X := X) (n := n)).1 k (by omega) (by omega) (by
                      unfold kaOf
                      by_cases h : n + 1 ≤ 10
                      · rw [if_pos h]; omega
                      · rw [if_neg h]; omega) (by have := rid_ge n; omega)
                  rw [hfar 29 (by decide) (by decide), hfar 31 (by decide) (by decide), hfar 32 (by decide) (by decide), hfar 33 (by decide) (by decide), hfar 34 (by decide) (by decide), hfar 35 (by decide) (by decide)]
                  have e3 : (3 : Int32) = Int32.ofNat 3 := rfl
                  have e1 : 3 * Int32.ofNat n = Int32.ofNat (3 * n) := zn_mul 3 n
                  have e2 : Int32.ofNat (3 * n) + 2 = Int32.ofNat (3 * n + 2) := zn_add _ 2
                  have k1 : ¬ (Int32.ofNat n < 0 ∨ 12 ≤ (Int32.ofNat n).toNatClampNeg) := zn_ok hn (by omega)
                  have k2 : ¬ (Int32.ofNat (3 * n) < 0 ∨ 36 ≤ (Int32.ofNat (3 * n)).toNatClampNeg) := zn_ok (by omega) (by omega)
                  have k3 : ¬ (Int32.ofNat (3 * n + 1) < 0 ∨ 36 ≤ (Int32.ofNat (3 * n + 1)).toNatClampNeg) := zn_ok (by omega) (by omega)
                  have k4 : ¬ (Int32.ofNat (3 * n + 2) < 0 ∨ 36 ≤ (Int32.ofNat (3 * n + 2)).toNatClampNeg) := zn_ok (by omega) (by omega)
                  refine ⟨(Int32.ofNat n, upd (upd (X 29) 0 0) 2 (Int32.ofNat (n + 1)), upd (X 31) n za1, upd (upd (upd (X 32) (3 * n) za2) (3 * n + 1) za3) (3 * n + 2) za4, upd (X 33) n za5, upd (X 34) n 0, upd (X 35) n 1), ?_, ?_, fun _ => h42.symm, Sta_ruled hS hn hj hj10 ej hp ep h2 (upd_at (upd (X 29) 0 0) 2 (Int32.ofNat (n + 1)))⟩
                  · unfold m_X10_addRule m_X10_passes
                    rw [q2, Option.bind_some, if_neg zi_10, q4, Option.bind_some, if_neg zi_10, q6, Option.bind_some, if_neg zi_10, q8, Option.bind_some, if_neg zi_10, if_neg d1, if_neg d3, Option.bind_some, x1, Option.bind_some, y1, Option.bind_some, if_neg zi_10, if_neg hx, if_pos hy, h292, if_neg hne, Option.bind_some, if_pos rfl, Option.bind_some, if_neg zi_10]
                    show (if ¬ (upd (X 29) 0 0 2 < 0 ∨ 12 ≤ (upd (X 29) 0 0 2).toNatClampNeg) then _ else none) = _
                    simp only [g29 0, e1, zn_s, e2, if_pos k1, if_pos k2, if_pos k3, if_pos k4]
                    rw [zn_nat (show n < 2147483648 by omega), zn_nat (show 3 * n < 2147483648 by omega), zn_nat (show 3 * n + 1 < 2147483648 by omega), zn_nat (show 3 * n + 2 < 2147483648 by omega), ← zn_s n, Int32.add_sub_cancel]
                  · show upd (upd (X 29) 0 0) 2 (Int32.ofNat (n + 1)) 0 = lkc 0 1
                    rw [upd_ne (by decide), upd_at]
                    rfl
              · have hn' : n = 12 := by omega
                refine ⟨(2, 0), ?_, Or.inr (Or.inr rfl), fun q => absurd (show (2 : Nat) = 0 from q) (by decide), fun X2 _ h2 => ?_⟩
                · unfold m_X9_addRule
                  rw [q1, Option.bind_some, if_pos rfl, q3, Option.bind_some, if_pos rfl, q5, Option.bind_some, if_pos rfl, q7, Option.bind_some, if_pos rfl, q9, Option.bind_some, if_pos rfl]
                  refine (ev_shapeC.1 hs).trans ?_
                  rw [show m_X5_size F (X 4) = some (X 4 2) from rfl, Option.bind_some, h42, hn', if_neg (by decide)]
                · have h2 : ∀ j, j ≠ 46 → X2 j = X j := h2 (show ¬ (2 : Nat) = 0 by decide)
                  rw [h2 29 (by decide), h2 31 (by decide), h2 32 (by decide), h2 33 (by decide), h2 34 (by decide), h2 35 (by decide)]
                  refine ⟨(0, upd (X 29) 0 2, X 31, X 32, X 33, X 34, X 35), ?_, upd_at (X 29) 0 2, fun q => absurd (show (2 : Nat) = 0 from q) (by decide), Sta_keep5 hS h2 (g29 2)⟩
                  unfold m_X10_addRule m_X10_passes
                  rw [q2, Option.bind_some, if_neg zi_10, q4, Option.bind_some, if_neg zi_10, q6, Option.bind_some, if_neg zi_10, q8, Option.bind_some, if_neg zi_10, if_neg d1, if_neg d3, Option.bind_some, x1, Option.bind_some, y1, Option.bind_some, if_neg zi_10, if_neg hx, if_pos hy, h292, hn', if_pos (show Int32.ofNat 12 = 12 from rfl), Option.bind_some, if_neg (by decide), Option.bind_some, if_pos rfl]
            · refine ⟨(1, 0), ?_, Or.inr (Or.inl rfl), fun q => absurd (show (1 : Nat) = 0 from q) (by decide), fun X2 _ h2 => hbad X2 (h2 (show ¬ (1 : Nat) = 0 by decide)) ?_⟩
              · unfold m_X9_addRule
                rw [q1, Option.bind_some, if_pos rfl, q3, Option.bind_some, if_pos rfl, q5, Option.bind_some, if_pos rfl, q7, Option.bind_some, if_pos rfl, q9, Option.bind_some, if_pos rfl]
                exact ev_shapeC.2 hs
              · have hz : (if x = 0 then some (1 : Int32) else (if y = 0 then (if X 29 2 = 12 then some (2 : Int32) else some 0) else some 1)) = some 1 := by
                  by_cases hx : x = 0
                  · rw [if_pos hx]
                  · rw [if_neg hx, if_neg ((xy2 hs).resolve_left hx)]
                unfold m_X10_addRule m_X10_passes
                rw [q2, Option.bind_some, if_neg zi_10, q4, Option.bind_some, if_neg zi_10, q6, Option.bind_some, if_neg zi_10, q8, Option.bind_some, if_neg zi_10, if_neg d1, if_neg d3, Option.bind_some, x1, Option.bind_some, y1, Option.bind_some, if_neg zi_10, hz, Option.bind_some, if_neg zi_10, Option.bind_some, if_pos rfl]
          · refine ⟨(1, 0), ?_, Or.inr (Or.inl rfl), fun q => absurd (show (1 : Nat) = 0 from q) (by decide), fun X2 _ h2 => hbad X2 (h2 (show ¬ (1 : Nat) = 0 by decide)) ?_⟩
            · unfold m_X9_addRule
              rw [q1, Option.bind_some, if_pos rfl, q3, Option.bind_some, if_pos rfl, q5, Option.bind_some, if_pos rfl, q7, Option.bind_some, if_pos rfl, q9, Option.bind_some, if_neg (by decide)]
            · have hp5 : (if za5 < 0 then some (0 : Int32) else (if 9 < za5 then some (0 : Int32) else some 1)) = some 0 := by
                rcases d1 with d | ⟨d, -, d2⟩
                · rw [if_pos d]
                · rw [if_neg d, if_pos d2]
              unfold m_X10_addRule m_X10_passes
              rw [q2, Option.bind_some, if_neg zi_10, q4, Option.bind_some, if_neg zi_10, q6, Option.bind_some, if_neg zi_10, q8, Option.bind_some, if_neg zi_10, hp5, Option.bind_some, x1, Option.bind_some, y1, Option.bind_some, if_pos rfl, Option.bind_some, if_neg zi_10, Option.bind_some, if_pos rfl]
        · refine ⟨(1, 0), ?_, Or.inr (Or.inl rfl), fun q => absurd (show (1 : Nat) = 0 from q) (by decide), fun X2 _ h2 => hbad X2 (h2 (show ¬ (1 : Nat) = 0 by decide)) ?_⟩
          · unfold m_X9_addRule
            rw [q1, Option.bind_some, if_pos rfl, q3, Option.bind_some, if_pos rfl, q5, Option.bind_some, if_pos rfl, q7, Option.bind_some, if_neg (by decide)]
          · unfold m_X10_addRule m_X10_passes
            rw [q2, Option.bind_some, if_neg zi_10, q4, Option.bind_some, if_neg zi_10, q6, Option.bind_some, if_neg zi_10, q8, Option.bind_some, if_pos rfl, Option.bind_some, x1, Option.bind_some, y1, Option.bind_some, if_pos rfl, Option.bind_some, if_neg zi_10, Option.bind_some, if_pos rfl]
      · refine ⟨(1, 0), ?_, Or.inr (Or.inl rfl), fun q => absurd (show (1 : Nat) = 0 from q) (by decide), fun X2 _ h2 => hbad X2 (h2 (show ¬ (1 : Nat) = 0 by decide)) ?_⟩
        · unfold m_X9_addRule
          rw [q1, Option.bind_some, if_pos rfl, q3, Option.bind_some, if_pos rfl, q5, Option.bind_some, if_neg (by decide)]
        · unfold m_X10_addRule m_X10_passes
          rw [q2, Option.bind_some, if_neg zi_10, q4, Option.bind_some, if_neg zi_10, q6, Option.bind_some, if_pos rfl, Option.bind_some, x1, Option.bind_some, y1, Option.bind_some, if_pos rfl, Option.bind_some, if_neg zi_10, Option.bind_some, if_pos rfl]
    · refine ⟨(1, 0), ?_, Or.inr (Or.inl rfl), fun q => absurd (show (1 : Nat) = 0 from q) (by decide), fun X2 _ h2 => hbad X2 (h2 (show ¬ (1 : Nat) = 0 by decide)) ?_⟩
      · unfold m_X9_addRule
        rw [q1, Option.bind_some, if_pos rfl, q3, Option.bind_some, if_neg (by decide)]
      · unfold m_X10_addRule m_X10_passes
        rw [q2, Option.bind_some, if_neg zi_10, q4, Option.bind_some, if_pos rfl, Option.bind_some, x1, Option.bind_some, y1, Option.bind_some, if_pos rfl, Option.bind_some, if_neg zi_10, Option.bind_some, if_pos rfl]
  · refine ⟨(1, 0), ?_, Or.inr (Or.inl rfl), fun q => absurd (show (1 : Nat) = 0 from q) (by decide), fun X2 _ h2 => hbad X2 (h2 (show ¬ (1 : Nat) = 0 by decide)) ?_⟩
    · unfold m_X9_addRule
      rw [q1, Option.bind_some, if_neg (by decide)]
    · unfold m_X10_addRule m_X10_passes
      rw [q2, Option.bind_some, if_pos rfl, Option.bind_some, x1, Option.bind_some, y1, Option.bind_some, if_pos rfl, Option.bind_some, if_neg zi_10, Option.bind_some, if_pos rfl]
theorem st_setPriority {F n : Nat} {X : Nat → Nat → Int32} (hF : 20000 ≤ F) (hS : Sta F X n) (za1 : Int32) (za2 : Int32) : ∃ R0, m_X9_setPriority F (X 4) (X (aid (X 4 2) za1)) za1 za2 = some R0 ∧ (R0.1 = 0 ∨ R0.1 = 3 ∨ R0.1 = 1) ∧ ∀ X2 : Nat → Nat → Int32, (∀ j, j ≠ 46 → X2 j = (if R0.1 = 0 then up (up X (aid (X 4 2) za1) (upd (X (aid (X 4 2) za1)) 4 za2)) 0 (fgt (X 0)) else X) j) → ∃ R1, m_X10_setPriority F (X2 29) (X2 33) za1 za2 = some R1 ∧ ((up (up X2 29 R1.2.1) 33 R1.2.2) 29 0 = lkc R0.1 3) ∧ (R0.1 = 0 → R1.1 = R0.2) ∧ Sta F (up (up X2 29 R1.2.1) 33 R1.2.2) n := by
  have g29 : ∀ v, upd (X 29) 0 v 2 = Int32.ofNat n := fun v => (upd02 (r := X 29) (v := v)).trans hS.2.1
  have hn12 : n ≤ 12 := hS.1.1
  have hru := hS.2.2.2.2.1
  rcases ev_dR (F := F) hn12 hS.1.2.1 hS.2.1 za1 with ⟨i, hi, e, q1, q2⟩ | ⟨q1, q2⟩
  · have hi12 : i < 12 := by omega
    have i1 : ¬ (Int32.ofNat i < 0 ∨ 12 ≤ (Int32.ofNat i).toNatClampNeg) := zn_ok hi12 (by omega)
    obtain ⟨jh, eh, ph, g1, g2, g3, g4, g5, g6, g7, g8, g9, g10, g11, g12, g13, g14, g15⟩ := hru i hi
    subst e
    rcases ev_dP (F := F) za2 with ⟨p, hp, ep, d1, d2, d3, d4⟩ | ⟨d1, d2⟩
    · skip
      refine ⟨(0, X (aid (X 4 2) (Int32.ofNat i)) 4), ?_, Or.inl rfl, fun X2 h2 => ?_⟩
      · unfold m_X9_setPriority
        rw [q1, Option.bind_some, if_pos rfl, d1, Option.bind_some, if_pos rfl]
      · have h2' := h2
        have h2 : ∀ j, j ≠ 46 → X2 j = (up (up X (aid (X 4 2) (Int32.ofNat i)) (upd (X (aid (X 4 2) (Int32.ofNat i))) 4 za2)) 0 (fgt (X 0))) j := h2'
        have hfar : ∀ k, 29 ≤ k → k ≤ 35 → X2 k = X k := fun k k1 k2 => by
          rw [h2 k (by omega), up_ne (by omega), up_ne (by rcases aid_far (X 4 2) (Int32.ofNat i) with q | q <;> omega)]
        rw [hfar 29 (by decide) (by decide), hfar 33 (by decide) (by decide)]
        refine ⟨(X 33 i, upd (X 29) 0 0, upd (X 33) i za2), ?_, upd_at (X 29) 0 0, fun _ => g12.symm, ?_⟩
        · unfold m_X10_setPriority m_X10_passes
          rw [q2, Option.bind_some, if_neg zi_10, if_neg d2, if_pos d3, Option.bind_some, if_pos rfl, Option.bind_some, if_neg zi_10, if_pos i1, if_pos i1, zn_nat (show i < 2147483648 by omega)]
        · refine Sta_rule (r33' := upd (X 33) i za2) (r34' := X 34) (r35' := X 35) hS hi (by decide) h2 (g29 0) (fun hY => ruR_set hru hi (by decide) hY (fun ρ h => upd_ne h) (fun _ _ => rfl) (fun _ _ => rfl) (fun _ e' p' k1 k2 k3 k4 k5 k6 k7 k8 => ⟨e', p, k2, k1, hp, (upd_at _ _ _).trans ep, (upd_at _ _ _).trans (upd_at _ _ _).symm, (upd_ne (by decide)).trans k6, (upd_ne (by decide)).trans k7, k8⟩)) ?_ ?_ ?_
          · exact up_at _ _ _
          · rw [up_ne (by decide), up_ne (by decide)]; exact hfar 34 (by decide) (by decide)
          · rw [up_ne (by decide), up_ne (by decide)]; exact hfar 35 (by decide) (by decide)
    · have hm2 : (if za2 < 0 then some (2 : Int32) else if za2 ≤ 9 then some 0 else some 2) = some 2 := by
        rcases d2 with d | ⟨d, d', -⟩
        · rw [if_pos d]
        · rw [if_neg d, if_neg d']
      refine ⟨(1, 0), ?_, Or.inr (Or.inr rfl), fun X2 h2 => ?_⟩
      · unfold m_X9_setPriority
        rw [q1, Option.bind_some, if_pos rfl, d1, Option.bind_some, if_neg (by decide)]
      · have h2 : ∀ j, j ≠ 46 → X2 j = X j := h2
        rw [h2 29 (by decide), h2 33 (by decide)]
        refine ⟨(0, upd (X 29) 0 2, X 33), ?_, upd_at (X 29) 0 2, fun q => absurd (show (1 : Nat) = 0 from q) (by decide), Sta_keep hS h2 (g29 2) (by decide)⟩
        unfold m_X10_setPriority m_X10_passes
        rw [q2, Option.bind_some, if_neg zi_10, hm2, Option.bind_some, if_neg (by decide), Option.bind_some, if_pos rfl]
  · refine ⟨(3, 0), ?_, Or.inr (Or.inl rfl), fun X2 h2 => ?_⟩
    · unfold m_X9_setPriority
      rw [q1, Option.bind_some, if_neg (by decide)]
    · have h2 : ∀ j, j ≠ 46 → X2 j = X j := h2
      rw [h2 29 (by decide), h2 33 (by decide)]
      refine ⟨(0, upd (X 29) 0 1, X 33), ?_, upd_at (X 29) 0 1, fun q => absurd (show (3 : Nat) = 0 from q) (by decide), Sta_keep hS h2 (g29 1) (by decide)⟩
      unfold m_X10_setPriority m_X10_passes
      rw [q2, Option.bind_some, if_pos rfl, Option.bind_some, if_neg zi_10, Option.bind_some, if_pos rfl]
theorem st_setException {F n : Nat} {X : Nat → Nat → Int32} (hF : 20000 ≤ F) (hS : Sta F X n) (za1 : Int32) (za2 : Int32) : ∃ R0, m_X9_setException F (X 4) (X (aid (X 4 2) za1)) za1 za2 = some R0 ∧ (R0.1 = 0 ∨ R0.1 = 3 ∨ R0.1 = 1) ∧ ∀ X2 : Nat → Nat → Int32, (∀ j, j ≠ 46 → X2 j = (if R0.1 = 0 then up (up X (aid (X 4 2) za1) (upd (X (aid (X 4 2) za1)) 5 za2)) 0 (fgt (X 0)) else X) j) → ∃ R1, m_X10_setException F (X2 29) (X2 34) za1 za2 = some R1 ∧ ((up (up X2 29 R1.2.1) 34 R1.2.2) 29 0 = lkc R0.1 3) ∧ (R0.1 = 0 → R1.1 = R0.2) ∧ Sta F (up (up X2 29 R1.2.1) 34 R1.2.2) n := by
  have g29 : ∀ v, upd (X 29) 0 v 2 = Int32.ofNat n := fun v => (upd02 (r := X 29) (v := v)).trans hS.2.1
  have hn12 : n ≤ 12 := hS.1.1
  have hru := hS.2.2.2.2.1
  rcases ev_dR (F := F) hn12 hS.1.2.1 hS.2.1 za1 with ⟨i, hi, e, q1, q2⟩ | ⟨q1, q2⟩
  · have hi12 : i < 12 := by omega
    have i1 : ¬ (Int32.ofNat i < 0 ∨ 12 ≤ (Int32.ofNat i).toNatClampNeg) := zn_ok hi12 (by omega)
    obtain ⟨jh, eh, ph, g1, g2, g3, g4, g5, g6, g7, g8, g9, g10, g11, g12, g13, g14, g15⟩ := hru i hi
    subst e
    rcases ev_dLN (F := F) za2 with ⟨j, hj, ej, d1, d2⟩ | ⟨d1, d2⟩
    · skip
      refine ⟨(0, X (aid (X 4 2) (Int32.ofNat i)) 5), ?_, Or.inl rfl, fun X2 h2 => ?_⟩
      · unfold m_X9_setException
        rw [q1, Option.bind_some, if_pos rfl, d1, Option.bind_some, if_pos rfl]
      · have h2' := h2
        have h2 : ∀ j, j ≠ 46 → X2 j = (up (up X (aid (X 4 2) (Int32.ofNat i)) (upd (X (aid (X 4 2) (Int32.ofNat i))) 5 za2)) 0 (fgt (X 0))) j := h2'
        have hfar : ∀ k, 29 ≤ k → k ≤ 35 → X2 k = X k := fun k k1 k2 => by
          rw [h2 k (by omega), up_ne (by omega), up_ne (by rcases aid_far (X 4 2) (Int32.ofNat i) with q | q <;> omega)]
        rw [hfar 29 (by decide) (by decide), hfar 34 (by decide) (by decide)]
        refine ⟨(X 34 i, upd (X 29) 0 0, upd (X 34) i za2), ?_, upd_at (X 29) 0 0, fun _ => g13.symm, ?_⟩
        · unfold m_X10_setException m_X10_passes
          rw [q2, Option.bind_some, if_neg zi_10, d2, Option.bind_some, if_neg zi_10, Option.bind_some, if_pos rfl, Option.bind_some, if_neg zi_10, if_pos i1, if_pos i1, zn_nat (show i < 2147483648 by omega)]
        · refine Sta_rule (r33' := X 33) (r34' := upd (X 34) i za2) (r35' := X 35) hS hi (by decide) h2 (g29 0) (fun hY => ruR_set hru hi (by decide) hY (fun _ _ => rfl) (fun ρ h => upd_ne h) (fun _ _ => rfl) (fun _ e' p' k1 k2 k3 k4 k5 k6 k7 k8 => ⟨j, p', hj, (upd_at _ _ _).trans ej, k4, k3, (upd_ne (by decide)).trans k5, (upd_at _ _ _).trans (upd_at _ _ _).symm, (upd_ne (by decide)).trans k7, k8⟩)) ?_ ?_ ?_
          · rw [up_ne (by decide), up_ne (by decide)]; exact hfar 33 (by decide) (by decide)
          · exact up_at _ _ _
          · rw [up_ne (by decide), up_ne (by decide)]; exact hfar 35 (by decide) (by decide)
    · skip
      refine ⟨(1, 0), ?_, Or.inr (Or.inr rfl), fun X2 h2 => ?_⟩
      · unfold m_X9_setException
        rw [q1, Option.bind_some, if_pos rfl, d1, Option.bind_some, if_neg (by decide)]
      · have h2 : ∀ j, j ≠ 46 → X2 j = X j := h2
        rw [h2 29 (by decide), h2 34 (by decide)]
        refine ⟨(0, upd (X 29) 0 2, X 34), ?_, upd_at (X 29) 0 2, fun q => absurd (show (1 : Nat) = 0 from q) (by decide), Sta_keep hS h2 (g29 2) (by decide)⟩
        unfold m_X10_setException m_X10_passes
        rw [q2, Option.bind_some, if_neg zi_10, d2, Option.bind_some, if_pos rfl, Option.bind_some, if_neg (by decide), Option.bind_some, if_pos rfl]
  · refine ⟨(3, 0), ?_, Or.inr (Or.inl rfl), fun X2 h2 => ?_⟩
    · unfold m_X9_setException
      rw [q1, Option.bind_some, if_neg (by decide)]
    · have h2 : ∀ j, j ≠ 46 → X2 j = X j := h2
      rw [h2 29 (by decide), h2 34 (by decide)]
      refine ⟨(0, upd (X 29) 0 1, X 34), ?_, upd_at (X 29) 0 1, fun q => absurd (show (3 : Nat) = 0 from q) (by decide), Sta_keep hS h2 (g29 1) (by decide)⟩
      unfold m_X10_setException m_X10_passes
      rw [q2, Option.bind_some, if_pos rfl, Option.bind_some, if_neg zi_10, Option.bind_some, if_pos rfl]
theorem st_turn {F n : Nat} {X : Nat → Nat → Int32} (hF : 20000 ≤ F) (hS : Sta F X n) (za1 : Int32) (za2 : Int32) (hz2 : za2 = 0 ∨ za2 = 1) : ∃ R0, m_X9_turn F (X 4) (X (aid (X 4 2) za1)) za1 za2 = some R0 ∧ (R0.1 = 0 ∨ R0.1 = 3) ∧ (R0.2 = 0 ∨ R0.2 = 1) ∧ ∀ X2 : Nat → Nat → Int32, (∀ j, j ≠ 46 → X2 j = (if R0.1 = 0 then up (up X (aid (X 4 2) za1) (upd (X (aid (X 4 2) za1)) 6 za2)) 0 (fgt (X 0)) else X) j) → ∃ R1, m_X10_turn F (X2 29) (X2 35) za1 za2 = some R1 ∧ ((up (up X2 29 R1.2.1) 35 R1.2.2) 29 0 = lkc R0.1 3) ∧ (R0.1 = 0 → R1.1 = R0.2) ∧ Sta F (up (up X2 29 R1.2.1) 35 R1.2.2) n := by
  have g29 : ∀ v, upd (X 29) 0 v 2 = Int32.ofNat n := fun v => (upd02 (r := X 29) (v := v)).trans hS.2.1
  have hn12 : n ≤ 12 := hS.1.1
  have hru := hS.2.2.2.2.1
  rcases ev_dR (F := F) hn12 hS.1.2.1 hS.2.1 za1 with ⟨i, hi, e, q1, q2⟩ | ⟨q1, q2⟩
  · have hi12 : i < 12 := by omega
    have i1 : ¬ (Int32.ofNat i < 0 ∨ 12 ≤ (Int32.ofNat i).toNatClampNeg) := zn_ok hi12 (by omega)
    obtain ⟨jh, eh, ph, g1, g2, g3, g4, g5, g6, g7, g8, g9, g10, g11, g12, g13, g14, g15⟩ := hru i hi
    subst e
    have h6 : X (aid (X 4 2) (Int32.ofNat i)) 6 = 0 ∨ X (aid (X 4 2) (Int32.ofNat i)) 6 = 1 := by rw [g14]; exact g15
    refine ⟨(0, X (aid (X 4 2) (Int32.ofNat i)) 6), ?_, Or.inl rfl, h6, fun X2 h2 => ?_⟩
    · unfold m_X9_turn
      rw [q1, Option.bind_some, if_pos rfl, if_pos h6]
    · have h2' := h2
      have h2 : ∀ j, j ≠ 46 → X2 j = (up (up X (aid (X 4 2) (Int32.ofNat i)) (upd (X (aid (X 4 2) (Int32.ofNat i))) 6 za2)) 0 (fgt (X 0))) j := h2'
      have hfar : ∀ k, 29 ≤ k → k ≤ 35 → X2 k = X k := fun k k1 k2 => by
        rw [h2 k (by omega), up_ne (by omega), up_ne (by rcases aid_far (X 4 2) (Int32.ofNat i) with q | q <;> omega)]
      rw [hfar 29 (by decide) (by decide), hfar 35 (by decide) (by decide)]
      refine ⟨(X 35 i, upd (X 29) 0 0, upd (X 35) i za2), ?_, upd_at (X 29) 0 0, fun _ => g14.symm, ?_⟩
      · unfold m_X10_turn m_X10_passes
        rw [q2, Option.bind_some, if_neg zi_10, Option.bind_some, if_pos rfl, Option.bind_some, if_neg zi_10, if_pos i1, if_pos hz2, if_pos i1, zn_nat (show i < 2147483648 by omega), if_pos g15]
      · refine Sta_rule (r33' := X 33) (r34' := X 34) (r35' := upd (X 35) i za2) hS hi (by decide) h2 (g29 0) (fun hY => ruR_set hru hi (by decide) hY (fun _ _ => rfl) (fun _ _ => rfl) (fun ρ h => upd_ne h) (fun _ e' p' k1 k2 k3 k4 k5 k6 k7 k8 => ⟨e', p', k2, k1, k4, k3, (upd_ne (by decide)).trans k5, (upd_ne (by decide)).trans k6, (upd_at _ _ _).trans (upd_at _ _ _).symm, by rw [upd_at]; exact hz2⟩)) ?_ ?_ ?_
        · rw [up_ne (by decide), up_ne (by decide)]; exact hfar 33 (by decide) (by decide)
        · rw [up_ne (by decide), up_ne (by decide)]; exact hfar 34 (by decide) (by decide)
        · exact up_at _ _ _
  · refine ⟨(3, 0), ?_, Or.inr rfl, Or.inl rfl, fun X2 h2 => ?_⟩
    · unfold m_X9_turn
      rw [q1, Option.bind_some, if_neg (by decide)]
    · have h2 : ∀ j, j ≠ 46 → X2 j = X j := h2
      rw [h2 29 (by decide), h2 35 (by decide)]
      refine ⟨(0, upd (X 29) 0 1, X 35), ?_, upd_at (X 29) 0 1, fun q => absurd (show (3 : Nat) = 0 from q) (by decide), Sta_keep hS h2 (g29 1) (by decide)⟩
      unfold m_X10_turn m_X10_passes
      rw [q2, Option.bind_some, if_pos rfl, Option.bind_some, if_neg zi_10, Option.bind_some, if_pos rfl]
theorem st_facts {F n : Nat} {X : Nat → Nat → Int32} (hF : 20000 ≤ F) (hS : Sta F X n) : ∃ R0 R1, m_X9_facts F (X 1) = some R0 ∧ m_X10_facts F (X 29) (X 30) = some R1 ∧ R0 = R1.1 ∧ Sta F (up X 29 R1.2) n := by
  refine ⟨X 1 1, (Int32.ofNat (nfc (X 30) 21), upd (X 29) 0 0), rfl, ?_, hS.2.2.2.1, ?_⟩
  · unfold m_X10_facts
    rw [ev_factsNow hF, Option.bind_some]
  · exact Sta_ext (X := X) (fun j hj => by unfold idl at hj; exact up_ne (by omega)) (show upd (X 29) 0 0 2 = X 29 2 from upd02) hS
theorem st_rules {F n : Nat} {X : Nat → Nat → Int32} (hF : 20000 ≤ F) (hS : Sta F X n) : ∃ R0 R1, m_X9_rules F (X 4) = some R0 ∧ m_X10_rules F (X 29) = some R1 ∧ R0 = R1.1 ∧ Sta F (up X 29 R1.2) n := by
  refine ⟨X 4 2, (X 29 2, upd (X 29) 0 0), rfl, rfl, hS.1.2.1.trans hS.2.1.symm, ?_⟩
  exact Sta_ext (X := X) (fun j hj => by unfold idl at hj; exact up_ne (by omega)) (show upd (X 29) 0 0 2 = X 29 2 from upd02) hS
theorem st_arguments {F n : Nat} {X : Nat → Nat → Int32} (hF : 20000 ≤ F) (hS : Sta F X n) : ∃ R0, m_X9_arguments F X (X 0) (X 2) (X 4) (X 6) (X 7) (X 8) (X 9) (X 10) (X 11) (X 13) (X 14) (X 15) (X 16) (X 18) (X 19) (X 20) (X 22) (X 23) (X 24) = some R0 ∧ ∀ X2 : Nat → Nat → Int32, X2 = (up (up (up (up (up (up (up (up (up (up (up (up (up (up (up (up (up X 0 R0.2.1) 6 R0.2.2.1) 7 R0.2.2.2.1) 8 R0.2.2.2.2.1) 9 R0.2.2.2.2.2.1) 10 R0.2.2.2.2.2.2.1) 11 R0.2.2.2.2.2.2.2.1) 13 R0.2.2.2.2.2.2.2.2.1) 14 R0.2.2.2.2.2.2.2.2.2.1) 15 R0.2.2.2.2.2.2.2.2.2.2.1) 16 R0.2.2.2.2.2.2.2.2.2.2.2.1) 18 R0.2.2.2.2.2.2.2.2.2.2.2.2.1) 19 R0.2.2.2.2.2.2.2.2.2.2.2.2.2.1) 20 R0.2.2.2.2.2.2.2.2.2.2.2.2.2.2.1) 22 R0.2.2.2.2.2.2.2.2.2.2.2.2.2.2.2.1) 23 R0.2.2.2.2.2.2.2.2.2.2.2.2.2.2.2.2.1) 24 R0.2.2.2.2.2.2.2.2.2.2.2.2.2.2.2.2.2) → ∃ R1, m_X10_arguments F (X2 29) (X2 30) (X2 31) (X2 32) (X2 35) (X2 36) (X2 37) (X2 38) (X2 39) (X2 40) = some R1 ∧ R0.1 = R1.1 ∧ Sta F (up (up (up (up (up (up X2 29 R1.2.1) 36 R1.2.2.1) 37 R1.2.2.2.1) 38 R1.2.2.2.2.1) 39 R1.2.2.2.2.2.1) 40 R1.2.2.2.2.2.2) n := by
  obtain ⟨R, b1, b2, b3⟩ := built hF hS
  obtain ⟨m, hm, h5, h6', hlab, hall⟩ := mtold hF b2 b3
  have h5 : R.2.1 5 = Int32.ofNat m := h5
  refine ⟨((if R.2.1 6 = 0 then R.2.1 5 else -1), R), ?_, fun X2 h2 => ?_⟩
  · unfold m_X9_arguments
    rw [b1, Option.bind_some]
    by_cases h6 : R.2.1 6 = 0
    · rw [if_pos h6, if_pos h6]
    · rw [if_neg h6, if_neg h6]
  · have h2 : X2 = upB X R := h2
    subst h2
    have h29 : upd (upB X R 29) 0 0 2 = Int32.ofNat n := (upd02 (r := upB X R 29) (v := 0)).trans b2.2.1
    by_cases h6 : R.2.1 6 = 0
    · obtain ⟨t', q41, f1, f2, f3, f4, f5, f6⟩ := (hall (upd (upB X R 29) 0 0) (upB X R 36) (upB X R 37) (upB X R 38) (upB X R 39) (upB X R 40) (upB X R 41) h29).2 h6
      refine ⟨(t'.1 8, t'), ?_, ?_, Sta_f5 (fun j _ => rfl) b2 f5⟩
      · unfold m_X10_arguments
        rw [f1, Option.bind_some, if_pos f2]
      · show (if R.2.1 6 = 0 then R.2.1 5 else -1) = t'.1 8
        rw [if_pos h6, f4, h5]
    · obtain ⟨t', f1, f2, f3, f4, f40⟩ := (hall (upd (upB X R 29) 0 0) (upB X R 36) (upB X R 37) (upB X R 38) (upB X R 39) (upB X R 40) (upB X R 41) h29).1 h6
      refine ⟨(-1, t'), ?_, ?_, Sta_f5 (fun j _ => rfl) b2 f4⟩
      · unfold m_X10_arguments
        rw [f1, Option.bind_some, if_neg f2]
      · show (if R.2.1 6 = 0 then R.2.1 5 else -1) = -1
        rw [if_neg h6]
theorem st_conclusion {F n : Nat} {X : Nat → Nat → Int32} (hF : 20000 ≤ F) (hS : Sta F X n) (za1 : Int32) : ∃ R0, m_X9_conclusion F X (X 0) (X 2) (X 4) (X 6) (X 7) (X 8) (X 9) (X 10) (X 11) (X 13) (X 14) (X 15) (X 16) (X 18) (X 19) (X 20) (X 22) (X 23) (X 24) za1 = some R0 ∧ (R0.1 = 0 ∨ R0.1 = 2 ∨ R0.1 = 3) ∧ ∀ X2 : Nat → Nat → Int32, (∀ j, j ≠ 46 → X2 j = (up (up (up (up (up (up (up (up (up (up (up (up (up (up (up (up (up X 0 R0.2.2.1) 6 R0.2.2.2.1) 7 R0.2.2.2.2.1) 8 R0.2.2.2.2.2.1) 9 R0.2.2.2.2.2.2.1) 10 R0.2.2.2.2.2.2.2.1) 11 R0.2.2.2.2.2.2.2.2.1) 13 R0.2.2.2.2.2.2.2.2.2.1) 14 R0.2.2.2.2.2.2.2.2.2.2.1) 15 R0.2.2.2.2.2.2.2.2.2.2.2.1) 16 R0.2.2.2.2.2.2.2.2.2.2.2.2.1) 18 R0.2.2.2.2.2.2.2.2.2.2.2.2.2.1) 19 R0.2.2.2.2.2.2.2.2.2.2.2.2.2.2.1) 20 R0.2.2.2.2.2.2.2.2.2.2.2.2.2.2.2.1) 22 R0.2.2.2.2.2.2.2.2.2.2.2.2.2.2.2.2.1) 23 R0.2.2.2.2.2.2.2.2.2.2.2.2.2.2.2.2.2.1) 24 R0.2.2.2.2.2.2.2.2.2.2.2.2.2.2.2.2.2.2) j) → ∃ R1, m_X10_conclusion F (X2 29) (X2 30) (X2 31) (X2 32) (X2 33) (X2 34) (X2 35) (X2 36) (X2 37) (X2 38) (X2 39) (X2 40) (X2 41) za1 = some R1 ∧ ((up (up (up (up (up (up (up X2 29 R1.2.1) 36 R1.2.2.1) 37 R1.2.2.2.1) 38 R1.2.2.2.2.1) 39 R1.2.2.2.2.2.1) 40 R1.2.2.2.2.2.2.1) 41 R1.2.2.2.2.2.2.2) 29 0 = lkc R0.1 2) ∧ (R0.1 = 0 → R1.1 = R0.2.1) ∧ Sta F (up (up (up (up (up (up (up X2 29 R1.2.1) 36 R1.2.2.1) 37 R1.2.2.2.1) 38 R1.2.2.2.2.1) 39 R1.2.2.2.2.2.1) 40 R1.2.2.2.2.2.2.1) 41 R1.2.2.2.2.2.2.2) n := by
  obtain ⟨R, b1, b2, b3⟩ := built hF hS
  obtain ⟨m, hm, h5, h6', hlab, hall⟩ := misArg hF b2 b3
  have h5 : R.2.1 5 = Int32.ofNat m := h5
  by_cases h6 : R.2.1 6 = 0
  · by_cases ha : za1 < 0 ∨ Int32.ofNat m ≤ za1
    · refine ⟨(3, 0, R), ?_, Or.inr (Or.inr rfl), fun X2 h2 => ?_⟩
      · unfold m_X9_conclusion
        rw [(ev_demandTold b1).1 h6, Option.bind_some, if_pos rfl, (ev_demandArgument h5).1 ha, Option.bind_some, if_neg (show ¬ (3 : Nat) = 0 by decide)]
      · have h2 : ∀ j, j ≠ 46 → X2 j = upB X R j := h2
        obtain ⟨t', q41, f1, f2, f3, f4, f5, f6⟩ := (hall (upB X R 29) (upB X R 36) (upB X R 37) (upB X R 38) (upB X R 39) (upB X R 40) (upB X R 41) za1 b2.2.1).2 h6
        rw [h2 29 (by decide), h2 30 (by decide), h2 31 (by decide), h2 32 (by decide), h2 33 (by decide), h2 34 (by decide), h2 35 (by decide), h2 36 (by decide), h2 37 (by decide), h2 38 (by decide), h2 39 (by decide), h2 40 (by decide), h2 41 (by decide)]
        refine ⟨(0, upd t'.1 0 2, t'.2.1, t'.2.2.1, t'.2.2.2.1, t'.2.2.2.2.1, t'.2.2.2.2.2, q41), ?_, upd_at t'.1 0 2, fun q => absurd (show (3 : Nat) = 0 from q) (by decide), Sta_f7 h2 b2 ((upd02 (r := t'.1) (v := 2)).trans f2)⟩
        unfold m_X10_conclusion
        rw [f5 ha, Option.bind_some, if_pos rfl]
    · obtain ⟨i, hi, e⟩ := arg_of hm ha
      refine ⟨(0, R.2.2.1 i, R), ?_, Or.inl rfl, fun X2 h2 => ?_⟩
      · unfold m_X9_conclusion
        rw [(ev_demandTold b1).1 h6, Option.bind_some, if_pos rfl, (ev_demandArgument h5).2 ha, Option.bind_some, if_pos rfl, e, ev_conclusionAt (by omega), Option.bind_some]
      · have h2 : ∀ j, j ≠ 46 → X2 j = upB X R j := h2
        obtain ⟨t', q41, f1, f2, f3, f4, f5, f6⟩ := (hall (upB X R 29) (upB X R 36) (upB X R 37) (upB X R 38) (upB X R 39) (upB X R 40) (upB X R 41) za1 b2.2.1).2 h6
        rw [h2 29 (by decide), h2 30 (by decide), h2 31 (by decide), h2 32 (by decide), h2 33 (by decide), h2 34 (by decide), h2 35 (by decide), h2 36 (by decide), h2 37 (by decide), h2 38 (by decide), h2 39 (by decide), h2 40 (by decide), h2 41 (by decide)]

        refine ⟨(t'.2.1 i, upd t'.1 0 0, t'.2.1, t'.2.2.1, t'.2.2.2.1, t'.2.2.2.2.1, t'.2.2.2.2.2, q41), ?_, upd_at t'.1 0 0, fun _ => ((f3 i hi).1).symm, Sta_f7 h2 b2 ((upd02 (r := t'.1) (v := 0)).trans f2)⟩
        unfold m_X10_conclusion
        rw [f6 ha, Option.bind_some, if_neg zi_10, e, if_pos (zn_ok (by omega) (by omega)), zn_nat (by omega)]
  · refine ⟨(2, 0, R), ?_, Or.inr (Or.inl rfl), fun X2 h2 => ?_⟩
    · unfold m_X9_conclusion
      rw [(ev_demandTold b1).2 h6, Option.bind_some, if_neg (show ¬ (2 : Nat) = 0 by decide)]
    · have h2 : ∀ j, j ≠ 46 → X2 j = upB X R j := h2
      obtain ⟨t', f2, f1⟩ := (hall (upB X R 29) (upB X R 36) (upB X R 37) (upB X R 38) (upB X R 39) (upB X R 40) (upB X R 41) za1 b2.2.1).1 h6
      rw [h2 29 (by decide), h2 30 (by decide), h2 31 (by decide), h2 32 (by decide), h2 33 (by decide), h2 34 (by decide), h2 35 (by decide), h2 36 (by decide), h2 37 (by decide), h2 38 (by decide), h2 39 (by decide), h2 40 (by decide), h2 41 (by decide)]
      refine ⟨(0, upd t'.1 0 1, t'.2.1, t'.2.2.1, t'.2.2.2.1, t'.2.2.2.2.1, t'.2.2.2.2.2, upB X R 41), ?_, upd_at t'.1 0 1, fun q => absurd (show (2 : Nat) = 0 from q) (by decide), Sta_f7 h2 b2 ((upd02 (r := t'.1) (v := 1)).trans f2)⟩
      unfold m_X10_conclusion
      rw [f1, Option.bind_some, if_pos rfl]
theorem st_madeBy {F n : Nat} {X : Nat → Nat → Int32} (hF : 20000 ≤ F) (hS : Sta F X n) (za1 : Int32) : ∃ R0, m_X9_madeBy F X (X 0) (X 2) (X 4) (X 6) (X 7) (X 8) (X 9) (X 10) (X 11) (X 13) (X 14) (X 15) (X 16) (X 18) (X 19) (X 20) (X 22) (X 23) (X 24) za1 = some R0 ∧ (R0.1 = 0 ∨ R0.1 = 2 ∨ R0.1 = 3) ∧ ∀ X2 : Nat → Nat → Int32, (∀ j, j ≠ 46 → X2 j = (up (up (up (up (up (up (up (up (up (up (up (up (up (up (up (up (up X 0 R0.2.2.1) 6 R0.2.2.2.1) 7 R0.2.2.2.2.1) 8 R0.2.2.2.2.2.1) 9 R0.2.2.2.2.2.2.1) 10 R0.2.2.2.2.2.2.2.1) 11 R0.2.2.2.2.2.2.2.2.1) 13 R0.2.2.2.2.2.2.2.2.2.1) 14 R0.2.2.2.2.2.2.2.2.2.2.1) 15 R0.2.2.2.2.2.2.2.2.2.2.2.1) 16 R0.2.2.2.2.2.2.2.2.2.2.2.2.1) 18 R0.2.2.2.2.2.2.2.2.2.2.2.2.2.1) 19 R0.2.2.2.2.2.2.2.2.2.2.2.2.2.2.1) 20 R0.2.2.2.2.2.2.2.2.2.2.2.2.2.2.2.1) 22 R0.2.2.2.2.2.2.2.2.2.2.2.2.2.2.2.2.1) 23 R0.2.2.2.2.2.2.2.2.2.2.2.2.2.2.2.2.2.1) 24 R0.2.2.2.2.2.2.2.2.2.2.2.2.2.2.2.2.2.2) j) → ∃ R1, m_X10_madeBy F (X2 29) (X2 30) (X2 31) (X2 32) (X2 33) (X2 34) (X2 35) (X2 36) (X2 37) (X2 38) (X2 39) (X2 40) (X2 41) za1 = some R1 ∧ ((up (up (up (up (up (up (up X2 29 R1.2.1) 36 R1.2.2.1) 37 R1.2.2.2.1) 38 R1.2.2.2.2.1) 39 R1.2.2.2.2.2.1) 40 R1.2.2.2.2.2.2.1) 41 R1.2.2.2.2.2.2.2) 29 0 = lkc R0.1 2) ∧ (R0.1 = 0 → R1.1 = R0.2.1) ∧ Sta F (up (up (up (up (up (up (up X2 29 R1.2.1) 36 R1.2.2.1) 37 R1.2.2.2.1) 38 R1.2.2.2.2.1) 39 R1.2.2.2.2.2.1) 40 R1.2.2.2.2.2.2.1) 41 R1.2.2.2.2.2.2.2) n := by
  obtain ⟨R, b1, b2, b3⟩ := built hF hS
  obtain ⟨m, hm, h5, h6', hlab, hall⟩ := misArg hF b2 b3
  have h5 : R.2.1 5 = Int32.ofNat m := h5
  by_cases h6 : R.2.1 6 = 0
  · by_cases ha : za1 < 0 ∨ Int32.ofNat m ≤ za1
    · refine ⟨(3, 0, R), ?_, Or.inr (Or.inr rfl), fun X2 h2 => ?_⟩
      · unfold m_X9_madeBy
        rw [(ev_demandTold b1).1 h6, Option.bind_some, if_pos rfl, (ev_demandArgument h5).1 ha, Option.bind_some, if_neg (show ¬ (3 : Nat) = 0 by decide)]
      · have h2 : ∀ j, j ≠ 46 → X2 j = upB X R j := h2
        obtain ⟨t', q41, f1, f2, f3, f4, f5, f6⟩ := (hall (upB X R 29) (upB X R 36) (upB X R 37) (upB X R 38) (upB X R 39) (upB X R 40) (upB X R 41) za1 b2.2.1).2 h6
        rw [h2 29 (by decide), h2 30 (by decide), h2 31 (by decide), h2 32 (by decide), h2 33 (by decide), h2 34 (by decide), h2 35 (by decide), h2 36 (by decide), h2 37 (by decide), h2 38 (by decide), h2 39 (by decide), h2 40 (by decide), h2 41 (by decide)]
        refine ⟨(0, upd t'.1 0 2, t'.2.1, t'.2.2.1, t'.2.2.2.1, t'.2.2.2.2.1, t'.2.2.2.2.2, q41), ?_, upd_at t'.1 0 2, fun q => absurd (show (3 : Nat) = 0 from q) (by decide), Sta_f7 h2 b2 ((upd02 (r := t'.1) (v := 2)).trans f2)⟩
        unfold m_X10_madeBy
        rw [f5 ha, Option.bind_some, if_pos rfl]
    · obtain ⟨i, hi, e⟩ := arg_of hm ha
      refine ⟨(0, R.2.2.2.1 i, R), ?_, Or.inl rfl, fun X2 h2 => ?_⟩
      · unfold m_X9_madeBy
        rw [(ev_demandTold b1).1 h6, Option.bind_some, if_pos rfl, (ev_demandArgument h5).2 ha, Option.bind_some, if_pos rfl, e, ev_makerAt (by omega), Option.bind_some]
      · have h2 : ∀ j, j ≠ 46 → X2 j = upB X R j := h2
        obtain ⟨t', q41, f1, f2, f3, f4, f5, f6⟩ := (hall (upB X R 29) (upB X R 36) (upB X R 37) (upB X R 38) (upB X R 39) (upB X R 40) (upB X R 41) za1 b2.2.1).2 h6
        rw [h2 29 (by decide), h2 30 (by decide), h2 31 (by decide), h2 32 (by decide), h2 33 (by decide), h2 34 (by decide), h2 35 (by decide), h2 36 (by decide), h2 37 (by decide), h2 38 (by decide), h2 39 (by decide), h2 40 (by decide), h2 41 (by decide)]

        refine ⟨(t'.2.2.1 i, upd t'.1 0 0, t'.2.1, t'.2.2.1, t'.2.2.2.1, t'.2.2.2.2.1, t'.2.2.2.2.2, q41), ?_, upd_at t'.1 0 0, fun _ => ((f3 i hi).2.1).symm, Sta_f7 h2 b2 ((upd02 (r := t'.1) (v := 0)).trans f2)⟩
        unfold m_X10_madeBy
        rw [f6 ha, Option.bind_some, if_neg zi_10, e, if_pos (zn_ok (by omega) (by omega)), zn_nat (by omega)]
  · refine ⟨(2, 0, R), ?_, Or.inr (Or.inl rfl), fun X2 h2 => ?_⟩
    · unfold m_X9_madeBy
      rw [(ev_demandTold b1).2 h6, Option.bind_some, if_neg (show ¬ (2 : Nat) = 0 by decide)]
    · have h2 : ∀ j, j ≠ 46 → X2 j = upB X R j := h2
      obtain ⟨t', f2, f1⟩ := (hall (upB X R 29) (upB X R 36) (upB X R 37) (upB X R 38) (upB X R 39) (upB X R 40) (upB X R 41) za1 b2.2.1).1 h6
      rw [h2 29 (by decide), h2 30 (by decide), h2 31 (by decide), h2 32 (by decide), h2 33 (by decide), h2 34 (by decide), h2 35 (by decide), h2 36 (by decide), h2 37 (by decide), h2 38 (by decide), h2 39 (by decide), h2 40 (by decide), h2 41 (by decide)]
      refine ⟨(0, upd t'.1 0 1, t'.2.1, t'.2.2.1, t'.2.2.2.1, t'.2.2.2.2.1, t'.2.2.2.2.2, upB X R 41), ?_, upd_at t'.1 0 1, fun q => absurd (show (2 : Nat) = 0 from q) (by decide), Sta_f7 h2 b2 ((upd02 (r := t'.1) (v := 1)).trans f2)⟩
      unfold m_X10_madeBy
      rw [f1, Option.bind_some, if_pos rfl]
theorem st_part {F n : Nat} {X : Nat → Nat → Int32} (hF : 20000 ≤ F) (hS : Sta F X n) (za1 : Int32) (za2 : Int32) : ∃ R0, m_X9_part F X (X 0) (X 2) (X 4) (X 6) (X 7) (X 8) (X 9) (X 10) (X 11) (X 13) (X 14) (X 15) (X 16) (X 18) (X 19) (X 20) (X 22) (X 23) (X 24) za1 za2 = some R0 ∧ (R0.1 = 0 ∨ R0.1 = 2 ∨ R0.1 = 3) ∧ ∀ X2 : Nat → Nat → Int32, (∀ j, j ≠ 46 → X2 j = (up (up (up (up (up (up (up (up (up (up (up (up (up (up (up (up (up X 0 R0.2.2.1) 6 R0.2.2.2.1) 7 R0.2.2.2.2.1) 8 R0.2.2.2.2.2.1) 9 R0.2.2.2.2.2.2.1) 10 R0.2.2.2.2.2.2.2.1) 11 R0.2.2.2.2.2.2.2.2.1) 13 R0.2.2.2.2.2.2.2.2.2.1) 14 R0.2.2.2.2.2.2.2.2.2.2.1) 15 R0.2.2.2.2.2.2.2.2.2.2.2.1) 16 R0.2.2.2.2.2.2.2.2.2.2.2.2.1) 18 R0.2.2.2.2.2.2.2.2.2.2.2.2.2.1) 19 R0.2.2.2.2.2.2.2.2.2.2.2.2.2.2.1) 20 R0.2.2.2.2.2.2.2.2.2.2.2.2.2.2.2.1) 22 R0.2.2.2.2.2.2.2.2.2.2.2.2.2.2.2.2.1) 23 R0.2.2.2.2.2.2.2.2.2.2.2.2.2.2.2.2.2.1) 24 R0.2.2.2.2.2.2.2.2.2.2.2.2.2.2.2.2.2.2) j) → ∃ R1, m_X10_part F (X2 29) (X2 30) (X2 31) (X2 32) (X2 33) (X2 34) (X2 35) (X2 36) (X2 37) (X2 38) (X2 39) (X2 40) (X2 41) za1 za2 = some R1 ∧ ((up (up (up (up (up (up (up X2 29 R1.2.1) 36 R1.2.2.1) 37 R1.2.2.2.1) 38 R1.2.2.2.2.1) 39 R1.2.2.2.2.2.1) 40 R1.2.2.2.2.2.2.1) 41 R1.2.2.2.2.2.2.2) 29 0 = lkc R0.1 2) ∧ (R0.1 = 0 → R1.1 = R0.2.1) ∧ Sta F (up (up (up (up (up (up (up X2 29 R1.2.1) 36 R1.2.2.1) 37 R1.2.2.2.1) 38 R1.2.2.2.2.1) 39 R1.2.2.2.2.2.1) 40 R1.2.2.2.2.2.2.1) 41 R1.2.2.2.2.2.2.2) n := by
  obtain ⟨R, b1, b2, b3⟩ := built hF hS
  obtain ⟨m, hm, h5, h6', hlab, hall⟩ := misArg hF b2 b3
  have h5 : R.2.1 5 = Int32.ofNat m := h5
  by_cases h6 : R.2.1 6 = 0
  · by_cases ha : za1 < 0 ∨ Int32.ofNat m ≤ za1
    · refine ⟨(3, 0, R), ?_, Or.inr (Or.inr rfl), fun X2 h2 => ?_⟩
      · unfold m_X9_part
        rw [(ev_demandTold b1).1 h6, Option.bind_some, if_pos rfl, (ev_demandArgument h5).1 ha, Option.bind_some, if_neg (show ¬ (3 : Nat) = 0 by decide)]
      · have h2 : ∀ j, j ≠ 46 → X2 j = upB X R j := h2
        obtain ⟨t', q41, f1, f2, f3, f4, f5, f6⟩ := (hall (upB X R 29) (upB X R 36) (upB X R 37) (upB X R 38) (upB X R 39) (upB X R 40) (upB X R 41) za1 b2.2.1).2 h6
        rw [h2 29 (by decide), h2 30 (by decide), h2 31 (by decide), h2 32 (by decide), h2 33 (by decide), h2 34 (by decide), h2 35 (by decide), h2 36 (by decide), h2 37 (by decide), h2 38 (by decide), h2 39 (by decide), h2 40 (by decide), h2 41 (by decide)]
        refine ⟨(0, upd t'.1 0 2, t'.2.1, t'.2.2.1, t'.2.2.2.1, t'.2.2.2.2.1, t'.2.2.2.2.2, q41), ?_, upd_at t'.1 0 2, fun q => absurd (show (3 : Nat) = 0 from q) (by decide), Sta_f7 h2 b2 ((upd02 (r := t'.1) (v := 2)).trans f2)⟩
        unfold m_X10_part
        rw [f5 ha, Option.bind_some, if_pos rfl]
    · obtain ⟨i, hi, e⟩ := arg_of hm ha
      obtain ⟨v, v1, v2⟩ := ev_parts2 (F := F) (r := R.2.2.2.2.2.1) (z := za2) (show i < 24 by omega)
      by_cases hv : v = -1
      · refine ⟨(3, 0, R), ?_, Or.inr (Or.inr rfl), fun X2 h2 => ?_⟩
        · unfold m_X9_part
          rw [(ev_demandTold b1).1 h6, Option.bind_some, if_pos rfl, (ev_demandArgument h5).2 ha, Option.bind_some, if_pos rfl, e, v1, Option.bind_some, if_pos hv]
        · have h2 : ∀ j, j ≠ 46 → X2 j = upB X R j := h2
          obtain ⟨t', q41, f1, f2, f3, f4, f5, f6⟩ := (hall (upB X R 29) (upB X R 36) (upB X R 37) (upB X R 38) (upB X R 39) (upB X R 40) (upB X R 41) za1 b2.2.1).2 h6
          rw [h2 29 (by decide), h2 30 (by decide), h2 31 (by decide), h2 32 (by decide), h2 33 (by decide), h2 34 (by decide), h2 35 (by decide), h2 36 (by decide), h2 37 (by decide), h2 38 (by decide), h2 39 (by decide), h2 40 (by decide), h2 41 (by decide)]
          refine ⟨(0, upd (upd t'.1 0 0) 0 2, t'.2.1, t'.2.2.1, t'.2.2.2.1, t'.2.2.2.2.1, t'.2.2.2.2.2, q41), ?_, upd_at (upd t'.1 0 0) 0 2, fun q => absurd (show (3 : Nat) = 0 from q) (by decide), Sta_f7 h2 b2 ((upd02 (r := upd t'.1 0 0) (v := 2)).trans ((upd02 (r := t'.1) (v := 0)).trans f2))⟩
          unfold m_X10_part m_X10_passes
          rw [f6 ha, Option.bind_some, if_neg zi_10, e, v2 _ (f3 i hi).2.2.2, Option.bind_some, if_pos hv, Option.bind_some, if_neg (by decide), Option.bind_some, if_pos rfl]
      · refine ⟨(0, v, R), ?_, Or.inl rfl, fun X2 h2 => ?_⟩
        · unfold m_X9_part
          rw [(ev_demandTold b1).1 h6, Option.bind_some, if_pos rfl, (ev_demandArgument h5).2 ha, Option.bind_some, if_pos rfl, e, v1, Option.bind_some, if_neg hv]
        · have h2 : ∀ j, j ≠ 46 → X2 j = upB X R j := h2
          obtain ⟨t', q41, f1, f2, f3, f4, f5, f6⟩ := (hall (upB X R 29) (upB X R 36) (upB X R 37) (upB X R 38) (upB X R 39) (upB X R 40) (upB X R 41) za1 b2.2.1).2 h6
          rw [h2 29 (by decide), h2 30 (by decide), h2 31 (by decide), h2 32 (by decide), h2 33 (by decide), h2 34 (by decide), h2 35 (by decide), h2 36 (by decide), h2 37 (by decide), h2 38 (by decide), h2 39 (by decide), h2 40 (by decide), h2 41 (by decide)]
          refine ⟨(v, upd (upd t'.1 0 0) 0 0, t'.2.1, t'.2.2.1, t'.2.2.2.1, t'.2.2.2.2.1, t'.2.2.2.2.2, q41), ?_, upd_at (upd t'.1 0 0) 0 0, fun _ => rfl, Sta_f7 h2 b2 ((upd02 (r := upd t'.1 0 0) (v := 0)).trans ((upd02 (r := t'.1) (v := 0)).trans f2))⟩
          unfold m_X10_part m_X10_passes
          rw [f6 ha, Option.bind_some, if_neg zi_10, e, v2 _ (f3 i hi).2.2.2, Option.bind_some, if_neg hv, Option.bind_some, if_pos rfl, Option.bind_some, if_neg zi_10]
  · refine ⟨(2, 0, R), ?_, Or.inr (Or.inl rfl), fun X2 h2 => ?_⟩
    · unfold m_X9_part
      rw [(ev_demandTold b1).2 h6, Option.bind_some, if_neg (show ¬ (2 : Nat) = 0 by decide)]
    · have h2 : ∀ j, j ≠ 46 → X2 j = upB X R j := h2
      obtain ⟨t', f2, f1⟩ := (hall (upB X R 29) (upB X R 36) (upB X R 37) (upB X R 38) (upB X R 39) (upB X R 40) (upB X R 41) za1 b2.2.1).1 h6
      rw [h2 29 (by decide), h2 30 (by decide), h2 31 (by decide), h2 32 (by decide), h2 33 (by decide), h2 34 (by decide), h2 35 (by decide), h2 36 (by decide), h2 37 (by decide), h2 38 (by decide), h2 39 (by decide), h2 40 (by decide), h2 41 (by decide)]
      refine ⟨(0, upd t'.1 0 1, t'.2.1, t'.2.2.1, t'.2.2.2.1, t'.2.2.2.2.1, t'.2.2.2.2.2, upB X R 41), ?_, upd_at t'.1 0 1, fun q => absurd (show (2 : Nat) = 0 from q) (by decide), Sta_f7 h2 b2 ((upd02 (r := t'.1) (v := 1)).trans f2)⟩
      unfold m_X10_part
      rw [f1, Option.bind_some, if_pos rfl]
theorem st_depth {F n : Nat} {X : Nat → Nat → Int32} (hF : 20000 ≤ F) (hS : Sta F X n) (za1 : Int32) : ∃ R0, m_X9_depth F X (X 0) (X 2) (X 4) (X 6) (X 7) (X 8) (X 9) (X 10) (X 11) (X 13) (X 14) (X 15) (X 16) (X 18) (X 19) (X 20) (X 22) (X 23) (X 24) za1 = some R0 ∧ (R0.1 = 0 ∨ R0.1 = 2 ∨ R0.1 = 3) ∧ ∀ X2 : Nat → Nat → Int32, (∀ j, j ≠ 46 → X2 j = (up (up (up (up (up (up (up (up (up (up (up (up (up (up (up (up (up X 0 R0.2.2.1) 6 R0.2.2.2.1) 7 R0.2.2.2.2.1) 8 R0.2.2.2.2.2.1) 9 R0.2.2.2.2.2.2.1) 10 R0.2.2.2.2.2.2.2.1) 11 R0.2.2.2.2.2.2.2.2.1) 13 R0.2.2.2.2.2.2.2.2.2.1) 14 R0.2.2.2.2.2.2.2.2.2.2.1) 15 R0.2.2.2.2.2.2.2.2.2.2.2.1) 16 R0.2.2.2.2.2.2.2.2.2.2.2.2.1) 18 R0.2.2.2.2.2.2.2.2.2.2.2.2.2.1) 19 R0.2.2.2.2.2.2.2.2.2.2.2.2.2.2.1) 20 R0.2.2.2.2.2.2.2.2.2.2.2.2.2.2.2.1) 22 R0.2.2.2.2.2.2.2.2.2.2.2.2.2.2.2.2.1) 23 R0.2.2.2.2.2.2.2.2.2.2.2.2.2.2.2.2.2.1) 24 R0.2.2.2.2.2.2.2.2.2.2.2.2.2.2.2.2.2.2) j) → ∃ R1, m_X10_depth F (X2 29) (X2 30) (X2 31) (X2 32) (X2 33) (X2 34) (X2 35) (X2 36) (X2 37) (X2 38) (X2 39) (X2 40) (X2 41) za1 = some R1 ∧ ((up (up (up (up (up (up (up X2 29 R1.2.1) 36 R1.2.2.1) 37 R1.2.2.2.1) 38 R1.2.2.2.2.1) 39 R1.2.2.2.2.2.1) 40 R1.2.2.2.2.2.2.1) 41 R1.2.2.2.2.2.2.2) 29 0 = lkc R0.1 2) ∧ (R0.1 = 0 → R1.1 = R0.2.1) ∧ Sta F (up (up (up (up (up (up (up X2 29 R1.2.1) 36 R1.2.2.1) 37 R1.2.2.2.1) 38 R1.2.2.2.2.1) 39 R1.2.2.2.2.2.1) 40 R1.2.2.2.2.2.2.1) 41 R1.2.2.2.2.2.2.2) n := by
  obtain ⟨R, b1, b2, b3⟩ := built hF hS
  obtain ⟨m, hm, h5, h6', hlab, hall⟩ := misArg hF b2 b3
  have h5 : R.2.1 5 = Int32.ofNat m := h5
  by_cases h6 : R.2.1 6 = 0
  · by_cases ha : za1 < 0 ∨ Int32.ofNat m ≤ za1
    · refine ⟨(3, 0, R), ?_, Or.inr (Or.inr rfl), fun X2 h2 => ?_⟩
      · unfold m_X9_depth
        rw [(ev_demandTold b1).1 h6, Option.bind_some, if_pos rfl, (ev_demandArgument h5).1 ha, Option.bind_some, if_neg (show ¬ (3 : Nat) = 0 by decide)]
      · have h2 : ∀ j, j ≠ 46 → X2 j = upB X R j := h2
        obtain ⟨t', q41, f1, f2, f3, f4, f5, f6⟩ := (hall (upB X R 29) (upB X R 36) (upB X R 37) (upB X R 38) (upB X R 39) (upB X R 40) (upB X R 41) za1 b2.2.1).2 h6
        rw [h2 29 (by decide), h2 30 (by decide), h2 31 (by decide), h2 32 (by decide), h2 33 (by decide), h2 34 (by decide), h2 35 (by decide), h2 36 (by decide), h2 37 (by decide), h2 38 (by decide), h2 39 (by decide), h2 40 (by decide), h2 41 (by decide)]
        refine ⟨(0, upd t'.1 0 2, t'.2.1, t'.2.2.1, t'.2.2.2.1, t'.2.2.2.2.1, t'.2.2.2.2.2, q41), ?_, upd_at t'.1 0 2, fun q => absurd (show (3 : Nat) = 0 from q) (by decide), Sta_f7 h2 b2 ((upd02 (r := t'.1) (v := 2)).trans f2)⟩
        unfold m_X10_depth
        rw [f5 ha, Option.bind_some, if_pos rfl]
    · obtain ⟨i, hi, e⟩ := arg_of hm ha
      refine ⟨(0, R.2.2.2.2.1 i, R), ?_, Or.inl rfl, fun X2 h2 => ?_⟩
      · unfold m_X9_depth
        rw [(ev_demandTold b1).1 h6, Option.bind_some, if_pos rfl, (ev_demandArgument h5).2 ha, Option.bind_some, if_pos rfl, e, ev_depthAt (by omega), Option.bind_some]
      · have h2 : ∀ j, j ≠ 46 → X2 j = upB X R j := h2
        obtain ⟨t', q41, f1, f2, f3, f4, f5, f6⟩ := (hall (upB X R 29) (upB X R 36) (upB X R 37) (upB X R 38) (upB X R 39) (upB X R 40) (upB X R 41) za1 b2.2.1).2 h6
        rw [h2 29 (by decide), h2 30 (by decide), h2 31 (by decide), h2 32 (by decide), h2 33 (by decide), h2 34 (by decide), h2 35 (by decide), h2 36 (by decide), h2 37 (by decide), h2 38 (by decide), h2 39 (by decide), h2 40 (by decide), h2 41 (by decide)]

        refine ⟨(t'.2.2.2.2.1 i, upd t'.1 0 0, t'.2.1, t'.2.2.1, t'.2.2.2.1, t'.2.2.2.2.1, t'.2.2.2.2.2, q41), ?_, upd_at t'.1 0 0, fun _ => ((f3 i hi).2.2.1).symm, Sta_f7 h2 b2 ((upd02 (r := t'.1) (v := 0)).trans f2)⟩
        unfold m_X10_depth
        rw [f6 ha, Option.bind_some, if_neg zi_10, e, if_pos (zn_ok (by omega) (by omega)), zn_nat (by omega)]
  · refine ⟨(2, 0, R), ?_, Or.inr (Or.inl rfl), fun X2 h2 => ?_⟩
    · unfold m_X9_depth
      rw [(ev_demandTold b1).2 h6, Option.bind_some, if_neg (show ¬ (2 : Nat) = 0 by decide)]
    · have h2 : ∀ j, j ≠ 46 → X2 j = upB X R j := h2
      obtain ⟨t', f2, f1⟩ := (hall (upB X R 29) (upB X R 36) (upB X R 37) (upB X R 38) (upB X R 39) (upB X R 40) (upB X R 41) za1 b2.2.1).1 h6
      rw [h2 29 (by decide), h2 30 (by decide), h2 31 (by decide), h2 32 (by decide), h2 33 (by decide), h2 34 (by decide), h2 35 (by decide), h2 36 (by decide), h2 37 (by decide), h2 38 (by decide), h2 39 (by decide), h2 40 (by decide), h2 41 (by decide)]
      refine ⟨(0, upd t'.1 0 1, t'.2.1, t'.2.2.1, t'.2.2.2.1, t'.2.2.2.2.1, t'.2.2.2.2.2, upB X R 41), ?_, upd_at t'.1 0 1, fun q => absurd (show (2 : Nat) = 0 from q) (by decide), Sta_f7 h2 b2 ((upd02 (r := t'.1) (v := 1)).trans f2)⟩
      unfold m_X10_depth
      rw [f1, Option.bind_some, if_pos rfl]
theorem st_attacks {F n : Nat} {X : Nat → Nat → Int32} (hF : 20000 ≤ F) (hS : Sta F X n) (za1 : Int32) (za2 : Int32) : ∃ R0, m_X9_attacks F X (X 0) (X 2) (X 4) (X 6) (X 7) (X 8) (X 9) (X 10) (X 11) (X 13) (X 14) (X 15) (X 16) (X 18) (X 19) (X 20) (X 22) (X 23) (X 24) za1 za2 = some R0 ∧ (R0.1 = 0 ∨ R0.1 = 2 ∨ R0.1 = 3) ∧ (R0.2.1 = 0 ∨ R0.2.1 = 1) ∧ ∀ X2 : Nat → Nat → Int32, (∀ j, j ≠ 46 → X2 j = (up (up (up (up (up (up (up (up (up (up (up (up (up (up (up (up (up X 0 R0.2.2.1) 6 R0.2.2.2.1) 7 R0.2.2.2.2.1) 8 R0.2.2.2.2.2.1) 9 R0.2.2.2.2.2.2.1) 10 R0.2.2.2.2.2.2.2.1) 11 R0.2.2.2.2.2.2.2.2.1) 13 R0.2.2.2.2.2.2.2.2.2.1) 14 R0.2.2.2.2.2.2.2.2.2.2.1) 15 R0.2.2.2.2.2.2.2.2.2.2.2.1) 16 R0.2.2.2.2.2.2.2.2.2.2.2.2.1) 18 R0.2.2.2.2.2.2.2.2.2.2.2.2.2.1) 19 R0.2.2.2.2.2.2.2.2.2.2.2.2.2.2.1) 20 R0.2.2.2.2.2.2.2.2.2.2.2.2.2.2.2.1) 22 R0.2.2.2.2.2.2.2.2.2.2.2.2.2.2.2.2.1) 23 R0.2.2.2.2.2.2.2.2.2.2.2.2.2.2.2.2.2.1) 24 R0.2.2.2.2.2.2.2.2.2.2.2.2.2.2.2.2.2.2) j) → ∃ R1, m_X10_attacks F (X2 29) (X2 30) (X2 31) (X2 32) (X2 33) (X2 34) (X2 35) (X2 36) (X2 37) (X2 38) (X2 39) (X2 40) (X2 41) za1 za2 = some R1 ∧ ((up (up (up (up (up (up (up X2 29 R1.2.1) 36 R1.2.2.1) 37 R1.2.2.2.1) 38 R1.2.2.2.2.1) 39 R1.2.2.2.2.2.1) 40 R1.2.2.2.2.2.2.1) 41 R1.2.2.2.2.2.2.2) 29 0 = lkc R0.1 2) ∧ (R0.1 = 0 → R1.1 = R0.2.1) ∧ Sta F (up (up (up (up (up (up (up X2 29 R1.2.1) 36 R1.2.2.1) 37 R1.2.2.2.1) 38 R1.2.2.2.2.1) 39 R1.2.2.2.2.2.1) 40 R1.2.2.2.2.2.2.1) 41 R1.2.2.2.2.2.2.2) n := by
  obtain ⟨R, b1, b2, b3⟩ := built hF hS
  obtain ⟨m, hm, h5, h6', hlab, hall⟩ := misArg hF b2 b3
  have h5 : R.2.1 5 = Int32.ofNat m := h5
  by_cases h6 : R.2.1 6 = 0
  · by_cases ha : za1 < 0 ∨ Int32.ofNat m ≤ za1
    · refine ⟨(3, 0, R), ?_, Or.inr (Or.inr rfl), Or.inl rfl, fun X2 h2 => ?_⟩
      · unfold m_X9_attacks
        rw [(ev_demandTold b1).1 h6, Option.bind_some, if_pos rfl, (ev_demandArgument h5).1 ha, Option.bind_some, if_neg (show ¬ (3 : Nat) = 0 by decide)]
      · have h2 : ∀ j, j ≠ 46 → X2 j = upB X R j := h2
        obtain ⟨t', q41, f1, f2, f3, f4, f5, f6⟩ := (hall (upB X R 29) (upB X R 36) (upB X R 37) (upB X R 38) (upB X R 39) (upB X R 40) (upB X R 41) za1 b2.2.1).2 h6
        rw [h2 29 (by decide), h2 30 (by decide), h2 31 (by decide), h2 32 (by decide), h2 33 (by decide), h2 34 (by decide), h2 35 (by decide), h2 36 (by decide), h2 37 (by decide), h2 38 (by decide), h2 39 (by decide), h2 40 (by decide), h2 41 (by decide)]
        refine ⟨(0, upd t'.1 0 2, t'.2.1, t'.2.2.1, t'.2.2.2.1, t'.2.2.2.2.1, t'.2.2.2.2.2, q41), ?_, upd_at t'.1 0 2, fun q => absurd (show (3 : Nat) = 0 from q) (by decide), Sta_f7 h2 b2 ((upd02 (r := t'.1) (v := 2)).trans f2)⟩
        unfold m_X10_attacks
        rw [f5 ha, Option.bind_some, if_pos rfl]
    · by_cases ha2 : za2 < 0 ∨ Int32.ofNat m ≤ za2
      · refine ⟨(3, 0, R), ?_, Or.inr (Or.inr rfl), Or.inl rfl, fun X2 h2 => ?_⟩
        · unfold m_X9_attacks
          rw [(ev_demandTold b1).1 h6, Option.bind_some, if_pos rfl, (ev_demandArgument h5).2 ha, Option.bind_some, if_pos rfl, (ev_demandArgument h5).1 ha2, Option.bind_some, if_neg (show ¬ (3 : Nat) = 0 by decide)]
        · have h2 : ∀ j, j ≠ 46 → X2 j = upB X R j := h2
          obtain ⟨t', q41, f1, f2, f3, f4, f5, f6⟩ := (hall (upB X R 29) (upB X R 36) (upB X R 37) (upB X R 38) (upB X R 39) (upB X R 40) (upB X R 41) za1 b2.2.1).2 h6
          obtain ⟨t2', q412, d1, d2, d3, d4, d5, d6⟩ := (hall (upd t'.1 0 0) t'.2.1 t'.2.2.1 t'.2.2.2.1 t'.2.2.2.2.1 t'.2.2.2.2.2 q41 za2 ((upd02 (r := t'.1) (v := 0)).trans f2)).2 h6
          rw [h2 29 (by decide), h2 30 (by decide), h2 31 (by decide), h2 32 (by decide), h2 33 (by decide), h2 34 (by decide), h2 35 (by decide), h2 36 (by decide), h2 37 (by decide), h2 38 (by decide), h2 39 (by decide), h2 40 (by decide), h2 41 (by decide)]
          refine ⟨(0, upd t2'.1 0 2, t2'.2.1, t2'.2.2.1, t2'.2.2.2.1, t2'.2.2.2.2.1, t2'.2.2.2.2.2, q412), ?_, upd_at t2'.1 0 2, fun q => absurd (show (3 : Nat) = 0 from q) (by decide), Sta_f7 h2 b2 ((upd02 (r := t2'.1) (v := 2)).trans d2)⟩
          unfold m_X10_attacks
          rw [f6 ha, Option.bind_some, if_neg zi_10, d5 ha2, Option.bind_some, if_pos rfl]
      · obtain ⟨i, hi, e⟩ := arg_of hm ha
        obtain ⟨k, hk, e2⟩ := arg_of hm ha2
        refine ⟨(0, (if tb (R.2.2.2.2.2.2.2.1 k) i = true then 1 else 0), R), ?_, Or.inl rfl, ?_, fun X2 h2 => ?_⟩
        · unfold m_X9_attacks
          rw [(ev_demandTold b1).1 h6, Option.bind_some, if_pos rfl, (ev_demandArgument h5).2 ha, Option.bind_some, if_pos rfl, (ev_demandArgument h5).2 ha2, Option.bind_some, if_pos rfl, e, e2, ev_leads (by omega) (by omega), Option.bind_some, if_pos]
          by_cases hb : tb (R.2.2.2.2.2.2.2.1 k) i = true
          · rw [if_pos hb]; exact Or.inr rfl
          · rw [if_neg hb]; exact Or.inl rfl
        · show (if tb (R.2.2.2.2.2.2.2.1 k) i = true then (1 : Int32) else 0) = 0 ∨ (if tb (R.2.2.2.2.2.2.2.1 k) i = true then (1 : Int32) else 0) = 1
          by_cases hb : tb (R.2.2.2.2.2.2.2.1 k) i = true
          · rw [if_pos hb]; exact Or.inr rfl
          · rw [if_neg hb]; exact Or.inl rfl
        · have h2 : ∀ j, j ≠ 46 → X2 j = upB X R j := h2
          obtain ⟨t', q41, f1, f2, f3, f4, f5, f6⟩ := (hall (upB X R 29) (upB X R 36) (upB X R 37) (upB X R 38) (upB X R 39) (upB X R 40) (upB X R 41) za1 b2.2.1).2 h6
          obtain ⟨t2', q412, d1, d2, d3, d4, d5, d6⟩ := (hall (upd t'.1 0 0) t'.2.1 t'.2.2.1 t'.2.2.2.1 t'.2.2.2.2.1 t'.2.2.2.2.2 q41 za2 ((upd02 (r := t'.1) (v := 0)).trans f2)).2 h6
          rw [h2 29 (by decide), h2 30 (by decide), h2 31 (by decide), h2 32 (by decide), h2 33 (by decide), h2 34 (by decide), h2 35 (by decide), h2 36 (by decide), h2 37 (by decide), h2 38 (by decide), h2 39 (by decide), h2 40 (by decide), h2 41 (by decide)]
          have hq : R.2.2.2.2.2.2.2.1 k = q412 k := d4 k hk
          refine ⟨((if tb (R.2.2.2.2.2.2.2.1 k) i = true then 1 else 0), upd t2'.1 0 0, t2'.2.1, t2'.2.2.1, t2'.2.2.2.1, t2'.2.2.2.2.1, t2'.2.2.2.2.2, q412), ?_, upd_at t2'.1 0 0, fun _ => rfl, Sta_f7 h2 b2 ((upd02 (r := t2'.1) (v := 0)).trans d2)⟩
          unfold m_X10_attacks
          rw [f6 ha, Option.bind_some, if_neg zi_10, d6 ha2, Option.bind_some, if_neg zi_10, e, e2, if_pos (zn_ok (by omega) (by omega)), zn_nat (by omega), hq]
          by_cases hb : tb (q412 k) i = true
          · rw [if_pos hb, if_pos ((bit_1 _ (by omega)).mpr hb)]
          · rw [if_neg hb, if_neg (fun w => hb ((bit_1 _ (by omega)).mp w))]
  · refine ⟨(2, 0, R), ?_, Or.inr (Or.inl rfl), Or.inl rfl, fun X2 h2 => ?_⟩
    · unfold m_X9_attacks
      rw [(ev_demandTold b1).2 h6, Option.bind_some, if_neg (show ¬ (2 : Nat) = 0 by decide)]
    · have h2 : ∀ j, j ≠ 46 → X2 j = upB X R j := h2
      obtain ⟨t', f2, f1⟩ := (hall (upB X R 29) (upB X R 36) (upB X R 37) (upB X R 38) (upB X R 39) (upB X R 40) (upB X R 41) za1 b2.2.1).1 h6
      rw [h2 29 (by decide), h2 30 (by decide), h2 31 (by decide), h2 32 (by decide), h2 33 (by decide), h2 34 (by decide), h2 35 (by decide), h2 36 (by decide), h2 37 (by decide), h2 38 (by decide), h2 39 (by decide), h2 40 (by decide), h2 41 (by decide)]
      refine ⟨(0, upd t'.1 0 1, t'.2.1, t'.2.2.1, t'.2.2.2.1, t'.2.2.2.2.1, t'.2.2.2.2.2, upB X R 41), ?_, upd_at t'.1 0 1, fun q => absurd (show (2 : Nat) = 0 from q) (by decide), Sta_f7 h2 b2 ((upd02 (r := t'.1) (v := 1)).trans f2)⟩
      unfold m_X10_attacks
      rw [f1, Option.bind_some, if_pos rfl]
theorem st_label {F n : Nat} {X : Nat → Nat → Int32} (hF : 20000 ≤ F) (hS : Sta F X n) (za1 : Int32) : ∃ R0, m_X9_label F X (X 0) (X 2) (X 4) (X 6) (X 7) (X 8) (X 9) (X 10) (X 11) (X 13) (X 14) (X 15) (X 16) (X 18) (X 19) (X 20) (X 22) (X 23) (X 24) za1 = some R0 ∧ (R0.1 = 0 ∨ R0.1 = 2 ∨ R0.1 = 3) ∧ ∀ X2 : Nat → Nat → Int32, (∀ j, j ≠ 46 → X2 j = (up (up (up (up (up (up (up (up (up (up (up (up (up (up (up (up (up X 0 R0.2.2.1) 6 R0.2.2.2.1) 7 R0.2.2.2.2.1) 8 R0.2.2.2.2.2.1) 9 R0.2.2.2.2.2.2.1) 10 R0.2.2.2.2.2.2.2.1) 11 R0.2.2.2.2.2.2.2.2.1) 13 R0.2.2.2.2.2.2.2.2.2.1) 14 R0.2.2.2.2.2.2.2.2.2.2.1) 15 R0.2.2.2.2.2.2.2.2.2.2.2.1) 16 R0.2.2.2.2.2.2.2.2.2.2.2.2.1) 18 R0.2.2.2.2.2.2.2.2.2.2.2.2.2.1) 19 R0.2.2.2.2.2.2.2.2.2.2.2.2.2.2.1) 20 R0.2.2.2.2.2.2.2.2.2.2.2.2.2.2.2.1) 22 R0.2.2.2.2.2.2.2.2.2.2.2.2.2.2.2.2.1) 23 R0.2.2.2.2.2.2.2.2.2.2.2.2.2.2.2.2.2.1) 24 R0.2.2.2.2.2.2.2.2.2.2.2.2.2.2.2.2.2.2) j) → ∃ R1, m_X10_label F (X2 29) (X2 30) (X2 31) (X2 32) (X2 33) (X2 34) (X2 35) (X2 36) (X2 37) (X2 38) (X2 39) (X2 40) (X2 41) (X2 42) (X2 43) za1 = some R1 ∧ ((up (up (up (up (up (up (up (up (up X2 29 R1.2.1) 36 R1.2.2.1) 37 R1.2.2.2.1) 38 R1.2.2.2.2.1) 39 R1.2.2.2.2.2.1) 40 R1.2.2.2.2.2.2.1) 41 R1.2.2.2.2.2.2.2.1) 42 R1.2.2.2.2.2.2.2.2.1) 43 R1.2.2.2.2.2.2.2.2.2) 29 0 = lkc R0.1 2) ∧ (R0.1 = 0 → R1.1 = R0.2.1) ∧ Sta F (up (up (up (up (up (up (up (up (up X2 29 R1.2.1) 36 R1.2.2.1) 37 R1.2.2.2.1) 38 R1.2.2.2.2.1) 39 R1.2.2.2.2.2.1) 40 R1.2.2.2.2.2.2.1) 41 R1.2.2.2.2.2.2.2.1) 42 R1.2.2.2.2.2.2.2.2.1) 43 R1.2.2.2.2.2.2.2.2.2) n := by
  obtain ⟨R, b1, b2, b3⟩ := built hF hS
  obtain ⟨m, hm, h5, h6', hlab, hall⟩ := misArg hF b2 b3
  have h5 : R.2.1 5 = Int32.ofNat m := h5
  by_cases h6 : R.2.1 6 = 0
  · by_cases ha : za1 < 0 ∨ Int32.ofNat m ≤ za1
    · refine ⟨(3, 0, R), ?_, Or.inr (Or.inr rfl), fun X2 h2 => ?_⟩
      · unfold m_X9_label
        rw [(ev_demandTold b1).1 h6, Option.bind_some, if_pos rfl, (ev_demandArgument h5).1 ha, Option.bind_some, if_neg (show ¬ (3 : Nat) = 0 by decide)]
      · have h2 : ∀ j, j ≠ 46 → X2 j = upB X R j := h2
        obtain ⟨t', q41, f1, f2, f3, f4, f5, f6⟩ := (hall (upB X R 29) (upB X R 36) (upB X R 37) (upB X R 38) (upB X R 39) (upB X R 40) (upB X R 41) za1 b2.2.1).2 h6
        rw [h2 29 (by decide), h2 30 (by decide), h2 31 (by decide), h2 32 (by decide), h2 33 (by decide), h2 34 (by decide), h2 35 (by decide), h2 36 (by decide), h2 37 (by decide), h2 38 (by decide), h2 39 (by decide), h2 40 (by decide), h2 41 (by decide), h2 42 (by decide), h2 43 (by decide)]
        refine ⟨(0, upd t'.1 0 2, t'.2.1, t'.2.2.1, t'.2.2.2.1, t'.2.2.2.2.1, t'.2.2.2.2.2, q41, upB X R 42, upB X R 43), ?_, upd_at t'.1 0 2, fun q => absurd (show (3 : Nat) = 0 from q) (by decide), Sta_f9 h2 b2 ((upd02 (r := t'.1) (v := 2)).trans f2)⟩
        unfold m_X10_label
        rw [f5 ha, Option.bind_some, if_pos rfl]
    · obtain ⟨i, hi, e⟩ := arg_of hm ha
      refine ⟨(0, labF (R.2.2.2.2.2.2.2.2.1 1) (R.2.2.2.2.2.2.2.2.1 2) i, R), ?_, Or.inl rfl, fun X2 h2 => ?_⟩
      · unfold m_X9_label
        rw [(ev_demandTold b1).1 h6, Option.bind_some, if_pos rfl, (ev_demandArgument h5).2 ha, Option.bind_some, if_pos rfl, e, ev_labelAt (by omega), Option.bind_some]
        rfl
      · have h2 : ∀ j, j ≠ 46 → X2 j = upB X R j := h2
        obtain ⟨t', q41, f1, f2, f3, f4, f5, f6⟩ := (hall (upB X R 29) (upB X R 36) (upB X R 37) (upB X R 38) (upB X R 39) (upB X R 40) (upB X R 41) za1 b2.2.1).2 h6
        rw [h2 29 (by decide), h2 30 (by decide), h2 31 (by decide), h2 32 (by decide), h2 33 (by decide), h2 34 (by decide), h2 35 (by decide), h2 36 (by decide), h2 37 (by decide), h2 38 (by decide), h2 39 (by decide), h2 40 (by decide), h2 41 (by decide), h2 42 (by decide), h2 43 (by decide)]
        obtain ⟨q42, q43, g1, g2⟩ := (hlab h6).1 (upd t'.1 0 0) q41 (upB X R 42) (upB X R 43) ((upd08 (r := t'.1) (v := 0)).trans f1) f4
        refine ⟨(q42 i, upd t'.1 0 0, t'.2.1, t'.2.2.1, t'.2.2.2.1, t'.2.2.2.2.1, t'.2.2.2.2.2, q41, q42, q43), ?_, upd_at t'.1 0 0, fun _ => (g2.2.2.2 i hi).1, Sta_f9 h2 b2 ((upd02 (r := t'.1) (v := 0)).trans f2)⟩
        unfold m_X10_label
        rw [f6 ha, Option.bind_some, if_neg zi_10, g1, Option.bind_some, e, if_pos (zn_ok (by omega) (by omega)), zn_nat (by omega)]
  · refine ⟨(2, 0, R), ?_, Or.inr (Or.inl rfl), fun X2 h2 => ?_⟩
    · unfold m_X9_label
      rw [(ev_demandTold b1).2 h6, Option.bind_some, if_neg (show ¬ (2 : Nat) = 0 by decide)]
    · have h2 : ∀ j, j ≠ 46 → X2 j = upB X R j := h2
      obtain ⟨t', f2, f1⟩ := (hall (upB X R 29) (upB X R 36) (upB X R 37) (upB X R 38) (upB X R 39) (upB X R 40) (upB X R 41) za1 b2.2.1).1 h6
      rw [h2 29 (by decide), h2 30 (by decide), h2 31 (by decide), h2 32 (by decide), h2 33 (by decide), h2 34 (by decide), h2 35 (by decide), h2 36 (by decide), h2 37 (by decide), h2 38 (by decide), h2 39 (by decide), h2 40 (by decide), h2 41 (by decide), h2 42 (by decide), h2 43 (by decide)]
      refine ⟨(0, upd t'.1 0 1, t'.2.1, t'.2.2.1, t'.2.2.2.1, t'.2.2.2.2.1, t'.2.2.2.2.2, upB X R 41, upB X R 42, upB X R 43), ?_, upd_at t'.1 0 1, fun q => absurd (show (2 : Nat) = 0 from q) (by decide), Sta_f9 h2 b2 ((upd02 (r := t'.1) (v := 1)).trans f2)⟩
      unfold m_X10_label
      rw [f1, Option.bind_some, if_pos rfl]
theorem st_round {F n : Nat} {X : Nat → Nat → Int32} (hF : 20000 ≤ F) (hS : Sta F X n) (za1 : Int32) : ∃ R0, m_X9_round F X (X 0) (X 2) (X 4) (X 6) (X 7) (X 8) (X 9) (X 10) (X 11) (X 13) (X 14) (X 15) (X 16) (X 18) (X 19) (X 20) (X 22) (X 23) (X 24) za1 = some R0 ∧ (R0.1 = 0 ∨ R0.1 = 2 ∨ R0.1 = 3) ∧ ∀ X2 : Nat → Nat → Int32, (∀ j, j ≠ 46 → X2 j = (up (up (up (up (up (up (up (up (up (up (up (up (up (up (up (up (up X 0 R0.2.2.1) 6 R0.2.2.2.1) 7 R0.2.2.2.2.1) 8 R0.2.2.2.2.2.1) 9 R0.2.2.2.2.2.2.1) 10 R0.2.2.2.2.2.2.2.1) 11 R0.2.2.2.2.2.2.2.2.1) 13 R0.2.2.2.2.2.2.2.2.2.1) 14 R0.2.2.2.2.2.2.2.2.2.2.1) 15 R0.2.2.2.2.2.2.2.2.2.2.2.1) 16 R0.2.2.2.2.2.2.2.2.2.2.2.2.1) 18 R0.2.2.2.2.2.2.2.2.2.2.2.2.2.1) 19 R0.2.2.2.2.2.2.2.2.2.2.2.2.2.2.1) 20 R0.2.2.2.2.2.2.2.2.2.2.2.2.2.2.2.1) 22 R0.2.2.2.2.2.2.2.2.2.2.2.2.2.2.2.2.1) 23 R0.2.2.2.2.2.2.2.2.2.2.2.2.2.2.2.2.2.1) 24 R0.2.2.2.2.2.2.2.2.2.2.2.2.2.2.2.2.2.2) j) → ∃ R1, m_X10_round F (X2 29) (X2 30) (X2 31) (X2 32) (X2 33) (X2 34) (X2 35) (X2 36) (X2 37) (X2 38) (X2 39) (X2 40) (X2 41) (X2 42) (X2 43) za1 = some R1 ∧ ((up (up (up (up (up (up (up (up (up X2 29 R1.2.1) 36 R1.2.2.1) 37 R1.2.2.2.1) 38 R1.2.2.2.2.1) 39 R1.2.2.2.2.2.1) 40 R1.2.2.2.2.2.2.1) 41 R1.2.2.2.2.2.2.2.1) 42 R1.2.2.2.2.2.2.2.2.1) 43 R1.2.2.2.2.2.2.2.2.2) 29 0 = lkc R0.1 2) ∧ (R0.1 = 0 → R1.1 = R0.2.1) ∧ Sta F (up (up (up (up (up (up (up (up (up X2 29 R1.2.1) 36 R1.2.2.1) 37 R1.2.2.2.1) 38 R1.2.2.2.2.1) 39 R1.2.2.2.2.2.1) 40 R1.2.2.2.2.2.2.1) 41 R1.2.2.2.2.2.2.2.1) 42 R1.2.2.2.2.2.2.2.2.1) 43 R1.2.2.2.2.2.2.2.2.2) n := by
  obtain ⟨R, b1, b2, b3⟩ := built hF hS
  obtain ⟨m, hm, h5, h6', hlab, hall⟩ := misArg hF b2 b3
  have h5 : R.2.1 5 = Int32.ofNat m := h5
  by_cases h6 : R.2.1 6 = 0
  · by_cases ha : za1 < 0 ∨ Int32.ofNat m ≤ za1
    · refine ⟨(3, 0, R), ?_, Or.inr (Or.inr rfl), fun X2 h2 => ?_⟩
      · unfold m_X9_round
        rw [(ev_demandTold b1).1 h6, Option.bind_some, if_pos rfl, (ev_demandArgument h5).1 ha, Option.bind_some, if_neg (show ¬ (3 : Nat) = 0 by decide)]
      · have h2 : ∀ j, j ≠ 46 → X2 j = upB X R j := h2
        obtain ⟨t', q41, f1, f2, f3, f4, f5, f6⟩ := (hall (upB X R 29) (upB X R 36) (upB X R 37) (upB X R 38) (upB X R 39) (upB X R 40) (upB X R 41) za1 b2.2.1).2 h6
        rw [h2 29 (by decide), h2 30 (by decide), h2 31 (by decide), h2 32 (by decide), h2 33 (by decide), h2 34 (by decide), h2 35 (by decide), h2 36 (by decide), h2 37 (by decide), h2 38 (by decide), h2 39 (by decide), h2 40 (by decide), h2 41 (by decide), h2 42 (by decide), h2 43 (by decide)]
        refine ⟨(0, upd t'.1 0 2, t'.2.1, t'.2.2.1, t'.2.2.2.1, t'.2.2.2.2.1, t'.2.2.2.2.2, q41, upB X R 42, upB X R 43), ?_, upd_at t'.1 0 2, fun q => absurd (show (3 : Nat) = 0 from q) (by decide), Sta_f9 h2 b2 ((upd02 (r := t'.1) (v := 2)).trans f2)⟩
        unfold m_X10_round
        rw [f5 ha, Option.bind_some, if_pos rfl]
    · obtain ⟨i, hi, e⟩ := arg_of hm ha
      refine ⟨(0, R.2.2.2.2.2.2.2.2.2.1 i, R), ?_, Or.inl rfl, fun X2 h2 => ?_⟩
      · unfold m_X9_round
        rw [(ev_demandTold b1).1 h6, Option.bind_some, if_pos rfl, (ev_demandArgument h5).2 ha, Option.bind_some, if_pos rfl, e, ev_roundAt (by omega), Option.bind_some]
      · have h2 : ∀ j, j ≠ 46 → X2 j = upB X R j := h2
        obtain ⟨t', q41, f1, f2, f3, f4, f5, f6⟩ := (hall (upB X R 29) (upB X R 36) (upB X R 37) (upB X R 38) (upB X R 39) (upB X R 40) (upB X R 41) za1 b2.2.1).2 h6
        rw [h2 29 (by decide), h2 30 (by decide), h2 31 (by decide), h2 32 (by decide), h2 33 (by decide), h2 34 (by decide), h2 35 (by decide), h2 36 (by decide), h2 37 (by decide), h2 38 (by decide), h2 39 (by decide), h2 40 (by decide), h2 41 (by decide), h2 42 (by decide), h2 43 (by decide)]
        obtain ⟨q42, q43, g1, g2⟩ := (hlab h6).1 (upd t'.1 0 0) q41 (upB X R 42) (upB X R 43) ((upd08 (r := t'.1) (v := 0)).trans f1) f4
        refine ⟨(q43 i, upd t'.1 0 0, t'.2.1, t'.2.2.1, t'.2.2.2.1, t'.2.2.2.2.1, t'.2.2.2.2.2, q41, q42, q43), ?_, upd_at t'.1 0 0, fun _ => (g2.2.2.2 i hi).2, Sta_f9 h2 b2 ((upd02 (r := t'.1) (v := 0)).trans f2)⟩
        unfold m_X10_round
        rw [f6 ha, Option.bind_some, if_neg zi_10, g1, Option.bind_some, e, if_pos (zn_ok (by omega) (by omega)), zn_nat (by omega)]
  · refine ⟨(2, 0, R), ?_, Or.inr (Or.inl rfl), fun X2 h2 => ?_⟩
    · unfold m_X9_round
      rw [(ev_demandTold b1).2 h6, Option.bind_some, if_neg (show ¬ (2 : Nat) = 0 by decide)]
    · have h2 : ∀ j, j ≠ 46 → X2 j = upB X R j := h2
      obtain ⟨t', f2, f1⟩ := (hall (upB X R 29) (upB X R 36) (upB X R 37) (upB X R 38) (upB X R 39) (upB X R 40) (upB X R 41) za1 b2.2.1).1 h6
      rw [h2 29 (by decide), h2 30 (by decide), h2 31 (by decide), h2 32 (by decide), h2 33 (by decide), h2 34 (by decide), h2 35 (by decide), h2 36 (by decide), h2 37 (by decide), h2 38 (by decide), h2 39 (by decide), h2 40 (by decide), h2 41 (by decide), h2 42 (by decide), h2 43 (by decide)]
      refine ⟨(0, upd t'.1 0 1, t'.2.1, t'.2.2.1, t'.2.2.2.1, t'.2.2.2.2.1, t'.2.2.2.2.2, upB X R 41, upB X R 42, upB X R 43), ?_, upd_at t'.1 0 1, fun q => absurd (show (2 : Nat) = 0 from q) (by decide), Sta_f9 h2 b2 ((upd02 (r := t'.1) (v := 1)).trans f2)⟩
      unfold m_X10_round
      rw [f1, Option.bind_some, if_pos rfl]
theorem st_holds {F n : Nat} {X : Nat → Nat → Int32} (hF : 20000 ≤ F) (hS : Sta F X n) (za1 : Int32) : ∃ R0, m_X9_holds F X (X 0) (X 2) (X 4) (X 6) (X 7) (X 8) (X 9) (X 10) (X 11) (X 13) (X 14) (X 15) (X 16) (X 18) (X 19) (X 20) (X 22) (X 23) (X 24) za1 = some R0 ∧ (R0.1 = 0 ∨ R0.1 = 1 ∨ R0.1 = 2) ∧ ∀ X2 : Nat → Nat → Int32, (∀ j, j ≠ 46 → X2 j = (up (up (up (up (up (up (up (up (up (up (up (up (up (up (up (up (up X 0 R0.2.2.1) 6 R0.2.2.2.1) 7 R0.2.2.2.2.1) 8 R0.2.2.2.2.2.1) 9 R0.2.2.2.2.2.2.1) 10 R0.2.2.2.2.2.2.2.1) 11 R0.2.2.2.2.2.2.2.2.1) 13 R0.2.2.2.2.2.2.2.2.2.1) 14 R0.2.2.2.2.2.2.2.2.2.2.1) 15 R0.2.2.2.2.2.2.2.2.2.2.2.1) 16 R0.2.2.2.2.2.2.2.2.2.2.2.2.1) 18 R0.2.2.2.2.2.2.2.2.2.2.2.2.2.1) 19 R0.2.2.2.2.2.2.2.2.2.2.2.2.2.2.1) 20 R0.2.2.2.2.2.2.2.2.2.2.2.2.2.2.2.1) 22 R0.2.2.2.2.2.2.2.2.2.2.2.2.2.2.2.2.1) 23 R0.2.2.2.2.2.2.2.2.2.2.2.2.2.2.2.2.2.1) 24 R0.2.2.2.2.2.2.2.2.2.2.2.2.2.2.2.2.2.2) j) → ∃ R1, m_X10_holds F (X2 29) (X2 30) (X2 31) (X2 32) (X2 33) (X2 34) (X2 35) (X2 36) (X2 37) (X2 38) (X2 39) (X2 40) (X2 41) (X2 42) (X2 43) za1 = some R1 ∧ ((up (up (up (up (up (up (up (up (up X2 29 R1.2.1) 36 R1.2.2.1) 37 R1.2.2.2.1) 38 R1.2.2.2.2.1) 39 R1.2.2.2.2.2.1) 40 R1.2.2.2.2.2.2.1) 41 R1.2.2.2.2.2.2.2.1) 42 R1.2.2.2.2.2.2.2.2.1) 43 R1.2.2.2.2.2.2.2.2.2) 29 0 = lkc R0.1 1) ∧ (R0.1 = 0 → R1.1 = R0.2.1) ∧ Sta F (up (up (up (up (up (up (up (up (up X2 29 R1.2.1) 36 R1.2.2.1) 37 R1.2.2.2.1) 38 R1.2.2.2.2.1) 39 R1.2.2.2.2.2.1) 40 R1.2.2.2.2.2.2.1) 41 R1.2.2.2.2.2.2.2.1) 42 R1.2.2.2.2.2.2.2.2.1) 43 R1.2.2.2.2.2.2.2.2.2) n := by
  rcases ev_dL (F := F) za1 with ⟨j, hj, hj10, ej, q1, q2⟩ | ⟨q1, q2⟩
  · obtain ⟨R, b1, b2, b3⟩ := built hF hS
    obtain ⟨m, hm, h5, h6', hall⟩ := misAsked hF b2 b3
    have h5 : R.2.1 5 = Int32.ofNat m := h5
    by_cases h6 : R.2.1 6 = 0
    · refine ⟨(0, bst R.2.2.1 (labF (R.2.2.2.2.2.2.2.2.1 1) (R.2.2.2.2.2.2.2.2.1 2)) za1 m, R), ?_, Or.inl rfl, fun X2 h2 => ?_⟩
      · unfold m_X9_holds
        rw [q1, Option.bind_some, if_pos rfl, (ev_demandTold b1).1 h6, Option.bind_some, if_pos rfl]
        exact cl_holds hF hm h5
      · have h2 : ∀ j, j ≠ 46 → X2 j = upB X R j := h2
        obtain ⟨t', q41, q42, q43, f1, f2, f0, f3, f4, f5⟩ := (hall (upB X R 29) (upB X R 36) (upB X R 37) (upB X R 38) (upB X R 39) (upB X R 40) (upB X R 41) (upB X R 42) (upB X R 43) za1 b2.2.1 q2).2 h6
        rw [h2 29 (by decide), h2 30 (by decide), h2 31 (by decide), h2 32 (by decide), h2 33 (by decide), h2 34 (by decide), h2 35 (by decide), h2 36 (by decide), h2 37 (by decide), h2 38 (by decide), h2 39 (by decide), h2 40 (by decide), h2 41 (by decide), h2 42 (by decide), h2 43 (by decide)]
        refine ⟨(bst t'.2.1 q42 za1 m, t'.1, t'.2.1, t'.2.2.1, t'.2.2.2.1, t'.2.2.2.2.1, t'.2.2.2.2.2, q41, q42, q43), ?_, f0, fun _ => ?_, Sta_f9 h2 b2 f2⟩
        · unfold m_X10_holds
          rw [f5, Option.bind_some, if_neg zi_10]
          exact ml_holds hF hm f1
        · exact (bst_same m (fun i hi => ⟨f3 i hi, ((f4.2.2.2 i hi).1).symm⟩)).symm
    · refine ⟨(2, 0, R), ?_, Or.inr (Or.inr rfl), fun X2 h2 => ?_⟩
      · unfold m_X9_holds
        rw [q1, Option.bind_some, if_pos rfl, (ev_demandTold b1).2 h6, Option.bind_some, if_neg (show ¬ (2 : Nat) = 0 by decide)]
      · have h2 : ∀ j, j ≠ 46 → X2 j = upB X R j := h2
        obtain ⟨t', f2, f1⟩ := (hall (upB X R 29) (upB X R 36) (upB X R 37) (upB X R 38) (upB X R 39) (upB X R 40) (upB X R 41) (upB X R 42) (upB X R 43) za1 b2.2.1 q2).1 h6
        rw [h2 29 (by decide), h2 30 (by decide), h2 31 (by decide), h2 32 (by decide), h2 33 (by decide), h2 34 (by decide), h2 35 (by decide), h2 36 (by decide), h2 37 (by decide), h2 38 (by decide), h2 39 (by decide), h2 40 (by decide), h2 41 (by decide), h2 42 (by decide), h2 43 (by decide)]
        refine ⟨(0, upd t'.1 0 2, t'.2.1, t'.2.2.1, t'.2.2.2.1, t'.2.2.2.2.1, t'.2.2.2.2.2, upB X R 41, upB X R 42, upB X R 43), ?_, upd_at t'.1 0 2, fun q => absurd (show (2 : Nat) = 0 from q) (by decide), Sta_f9 h2 b2 ((upd02 (r := t'.1) (v := 2)).trans f2)⟩
        unfold m_X10_holds
        rw [f1, Option.bind_some, if_pos rfl]
  · refine ⟨(1, 0, (X 0, X 6, X 7, X 8, X 9, X 10, X 11, X 13, X 14, X 15, X 16, X 18, X 19, X 20, X 22, X 23, X 24)), ?_, Or.inr (Or.inl rfl), fun X2 h2 => ?_⟩
    · unfold m_X9_holds
      rw [q1, Option.bind_some, if_neg (by decide)]
    · have h2 : ∀ j, j ≠ 46 → X2 j = X j := fun j hj => (h2 j hj).trans (congrFun upB_self j)
      rw [h2 29 (by decide), h2 30 (by decide), h2 31 (by decide), h2 32 (by decide), h2 33 (by decide), h2 34 (by decide), h2 35 (by decide), h2 36 (by decide), h2 37 (by decide), h2 38 (by decide), h2 39 (by decide), h2 40 (by decide), h2 41 (by decide), h2 42 (by decide), h2 43 (by decide)]
      refine ⟨(0, upd (X 29) 0 1, X 36, X 37, X 38, X 39, X 40, X 41, X 42, X 43), ?_, upd_at (X 29) 0 1, fun q => absurd (show (1 : Nat) = 0 from q) (by decide), Sta_f9 h2 hS ((upd02 (r := X 29) (v := 1)).trans hS.2.1)⟩
      unfold m_X10_holds m_X10_isAsked m_X10_passes
      rw [q2, Option.bind_some, if_pos rfl, Option.bind_some, if_neg zi_10, Option.bind_some, if_pos rfl, Option.bind_some, if_pos rfl]
theorem st_reasonFor {F n : Nat} {X : Nat → Nat → Int32} (hF : 20000 ≤ F) (hS : Sta F X n) (za1 : Int32) : ∃ R0, m_X9_reasonFor F X (X 0) (X 2) (X 4) (X 6) (X 7) (X 8) (X 9) (X 10) (X 11) (X 13) (X 14) (X 15) (X 16) (X 18) (X 19) (X 20) (X 22) (X 23) (X 24) za1 = some R0 ∧ (R0.1 = 0 ∨ R0.1 = 1 ∨ R0.1 = 2) ∧ ∀ X2 : Nat → Nat → Int32, (∀ j, j ≠ 46 → X2 j = (up (up (up (up (up (up (up (up (up (up (up (up (up (up (up (up (up X 0 R0.2.2.1) 6 R0.2.2.2.1) 7 R0.2.2.2.2.1) 8 R0.2.2.2.2.2.1) 9 R0.2.2.2.2.2.2.1) 10 R0.2.2.2.2.2.2.2.1) 11 R0.2.2.2.2.2.2.2.2.1) 13 R0.2.2.2.2.2.2.2.2.2.1) 14 R0.2.2.2.2.2.2.2.2.2.2.1) 15 R0.2.2.2.2.2.2.2.2.2.2.2.1) 16 R0.2.2.2.2.2.2.2.2.2.2.2.2.1) 18 R0.2.2.2.2.2.2.2.2.2.2.2.2.2.1) 19 R0.2.2.2.2.2.2.2.2.2.2.2.2.2.2.1) 20 R0.2.2.2.2.2.2.2.2.2.2.2.2.2.2.2.1) 22 R0.2.2.2.2.2.2.2.2.2.2.2.2.2.2.2.2.1) 23 R0.2.2.2.2.2.2.2.2.2.2.2.2.2.2.2.2.2.1) 24 R0.2.2.2.2.2.2.2.2.2.2.2.2.2.2.2.2.2.2) j) → ∃ R1, m_X10_reasonFor F (X2 29) (X2 30) (X2 31) (X2 32) (X2 33) (X2 34) (X2 35) (X2 36) (X2 37) (X2 38) (X2 39) (X2 40) (X2 41) (X2 42) (X2 43) za1 = some R1 ∧ ((up (up (up (up (up (up (up (up (up X2 29 R1.2.1) 36 R1.2.2.1) 37 R1.2.2.2.1) 38 R1.2.2.2.2.1) 39 R1.2.2.2.2.2.1) 40 R1.2.2.2.2.2.2.1) 41 R1.2.2.2.2.2.2.2.1) 42 R1.2.2.2.2.2.2.2.2.1) 43 R1.2.2.2.2.2.2.2.2.2) 29 0 = lkc R0.1 1) ∧ (R0.1 = 0 → R1.1 = R0.2.1) ∧ Sta F (up (up (up (up (up (up (up (up (up X2 29 R1.2.1) 36 R1.2.2.1) 37 R1.2.2.2.1) 38 R1.2.2.2.2.1) 39 R1.2.2.2.2.2.1) 40 R1.2.2.2.2.2.2.1) 41 R1.2.2.2.2.2.2.2.1) 42 R1.2.2.2.2.2.2.2.2.1) 43 R1.2.2.2.2.2.2.2.2.2) n := by
  rcases ev_dL (F := F) za1 with ⟨j, hj, hj10, ej, q1, q2⟩ | ⟨q1, q2⟩
  · obtain ⟨R, b1, b2, b3⟩ := built hF hS
    obtain ⟨m, hm, h5, h6', hall⟩ := misAsked hF b2 b3
    have h5 : R.2.1 5 = Int32.ofNat m := h5
    by_cases h6 : R.2.1 6 = 0
    · refine ⟨(0, fo (fun k => decide (R.2.2.1 k = za1) && decide (labF (R.2.2.2.2.2.2.2.2.1 1) (R.2.2.2.2.2.2.2.2.1 2) k = 2)) m 0, R), ?_, Or.inl rfl, fun X2 h2 => ?_⟩
      · unfold m_X9_reasonFor
        rw [q1, Option.bind_some, if_pos rfl, (ev_demandTold b1).1 h6, Option.bind_some, if_pos rfl]
        exact cl_reason hF hm h5
      · have h2 : ∀ j, j ≠ 46 → X2 j = upB X R j := h2
        obtain ⟨t', q41, q42, q43, f1, f2, f0, f3, f4, f5⟩ := (hall (upB X R 29) (upB X R 36) (upB X R 37) (upB X R 38) (upB X R 39) (upB X R 40) (upB X R 41) (upB X R 42) (upB X R 43) za1 b2.2.1 q2).2 h6
        rw [h2 29 (by decide), h2 30 (by decide), h2 31 (by decide), h2 32 (by decide), h2 33 (by decide), h2 34 (by decide), h2 35 (by decide), h2 36 (by decide), h2 37 (by decide), h2 38 (by decide), h2 39 (by decide), h2 40 (by decide), h2 41 (by decide), h2 42 (by decide), h2 43 (by decide)]
        refine ⟨(fo (fun k => decide (t'.2.1 k = za1) && decide (q42 k = 2)) m 0, t'.1, t'.2.1, t'.2.2.1, t'.2.2.2.1, t'.2.2.2.2.1, t'.2.2.2.2.2, q41, q42, q43), ?_, f0, fun _ => ?_, Sta_f9 h2 b2 f2⟩
        · unfold m_X10_reasonFor
          rw [f5, Option.bind_some, if_neg zi_10]
          exact ml_reason hF hm f1
        · exact fo_same m 0 (fun i _ hi => by
            have e1 : R.2.2.1 i = t'.2.1 i := f3 i (by omega)
            have e2 : q42 i = labF (R.2.2.2.2.2.2.2.2.1 1) (R.2.2.2.2.2.2.2.2.1 2) i := (f4.2.2.2 i (by omega)).1
            rw [e1, e2])
    · refine ⟨(2, 0, R), ?_, Or.inr (Or.inr rfl), fun X2 h2 => ?_⟩
      · unfold m_X9_reasonFor
        rw [q1, Option.bind_some, if_pos rfl, (ev_demandTold b1).2 h6, Option.bind_some, if_neg (show ¬ (2 : Nat) = 0 by decide)]
      · have h2 : ∀ j, j ≠ 46 → X2 j = upB X R j := h2
        obtain ⟨t', f2, f1⟩ := (hall (upB X R 29) (upB X R 36) (upB X R 37) (upB X R 38) (upB X R 39) (upB X R 40) (upB X R 41) (upB X R 42) (upB X R 43) za1 b2.2.1 q2).1 h6
        rw [h2 29 (by decide), h2 30 (by decide), h2 31 (by decide), h2 32 (by decide), h2 33 (by decide), h2 34 (by decide), h2 35 (by decide), h2 36 (by decide), h2 37 (by decide), h2 38 (by decide), h2 39 (by decide), h2 40 (by decide), h2 41 (by decide), h2 42 (by decide), h2 43 (by decide)]
        refine ⟨(0, upd t'.1 0 2, t'.2.1, t'.2.2.1, t'.2.2.2.1, t'.2.2.2.2.1, t'.2.2.2.2.2, upB X R 41, upB X R 42, upB X R 43), ?_, upd_at t'.1 0 2, fun q => absurd (show (2 : Nat) = 0 from q) (by decide), Sta_f9 h2 b2 ((upd02 (r := t'.1) (v := 2)).trans f2)⟩
        unfold m_X10_reasonFor
        rw [f1, Option.bind_some, if_pos rfl]
  · refine ⟨(1, 0, (X 0, X 6, X 7, X 8, X 9, X 10, X 11, X 13, X 14, X 15, X 16, X 18, X 19, X 20, X 22, X 23, X 24)), ?_, Or.inr (Or.inl rfl), fun X2 h2 => ?_⟩
    · unfold m_X9_reasonFor
      rw [q1, Option.bind_some, if_neg (by decide)]
    · have h2 : ∀ j, j ≠ 46 → X2 j = X j := fun j hj => (h2 j hj).trans (congrFun upB_self j)
      rw [h2 29 (by decide), h2 30 (by decide), h2 31 (by decide), h2 32 (by decide), h2 33 (by decide), h2 34 (by decide), h2 35 (by decide), h2 36 (by decide), h2 37 (by decide), h2 38 (by decide), h2 39 (by decide), h2 40 (by decide), h2 41 (by decide), h2 42 (by decide), h2 43 (by decide)]
      refine ⟨(0, upd (X 29) 0 1, X 36, X 37, X 38, X 39, X 40, X 41, X 42, X 43), ?_, upd_at (X 29) 0 1, fun q => absurd (show (1 : Nat) = 0 from q) (by decide), Sta_f9 h2 hS ((upd02 (r := X 29) (v := 1)).trans hS.2.1)⟩
      unfold m_X10_reasonFor m_X10_isAsked m_X10_passes
      rw [q2, Option.bind_some, if_pos rfl, Option.bind_some, if_neg zi_10, Option.bind_some, if_pos rfl, Option.bind_some, if_pos rfl]
theorem st_reasonAgainst {F n : Nat} {X : Nat → Nat → Int32} (hF : 20000 ≤ F) (hS : Sta F X n) (za1 : Int32) : ∃ R0, m_X9_reasonAgainst F X (X 0) (X 2) (X 4) (X 6) (X 7) (X 8) (X 9) (X 10) (X 11) (X 13) (X 14) (X 15) (X 16) (X 18) (X 19) (X 20) (X 22) (X 23) (X 24) za1 = some R0 ∧ (R0.1 = 0 ∨ R0.1 = 2 ∨ R0.1 = 3) ∧ ∀ X2 : Nat → Nat → Int32, (∀ j, j ≠ 46 → X2 j = (up (up (up (up (up (up (up (up (up (up (up (up (up (up (up (up (up X 0 R0.2.2.1) 6 R0.2.2.2.1) 7 R0.2.2.2.2.1) 8 R0.2.2.2.2.2.1) 9 R0.2.2.2.2.2.2.1) 10 R0.2.2.2.2.2.2.2.1) 11 R0.2.2.2.2.2.2.2.2.1) 13 R0.2.2.2.2.2.2.2.2.2.1) 14 R0.2.2.2.2.2.2.2.2.2.2.1) 15 R0.2.2.2.2.2.2.2.2.2.2.2.1) 16 R0.2.2.2.2.2.2.2.2.2.2.2.2.1) 18 R0.2.2.2.2.2.2.2.2.2.2.2.2.2.1) 19 R0.2.2.2.2.2.2.2.2.2.2.2.2.2.2.1) 20 R0.2.2.2.2.2.2.2.2.2.2.2.2.2.2.2.1) 22 R0.2.2.2.2.2.2.2.2.2.2.2.2.2.2.2.2.1) 23 R0.2.2.2.2.2.2.2.2.2.2.2.2.2.2.2.2.2.1) 24 R0.2.2.2.2.2.2.2.2.2.2.2.2.2.2.2.2.2.2) j) → ∃ R1, m_X10_reasonAgainst F (X2 29) (X2 30) (X2 31) (X2 32) (X2 33) (X2 34) (X2 35) (X2 36) (X2 37) (X2 38) (X2 39) (X2 40) (X2 41) (X2 42) (X2 43) za1 = some R1 ∧ ((up (up (up (up (up (up (up (up (up X2 29 R1.2.1) 36 R1.2.2.1) 37 R1.2.2.2.1) 38 R1.2.2.2.2.1) 39 R1.2.2.2.2.2.1) 40 R1.2.2.2.2.2.2.1) 41 R1.2.2.2.2.2.2.2.1) 42 R1.2.2.2.2.2.2.2.2.1) 43 R1.2.2.2.2.2.2.2.2.2) 29 0 = lkc R0.1 2) ∧ (R0.1 = 0 → R1.1 = R0.2.1) ∧ Sta F (up (up (up (up (up (up (up (up (up X2 29 R1.2.1) 36 R1.2.2.1) 37 R1.2.2.2.1) 38 R1.2.2.2.2.1) 39 R1.2.2.2.2.2.1) 40 R1.2.2.2.2.2.2.1) 41 R1.2.2.2.2.2.2.2.1) 42 R1.2.2.2.2.2.2.2.2.1) 43 R1.2.2.2.2.2.2.2.2.2) n := by
  obtain ⟨R, b1, b2, b3⟩ := built hF hS
  obtain ⟨m, hm, h5, h6', hlab, hall⟩ := misArg hF b2 b3
  have h5 : R.2.1 5 = Int32.ofNat m := h5
  by_cases h6 : R.2.1 6 = 0
  · by_cases ha : za1 < 0 ∨ Int32.ofNat m ≤ za1
    · refine ⟨(3, 0, R), ?_, Or.inr (Or.inr rfl), fun X2 h2 => ?_⟩
      · unfold m_X9_reasonAgainst
        rw [(ev_demandTold b1).1 h6, Option.bind_some, if_pos rfl, (ev_demandArgument h5).1 ha, Option.bind_some, if_neg (show ¬ (3 : Nat) = 0 by decide)]
      · have h2 : ∀ j, j ≠ 46 → X2 j = upB X R j := h2
        obtain ⟨t', q41, f1, f2, f3, f4, f5, f6⟩ := (hall (upB X R 29) (upB X R 36) (upB X R 37) (upB X R 38) (upB X R 39) (upB X R 40) (upB X R 41) za1 b2.2.1).2 h6
        rw [h2 29 (by decide), h2 30 (by decide), h2 31 (by decide), h2 32 (by decide), h2 33 (by decide), h2 34 (by decide), h2 35 (by decide), h2 36 (by decide), h2 37 (by decide), h2 38 (by decide), h2 39 (by decide), h2 40 (by decide), h2 41 (by decide), h2 42 (by decide), h2 43 (by decide)]
        refine ⟨(0, upd t'.1 0 2, t'.2.1, t'.2.2.1, t'.2.2.2.1, t'.2.2.2.2.1, t'.2.2.2.2.2, q41, upB X R 42, upB X R 43), ?_, upd_at t'.1 0 2, fun q => absurd (show (3 : Nat) = 0 from q) (by decide), Sta_f9 h2 b2 ((upd02 (r := t'.1) (v := 2)).trans f2)⟩
        unfold m_X10_reasonAgainst
        rw [f5 ha, Option.bind_some, if_pos rfl]
    · obtain ⟨i, hi, e⟩ := arg_of hm ha
      by_cases hc : fo (fun k => tb (R.2.2.2.2.2.2.2.1 i) k && decide (labF (R.2.2.2.2.2.2.2.2.1 1) (R.2.2.2.2.2.2.2.2.1 2) k = 2)) m 0 = -1
      · refine ⟨(0, fo (fun k => tb (R.2.2.2.2.2.2.2.1 i) k && decide (labF (R.2.2.2.2.2.2.2.2.1 1) (R.2.2.2.2.2.2.2.2.1 2) k = 1)) m 0, R), ?_, Or.inl rfl, fun X2 h2 => ?_⟩
        · unfold m_X9_reasonAgainst
          rw [(ev_demandTold b1).1 h6, Option.bind_some, if_pos rfl, (ev_demandArgument h5).2 ha, Option.bind_some, if_pos rfl, e, cl_lowest hF hm h5 (by omega), Option.bind_some, if_pos hc, cl_lowest hF hm h5 (by omega), Option.bind_some]
        · skip
          have h2 : ∀ j, j ≠ 46 → X2 j = upB X R j := h2
          obtain ⟨t', q41, f1, f2, f3, f4, f5, f6⟩ := (hall (upB X R 29) (upB X R 36) (upB X R 37) (upB X R 38) (upB X R 39) (upB X R 40) (upB X R 41) za1 b2.2.1).2 h6
          rw [h2 29 (by decide), h2 30 (by decide), h2 31 (by decide), h2 32 (by decide), h2 33 (by decide), h2 34 (by decide), h2 35 (by decide), h2 36 (by decide), h2 37 (by decide), h2 38 (by decide), h2 39 (by decide), h2 40 (by decide), h2 41 (by decide), h2 42 (by decide), h2 43 (by decide)]
          obtain ⟨q42, q43, g1, g2⟩ := (hlab h6).1 (upd t'.1 0 0) q41 (upB X R 42) (upB X R 43) ((upd08 (r := t'.1) (v := 0)).trans f1) f4
          obtain ⟨v2, k1, k2⟩ := ev_withLabel (F := F) (lab := 2) (r29 := upd t'.1 0 0) (r42 := q42) hF ((upd08 (r := t'.1) (v := 0)).trans f1) hm
          obtain ⟨v1, k3, k4⟩ := ev_withLabel (F := F) (lab := 1) (r29 := upd t'.1 0 0) (r42 := q42) hF ((upd08 (r := t'.1) (v := 0)).trans f1) hm
          have hl : ∀ k, k < m → q42 k = labF (R.2.2.2.2.2.2.2.2.1 1) (R.2.2.2.2.2.2.2.2.1 2) k := fun k hk => (g2.2.2.2 k hk).1
          have e13 : R.2.2.2.2.2.2.2.1 i = q41 i := f4 i hi
          have s2 := low_same (i := i) (r13 := R.2.2.2.2.2.2.2.1) (q41 := q41) (q42 := q42) (lab := labF (R.2.2.2.2.2.2.2.2.1 1) (R.2.2.2.2.2.2.2.2.1 2)) (y := 2) (v := v2) (s := q41 i &&& v2) hm e13 hl k2 rfl
          have s1 := low_same (i := i) (r13 := R.2.2.2.2.2.2.2.1) (q41 := q41) (q42 := q42) (lab := labF (R.2.2.2.2.2.2.2.2.1 1) (R.2.2.2.2.2.2.2.2.1 2)) (y := 1) (v := v1) (s := q41 i &&& v1) hm e13 hl k4 rfl
          have hz := low_m1 (s := q41 i &&& v2) (v := v2) (q41 := q41 i) hm (fun k hk h => ((k2 k hk).mp h).1) rfl
          rw [s2] at hz
          refine ⟨(fo (fun k => tb (R.2.2.2.2.2.2.2.1 i) k && decide (labF (R.2.2.2.2.2.2.2.2.1 1) (R.2.2.2.2.2.2.2.2.1 2) k = 1)) m 0, upd t'.1 0 0, t'.2.1, t'.2.2.1, t'.2.2.2.1, t'.2.2.2.2.1, t'.2.2.2.2.2, q41, q42, q43), ?_, upd_at t'.1 0 0, fun _ => rfl, Sta_f9 h2 b2 ((upd02 (r := t'.1) (v := 0)).trans f2)⟩
          unfold m_X10_reasonAgainst
          rw [f6 ha, Option.bind_some, if_neg zi_10, g1, Option.bind_some, e, if_pos (zn_ok (show i < 24 by omega) (by omega)), k1, Option.bind_some, zn_nat (show i < 2147483648 by omega)]
          rw [if_pos (hz.mp hc), if_pos (by have gi : ¬ (Int32.ofNat i < 0 ∨ 24 ≤ (Int32.ofNat i).toNatClampNeg) := zn_ok (show i < 24 by omega) (by omega); rw [zn_nat (show i < 2147483648 by omega)] at gi; exact gi), k3, Option.bind_some, ml_lowest hF, Option.bind_some, s1]
      · refine ⟨(0, fo (fun k => tb (R.2.2.2.2.2.2.2.1 i) k && decide (labF (R.2.2.2.2.2.2.2.2.1 1) (R.2.2.2.2.2.2.2.2.1 2) k = 2)) m 0, R), ?_, Or.inl rfl, fun X2 h2 => ?_⟩
        · unfold m_X9_reasonAgainst
          rw [(ev_demandTold b1).1 h6, Option.bind_some, if_pos rfl, (ev_demandArgument h5).2 ha, Option.bind_some, if_pos rfl, e, cl_lowest hF hm h5 (by omega), Option.bind_some, if_neg hc]
        · skip
          have h2 : ∀ j, j ≠ 46 → X2 j = upB X R j := h2
          obtain ⟨t', q41, f1, f2, f3, f4, f5, f6⟩ := (hall (upB X R 29) (upB X R 36) (upB X R 37) (upB X R 38) (upB X R 39) (upB X R 40) (upB X R 41) za1 b2.2.1).2 h6
          rw [h2 29 (by decide), h2 30 (by decide), h2 31 (by decide), h2 32 (by decide), h2 33 (by decide), h2 34 (by decide), h2 35 (by decide), h2 36 (by decide), h2 37 (by decide), h2 38 (by decide), h2 39 (by decide), h2 40 (by decide), h2 41 (by decide), h2 42 (by decide), h2 43 (by decide)]
          obtain ⟨q42, q43, g1, g2⟩ := (hlab h6).1 (upd t'.1 0 0) q41 (upB X R 42) (upB X R 43) ((upd08 (r := t'.1) (v := 0)).trans f1) f4
          obtain ⟨v2, k1, k2⟩ := ev_withLabel (F := F) (lab := 2) (r29 := upd t'.1 0 0) (r42 := q42) hF ((upd08 (r := t'.1) (v := 0)).trans f1) hm
          obtain ⟨v1, k3, k4⟩ := ev_withLabel (F := F) (lab := 1) (r29 := upd t'.1 0 0) (r42 := q42) hF ((upd08 (r := t'.1) (v := 0)).trans f1) hm
          have hl : ∀ k, k < m → q42 k = labF (R.2.2.2.2.2.2.2.2.1 1) (R.2.2.2.2.2.2.2.2.1 2) k := fun k hk => (g2.2.2.2 k hk).1
          have e13 : R.2.2.2.2.2.2.2.1 i = q41 i := f4 i hi
          have s2 := low_same (i := i) (r13 := R.2.2.2.2.2.2.2.1) (q41 := q41) (q42 := q42) (lab := labF (R.2.2.2.2.2.2.2.2.1 1) (R.2.2.2.2.2.2.2.2.1 2)) (y := 2) (v := v2) (s := q41 i &&& v2) hm e13 hl k2 rfl
          have s1 := low_same (i := i) (r13 := R.2.2.2.2.2.2.2.1) (q41 := q41) (q42 := q42) (lab := labF (R.2.2.2.2.2.2.2.2.1 1) (R.2.2.2.2.2.2.2.2.1 2)) (y := 1) (v := v1) (s := q41 i &&& v1) hm e13 hl k4 rfl
          have hz := low_m1 (s := q41 i &&& v2) (v := v2) (q41 := q41 i) hm (fun k hk h => ((k2 k hk).mp h).1) rfl
          rw [s2] at hz
          refine ⟨(fo (fun k => tb (R.2.2.2.2.2.2.2.1 i) k && decide (labF (R.2.2.2.2.2.2.2.2.1 1) (R.2.2.2.2.2.2.2.2.1 2) k = 2)) m 0, upd t'.1 0 0, t'.2.1, t'.2.2.1, t'.2.2.2.1, t'.2.2.2.2.1, t'.2.2.2.2.2, q41, q42, q43), ?_, upd_at t'.1 0 0, fun _ => rfl, Sta_f9 h2 b2 ((upd02 (r := t'.1) (v := 0)).trans f2)⟩
          unfold m_X10_reasonAgainst
          rw [f6 ha, Option.bind_some, if_neg zi_10, g1, Option.bind_some, e, if_pos (zn_ok (show i < 24 by omega) (by omega)), k1, Option.bind_some, zn_nat (show i < 2147483648 by omega)]
          rw [if_neg (fun q => hc (hz.mpr q)), ml_lowest hF, Option.bind_some, s2]
  · refine ⟨(2, 0, R), ?_, Or.inr (Or.inl rfl), fun X2 h2 => ?_⟩
    · unfold m_X9_reasonAgainst
      rw [(ev_demandTold b1).2 h6, Option.bind_some, if_neg (show ¬ (2 : Nat) = 0 by decide)]
    · have h2 : ∀ j, j ≠ 46 → X2 j = upB X R j := h2
      obtain ⟨t', f2, f1⟩ := (hall (upB X R 29) (upB X R 36) (upB X R 37) (upB X R 38) (upB X R 39) (upB X R 40) (upB X R 41) za1 b2.2.1).1 h6
      rw [h2 29 (by decide), h2 30 (by decide), h2 31 (by decide), h2 32 (by decide), h2 33 (by decide), h2 34 (by decide), h2 35 (by decide), h2 36 (by decide), h2 37 (by decide), h2 38 (by decide), h2 39 (by decide), h2 40 (by decide), h2 41 (by decide), h2 42 (by decide), h2 43 (by decide)]
      refine ⟨(0, upd t'.1 0 1, t'.2.1, t'.2.2.1, t'.2.2.2.1, t'.2.2.2.2.1, t'.2.2.2.2.2, upB X R 41, upB X R 42, upB X R 43), ?_, upd_at t'.1 0 1, fun q => absurd (show (2 : Nat) = 0 from q) (by decide), Sta_f9 h2 b2 ((upd02 (r := t'.1) (v := 1)).trans f2)⟩
      unfold m_X10_reasonAgainst
      rw [f1, Option.bind_some, if_pos rfl]
theorem st_preferred {F n : Nat} {X : Nat → Nat → Int32} (hF : 20000 ≤ F) (hS : Sta F X n) : ∃ R0, m_X9_preferred F X (X 0) (X 2) (X 4) (X 6) (X 7) (X 8) (X 9) (X 10) (X 11) (X 13) (X 14) (X 15) (X 16) (X 18) (X 19) (X 20) (X 22) (X 23) (X 24) (X 25) (X 26) = some R0 ∧ (R0.1 = 0 ∨ R0.1 = 2) ∧ ∀ X2 : Nat → Nat → Int32, (∀ j, j ≠ 46 → X2 j = (up (up (up (up (up (up (up (up (up (up (up (up (up (up (up (up (up (up (up X 0 R0.2.2.1) 6 R0.2.2.2.1) 7 R0.2.2.2.2.1) 8 R0.2.2.2.2.2.1) 9 R0.2.2.2.2.2.2.1) 10 R0.2.2.2.2.2.2.2.1) 11 R0.2.2.2.2.2.2.2.2.1) 13 R0.2.2.2.2.2.2.2.2.2.1) 14 R0.2.2.2.2.2.2.2.2.2.2.1) 15 R0.2.2.2.2.2.2.2.2.2.2.2.1) 16 R0.2.2.2.2.2.2.2.2.2.2.2.2.1) 18 R0.2.2.2.2.2.2.2.2.2.2.2.2.2.1) 19 R0.2.2.2.2.2.2.2.2.2.2.2.2.2.2.1) 20 R0.2.2.2.2.2.2.2.2.2.2.2.2.2.2.2.1) 22 R0.2.2.2.2.2.2.2.2.2.2.2.2.2.2.2.2.1) 23 R0.2.2.2.2.2.2.2.2.2.2.2.2.2.2.2.2.2.1) 24 R0.2.2.2.2.2.2.2.2.2.2.2.2.2.2.2.2.2.2.1) 25 R0.2.2.2.2.2.2.2.2.2.2.2.2.2.2.2.2.2.2.2.1) 26 R0.2.2.2.2.2.2.2.2.2.2.2.2.2.2.2.2.2.2.2.2) j) → ∃ R1, m_X10_preferred F (X2 29) (X2 30) (X2 31) (X2 32) (X2 33) (X2 34) (X2 35) (X2 36) (X2 37) (X2 38) (X2 39) (X2 40) (X2 41) (X2 44) (X2 45) = some R1 ∧ ((up (up (up (up (up (up (up (up (up X2 29 R1.2.1) 36 R1.2.2.1) 37 R1.2.2.2.1) 38 R1.2.2.2.2.1) 39 R1.2.2.2.2.2.1) 40 R1.2.2.2.2.2.2.1) 41 R1.2.2.2.2.2.2.2.1) 44 R1.2.2.2.2.2.2.2.2.1) 45 R1.2.2.2.2.2.2.2.2.2) 29 0 = lkc R0.1 2) ∧ (R0.1 = 0 → R1.1 = R0.2.1) ∧ Sta F (up (up (up (up (up (up (up (up (up X2 29 R1.2.1) 36 R1.2.2.1) 37 R1.2.2.2.1) 38 R1.2.2.2.2.1) 39 R1.2.2.2.2.2.1) 40 R1.2.2.2.2.2.2.1) 41 R1.2.2.2.2.2.2.2.1) 44 R1.2.2.2.2.2.2.2.2.1) 45 R1.2.2.2.2.2.2.2.2.2) n := by
  obtain ⟨R, b1, b2, b3⟩ := built hF hS
  obtain ⟨m, hm, h5, h6', hT, hall⟩ := misFew hF b2 b3
  have h5 : R.2.1 5 = Int32.ofNat m := h5
  by_cases hd : R.2.1 6 = 0 ∧ m ≤ 14
  · have hle : R.2.1 5 ≤ 14 := by rw [h5]; exact (zn_le (b := 14) (by omega) (by omega)).mpr hd.2
    obtain ⟨q0, q25, q26, L, s1, s2, s3, s4⟩ := tried hF b2 b3 h5 hd.2 (hT hd.1)
    refine ⟨(0, q25 1, q0, R.2.1, R.2.2.1, R.2.2.2.1, R.2.2.2.2.1, R.2.2.2.2.2.1, R.2.2.2.2.2.2.1, R.2.2.2.2.2.2.2.1, R.2.2.2.2.2.2.2.2.1, R.2.2.2.2.2.2.2.2.2.1, R.2.2.2.2.2.2.2.2.2.2.1, R.2.2.2.2.2.2.2.2.2.2.2.1, R.2.2.2.2.2.2.2.2.2.2.2.2.1, R.2.2.2.2.2.2.2.2.2.2.2.2.2.1, R.2.2.2.2.2.2.2.2.2.2.2.2.2.2.1, R.2.2.2.2.2.2.2.2.2.2.2.2.2.2.2.1, R.2.2.2.2.2.2.2.2.2.2.2.2.2.2.2.2, q25, q26), ?_, Or.inl rfl, fun X2 h2 => ?_⟩
    · unfold m_X9_preferred
      rw [(ev_demandFew b1).1 hd.1 hle, Option.bind_some, if_pos rfl]
      show Option.bind (m_X9_trySets F (upB X R 0) (upB X R 16) (upB X R 19) (upB X R 20) (upB X R 23) (upB X R 24) (upB X R 25) (upB X R 26)) _ = _
      rw [s1, Option.bind_some]
    · have h2 : ∀ j, j ≠ 46 → X2 j = (up (up (up (upB X R) 0 q0) 25 q25) 26 q26) j := fun j hj => (h2 j hj).trans (by rw [← upB_0q]; rfl)
      obtain ⟨t', q41, f1, f2, f3, f4, f5⟩ := (hall (upB X R 29) (upB X R 36) (upB X R 37) (upB X R 38) (upB X R 39) (upB X R 40) (upB X R 41) 1 b2.2.1).2 hd.1 hd.2
      have e29 : ∀ k, k ≠ 46 → 29 ≤ k → X2 k = upB X R k := fun k k1 k2 => by
        rw [h2 k k1, up_ne (by omega), up_ne (by omega), up_ne (by omega)]
      rw [e29 29 (by decide) (by decide), e29 30 (by decide) (by decide), e29 31 (by decide) (by decide), e29 32 (by decide) (by decide), e29 33 (by decide) (by decide), e29 34 (by decide) (by decide), e29 35 (by decide) (by decide), e29 36 (by decide) (by decide), e29 37 (by decide) (by decide), e29 38 (by decide) (by decide), e29 39 (by decide) (by decide), e29 40 (by decide) (by decide), e29 41 (by decide) (by decide), e29 44 (by decide) (by decide), e29 45 (by decide) (by decide)]
      obtain ⟨q44, q45, L', p1, p2, p3⟩ := prefers_all (F := F) (r29 := upd t'.1 0 0) (r41 := q41) (r44 := upB X R 44) (r45 := upB X R 45) hF ((upd08 (r := t'.1) (v := 0)).trans f1) hd.2
      rw [← AA_same f4] at p2
      have eL := isPL_eq s3 p2
      refine ⟨(Int32.ofNat L'.length, upd t'.1 0 0, t'.2.1, t'.2.2.1, t'.2.2.2.1, t'.2.2.2.2.1, t'.2.2.2.2.2, q41, q44, q45), ?_, upd_at t'.1 0 0, fun _ => ?_, Sta_g9 h2 s4 ((upd02 (r := t'.1) (v := 0)).trans f2)⟩
      · unfold m_X10_preferred
        rw [f5, Option.bind_some, if_neg zi_10, p1, Option.bind_some]
      · show Int32.ofNat L'.length = q25 1
        rw [s2.1, eL]
  · have hnf : ¬ (R.2.1 6 = 0 ∧ R.2.1 5 ≤ 14) := fun q => hd ⟨q.1, by
      have q2 := q.2
      rw [h5] at q2
      exact (zn_le (b := 14) (by omega) (by omega)).mp q2⟩
    refine ⟨(2, 0, R.1, R.2.1, R.2.2.1, R.2.2.2.1, R.2.2.2.2.1, R.2.2.2.2.2.1, R.2.2.2.2.2.2.1, R.2.2.2.2.2.2.2.1, R.2.2.2.2.2.2.2.2.1, R.2.2.2.2.2.2.2.2.2.1, R.2.2.2.2.2.2.2.2.2.2.1, R.2.2.2.2.2.2.2.2.2.2.2.1, R.2.2.2.2.2.2.2.2.2.2.2.2.1, R.2.2.2.2.2.2.2.2.2.2.2.2.2.1, R.2.2.2.2.2.2.2.2.2.2.2.2.2.2.1, R.2.2.2.2.2.2.2.2.2.2.2.2.2.2.2.1, R.2.2.2.2.2.2.2.2.2.2.2.2.2.2.2.2, X 25, X 26), ?_, Or.inr rfl, fun X2 h2 => ?_⟩
    · unfold m_X9_preferred
      rw [(ev_demandFew b1).2 hnf, Option.bind_some, if_neg (show ¬ (2 : Nat) = 0 by decide)]
    · have h2 : ∀ j, j ≠ 46 → X2 j = upB X R j := fun j hj => (h2 j hj).trans (by
        have e1 : up (upB X R) 25 (X 25) = upB X R := up_self (upB X R) 25
        have e2 : up (upB X R) 26 (X 26) = upB X R := up_self (upB X R) 26
        show (up (up (upB X R) 25 (X 25)) 26 (X 26)) j = upB X R j
        rw [e1, e2])
      obtain ⟨t', f2, f1⟩ := (hall (upB X R 29) (upB X R 36) (upB X R 37) (upB X R 38) (upB X R 39) (upB X R 40) (upB X R 41) 1 b2.2.1).1 hd
      rw [h2 29 (by decide), h2 30 (by decide), h2 31 (by decide), h2 32 (by decide), h2 33 (by decide), h2 34 (by decide), h2 35 (by decide), h2 36 (by decide), h2 37 (by decide), h2 38 (by decide), h2 39 (by decide), h2 40 (by decide), h2 41 (by decide), h2 44 (by decide), h2 45 (by decide)]
      refine ⟨(0, upd t'.1 0 1, t'.2.1, t'.2.2.1, t'.2.2.2.1, t'.2.2.2.2.1, t'.2.2.2.2.2, upB X R 41, upB X R 44, upB X R 45), ?_, upd_at t'.1 0 1, fun q => absurd (show (2 : Nat) = 0 from q) (by decide), Sta_g9 h2 b2 ((upd02 (r := t'.1) (v := 1)).trans f2)⟩
      unfold m_X10_preferred
      rw [f1, Option.bind_some, if_pos rfl]
theorem st_preferredByAllSets {F n : Nat} {X : Nat → Nat → Int32} (hF : 20000 ≤ F) (hS : Sta F X n) : ∃ R0, m_X9_preferredByAllSets F X (X 0) (X 2) (X 4) (X 6) (X 7) (X 8) (X 9) (X 10) (X 11) (X 13) (X 14) (X 15) (X 16) (X 18) (X 19) (X 20) (X 22) (X 23) (X 24) (X 27) (X 28) = some R0 ∧ (R0.1 = 0 ∨ R0.1 = 2) ∧ ∀ X2 : Nat → Nat → Int32, (∀ j, j ≠ 46 → X2 j = (up (up (up (up (up (up (up (up (up (up (up (up (up (up (up (up (up (up (up X 0 R0.2.2.1) 6 R0.2.2.2.1) 7 R0.2.2.2.2.1) 8 R0.2.2.2.2.2.1) 9 R0.2.2.2.2.2.2.1) 10 R0.2.2.2.2.2.2.2.1) 11 R0.2.2.2.2.2.2.2.2.1) 13 R0.2.2.2.2.2.2.2.2.2.1) 14 R0.2.2.2.2.2.2.2.2.2.2.1) 15 R0.2.2.2.2.2.2.2.2.2.2.2.1) 16 R0.2.2.2.2.2.2.2.2.2.2.2.2.1) 18 R0.2.2.2.2.2.2.2.2.2.2.2.2.2.1) 19 R0.2.2.2.2.2.2.2.2.2.2.2.2.2.2.1) 20 R0.2.2.2.2.2.2.2.2.2.2.2.2.2.2.2.1) 22 R0.2.2.2.2.2.2.2.2.2.2.2.2.2.2.2.2.1) 23 R0.2.2.2.2.2.2.2.2.2.2.2.2.2.2.2.2.2.1) 24 R0.2.2.2.2.2.2.2.2.2.2.2.2.2.2.2.2.2.2.1) 27 R0.2.2.2.2.2.2.2.2.2.2.2.2.2.2.2.2.2.2.2.1) 28 R0.2.2.2.2.2.2.2.2.2.2.2.2.2.2.2.2.2.2.2.2) j) → ∃ R1, m_X10_preferredByAllSets F (X2 29) (X2 30) (X2 31) (X2 32) (X2 33) (X2 34) (X2 35) (X2 36) (X2 37) (X2 38) (X2 39) (X2 40) (X2 41) (X2 44) (X2 45) = some R1 ∧ ((up (up (up (up (up (up (up (up (up X2 29 R1.2.1) 36 R1.2.2.1) 37 R1.2.2.2.1) 38 R1.2.2.2.2.1) 39 R1.2.2.2.2.2.1) 40 R1.2.2.2.2.2.2.1) 41 R1.2.2.2.2.2.2.2.1) 44 R1.2.2.2.2.2.2.2.2.1) 45 R1.2.2.2.2.2.2.2.2.2) 29 0 = lkc R0.1 2) ∧ (R0.1 = 0 → R1.1 = R0.2.1) ∧ Sta F (up (up (up (up (up (up (up (up (up X2 29 R1.2.1) 36 R1.2.2.1) 37 R1.2.2.2.1) 38 R1.2.2.2.2.1) 39 R1.2.2.2.2.2.1) 40 R1.2.2.2.2.2.2.1) 41 R1.2.2.2.2.2.2.2.1) 44 R1.2.2.2.2.2.2.2.2.1) 45 R1.2.2.2.2.2.2.2.2.2) n := by
  obtain ⟨R, b1, b2, b3⟩ := built hF hS
  obtain ⟨m, hm, h5, h6', hT, hall⟩ := misFew hF b2 b3
  have h5 : R.2.1 5 = Int32.ofNat m := h5
  by_cases hd : R.2.1 6 = 0 ∧ m ≤ 14
  · have hle : R.2.1 5 ≤ 14 := by rw [h5]; exact (zn_le (b := 14) (by omega) (by omega)).mpr hd.2
    obtain ⟨q0, q25, q26, L, s1, s2, s3, s4⟩ := swept hF b2 b3 h5 hd.2 (hT hd.1)
    refine ⟨(0, q25 1, q0, R.2.1, R.2.2.1, R.2.2.2.1, R.2.2.2.2.1, R.2.2.2.2.2.1, R.2.2.2.2.2.2.1, R.2.2.2.2.2.2.2.1, R.2.2.2.2.2.2.2.2.1, R.2.2.2.2.2.2.2.2.2.1, R.2.2.2.2.2.2.2.2.2.2.1, R.2.2.2.2.2.2.2.2.2.2.2.1, R.2.2.2.2.2.2.2.2.2.2.2.2.1, R.2.2.2.2.2.2.2.2.2.2.2.2.2.1, R.2.2.2.2.2.2.2.2.2.2.2.2.2.2.1, R.2.2.2.2.2.2.2.2.2.2.2.2.2.2.2.1, R.2.2.2.2.2.2.2.2.2.2.2.2.2.2.2.2, q25, q26), ?_, Or.inl rfl, fun X2 h2 => ?_⟩
    · unfold m_X9_preferredByAllSets
      rw [(ev_demandFew b1).1 hd.1 hle, Option.bind_some, if_pos rfl]
      show Option.bind (m_X9_sweepSets F (upB X R 0) (upB X R 16) (upB X R 19) (upB X R 20) (upB X R 23) (upB X R 24) (upB X R 27) (upB X R 28)) _ = _
      rw [s1, Option.bind_some]
    · have h2 : ∀ j, j ≠ 46 → X2 j = (up (up (up (upB X R) 0 q0) 27 q25) 28 q26) j := fun j hj => (h2 j hj).trans (by rw [← upB_0q]; rfl)
      obtain ⟨t', q41, f1, f2, f3, f4, f5⟩ := (hall (upB X R 29) (upB X R 36) (upB X R 37) (upB X R 38) (upB X R 39) (upB X R 40) (upB X R 41) 1 b2.2.1).2 hd.1 hd.2
      have e29 : ∀ k, k ≠ 46 → 29 ≤ k → X2 k = upB X R k := fun k k1 k2 => by
        rw [h2 k k1, up_ne (by omega), up_ne (by omega), up_ne (by omega)]
      rw [e29 29 (by decide) (by decide), e29 30 (by decide) (by decide), e29 31 (by decide) (by decide), e29 32 (by decide) (by decide), e29 33 (by decide) (by decide), e29 34 (by decide) (by decide), e29 35 (by decide) (by decide), e29 36 (by decide) (by decide), e29 37 (by decide) (by decide), e29 38 (by decide) (by decide), e29 39 (by decide) (by decide), e29 40 (by decide) (by decide), e29 41 (by decide) (by decide), e29 44 (by decide) (by decide), e29 45 (by decide) (by decide)]
      obtain ⟨q44, q45, L', p1, p2, p3⟩ := prefers_all (F := F) (r29 := upd t'.1 0 0) (r41 := q41) (r44 := upB X R 44) (r45 := upB X R 45) hF ((upd08 (r := t'.1) (v := 0)).trans f1) hd.2
      rw [← AA_same f4] at p2
      have eL := isPL_eq s3 p2
      refine ⟨(Int32.ofNat L'.length, upd t'.1 0 0, t'.2.1, t'.2.2.1, t'.2.2.2.1, t'.2.2.2.2.1, t'.2.2.2.2.2, q41, q44, q45), ?_, upd_at t'.1 0 0, fun _ => ?_, Sta_g9 h2 s4 ((upd02 (r := t'.1) (v := 0)).trans f2)⟩
      · unfold m_X10_preferredByAllSets
        rw [f5, Option.bind_some, if_neg zi_10, p1, Option.bind_some]
      · show Int32.ofNat L'.length = q25 1
        rw [s2.1, eL]
  · have hnf : ¬ (R.2.1 6 = 0 ∧ R.2.1 5 ≤ 14) := fun q => hd ⟨q.1, by
      have q2 := q.2
      rw [h5] at q2
      exact (zn_le (b := 14) (by omega) (by omega)).mp q2⟩
    refine ⟨(2, 0, R.1, R.2.1, R.2.2.1, R.2.2.2.1, R.2.2.2.2.1, R.2.2.2.2.2.1, R.2.2.2.2.2.2.1, R.2.2.2.2.2.2.2.1, R.2.2.2.2.2.2.2.2.1, R.2.2.2.2.2.2.2.2.2.1, R.2.2.2.2.2.2.2.2.2.2.1, R.2.2.2.2.2.2.2.2.2.2.2.1, R.2.2.2.2.2.2.2.2.2.2.2.2.1, R.2.2.2.2.2.2.2.2.2.2.2.2.2.1, R.2.2.2.2.2.2.2.2.2.2.2.2.2.2.1, R.2.2.2.2.2.2.2.2.2.2.2.2.2.2.2.1, R.2.2.2.2.2.2.2.2.2.2.2.2.2.2.2.2, X 27, X 28), ?_, Or.inr rfl, fun X2 h2 => ?_⟩
    · unfold m_X9_preferredByAllSets
      rw [(ev_demandFew b1).2 hnf, Option.bind_some, if_neg (show ¬ (2 : Nat) = 0 by decide)]
    · have h2 : ∀ j, j ≠ 46 → X2 j = upB X R j := fun j hj => (h2 j hj).trans (by
        have e1 : up (upB X R) 27 (X 27) = upB X R := up_self (upB X R) 27
        have e2 : up (upB X R) 28 (X 28) = upB X R := up_self (upB X R) 28
        show (up (up (upB X R) 27 (X 27)) 28 (X 28)) j = upB X R j
        rw [e1, e2])
      obtain ⟨t', f2, f1⟩ := (hall (upB X R 29) (upB X R 36) (upB X R 37) (upB X R 38) (upB X R 39) (upB X R 40) (upB X R 41) 1 b2.2.1).1 hd
      rw [h2 29 (by decide), h2 30 (by decide), h2 31 (by decide), h2 32 (by decide), h2 33 (by decide), h2 34 (by decide), h2 35 (by decide), h2 36 (by decide), h2 37 (by decide), h2 38 (by decide), h2 39 (by decide), h2 40 (by decide), h2 41 (by decide), h2 44 (by decide), h2 45 (by decide)]
      refine ⟨(0, upd t'.1 0 1, t'.2.1, t'.2.2.1, t'.2.2.2.1, t'.2.2.2.2.1, t'.2.2.2.2.2, upB X R 41, upB X R 44, upB X R 45), ?_, upd_at t'.1 0 1, fun q => absurd (show (2 : Nat) = 0 from q) (by decide), Sta_g9 h2 b2 ((upd02 (r := t'.1) (v := 1)).trans f2)⟩
      unfold m_X10_preferredByAllSets
      rw [f1, Option.bind_some, if_pos rfl]
theorem st_isInSet {F n : Nat} {X : Nat → Nat → Int32} (hF : 20000 ≤ F) (hS : Sta F X n) (za1 : Int32) (za2 : Int32) : ∃ R0, m_X9_isInSet F X (X 0) (X 2) (X 4) (X 6) (X 7) (X 8) (X 9) (X 10) (X 11) (X 13) (X 14) (X 15) (X 16) (X 18) (X 19) (X 20) (X 22) (X 23) (X 24) (X 25) (X 26) za1 za2 = some R0 ∧ (R0.1 = 0 ∨ R0.1 = 2 ∨ R0.1 = 3) ∧ (R0.2.1 = 0 ∨ R0.2.1 = 1) ∧ ∀ X2 : Nat → Nat → Int32, (∀ j, j ≠ 46 → X2 j = (up (up (up (up (up (up (up (up (up (up (up (up (up (up (up (up (up (up (up X 0 R0.2.2.1) 6 R0.2.2.2.1) 7 R0.2.2.2.2.1) 8 R0.2.2.2.2.2.1) 9 R0.2.2.2.2.2.2.1) 10 R0.2.2.2.2.2.2.2.1) 11 R0.2.2.2.2.2.2.2.2.1) 13 R0.2.2.2.2.2.2.2.2.2.1) 14 R0.2.2.2.2.2.2.2.2.2.2.1) 15 R0.2.2.2.2.2.2.2.2.2.2.2.1) 16 R0.2.2.2.2.2.2.2.2.2.2.2.2.1) 18 R0.2.2.2.2.2.2.2.2.2.2.2.2.2.1) 19 R0.2.2.2.2.2.2.2.2.2.2.2.2.2.2.1) 20 R0.2.2.2.2.2.2.2.2.2.2.2.2.2.2.2.1) 22 R0.2.2.2.2.2.2.2.2.2.2.2.2.2.2.2.2.1) 23 R0.2.2.2.2.2.2.2.2.2.2.2.2.2.2.2.2.2.1) 24 R0.2.2.2.2.2.2.2.2.2.2.2.2.2.2.2.2.2.2.1) 25 R0.2.2.2.2.2.2.2.2.2.2.2.2.2.2.2.2.2.2.2.1) 26 R0.2.2.2.2.2.2.2.2.2.2.2.2.2.2.2.2.2.2.2.2) j) → ∃ R1, m_X10_isInSet F (X2 29) (X2 30) (X2 31) (X2 32) (X2 33) (X2 34) (X2 35) (X2 36) (X2 37) (X2 38) (X2 39) (X2 40) (X2 41) (X2 44) (X2 45) za1 za2 = some R1 ∧ ((up (up (up (up (up (up (up (up (up X2 29 R1.2.1) 36 R1.2.2.1) 37 R1.2.2.2.1) 38 R1.2.2.2.2.1) 39 R1.2.2.2.2.2.1) 40 R1.2.2.2.2.2.2.1) 41 R1.2.2.2.2.2.2.2.1) 44 R1.2.2.2.2.2.2.2.2.1) 45 R1.2.2.2.2.2.2.2.2.2) 29 0 = lkc R0.1 2) ∧ (R0.1 = 0 → R1.1 = R0.2.1) ∧ Sta F (up (up (up (up (up (up (up (up (up X2 29 R1.2.1) 36 R1.2.2.1) 37 R1.2.2.2.1) 38 R1.2.2.2.2.1) 39 R1.2.2.2.2.2.1) 40 R1.2.2.2.2.2.2.1) 41 R1.2.2.2.2.2.2.2.1) 44 R1.2.2.2.2.2.2.2.2.1) 45 R1.2.2.2.2.2.2.2.2.2) n := by
  obtain ⟨R, b1, b2, b3⟩ := built hF hS
  obtain ⟨m, hm, h5, h6', hT, hall⟩ := misFew hF b2 b3
  have h5 : R.2.1 5 = Int32.ofNat m := h5
  by_cases hd : R.2.1 6 = 0 ∧ m ≤ 14
  · have hle : R.2.1 5 ≤ 14 := by rw [h5]; exact (zn_le (b := 14) (by omega) (by omega)).mpr hd.2
    obtain ⟨q0, q25, q26, L, s1, s2, s3, s4⟩ := tried hF b2 b3 h5 hd.2 (hT hd.1)
    have hlen := s2.2.1
    by_cases h0 : za1 < 0
    · refine ⟨(3, 0, q0, R.2.1, R.2.2.1, R.2.2.2.1, R.2.2.2.2.1, R.2.2.2.2.2.1, R.2.2.2.2.2.2.1, R.2.2.2.2.2.2.2.1, R.2.2.2.2.2.2.2.2.1, R.2.2.2.2.2.2.2.2.2.1, R.2.2.2.2.2.2.2.2.2.2.1, R.2.2.2.2.2.2.2.2.2.2.2.1, R.2.2.2.2.2.2.2.2.2.2.2.2.1, R.2.2.2.2.2.2.2.2.2.2.2.2.2.1, R.2.2.2.2.2.2.2.2.2.2.2.2.2.2.1, R.2.2.2.2.2.2.2.2.2.2.2.2.2.2.2.1, R.2.2.2.2.2.2.2.2.2.2.2.2.2.2.2.2, q25, q26), ?_, Or.inr (Or.inr rfl), Or.inl rfl, fun X2 h2 => ?_⟩
      · unfold m_X9_isInSet
        rw [(ev_demandFew b1).1 hd.1 hle, Option.bind_some, if_pos rfl]
        show Option.bind (m_X9_trySets F (upB X R 0) (upB X R 16) (upB X R 19) (upB X R 20) (upB X R 23) (upB X R 24) (upB X R 25) (upB X R 26)) _ = _
        rw [s1, Option.bind_some, if_pos h0]
      · have h2 : ∀ j, j ≠ 46 → X2 j = (up (up (up (upB X R) 0 q0) 25 q25) 26 q26) j := fun j hj => (h2 j hj).trans (by rw [← upB_0q]; rfl)
        obtain ⟨t', q41, f1, f2, f3, f4, f5⟩ := (hall (upB X R 29) (upB X R 36) (upB X R 37) (upB X R 38) (upB X R 39) (upB X R 40) (upB X R 41) 1 b2.2.1).2 hd.1 hd.2
        have e29 : ∀ k, k ≠ 46 → 29 ≤ k → X2 k = upB X R k := fun k k1 k2 => by
          rw [h2 k k1, up_ne (by omega), up_ne (by omega), up_ne (by omega)]
        rw [e29 29 (by decide) (by decide), e29 30 (by decide) (by decide), e29 31 (by decide) (by decide), e29 32 (by decide) (by decide), e29 33 (by decide) (by decide), e29 34 (by decide) (by decide), e29 35 (by decide) (by decide), e29 36 (by decide) (by decide), e29 37 (by decide) (by decide), e29 38 (by decide) (by decide), e29 39 (by decide) (by decide), e29 40 (by decide) (by decide), e29 41 (by decide) (by decide), e29 44 (by decide) (by decide), e29 45 (by decide) (by decide)]
        obtain ⟨q44, q45, L', p1, p2, p3⟩ := prefers_all (F := F) (r29 := upd t'.1 0 0) (r41 := q41) (r44 := upB X R 44) (r45 := upB X R 45) hF ((upd08 (r := t'.1) (v := 0)).trans f1) hd.2
        rw [← AA_same f4] at p2
        have eL := isPL_eq s3 p2
        refine ⟨(0, upd (upd t'.1 0 0) 0 2, t'.2.1, t'.2.2.1, t'.2.2.2.1, t'.2.2.2.2.1, t'.2.2.2.2.2, q41, q44, q45), ?_, upd_at (upd t'.1 0 0) 0 2, fun q => absurd (show (3 : Nat) = 0 from q) (by decide), Sta_g9 h2 s4 ((upd02 (r := upd t'.1 0 0) (v := 2)).trans ((upd02 (r := t'.1) (v := 0)).trans f2))⟩
        have ez : (if za1 < 0 then some (2 : Int32) else (if Int32.ofNat L'.length ≤ za1 then some (2 : Int32) else (if za2 < 0 then some (2 : Int32) else (if upd t'.1 0 0 8 ≤ za2 then some (2 : Int32) else some 0)))) = some 2 := if_pos h0
        unfold m_X10_isInSet m_X10_passes
        rw [f5, Option.bind_some, if_neg zi_10, p1, Option.bind_some]
        show Option.bind (if za1 < 0 then some (2 : Int32) else (if Int32.ofNat L'.length ≤ za1 then some (2 : Int32) else (if za2 < 0 then some (2 : Int32) else (if upd t'.1 0 0 8 ≤ za2 then some (2 : Int32) else some 0)))) _ = _
        rw [ez, Option.bind_some, if_neg (by decide), Option.bind_some, if_pos rfl]
    · by_cases hl : Int32.ofNat L.length ≤ za1
      · have hnl : ¬ za1 < q25 1 := fun q => by
          rw [s2.1, Int32.lt_iff_toInt_lt] at q
          rw [Int32.le_iff_toInt_le] at hl
          omega
        refine ⟨(3, 0, q0, R.2.1, R.2.2.1, R.2.2.2.1, R.2.2.2.2.1, R.2.2.2.2.2.1, R.2.2.2.2.2.2.1, R.2.2.2.2.2.2.2.1, R.2.2.2.2.2.2.2.2.1, R.2.2.2.2.2.2.2.2.2.1, R.2.2.2.2.2.2.2.2.2.2.1, R.2.2.2.2.2.2.2.2.2.2.2.1, R.2.2.2.2.2.2.2.2.2.2.2.2.1, R.2.2.2.2.2.2.2.2.2.2.2.2.2.1, R.2.2.2.2.2.2.2.2.2.2.2.2.2.2.1, R.2.2.2.2.2.2.2.2.2.2.2.2.2.2.2.1, R.2.2.2.2.2.2.2.2.2.2.2.2.2.2.2.2, q25, q26), ?_, Or.inr (Or.inr rfl), Or.inl rfl, fun X2 h2 => ?_⟩
        · unfold m_X9_isInSet
          rw [(ev_demandFew b1).1 hd.1 hle, Option.bind_some, if_pos rfl]
          show Option.bind (m_X9_trySets F (upB X R 0) (upB X R 16) (upB X R 19) (upB X R 20) (upB X R 23) (upB X R 24) (upB X R 25) (upB X R 26)) _ = _
          rw [s1, Option.bind_some, if_neg h0, if_neg hnl]
        · have h2 : ∀ j, j ≠ 46 → X2 j = (up (up (up (upB X R) 0 q0) 25 q25) 26 q26) j := fun j hj => (h2 j hj).trans (by rw [← upB_0q]; rfl)
          obtain ⟨t', q41, f1, f2, f3, f4, f5⟩ := (hall (upB X R 29) (upB X R 36) (upB X R 37) (upB X R 38) (upB X R 39) (upB X R 40) (upB X R 41) 1 b2.2.1).2 hd.1 hd.2
          have e29 : ∀ k, k ≠ 46 → 29 ≤ k → X2 k = upB X R k := fun k k1 k2 => by
            rw [h2 k k1, up_ne (by omega), up_ne (by omega), up_ne (by omega)]
          rw [e29 29 (by decide) (by decide), e29 30 (by decide) (by decide), e29 31 (by decide) (by decide), e29 32 (by decide) (by decide), e29 33 (by decide) (by decide), e29 34 (by decide) (by decide), e29 35 (by decide) (by decide), e29 36 (by decide) (by decide), e29 37 (by decide) (by decide), e29 38 (by decide) (by decide), e29 39 (by decide) (by decide), e29 40 (by decide) (by decide), e29 41 (by decide) (by decide), e29 44 (by decide) (by decide), e29 45 (by decide) (by decide)]
          obtain ⟨q44, q45, L', p1, p2, p3⟩ := prefers_all (F := F) (r29 := upd t'.1 0 0) (r41 := q41) (r44 := upB X R 44) (r45 := upB X R 45) hF ((upd08 (r := t'.1) (v := 0)).trans f1) hd.2
          rw [← AA_same f4] at p2
          have eL := isPL_eq s3 p2
          refine ⟨(0, upd (upd t'.1 0 0) 0 2, t'.2.1, t'.2.2.1, t'.2.2.2.1, t'.2.2.2.2.1, t'.2.2.2.2.2, q41, q44, q45), ?_, upd_at (upd t'.1 0 0) 0 2, fun q => absurd (show (3 : Nat) = 0 from q) (by decide), Sta_g9 h2 s4 ((upd02 (r := upd t'.1 0 0) (v := 2)).trans ((upd02 (r := t'.1) (v := 0)).trans f2))⟩
          have ez : (if za1 < 0 then some (2 : Int32) else (if Int32.ofNat L'.length ≤ za1 then some (2 : Int32) else (if za2 < 0 then some (2 : Int32) else (if upd t'.1 0 0 8 ≤ za2 then some (2 : Int32) else some 0)))) = some 2 := by rw [if_neg h0, ← eL, if_pos hl]
          unfold m_X10_isInSet m_X10_passes
          rw [f5, Option.bind_some, if_neg zi_10, p1, Option.bind_some]
          show Option.bind (if za1 < 0 then some (2 : Int32) else (if Int32.ofNat L'.length ≤ za1 then some (2 : Int32) else (if za2 < 0 then some (2 : Int32) else (if upd t'.1 0 0 8 ≤ za2 then some (2 : Int32) else some 0)))) _ = _
          rw [ez, Option.bind_some, if_neg (by decide), Option.bind_some, if_pos rfl]
      · have hll : za1 < q25 1 := by
          rw [s2.1, Int32.lt_iff_toInt_lt]
          rw [Int32.le_iff_toInt_le] at hl
          omega
        by_cases ha : za2 < 0 ∨ Int32.ofNat m ≤ za2
        · refine ⟨(3, 0, q0, R.2.1, R.2.2.1, R.2.2.2.1, R.2.2.2.2.1, R.2.2.2.2.2.1, R.2.2.2.2.2.2.1, R.2.2.2.2.2.2.2.1, R.2.2.2.2.2.2.2.2.1, R.2.2.2.2.2.2.2.2.2.1, R.2.2.2.2.2.2.2.2.2.2.1, R.2.2.2.2.2.2.2.2.2.2.2.1, R.2.2.2.2.2.2.2.2.2.2.2.2.1, R.2.2.2.2.2.2.2.2.2.2.2.2.2.1, R.2.2.2.2.2.2.2.2.2.2.2.2.2.2.1, R.2.2.2.2.2.2.2.2.2.2.2.2.2.2.2.1, R.2.2.2.2.2.2.2.2.2.2.2.2.2.2.2.2, q25, q26), ?_, Or.inr (Or.inr rfl), Or.inl rfl, fun X2 h2 => ?_⟩
          · unfold m_X9_isInSet
            rw [(ev_demandFew b1).1 hd.1 hle, Option.bind_some, if_pos rfl]
            show Option.bind (m_X9_trySets F (upB X R 0) (upB X R 16) (upB X R 19) (upB X R 20) (upB X R 23) (upB X R 24) (upB X R 25) (upB X R 26)) _ = _
            rw [s1, Option.bind_some, if_neg h0, if_pos hll, (ev_demandArgument h5).1 ha, Option.bind_some, if_neg (show ¬ (3 : Nat) = 0 by decide)]
          · have h2 : ∀ j, j ≠ 46 → X2 j = (up (up (up (upB X R) 0 q0) 25 q25) 26 q26) j := fun j hj => (h2 j hj).trans (by rw [← upB_0q]; rfl)
            obtain ⟨t', q41, f1, f2, f3, f4, f5⟩ := (hall (upB X R 29) (upB X R 36) (upB X R 37) (upB X R 38) (upB X R 39) (upB X R 40) (upB X R 41) 1 b2.2.1).2 hd.1 hd.2
            have e29 : ∀ k, k ≠ 46 → 29 ≤ k → X2 k = upB X R k := fun k k1 k2 => by
              rw [h2 k k1, up_ne (by omega), up_ne (by omega), up_ne (by omega)]
            rw [e29 29 (by decide) (by decide), e29 30 (by decide) (by decide), e29 31 (by decide) (by decide), e29 32 (by decide) (by decide), e29 33 (by decide) (by decide), e29 34 (by decide) (by decide), e29 35 (by decide) (by decide), e29 36 (by decide) (by decide), e29 37 (by decide) (by decide), e29 38 (by decide) (by decide), e29 39 (by decide) (by decide), e29 40 (by decide) (by decide), e29 41 (by decide) (by decide), e29 44 (by decide) (by decide), e29 45 (by decide) (by decide)]
            obtain ⟨q44, q45, L', p1, p2, p3⟩ := prefers_all (F := F) (r29 := upd t'.1 0 0) (r41 := q41) (r44 := upB X R 44) (r45 := upB X R 45) hF ((upd08 (r := t'.1) (v := 0)).trans f1) hd.2
            rw [← AA_same f4] at p2
            have eL := isPL_eq s3 p2
            refine ⟨(0, upd (upd t'.1 0 0) 0 2, t'.2.1, t'.2.2.1, t'.2.2.2.1, t'.2.2.2.2.1, t'.2.2.2.2.2, q41, q44, q45), ?_, upd_at (upd t'.1 0 0) 0 2, fun q => absurd (show (3 : Nat) = 0 from q) (by decide), Sta_g9 h2 s4 ((upd02 (r := upd t'.1 0 0) (v := 2)).trans ((upd02 (r := t'.1) (v := 0)).trans f2))⟩
            have ez : (if za1 < 0 then some (2 : Int32) else (if Int32.ofNat L'.length ≤ za1 then some (2 : Int32) else (if za2 < 0 then some (2 : Int32) else (if upd t'.1 0 0 8 ≤ za2 then some (2 : Int32) else some 0)))) = some 2 := by
              rw [if_neg h0, ← eL, if_neg hl, upd08, f1]
              by_cases h2 : za2 < 0
              · rw [if_pos h2]
              · rw [if_neg h2, if_pos (ha.resolve_left h2)]
            unfold m_X10_isInSet m_X10_passes
            rw [f5, Option.bind_some, if_neg zi_10, p1, Option.bind_some]
            show Option.bind (if za1 < 0 then some (2 : Int32) else (if Int32.ofNat L'.length ≤ za1 then some (2 : Int32) else (if za2 < 0 then some (2 : Int32) else (if upd t'.1 0 0 8 ≤ za2 then some (2 : Int32) else some 0)))) _ = _
            rw [ez, Option.bind_some, if_neg (by decide), Option.bind_some, if_pos rfl]
        · obtain ⟨k, hk, ek⟩ := arg_of hm ha
          obtain ⟨i, hi0, ei⟩ := zn_of h0
          have hi : i < L.length := by
            apply Nat.lt_of_not_le
            intro q
            apply hl
            rw [ei, zn_le (by omega) hi0]
            exact q
          have hv : (if (L.getD i 0).testBit (m - 1 - k) = true then (1 : Int32) else 0) = 0 ∨ (if (L.getD i 0).testBit (m - 1 - k) = true then (1 : Int32) else 0) = 1 := by
            by_cases q : (L.getD i 0).testBit (m - 1 - k) = true
            · rw [if_pos q]; exact Or.inr rfl
            · rw [if_neg q]; exact Or.inl rfl
          refine ⟨(0, (if (L.getD i 0).testBit (m - 1 - k) = true then 1 else 0), q0, R.2.1, R.2.2.1, R.2.2.2.1, R.2.2.2.2.1, R.2.2.2.2.2.1, R.2.2.2.2.2.2.1, R.2.2.2.2.2.2.2.1, R.2.2.2.2.2.2.2.2.1, R.2.2.2.2.2.2.2.2.2.1, R.2.2.2.2.2.2.2.2.2.2.1, R.2.2.2.2.2.2.2.2.2.2.2.1, R.2.2.2.2.2.2.2.2.2.2.2.2.1, R.2.2.2.2.2.2.2.2.2.2.2.2.2.1, R.2.2.2.2.2.2.2.2.2.2.2.2.2.2.1, R.2.2.2.2.2.2.2.2.2.2.2.2.2.2.2.1, R.2.2.2.2.2.2.2.2.2.2.2.2.2.2.2.2, q25, q26), ?_, Or.inl rfl, hv, fun X2 h2 => ?_⟩
          · unfold m_X9_isInSet
            rw [(ev_demandFew b1).1 hd.1 hle, Option.bind_some, if_pos rfl]
            show Option.bind (m_X9_trySets F (upB X R 0) (upB X R 16) (upB X R 19) (upB X R 20) (upB X R 23) (upB X R 24) (upB X R 25) (upB X R 26)) _ = _
            rw [s1, Option.bind_some, if_neg h0, if_pos hll, (ev_demandArgument h5).2 ha, Option.bind_some, if_pos rfl, ei, ek, ev_contains hd.2 s2 hi hk, Option.bind_some, if_pos hv]
          · have h2 : ∀ j, j ≠ 46 → X2 j = (up (up (up (upB X R) 0 q0) 25 q25) 26 q26) j := fun j hj => (h2 j hj).trans (by rw [← upB_0q]; rfl)
            obtain ⟨t', q41, f1, f2, f3, f4, f5⟩ := (hall (upB X R 29) (upB X R 36) (upB X R 37) (upB X R 38) (upB X R 39) (upB X R 40) (upB X R 41) 1 b2.2.1).2 hd.1 hd.2
            have e29 : ∀ k, k ≠ 46 → 29 ≤ k → X2 k = upB X R k := fun k k1 k2 => by
              rw [h2 k k1, up_ne (by omega), up_ne (by omega), up_ne (by omega)]
            rw [e29 29 (by decide) (by decide), e29 30 (by decide) (by decide), e29 31 (by decide) (by decide), e29 32 (by decide) (by decide), e29 33 (by decide) (by decide), e29 34 (by decide) (by decide), e29 35 (by decide) (by decide), e29 36 (by decide) (by decide), e29 37 (by decide) (by decide), e29 38 (by decide) (by decide), e29 39 (by decide) (by decide), e29 40 (by decide) (by decide), e29 41 (by decide) (by decide), e29 44 (by decide) (by decide), e29 45 (by decide) (by decide)]
            obtain ⟨q44, q45, L', p1, p2, p3⟩ := prefers_all (F := F) (r29 := upd t'.1 0 0) (r41 := q41) (r44 := upB X R 44) (r45 := upB X R 45) hF ((upd08 (r := t'.1) (v := 0)).trans f1) hd.2
            have p2' := p2
            rw [← AA_same f4] at p2
            have eL := isPL_eq s3 p2
            subst eL
            refine ⟨((if (L.getD i 0).testBit (m - 1 - k) = true then 1 else 0), upd (upd t'.1 0 0) 0 0, t'.2.1, t'.2.2.1, t'.2.2.2.1, t'.2.2.2.2.1, t'.2.2.2.2.2, q41, q44, q45), ?_, upd_at (upd t'.1 0 0) 0 0, fun _ => rfl, Sta_g9 h2 s4 ((upd02 (r := upd t'.1 0 0) (v := 0)).trans ((upd02 (r := t'.1) (v := 0)).trans f2))⟩
            have h88 : upd (upd t'.1 0 0) 0 0 8 = Int32.ofNat m := (upd08 (r := upd t'.1 0 0) (v := 0)).trans ((upd08 (r := t'.1) (v := 0)).trans f1)
            have ez : (if za1 < 0 then some (2 : Int32) else (if Int32.ofNat L.length ≤ za1 then some (2 : Int32) else (if za2 < 0 then some (2 : Int32) else (if upd t'.1 0 0 8 ≤ za2 then some (2 : Int32) else some 0)))) = some 0 := by
              rw [if_neg h0, if_neg hl, upd08, f1, if_neg (fun q => ha (Or.inl q)), if_neg (fun q => ha (Or.inr q))]
            unfold m_X10_isInSet m_X10_passes
            rw [f5, Option.bind_some, if_neg zi_10, p1, Option.bind_some]
            show Option.bind (if za1 < 0 then some (2 : Int32) else (if Int32.ofNat L.length ≤ za1 then some (2 : Int32) else (if za2 < 0 then some (2 : Int32) else (if upd t'.1 0 0 8 ≤ za2 then some (2 : Int32) else some 0)))) _ = _
            rw [ez, Option.bind_some, if_pos rfl, Option.bind_some, if_neg zi_10, ei, ek, setAt_all hF h88 hd.2 p2' p3 hi, Option.bind_some, ev_has2 h88 hd.2 hk, Option.bind_some]
            by_cases q : (L.getD i 0).testBit (m - 1 - k) = true
            · rw [if_pos q, if_neg zi_10]
            · rw [if_neg q, if_pos rfl]
  · have hnf : ¬ (R.2.1 6 = 0 ∧ R.2.1 5 ≤ 14) := fun q => hd ⟨q.1, by
      have q2 := q.2
      rw [h5] at q2
      exact (zn_le (b := 14) (by omega) (by omega)).mp q2⟩
    refine ⟨(2, 0, R.1, R.2.1, R.2.2.1, R.2.2.2.1, R.2.2.2.2.1, R.2.2.2.2.2.1, R.2.2.2.2.2.2.1, R.2.2.2.2.2.2.2.1, R.2.2.2.2.2.2.2.2.1, R.2.2.2.2.2.2.2.2.2.1, R.2.2.2.2.2.2.2.2.2.2.1, R.2.2.2.2.2.2.2.2.2.2.2.1, R.2.2.2.2.2.2.2.2.2.2.2.2.1, R.2.2.2.2.2.2.2.2.2.2.2.2.2.1, R.2.2.2.2.2.2.2.2.2.2.2.2.2.2.1, R.2.2.2.2.2.2.2.2.2.2.2.2.2.2.2.1, R.2.2.2.2.2.2.2.2.2.2.2.2.2.2.2.2, X 25, X 26), ?_, Or.inr (Or.inl rfl), Or.inl rfl, fun X2 h2 => ?_⟩
    · unfold m_X9_isInSet
      rw [(ev_demandFew b1).2 hnf, Option.bind_some, if_neg (show ¬ (2 : Nat) = 0 by decide)]
    · have h2 : ∀ j, j ≠ 46 → X2 j = upB X R j := fun j hj => (h2 j hj).trans (by
        have e1 : up (upB X R) 25 (X 25) = upB X R := up_self (upB X R) 25
        have e2 : up (upB X R) 26 (X 26) = upB X R := up_self (upB X R) 26
        show (up (up (upB X R) 25 (X 25)) 26 (X 26)) j = upB X R j
        rw [e1, e2])
      obtain ⟨t', f2, f1⟩ := (hall (upB X R 29) (upB X R 36) (upB X R 37) (upB X R 38) (upB X R 39) (upB X R 40) (upB X R 41) 1 b2.2.1).1 hd
      rw [h2 29 (by decide), h2 30 (by decide), h2 31 (by decide), h2 32 (by decide), h2 33 (by decide), h2 34 (by decide), h2 35 (by decide), h2 36 (by decide), h2 37 (by decide), h2 38 (by decide), h2 39 (by decide), h2 40 (by decide), h2 41 (by decide), h2 44 (by decide), h2 45 (by decide)]
      refine ⟨(0, upd t'.1 0 1, t'.2.1, t'.2.2.1, t'.2.2.2.1, t'.2.2.2.2.1, t'.2.2.2.2.2, upB X R 41, upB X R 44, upB X R 45), ?_, upd_at t'.1 0 1, fun q => absurd (show (2 : Nat) = 0 from q) (by decide), Sta_g9 h2 b2 ((upd02 (r := t'.1) (v := 1)).trans f2)⟩
      unfold m_X10_isInSet
      rw [f1, Option.bind_some, if_pos rfl]
theorem st_setsFor {F n : Nat} {X : Nat → Nat → Int32} (hF : 20000 ≤ F) (hS : Sta F X n) (za1 : Int32) : ∃ R0, m_X9_setsFor F X (X 0) (X 2) (X 4) (X 6) (X 7) (X 8) (X 9) (X 10) (X 11) (X 13) (X 14) (X 15) (X 16) (X 18) (X 19) (X 20) (X 22) (X 23) (X 24) (X 25) (X 26) za1 = some R0 ∧ (R0.1 = 0 ∨ R0.1 = 1 ∨ R0.1 = 2) ∧ ∀ X2 : Nat → Nat → Int32, (∀ j, j ≠ 46 → X2 j = (up (up (up (up (up (up (up (up (up (up (up (up (up (up (up (up (up (up (up X 0 R0.2.2.1) 6 R0.2.2.2.1) 7 R0.2.2.2.2.1) 8 R0.2.2.2.2.2.1) 9 R0.2.2.2.2.2.2.1) 10 R0.2.2.2.2.2.2.2.1) 11 R0.2.2.2.2.2.2.2.2.1) 13 R0.2.2.2.2.2.2.2.2.2.1) 14 R0.2.2.2.2.2.2.2.2.2.2.1) 15 R0.2.2.2.2.2.2.2.2.2.2.2.1) 16 R0.2.2.2.2.2.2.2.2.2.2.2.2.1) 18 R0.2.2.2.2.2.2.2.2.2.2.2.2.2.1) 19 R0.2.2.2.2.2.2.2.2.2.2.2.2.2.2.1) 20 R0.2.2.2.2.2.2.2.2.2.2.2.2.2.2.2.1) 22 R0.2.2.2.2.2.2.2.2.2.2.2.2.2.2.2.2.1) 23 R0.2.2.2.2.2.2.2.2.2.2.2.2.2.2.2.2.2.1) 24 R0.2.2.2.2.2.2.2.2.2.2.2.2.2.2.2.2.2.2.1) 25 R0.2.2.2.2.2.2.2.2.2.2.2.2.2.2.2.2.2.2.2.1) 26 R0.2.2.2.2.2.2.2.2.2.2.2.2.2.2.2.2.2.2.2.2) j) → ∃ R1, m_X10_setsFor F (X2 29) (X2 30) (X2 31) (X2 32) (X2 33) (X2 34) (X2 35) (X2 36) (X2 37) (X2 38) (X2 39) (X2 40) (X2 41) (X2 44) (X2 45) za1 = some R1 ∧ ((up (up (up (up (up (up (up (up (up X2 29 R1.2.1) 36 R1.2.2.1) 37 R1.2.2.2.1) 38 R1.2.2.2.2.1) 39 R1.2.2.2.2.2.1) 40 R1.2.2.2.2.2.2.1) 41 R1.2.2.2.2.2.2.2.1) 44 R1.2.2.2.2.2.2.2.2.1) 45 R1.2.2.2.2.2.2.2.2.2) 29 0 = lkc R0.1 1) ∧ (R0.1 = 0 → R1.1 = R0.2.1) ∧ Sta F (up (up (up (up (up (up (up (up (up X2 29 R1.2.1) 36 R1.2.2.1) 37 R1.2.2.2.1) 38 R1.2.2.2.2.1) 39 R1.2.2.2.2.2.1) 40 R1.2.2.2.2.2.2.1) 41 R1.2.2.2.2.2.2.2.1) 44 R1.2.2.2.2.2.2.2.2.1) 45 R1.2.2.2.2.2.2.2.2.2) n := by
  rcases ev_dL (F := F) za1 with ⟨j, hj, hj10, ej, q1, q2⟩ | ⟨q1, q2⟩
  · obtain ⟨R, b1, b2, b3⟩ := built hF hS
    obtain ⟨m, hm, h5, h6', hT, hall⟩ := misFew hF b2 b3
    have h5 : R.2.1 5 = Int32.ofNat m := h5
    have g29 : upd (upB X R 29) 0 0 2 = Int32.ofNat n := (upd02 (r := upB X R 29) (v := 0)).trans b2.2.1
    by_cases hd : R.2.1 6 = 0 ∧ m ≤ 14
    · have hle : R.2.1 5 ≤ 14 := by rw [h5]; exact (zn_le (b := 14) (by omega) (by omega)).mpr hd.2
      obtain ⟨q0, q25, q26, L, s1, s2, s3, s4⟩ := tried hF b2 b3 h5 hd.2 (hT hd.1)
      refine ⟨(0, Int32.ofNat (cnb (fun i => anf (fun k => decide (R.2.2.1 k = za1) && (L.getD i 0).testBit (m - 1 - k)) m 0) L.length), q0, R.2.1, R.2.2.1, R.2.2.2.1, R.2.2.2.2.1, R.2.2.2.2.2.1, R.2.2.2.2.2.2.1, R.2.2.2.2.2.2.2.1, R.2.2.2.2.2.2.2.2.1, R.2.2.2.2.2.2.2.2.2.1, R.2.2.2.2.2.2.2.2.2.2.1, R.2.2.2.2.2.2.2.2.2.2.2.1, R.2.2.2.2.2.2.2.2.2.2.2.2.1, R.2.2.2.2.2.2.2.2.2.2.2.2.2.1, R.2.2.2.2.2.2.2.2.2.2.2.2.2.2.1, R.2.2.2.2.2.2.2.2.2.2.2.2.2.2.2.1, R.2.2.2.2.2.2.2.2.2.2.2.2.2.2.2.2, q25, q26), ?_, Or.inl rfl, fun X2 h2 => ?_⟩
      · unfold m_X9_setsFor
        rw [q1, Option.bind_some, if_pos rfl, (ev_demandFew b1).1 hd.1 hle, Option.bind_some, if_pos rfl]
        show Option.bind (m_X9_trySets F (upB X R 0) (upB X R 16) (upB X R 19) (upB X R 20) (upB X R 23) (upB X R 24) (upB X R 25) (upB X R 26)) _ = _
        rw [s1, Option.bind_some]
        exact cl_setsFor hF hd.2 h5 s2
      · have h2 : ∀ j, j ≠ 46 → X2 j = (up (up (up (upB X R) 0 q0) 25 q25) 26 q26) j := fun j hj => (h2 j hj).trans (by rw [← upB_0q]; rfl)
        obtain ⟨t', q41, f1, f2, f3, f4, f5⟩ := (hall (upd (upB X R 29) 0 0) (upB X R 36) (upB X R 37) (upB X R 38) (upB X R 39) (upB X R 40) (upB X R 41) 2 g29).2 hd.1 hd.2
        have e29 : ∀ k, k ≠ 46 → 29 ≤ k → X2 k = upB X R k := fun k k1 k2 => by
          rw [h2 k k1, up_ne (by omega), up_ne (by omega), up_ne (by omega)]
        rw [e29 29 (by decide) (by decide), e29 30 (by decide) (by decide), e29 31 (by decide) (by decide), e29 32 (by decide) (by decide), e29 33 (by decide) (by decide), e29 34 (by decide) (by decide), e29 35 (by decide) (by decide), e29 36 (by decide) (by decide), e29 37 (by decide) (by decide), e29 38 (by decide) (by decide), e29 39 (by decide) (by decide), e29 40 (by decide) (by decide), e29 41 (by decide) (by decide), e29 44 (by decide) (by decide), e29 45 (by decide) (by decide)]
        have h8' : upd t'.1 0 0 8 = Int32.ofNat m := (upd08 (r := t'.1) (v := 0)).trans f1
        obtain ⟨q44, q45, L', p1, p2, p3⟩ := prefers_all (F := F) (r29 := upd t'.1 0 0) (r41 := q41) (r44 := upB X R 44) (r45 := upB X R 45) hF ((upd08 (r := t'.1) (v := 0)).trans f1) hd.2
        have p2' := p2
        rw [← AA_same f4] at p2
        have eL := isPL_eq s3 p2
        subst eL
        refine ⟨(Int32.ofNat (cnb (fun i => anf (fun k => decide (t'.2.1 k = za1) && (L.getD i 0).testBit (m - 1 - k)) m 0) L.length), upd t'.1 0 0, t'.2.1, t'.2.2.1, t'.2.2.2.1, t'.2.2.2.2.1, t'.2.2.2.2.2, q41, q44, q45), ?_, upd_at t'.1 0 0, fun _ => ?_, Sta_g9 h2 s4 ((upd02 (r := t'.1) (v := 0)).trans f2)⟩
        · unfold m_X10_setsFor m_X10_passes
          rw [q2, Option.bind_some, if_neg zi_10, Option.bind_some, if_pos rfl, Option.bind_some, if_neg zi_10, f5, Option.bind_some, if_neg zi_10, p1, Option.bind_some]
          exact ml_setsFor hF hd.2 h8' p2' p3
        · show Int32.ofNat (cnb (fun i => anf (fun k => decide (t'.2.1 k = za1) && (L.getD i 0).testBit (m - 1 - k)) m 0) L.length) = Int32.ofNat (cnb (fun i => anf (fun k => decide (R.2.2.1 k = za1) && (L.getD i 0).testBit (m - 1 - k)) m 0) L.length)
          congr 1
          refine cnb_same _ (fun i _ => anf_same m 0 (fun k _ hk => ?_))
          have e1 : R.2.2.1 k = t'.2.1 k := f3 k (by omega)
          rw [e1]
    · have hnf : ¬ (R.2.1 6 = 0 ∧ R.2.1 5 ≤ 14) := fun q => hd ⟨q.1, by
        have q2 := q.2
        rw [h5] at q2
        exact (zn_le (b := 14) (by omega) (by omega)).mp q2⟩
      refine ⟨(2, 0, R.1, R.2.1, R.2.2.1, R.2.2.2.1, R.2.2.2.2.1, R.2.2.2.2.2.1, R.2.2.2.2.2.2.1, R.2.2.2.2.2.2.2.1, R.2.2.2.2.2.2.2.2.1, R.2.2.2.2.2.2.2.2.2.1, R.2.2.2.2.2.2.2.2.2.2.1, R.2.2.2.2.2.2.2.2.2.2.2.1, R.2.2.2.2.2.2.2.2.2.2.2.2.1, R.2.2.2.2.2.2.2.2.2.2.2.2.2.1, R.2.2.2.2.2.2.2.2.2.2.2.2.2.2.1, R.2.2.2.2.2.2.2.2.2.2.2.2.2.2.2.1, R.2.2.2.2.2.2.2.2.2.2.2.2.2.2.2.2, X 25, X 26), ?_, Or.inr (Or.inr rfl), fun X2 h2 => ?_⟩
      · unfold m_X9_setsFor
        rw [q1, Option.bind_some, if_pos rfl, (ev_demandFew b1).2 hnf, Option.bind_some, if_neg (show ¬ (2 : Nat) = 0 by decide)]
      · have h2 : ∀ j, j ≠ 46 → X2 j = upB X R j := fun j hj => (h2 j hj).trans (by
          have e1 : up (upB X R) 25 (X 25) = upB X R := up_self (upB X R) 25
          have e2 : up (upB X R) 26 (X 26) = upB X R := up_self (upB X R) 26
          show (up (up (upB X R) 25 (X 25)) 26 (X 26)) j = upB X R j
          rw [e1, e2])
        obtain ⟨t', f2, f1⟩ := (hall (upd (upB X R 29) 0 0) (upB X R 36) (upB X R 37) (upB X R 38) (upB X R 39) (upB X R 40) (upB X R 41) 2 g29).1 hd
        rw [h2 29 (by decide), h2 30 (by decide), h2 31 (by decide), h2 32 (by decide), h2 33 (by decide), h2 34 (by decide), h2 35 (by decide), h2 36 (by decide), h2 37 (by decide), h2 38 (by decide), h2 39 (by decide), h2 40 (by decide), h2 41 (by decide), h2 44 (by decide), h2 45 (by decide)]
        refine ⟨(0, upd t'.1 0 2, t'.2.1, t'.2.2.1, t'.2.2.2.1, t'.2.2.2.2.1, t'.2.2.2.2.2, upB X R 41, upB X R 44, upB X R 45), ?_, upd_at t'.1 0 2, fun q => absurd (show (2 : Nat) = 0 from q) (by decide), Sta_g9 h2 b2 ((upd02 (r := t'.1) (v := 2)).trans f2)⟩
        unfold m_X10_setsFor m_X10_passes
        rw [q2, Option.bind_some, if_neg zi_10, Option.bind_some, if_pos rfl, Option.bind_some, if_neg zi_10, f1, Option.bind_some, if_pos rfl]
  · refine ⟨(1, 0, X 0, X 6, X 7, X 8, X 9, X 10, X 11, X 13, X 14, X 15, X 16, X 18, X 19, X 20, X 22, X 23, X 24, X 25, X 26), ?_, Or.inr (Or.inl rfl), fun X2 h2 => ?_⟩
    · unfold m_X9_setsFor
      rw [q1, Option.bind_some, if_neg (by decide)]
    · have h2 : ∀ j, j ≠ 46 → X2 j = X j := fun j hj => (h2 j hj).trans (by
        show (up (up (upB X (X 0, X 6, X 7, X 8, X 9, X 10, X 11, X 13, X 14, X 15, X 16, X 18, X 19, X 20, X 22, X 23, X 24)) 25 (X 25)) 26 (X 26)) j = X j
        rw [upB_self, up_self, up_self])
      rw [h2 29 (by decide), h2 30 (by decide), h2 31 (by decide), h2 32 (by decide), h2 33 (by decide), h2 34 (by decide), h2 35 (by decide), h2 36 (by decide), h2 37 (by decide), h2 38 (by decide), h2 39 (by decide), h2 40 (by decide), h2 41 (by decide), h2 44 (by decide), h2 45 (by decide)]
      refine ⟨(0, upd (X 29) 0 1, X 36, X 37, X 38, X 39, X 40, X 41, X 44, X 45), ?_, upd_at (X 29) 0 1, fun q => absurd (show (1 : Nat) = 0 from q) (by decide), Sta_g9 h2 hS ((upd02 (r := X 29) (v := 1)).trans hS.2.1)⟩
      unfold m_X10_setsFor m_X10_passes
      rw [q2, Option.bind_some, if_pos rfl, Option.bind_some, if_neg zi_10, Option.bind_some, if_pos rfl]

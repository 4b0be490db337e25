/-- built: the class's rows and the model's -/
def BB (ρn : Nat) (r31 e29 : Nat → Int32) (s t : Six) : Prop := ∃ n, simB n s.1 s.2.1 s.2.2.1 s.2.2.2.1 s.2.2.2.2.1 t.1 t.2.1 t.2.2.1 t.2.2.2.1 t.2.2.2.2.1 ∧ validB ρn n r31 t.2.1 t.2.2.1 t.2.2.2.1 t.2.2.2.2.1 t.2.2.2.2.2 ∧ reachB n t.2.1 t.2.2.2.2.2 s.2.2.2.2.2 ∧ (∀ k, k ≠ 8 → k ≠ 9 → t.1 k = e29 k)
theorem lit_ne {j : Nat} (h : j < 21) (h1 : j ≠ 10) : lit j ≠ 0 := fun q => h1 ((lit_zero h).mp q)
theorem zn_12 {d : Nat} (h : d ≤ 12) : ¬ (12 : Int32) < Int32.ofNat d := by
  have : ∀ d, d < 13 → ¬ (12 : Int32) < Int32.ofNat d := by decide
  exact this d (by omega)
theorem depths_run {F ρn : Nat} {RR : Nat → Nat → Int32} {r4 r31 r32 r33 r34 r35 e29 : Nat → Int32} (hF : 20000 ≤ F) (hρn : ρn ≤ 12) (hr4 : r4 2 = Int32.ofNat ρn) (he2 : e29 2 = Int32.ofNat ρn) (hru : ruR ρn RR r31 r32 r33 r34 r35) :
    ∀ (r dp : Nat) (xb : Int32) (s t : Six), 1 ≤ dp → dp + r = 13 → BB ρn r31 e29 s t → (dp = 1 ∨ ¬ t.1 8 ≤ xb) → ∃ s' t', BB ρn r31 e29 s' t' ∧ (∀ f, m_X0_build_L45 F RR r4 (f + r + 1) (Int32.ofNat dp) s.1 s.2.1 s.2.2.1 s.2.2.2.1 s.2.2.2.2.1 s.2.2.2.2.2 = some s') ∧ (∀ f, m_X10_builds_L56 F r31 r32 r35 (f + r + 3) (Int32.ofNat dp) xb t.1 t.2.1 t.2.2.1 t.2.2.2.1 t.2.2.2.2.1 t.2.2.2.2.2 = some t') := by
  intro r
  induction r with
  | zero =>
    intro dp xb s t hd1 hd hB hx
    obtain ⟨n, h1, h2, h3, h5⟩ := hB
    have hsim := h1
    obtain ⟨hn, i2, i3, i4, i5, i6⟩ := h1
    have hd : dp = 13 := hd
    subst hd
    refine ⟨s, t, ⟨n, hsim, h2, h3, h5⟩, fun f => ?_, fun f => ?_⟩
    · rw [m_X0_build_L45, if_pos (by decide)]
    · by_cases hfl : t.1 9 = 0
      · obtain ⟨s1, t1, g1, -, ⟨z, g3⟩⟩ := rules_run (F := F) (ρn := ρn) (dp := 13) (K := n) (RR := RR) (r4 := r4) (r31 := r31) (r32 := r32) (r33 := r33) (r34 := r34) (r35 := r35) (s0 := s) (t0 := t) hF hρn hr4 ((h5 2 (by decide) (by decide)).trans he2) hru hn (fun k hk => by
          obtain ⟨⟨j, j1, j2, j3⟩, -⟩ := h2 k hk
          rw [j3]; exact lit_ne j1 j2) (by omega) (by omega) (s := s) (t := t) ⟨n, hsim, h2, h3, Nat.le_refl n, fun k _ _ => rfl, fun k _ => rfl, fun _ => ⟨rfl, rfl⟩⟩
        obtain ⟨n1, -, -, -, -, -, -, g4⟩ := g1
        obtain ⟨g5, g6⟩ := g4 (by omega)
        rw [g6, ← i3] at g3
        have hx2 : ¬ t.1 8 ≤ xb := hx.resolve_left (by decide)
        rw [m_X10_builds_L56, if_pos hfl, if_neg (by decide), if_neg hx2, g3, Option.bind_some, m_X10_builds_L56, if_pos hfl, if_neg (by decide), if_pos (Int32.le_refl _)]
      · rw [m_X10_builds_L56, if_neg hfl]
  | succ r ih =>
    intro dp xb s t hd1 hd hB hx
    obtain ⟨n, h1, h2, h3, h5⟩ := hB
    have hsim := h1
    obtain ⟨hn, i2, i3, i4, i5, i6⟩ := h1
    by_cases hfl : t.1 9 = 0
    · obtain ⟨s1, t1, g1, ⟨z1, g2⟩, ⟨z, g3⟩⟩ := rules_run (F := F) (ρn := ρn) (dp := dp) (K := n) (RR := RR) (r4 := r4) (r31 := r31) (r32 := r32) (r33 := r33) (r34 := r34) (r35 := r35) (s0 := s) (t0 := t) hF hρn hr4 ((h5 2 (by decide) (by decide)).trans he2) hru hn (fun k hk => by
        obtain ⟨⟨j, j1, j2, j3⟩, -⟩ := h2 k hk
        rw [j3]; exact lit_ne j1 j2) (by omega) (by omega) (s := s) (t := t) ⟨n, hsim, h2, h3, Nat.le_refl n, fun k _ _ => rfl, fun k _ => rfl, fun _ => ⟨rfl, rfl⟩⟩
      obtain ⟨n1, q1, q2, q3, q4, q5, q6, q7⟩ := g1
      have hB1 : BB ρn r31 e29 s1 t1 := ⟨n1, q1, q2, q3, fun k k1 k2 => (q5 k k1 k2).trans (h5 k k1 k2)⟩
      obtain ⟨hn1, u2, u3, u4, u5, u6⟩ := q1
      rw [← i2] at g2
      rw [← i3] at g3
      have hd1' : Int32.ofNat dp + 1 = Int32.ofNat (dp + 1) := zn_add dp 1
      have hsfl : s.1 6 = 0 := i4.trans hfl
      -- the model's round
      have hM : ∀ f, m_X10_builds_L56 F r31 r32 r35 (f + 1) (Int32.ofNat dp) xb t.1 t.2.1 t.2.2.1 t.2.2.2.1 t.2.2.2.2.1 t.2.2.2.2.2 = m_X10_builds_L56 F r31 r32 r35 f (Int32.ofNat (dp + 1)) (t.1 8) t1.1 t1.2.1 t1.2.2.1 t1.2.2.2.1 t1.2.2.2.2.1 t1.2.2.2.2.2 := fun f => by
        rw [m_X10_builds_L56, if_pos hfl, hd1']
        by_cases q : Int32.ofNat dp = 1
        · rw [if_pos q, g3, Option.bind_some]
        · have hx2 : ¬ t.1 8 ≤ xb := hx.resolve_left (fun w => q (by rw [w]; rfl))
          rw [if_neg q, if_neg hx2, g3, Option.bind_some]
      by_cases hc : n1 = n
      · refine ⟨s1, t1, hB1, fun f => ?_, fun f => ?_⟩
        · rw [m_X0_build_L45, if_neg (zn_12 (by omega)), if_pos hsfl, g2, Option.bind_some, if_pos (by rw [u2, i2, hc])]
        · rw [show f + (r + 1) + 3 = (f + r + 2) + 1 + 1 by omega, hM, m_X10_builds_L56]
          by_cases hfl1 : t1.1 9 = 0
          · rw [if_pos hfl1, if_neg (fun q => by
              have h1 : Int32.ofNat (dp + 1) = Int32.ofNat 1 := q
              have := (zn_eq (by omega) (by omega)).mp h1
              omega), if_pos (by rw [u3, i3, hc]; exact Int32.le_refl _)]
          · rw [if_neg hfl1]
      · obtain ⟨s2, t2, w1, w2, w3⟩ := ih (dp + 1) (t.1 8) s1 t1 (by omega) (by omega) hB1 (Or.inr (by rw [u3, i3, zn_le (by omega) (by omega)]; omega))
        refine ⟨s2, t2, w1, fun f => ?_, fun f => ?_⟩
        · rw [show f + (r + 1) + 1 = (f + r + 1) + 1 by omega, m_X0_build_L45, if_neg (zn_12 (by omega)), if_pos hsfl, g2, Option.bind_some, if_neg (by rw [u2, i2, zn_eq (by omega) (by omega)]; exact hc), hd1', w2]
        · rw [show f + (r + 1) + 3 = (f + r + 3) + 1 by omega, hM, w3]
    · have hsfl : ¬ s.1 6 = 0 := fun q => hfl (i4.symm.trans q)
      refine ⟨s, t, ⟨n, hsim, h2, h3, h5⟩, fun f => ?_, fun f => ?_⟩
      · rw [m_X0_build_L45, if_neg (zn_12 (by omega)), if_neg hsfl]
      · rw [show f + (r + 1) + 3 = (f + r + 3) + 1 by omega, m_X10_builds_L56, if_neg hfl]
/-- the facts of the class and of the model -/
def faR (r2 r30 : Nat → Int32) : Prop := ∀ j, j < 21 → r2 j = r30 j ∧ (r30 j = 0 ∨ r30 j = 1) ∧ (j = 10 → r30 j = 0)
theorem ev_has {F j : Nat} {r2 r30 : Nat → Int32} (hfa : faR r2 r30) (hj : j < 21) : m_X2_has F r2 (lit j) = some (r30 j) := by
  obtain ⟨h1, h2, h3⟩ := hfa j hj
  unfold m_X2_has m_X9_isLiteralOrNone
  rw [if_neg (lit_in hj).1, if_neg (lit_in hj).2, Option.bind_some, if_neg zi_10, lit_10 hj, if_pos (zn_ok hj (by omega)), zn_nat (by omega), h1]
  rcases h2 with h2 | h2
  · rw [if_pos h2, h2]
  · rw [if_neg (by rw [h2]; decide), h2]
theorem lit_nx {j : Nat} (h : j < 21) : lit j + 1 = lit (j + 1) := by
  have : ∀ j, j < 21 → lit j + 1 = lit (j + 1) := by decide
  exact this j h
theorem fact_step {F ρn j : Nat} {r31 : Nat → Int32} {s0 t0 s t : Six} (hj : j < 21) (hj10 : j ≠ 10) (hR : RlB ρn 0 0 r31 s0 t0 s t) :
    ∃ s' t' : Six, RlB ρn 0 0 r31 s0 t0 s' t' ∧ m_X0_add F s.1 s.2.1 s.2.2.1 s.2.2.2.1 s.2.2.2.2.1 s.2.2.2.2.2 (lit j) (-1) 0 (-1) (-1) (-1) = some s' ∧ m_X10_lays F t.1 t.2.1 t.2.2.1 t.2.2.2.1 t.2.2.2.2.1 t.2.2.2.2.2 (lit j) (-1) (-1) (-1) (-1) 0 = some t' := by
  obtain ⟨n, h1, h2, h3, h4, h5, h6, h7⟩ := hR
  have hsim := h1
  obtain ⟨hn, i2, i3, i4, i5, i6⟩ := h1
  by_cases hfull : n < 24
  · refine ⟨_, _, ?_, ev_add (a := none) (b := none) (c := none) i2 hfull hj (pok_none _) (pok_none _) (pok_none _), ev_lays (a := none) (b := none) (c := none) i3 hfull (pok_none _) (pok_none _) (pok_none _)⟩
    refine ⟨n + 1, simB_add hsim hfull, validB_add h2 hfull hj hj10 (pok_none _) (pok_none _) (pok_none _) (Or.inl rfl) ⟨[], List.nodup_nil, rfl, fun ρ h => by cases h⟩, reachB_add h2 h3 hfull hj (pok_none _) (pok_none _) (pok_none _), by omega, fun k k1 k2 => ?_, fun k k1 => by omega, fun q => by omega⟩
    show upd t.1 8 _ k = _
    rw [upd_ne k1]; exact h5 k k1 k2
  · have h24 : n = 24 := by omega
    subst h24
    refine ⟨_, _, ?_, ev_add_full i2, ev_lays_full i3⟩
    refine ⟨24, simB_full hsim, h2, h3, h4, fun k k1 k2 => ?_, h6, fun q => by omega⟩
    show upd t.1 9 _ k = _
    rw [upd_ne k2]; exact h5 k k1 k2
theorem facts_run {F ρn : Nat} {r2 r30 r31 : Nat → Int32} {s0 t0 s t : Six} (hF : 20000 ≤ F) (hfa : faR r2 r30) (hR : RlB ρn 0 0 r31 s0 t0 s t) :
    ∃ s' t', RlB ρn 0 0 r31 s0 t0 s' t' ∧ m_X0_build_L13 F r2 F (-10) s.1 s.2.1 s.2.2.1 s.2.2.2.1 s.2.2.2.2.1 s.2.2.2.2.2 = some (lit 21, s') ∧ m_X10_builds_L13 F r30 F (-10) t.1 t.2.1 t.2.2.1 t.2.2.2.1 t.2.2.2.2.1 t.2.2.2.2.2 = some (lit 21, t') := by
  have key := join (LC := fun f x (s : Six) => m_X0_build_L13 F r2 f x s.1 s.2.1 s.2.2.1 s.2.2.2.1 s.2.2.2.2.1 s.2.2.2.2.2) (LM := fun f x (t : Six) => m_X10_builds_L13 F r30 f x t.1 t.2.1 t.2.2.1 t.2.2.2.1 t.2.2.2.2.1 t.2.2.2.2.2) (Rl := RlB ρn 0 0 r31 s0 t0) (ix := lit) (K := 21) ?_ 21 0 s t (by omega) hR
  · obtain ⟨s', t', q1, q2, q3⟩ := key
    have a2 := q2 (F - 22 + 1)
    have a3 := q3 (F - 22 + 1)
    rw [show F - 22 + 1 + 21 = F by omega] at a2 a3
    have a2 : m_X0_build_L13 F r2 F (lit 0) s.1 s.2.1 s.2.2.1 s.2.2.2.1 s.2.2.2.2.1 s.2.2.2.2.2 = m_X0_build_L13 F r2 (F - 22 + 1) (lit 21) s'.1 s'.2.1 s'.2.2.1 s'.2.2.2.1 s'.2.2.2.2.1 s'.2.2.2.2.2 := a2
    have a3 : m_X10_builds_L13 F r30 F (lit 0) t.1 t.2.1 t.2.2.1 t.2.2.2.1 t.2.2.2.2.1 t.2.2.2.2.2 = m_X10_builds_L13 F r30 (F - 22 + 1) (lit 21) t'.1 t'.2.1 t'.2.2.1 t'.2.2.2.1 t'.2.2.2.2.1 t'.2.2.2.2.2 := a3
    refine ⟨s', t', q1, a2.trans ?_, a3.trans ?_⟩
    · rw [m_X0_build_L13, if_pos (by decide)]
    · rw [m_X10_builds_L13, if_pos (by decide)]
  · intro j hj s t hR
    have h10 : ¬ (10 : Int32) < lit j := (lit_in hj).2
    by_cases hz : r30 j = 0
    · refine ⟨s, t, hR, fun f => ?_, fun f => ?_⟩
      · show m_X0_build_L13 F r2 (f + 1) (lit j) s.1 s.2.1 s.2.2.1 s.2.2.2.1 s.2.2.2.2.1 s.2.2.2.2.2 = _
        rw [m_X0_build_L13, if_neg h10, ev_has hfa hj, Option.bind_some, if_pos hz, lit_nx hj]
      · show m_X10_builds_L13 F r30 (f + 1) (lit j) t.1 t.2.1 t.2.2.1 t.2.2.2.1 t.2.2.2.2.1 t.2.2.2.2.2 = _
        rw [m_X10_builds_L13, if_neg h10, lit_10' hj, if_pos (zn_ok hj (by omega)), zn_nat (by omega), if_pos hz, lit_nx hj]
    · have hj10 : j ≠ 10 := fun q => hz ((hfa j hj).2.2 q)
      obtain ⟨s', t', g1, g2, g3⟩ := fact_step (F := F) hj hj10 hR
      refine ⟨s', t', g1, fun f => ?_, fun f => ?_⟩
      · show m_X0_build_L13 F r2 (f + 1) (lit j) s.1 s.2.1 s.2.2.1 s.2.2.2.1 s.2.2.2.2.1 s.2.2.2.2.2 = _
        rw [m_X0_build_L13, if_neg h10, ev_has hfa hj, Option.bind_some, if_neg hz, g2, Option.bind_some, lit_nx hj]
      · show m_X10_builds_L13 F r30 (f + 1) (lit j) t.1 t.2.1 t.2.2.1 t.2.2.2.1 t.2.2.2.2.1 t.2.2.2.2.2 = _
        rw [m_X10_builds_L13, if_neg h10, lit_10' hj, if_pos (zn_ok hj (by omega)), zn_nat (by omega), if_neg hz, g3, Option.bind_some, lit_nx hj]
/-- both build alike, whatever stood in their rows before -/
theorem build_both {F ρn : Nat} {RR : Nat → Nat → Int32} {r2 r4 r30 r31 r32 r33 r34 r35 : Nat → Int32} {s t : Six} (hF : 20000 ≤ F) (hρn : ρn ≤ 12) (hr4 : r4 2 = Int32.ofNat ρn) (he2 : t.1 2 = Int32.ofNat ρn) (hru : ruR ρn RR r31 r32 r33 r34 r35) (hfa : faR r2 r30) :
    ∃ s' t', BB ρn r31 t.1 s' t' ∧ m_X0_build F RR r2 r4 s.1 s.2.1 s.2.2.1 s.2.2.2.1 s.2.2.2.2.1 s.2.2.2.2.2 = some s' ∧ m_X10_builds F t.1 r30 r31 r32 r35 t.2.1 t.2.2.1 t.2.2.2.1 t.2.2.2.2.1 t.2.2.2.2.2 = some t' := by
  have hR0 : RlB ρn 0 0 r31 s t (upd (upd s.1 5 0) 6 0, s.2) (upd (upd t.1 8 0) 9 0, t.2) := by
    refine ⟨0, ⟨by omega, rfl, rfl, rfl, Or.inl rfl, fun i hi => by omega⟩, fun i hi => by omega, fun i hi => by omega, by omega, fun k k1 k2 => ?_, fun k hk => by omega, fun q => by omega⟩
    show upd (upd t.1 8 0) 9 0 k = _
    rw [upd_ne k2, upd_ne k1]
  obtain ⟨s1, t1, g1, g2, g3⟩ := facts_run hF hfa hR0
  obtain ⟨n, q1, q2, q3, q4, q5, q6, q7⟩ := g1
  obtain ⟨s2, t2, w1, w2, w3⟩ := depths_run (e29 := t.1) hF hρn hr4 he2 hru 12 1 (t1.1 8 - 1) s1 t1 (by omega) (by omega) ⟨n, q1, q2, q3, q5⟩ (Or.inl rfl)
  refine ⟨s2, t2, w1, ?_, ?_⟩
  · have := w2 (F - 13)
    rw [show F - 13 + 12 + 1 = F by omega] at this
    unfold m_X0_build
    rw [g2, Option.bind_some]
    exact this
  · have := w3 (F - 15)
    rw [show F - 15 + 12 + 3 = F by omega] at this
    unfold m_X10_builds
    rw [g3, Option.bind_some]
    exact this

theorem isPart_no {F ρ p K : Nat} {r32 : Nat → Int32} {ρn dp : Nat} {r31 : Nat → Int32} {s0 t0 s t : Six} {o : Option Nat} (hρ : ρ < 12) (hp : p < 3) (hK : K ≤ 24) (ho : pok o K) (he : ∀ k, k < K → t0.2.1 k ≠ 0) (hR : RlB ρn dp K r31 s0 t0 s t) : m_X10_isPart F r32 t.2.1 (Int32.ofNat ρ) (Int32.ofNat p) (pv o) = some (if pg o t0.2.1 = r32 (3 * ρ + p) then 1 else 0) := by
  rw [ev_isPartP hρ hp (pok_mono ho hK) (fun k hk => RlB_ne hR he k (ho k hk)), (RlB_e hR ho).2]
theorem zn_lemo1 {K : Nat} (hK : K ≤ 24) : ¬ Int32.ofNat K ≤ -1 := zn_lemo (pok_none K) hK
theorem lev2 {F ρn ρ j dp K t2 : Nat} {RR : Nat → Nat → Int32} {r31 r32 : Nat → Int32} {s0 t0 : Six} {a : Option Nat} (hF : 20000 ≤ F) (hρn : ρn ≤ 12) (hρ : ρ < ρn) (hj : j < 21) (hj10 : j ≠ 10) (hh : r31 ρ = lit j) (hh0 : RR t2 0 = lit j) (hb2 : RR t2 2 = r32 (3 * ρ + 1)) (hb3 : RR t2 3 = r32 (3 * ρ + 2)) (hK : K ≤ 24) (ha : pok a K) (ma : pg a t0.2.1 = r32 (3 * ρ + 0)) (he : ∀ k, k < K → t0.2.1 k ≠ 0) (hd1 : 1 ≤ dp) (hd2 : dp < 100) :
    ∀ s t, RlB ρn dp K r31 s0 t0 s t → ∃ s' t', RlB ρn dp K r31 s0 t0 s' t' ∧ m_X0_addMadeBy_L74 F RR t2 (pv a) (lend (RR t2 3) K) (lend (RR t2 2) K) (Int32.ofNat ρ) (Int32.ofNat dp) F (lsta (RR t2 2)) s.1 s.2.1 s.2.2.1 s.2.2.2.1 s.2.2.2.2.1 s.2.2.2.2.2 = some (lend (RR t2 2) K, s') ∧ m_X10_makes_L12 F r31 r32 (pv a) (Int32.ofNat ρ) (Int32.ofNat dp) (Int32.ofNat K) F (-1) t.1 t.2.1 t.2.2.1 t.2.2.2.1 t.2.2.2.2.1 t.2.2.2.2.2 = some (Int32.ofNat K, t') := by
  have hρ12 : ρ < 12 := by omega
  have pa : ∀ s t, RlB ρn dp K r31 s0 t0 s t → m_X10_isPart F r32 t.2.1 (Int32.ofNat ρ) 0 (pv a) = some 1 := fun s t hR => by
    have := isPart_no (F := F) (r32 := r32) (p := 0) hρ12 (by omega) hK ha he hR
    rw [if_pos ma] at this
    exact this
  obtain ⟨F', hF'⟩ : ∃ F', F = F' + 1 := ⟨F - 1, by omega⟩
  refine levelF (LC := fun f x (s : Six) => m_X0_addMadeBy_L74 F RR t2 (pv a) (lend (RR t2 3) K) (lend (RR t2 2) K) (Int32.ofNat ρ) (Int32.ofNat dp) f x s.1 s.2.1 s.2.2.1 s.2.2.2.1 s.2.2.2.2.1 s.2.2.2.2.2) (LM := fun f x (t : Six) => m_X10_makes_L12 F r31 r32 (pv a) (Int32.ofNat ρ) (Int32.ofNat dp) (Int32.ofNat K) f x t.1 t.2.1 t.2.2.1 t.2.2.2.1 t.2.2.2.2.1 t.2.2.2.2.2) (Rl := RlB ρn dp K r31 s0 t0) (K := K) (L := RR t2 2) (e := t0.2.1) (gC := fun s => (lend (RR t2 2) K, s)) (gM := fun t => (Int32.ofNat K, t)) (by omega) ?_ ?_ ?_ he ?_ ?_
  · intro o ho mo s t hR
    obtain ⟨s', t', q1, q2, q3⟩ := lev3 hF hρn hρ hj hj10 hh hh0 hb3 hK ha ho (mo.trans hb2) he hd1 hd2 s t hR
    refine ⟨s', t', q1, fun f => ?_, fun f => ?_⟩
    · show m_X0_addMadeBy_L74 F RR t2 (pv a) (lend (RR t2 3) K) (lend (RR t2 2) K) (Int32.ofNat ρ) (Int32.ofNat dp) (f + 1) (pv o) s.1 s.2.1 s.2.2.1 s.2.2.2.1 s.2.2.2.2.1 s.2.2.2.2.2 = _
      rw [m_X0_addMadeBy_L74, if_neg (zn_lend ho hK (none_of he ho mo)), ev_concP (pok_mono ho hK), Option.bind_some, (RlB_e hR ho).1, if_pos mo, ev_choicesStart, Option.bind_some, q2, Option.bind_some, pv_nx]
    · show m_X10_makes_L12 F r31 r32 (pv a) (Int32.ofNat ρ) (Int32.ofNat dp) (Int32.ofNat K) (f + 1) (pv o) t.1 t.2.1 t.2.2.1 t.2.2.2.1 t.2.2.2.2.1 t.2.2.2.2.2 = _
      rw [m_X10_makes_L12, if_neg (zn_lemo ho hK), pa s t hR, Option.bind_some, if_neg zi_10, q3, Option.bind_some, pv_nx]
  · intro hL o ho mo s t hR f
    show m_X0_addMadeBy_L74 F RR t2 (pv a) (lend (RR t2 3) K) (lend (RR t2 2) K) (Int32.ofNat ρ) (Int32.ofNat dp) (f + 1) (pv o) s.1 s.2.1 s.2.2.1 s.2.2.2.1 s.2.2.2.2.1 s.2.2.2.2.2 = _
    rw [m_X0_addMadeBy_L74, if_neg (zn_lend ho hK (fun q => absurd q hL)), ev_concP (pok_mono ho hK), Option.bind_some, (RlB_e hR ho).1, if_neg mo, pv_nx]
  · intro o ho mo s t hR f
    have pb : m_X10_isPart F r32 t.2.1 (Int32.ofNat ρ) 1 (pv o) = some 0 := by
      have := isPart_no (F := F) (r32 := r32) (p := 1) hρ12 (by omega) hK ho he hR
      rw [if_neg (by rw [← hb2]; exact mo)] at this
      exact this
    have hin : m_X10_makes_L32 F r31 r32 (pv o) (pv a) (Int32.ofNat ρ) (Int32.ofNat dp) (Int32.ofNat K) F (-1) t.1 t.2.1 t.2.2.1 t.2.2.2.1 t.2.2.2.2.1 t.2.2.2.2.2 = some (-1, t) := by
      have hz : ∀ f, m_X10_makes_L32 F r31 r32 (pv o) (pv a) (Int32.ofNat ρ) (Int32.ofNat dp) (Int32.ofNat K) (f + 1) (-1) t.1 t.2.1 t.2.2.1 t.2.2.2.1 t.2.2.2.2.1 t.2.2.2.2.2 = some (-1, t) := fun f => by
        rw [m_X10_makes_L32, if_neg (zn_lemo1 hK), pb, Option.bind_some, if_pos rfl]
      have := hz F'
      rw [← hF'] at this
      exact this
    show m_X10_makes_L12 F r31 r32 (pv a) (Int32.ofNat ρ) (Int32.ofNat dp) (Int32.ofNat K) (f + 1) (pv o) t.1 t.2.1 t.2.2.1 t.2.2.2.1 t.2.2.2.2.1 t.2.2.2.2.2 = _
    rw [m_X10_makes_L12, if_neg (zn_lemo ho hK), pa s t hR, Option.bind_some, if_neg zi_10, hin, Option.bind_some, pv_nx]
  · intro f s
    show m_X0_addMadeBy_L74 F RR t2 (pv a) (lend (RR t2 3) K) (lend (RR t2 2) K) (Int32.ofNat ρ) (Int32.ofNat dp) (f + 1) (lend (RR t2 2) K) s.1 s.2.1 s.2.2.1 s.2.2.2.1 s.2.2.2.2.1 s.2.2.2.2.2 = _
    rw [m_X0_addMadeBy_L74, if_pos (Int32.le_refl _)]
  · intro f t
    show m_X10_makes_L12 F r31 r32 (pv a) (Int32.ofNat ρ) (Int32.ofNat dp) (Int32.ofNat K) (f + 1) (Int32.ofNat K) t.1 t.2.1 t.2.2.1 t.2.2.2.1 t.2.2.2.2.1 t.2.2.2.2.2 = _
    rw [m_X10_makes_L12, if_pos (Int32.le_refl _)]
theorem lev1 {F ρn ρ j dp K t2 : Nat} {RR : Nat → Nat → Int32} {r31 r32 : Nat → Int32} {s0 t0 : Six} (hF : 20000 ≤ F) (hρn : ρn ≤ 12) (hρ : ρ < ρn) (hj : j < 21) (hj10 : j ≠ 10) (hh : r31 ρ = lit j) (hh0 : RR t2 0 = lit j) (hb1 : RR t2 1 = r32 (3 * ρ + 0)) (hb2 : RR t2 2 = r32 (3 * ρ + 1)) (hb3 : RR t2 3 = r32 (3 * ρ + 2)) (hK : K ≤ 24) (he : ∀ k, k < K → t0.2.1 k ≠ 0) (hd1 : 1 ≤ dp) (hd2 : dp < 100) :
    ∀ s t, RlB ρn dp K r31 s0 t0 s t → ∃ s' t', RlB ρn dp K r31 s0 t0 s' t' ∧ m_X0_addMadeBy_L42 F RR t2 (lend (RR t2 3) K) (lend (RR t2 2) K) (lend (RR t2 1) K) (Int32.ofNat ρ) (Int32.ofNat dp) F (lsta (RR t2 1)) s.1 s.2.1 s.2.2.1 s.2.2.2.1 s.2.2.2.2.1 s.2.2.2.2.2 = some s' ∧ m_X10_makes_L3 F r31 r32 (Int32.ofNat ρ) (Int32.ofNat dp) (Int32.ofNat K) F (-1) t.1 t.2.1 t.2.2.1 t.2.2.2.1 t.2.2.2.2.1 t.2.2.2.2.2 = some t' := by
  have hρ12 : ρ < 12 := by omega
  obtain ⟨F', hF'⟩ : ∃ F', F = F' + 1 := ⟨F - 1, by omega⟩
  refine levelF (LC := fun f x (s : Six) => m_X0_addMadeBy_L42 F RR t2 (lend (RR t2 3) K) (lend (RR t2 2) K) (lend (RR t2 1) K) (Int32.ofNat ρ) (Int32.ofNat dp) f x s.1 s.2.1 s.2.2.1 s.2.2.2.1 s.2.2.2.2.1 s.2.2.2.2.2) (LM := fun f x (t : Six) => m_X10_makes_L3 F r31 r32 (Int32.ofNat ρ) (Int32.ofNat dp) (Int32.ofNat K) f x t.1 t.2.1 t.2.2.1 t.2.2.2.1 t.2.2.2.2.1 t.2.2.2.2.2) (Rl := RlB ρn dp K r31 s0 t0) (K := K) (L := RR t2 1) (e := t0.2.1) (gC := fun s => s) (gM := fun t => t) (by omega) ?_ ?_ ?_ he ?_ ?_
  · intro o ho mo s t hR
    obtain ⟨s', t', q1, q2, q3⟩ := lev2 hF hρn hρ hj hj10 hh hh0 hb2 hb3 hK ho (mo.trans hb1) he hd1 hd2 s t hR
    refine ⟨s', t', q1, fun f => ?_, fun f => ?_⟩
    · show m_X0_addMadeBy_L42 F RR t2 (lend (RR t2 3) K) (lend (RR t2 2) K) (lend (RR t2 1) K) (Int32.ofNat ρ) (Int32.ofNat dp) (f + 1) (pv o) s.1 s.2.1 s.2.2.1 s.2.2.2.1 s.2.2.2.2.1 s.2.2.2.2.2 = _
      rw [m_X0_addMadeBy_L42, if_neg (zn_lend ho hK (none_of he ho mo)), ev_concP (pok_mono ho hK), Option.bind_some, (RlB_e hR ho).1, if_pos mo, ev_choicesStart, Option.bind_some, q2, Option.bind_some, pv_nx]
    · show m_X10_makes_L3 F r31 r32 (Int32.ofNat ρ) (Int32.ofNat dp) (Int32.ofNat K) (f + 1) (pv o) t.1 t.2.1 t.2.2.1 t.2.2.2.1 t.2.2.2.2.1 t.2.2.2.2.2 = _
      rw [m_X10_makes_L3, if_neg (zn_lemo ho hK), q3, Option.bind_some, pv_nx]
  · intro hL o ho mo s t hR f
    show m_X0_addMadeBy_L42 F RR t2 (lend (RR t2 3) K) (lend (RR t2 2) K) (lend (RR t2 1) K) (Int32.ofNat ρ) (Int32.ofNat dp) (f + 1) (pv o) s.1 s.2.1 s.2.2.1 s.2.2.2.1 s.2.2.2.2.1 s.2.2.2.2.2 = _
    rw [m_X0_addMadeBy_L42, if_neg (zn_lend ho hK (fun q => absurd q hL)), ev_concP (pok_mono ho hK), Option.bind_some, (RlB_e hR ho).1, if_neg mo, pv_nx]
  · intro o ho mo s t hR f
    have pb : m_X10_isPart F r32 t.2.1 (Int32.ofNat ρ) 0 (pv o) = some 0 := by
      have := isPart_no (F := F) (r32 := r32) (p := 0) hρ12 (by omega) hK ho he hR
      rw [if_neg (by rw [← hb1]; exact mo)] at this
      exact this
    have hin : m_X10_makes_L12 F r31 r32 (pv o) (Int32.ofNat ρ) (Int32.ofNat dp) (Int32.ofNat K) F (-1) t.1 t.2.1 t.2.2.1 t.2.2.2.1 t.2.2.2.2.1 t.2.2.2.2.2 = some (-1, t) := by
      have hz : ∀ f, m_X10_makes_L12 F r31 r32 (pv o) (Int32.ofNat ρ) (Int32.ofNat dp) (Int32.ofNat K) (f + 1) (-1) t.1 t.2.1 t.2.2.1 t.2.2.2.1 t.2.2.2.2.1 t.2.2.2.2.2 = some (-1, t) := fun f => by
        rw [m_X10_makes_L12, if_neg (zn_lemo1 hK), pb, Option.bind_some, if_pos rfl]
      have := hz F'
      rw [← hF'] at this
      exact this
    show m_X10_makes_L3 F r31 r32 (Int32.ofNat ρ) (Int32.ofNat dp) (Int32.ofNat K) (f + 1) (pv o) t.1 t.2.1 t.2.2.1 t.2.2.2.1 t.2.2.2.2.1 t.2.2.2.2.2 = _
    rw [m_X10_makes_L3, if_neg (zn_lemo ho hK), hin, Option.bind_some, pv_nx]
  · intro f s
    show m_X0_addMadeBy_L42 F RR t2 (lend (RR t2 3) K) (lend (RR t2 2) K) (lend (RR t2 1) K) (Int32.ofNat ρ) (Int32.ofNat dp) (f + 1) (lend (RR t2 1) K) s.1 s.2.1 s.2.2.1 s.2.2.2.1 s.2.2.2.2.1 s.2.2.2.2.2 = _
    rw [m_X0_addMadeBy_L42, if_pos (Int32.le_refl _)]
  · intro f t
    show m_X10_makes_L3 F r31 r32 (Int32.ofNat ρ) (Int32.ofNat dp) (Int32.ofNat K) (f + 1) (Int32.ofNat K) t.1 t.2.1 t.2.2.1 t.2.2.2.1 t.2.2.2.2.1 t.2.2.2.2.2 = _
    rw [m_X10_makes_L3, if_pos (Int32.le_refl _)]
/-- a rule's arguments of a depth -/
theorem made {F ρn ρ j dp K t2 : Nat} {RR : Nat → Nat → Int32} {r31 r32 : Nat → Int32} {s0 t0 s t : Six} (hF : 20000 ≤ F) (hρn : ρn ≤ 12) (hρ : ρ < ρn) (hj : j < 21) (hj10 : j ≠ 10) (hh : r31 ρ = lit j) (hh0 : RR t2 0 = lit j) (hb1 : RR t2 1 = r32 (3 * ρ + 0)) (hb2 : RR t2 2 = r32 (3 * ρ + 1)) (hb3 : RR t2 3 = r32 (3 * ρ + 2)) (hK : K ≤ 24) (he : ∀ k, k < K → t0.2.1 k ≠ 0) (hd1 : 1 ≤ dp) (hd2 : dp < 100) (hR : RlB ρn dp K r31 s0 t0 s t) :
    ∃ s' t', RlB ρn dp K r31 s0 t0 s' t' ∧ m_X0_addMadeBy F RR t2 s.1 s.2.1 s.2.2.1 s.2.2.2.1 s.2.2.2.2.1 s.2.2.2.2.2 (Int32.ofNat ρ) (Int32.ofNat dp) (Int32.ofNat K) = some s' ∧ m_X10_makes F t.1 r31 r32 t.2.1 t.2.2.1 t.2.2.2.1 t.2.2.2.2.1 t.2.2.2.2.2 (Int32.ofNat ρ) (Int32.ofNat dp) (Int32.ofNat K) = some t' := by
  obtain ⟨s', t', q1, q2, q3⟩ := lev1 hF hρn hρ hj hj10 hh hh0 hb1 hb2 hb3 hK he hd1 hd2 s t hR
  refine ⟨s', t', q1, ?_, q3⟩
  unfold m_X0_addMadeBy
  rw [ev_choicesEnd, Option.bind_some, ev_choicesEnd, Option.bind_some, ev_choicesEnd, Option.bind_some, ev_choicesStart, Option.bind_some, q2]

theorem RlB_e {ρn dp K : Nat} {r31 : Nat → Int32} {s0 t0 s t : Six} {o : Option Nat} (hR : RlB ρn dp K r31 s0 t0 s t) (ho : pok o K) : pg o s.2.1 = pg o t0.2.1 ∧ pg o t.2.1 = pg o t0.2.1 := by
  obtain ⟨n, h1, h2, h3, h4, h5, h6, h7⟩ := hR
  obtain ⟨hn, i2, i3, i4, i5, i6⟩ := h1
  have e2 : pg o t.2.1 = pg o t0.2.1 := pg_eq ho h6
  have e1 : pg o s.2.1 = pg o t.2.1 := pg_eq ho (fun i hi => (i6 i (by omega)).1)
  exact ⟨e1.trans e2, e2⟩
theorem RlB_ne {ρn dp K : Nat} {r31 : Nat → Int32} {s0 t0 s t : Six} (hR : RlB ρn dp K r31 s0 t0 s t) (he : ∀ k, k < K → t0.2.1 k ≠ 0) : ∀ k, k < K → t.2.1 k ≠ 0 := by
  intro k hk
  have := (RlB_e hR (pok_some hk)).2
  have e : t.2.1 k = t0.2.1 k := this
  rw [e]
  exact he k hk
theorem zn_lend {L : Int32} {K : Nat} {o : Option Nat} (h : pok o K) (hK : K ≤ 24) (hL : L = 0 → o = none) : ¬ lend L K ≤ pv o := by
  by_cases q : L = 0
  · rw [hL q]
    unfold lend
    rw [if_pos q]
    decide
  · unfold lend
    rw [if_neg q]
    exact zn_lemo h hK
theorem none_of {K : Nat} {L : Int32} {e : Nat → Int32} {o : Option Nat} (he : ∀ k, k < K → e k ≠ 0) (ho : pok o K) (h : pg o e = L) : L = 0 → o = none := by
  intro q
  cases o with
  | none => rfl
  | some k => exact absurd (h.trans q) (he k (ho k rfl))
theorem lev3 {F ρn ρ j dp K t2 : Nat} {RR : Nat → Nat → Int32} {r31 r32 : Nat → Int32} {s0 t0 : Six} {a b : Option Nat} (hF : 20000 ≤ F) (hρn : ρn ≤ 12) (hρ : ρ < ρn) (hj : j < 21) (hj10 : j ≠ 10) (hh : r31 ρ = lit j) (hh0 : RR t2 0 = lit j) (hb3 : RR t2 3 = r32 (3 * ρ + 2)) (hK : K ≤ 24) (ha : pok a K) (hb : pok b K) (mb : pg b t0.2.1 = r32 (3 * ρ + 1)) (he : ∀ k, k < K → t0.2.1 k ≠ 0) (hd1 : 1 ≤ dp) (hd2 : dp < 100) :
    ∀ s t, RlB ρn dp K r31 s0 t0 s t → ∃ s' t', RlB ρn dp K r31 s0 t0 s' t' ∧ m_X0_addMadeBy_L106 F RR t2 (pv b) (pv a) (lend (RR t2 3) K) (Int32.ofNat ρ) (Int32.ofNat dp) F (lsta (RR t2 3)) s.1 s.2.1 s.2.2.1 s.2.2.2.1 s.2.2.2.2.1 s.2.2.2.2.2 = some (lend (RR t2 3) K, s') ∧ m_X10_makes_L32 F r31 r32 (pv b) (pv a) (Int32.ofNat ρ) (Int32.ofNat dp) (Int32.ofNat K) F (-1) t.1 t.2.1 t.2.2.1 t.2.2.2.1 t.2.2.2.2.1 t.2.2.2.2.2 = some (Int32.ofNat K, t') := by
  refine levelF (LC := fun f x (s : Six) => m_X0_addMadeBy_L106 F RR t2 (pv b) (pv a) (lend (RR t2 3) K) (Int32.ofNat ρ) (Int32.ofNat dp) f x s.1 s.2.1 s.2.2.1 s.2.2.2.1 s.2.2.2.2.1 s.2.2.2.2.2) (LM := fun f x (t : Six) => m_X10_makes_L32 F r31 r32 (pv b) (pv a) (Int32.ofNat ρ) (Int32.ofNat dp) (Int32.ofNat K) f x t.1 t.2.1 t.2.2.1 t.2.2.2.1 t.2.2.2.2.1 t.2.2.2.2.2) (Rl := RlB ρn dp K r31 s0 t0) (K := K) (L := RR t2 3) (e := t0.2.1) (gC := fun s => (lend (RR t2 3) K, s)) (gM := fun t => (Int32.ofNat K, t)) (by omega) ?_ ?_ ?_ he ?_ ?_
  · intro o ho mo s t hR
    have hlen := zn_lend ho hK (none_of he ho mo)
    have hee := RlB_e hR ho
    have heb := RlB_e hR hb
    have hev := fun f => ev_L32 (F := F) (dp := dp) (f := f) (r31 := r31) (r32 := r32) (q29 := t.1) (q36 := t.2.1) (q37 := t.2.2.1) (q38 := t.2.2.2.1) (q39 := t.2.2.2.2.1) (q40 := t.2.2.2.2.2) (a := a) (b := b) (o := o) (by omega) hK ha hb ho (RlB_ne hR he) (heb.2.trans mb)
    have mo2 : pg o t.2.1 = r32 (3 * ρ + 2) := hee.2.trans (mo.trans hb3)
    have hcl : m_X0_conclusionAt F s.2.1 (pv o) = some (RR t2 3) := by
      rw [ev_concP (pok_mono ho hK), hee.1, mo]
    rcases try_step (F := F) (ρ := ρ) (dp := dp) hF hρn hρ hj hj10 hh ha hb ho hd1 hd2 hR with ⟨q1, q2⟩ | ⟨q1, q2, q3, s', t', q4, q5, q6⟩
    · refine ⟨s, t, hR, fun f => ?_, fun f => ?_⟩
      · show m_X0_addMadeBy_L106 F RR t2 (pv b) (pv a) (lend (RR t2 3) K) (Int32.ofNat ρ) (Int32.ofNat dp) (f + 1) (pv o) s.1 s.2.1 s.2.2.1 s.2.2.2.1 s.2.2.2.2.1 s.2.2.2.2.2 = _
        rw [m_X0_addMadeBy_L106, if_neg hlen, hcl, Option.bind_some, if_pos rfl, hh0, q1, Option.bind_some, if_pos rfl, pv_nx]
      · show m_X10_makes_L32 F r31 r32 (pv b) (pv a) (Int32.ofNat ρ) (Int32.ofNat dp) (Int32.ofNat K) (f + 1) (pv o) t.1 t.2.1 t.2.2.1 t.2.2.2.1 t.2.2.2.2.1 t.2.2.2.2.2 = _
        rw [hev f, if_pos mo2]
        rcases q2 with q2 | ⟨q2, q3⟩
        · rw [if_neg q2]
        · rw [if_pos q2, hh, q3, Option.bind_some, if_neg zi_10]
    · refine ⟨s', t', q4, fun f => ?_, fun f => ?_⟩
      · show m_X0_addMadeBy_L106 F RR t2 (pv b) (pv a) (lend (RR t2 3) K) (Int32.ofNat ρ) (Int32.ofNat dp) (f + 1) (pv o) s.1 s.2.1 s.2.2.1 s.2.2.2.1 s.2.2.2.2.1 s.2.2.2.2.2 = _
        rw [m_X0_addMadeBy_L106, if_neg hlen, hcl, Option.bind_some, if_pos rfl, hh0, q1, Option.bind_some, if_neg zi_10, q5, Option.bind_some, pv_nx]
      · show m_X10_makes_L32 F r31 r32 (pv b) (pv a) (Int32.ofNat ρ) (Int32.ofNat dp) (Int32.ofNat K) (f + 1) (pv o) t.1 t.2.1 t.2.2.1 t.2.2.2.1 t.2.2.2.2.1 t.2.2.2.2.2 = _
        rw [hev f, if_pos mo2, if_pos q2, hh, q3, Option.bind_some, if_pos rfl, q6, Option.bind_some]
  · intro hL o ho mo s t hR f
    show m_X0_addMadeBy_L106 F RR t2 (pv b) (pv a) (lend (RR t2 3) K) (Int32.ofNat ρ) (Int32.ofNat dp) (f + 1) (pv o) s.1 s.2.1 s.2.2.1 s.2.2.2.1 s.2.2.2.2.1 s.2.2.2.2.2 = _
    rw [m_X0_addMadeBy_L106, if_neg (zn_lend ho hK (fun q => absurd q hL)), ev_concP (pok_mono ho hK), Option.bind_some, (RlB_e hR ho).1, if_neg mo, pv_nx]
  · intro o ho mo s t hR f
    show m_X10_makes_L32 F r31 r32 (pv b) (pv a) (Int32.ofNat ρ) (Int32.ofNat dp) (Int32.ofNat K) (f + 1) (pv o) t.1 t.2.1 t.2.2.1 t.2.2.2.1 t.2.2.2.2.1 t.2.2.2.2.2 = _
    rw [ev_L32 (by omega) hK ha hb ho (RlB_ne hR he) ((RlB_e hR hb).2.trans mb), if_neg (by rw [(RlB_e hR ho).2, ← hb3]; exact mo)]
  · intro f s
    show m_X0_addMadeBy_L106 F RR t2 (pv b) (pv a) (lend (RR t2 3) K) (Int32.ofNat ρ) (Int32.ofNat dp) (f + 1) (lend (RR t2 3) K) s.1 s.2.1 s.2.2.1 s.2.2.2.1 s.2.2.2.2.1 s.2.2.2.2.2 = _
    rw [m_X0_addMadeBy_L106, if_pos (Int32.le_refl _)]
  · intro f t
    show m_X10_makes_L32 F r31 r32 (pv b) (pv a) (Int32.ofNat ρ) (Int32.ofNat dp) (Int32.ofNat K) (f + 1) (Int32.ofNat K) t.1 t.2.1 t.2.2.1 t.2.2.2.1 t.2.2.2.2.1 t.2.2.2.2.2 = _
    rw [m_X10_makes_L32, if_pos (Int32.le_refl _)]
theorem ev_choicesStart {F : Nat} {L : Int32} : m_X0_choicesStart F L = some (lsta L) := by
  unfold m_X0_choicesStart lsta
  by_cases h : L = 0
  · rw [if_pos h, if_pos h]
  · rw [if_neg h, if_neg h]
theorem ev_choicesEnd {F K : Nat} {L : Int32} : m_X0_choicesEnd F L (Int32.ofNat K) = some (lend L K) := by
  unfold m_X0_choicesEnd lend
  by_cases h : L = 0
  · rw [if_pos h, if_pos h]
  · rw [if_neg h, if_neg h]

/-- one triple: both lay it, or both do not -/
theorem try_step {F ρn ρ j dp K : Nat} {r31 : Nat → Int32} {s0 t0 s t : Six} {a b c : Option Nat} (hF : 20000 ≤ F) (hρn : ρn ≤ 12) (hρ : ρ < ρn) (hj : j < 21) (hj10 : j ≠ 10) (hh : r31 ρ = lit j) (ha : pok a K) (hb : pok b K) (hc : pok c K) (hd1 : 1 ≤ dp) (hd2 : dp < 100) (hR : RlB ρn dp K r31 s0 t0 s t) :
    (m_X0_fits F s.2.2.2.1 s.2.2.2.2.2 (lit j) (pv a) (pv b) (pv c) (Int32.ofNat dp) = some 0 ∧ (¬ mxm (pg a t.2.2.2.2.1) (pg b t.2.2.2.2.1) (pg c t.2.2.2.2.1) = Int32.ofNat dp - 1 ∨ (mxm (pg a t.2.2.2.2.1) (pg b t.2.2.2.2.1) (pg c t.2.2.2.2.1) = Int32.ofNat dp - 1 ∧ m_X10_isBuiltOf F t.1 t.2.1 ((pw a t.2.2.2.2.2 ||| pw b t.2.2.2.2.2) ||| pw c t.2.2.2.2.2) (lit j) = some 1))) ∨
    (m_X0_fits F s.2.2.2.1 s.2.2.2.2.2 (lit j) (pv a) (pv b) (pv c) (Int32.ofNat dp) = some 1 ∧ mxm (pg a t.2.2.2.2.1) (pg b t.2.2.2.2.1) (pg c t.2.2.2.2.1) = Int32.ofNat dp - 1 ∧ m_X10_isBuiltOf F t.1 t.2.1 ((pw a t.2.2.2.2.2 ||| pw b t.2.2.2.2.2) ||| pw c t.2.2.2.2.2) (lit j) = some 0 ∧
      ∃ s' t' : Six, RlB ρn dp K r31 s0 t0 s' t' ∧ m_X0_add F s.1 s.2.1 s.2.2.1 s.2.2.2.1 s.2.2.2.2.1 s.2.2.2.2.2 (lit j) (Int32.ofNat ρ) (Int32.ofNat dp) (pv a) (pv b) (pv c) = some s' ∧ m_X10_lays F t.1 t.2.1 t.2.2.1 t.2.2.2.1 t.2.2.2.2.1 t.2.2.2.2.2 (lit j) (Int32.ofNat ρ) (pv a) (pv b) (pv c) (Int32.ofNat dp) = some t') := by
  obtain ⟨n, h1, h2, h3, h4, h5, h6, h7⟩ := hR
  have hsim := h1
  obtain ⟨hn, i2, i3, i4, i5, i6⟩ := h1
  have ha' := pok_mono ha h4
  have hb' := pok_mono hb h4
  have hc' := pok_mono hc h4
  rcases try_cases (F := F) (ρ := ρ) (dp := dp) hF i3 (fun i hi => (i6 i hi).2.2.1) h2 h3 hn hρn hρ hj hh ha' hb' hc' hd1 hd2 with q | ⟨q1, q2, q3, q4, q5⟩
  · exact Or.inl q
  · right
    refine ⟨q1, q2, q3, ?_⟩
    by_cases hfull : n < 24
    · refine ⟨_, _, ?_, ev_add i2 hfull hj (pok_mono ha' hn) (pok_mono hb' hn) (pok_mono hc' hn), ev_lays i3 hfull (pok_mono ha' hn) (pok_mono hb' hn) (pok_mono hc' hn)⟩
      refine ⟨n + 1, simB_add hsim hfull, validB_add h2 hfull hj hj10 ha' hb' hc' (Or.inr ⟨ρ, hρ, rfl, hh.symm⟩) q5, reachB_add h2 h3 hfull hj ha' hb' hc', by omega, fun k k1 k2 => ?_, fun k k1 => ?_, fun q => by omega⟩
      · show upd t.1 8 _ k = _
        rw [upd_ne k1]; exact h5 k k1 k2
      · show upd t.2.1 n _ k = _
        rw [upd_ne (by omega)]; exact h6 k k1
    · have h24 : n = 24 := by omega
      subst h24
      refine ⟨_, _, ?_, ev_add_full i2, ev_lays_full i3⟩
      refine ⟨24, simB_full hsim, h2, h3, h4, fun k k1 k2 => ?_, h6, fun q => by omega⟩
      show upd t.1 9 _ k = _
      rw [upd_ne k2]; exact h5 k k1 k2
theorem ite_some {α : Type} {p : Prop} [Decidable p] (x y : α) : (if p then some x else some y) = some (if p then x else y) := by
  by_cases h : p
  · rw [if_pos h, if_pos h]
  · rw [if_neg h, if_neg h]
theorem zi_10 : (1 : Int32) ≠ 0 := by decide
theorem zn_lemo {K : Nat} {o : Option Nat} (h : pok o K) (hK : K ≤ 24) : ¬ Int32.ofNat K ≤ pv o := by
  cases o with
  | none =>
    have : ∀ k, k < 25 → ¬ Int32.ofNat k ≤ -1 := by decide
    exact this K (by omega)
  | some k =>
    have hk := h k rfl
    exact fun q => by have := (zn_le (by omega) (by omega)).mp q; omega
/-- the model's inner loop, one round -/
theorem ev_L32 {F ρ dp K f : Nat} {r31 r32 q29 q36 q37 q38 q39 q40 : Nat → Int32} {a b o : Option Nat} (hρ : ρ < 12) (hK : K ≤ 24) (ha : pok a K) (hb : pok b K) (ho : pok o K) (hne : ∀ k, k < K → q36 k ≠ 0) (hpb : pg b q36 = r32 (3 * ρ + 1)) :
    m_X10_makes_L32 F r31 r32 (pv b) (pv a) (Int32.ofNat ρ) (Int32.ofNat dp) (Int32.ofNat K) (f + 1) (pv o) q29 q36 q37 q38 q39 q40 =
    if pg o q36 = r32 (3 * ρ + 2) then (if mxm (pg a q39) (pg b q39) (pg o q39) = Int32.ofNat dp - 1 then Option.bind (m_X10_isBuiltOf F q29 q36 ((pw a q40 ||| pw b q40) ||| pw o q40) (r31 ρ)) (fun z => if z = 0 then Option.bind (m_X10_lays F q29 q36 q37 q38 q39 q40 (r31 ρ) (Int32.ofNat ρ) (pv a) (pv b) (pv o) (Int32.ofNat dp)) (fun w => m_X10_makes_L32 F r31 r32 (pv b) (pv a) (Int32.ofNat ρ) (Int32.ofNat dp) (Int32.ofNat K) f (nx o) w.1 w.2.1 w.2.2.1 w.2.2.2.1 w.2.2.2.2.1 w.2.2.2.2.2) else m_X10_makes_L32 F r31 r32 (pv b) (pv a) (Int32.ofNat ρ) (Int32.ofNat dp) (Int32.ofNat K) f (nx o) q29 q36 q37 q38 q39 q40) else m_X10_makes_L32 F r31 r32 (pv b) (pv a) (Int32.ofNat ρ) (Int32.ofNat dp) (Int32.ofNat K) f (nx o) q29 q36 q37 q38 q39 q40) else m_X10_makes_L32 F r31 r32 (pv b) (pv a) (Int32.ofNat ρ) (Int32.ofNat dp) (Int32.ofNat K) f (nx o) q29 q36 q37 q38 q39 q40 := by
  have ha' := pok_mono ha hK
  have hb' := pok_mono hb hK
  have ho' := pok_mono ho hK
  have p1 : m_X10_isPart F r32 q36 (Int32.ofNat ρ) 1 (pv b) = some 1 := by
    have := ev_isPartP (F := F) (p := 1) (r32 := r32) (r36 := q36) hρ (by omega) hb' (fun k hk => hne k (hb k hk))
    rw [if_pos hpb] at this
    exact this
  have p2 : m_X10_isPart F r32 q36 (Int32.ofNat ρ) 2 (pv o) = some (if pg o q36 = r32 (3 * ρ + 2) then 1 else 0) := ev_isPartP (F := F) (p := 2) (r32 := r32) (r36 := q36) hρ (by omega) ho' (fun k hk => hne k (ho k hk))
  rw [m_X10_makes_L32, if_neg (zn_lemo ho hK), p1, p2, ev_withAllP ha', ev_withAllP hb', ev_withAllP ho', ev_depthOfP ha', ev_depthOfP hb', ev_depthOfP ho']
  simp only [Option.bind_some]
  rw [if_neg zi_10, ite_some, Option.bind_some, ite_some, Option.bind_some, pv_nx]
  by_cases h2 : pg o q36 = r32 (3 * ρ + 2)
  · rw [if_pos h2, if_pos h2, if_neg zi_10]
    have hg : ¬ (Int32.ofNat ρ < 0 ∨ 12 ≤ (Int32.ofNat ρ).toNatClampNeg) := zn_ok hρ (by omega)
    simp only [if_pos hg]
    rw [zn_nat (by omega)]
    rfl
  · rw [if_neg h2, if_neg h2, if_pos rfl]

/-- the rules of the class and of the model -/
def ruR (ρn : Nat) (RR : Nat → Nat → Int32) (r31 r32 r33 r34 r35 : Nat → Int32) : Prop := ∀ ρ, ρ < ρn → ∃ j e p : Nat, j < 21 ∧ j ≠ 10 ∧ r31 ρ = lit j ∧ e < 21 ∧ r34 ρ = lit e ∧ p < 10 ∧ r33 ρ = Int32.ofNat p ∧ RR (aid (RR 4 2) (Int32.ofNat ρ)) 0 = r31 ρ ∧ RR (aid (RR 4 2) (Int32.ofNat ρ)) 1 = r32 (3 * ρ + 0) ∧ RR (aid (RR 4 2) (Int32.ofNat ρ)) 2 = r32 (3 * ρ + 1) ∧ RR (aid (RR 4 2) (Int32.ofNat ρ)) 3 = r32 (3 * ρ + 2) ∧ RR (aid (RR 4 2) (Int32.ofNat ρ)) 4 = r33 ρ ∧ RR (aid (RR 4 2) (Int32.ofNat ρ)) 5 = r34 ρ ∧ RR (aid (RR 4 2) (Int32.ofNat ρ)) 6 = r35 ρ ∧ (r35 ρ = 0 ∨ r35 ρ = 1)
theorem opt_map2 {α : Type} {o : Option (Int32 × α)} {s : α} (h : o.map (fun q => q.2) = some s) : ∃ z, o = some (z, s) := by
  cases o with
  | none => cases h
  | some q =>
    have h : some q.2 = some s := h
    have e := Option.some.inj h
    exact ⟨q.1, by rw [← e]⟩
theorem rules_run {F ρn dp K : Nat} {RR : Nat → Nat → Int32} {r4 r31 r32 r33 r34 r35 : Nat → Int32} {s0 t0 : Six} (hF : 20000 ≤ F) (hρn : ρn ≤ 12) (hr4 : r4 2 = Int32.ofNat ρn) (ht2 : t0.1 2 = Int32.ofNat ρn) (hru : ruR ρn RR r31 r32 r33 r34 r35) (hK : K ≤ 24) (he : ∀ k, k < K → t0.2.1 k ≠ 0) (hd1 : 1 ≤ dp) (hd2 : dp < 100) {s t : Six} (hR : RlB ρn dp K r31 s0 t0 s t) :
    ∃ s' t', RlB ρn dp K r31 s0 t0 s' t' ∧ (∃ z, m_X0_build_L67 F RR r4 (Int32.ofNat K) (Int32.ofNat dp) F 0 s.1 s.2.1 s.2.2.1 s.2.2.2.1 s.2.2.2.2.1 s.2.2.2.2.2 = some (z, s')) ∧ (∃ z, m_X10_builds_L83 F r31 r32 r35 (Int32.ofNat K) (Int32.ofNat dp) F 0 t.1 t.2.1 t.2.2.1 t.2.2.2.1 t.2.2.2.2.1 t.2.2.2.2.2 = some (z, t')) := by
  have key := join (LC := fun f x (s : Six) => (m_X0_build_L67 F RR r4 (Int32.ofNat K) (Int32.ofNat dp) (f + 1) x s.1 s.2.1 s.2.2.1 s.2.2.2.1 s.2.2.2.2.1 s.2.2.2.2.2).map (fun q => q.2)) (LM := fun f x (t : Six) => (m_X10_builds_L83 F r31 r32 r35 (Int32.ofNat K) (Int32.ofNat dp) (f + 1) x t.1 t.2.1 t.2.2.1 t.2.2.2.1 t.2.2.2.2.1 t.2.2.2.2.2).map (fun q => q.2)) (Rl := RlB ρn dp K r31 s0 t0) (ix := Int32.ofNat) (K := ρn) ?_ ρn 0 s t (by omega) hR
  · obtain ⟨s', t', q1, q2, q3⟩ := key
    have q1' := q1
    obtain ⟨n, -, -, -, -, h5, -, -⟩ := q1'
    have h2 : t'.1 2 = Int32.ofNat ρn := (h5 2 (by decide) (by decide)).trans ht2
    have a2 := q2 (F - ρn - 1)
    have a3 := q3 (F - ρn - 1)
    have e1 : F - ρn - 1 + ρn + 1 = F := by omega
    have a2 : (m_X0_build_L67 F RR r4 (Int32.ofNat K) (Int32.ofNat dp) (F - ρn - 1 + ρn + 1) 0 s.1 s.2.1 s.2.2.1 s.2.2.2.1 s.2.2.2.2.1 s.2.2.2.2.2).map (fun q => q.2) = (m_X0_build_L67 F RR r4 (Int32.ofNat K) (Int32.ofNat dp) (F - ρn - 1 + 1) (Int32.ofNat ρn) s'.1 s'.2.1 s'.2.2.1 s'.2.2.2.1 s'.2.2.2.2.1 s'.2.2.2.2.2).map (fun q => q.2) := a2
    have a3 : (m_X10_builds_L83 F r31 r32 r35 (Int32.ofNat K) (Int32.ofNat dp) (F - ρn - 1 + ρn + 1) 0 t.1 t.2.1 t.2.2.1 t.2.2.2.1 t.2.2.2.2.1 t.2.2.2.2.2).map (fun q => q.2) = (m_X10_builds_L83 F r31 r32 r35 (Int32.ofNat K) (Int32.ofNat dp) (F - ρn - 1 + 1) (Int32.ofNat ρn) t'.1 t'.2.1 t'.2.2.1 t'.2.2.2.1 t'.2.2.2.2.1 t'.2.2.2.2.2).map (fun q => q.2) := a3
    rw [e1] at a2 a3
    rw [m_X0_build_L67, show m_X5_size F r4 = some (r4 2) from rfl, hr4, Option.bind_some, if_pos (Int32.le_refl _)] at a2
    rw [m_X10_builds_L83, h2, if_pos (Int32.le_refl _)] at a3
    exact ⟨s', t', q1, opt_map2 a2, opt_map2 a3⟩
  · intro k hk s t hR
    have hR' := hR
    obtain ⟨n, h1, h2, h3, h4, h5, h6, h7⟩ := hR'
    obtain ⟨hn, i2, i3, i4, i5, i6⟩ := h1
    have ht : t.1 2 = Int32.ofNat ρn := (h5 2 (by decide) (by decide)).trans ht2
    obtain ⟨j, e, p, g1, g2, g3, g4, g5, g6, g7, g8, g9, g10, g11, g12, g13, g14, g15⟩ := hru k hk
    have hle : ¬ Int32.ofNat ρn ≤ Int32.ofNat k := fun q => by have := (zn_le (by omega) (by omega)).mp q; omega
    have hk1 : Int32.ofNat k + 1 = Int32.ofNat (k + 1) := zn_add k 1
    have uC : ∀ f, m_X0_build_L67 F RR r4 (Int32.ofNat K) (Int32.ofNat dp) (f + 1) (Int32.ofNat k) s.1 s.2.1 s.2.2.1 s.2.2.2.1 s.2.2.2.2.1 s.2.2.2.2.2 = (if (s.1 6) = 0 then (if r35 k = 0 then (m_X0_build_L67 F RR r4 (Int32.ofNat K) (Int32.ofNat dp) f (Int32.ofNat (k + 1)) s.1 s.2.1 s.2.2.1 s.2.2.2.1 s.2.2.2.2.1 s.2.2.2.2.2) else (Option.bind (m_X0_addMadeBy F RR (aid (RR 4 2) (Int32.ofNat k)) s.1 s.2.1 s.2.2.1 s.2.2.2.1 s.2.2.2.2.1 s.2.2.2.2.2 (Int32.ofNat k) (Int32.ofNat dp) (Int32.ofNat K)) (fun zu4 => m_X0_build_L67 F RR r4 (Int32.ofNat K) (Int32.ofNat dp) f (Int32.ofNat (k + 1)) zu4.1 zu4.2.1 zu4.2.2.1 zu4.2.2.2.1 zu4.2.2.2.2.1 zu4.2.2.2.2.2))) else some (Int32.ofNat k, s)) := fun f => by
      rw [m_X0_build_L67, show m_X5_size F r4 = some (r4 2) from rfl, hr4, Option.bind_some, if_neg hle, g14, hk1]
    have uM : ∀ f, m_X10_builds_L83 F r31 r32 r35 (Int32.ofNat K) (Int32.ofNat dp) (f + 1) (Int32.ofNat k) t.1 t.2.1 t.2.2.1 t.2.2.2.1 t.2.2.2.2.1 t.2.2.2.2.2 = (if (t.1 9) = 0 then (if r35 k = 0 then (m_X10_builds_L83 F r31 r32 r35 (Int32.ofNat K) (Int32.ofNat dp) f (Int32.ofNat (k + 1)) t.1 t.2.1 t.2.2.1 t.2.2.2.1 t.2.2.2.2.1 t.2.2.2.2.2) else (Option.bind (m_X10_makes F t.1 r31 r32 t.2.1 t.2.2.1 t.2.2.2.1 t.2.2.2.2.1 t.2.2.2.2.2 (Int32.ofNat k) (Int32.ofNat dp) (Int32.ofNat K)) (fun zu3 => m_X10_builds_L83 F r31 r32 r35 (Int32.ofNat K) (Int32.ofNat dp) f (Int32.ofNat (k + 1)) zu3.1 zu3.2.1 zu3.2.2.1 zu3.2.2.2.1 zu3.2.2.2.2.1 zu3.2.2.2.2.2))) else some (Int32.ofNat k, t)) := fun f => by
      rw [m_X10_builds_L83, ht, if_neg hle, if_pos (zn_ok (by omega) (by omega)), zn_nat (by omega), hk1]
    by_cases hfl : s.1 6 = 0
    · have hfl' : t.1 9 = 0 := i4.symm.trans hfl
      by_cases hon : r35 k = 0
      · refine ⟨s, t, hR, fun f => ?_, fun f => ?_⟩
        · show Option.map _ (m_X0_build_L67 F RR r4 (Int32.ofNat K) (Int32.ofNat dp) (f + 1 + 1) (Int32.ofNat k) s.1 s.2.1 s.2.2.1 s.2.2.2.1 s.2.2.2.2.1 s.2.2.2.2.2) = _
          rw [uC (f + 1), if_pos hfl, if_pos hon]
        · show Option.map _ (m_X10_builds_L83 F r31 r32 r35 (Int32.ofNat K) (Int32.ofNat dp) (f + 1 + 1) (Int32.ofNat k) t.1 t.2.1 t.2.2.1 t.2.2.2.1 t.2.2.2.2.1 t.2.2.2.2.2) = _
          rw [uM (f + 1), if_pos hfl', if_pos hon]
      · obtain ⟨s', t', m1, m2, m3⟩ := made (F := F) (RR := RR) (t2 := aid (RR 4 2) (Int32.ofNat k)) hF hρn hk g1 g2 g3 (g8.trans g3) g9 g10 g11 hK he hd1 hd2 hR
        refine ⟨s', t', m1, fun f => ?_, fun f => ?_⟩
        · show Option.map _ (m_X0_build_L67 F RR r4 (Int32.ofNat K) (Int32.ofNat dp) (f + 1 + 1) (Int32.ofNat k) s.1 s.2.1 s.2.2.1 s.2.2.2.1 s.2.2.2.2.1 s.2.2.2.2.2) = _
          rw [uC (f + 1), if_pos hfl, if_neg hon, m2, Option.bind_some]
        · show Option.map _ (m_X10_builds_L83 F r31 r32 r35 (Int32.ofNat K) (Int32.ofNat dp) (f + 1 + 1) (Int32.ofNat k) t.1 t.2.1 t.2.2.1 t.2.2.2.1 t.2.2.2.2.1 t.2.2.2.2.2) = _
          rw [uM (f + 1), if_pos hfl', if_neg hon, m3, Option.bind_some]
    · have hfl' : ¬ t.1 9 = 0 := fun q => hfl (i4.trans q)
      refine ⟨s, t, hR, fun f => ?_, fun f => ?_⟩
      · have b1 : ∀ x f, (m_X0_build_L67 F RR r4 (Int32.ofNat K) (Int32.ofNat dp) (f + 1) x s.1 s.2.1 s.2.2.1 s.2.2.2.1 s.2.2.2.2.1 s.2.2.2.2.2).map (fun q => q.2) = some s := fun x f => by
          rw [m_X0_build_L67, show m_X5_size F r4 = some (r4 2) from rfl, hr4, Option.bind_some, if_neg hfl]
          by_cases q : Int32.ofNat ρn ≤ x
          · rw [if_pos q]; rfl
          · rw [if_neg q]; rfl
        exact (b1 _ (f + 1)).trans (b1 _ f).symm
      · have b1 : ∀ x f, (m_X10_builds_L83 F r31 r32 r35 (Int32.ofNat K) (Int32.ofNat dp) (f + 1) x t.1 t.2.1 t.2.2.1 t.2.2.2.1 t.2.2.2.2.1 t.2.2.2.2.2).map (fun q => q.2) = some t := fun x f => by
          rw [m_X10_builds_L83, if_neg hfl']
          by_cases q : t.1 2 ≤ x
          · rw [if_pos q]; rfl
          · rw [if_neg q]; rfl
        exact (b1 _ (f + 1)).trans (b1 _ f).symm

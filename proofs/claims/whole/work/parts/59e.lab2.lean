/-- class's masks and model's labels -/
def labF (i o : Int32) (k : Nat) : Int32 := if tb i k = true then 2 else if tb o k = true then 0 else 1
def LR (n : Nat) (i o : Int32) (q15 q42 q43 : Nat → Int32) : Prop := (∀ k, k < 32 → tb i k = true → k < n) ∧ (∀ k, k < 32 → tb o k = true → k < n) ∧ (∀ k, tb i k = true → tb o k = false) ∧ ∀ k, k < n → q42 k = labF i o k ∧ q43 k = q15 k
theorem labF_2 {i o : Int32} {k : Nat} : labF i o k = 2 ↔ tb i k = true := by
  unfold labF
  cases h : tb i k with
  | true => simp
  | false =>
    cases h2 : tb o k with
    | true => simp
    | false => simp
theorem labF_0 {i o : Int32} {k : Nat} (h : tb i k = true → tb o k = false) : labF i o k = 0 ↔ tb o k = true := by
  unfold labF
  cases h1 : tb i k with
  | true => simp [h h1]
  | false =>
    cases h2 : tb o k with
    | true => simp
    | false => simp
theorem labF_1 {i o : Int32} {k : Nat} : labF i o k = 1 ↔ tb i k = false ∧ tb o k = false := by
  unfold labF
  cases h1 : tb i k with
  | true => simp
  | false =>
    cases h2 : tb o k with
    | true => simp
    | false => simp
theorem lab_round {F n r : Nat} {r13 r14 q15 r29 r41 q42 q43 : Nat → Int32} (hF : 20000 ≤ F) (h8 : r29 8 = Int32.ofNat n) (hn : n ≤ 24) (hA : ∀ k, k < n → r13 k = r41 k) (hL : LR n (r14 1) (r14 2) q15 q42 q43) :
    ∃ x w vo q42' q43', m_X3_unattacked F r13 r14 (Int32.ofNat n) = some x ∧ m_X3_defeated F r13 (upd r14 1 (r14 1 ||| x)) (Int32.ofNat n) = some w ∧
      (∀ k, k < 32 → (tb x k = true ∨ tb w k = true) → k < n ∧ tb (r14 1) k = false ∧ tb (r14 2) k = false) ∧
      m_X10_withLabel F r29 q42 1 = some vo ∧ (∀ k, k < 32 → (tb vo k = true ↔ k < n ∧ tb (r14 1) k = false ∧ tb (r14 2) k = false)) ∧
      (∀ f x1, x1 ≠ vo → m_X10_labelsAll_L34 F r29 r41 (f + 1) (Int32.ofNat r) x1 q42 q43 = m_X10_labelsAll_L34 F r29 r41 f (Int32.ofNat (r + 1)) vo q42' q43') ∧
      ∀ q15' : Nat → Int32, (∀ k, k < 24 → q15' k = if tb x k = true ∨ tb w k = true then Int32.ofNat r else q15 k) → LR n (r14 1 ||| x) (r14 2 ||| w) q15' q42' q43' := by
  obtain ⟨l1, l2, l3, l4⟩ := hL
  obtain ⟨x, x1, x2⟩ := ev_unattacked (F := F) (r13 := r13) (r14 := r14) hF hn
  obtain ⟨w, w1, w2⟩ := ev_defeated (F := F) (r13 := r13) (r14 := upd r14 1 (r14 1 ||| x)) hF hn
  rw [upd_at, upd_ne (show (2 : Nat) ≠ 1 by decide)] at w2
  obtain ⟨vo, o1, o2⟩ := ev_withLabel (F := F) (lab := 1) (r42 := q42) hF h8 hn
  obtain ⟨vz, z1, z2⟩ := ev_withLabel (F := F) (lab := 0) (r42 := q42) hF h8 hn
  have ez : vz = r14 2 := tb_ext fun k hk => by
    have : tb vz k = true ↔ tb (r14 2) k = true := by
      rw [z2 k hk]
      constructor
      · rintro ⟨h1, h2⟩
        rw [(l4 k h1).1, labF_0 (l3 k)] at h2
        exact h2
      · intro h
        have hkn := l2 k hk h
        refine ⟨hkn, ?_⟩
        rw [(l4 k hkn).1, labF_0 (l3 k)]
        exact h
    cases h1 : tb vz k <;> cases h2 : tb (r14 2) k <;> simp_all
  subst ez
  obtain ⟨s1, p42, p43, e1, e2⟩ := ev_labIn (F := F) (y := Int32.ofNat r) (mo := r14 2) (r41 := r41) (q42 := q42) (q43 := q43) hF h8 hn
  obtain ⟨vi, i1, i2⟩ := ev_withLabel (F := F) (lab := 2) (r42 := p42) hF h8 hn
  -- after the first half
  have hx : ∀ k, k < n → (tb x k = true ↔ q42 k = 1 ∧ (r41 k &&& (r14 2 ^^^ (-1))) = 0) := fun k hk => by
    rw [x2 k (by omega), (l4 k hk).1, labF_1, hA k hk]
    exact ⟨fun q => q.2, fun q => ⟨hk, q⟩⟩
  have hp : ∀ k, k < n → p42 k = labF (r14 1 ||| x) (r14 2) k ∧ p43 k = if tb x k = true then Int32.ofNat r else q15 k := fun k hk => by
    by_cases c : tb x k = true
    · have := (e2 k).1 ⟨hk, (hx k hk).mp c⟩
      rw [this.1, this.2, if_pos c]
      refine ⟨(labF_2.mpr ?_).symm, rfl⟩
      rw [tb_or, c, Bool.or_true]
    · have := (e2 k).2 (fun q => c ((hx k hk).mpr q.2))
      rw [this.1, this.2, if_neg c, (l4 k hk).1, (l4 k hk).2]
      refine ⟨?_, rfl⟩
      unfold labF
      rw [tb_or, Bool.eq_false_iff.mpr c, Bool.or_false]
  have ei : vi = r14 1 ||| x := tb_ext fun k hk => by
    have : tb vi k = true ↔ tb (r14 1 ||| x) k = true := by
      rw [i2 k hk]
      constructor
      · rintro ⟨h1, h2⟩
        rw [(hp k h1).1, labF_2] at h2
        exact h2
      · intro h
        have hkn : k < n := by
          rw [tb_or, Bool.or_eq_true] at h
          exact h.elim (l1 k hk) (fun q => ((x2 k hk).mp q).1)
        refine ⟨hkn, ?_⟩
        rw [(hp k hkn).1, labF_2]
        exact h
    cases h1 : tb vi k <;> cases h2 : tb (r14 1 ||| x) k <;> simp_all
  subst ei
  obtain ⟨s2, q42', q43', f1, f2⟩ := ev_labOut (F := F) (y := Int32.ofNat r) (mo := r14 1 ||| x) (r41 := r41) (q42 := p42) (q43 := p43) hF h8 hn
  have hw : ∀ k, k < n → (tb w k = true ↔ p42 k = 1 ∧ ¬ (r41 k &&& (r14 1 ||| x)) = 0) := fun k hk => by
    rw [w2 k (by omega), (hp k hk).1, labF_1, hA k hk]
    exact ⟨fun q => q.2, fun q => ⟨hk, q⟩⟩
  refine ⟨x, w, vo, q42', q43', x1, w1, ?_, o1, ?_, ?_, ?_⟩
  · rintro k hk (h | h)
    · have := (x2 k hk).mp h
      exact ⟨this.1, this.2.1⟩
    · have := (w2 k hk).mp h
      rw [tb_or, Bool.or_eq_false_iff] at this
      exact ⟨this.1, this.2.1.1.1, this.2.1.2⟩
  · intro k hk
    rw [o2 k hk]
    constructor
    · rintro ⟨h1, h2⟩
      rw [(l4 k h1).1, labF_1] at h2
      exact ⟨h1, h2⟩
    · rintro ⟨h1, h2⟩
      refine ⟨h1, ?_⟩
      rw [(l4 k h1).1, labF_1]
      exact h2
  · intro f x1' hne
    rw [m_X10_labelsAll_L34, o1, Option.bind_some, if_neg hne, Option.bind_some, z1, Option.bind_some, e1, Option.bind_some]
    show Option.bind (m_X10_withLabel F r29 p42 2) _ = _
    rw [i1, Option.bind_some]
    show Option.bind (m_X10_labelsAll_L124 F r29 r41 (r14 1 ||| x) (Int32.ofNat r) F 0 p42 p43) _ = _
    rw [f1, Option.bind_some, zn_s]
  · intro q15' hq
    refine ⟨fun k hk h => ?_, fun k hk h => ?_, fun k h => ?_, fun k hk => ?_⟩
    · rw [tb_or, Bool.or_eq_true] at h
      exact h.elim (l1 k hk) (fun q => ((x2 k hk).mp q).1)
    · rw [tb_or, Bool.or_eq_true] at h
      exact h.elim (l2 k hk) (fun q => ((w2 k hk).mp q).1)
    · have hk : k < 32 := by
        apply Nat.lt_of_not_le
        intro q
        rw [tb_big _ q] at h
        cases h
      have h' := h
      rw [tb_or, Bool.or_eq_true] at h
      rw [tb_or, Bool.or_eq_false_iff]
      constructor
      · rcases h with h | h
        · exact l3 k h
        · exact ((x2 k hk).mp h).2.1.2
      · apply Bool.eq_false_iff.mpr
        intro q
        have := ((w2 k hk).mp q).2.1.1
        rw [h'] at this
        cases this
    · by_cases c : tb w k = true
      · have g := (f2 k).1 ⟨hk, (hw k hk).mp c⟩
        have hx0 : tb (r14 1 ||| x) k = false := ((w2 k (by omega)).mp c).2.1.1
        rw [g.1, g.2, hq k (by omega), if_pos (Or.inr c)]
        refine ⟨?_, rfl⟩
        unfold labF
        rw [hx0, tb_or, c, Bool.or_true]
        rfl
      · have g := (f2 k).2 (fun q => c ((hw k hk).mpr q.2))
        rw [g.1, g.2, hq k (by omega), (hp k hk).1, (hp k hk).2]
        constructor
        · unfold labF
          rw [tb_or (r14 2) w, Bool.eq_false_iff.mpr c, Bool.or_false]
        · by_cases c2 : tb x k = true
          · rw [if_pos c2, if_pos (Or.inl c2)]
          · rw [if_neg c2, if_neg (fun q => q.elim c2 c)]

theorem fl_lt {P Q : Nat → Bool} : ∀ (l : List Nat), (∀ k ∈ l, Q k = true → P k = true) → (∃ k ∈ l, P k = true ∧ Q k = false) → (l.filter Q).length < (l.filter P).length := by
  have hle : ∀ (l : List Nat), (∀ k ∈ l, Q k = true → P k = true) → (l.filter Q).length ≤ (l.filter P).length := by
    intro l
    induction l with
    | nil => intro _; exact Nat.le_refl _
    | cons x l ih =>
      intro h
      have h1 := ih (fun k hk => h k (List.mem_cons_of_mem _ hk))
      cases hq : Q x with
      | true =>
        have hp := h x List.mem_cons_self hq
        simp only [List.filter_cons, hq, hp, if_pos, List.length_cons]
        omega
      | false =>
        cases hp : P x with
        | true => simp only [List.filter_cons, hq, hp, if_pos, List.length_cons, Bool.false_eq_true, if_false]; omega
        | false => simp only [List.filter_cons, hq, hp, Bool.false_eq_true, if_false]; exact h1
  intro l
  induction l with
  | nil => rintro _ ⟨k, hk, -⟩; cases hk
  | cons x l ih =>
    rintro h ⟨k, hk, k1, k2⟩
    have hl := hle l (fun k hk => h k (List.mem_cons_of_mem _ hk))
    rcases List.mem_cons.mp hk with e | hk'
    · subst e
      simp only [List.filter_cons, k1, k2, if_pos, List.length_cons, Bool.false_eq_true, if_false]
      omega
    · have h1 := ih (fun k hk => h k (List.mem_cons_of_mem _ hk)) ⟨k, hk', k1, k2⟩
      cases hq : Q x with
      | true =>
        have hp := h x List.mem_cons_self hq
        simp only [List.filter_cons, hq, hp, if_pos, List.length_cons]
        omega
      | false =>
        cases hp : P x with
        | true => simp only [List.filter_cons, hq, hp, if_pos, List.length_cons, Bool.false_eq_true, if_false]; omega
        | false => simp only [List.filter_cons, hq, hp, Bool.false_eq_true, if_false]; exact h1
def oc (n : Nat) (i o : Int32) : Nat := ((List.range n).filter (fun k => !tb i k && !tb o k)).length
theorem tb_iff {x y : Int32} (h : ∀ k, k < 32 → (tb x k = true ↔ tb y k = true)) : x = y := tb_ext fun k hk => by
  have := h k hk
  cases h1 : tb x k <;> cases h2 : tb y k <;> simp_all
theorem tb_lab {i o x w : Int32} (h : ∀ k, k < 32 → (tb x k = true ∨ tb w k = true) → tb i k = false ∧ tb o k = false) {k : Nat} (hk : k < 32) : tb (((i ||| x) ||| (o ||| w)) &&& ((i ||| o) ^^^ (-1))) k = true ↔ tb x k = true ∨ tb w k = true := by
  have := h k hk
  rw [tb_and, tb_not _ hk, tb_or, tb_or, tb_or, tb_or]
  cases h1 : tb i k <;> cases h2 : tb o k <;> cases h3 : tb x k <;> cases h4 : tb w k <;> simp_all
theorem zn_24lt {r : Nat} (h : r ≤ 24) : ¬ (24 : Int32) < Int32.ofNat r := by
  have : ∀ r, r < 25 → ¬ (24 : Int32) < Int32.ofNat r := by decide
  exact this r (by omega)
theorem labs_run {F n : Nat} {r13 r29 r41 : Nat → Int32} (hF : 20000 ≤ F) (h8 : r29 8 = Int32.ofNat n) (hn : n ≤ 24) (hA : ∀ k, k < n → r13 k = r41 k) :
    ∀ (d r : Nat) (q14 q15 : Nat → Int32) (x1 : Int32) (q42 q43 : Nat → Int32), 1 ≤ r → r + d = 25 → LR n (q14 1) (q14 2) q15 q42 q43 → (∀ vo, (∀ k, k < 32 → (tb vo k = true ↔ k < n ∧ tb (q14 1) k = false ∧ tb (q14 2) k = false)) → x1 ≠ vo) → oc n (q14 1) (q14 2) + (r - 1) ≤ n →
    ∃ q14' q15' q42' q43', LR n (q14' 1) (q14' 2) q15' q42' q43' ∧ (∀ f, m_X3_build_L33 F r13 (Int32.ofNat n) (f + d + 1) (Int32.ofNat r) q14 q15 = some (q14', q15')) ∧ (∀ f, m_X10_labelsAll_L34 F r29 r41 (f + d + 2) (Int32.ofNat r) x1 q42 q43 = some (q42', q43')) := by
  intro d
  -- the model's last round, where nothing is labelled
  have hstop : ∀ (r : Nat) (i o vo : Int32) (q15 q42' q43' : Nat → Int32), LR n i o q15 q42' q43' → (∀ k, k < 32 → (tb vo k = true ↔ k < n ∧ tb i k = false ∧ tb o k = false)) → ∀ f, m_X10_labelsAll_L34 F r29 r41 (f + 1) (Int32.ofNat r) vo q42' q43' = some (q42', q43') := by
    intro r i o vo q15 q42' q43' hL hvo f
    obtain ⟨v', v1, v2⟩ := ev_withLabel (F := F) (lab := 1) (r42 := q42') hF h8 hn
    have e : vo = v' := tb_iff fun k hk => by
      rw [hvo k hk, v2 k hk]
      constructor
      · rintro ⟨h1, h2⟩
        refine ⟨h1, ?_⟩
        rw [(hL.2.2.2 k h1).1, labF_1]
        exact h2
      · rintro ⟨h1, h2⟩
        rw [(hL.2.2.2 k h1).1, labF_1] at h2
        exact ⟨h1, h2⟩
    rw [m_X10_labelsAll_L34, v1, Option.bind_some, if_pos e]
  have hsame : ∀ {x i : Int32}, (∀ k, k < 32 → ¬ tb x k = true) → i ||| x = i := fun {x i} h => tb_ext fun k hk => by
    rw [tb_or, Bool.eq_false_iff.mpr (h k hk), Bool.or_false]
  induction d with
  | zero =>
    intro r q14 q15 x1 q42 q43 hr1 hr hL hx hoc
    have hr : r = 25 := hr
    subst hr
    obtain ⟨x, w, vo, q42', q43', g1, g2, g3, g4, g5, g6, g7⟩ := lab_round (F := F) (r := 25) (r14 := q14) hF h8 hn hA hL
    have hno : ∀ k, k < 32 → ¬ (tb x k = true ∨ tb w k = true) := fun k hk h => by
      obtain ⟨h1, h2, h3⟩ := g3 k hk h
      have : k ∈ (List.range n).filter (fun k => !tb (q14 1) k && !tb (q14 2) k) := by
        rw [List.mem_filter, List.mem_range, h2, h3]
        exact ⟨h1, rfl⟩
      have hpos := List.length_pos_of_mem this
      unfold oc at hoc
      omega
    have hL' := g7 q15 (fun k hk => by rw [if_neg (hno k (by omega))])
    rw [hsame (fun k hk q => hno k hk (Or.inl q)), hsame (fun k hk q => hno k hk (Or.inr q))] at hL'
    refine ⟨q14, q15, q42', q43', hL', fun f => ?_, fun f => ?_⟩
    · rw [m_X3_build_L33, if_pos (by decide)]
    · rw [g6 _ _ (hx vo g5), hstop _ _ _ _ _ _ _ hL' g5]
  | succ d ih =>
    intro r q14 q15 x1 q42 q43 hr1 hr hL hx hoc
    obtain ⟨x, w, vo, q42', q43', g1, g2, g3, g4, g5, g6, g7⟩ := lab_round (F := F) (r := r) (r14 := q14) hF h8 hn hA hL
    have hlab := fun {k : Nat} (hk : k < 32) => tb_lab (i := q14 1) (o := q14 2) (fun k hk h => (g3 k hk h).2) hk
    have hun : ∀ f, m_X3_build_L33 F r13 (Int32.ofNat n) (f + 1) (Int32.ofNat r) q14 q15 = (if (((q14 1 ||| x) ||| (q14 2 ||| w)) &&& ((q14 1 ||| q14 2) ^^^ (-1))) = 0 then some (upd (upd q14 1 (q14 1 ||| x)) 2 (q14 2 ||| w), q15) else Option.bind (m_X3_noteRound F q15 (Int32.ofNat r) (((q14 1 ||| x) ||| (q14 2 ||| w)) &&& ((q14 1 ||| q14 2) ^^^ (-1)))) (fun zu4 => m_X3_build_L33 F r13 (Int32.ofNat n) f (Int32.ofNat (r + 1)) (upd (upd q14 1 (q14 1 ||| x)) 2 (q14 2 ||| w)) zu4)) := fun f => by
      rw [m_X3_build_L33, if_neg (zn_24lt (by omega)), g1, Option.bind_some, g2, Option.bind_some, zn_s]
    by_cases c : (((q14 1 ||| x) ||| (q14 2 ||| w)) &&& ((q14 1 ||| q14 2) ^^^ (-1))) = 0
    · have hno : ∀ k, k < 32 → ¬ (tb x k = true ∨ tb w k = true) := fun k hk h => by
        have := (hlab hk).mpr h
        rw [c, tb_0] at this
        cases this
      have hL' := g7 q15 (fun k hk => by rw [if_neg (hno k (by omega))])
      have ei := hsame (i := q14 1) (fun k hk q => hno k hk (Or.inl q))
      have eo := hsame (i := q14 2) (fun k hk q => hno k hk (Or.inr q))
      refine ⟨upd (upd q14 1 (q14 1 ||| x)) 2 (q14 2 ||| w), q15, q42', q43', ?_, fun f => ?_, fun f => ?_⟩
      · rw [upd_at, upd_ne (show (1 : Nat) ≠ 2 by decide), upd_at]; exact hL'
      · rw [show f + (d + 1) + 1 = (f + d + 1) + 1 by omega, hun, if_pos c]
      · rw [ei, eo] at hL'
        rw [show f + (d + 1) + 2 = (f + d + 1 + 1) + 1 by omega, g6 _ _ (hx vo g5), hstop _ _ _ _ _ _ _ hL' g5]
    · obtain ⟨qn, n1, n2⟩ := ev_noteRound (F := F) (y := Int32.ofNat r) (m := (((q14 1 ||| x) ||| (q14 2 ||| w)) &&& ((q14 1 ||| q14 2) ^^^ (-1)))) (r15 := q15) hF
      have hL' := g7 qn (fun k hk => by
        rw [n2 k hk]
        by_cases q : tb x k = true ∨ tb w k = true
        · rw [if_pos q, if_pos ((hlab (by omega)).mpr q)]
        · rw [if_neg q, if_neg (fun w' => q ((hlab (by omega)).mp w'))])
      have hex : ∃ k, k < 32 ∧ (tb x k = true ∨ tb w k = true) := Classical.byContradiction fun q => c (eq0_tb.mpr fun k hk => by
        apply Bool.eq_false_iff.mpr
        intro h
        exact q ⟨k, hk, (hlab hk).mp h⟩)
      obtain ⟨k, hk, hkx⟩ := hex
      have hkk := g3 k hk hkx
      have hcl : tb (q14 1 ||| x) k = true ∨ tb (q14 2 ||| w) k = true := by
        rw [tb_or, tb_or, Bool.or_eq_true, Bool.or_eq_true]
        rcases hkx with h | h
        · exact Or.inl (Or.inr h)
        · exact Or.inr (Or.inr h)
      obtain ⟨a14, a15, a42, a43, w1, w2, w3⟩ := ih (r + 1) (upd (upd q14 1 (q14 1 ||| x)) 2 (q14 2 ||| w)) qn vo q42' q43' (by omega) (by omega) (by
        rw [upd_at, upd_ne (show (1 : Nat) ≠ 2 by decide), upd_at]; exact hL') (by
        rw [upd_at, upd_ne (show (1 : Nat) ≠ 2 by decide), upd_at]
        intro vo' hvo' e
        have h1 := (g5 k hk).mpr hkk
        rw [e] at h1
        obtain ⟨-, h2, h3⟩ := (hvo' k hk).mp h1
        rw [h2, h3] at hcl
        exact hcl.elim (fun q => by cases q) (fun q => by cases q)) (by
        rw [upd_at, upd_ne (show (1 : Nat) ≠ 2 by decide), upd_at]
        have : oc n (q14 1 ||| x) (q14 2 ||| w) < oc n (q14 1) (q14 2) := by
          refine fl_lt _ (fun j hj h => ?_) ⟨k, List.mem_range.mpr hkk.1, ?_, ?_⟩
          · rw [tb_or, tb_or] at h
            cases h1 : tb (q14 1) j <;> cases h2 : tb (q14 2) j <;> simp_all
          · rw [hkk.2.1, hkk.2.2]; rfl
          · rcases hcl with h | h <;> rw [h] <;> simp
        omega)
      refine ⟨a14, a15, a42, a43, w1, fun f => ?_, fun f => ?_⟩
      · rw [show f + (d + 1) + 1 = (f + d + 1) + 1 by omega, hun, if_neg c, n1, Option.bind_some, w2]
      · rw [show f + (d + 1) + 2 = (f + d + 2) + 1 by omega, g6 _ _ (hx vo g5), w3]
theorem labs_both {F n : Nat} {r13 r14 r15 r29 r41 r42 r43 : Nat → Int32} (hF : 20000 ≤ F) (h8 : r29 8 = Int32.ofNat n) (hn : n ≤ 24) (hA : ∀ k, k < n → r13 k = r41 k) :
    ∃ q14 q15 q42 q43, m_X3_build F r13 r14 r15 (Int32.ofNat n) = some (q14, q15) ∧ m_X10_labelsAll F r29 r41 r42 r43 = some (q42, q43) ∧ LR n (q14 1) (q14 2) q15 q42 q43 := by
  have k1 := run1F (F := F) (K := 24) (LC := fun f x (p : (Nat → Int32) × (Nat → Int32)) => m_X3_build_L12 F f x p.1 p.2) (P := fun i p => p.1 = upd (upd r14 1 0) 2 0 ∧ ∀ k, k < i → p.2 k = 0) (gC := fun p => (Int32.ofNat 24, p)) (by omega) ?_ ?_ (upd (upd r14 1 0) 2 0, r15) ⟨rfl, fun k h => absurd h (Nat.not_lt_zero _)⟩
  · have k2 := run1F (F := F) (K := n) (LC := fun f x (p : (Nat → Int32) × (Nat → Int32)) => m_X10_labelsAll_L2 F r29 f x p.1 p.2) (P := fun i p => ∀ k, k < i → p.1 k = 1 ∧ p.2 k = 0) (gC := fun p => (Int32.ofNat n, p)) (by omega) ?_ ?_ (r42, r43) (fun k h => absurd h (Nat.not_lt_zero _))
    · obtain ⟨p, ⟨p1, p2⟩, p3⟩ := k1
      obtain ⟨s, s1, s2⟩ := k2
      have i0 : tb 0 = fun _ => false := funext fun k => tb_0 k
      obtain ⟨q14, q15, q42, q43, w1, w2, w3⟩ := labs_run (F := F) hF h8 hn hA 24 1 p.1 p.2 (-1) s.1 s.2 (by omega) (by omega) (by
        rw [p1, upd_at, upd_ne (show (1 : Nat) ≠ 2 by decide), upd_at]
        refine ⟨fun k _ h => ?_, fun k _ h => ?_, fun k _ => tb_0 k, fun k hk => ⟨?_, ?_⟩⟩
        · rw [tb_0] at h; cases h
        · rw [tb_0] at h; cases h
        · rw [(s1 k hk).1]
          unfold labF
          rw [tb_0]
          rfl
        · rw [(s1 k hk).2, p2 k (by omega)]) (fun vo hvo e => by
        have h1 : tb (-1) 30 = true := tb_m1 (by omega)
        rw [e] at h1
        have := ((hvo 30 (by omega)).mp h1).1
        omega) (by
        have : oc n (p.1 1) (p.1 2) ≤ n := by
          unfold oc
          have := List.length_filter_le (fun k => !tb (p.1 1) k && !tb (p.1 2) k) (List.range n)
          rw [List.length_range] at this
          exact this
        omega)
      refine ⟨q14, q15, q42, q43, ?_, ?_, w1⟩
      · have h := w2 (F - 25)
        rw [show F - 25 + 24 + 1 = F by omega] at h
        have p3 : m_X3_build_L12 F F 0 (upd (upd r14 1 0) 2 0) r15 = some (Int32.ofNat 24, p) := p3
        unfold m_X3_build
        rw [p3, Option.bind_some]
        exact h
      · have h := w3 (F - 26)
        rw [show F - 26 + 24 + 2 = F by omega] at h
        have s2 : m_X10_labelsAll_L2 F r29 F 0 r42 r43 = some (Int32.ofNat n, s) := s2
        unfold m_X10_labelsAll
        rw [s2, Option.bind_some]
        exact h
    · intro i hi p hp
      refine ⟨(upd p.1 i 1, upd p.2 i 0), fun k hk => ?_, fun f => ?_⟩
      · by_cases e : k = i
        · subst e
          exact ⟨upd_at _ _ _, upd_at _ _ _⟩
        · exact ⟨(upd_ne e).trans (hp k (by omega)).1, (upd_ne e).trans (hp k (by omega)).2⟩
      · have gm : ¬ (Int32.ofNat i < 0 ∨ 24 ≤ (Int32.ofNat i).toNatClampNeg) := zn_ok (by omega) (by omega)
        show m_X10_labelsAll_L2 F r29 (f + 1) (Int32.ofNat i) p.1 p.2 = _
        rw [m_X10_labelsAll_L2, h8, if_neg (zn_nle hn hi)]
        simp only [if_pos gm]
        rw [zn_nat (by omega), zn_s]
    · intro f p hp
      show m_X10_labelsAll_L2 F r29 (f + 1) (Int32.ofNat n) p.1 p.2 = _
      rw [m_X10_labelsAll_L2, h8, if_pos (Int32.le_refl _)]
  · intro i hi p ⟨h1, h2⟩
    refine ⟨(p.1, upd p.2 i 0), ⟨h1, fun k hk => ?_⟩, fun f => ?_⟩
    · by_cases e : k = i
      · subst e; exact upd_at _ _ _
      · exact (upd_ne e).trans (h2 k (by omega))
    · show m_X3_build_L12 F (f + 1) (Int32.ofNat i) p.1 p.2 = _
      rw [m_X3_build_L12, if_neg (zn_lt24 hi), if_pos (zn_ok hi (by omega)), zn_nat (by omega), zn_s]
  · intro f p hp
    show m_X3_build_L12 F (f + 1) (Int32.ofNat 24) p.1 p.2 = _
    rw [m_X3_build_L12, if_pos (by decide)]

/-! the class's attacks -/
theorem ev_strength {F n k : Nat} {RR : Nat → Nat → Int32} {r8 r31 r32 r33 r34 r35 r37 : Nat → Int32} {ρn : Nat} (hn : n ≤ 24) (hρn : ρn ≤ 12) (hru : ruR ρn RR r31 r32 r33 r34 r35) (hm : ∀ i, i < n → r37 i = -1 ∨ ∃ ρ, ρ < ρn ∧ r37 i = Int32.ofNat ρ) (h8 : ∀ i, i < n → r8 i = r37 i) (hk : k < n) : m_X1_strength F RR r8 (Int32.ofNat k) = some (stg r33 r37 k) := by
  unfold m_X1_strength stg
  rw [ev_makerAt (by omega), Option.bind_some, h8 k hk]
  rcases hm k hk with h | ⟨ρ, h1, h2⟩
  · rw [if_pos h, if_pos h]
  · obtain ⟨j, e, p, -, -, -, -, -, -, -, -, -, -, -, g12, -, -, -⟩ := hru ρ h1
    rw [h2, if_neg (zn_m1 (by omega)), if_neg (zn_m1 (by omega)), g12, zn_nat (by omega)]
theorem ev_rule_atts {F n ρn i ρ : Nat} {RR : Nat → Nat → Int32} {r6 r7 r8 r31 r32 r33 r34 r35 r36 r37 : Nat → Int32} (hF : 20000 ≤ F) (hn : n ≤ 24) (hρn : ρn ≤ 12) (h5 : r6 5 = Int32.ofNat n) (hru : ruR ρn RR r31 r32 r33 r34 r35) (hm : ∀ i, i < n → r37 i = -1 ∨ ∃ ρ, ρ < ρn ∧ r37 i = Int32.ofNat ρ) (h7 : ∀ i, i < n → r7 i = r36 i) (h8 : ∀ i, i < n → r8 i = r37 i) (hi : i < n) (hρ : ρ < ρn) (hmi : r37 i = Int32.ofNat ρ) (hci : r36 i = r31 ρ) :
    ∃ v, m_X1_attackersOfRule F RR (aid (RR 4 2) (Int32.ofNat ρ)) r6 r7 r8 = some v ∧ ∀ k, k < 32 → (tb v k = true ↔ k < n ∧ oppP r33 r34 r36 r37 k i) := by
  obtain ⟨j, e, p, -, -, -, -, -, -, -, g8, -, -, -, g12, g13, -, -⟩ := hru ρ hρ
  have hst : stg r33 r37 i = r33 ρ := by
    unfold stg
    rw [hmi, if_neg (zn_m1 (by omega)), zn_nat (by omega)]
  have hne : r37 i ≠ -1 := by rw [hmi]; exact zn_m1 (by omega)
  have hop : ∀ k, oppP r33 r34 r36 r37 k i ↔ (r36 k = -(r31 ρ) ∧ ¬ stg r33 r37 k < r33 ρ) ∨ r36 k = r34 ρ := fun k => by
    unfold oppP
    rw [hst, hci, hmi, zn_nat (by omega)]
    exact ⟨fun q => q.2, fun q => ⟨zn_m1 (by omega), q⟩⟩
  have key := run1F (F := F) (K := n) (LC := fun f x v => m_X1_attackersOfRule_L5 F RR (aid (RR 4 2) (Int32.ofNat ρ)) r6 r7 r8 f x v) (P := fun m v => ∀ k, k < 32 → (tb v k = true ↔ k < m ∧ oppP r33 r34 r36 r37 k i)) (gC := fun v => v) (by omega) ?_ ?_ 0 (fun k hk => by rw [tb_0]; exact ⟨fun q => absurd q (by decide), fun q => absurd q.1 (Nat.not_lt_zero _)⟩)
  · obtain ⟨v, v1, v2⟩ := key
    exact ⟨v, v2, v1⟩
  · intro m hm' v hv
    have hle : ¬ Int32.ofNat n ≤ Int32.ofNat m := fun w => by have := (zn_le (by omega) (by omega)).mp w; omega
    have e1 : ∃ u, (if r36 m = -(r31 ρ) then Option.bind (m_X1_strength F RR r8 (Int32.ofNat m)) (fun zu3 => if zu3 < r33 ρ then some (0 : Int32) else some 1) else some 0) = some u ∧ (u = 0 ∨ u = 1) ∧ (u = 1 ↔ r36 m = -(r31 ρ) ∧ ¬ stg r33 r37 m < r33 ρ) := by
      rw [ev_strength hn hρn hru hm h8 hm', Option.bind_some]
      by_cases p1 : r36 m = -(r31 ρ)
      · rw [if_pos p1]
        by_cases p2 : stg r33 r37 m < r33 ρ
        · rw [if_pos p2]
          exact ⟨0, rfl, Or.inl rfl, fun q => absurd q (by decide), fun q => absurd p2 q.2⟩
        · rw [if_neg p2]
          exact ⟨1, rfl, Or.inr rfl, fun _ => ⟨p1, p2⟩, fun _ => rfl⟩
      · rw [if_neg p1]
        exact ⟨0, rfl, Or.inl rfl, fun q => absurd q (by decide), fun q => absurd q.1 p1⟩
    obtain ⟨u, u1, u2, u3⟩ := e1
    have hadd : ∀ v' : Int32, (v' = v ||| ((1 : Int32) <<< (Int32.ofNat m &&& 31)) ∧ oppP r33 r34 r36 r37 m i) ∨ (v' = v ∧ ¬ oppP r33 r34 r36 r37 m i) → ∀ k, k < 32 → (tb v' k = true ↔ k < m + 1 ∧ oppP r33 r34 r36 r37 k i) := by
      rintro v' (⟨hv', ho⟩ | ⟨hv', ho⟩) k hk
      · rw [hv', tb_or, Bool.or_eq_true, hv k hk, tb_bit (by omega) hk, decide_eq_true_eq]
        constructor
        · rintro (q | q)
          · exact ⟨by omega, q.2⟩
          · subst q; exact ⟨by omega, ho⟩
        · rintro ⟨q1, q2⟩
          by_cases e : k = m
          · exact Or.inr e
          · exact Or.inl ⟨by omega, q2⟩
      · rw [hv', hv k hk]
        constructor
        · rintro ⟨q1, q2⟩; exact ⟨by omega, q2⟩
        · rintro ⟨q1, q2⟩
          by_cases e : k = m
          · subst e; exact absurd q2 ho
          · exact ⟨by omega, q2⟩
    have hun : ∀ f, m_X1_attackersOfRule_L5 F RR (aid (RR 4 2) (Int32.ofNat ρ)) r6 r7 r8 (f + 1) (Int32.ofNat m) v = (if u = 0 then (if r36 m = r34 ρ then m_X1_attackersOfRule_L5 F RR (aid (RR 4 2) (Int32.ofNat ρ)) r6 r7 r8 f (Int32.ofNat (m + 1)) (v ||| ((1 : Int32) <<< (Int32.ofNat m &&& 31))) else m_X1_attackersOfRule_L5 F RR (aid (RR 4 2) (Int32.ofNat ρ)) r6 r7 r8 f (Int32.ofNat (m + 1)) v) else m_X1_attackersOfRule_L5 F RR (aid (RR 4 2) (Int32.ofNat ρ)) r6 r7 r8 f (Int32.ofNat (m + 1)) (v ||| ((1 : Int32) <<< (Int32.ofNat m &&& 31)))) := fun f => by
      rw [m_X1_attackersOfRule_L5, h5, if_neg hle, ev_conclusionAt (by omega), Option.bind_some, h7 m hm', g8, g12, g13, u1, Option.bind_some, zn_s]
    rcases u2 with hu | hu
    · by_cases p3 : r36 m = r34 ρ
      · exact ⟨_, hadd _ (Or.inl ⟨rfl, (hop m).mpr (Or.inr p3)⟩), fun f => by
          show m_X1_attackersOfRule_L5 F RR (aid (RR 4 2) (Int32.ofNat ρ)) r6 r7 r8 (f + 1) (Int32.ofNat m) v = _
          rw [hun f, if_pos hu, if_pos p3]⟩
      · refine ⟨v, hadd _ (Or.inr ⟨rfl, fun q => ?_⟩), fun f => ?_⟩
        · rcases (hop m).mp q with q | q
          · have := u3.mpr q
            rw [hu] at this
            exact absurd this (by decide)
          · exact p3 q
        · show m_X1_attackersOfRule_L5 F RR (aid (RR 4 2) (Int32.ofNat ρ)) r6 r7 r8 (f + 1) (Int32.ofNat m) v = _
          rw [hun f, if_pos hu, if_neg p3]
    · exact ⟨_, hadd _ (Or.inl ⟨rfl, (hop m).mpr (Or.inl (u3.mp hu))⟩), fun f => by
        show m_X1_attackersOfRule_L5 F RR (aid (RR 4 2) (Int32.ofNat ρ)) r6 r7 r8 (f + 1) (Int32.ofNat m) v = _
        rw [hun f, if_neg (by rw [hu]; decide)]⟩
  · intro f v hv
    show m_X1_attackersOfRule_L5 F RR (aid (RR 4 2) (Int32.ofNat ρ)) r6 r7 r8 (f + 1) (Int32.ofNat n) v = _
    rw [m_X1_attackersOfRule_L5, h5, if_pos (Int32.le_refl _)]
theorem ev_parts_atts {F i : Nat} {r10 q13 : Nat → Int32} {a b c : Option Nat} {x : Int32} (hF : 20000 ≤ F) (hi : i < 24) (ha : pok a 24) (hb : pok b 24) (hc : pok c 24) (e0 : r10 (i * 3) = pv a) (e1 : r10 (i * 3 + 1) = pv b) (e2 : r10 (i * 3 + 2) = pv c) :
    m_X1_build_L47 F r10 (Int32.ofNat i) F 0 x q13 = some (3, ((x ||| pg a q13) ||| pg b q13) ||| pg c q13, q13) := by
  obtain ⟨F', hF'⟩ : ∃ F', F = F' + 4 := ⟨F - 4, by omega⟩
  have p0 : m_X0_partAt F r10 (Int32.ofNat i) 0 = some (pv a) := (ev_partAt (p := 0) hi (by omega)).trans (by rw [← e0]; rfl)
  have p1 : m_X0_partAt F r10 (Int32.ofNat i) 1 = some (pv b) := (ev_partAt (p := 1) hi (by omega)).trans (by rw [← e1])
  have p2 : m_X0_partAt F r10 (Int32.ofNat i) 2 = some (pv c) := (ev_partAt (p := 2) hi (by omega)).trans (by rw [← e2])
  have key : ∀ f, m_X1_build_L47 F r10 (Int32.ofNat i) (f + 4) 0 x q13 = some (3, ((x ||| pg a q13) ||| pg b q13) ||| pg c q13, q13) := fun f => by
    rw [m_X1_build_L47, if_neg (by decide), p0, Option.bind_some, ev_attP ha, Option.bind_some, show (0 : Int32) + 1 = 1 from rfl]
    rw [m_X1_build_L47, if_neg (by decide), p1, Option.bind_some, ev_attP hb, Option.bind_some, show (1 : Int32) + 1 = 2 from rfl]
    rw [m_X1_build_L47, if_neg (by decide), p2, Option.bind_some, ev_attP hc, Option.bind_some, show (2 : Int32) + 1 = 3 from rfl]
    rw [m_X1_build_L47, if_pos (by decide)]
  have := key F'
  rw [← hF'] at this
  exact this
/-- of the parts: what attacks a part attacks the whole -/
theorem attP_parts {ρn n i : Nat} {r31 r33 r34 r36 r37 r38 r39 r40 : Nat → Int32} (hV : validB ρn n r31 r36 r37 r38 r39 r40) (hn : n ≤ 24) (hi : i < n) {a b c : Option Nat} (ha : pok a i) (hb : pok b i) (hc : pok c i) (h40 : r40 i = ((pw a r40 ||| pw b r40) ||| pw c r40)) (k : Nat) :
    attP r33 r34 r36 r37 r40 k i ↔ oppP r33 r34 r36 r37 k i ∨ ∃ o, (o = a ∨ o = b ∨ o = c) ∧ ∃ q, o = some q ∧ attP r33 r34 r36 r37 r40 k q := by
  have hbit := fun {k : Nat} (hk : k < 32) => tb_new (r := r40) (pok_mono ha (by omega : i ≤ 24)) (pok_mono hb (by omega : i ≤ 24)) (pok_mono hc (by omega : i ≤ 24)) hk
  constructor
  · rintro ⟨c', h1, h2, h3⟩
    by_cases e : c' = i
    · subst e; exact Or.inl h3
    · have h2 := h2.resolve_left e
      have hc32 : c' < 32 := by omega
      rw [h40] at h2
      obtain ⟨o, ho, q, hq, h4⟩ := (hbit hc32).mp h2
      have hqi : q < i := by
        rcases ho with ho | ho | ho
        · exact ha q (by rw [← ho, hq])
        · exact hb q (by rw [← ho, hq])
        · exact hc q (by rw [← ho, hq])
      refine Or.inr ⟨o, ho, q, hq, c', ?_, h4, h3⟩
      rcases h4 with h4 | h4
      · omega
      · have := (hV q (by omega)).2.2.2.1 c' hc32 h4
        omega
  · rintro (h | ⟨o, ho, q, hq, c', h1, h2, h3⟩)
    · exact ⟨i, Nat.le_refl _, Or.inl rfl, h⟩
    · have hqi : q < i := by
        rcases ho with ho | ho | ho
        · exact ha q (by rw [← ho, hq])
        · exact hb q (by rw [← ho, hq])
        · exact hc q (by rw [← ho, hq])
      refine ⟨c', by omega, Or.inr ?_, h3⟩
      rw [h40]
      exact (hbit (by omega)).mpr ⟨o, ho, q, hq, h2⟩
/-- the class's attacks are the model's -/
theorem atts_all {F ρn n : Nat} {RR : Nat → Nat → Int32} {r6 r7 r8 r9 r10 r13 r29 r31 r32 r33 r34 r35 r36 r37 r38 r39 r40 : Nat → Int32} (hF : 20000 ≤ F) (hρn : ρn ≤ 12) (hru : ruR ρn RR r31 r32 r33 r34 r35) (hS : simB n r6 r7 r8 r9 r10 r29 r36 r37 r38 r39) (hV : validB ρn n r31 r36 r37 r38 r39 r40) :
    ∃ q, m_X1_build F RR r6 r7 r8 r10 r13 = some q ∧ atR n (attP r33 r34 r36 r37 r40) q := by
  obtain ⟨hn, h5, h29, h6, h6', hrow⟩ := hS
  have hm : ∀ i, i < n → r37 i = -1 ∨ ∃ ρ, ρ < ρn ∧ r37 i = Int32.ofNat ρ := fun i hi => (hV i hi).2.1.imp id (fun ⟨ρ, q1, q2, _⟩ => ⟨ρ, q1, q2⟩)
  have h7 : ∀ i, i < n → r7 i = r36 i := fun i hi => (hrow i hi).1
  have h8 : ∀ i, i < n → r8 i = r37 i := fun i hi => (hrow i hi).2.1
  have key := run1F (F := F) (K := n) (LC := fun f x q => m_X1_build_L2 F RR r6 r7 r8 r10 f x q) (P := fun i q => ∀ b, b < i → ∀ k, k < 32 → (tb (q b) k = true ↔ k < n ∧ attP r33 r34 r36 r37 r40 k b)) (gC := fun q => q) (by omega) ?_ ?_ r13 (fun b h => absurd h (Nat.not_lt_zero _))
  · obtain ⟨q, q1, q2⟩ := key
    exact ⟨q, q2, q1⟩
  · intro i hi q hq
    obtain ⟨-, -, ⟨a, b, c, ha, hb, hc, e0, e1, e2, h40⟩, -⟩ := hV i hi
    have hr := hrow i hi
    have f0 : r10 (i * 3) = pv a := by rw [Nat.mul_comm i 3, hr.2.2.2.1, e0]
    have f1 : r10 (i * 3 + 1) = pv b := by rw [Nat.mul_comm i 3, hr.2.2.2.2.1, e1]
    have f2 : r10 (i * 3 + 2) = pv c := by rw [Nat.mul_comm i 3, hr.2.2.2.2.2, e2]
    -- its own
    have hown : ∃ x, Option.bind (m_X0_makerAt F r8 (Int32.ofNat i)) (fun zu5 => if zu5 = (-1) then (some (0 : Int32)) else (Option.bind (m_X0_makerAt F r8 (Int32.ofNat i)) (fun zu6 => Option.bind (m_X1_attackersOfRule F RR (aid (RR 4 2) zu6) r6 r7 r8) (fun zu7 => some zu7)))) = some x ∧ ∀ k, k < 32 → (tb x k = true ↔ k < n ∧ oppP r33 r34 r36 r37 k i) := by
      rw [ev_makerAt (by omega), Option.bind_some, Option.bind_some, h8 i hi]
      rcases (hV i hi).2.1 with h | ⟨ρ, g1, g2, g3⟩
      · rw [if_pos h]
        refine ⟨0, rfl, fun k hk => ?_⟩
        rw [tb_0]
        exact ⟨fun q => absurd q (by decide), fun q => absurd h q.2.1⟩
      · obtain ⟨v, v1, v2⟩ := ev_rule_atts (F := F) hF hn hρn h5 hru hm h7 h8 hi g1 g2 g3
        rw [g2, if_neg (zn_m1 (by omega)), v1, Option.bind_some]
        exact ⟨v, rfl, v2⟩
    obtain ⟨x, x1, x2⟩ := hown
    refine ⟨upd q i (((x ||| pg a q) ||| pg b q) ||| pg c q), fun b' hb' k hk => ?_, fun f => ?_⟩
    · by_cases e : b' = i
      · subst e
        rw [upd_at, tb_or, tb_or, tb_or, Bool.or_eq_true, Bool.or_eq_true, Bool.or_eq_true, x2 k hk, tb_pg, tb_pg, tb_pg, attP_parts hV hn hi ha hb hc h40 k]
        have hp : ∀ o, pok o b' → ((∃ q', o = some q' ∧ tb (q q') k = true) ↔ k < n ∧ ∃ q', o = some q' ∧ attP r33 r34 r36 r37 r40 k q') := fun o ho => by
          constructor
          · rintro ⟨q', h1, h2⟩
            have := (hq q' (ho q' h1) k hk).mp h2
            exact ⟨this.1, q', h1, this.2⟩
          · rintro ⟨h0, q', h1, h2⟩
            exact ⟨q', h1, (hq q' (ho q' h1) k hk).mpr ⟨h0, h2⟩⟩
        rw [hp a ha, hp b hb, hp c hc]
        constructor
        · rintro (((h | h) | h) | h)
          · exact ⟨h.1, Or.inl h.2⟩
          · exact ⟨h.1, Or.inr ⟨a, Or.inl rfl, h.2⟩⟩
          · exact ⟨h.1, Or.inr ⟨b, Or.inr (Or.inl rfl), h.2⟩⟩
          · exact ⟨h.1, Or.inr ⟨c, Or.inr (Or.inr rfl), h.2⟩⟩
        · rintro ⟨h0, h | ⟨o, ho, h⟩⟩
          · exact Or.inl (Or.inl (Or.inl ⟨h0, h⟩))
          · rcases ho with ho | ho | ho
            · subst ho; exact Or.inl (Or.inl (Or.inr ⟨h0, h⟩))
            · subst ho; exact Or.inl (Or.inr ⟨h0, h⟩)
            · subst ho; exact Or.inr ⟨h0, h⟩
      · rw [upd_ne e]
        exact hq b' (by omega) k hk
    · show m_X1_build_L2 F RR r6 r7 r8 r10 (f + 1) (Int32.ofNat i) q = _
      rw [m_X1_build_L2, h5, if_neg (fun w => by have := (zn_le (by omega) (by omega)).mp w; omega), if_neg (zn_lt24 (by omega)), x1, Option.bind_some, ev_parts_atts hF (by omega) (pok_mono ha (by omega)) (pok_mono hb (by omega)) (pok_mono hc (by omega)) f0 f1 f2, Option.bind_some, if_pos (zn_ok (by omega) (by omega)), zn_nat (by omega), zn_s]
  · intro f q hq
    show m_X1_build_L2 F RR r6 r7 r8 r10 (f + 1) (Int32.ofNat n) q = _
    rw [m_X1_build_L2, h5, if_pos (Int32.le_refl _)]

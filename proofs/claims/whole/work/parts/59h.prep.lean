/-! the search made ready -/
theorem ev_leads {F i b : Nat} {r13 : Nat → Int32} (hi : i < 32) (hb : b < 24) : m_X1_leads F r13 (Int32.ofNat i) (Int32.ofNat b) = some (if tb (r13 b) i = true then 1 else 0) := by
  unfold m_X1_leads
  rw [ev_attackersOf hb, Option.bind_some]
  cases h : tb (r13 b) i with
  | false => rw [if_pos ((bit_0 _ hi).mpr h)]; rfl
  | true => rw [if_neg (fun w => by rw [(bit_0 _ hi).mp w] at h; cases h)]; rfl
theorem ev_setBit {F k : Nat} (h : k < 14) : m_X9_setBit F (Int32.ofNat k) = some ((1 : Int32) <<< (Int32.ofNat (13 - k) &&& 31)) := by
  unfold m_X9_setBit
  have e : (13 : Int32) - Int32.ofNat k = Int32.ofNat (13 - k) := by
    have : ∀ k, k < 14 → (13 : Int32) - Int32.ofNat k = Int32.ofNat (13 - k) := by decide
    exact this k h
  have h14 : ¬ (14 : Int32) ≤ Int32.ofNat k := by
    have : ∀ k, k < 14 → ¬ (14 : Int32) ≤ Int32.ofNat k := by decide
    exact this k h
  rw [if_neg (zn_nn (by omega)), if_neg h14, e]
theorem ev_addToRow {F k : Nat} {q : Nat → Int32} {v : Int32} (h : k < 14) : m_X8_addToRow F q (Int32.ofNat k) v = some (upd q (13 - k) (q (13 - k) ||| v)) := by
  unfold m_X8_addToRow
  have e : (13 : Int32) - Int32.ofNat k = Int32.ofNat (13 - k) := by
    have : ∀ k, k < 14 → (13 : Int32) - Int32.ofNat k = Int32.ofNat (13 - k) := by decide
    exact this k h
  have h14 : ¬ (14 : Int32) ≤ Int32.ofNat k := by
    have : ∀ k, k < 14 → ¬ (14 : Int32) ≤ Int32.ofNat k := by decide
    exact this k h
  have g : ¬ (Int32.ofNat (13 - k) < 0 ∨ 14 ≤ (Int32.ofNat (13 - k)).toNatClampNeg) := zn_ok (by omega) (by omega)
  rw [if_neg (zn_nn (by omega)), if_neg h14, e, if_pos g, if_pos g, zn_nat (by omega)]
theorem ev_clearRows {F : Nat} {q : Nat → Int32} (hF : 20000 ≤ F) : ∃ q', m_X8_clearRows F q = some q' ∧ ∀ k, k < 14 → q' k = 0 := by
  have key := run1F (F := F) (K := 14) (LC := fun f x t => m_X8_clearRows_L2 F f x t) (P := fun m t => ∀ k, k < m → t k = 0) (gC := fun t => t) (by omega) ?_ ?_ q (fun k h => absurd h (Nat.not_lt_zero _))
  · obtain ⟨t, t1, t2⟩ := key
    exact ⟨t, t2, t1⟩
  · intro m hm t ht
    refine ⟨upd t m 0, fun k hk => ?_, fun f => ?_⟩
    · by_cases e : k = m
      · subst e; exact upd_at _ _ _
      · rw [upd_ne e]; exact ht k (by omega)
    · show m_X8_clearRows_L2 F (f + 1) (Int32.ofNat m) t = _
      have h14 : ¬ (14 : Int32) ≤ Int32.ofNat m := by
        have : ∀ k, k < 14 → ¬ (14 : Int32) ≤ Int32.ofNat k := by decide
        exact this m hm
      rw [m_X8_clearRows_L2, if_neg h14, if_pos (zn_ok hm (by omega)), zn_nat (by omega), zn_s]
  · intro f t ht
    show m_X8_clearRows_L2 F (f + 1) (Int32.ofNat 14) t = _
    rw [m_X8_clearRows_L2, if_pos (by decide)]
/-- who attacks whom so far, at two places -/
def rwR (m i b : Nat) (r13 q18 q22 : Nat → Int32) : Prop := ∀ c, c < 14 → ∀ j, j < 32 →
  (tb (q18 (13 - c)) j = true ↔ ∃ d, d < m ∧ c < m ∧ (d < i ∨ (d = i ∧ c < b)) ∧ j = 13 - d ∧ tb (r13 c) d = true) ∧
  (tb (q22 (13 - c)) j = true ↔ ∃ d, d < m ∧ c < m ∧ (c < i ∨ (c = i ∧ d < b)) ∧ j = 13 - d ∧ tb (r13 d) c = true)
theorem prep_in {F m i : Nat} {r13 q16 q18 q22 : Nat → Int32} (hF : 20000 ≤ F) (hm : m ≤ 14) (h4 : q16 4 = Int32.ofNat m) (hi : i < m) (h0 : rwR m i 0 r13 q18 q22) :
    ∃ z p18 p22, m_X7_prepare_L37 F r13 (Int32.ofNat i) F 0 q16 q18 q22 = some (z, q16, p18, p22) ∧ rwR m (i + 1) 0 r13 p18 p22 := by
  have key := run1F (F := F) (K := m) (LC := fun f x (t : (Nat → Int32) × (Nat → Int32)) => m_X7_prepare_L37 F r13 (Int32.ofNat i) f x q16 t.1 t.2) (P := fun b t => rwR m i b r13 t.1 t.2) (gC := fun t => (Int32.ofNat m, q16, t)) (by omega) ?_ ?_ (q18, q22) h0
  · obtain ⟨t, t1, t2⟩ := key
    refine ⟨_, t.1, t.2, t2, fun c hc j hj => ?_⟩
    obtain ⟨g1, g2⟩ := t1 c hc j hj
    rw [g1, g2]
    constructor
    · constructor
      · rintro ⟨d, d1, d2, d3, d4⟩; exact ⟨d, d1, d2, by omega, d4⟩
      · rintro ⟨d, d1, d2, d3, d4⟩; exact ⟨d, d1, d2, by omega, d4⟩
    · constructor
      · rintro ⟨d, d1, d2, d3, d4⟩; exact ⟨d, d1, d2, by omega, d4⟩
      · rintro ⟨d, d1, d2, d3, d4⟩; exact ⟨d, d1, d2, by omega, d4⟩
  · intro b hb t ht
    have hle : ¬ Int32.ofNat m ≤ Int32.ofNat b := fun w => by have := (zn_le (by omega) (by omega)).mp w; omega
    by_cases c0 : tb (r13 b) i = true
    · refine ⟨(upd t.1 (13 - b) (t.1 (13 - b) ||| ((1 : Int32) <<< (Int32.ofNat (13 - i) &&& 31))), upd t.2 (13 - i) (t.2 (13 - i) ||| ((1 : Int32) <<< (Int32.ofNat (13 - b) &&& 31)))), fun c hc j hj => ?_, fun f => ?_⟩
      · obtain ⟨g1, g2⟩ := ht c hc j hj
        constructor
        · show tb (upd t.1 (13 - b) (t.1 (13 - b) ||| ((1 : Int32) <<< (Int32.ofNat (13 - i) &&& 31))) (13 - c)) j = true ↔ _
          by_cases e : c = b
          · subst e
            rw [upd_at, tb_set (by omega) hj, g1]
            constructor
            · rintro (⟨d, d1, d2, d3, d4⟩ | q)
              · exact ⟨d, d1, d2, by omega, d4⟩
              · exact ⟨i, hi, hb, by omega, q, c0⟩
            · rintro ⟨d, d1, d2, d3, d4, d5⟩
              by_cases e : d = i
              · subst e; exact Or.inr d4
              · exact Or.inl ⟨d, d1, d2, by omega, d4, d5⟩
          · rw [upd_ne (by omega), g1]
            constructor
            · rintro ⟨d, d1, d2, d3, d4⟩; exact ⟨d, d1, d2, by omega, d4⟩
            · rintro ⟨d, d1, d2, d3, d4⟩; exact ⟨d, d1, d2, by omega, d4⟩
        · show tb (upd t.2 (13 - i) (t.2 (13 - i) ||| ((1 : Int32) <<< (Int32.ofNat (13 - b) &&& 31))) (13 - c)) j = true ↔ _
          by_cases e : c = i
          · subst e
            rw [upd_at, tb_set (by omega) hj, g2]
            constructor
            · rintro (⟨d, d1, d2, d3, d4⟩ | q)
              · exact ⟨d, d1, d2, by omega, d4⟩
              · exact ⟨b, hb, hi, by omega, q, c0⟩
            · rintro ⟨d, d1, d2, d3, d4, d5⟩
              by_cases e : d = b
              · subst e; exact Or.inr d4
              · exact Or.inl ⟨d, d1, d2, by omega, d4, d5⟩
          · rw [upd_ne (by omega), g2]
            constructor
            · rintro ⟨d, d1, d2, d3, d4⟩; exact ⟨d, d1, d2, by omega, d4⟩
            · rintro ⟨d, d1, d2, d3, d4⟩; exact ⟨d, d1, d2, by omega, d4⟩
      · show m_X7_prepare_L37 F r13 (Int32.ofNat i) (f + 1) (Int32.ofNat b) q16 t.1 t.2 = _
        rw [m_X7_prepare_L37, h4, if_neg hle, ev_leads (by omega) (by omega), if_pos c0, Option.bind_some, if_neg zi_10, ev_setBit (by omega), Option.bind_some, ev_addToRow (by omega), Option.bind_some, ev_setBit (by omega), Option.bind_some, ev_addToRow (by omega), Option.bind_some, zn_s]
    · refine ⟨t, fun c hc j hj => ?_, fun f => ?_⟩
      · obtain ⟨g1, g2⟩ := ht c hc j hj
        rw [g1, g2]
        constructor
        · constructor
          · rintro ⟨d, d1, d2, d3, d4⟩; exact ⟨d, d1, d2, by omega, d4⟩
          · rintro ⟨d, d1, d2, d3, d4, d5⟩
            by_cases e : d = i ∧ c = b
            · rw [e.1, e.2] at d5; exact absurd d5 c0
            · exact ⟨d, d1, d2, by omega, d4, d5⟩
        · constructor
          · rintro ⟨d, d1, d2, d3, d4⟩; exact ⟨d, d1, d2, by omega, d4⟩
          · rintro ⟨d, d1, d2, d3, d4, d5⟩
            by_cases e : c = i ∧ d = b
            · rw [e.1, e.2] at d5; exact absurd d5 c0
            · exact ⟨d, d1, d2, by omega, d4, d5⟩
      · show m_X7_prepare_L37 F r13 (Int32.ofNat i) (f + 1) (Int32.ofNat b) q16 t.1 t.2 = _
        rw [m_X7_prepare_L37, h4, if_neg hle, ev_leads (by omega) (by omega), if_neg c0, Option.bind_some, if_pos rfl, zn_s]
  · intro f t ht
    show m_X7_prepare_L37 F r13 (Int32.ofNat i) (f + 1) (Int32.ofNat m) q16 t.1 t.2 = _
    rw [m_X7_prepare_L37, h4, if_pos (Int32.le_refl _)]
theorem prep_mid {F m : Nat} {r13 q16 q18 q22 : Nat → Int32} (hF : 20000 ≤ F) (hm : m ≤ 14) (h4 : q16 4 = Int32.ofNat m) (h18 : ∀ k, k < 14 → q18 k = 0) (h22 : ∀ k, k < 14 → q22 k = 0) :
    ∃ z p18 p22, m_X7_prepare_L26 F r13 F 0 q16 q18 q22 = some (z, q16, p18, p22) ∧ rwR m m 0 r13 p18 p22 := by
  have key := run1F (F := F) (K := m) (LC := fun f x (t : (Nat → Int32) × (Nat → Int32)) => m_X7_prepare_L26 F r13 f x q16 t.1 t.2) (P := fun i t => rwR m i 0 r13 t.1 t.2) (gC := fun t => (Int32.ofNat m, q16, t)) (by omega) ?_ ?_ (q18, q22) (fun c hc j hj => ?_)
  · obtain ⟨t, t1, t2⟩ := key
    exact ⟨_, t.1, t.2, t2, t1⟩
  · intro i hi t ht
    obtain ⟨z, p18, p22, g1, g2⟩ := prep_in (F := F) hF hm h4 hi ht
    refine ⟨(p18, p22), g2, fun f => ?_⟩
    show m_X7_prepare_L26 F r13 (f + 1) (Int32.ofNat i) q16 t.1 t.2 = _
    rw [m_X7_prepare_L26, h4, if_neg (fun w => by have := (zn_le (by omega) (by omega)).mp w; omega), g1, Option.bind_some, zn_s]
  · intro f t ht
    show m_X7_prepare_L26 F r13 (f + 1) (Int32.ofNat m) q16 t.1 t.2 = _
    rw [m_X7_prepare_L26, h4, if_pos (Int32.le_refl _)]
  · show (tb (q18 (13 - c)) j = true ↔ _) ∧ (tb (q22 (13 - c)) j = true ↔ _)
    rw [h18 _ (by omega), h22 _ (by omega), tb_0]
    constructor
    · constructor
      · intro q; cases q
      · rintro ⟨d, d1, d2, d3, d4⟩; omega
    · constructor
      · intro q; cases q
      · rintro ⟨d, d1, d2, d3, d4⟩; omega
/-- the tables stand -/
def tabR (m : Nat) (r13 r16 r19 r20 r23 r24 : Nat → Int32) : Prop := r16 4 = Int32.ofNat m ∧ ∃ r18 r22, rwR m m 0 r13 r18 r22 ∧ (∀ s, s < 128 → unR r18 r19 0 s) ∧ (∀ s, s < 128 → unR r18 r20 7 s) ∧ (∀ s, s < 128 → unR r22 r23 0 s) ∧ (∀ s, s < 128 → unR r22 r24 7 s)
theorem prep_all {F n : Nat} {r13 r16 r18 r19 r20 r22 r23 r24 : Nat → Int32} (hF : 20000 ≤ F) (hn : n ≤ 24) (h19 : r19 0 = 0) (h20 : r20 0 = 0) (h23 : r23 0 = 0) (h24 : r24 0 = 0) :
    ∃ q16 q18 q19 q20 q22 q23 q24, m_X7_prepare F r13 r16 r18 r19 r20 r22 r23 r24 (Int32.ofNat n) = some (q16, q18, q19, q20, q22, q23, q24) ∧ tabR (min n 14) r13 q16 q19 q20 q23 q24 ∧ q19 0 = 0 ∧ q20 0 = 0 ∧ q23 0 = 0 ∧ q24 0 = 0 := by
  obtain ⟨c18, a1, a2⟩ := ev_clearRows (F := F) (q := r18) hF
  obtain ⟨c22, b1, b2⟩ := ev_clearRows (F := F) (q := r22) hF
  have e4 : (if (14 : Int32) < Int32.ofNat n then (14 : Int32) else Int32.ofNat n) = Int32.ofNat (min n 14) := by
    have : ∀ n, n < 25 → (if (14 : Int32) < Int32.ofNat n then (14 : Int32) else Int32.ofNat n) = Int32.ofNat (min n 14) := by decide
    exact this n (by omega)
  obtain ⟨z, p18, p22, g1, g2⟩ := prep_mid (F := F) (r13 := r13) (q16 := upd r16 4 (Int32.ofNat (min n 14))) hF (Nat.min_le_right n 14) (upd_at _ _ _) a2 b2
  obtain ⟨q19, q20, f1, f2, f3, f4, f5⟩ := fill_all (F := F) (r18 := p18) hF h19 h20
  obtain ⟨q23, q24, w1, w2, w3, w4, w5⟩ := fill_all (F := F) (r18 := p22) hF h23 h24
  refine ⟨upd r16 4 (Int32.ofNat (min n 14)), p18, q19, q20, p22, q23, q24, ?_, ⟨upd_at _ _ _, p18, p22, g2, f2, f3, w2, w3⟩, f4, f5, w4, w5⟩
  unfold m_X7_prepare
  rw [a1, Option.bind_some, b1, Option.bind_some, e4, g1, Option.bind_some]
  show Option.bind (m_X8_fillHalves F p18 r19 r20) _ = _
  rw [f1, Option.bind_some]
  show Option.bind (m_X8_fillHalves F p22 r23 r24) _ = _
  rw [w1, Option.bind_some]

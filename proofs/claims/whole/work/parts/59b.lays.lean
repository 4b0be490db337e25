theorem lays_in {F n i b : Nat} {r33 r34 r36 r37 r40 q41 : Nat → Int32} (hF : 20000 ≤ F) (hn : n ≤ 24) (hm : mkOK n r37) (hi : i < n) (hb : b < n) :
    ∃ q' z, m_X10_laysAttacks_L29 F r33 r34 r36 r37 r40 (Int32.ofNat i) (Int32.ofNat b) F 0 q41 = some (z, q') ∧ (∀ j, j ≠ b → q' j = q41 j) ∧ ∀ k, k < 32 → (tb (q' b) k = true ↔ tb (q41 b) k = true ∨ (k = i ∧ attP r33 r34 r36 r37 r40 i b)) := by
  have key := run1F (F := F) (K := b + 1) (LC := fun f x q => m_X10_laysAttacks_L29 F r33 r34 r36 r37 r40 (Int32.ofNat i) (Int32.ofNat b) f x q) (P := fun c q => (∀ j, j ≠ b → q j = q41 j) ∧ ∀ k, k < 32 → (tb (q b) k = true ↔ tb (q41 b) k = true ∨ (k = i ∧ ∃ c', c' < c ∧ (c' = b ∨ tb (r40 b) c' = true) ∧ oppP r33 r34 r36 r37 i c'))) (gC := fun q => (Int32.ofNat (b + 1), q)) (by omega) ?_ ?_ q41 ⟨fun j _ => rfl, fun k hk => ⟨Or.inl, fun q => q.elim id (fun ⟨_, c', h, _⟩ => absurd h (Nat.not_lt_zero _))⟩⟩
  · obtain ⟨q', ⟨p1, p2⟩, h2⟩ := key
    refine ⟨q', _, h2, p1, fun k hk => (p2 k hk).trans ⟨fun q => q.imp id ?_, fun q => q.imp id ?_⟩⟩
    · rintro ⟨e, c', h1, h2, h3⟩
      exact ⟨e, c', by omega, h2, h3⟩
    · rintro ⟨e, c', h1, h2, h3⟩
      exact ⟨e, c', by omega, h2, h3⟩
  · intro c hc q ⟨p1, p2⟩
    have hc24 : c < 24 := by omega
    have hbl : ¬ Int32.ofNat b < Int32.ofNat c := fun w => by have := (zn_lt (by omega) (by omega)).mp w; omega
    have gb : ¬ (Int32.ofNat b < 0 ∨ 24 ≤ (Int32.ofNat b).toNatClampNeg) := zn_ok (by omega) (by omega)
    have hb1 : (Int32.ofNat b).toNatClampNeg = b := zn_nat (by omega)
    obtain ⟨v, v1, v2, v3⟩ := ev_opposes (F := F) (r33 := r33) (r34 := r34) (r36 := r36) hn hm hi (show c < n by omega)
    -- is it of it
    have e3 : ∃ w, (if Int32.ofNat c = Int32.ofNat b then some (1 : Int32) else if ((r40 b >>> (Int32.ofNat c &&& 31)) &&& 1) = 1 then some 1 else some 0) = some w ∧ (w = 0 ∨ w = 1) ∧ (w = 1 ↔ (c = b ∨ tb (r40 b) c = true)) := by
      by_cases p : c = b
      · rw [if_pos (by rw [p])]
        exact ⟨1, rfl, Or.inr rfl, fun _ => Or.inl p, fun _ => rfl⟩
      · rw [if_neg (fun w => p ((zn_eq (by omega) (by omega)).mp w))]
        by_cases p' : tb (r40 b) c = true
        · rw [if_pos ((bit_1 _ (by omega)).mpr p')]
          exact ⟨1, rfl, Or.inr rfl, fun _ => Or.inr p', fun _ => rfl⟩
        · rw [if_neg (fun w => p' ((bit_1 _ (by omega)).mp w))]
          exact ⟨0, rfl, Or.inl rfl, fun w => absurd w (by decide), fun w => (w.elim p p').elim⟩
    obtain ⟨w, w1, w2, w3⟩ := e3
    have e4 : ∃ u, (if w = 0 then some (0 : Int32) else Option.bind (m_X10_opposes F r33 r34 r36 r37 (Int32.ofNat i) (Int32.ofNat c)) (fun zu5 => if zu5 = 0 then some (0 : Int32) else some ((1 : Int32) <<< (Int32.ofNat i &&& 31)))) = some u ∧ ∀ k, k < 32 → (tb u k = true ↔ k = i ∧ (c = b ∨ tb (r40 b) c = true) ∧ oppP r33 r34 r36 r37 i c) := by
      rcases w2 with hw | hw
      · rw [if_pos hw]
        refine ⟨0, rfl, fun k hk => ?_⟩
        rw [tb_0]
        refine ⟨fun q => absurd q (by decide), fun q => ?_⟩
        have := w3.mpr q.2.1
        rw [hw] at this
        exact absurd this (by decide)
      · rw [if_neg (by rw [hw]; decide), v1, Option.bind_some]
        rcases v2 with hv | hv
        · rw [if_pos hv]
          refine ⟨0, rfl, fun k hk => ?_⟩
          rw [tb_0]
          refine ⟨fun q => absurd q (by decide), fun q => ?_⟩
          have := v3.mpr q.2.2
          rw [hv] at this
          exact absurd this (by decide)
        · rw [if_neg (by rw [hv]; decide)]
          refine ⟨_, rfl, fun k hk => ?_⟩
          rw [tb_bit (by omega) hk, decide_eq_true_eq]
          exact ⟨fun q => ⟨q, w3.mp hw, v3.mp hv⟩, fun q => q.1⟩
    obtain ⟨u, e5, e6⟩ := e4
    refine ⟨upd q b (q b ||| u), ⟨fun j hj => by rw [upd_ne hj]; exact p1 j hj, fun k hk => ?_⟩, fun f => ?_⟩
    · rw [upd_at, tb_or, Bool.or_eq_true, p2 k hk, e6 k hk]
      constructor
      · rintro ((h | ⟨h1, c', h2, h3, h4⟩) | ⟨h1, h2, h3⟩)
        · exact Or.inl h
        · exact Or.inr ⟨h1, c', by omega, h3, h4⟩
        · exact Or.inr ⟨h1, c, by omega, h2, h3⟩
      · rintro (h | ⟨h1, c', h2, h3, h4⟩)
        · exact Or.inl (Or.inl h)
        · by_cases e : c' = c
          · subst e
            exact Or.inr ⟨h1, h3, h4⟩
          · exact Or.inl (Or.inr ⟨h1, c', by omega, h3, h4⟩)
    · show m_X10_laysAttacks_L29 F r33 r34 r36 r37 r40 (Int32.ofNat i) (Int32.ofNat b) (f + 1) (Int32.ofNat c) q = _
      rw [m_X10_laysAttacks_L29, if_neg hbl]
      simp only [if_pos gb]
      rw [hb1, w1, Option.bind_some, e5, Option.bind_some, zn_s]
  · intro f q hq
    show m_X10_laysAttacks_L29 F r33 r34 r36 r37 r40 (Int32.ofNat i) (Int32.ofNat b) (f + 1) (Int32.ofNat (b + 1)) q = _
    rw [m_X10_laysAttacks_L29, if_pos ((zn_lt (by omega) (by omega)).mpr (by omega))]
theorem lays_mid {F n b : Nat} {r29 r33 r34 r36 r37 r40 q41 : Nat → Int32} (hF : 20000 ≤ F) (h8 : r29 8 = Int32.ofNat n) (hn : n ≤ 24) (hm : mkOK n r37) (hb : b < n) (h0 : q41 b = 0) :
    ∃ q' z, m_X10_laysAttacks_L19 F r29 r33 r34 r36 r37 r40 (Int32.ofNat b) F 0 q41 = some (z, q') ∧ (∀ j, j ≠ b → q' j = q41 j) ∧ ∀ k, k < 32 → (tb (q' b) k = true ↔ k < n ∧ attP r33 r34 r36 r37 r40 k b) := by
  have key := run1F (F := F) (K := n) (LC := fun f x q => m_X10_laysAttacks_L19 F r29 r33 r34 r36 r37 r40 (Int32.ofNat b) f x q) (P := fun i q => (∀ j, j ≠ b → q j = q41 j) ∧ ∀ k, k < 32 → (tb (q b) k = true ↔ k < i ∧ attP r33 r34 r36 r37 r40 k b)) (gC := fun q => (Int32.ofNat n, q)) (by omega) ?_ ?_ q41 ⟨fun j _ => rfl, fun k hk => by rw [h0, tb_0]; exact ⟨fun q => absurd q (by decide), fun q => absurd q.1 (Nat.not_lt_zero _)⟩⟩
  · obtain ⟨q', ⟨p1, p2⟩, h2⟩ := key
    exact ⟨q', _, h2, p1, p2⟩
  · intro i hi q ⟨p1, p2⟩
    obtain ⟨q', z, g1, g2, g3⟩ := lays_in (F := F) (r33 := r33) (r34 := r34) (r36 := r36) (r40 := r40) (q41 := q) hF hn hm hi hb
    refine ⟨q', ⟨fun j hj => (g2 j hj).trans (p1 j hj), fun k hk => ?_⟩, fun f => ?_⟩
    · rw [g3 k hk, p2 k hk]
      constructor
      · rintro (⟨h1, h2⟩ | ⟨h1, h2⟩)
        · exact ⟨by omega, h2⟩
        · subst h1; exact ⟨by omega, h2⟩
      · rintro ⟨h1, h2⟩
        by_cases e : k = i
        · subst e; exact Or.inr ⟨rfl, h2⟩
        · exact Or.inl ⟨by omega, h2⟩
    · show m_X10_laysAttacks_L19 F r29 r33 r34 r36 r37 r40 (Int32.ofNat b) (f + 1) (Int32.ofNat i) q = _
      rw [m_X10_laysAttacks_L19, h8, if_neg (fun w => by have := (zn_le (by omega) (by omega)).mp w; omega), g1, Option.bind_some, zn_s]
  · intro f q hq
    show m_X10_laysAttacks_L19 F r29 r33 r34 r36 r37 r40 (Int32.ofNat b) (f + 1) (Int32.ofNat n) q = _
    rw [m_X10_laysAttacks_L19, h8, if_pos (Int32.le_refl _)]
/-- the model's attacks -/
theorem lays_all {F n : Nat} {r29 r33 r34 r36 r37 r40 r41 : Nat → Int32} (hF : 20000 ≤ F) (h8 : r29 8 = Int32.ofNat n) (hn : n ≤ 24) (hm : mkOK n r37) :
    ∃ q, m_X10_laysAttacks F r29 r33 r34 r36 r37 r40 r41 = some q ∧ atR n (attP r33 r34 r36 r37 r40) q := by
  have key := run1F (F := F) (K := n) (LC := fun f x q => m_X10_laysAttacks_L2 F r29 r33 r34 r36 r37 r40 f x q) (P := fun b q => ∀ b', b' < b → ∀ k, k < 32 → (tb (q b') k = true ↔ k < n ∧ attP r33 r34 r36 r37 r40 k b')) (gC := fun q => q) (by omega) ?_ ?_ r41 (fun b' h => absurd h (Nat.not_lt_zero _))
  · obtain ⟨q', p1, h2⟩ := key
    exact ⟨q', h2, p1⟩
  · intro b hb q p1
    obtain ⟨q', z, g1, g2, g3⟩ := lays_mid (F := F) (r33 := r33) (r34 := r34) (r36 := r36) (r40 := r40) (q41 := upd q b 0) hF h8 hn hm hb (upd_at _ _ _)
    refine ⟨q', fun b' hb' k hk => ?_, fun f => ?_⟩
    · by_cases e : b' = b
      · subst e; exact g3 k hk
      · rw [g2 b' e, upd_ne e]; exact p1 b' (by omega) k hk
    · show m_X10_laysAttacks_L2 F r29 r33 r34 r36 r37 r40 (f + 1) (Int32.ofNat b) q = _
      rw [m_X10_laysAttacks_L2, h8, if_neg (fun w => by have := (zn_le (by omega) (by omega)).mp w; omega), if_pos (zn_ok (by omega) (by omega)), zn_nat (by omega), g1, Option.bind_some, zn_s]
  · intro f q hq
    show m_X10_laysAttacks_L2 F r29 r33 r34 r36 r37 r40 (f + 1) (Int32.ofNat n) q = _
    rw [m_X10_laysAttacks_L2, h8, if_pos (Int32.le_refl _)]

/-- a set with a greater admissible one -/
def extP (A : Nat → Nat → Bool) (n s : Nat) : Prop := ∃ u, u < 2 ^ n ∧ admP A n u ∧ subP s u ∧ u ≠ s
theorem pref_ext {A : Nat → Nat → Bool} {n s : Nat} (hs : s < 2 ^ n) : prefP A n s ↔ admP A n s ∧ ¬ extP A n s := by
  constructor
  · rintro ⟨-, h1, h2⟩
    exact ⟨h1, fun ⟨u, u1, u2, u3, u4⟩ => u4 (h2 u u1 u2 u3)⟩
  · rintro ⟨h1, h2⟩
    exact ⟨hs, h1, fun t t1 t2 t3 => Classical.byContradiction fun q => h2 ⟨t, t1, t2, t3, q⟩⟩
theorem or_bit_eq {s k : Nat} : s ||| 2 ^ k = s ↔ s.testBit k = true := by
  constructor
  · intro h
    rw [← h, Nat.testBit_or, Nat.testBit_two_pow, decide_eq_true rfl, Bool.or_true]
  · intro h
    apply Nat.eq_of_testBit_eq
    intro i
    rw [Nat.testBit_or, Nat.testBit_two_pow]
    by_cases e : k = i
    · subst e; rw [h]; rfl
    · rw [decide_eq_false e, Bool.or_false]
theorem ext_step {A : Nat → Nat → Bool} {n s : Nat} (hs : s < 2 ^ n) : extP A n s ↔ ∃ k, k < n ∧ s.testBit k = false ∧ (admP A n (s ||| 2 ^ k) ∨ extP A n (s ||| 2 ^ k)) := by
  constructor
  · rintro ⟨u, u1, u2, u3, u4⟩
    have : ∃ k, u.testBit k = true ∧ s.testBit k = false := Classical.byContradiction fun hno => u4 (subP_anti (fun p hp => by
      apply Classical.byContradiction
      intro q
      exact hno ⟨p, hp, Bool.eq_false_iff.mpr q⟩) u3)
    obtain ⟨k, k1, k2⟩ := this
    refine ⟨k, bit_lt u1 k1, k2, ?_⟩
    by_cases e : u = s ||| 2 ^ k
    · rw [← e]; exact Or.inl u2
    · refine Or.inr ⟨u, u1, u2, fun p hp => ?_, e⟩
      rw [Nat.testBit_or, Nat.testBit_two_pow, Bool.or_eq_true, decide_eq_true_eq] at hp
      rcases hp with hp | hp
      · exact u3 p hp
      · subst hp; exact k1
  · rintro ⟨k, k1, k2, h⟩
    have hsub : subP s (s ||| 2 ^ k) := subP_l _ _
    have hne : s ||| 2 ^ k ≠ s := fun q => by
      rw [or_bit_eq.mp q] at k2; cases k2
    have hlt : s ||| 2 ^ k < 2 ^ n := or_lt hs (Nat.pow_lt_pow_right (by decide) k1)
    rcases h with h | ⟨u, u1, u2, u3, u4⟩
    · exact ⟨_, hlt, h, hsub, hne⟩
    · refine ⟨u, u1, u2, subP_trans hsub u3, fun q => ?_⟩
      subst q
      exact hne (subP_anti u3 hsub)
/-- the model's two rows from j on -/
def pfR (A : Nat → Nat → Bool) (n j : Nat) (q44 q45 : Nat → Int32) : Prop := ∀ t, j ≤ t → t < 2 ^ n → (q44 t = 0 ∨ q44 t = 1) ∧ (q44 t = 1 ↔ admP A n t) ∧ (q45 t = 0 ∨ q45 t = 1) ∧ (q45 t = 1 ↔ extP A n t)
theorem ev_ext_in {F n s : Nat} {A : Nat → Nat → Bool} {r29 q44 q45 : Nat → Int32} (hF : 20000 ≤ F) (h8 : r29 8 = Int32.ofNat n) (hn : n ≤ 14) (hs : s < 2 ^ n) (hR : pfR A n (s + 1) q44 q45) (h0 : q45 s = 0) :
    ∃ z q45', m_X10_prefers_L35 F r29 (Int32.ofNat s) F 0 q44 q45 = some (z, q44, q45') ∧ (∀ t, t ≠ s → q45' t = q45 t) ∧ (q45' s = 0 ∨ q45' s = 1) ∧ (q45' s = 1 ↔ extP A n s) := by
  have hpn := pow_14 hn
  have key := run1F (F := F) (K := n) (LC := fun f x (q : Nat → Int32) => m_X10_prefers_L35 F r29 (Int32.ofNat s) f x q44 q) (P := fun m q => (∀ t, t ≠ s → q t = q45 t) ∧ (q s = 0 ∨ q s = 1) ∧ (q s = 1 ↔ ∃ k, k < m ∧ s.testBit k = false ∧ (admP A n (s ||| 2 ^ k) ∨ extP A n (s ||| 2 ^ k)))) (gC := fun q => (Int32.ofNat n, q44, q)) (by omega) ?_ ?_ q45 ⟨fun _ _ => rfl, Or.inl h0, fun q => by rw [h0] at q; exact absurd q (by decide), fun ⟨k, k1, _⟩ => absurd k1 (Nat.not_lt_zero _)⟩
  · obtain ⟨q, ⟨p1, p2, p3⟩, g⟩ := key
    exact ⟨_, q, g, p1, p2, p3.trans (ext_step hs).symm⟩
  · rintro m hm q ⟨p1, p2, p3⟩
    have hmore : s ||| 2 ^ m < 2 ^ n := or_lt hs (Nat.pow_lt_pow_right (by decide) hm)
    have e1 : Int32.ofNat s ||| ((1 : Int32) <<< (Int32.ofNat m &&& 31)) = Int32.ofNat (s ||| 2 ^ m) := tb_ext fun k hk => by
      rw [tb_or, tb_nat hk, tb_nat hk, tb_bit (by omega) hk, Nat.testBit_or, Nat.testBit_two_pow]
      by_cases e : k = m
      · subst e; rfl
      · rw [decide_eq_false e, decide_eq_false (fun q => e q.symm)]
    have gs : ¬ (Int32.ofNat s < 0 ∨ 16384 ≤ (Int32.ofNat s).toNatClampNeg) := zn_ok (by omega) (by omega)
    have gm : ¬ (Int32.ofNat (s ||| 2 ^ m) < 0 ∨ 16384 ≤ (Int32.ofNat (s ||| 2 ^ m)).toNatClampNeg) := zn_ok (by omega) (by omega)
    -- what the round lays
    have hv : ∃ v, (if q s = 0 then (if Int32.ofNat (s ||| 2 ^ m) = Int32.ofNat s then some (0 : Int32) else (if q44 (s ||| 2 ^ m) = 0 then (if q (s ||| 2 ^ m) = 0 then some (0 : Int32) else some 1) else some 1)) else some 1) = some v ∧ (v = 0 ∨ v = 1) ∧ (v = 1 ↔ q s = 1 ∨ (s.testBit m = false ∧ (admP A n (s ||| 2 ^ m) ∨ extP A n (s ||| 2 ^ m)))) := by
      rcases p2 with hq | hq
      · rw [if_pos hq]
        have hq1 : ¬ q s = 1 := by rw [hq]; decide
        by_cases c1 : s.testBit m = true
        · rw [if_pos (by rw [or_bit_eq.mpr c1])]
          exact ⟨0, rfl, Or.inl rfl, fun w => absurd w (by decide), fun w => w.elim (fun w => absurd w hq1) (fun w => by rw [c1] at w; exact absurd w.1 (by decide))⟩
        · have hne : s ||| 2 ^ m ≠ s := fun w => c1 (or_bit_eq.mp w)
          have hgt : s + 1 ≤ s ||| 2 ^ m := by
            have : s ≤ s ||| 2 ^ m := Nat.left_le_or
            omega
          obtain ⟨r1, r2, r3, r4⟩ := hR _ hgt hmore
          rw [if_neg (fun w => hne ((zn_eq (by omega) (by omega)).mp w))]
          rcases r1 with hr | hr
          · rw [if_pos hr, p1 _ hne]
            have hna : ¬ admP A n (s ||| 2 ^ m) := fun w => by
              have := r2.mpr w
              rw [hr] at this
              exact absurd this (by decide)
            rcases r3 with hr3 | hr3
            · rw [if_pos hr3]
              refine ⟨0, rfl, Or.inl rfl, fun w => absurd w (by decide), fun w => w.elim (fun w => absurd w hq1) (fun w => ?_)⟩
              rcases w.2 with w | w
              · exact absurd w hna
              · have := r4.mpr w
                rw [hr3] at this
                exact absurd this (by decide)
            · rw [if_neg (by rw [hr3]; decide)]
              exact ⟨1, rfl, Or.inr rfl, fun _ => Or.inr ⟨Bool.eq_false_iff.mpr c1, Or.inr (r4.mp hr3)⟩, fun _ => rfl⟩
          · rw [if_neg (by rw [hr]; decide)]
            exact ⟨1, rfl, Or.inr rfl, fun _ => Or.inr ⟨Bool.eq_false_iff.mpr c1, Or.inl (r2.mp hr)⟩, fun _ => rfl⟩
      · rw [if_neg (by rw [hq]; decide)]
        exact ⟨1, rfl, Or.inr rfl, fun _ => Or.inl hq, fun _ => rfl⟩
    obtain ⟨v, v1, v2, v3⟩ := hv
    refine ⟨upd q s v, ⟨fun t ht => by rw [upd_ne ht]; exact p1 t ht, by rw [upd_at]; exact v2, ?_⟩, fun f => ?_⟩
    · rw [upd_at, v3, p3]
      constructor
      · rintro (⟨k, k1, k2⟩ | h)
        · exact ⟨k, by omega, k2⟩
        · exact ⟨m, by omega, h⟩
      · rintro ⟨k, k1, k2⟩
        by_cases e : k = m
        · subst e; exact Or.inr k2
        · exact Or.inl ⟨k, by omega, k2⟩
    · show m_X10_prefers_L35 F r29 (Int32.ofNat s) (f + 1) (Int32.ofNat m) q44 q = _
      rw [m_X10_prefers_L35, h8, if_neg (zn_nle (by omega) hm), e1]
      simp only [if_pos gs, if_pos gm]
      rw [zn_nat (show s < 2147483648 by omega), zn_nat (show s ||| 2 ^ m < 2147483648 by omega), v1, Option.bind_some, if_pos v2, zn_s]
  · intro f q hq
    show m_X10_prefers_L35 F r29 (Int32.ofNat s) (f + 1) (Int32.ofNat n) q44 q = _
    rw [m_X10_prefers_L35, h8, if_pos (Int32.le_refl _)]
theorem prefers_all {F n : Nat} {r29 r41 r44 r45 : Nat → Int32} (hF : 20000 ≤ F) (h8 : r29 8 = Int32.ofNat n) (hn : n ≤ 14) :
    ∃ q44 q45 L, m_X10_prefers F r29 r41 r44 r45 = some (Int32.ofNat L.length, q44, q45) ∧ isPL (AA n r41) n 0 (2 ^ n) L ∧ pfR (AA n r41) n 0 q44 q45 := by
  have hpn := pow_14 hn
  have key := run_dnF (F := F) (K := 2 ^ n) (LC := fun f x (t : Int32 × (Nat → Int32) × (Nat → Int32)) => m_X10_prefers_L11 F r29 r41 f x t.1 t.2.1 t.2.2) (P := fun j t => pfR (AA n r41) n j t.2.1 t.2.2 ∧ ∃ L, isPL (AA n r41) n j (2 ^ n) L ∧ t.1 = Int32.ofNat L.length) (gC := fun t => t) (by omega) ?_ ?_ (0, r44, r45) ⟨fun t h1 h2 => by omega, [], isPL_nil, rfl⟩
  · obtain ⟨t, ⟨t1, L, t2, t3⟩, t4⟩ := key
    refine ⟨t.2.1, t.2.2, L, ?_, t2, t1⟩
    unfold m_X10_prefers
    rw [h8, top_sx hn, ← t3]
    exact t4
  · rintro j hj t ⟨hR, L, hL, hx⟩
    obtain ⟨v, v1, v2, v3⟩ := ev_isAdmissible (F := F) (r41 := r41) hF h8 hn hj
    have gj : ¬ (Int32.ofNat j < 0 ∨ 16384 ≤ (Int32.ofNat j).toNatClampNeg) := zn_ok (by omega) (by omega)
    obtain ⟨z, p45, e1, e2, e3, e4⟩ := ev_ext_in (F := F) (A := AA n r41) (q44 := upd t.2.1 j v) (q45 := upd t.2.2 j 0) hF h8 hn hj (fun u u1 u2 => by
      rw [upd_ne (show u ≠ j by omega), upd_ne (show u ≠ j by omega)]
      exact hR u u1 u2) (upd_at _ _ _)
    have hR' : pfR (AA n r41) n j (upd t.2.1 j v) p45 := fun u u1 u2 => by
      by_cases e : u = j
      · subst e
        rw [upd_at]
        exact ⟨v2, v3, e3, e4⟩
      · rw [upd_ne e, e2 u e, upd_ne e]
        exact hR u (by omega) u2
    have hun : ∀ f, m_X10_prefers_L11 F r29 r41 (f + 1) (Int32.ofNat j) t.1 t.2.1 t.2.2 = if v = 0 then m_X10_prefers_L11 F r29 r41 f (dn j) (t.1 + 0) (upd t.2.1 j v) p45 else if p45 j = 0 then m_X10_prefers_L11 F r29 r41 f (dn j) (t.1 + 1) (upd t.2.1 j v) p45 else m_X10_prefers_L11 F r29 r41 f (dn j) (t.1 + 0) (upd t.2.1 j v) p45 := fun f => by
      rw [m_X10_prefers_L11, if_neg (zn_nn (by omega)), v1, Option.bind_some, if_pos v2]
      simp only [if_pos gj]
      rw [zn_nat (show j < 2147483648 by omega), e1, Option.bind_some]
      show (if upd t.2.1 j v j = 0 then _ else _) = _
      rw [upd_at]
      rfl
    have hpe := pref_ext (A := AA n r41) hj
    have hskip : ¬ prefP (AA n r41) n j → isPL (AA n r41) n j (2 ^ n) L := fun h => isPL_skip hL (by omega) fun u h1 h2 hu => by
      have : u = j := by omega
      rw [this] at hu
      exact h hu
    rcases v2 with hv | hv
    · refine ⟨(t.1 + 0, upd t.2.1 j v, p45), ⟨hR', L, hskip fun hu => ?_, ?_⟩, fun f => (hun f).trans (if_pos hv)⟩
      · have := v3.mpr hu.2.1
        rw [hv] at this
        exact absurd this (by decide)
      · show t.1 + 0 = _
        rw [Int32.add_zero, hx]
    · rcases e3 with he | he
      · have hp : prefP (AA n r41) n j := hpe.mpr ⟨v3.mp hv, fun w => by
          have := e4.mpr w
          rw [he] at this
          exact absurd this (by decide)⟩
        refine ⟨(t.1 + 1, upd t.2.1 j v, p45), ⟨hR', _, isPL_keep hL hj hp, ?_⟩, fun f => (hun f).trans ?_⟩
        · show t.1 + 1 = _
          rw [List.length_append, hx, zn_s]
          rfl
        · rw [if_neg (by rw [hv]; decide), if_pos he]
      · refine ⟨(t.1 + 0, upd t.2.1 j v, p45), ⟨hR', L, hskip fun hu => (hpe.mp hu).2 (e4.mp he), ?_⟩, fun f => (hun f).trans ?_⟩
        · show t.1 + 0 = _
          rw [Int32.add_zero, hx]
        · rw [if_neg (by rw [hv]; decide), if_neg (by rw [he]; decide)]
  · intro f t ht
    show m_X10_prefers_L11 F r29 r41 (f + 1) (-1) t.1 t.2.1 t.2.2 = _
    rw [m_X10_prefers_L11, if_pos (by decide)]
/-- the upper part of the list -/
theorem isPL_pre {A : Nat → Nat → Bool} {n j hi : Nat} {L M : List Nat} (h1 : isPL A n j hi M) (h2 : isPL A n 0 hi L) : ∃ N, L = M ++ N := by
  refine ⟨L.filter (fun t => decide (t < j)), isPL_eq h2 ⟨List.pairwise_append.mpr ⟨h1.1, h2.1.filter _, fun p hp q hq => ?_⟩, fun t => ?_⟩⟩
  · have := ((h1.2 p).mp hp).2.1
    rw [List.mem_filter, decide_eq_true_eq] at hq
    omega
  · rw [List.mem_append, List.mem_filter, decide_eq_true_eq, h1.2, h2.2]
    constructor
    · rintro (⟨p1, p2, p3⟩ | ⟨⟨p1, p2, p3⟩, p4⟩)
      · exact ⟨p1, Nat.zero_le _, p3⟩
      · exact ⟨p1, p2, p3⟩
    · rintro ⟨p1, p2, p3⟩
      by_cases e : t < j
      · exact Or.inr ⟨⟨p1, p2, p3⟩, e⟩
      · exact Or.inl ⟨p1, by omega, p3⟩
theorem setAt_all {F n i : Nat} {A : Nat → Nat → Bool} {r29 q44 q45 : Nat → Int32} {L : List Nat} (hF : 20000 ≤ F) (h8 : r29 8 = Int32.ofNat n) (hn : n ≤ 14) (hL : isPL A n 0 (2 ^ n) L) (hR : pfR A n 0 q44 q45) (hi : i < L.length) : m_X10_setAt F r29 q44 q45 (Int32.ofNat i) = some (Int32.ofNat (L.getD i 0)) := by
  have hpn := pow_14 hn
  have hlen := isPL_len (by omega) hL
  have key : ∀ j f M, j ≤ 2 ^ n → isPL A n j (2 ^ n) M → M.length ≤ i → m_X10_setAt_L9 F q44 q45 (f + j + 2) (Int32.ofNat j) (Int32.ofNat (i - M.length)) = some (Int32.ofNat (L.getD i 0)) := by
    intro j
    induction j with
    | zero =>
      intro f M _ hM hle
      rw [isPL_eq hL hM] at hi
      omega
    | succ j ih =>
      intro f M hj hM hle
      have gj : ¬ (Int32.ofNat j < 0 ∨ 16384 ≤ (Int32.ofNat j).toNatClampNeg) := zn_ok (by omega) (by omega)
      have ej : Int32.ofNat (j + 1) + (-1) = Int32.ofNat j := dn_s j
      have hun : ∀ f x, ¬ x < 0 → m_X10_setAt_L9 F q44 q45 (f + 1) (Int32.ofNat (j + 1)) x = if q44 j = 0 then m_X10_setAt_L9 F q44 q45 f (Int32.ofNat j) (x - 0) else if q45 j = 0 then m_X10_setAt_L9 F q44 q45 f (Int32.ofNat j) (x - 1) else m_X10_setAt_L9 F q44 q45 f (Int32.ofNat j) (x - 0) := fun f x hx => by
        rw [m_X10_setAt_L9, if_neg hx, ej]
        simp only [if_pos gj]
        rw [zn_nat (show j < 2147483648 by omega)]
      obtain ⟨r1, r2, r3, r4⟩ := hR j (Nat.zero_le _) (by omega)
      have hpe := pref_ext (A := A) (show j < 2 ^ n by omega)
      rw [show f + (j + 1) + 2 = (f + j + 2) + 1 by omega, hun _ _ (zn_nn (by omega)), Int32.sub_zero]
      have hskip : ¬ prefP A n j → m_X10_setAt_L9 F q44 q45 (f + j + 2) (Int32.ofNat j) (Int32.ofNat (i - M.length)) = some (Int32.ofNat (L.getD i 0)) := fun h => ih f M (by omega) (isPL_skip hM (by omega) fun u h1 h2 hu => by
        have : u = j := by omega
        rw [this] at hu
        exact h hu) hle
      rcases r1 with h1 | h1
      · rw [if_pos h1]
        refine hskip fun w => ?_
        have := r2.mpr w.2.1
        rw [h1] at this
        exact absurd this (by decide)
      · rw [if_neg (by rw [h1]; decide)]
        rcases r3 with h3 | h3
        · rw [if_pos h3]
          have hp : prefP A n j := hpe.mpr ⟨r2.mp h1, fun w => by
            have := r4.mpr w
            rw [h3] at this
            exact absurd this (by decide)⟩
          have hM1 := isPL_keep hM (show j < 2 ^ n by omega) hp
          by_cases c : M.length = i
          · have e : Int32.ofNat (i - M.length) - 1 = -1 := by rw [c, Nat.sub_self]; rfl
            rw [e, show f + j + 2 = (f + j + 1) + 1 by omega, m_X10_setAt_L9, if_pos (by decide)]
            obtain ⟨N, hN⟩ := isPL_pre hM1 hL
            have : L.getD i 0 = j := by
              rw [hN, ← c, List.getD_eq_getElem?_getD, List.append_assoc, List.getElem?_append_right (Nat.le_refl _), Nat.sub_self]
              rfl
            rw [this]
          · have e : Int32.ofNat (i - M.length) - 1 = Int32.ofNat (i - (M ++ [j]).length) := by
              rw [List.length_append, List.length_singleton, show i - M.length = (i - (M.length + 1)) + 1 by omega, ← zn_s, Int32.add_sub_cancel]
            rw [e]
            exact ih f _ (by omega) hM1 (by rw [List.length_append, List.length_singleton]; omega)
        · rw [if_neg (by rw [h3]; decide)]
          exact hskip fun w => (hpe.mp w).2 (r4.mp h3)
  unfold m_X10_setAt
  rw [h8, zsh_pow (by omega)]
  have := key (2 ^ n) (F - 2 ^ n - 2) [] (Nat.le_refl _) isPL_nil (Nat.zero_le _)
  rw [show F - 2 ^ n - 2 + 2 ^ n + 2 = F by omega] at this
  exact this

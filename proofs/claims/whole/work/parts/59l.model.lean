/-! the model's sets -/
theorem ev_has2 {F n s k : Nat} {r29 : Nat → Int32} (h8 : r29 8 = Int32.ofNat n) (hn : n ≤ 14) (hk : k < n) : m_X10_has F r29 (Int32.ofNat s) (Int32.ofNat k) = some (if s.testBit (n - 1 - k) = true then 1 else 0) := by
  unfold m_X10_has
  have e : Int32.ofNat n - 1 - Int32.ofNat k = Int32.ofNat (n - 1 - k) := by
    have : ∀ n, n < 15 → ∀ k, k < n → Int32.ofNat n - 1 - Int32.ofNat k = Int32.ofNat (n - 1 - k) := by decide
    exact this n (by omega) k hk
  rw [h8, e]
  by_cases h : s.testBit (n - 1 - k) = true
  · rw [if_pos h, if_pos ((bit_1 _ (by omega)).mpr (by rw [tb_nat (by omega)]; exact h))]
  · rw [if_neg h, if_neg (fun w => h (by rw [← tb_nat (show n - 1 - k < 32 by omega)]; exact (bit_1 _ (by omega)).mp w))]
theorem ev_turned {F n s : Nat} {r29 : Nat → Int32} (hF : 20000 ≤ F) (h8 : r29 8 = Int32.ofNat n) (hn : n ≤ 14) : ∃ v, m_X10_turned F r29 (Int32.ofNat s) = some v ∧ ∀ k, k < 32 → (tb v k = true ↔ k < n ∧ s.testBit (n - 1 - k) = true) := by
  have key := run1F (F := F) (K := n) (LC := fun f x v => m_X10_turned_L4 F r29 (Int32.ofNat s) f x v) (P := fun m v => ∀ k, k < 32 → (tb v k = true ↔ k < m ∧ s.testBit (n - 1 - k) = true)) (gC := fun v => v) (by omega) ?_ ?_ 0 gath0
  · obtain ⟨v, v1, v2⟩ := key
    exact ⟨v, v2, v1⟩
  · intro m hm v hv
    have hun : ∀ f, m_X10_turned_L4 F r29 (Int32.ofNat s) (f + 1) (Int32.ofNat m) v = if (if s.testBit (n - 1 - m) = true then (1 : Int32) else 0) = 0 then m_X10_turned_L4 F r29 (Int32.ofNat s) f (Int32.ofNat (m + 1)) (v ||| 0) else m_X10_turned_L4 F r29 (Int32.ofNat s) f (Int32.ofNat (m + 1)) (v ||| ((1 : Int32) <<< (Int32.ofNat m &&& 31))) := fun f => by
      rw [m_X10_turned_L4, h8, if_neg (zn_nle (by omega) hm), ev_has2 h8 hn hm, Option.bind_some, zn_s]
    by_cases p : s.testBit (n - 1 - m) = true
    · refine ⟨_, (gath (by omega) hv).1 p, fun f => (hun f).trans ?_⟩
      rw [if_pos p, if_neg zi_10]
    · refine ⟨v, (gath (by omega) hv).2 p, fun f => (hun f).trans ?_⟩
      rw [if_neg p, if_pos rfl, zor_0]
  · intro f v hv
    show m_X10_turned_L4 F r29 (Int32.ofNat s) (f + 1) (Int32.ofNat n) v = _
    rw [m_X10_turned_L4, h8, if_pos (Int32.le_refl _)]
theorem ev_against {F n s : Nat} {r29 r41 : Nat → Int32} (hF : 20000 ≤ F) (h8 : r29 8 = Int32.ofNat n) (hn : n ≤ 14) : ∃ z v, m_X10_isAdmissible_L11 F r29 r41 (Int32.ofNat s) F 0 0 = some (z, v) ∧ ∀ i, i < 32 → (tb v i = true ↔ ∃ k, k < n ∧ s.testBit (n - 1 - k) = true ∧ tb (r41 k) i = true) := by
  have key := run1F (F := F) (K := n) (LC := fun f x v => m_X10_isAdmissible_L11 F r29 r41 (Int32.ofNat s) f x v) (P := fun m v => ∀ i, i < 32 → (tb v i = true ↔ ∃ k, k < m ∧ s.testBit (n - 1 - k) = true ∧ tb (r41 k) i = true)) (gC := fun v => (Int32.ofNat n, v)) (by omega) ?_ ?_ 0 (fun i hi => by
    rw [tb_0]
    constructor
    · intro q; cases q
    · rintro ⟨k, k1, -⟩; exact absurd k1 (Nat.not_lt_zero _))
  · obtain ⟨v, v1, v2⟩ := key
    exact ⟨_, v, v2, v1⟩
  · intro m hm v hv
    have hun : ∀ f, m_X10_isAdmissible_L11 F r29 r41 (Int32.ofNat s) (f + 1) (Int32.ofNat m) v = if (if s.testBit (n - 1 - m) = true then (1 : Int32) else 0) = 0 then m_X10_isAdmissible_L11 F r29 r41 (Int32.ofNat s) f (Int32.ofNat (m + 1)) (v ||| 0) else m_X10_isAdmissible_L11 F r29 r41 (Int32.ofNat s) f (Int32.ofNat (m + 1)) (v ||| r41 m) := fun f => by
      rw [m_X10_isAdmissible_L11, h8, if_neg (zn_nle (by omega) hm), ev_has2 h8 hn hm, Option.bind_some, if_pos (zn_ok (by omega) (by omega)), zn_nat (by omega), zn_s]
    by_cases p : s.testBit (n - 1 - m) = true
    · refine ⟨v ||| r41 m, fun i hi => ?_, fun f => (hun f).trans ?_⟩
      · rw [tb_or, Bool.or_eq_true, hv i hi]
        constructor
        · rintro (⟨k, k1, k2, k3⟩ | q)
          · exact ⟨k, by omega, k2, k3⟩
          · exact ⟨m, by omega, p, q⟩
        · rintro ⟨k, k1, k2, k3⟩
          by_cases e : k = m
          · subst e; exact Or.inr k3
          · exact Or.inl ⟨k, by omega, k2, k3⟩
      · rw [if_pos p, if_neg zi_10]
    · refine ⟨v, fun i hi => ?_, fun f => (hun f).trans ?_⟩
      · rw [hv i hi]
        constructor
        · rintro ⟨k, k1, k2, k3⟩; exact ⟨k, by omega, k2, k3⟩
        · rintro ⟨k, k1, k2, k3⟩
          by_cases e : k = m
          · subst e; exact absurd k2 p
          · exact ⟨k, by omega, k2, k3⟩
      · rw [if_neg p, if_pos rfl, zor_0]
  · intro f v hv
    show m_X10_isAdmissible_L11 F r29 r41 (Int32.ofNat s) (f + 1) (Int32.ofNat n) v = _
    rw [m_X10_isAdmissible_L11, h8, if_pos (Int32.le_refl _)]
theorem ev_adm_loop {F n : Nat} {ag bs : Int32} {r29 r41 : Nat → Int32} (h8 : r29 8 = Int32.ofNat n) (hn : n ≤ 14) : ∀ (d k f : Nat) (x : Int32), k + d = n → (x = 0 ∨ x = 1) → ∃ v, m_X10_isAdmissible_L66 F r29 r41 ag bs (f + d + 1) (Int32.ofNat k) x = some v ∧ (v = 0 ∨ v = 1) ∧ (v = 1 ↔ x = 1 ∧ ∀ i, k ≤ i → i < n → tb ag i = true → ¬ (r41 i &&& bs) = 0) := by
  intro d
  induction d with
  | zero =>
    intro k f x hk hx
    refine ⟨x, ?_, hx, fun q => ⟨q, fun i h1 h2 => by omega⟩, fun q => q.1⟩
    rw [m_X10_isAdmissible_L66, h8, if_pos ((zn_le (by omega) (by omega)).mpr (by omega)), if_pos hx]
  | succ d ih =>
    intro k f x hk hx
    rw [show f + (d + 1) + 1 = (f + d + 1) + 1 by omega, m_X10_isAdmissible_L66, h8, if_neg (zn_nle (by omega) (by omega))]
    rcases hx with hx | hx
    · rw [if_pos hx, if_pos (Or.inl hx)]
      exact ⟨x, rfl, Or.inl hx, fun q => by rw [hx] at q; exact absurd q (by decide), fun q => by rw [hx] at q; exact absurd q.1 (by decide)⟩
    · rw [if_neg (by rw [hx]; decide), if_pos (zn_ok (show k < 24 by omega) (by omega)), zn_nat (by omega), zn_s]
      have hst : ∀ y, (y = 0 ∨ y = 1) → (y = 1 ↔ (tb ag k = true → ¬ (r41 k &&& bs) = 0)) → ∃ v, m_X10_isAdmissible_L66 F r29 r41 ag bs (f + d + 1) (Int32.ofNat (k + 1)) y = some v ∧ (v = 0 ∨ v = 1) ∧ (v = 1 ↔ x = 1 ∧ ∀ i, k ≤ i → i < n → tb ag i = true → ¬ (r41 i &&& bs) = 0) := fun y hy hy2 => by
        obtain ⟨v, v1, v2, v3⟩ := ih (k + 1) f y (by omega) hy
        refine ⟨v, v1, v2, v3.trans ?_⟩
        rw [hy2]
        constructor
        · rintro ⟨h1, h2⟩
          refine ⟨hx, fun i i1 i2 i3 => ?_⟩
          by_cases e : i = k
          · subst e; exact h1 i3
          · exact h2 i (by omega) i2 i3
        · rintro ⟨h1, h2⟩
          exact ⟨fun q => h2 k (Nat.le_refl _) (by omega) q, fun i i1 i2 i3 => h2 i (by omega) i2 i3⟩
      by_cases c : tb ag k = true
      · rw [if_neg (fun w => by rw [(bit_0 _ (by omega)).mp w] at c; cases c)]
        by_cases c2 : (r41 k &&& bs) = 0
        · rw [if_pos c2]
          exact hst 0 (Or.inl rfl) ⟨fun q => absurd q (by decide), fun q => absurd c2 (q c)⟩
        · rw [if_neg c2]
          exact hst 1 (Or.inr rfl) ⟨fun _ _ => c2, fun _ => rfl⟩
      · rw [if_pos ((bit_0 _ (by omega)).mpr (Bool.eq_false_iff.mpr c))]
        exact hst 1 (Or.inr rfl) ⟨fun _ q => absurd q c, fun _ => rfl⟩
theorem ev_isAdmissible {F n s : Nat} {r29 r41 : Nat → Int32} (hF : 20000 ≤ F) (h8 : r29 8 = Int32.ofNat n) (hn : n ≤ 14) (hs : s < 2 ^ n) : ∃ v, m_X10_isAdmissible F r29 r41 (Int32.ofNat s) = some v ∧ (v = 0 ∨ v = 1) ∧ (v = 1 ↔ admP (AA n r41) n s) := by
  obtain ⟨bs, b1, b2⟩ := ev_turned (F := F) (s := s) hF h8 hn
  obtain ⟨z, ag, a1, a2⟩ := ev_against (F := F) (s := s) (r41 := r41) hF h8 hn
  unfold m_X10_isAdmissible
  rw [b1, Option.bind_some, a1, Option.bind_some]
  -- a member's attacker, by places
  have hmem : ∀ q, q < n → (tb ag (n - 1 - q) = true ↔ ∃ p, s.testBit p = true ∧ AA n r41 q p = true) := fun q hq => by
    rw [a2 _ (by omega)]
    constructor
    · rintro ⟨k, k1, k2, k3⟩
      refine ⟨n - 1 - k, k2, AA_iff.mpr ⟨hq, by omega, ?_⟩⟩
      rw [show n - 1 - (n - 1 - k) = k by omega]
      exact k3
    · rintro ⟨p, p1, p2⟩
      have hp := (AA_iff.mp p2).2.1
      refine ⟨n - 1 - p, by omega, ?_, (AA_iff.mp p2).2.2⟩
      rw [show n - 1 - (n - 1 - p) = p by omega]
      exact p1
  have hcf : (ag &&& bs) = 0 ↔ cfP (AA n r41) s := by
    rw [dis_0]
    constructor
    · intro h p q hp hq
      apply Bool.eq_false_iff.mpr
      intro hA
      have hpn : p < n := bit_lt hs hp
      have h1 := h (n - 1 - p) (by omega) ((hmem p hpn).mpr ⟨q, hq, hA⟩)
      rw [(b2 _ (by omega)).mpr ⟨by omega, by rw [show n - 1 - (n - 1 - p) = p by omega]; exact hp⟩] at h1
      cases h1
    · intro h i hi hai
      apply Bool.eq_false_iff.mpr
      intro hb
      obtain ⟨i1, i2⟩ := (b2 i hi).mp hb
      have : tb ag (n - 1 - (n - 1 - i)) = true := by rw [show n - 1 - (n - 1 - i) = i by omega]; exact hai
      obtain ⟨q, q1, q2⟩ := (hmem (n - 1 - i) (by omega)).mp this
      rw [h _ q i2 q1] at q2
      cases q2
  have hdf : ∀ q, q < n → (¬ (r41 (n - 1 - q) &&& bs) = 0 ↔ ∃ r, s.testBit r = true ∧ AA n r41 r q = true) := fun q hq => by
    constructor
    · intro h
      apply Classical.byContradiction
      intro hno
      apply h
      rw [dis_0]
      intro i hi hr
      apply Bool.eq_false_iff.mpr
      intro hb
      obtain ⟨i1, i2⟩ := (b2 i hi).mp hb
      refine hno ⟨n - 1 - i, i2, AA_iff.mpr ⟨by omega, hq, ?_⟩⟩
      rw [show n - 1 - (n - 1 - i) = i by omega]
      exact hr
    · rintro ⟨r, r1, r2⟩ h
      rw [dis_0] at h
      obtain ⟨g1, g2, g3⟩ := AA_iff.mp r2
      have h1 := h (n - 1 - r) (by omega) g3
      rw [(b2 _ (by omega)).mpr ⟨by omega, by rw [show n - 1 - (n - 1 - r) = r by omega]; exact r1⟩] at h1
      cases h1
  have hbind : ∃ x, (if (ag &&& bs) = 0 then some (1 : Int32) else some 0) = some x ∧ (x = 0 ∨ x = 1) ∧ (x = 1 ↔ cfP (AA n r41) s) := by
    by_cases c : (ag &&& bs) = 0
    · rw [if_pos c]; exact ⟨1, rfl, Or.inr rfl, fun _ => hcf.mp c, fun _ => rfl⟩
    · rw [if_neg c]; exact ⟨0, rfl, Or.inl rfl, fun q => absurd q (by decide), fun q => absurd (hcf.mpr q) c⟩
  obtain ⟨x, x1, x2, x3⟩ := hbind
  obtain ⟨v, v1, v2, v3⟩ := ev_adm_loop (F := F) (ag := ag) (bs := bs) (r41 := r41) h8 hn n 0 (F - n - 1) x (by omega) x2
  rw [show F - n - 1 + n + 1 = F by omega] at v1
  refine ⟨v, ?_, v2, v3.trans ?_⟩
  · show Option.bind (if (ag &&& bs) = 0 then some (1 : Int32) else some 0) (fun zu3 => m_X10_isAdmissible_L66 F r29 r41 ag bs F 0 zu3) = some v
    rw [x1, Option.bind_some]
    exact v1
  · rw [x3]
    unfold admP
    constructor
    · rintro ⟨h1, h2⟩
      refine ⟨h1, fun q hq hp => (hdf q hq).mp (h2 (n - 1 - q) (Nat.zero_le _) (by omega) ((hmem q hq).mpr hp))⟩
    · rintro ⟨h1, h2⟩
      refine ⟨h1, fun i _ hi ha => ?_⟩
      have e : n - 1 - (n - 1 - i) = i := by omega
      have := (hdf (n - 1 - i) (by omega)).mpr (h2 (n - 1 - i) (by omega) ((hmem (n - 1 - i) (by omega)).mp (by rw [e]; exact ha)))
      rw [e] at this
      exact this

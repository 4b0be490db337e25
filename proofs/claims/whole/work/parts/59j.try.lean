/-! the two searches -/
theorem mp_bit (b m p : Nat) : (b * 2 ^ m).testBit p = (decide (m ≤ p) && b.testBit (p - m)) := by
  rw [← Nat.shiftLeft_eq, Nat.testBit_shiftLeft]
theorem sx_or {n s t : Nat} : Int32.ofNat (sx n s) ||| Int32.ofNat (sx n t) = Int32.ofNat (sx n (s ||| t)) := tb_ext fun k hk => by
  rw [tb_or, tb_nat hk, tb_nat hk, tb_nat hk, sx_bit, sx_bit, sx_bit, Nat.testBit_or]
  cases decide (14 - n ≤ k) <;> rfl
/-- all that may still be chosen -/
def pos (b m : Nat) : Nat := b * 2 ^ m ||| (2 ^ m - 1)
theorem pos_bit (b m p : Nat) : (pos b m).testBit p = ((decide (m ≤ p) && b.testBit (p - m)) || decide (p < m)) := by
  unfold pos
  rw [Nat.testBit_or, mp_bit, Nat.testBit_two_pow_sub_one]
theorem rng_bit {b m u : Nat} (h1 : b * 2 ^ m ≤ u) (h2 : u < (b + 1) * 2 ^ m) {p : Nat} (hp : m ≤ p) : u.testBit p = b.testBit (p - m) := by
  have e : u / 2 ^ m = b := Nat.div_eq_of_lt_le h1 h2
  have h : (u / 2 ^ m).testBit (p - m) = u.testBit (p - m + m) := Nat.testBit_div_two_pow u (p - m)
  rw [e, Nat.sub_add_cancel hp] at h
  exact h.symm
theorem rng_sub {b m u : Nat} (h1 : b * 2 ^ m ≤ u) (h2 : u < (b + 1) * 2 ^ m) : subP (b * 2 ^ m) u ∧ subP u (pos b m) := by
  constructor
  · intro p hp
    rw [mp_bit, Bool.and_eq_true, decide_eq_true_eq] at hp
    rw [rng_bit h1 h2 hp.1]
    exact hp.2
  · intro p hp
    rw [pos_bit]
    by_cases h : m ≤ p
    · rw [← rng_bit h1 h2 h, hp, decide_eq_true h]; rfl
    · rw [decide_eq_true (show p < m by omega), Bool.or_true]
theorem with_bit {b m : Nat} : (2 * b) * 2 ^ m ||| 2 ^ m = (2 * b + 1) * 2 ^ m := by
  apply Nat.eq_of_testBit_eq
  intro p
  rw [Nat.testBit_or, mp_bit, mp_bit, Nat.testBit_two_pow]
  by_cases h : m ≤ p
  · obtain ⟨i, rfl⟩ : ∃ i, p = m + i := ⟨p - m, by omega⟩
    rw [Nat.add_sub_cancel_left, decide_eq_true h, Bool.true_and, Bool.true_and]
    cases i with
    | zero => simp
    | succ i =>
      rw [Nat.testBit_succ, Nat.testBit_succ, show 2 * b / 2 = b by omega, show (2 * b + 1) / 2 = b by omega, decide_eq_false (by omega), Bool.or_false]
  · rw [decide_eq_false h, decide_eq_false (by omega)]; rfl
theorem two_mul_pow (b m : Nat) : (2 * b) * 2 ^ m = b * 2 ^ (m + 1) := by rw [Nat.pow_succ, Nat.mul_comm 2 b, Nat.mul_assoc, Nat.mul_comm 2 (2 ^ m)]
theorem ev_restFrom {F n k : Nat} {r16 : Nat → Int32} (hn : n ≤ 14) (hk : k ≤ n) (h4 : r16 4 = Int32.ofNat n) : m_X7_restFrom F r16 (Int32.ofNat k) = some (Int32.ofNat (sx n (2 ^ (n - k) - 1))) := by
  unfold m_X7_restFrom
  rw [h4]
  have h : (List.range 15).all (fun n => (List.range 15).all (fun k => !decide (k ≤ n) || decide (((((1 : Int32) <<< (Int32.ofNat n &&& 31)) - 1) <<< ((14 - Int32.ofNat n) &&& 31)) &&& (((1 : Int32) <<< ((14 - Int32.ofNat k) &&& 31)) - 1) = Int32.ofNat (sx n (2 ^ (n - k) - 1))))) = true := by decide +kernel
  have a1 := List.all_eq_true.mp h n (List.mem_range.mpr (by omega))
  have a2 := List.all_eq_true.mp a1 k (List.mem_range.mpr (by omega))
  rw [decide_eq_true hk] at a2
  have a3 := of_decide_eq_true (by simpa using a2 : decide (((((1 : Int32) <<< (Int32.ofNat n &&& 31)) - 1) <<< ((14 - Int32.ofNat n) &&& 31)) &&& (((1 : Int32) <<< ((14 - Int32.ofNat k) &&& 31)) - 1) = Int32.ofNat (sx n (2 ^ (n - k) - 1))) = true)
  rw [a3]
theorem set_sx {n k : Nat} (hn : n ≤ 14) (hk : k < n) : (1 : Int32) <<< (Int32.ofNat (13 - k) &&& 31) = Int32.ofNat (sx n (2 ^ (n - 1 - k))) := by
  rw [zsh_pow (by omega)]
  unfold sx
  rw [← Nat.pow_add, show n - 1 - k + (14 - n) = 13 - k by omega]
theorem mp_lt {n k m b : Nat} (h : k + m = n) (hb : b < 2 ^ k) : b * 2 ^ m < 2 ^ n ∧ (b + 1) * 2 ^ m ≤ 2 ^ n := by
  have h1 : (b + 1) * 2 ^ m ≤ 2 ^ k * 2 ^ m := Nat.mul_le_mul_right _ hb
  rw [← Nat.pow_add, h] at h1
  have h2 : (b + 1) * 2 ^ m = b * 2 ^ m + 2 ^ m := by rw [Nat.add_mul, Nat.one_mul]
  have h3 := Nat.two_pow_pos m
  omega
theorem pos_lt {n k m b : Nat} (h : k + m = n) (hb : b < 2 ^ k) : pos b m < 2 ^ n := by
  have h1 := (mp_lt h hb).1
  have h2 : 2 ^ m ≤ 2 ^ n := Nat.pow_le_pow_right (by decide) (by omega)
  have h3 := Nat.two_pow_pos m
  exact or_lt h1 (by omega)
theorem isPL_ge {A : Nat → Nat → Bool} {n lo hi : Nat} {L : List Nat} (h : isPL A n lo hi L) : ∀ t ∈ L, prefP A n t ∧ lo ≤ t := fun t ht => ⟨((h.2 t).mp ht).1, ((h.2 t).mp ht).2.1⟩
theorem try_from {F n : Nat} {r13 r16 r19 r20 r23 r24 : Nat → Int32} (hF : 20000 ≤ F) (hn : n ≤ 14) (hT : tabR n r13 r16 r19 r20 r23 r24) :
    ∀ (m k b f : Nat) (r25 r26 : Nat → Int32) (L : List Nat), k + m = n → b < 2 ^ k → rL n r25 r26 L → isPL (AA n r13) n ((b + 1) * 2 ^ m) (2 ^ n) L → cfP (AA n r13) (b * 2 ^ m) →
    ∃ q25 q26 L', m_X7_tryFrom F r16 r19 r20 r23 r24 (f + m + 1) r25 r26 (Int32.ofNat k) (Int32.ofNat (sx n (b * 2 ^ m))) = some (q25, q26) ∧ rL n q25 q26 L' ∧ isPL (AA n r13) n (b * 2 ^ m) (2 ^ n) L' := by
  have h4 : r16 4 = Int32.ofNat n := hT.1
  intro m
  induction m with
  | zero =>
    intro k b f r25 r26 L hk hb hL hP hcf
    have hk : k = n := hk
    subst hk
    obtain ⟨c1, c2⟩ := mp_lt (n := k) (m := 0) rfl hb
    have hk14 : Int32.ofNat k ≤ 14 := (zn_le (b := 14) (by omega) (by omega)).mpr hn
    have hrange : ∀ t, b * 2 ^ 0 ≤ t → t < (b + 1) * 2 ^ 0 → subP (b * 2 ^ 0) t ∧ subP t (pos b 0) := fun t h1 h2 => rng_sub h1 h2
    have e0 : b * 2 ^ 0 ||| (2 ^ (k - k) - 1) = pos b 0 := by unfold pos; rw [Nat.sub_self]
    have ep : pos b 0 = b * 2 ^ 0 := by unfold pos; simp
    obtain ⟨v, v1, v2, v3⟩ := ev_covers hF hn (pos_lt (n := k) (m := 0) rfl hb) hL
    obtain ⟨w, w1, w2, w3⟩ := ev_defend (F := F) hn c1 (pos_lt (n := k) (m := 0) rfl hb) hT
    rw [show f + 0 + 1 = f + 1 from rfl, m_X7_tryFrom, h4, if_neg (fun q => by have := (zn_lt (by omega) (by omega)).mp q; omega), if_pos hk14, ev_restFrom hn (Nat.le_refl _) h4, Option.bind_some, sx_or, e0, v1, Option.bind_some, w1, Option.bind_some, if_pos rfl]
    have hone : (b + 1) * 2 ^ 0 = b * 2 ^ 0 + 1 := by omega
    rcases v2 with hv | hv
    · rw [if_pos hv]
      rcases w2 with hw | hw
      · rw [if_pos hw]
        refine ⟨r25, r26, L, rfl, hL, isPL_skip hP (by omega) fun t h1 h2 hp => ?_⟩
        obtain ⟨s1, s2⟩ := hrange t h1 h2
        have : w = 1 := w3.mpr fun q hq ⟨p, hp1, hp2⟩ => by
          obtain ⟨r, r1, r2⟩ := hp.2.1.2 q hq ⟨p, s1 p hp1, hp2⟩
          exact ⟨r, s2 r r1, r2⟩
        rw [hw] at this
        exact absurd this (by decide)
      · rw [if_neg (by rw [hw]; decide)]
        have hadm : admP (AA k r13) k (b * 2 ^ 0) := ⟨hcf, by
          have := w3.mp hw
          rw [ep] at this
          exact this⟩
        have hpref : prefP (AA k r13) k (b * 2 ^ 0) := (leaf_pref c1 hadm L (fun t ht => ⟨(isPL_ge hP t ht).1, by have := (isPL_ge hP t ht).2; omega⟩) (fun t ht hlt => (hP.2 t).mpr ⟨ht, by omega, ht.1⟩)).mp (fun q => by
          have : v = 1 := v3.mpr (by rw [ep]; exact q)
          rw [hv] at this
          exact absurd this (by decide))
        have hP1 : isPL (AA k r13) k (b * 2 ^ 0) (2 ^ k) (L ++ [b * 2 ^ 0]) := isPL_keep (by rw [← hone]; exact hP) c1 hpref
        have hlen := isPL_len (by omega) hP1
        rw [List.length_append, List.length_singleton] at hlen
        obtain ⟨q25, q26, g1, g2⟩ := ev_keep (F := F) (s := b * 2 ^ 0) hL (by omega)
        rw [g1, Option.bind_some]
        exact ⟨q25, q26, _, rfl, g2, hP1⟩
    · rw [if_neg (by rw [hv]; decide)]
      refine ⟨r25, r26, L, rfl, hL, isPL_skip hP (by omega) fun t h1 h2 hp => ?_⟩
      obtain ⟨u, u1, u2⟩ := v3.mp hv
      have hu := isPL_ge hP u u1
      have := hp.2.2 u hu.1.1 hu.1.2.1 (subP_trans (hrange t h1 h2).2 u2)
      omega
  | succ m ih =>
    intro k b f r25 r26 L hk hb hL hP hcf
    obtain ⟨c1, c2⟩ := mp_lt hk hb
    have hk14 : Int32.ofNat k ≤ 14 := (zn_le (b := 14) (by omega) (by omega)).mpr (by omega)
    have hrange : ∀ t, b * 2 ^ (m + 1) ≤ t → t < (b + 1) * 2 ^ (m + 1) → subP (b * 2 ^ (m + 1)) t ∧ subP t (pos b (m + 1)) := fun t h1 h2 => rng_sub h1 h2
    have e0 : b * 2 ^ (m + 1) ||| (2 ^ (n - k) - 1) = pos b (m + 1) := by unfold pos; rw [show n - k = m + 1 by omega]
    obtain ⟨v, v1, v2, v3⟩ := ev_covers hF hn (pos_lt hk hb) hL
    obtain ⟨w, w1, w2, w3⟩ := ev_defend (F := F) hn c1 (pos_lt hk hb) hT
    have eb1 : (2 * b + 1 + 1) * 2 ^ m = (b + 1) * 2 ^ (m + 1) := by rw [show 2 * b + 1 + 1 = 2 * (b + 1) by omega, two_mul_pow]
    have eb0 : (2 * b) * 2 ^ m = b * 2 ^ (m + 1) := two_mul_pow b m
    have eset : b * 2 ^ (m + 1) ||| 2 ^ (n - 1 - k) = (2 * b + 1) * 2 ^ m := by rw [← eb0, show n - 1 - k = m by omega, with_bit]
    have hb2 : 2 * b + 1 < 2 ^ (k + 1) := by rw [Nat.pow_succ]; omega
    have hle1 : b * 2 ^ (m + 1) ≤ (2 * b + 1) * 2 ^ m := by rw [← eb0]; exact Nat.mul_le_mul_right _ (by omega)
    have hle2 : (2 * b + 1) * 2 ^ m ≤ (b + 1) * 2 ^ (m + 1) := by rw [← eb1]; exact Nat.mul_le_mul_right _ (by omega)
    have hkk : ¬ Int32.ofNat k = Int32.ofNat n := fun q => by have := (zn_eq (by omega) (by omega)).mp q; omega
    have e14 : (14 : Int32) = Int32.ofNat 14 := rfl
    rw [show f + (m + 1) + 1 = (f + m + 1) + 1 by omega, m_X7_tryFrom, h4, if_neg (fun q => by have := (zn_lt (by omega) (by omega)).mp q; omega), if_pos hk14, ev_restFrom hn (by omega) h4, Option.bind_some, sx_or, e0, v1, Option.bind_some, w1, Option.bind_some, if_neg hkk, ev_setBit (by omega), Option.bind_some, set_sx hn (by omega), sx_or, eset, zn_s]
    rcases v2 with hv | hv
    · rw [if_pos hv]
      rcases w2 with hw | hw
      · rw [if_pos hw]
        refine ⟨r25, r26, L, rfl, hL, isPL_skip hP (by omega) fun t h1 h2 hp => ?_⟩
        obtain ⟨s1, s2⟩ := hrange t h1 h2
        have : w = 1 := w3.mpr fun q hq ⟨p, hp1, hp2⟩ => by
          obtain ⟨r, r1, r2⟩ := hp.2.1.2 q hq ⟨p, s1 p hp1, hp2⟩
          exact ⟨r, s2 r r1, r2⟩
        rw [hw] at this
        exact absurd this (by decide)
      · rw [if_neg (by rw [hw]; decide)]
        obtain ⟨z, z1, z2, z3⟩ := ev_peace (F := F) (s := (2 * b + 1) * 2 ^ m) hn (mp_lt (by omega) hb2).1 hT
        rw [z1, Option.bind_some]
        rcases z2 with hz | hz
        · rw [if_pos hz]
          have hP1 : isPL (AA n r13) n ((2 * b + 1) * 2 ^ m) (2 ^ n) L := isPL_skip hP hle2 fun t h1 h2 hp => by
            have hs := (rng_sub (b := 2 * b + 1) (m := m) h1 (by rw [eb1]; exact h2)).1
            have : z = 1 := z3.mpr (cfP_sub hp.2.1.1 hs)
            rw [hz] at this
            exact absurd this (by decide)
          obtain ⟨q25, q26, L', g1, g2, g3⟩ := ih (k + 1) (2 * b) f r25 r26 L (by omega) (by omega) hL hP1 (by rw [eb0]; exact hcf)
          rw [eb0] at g1 g3
          rw [g1, Option.bind_some]
          exact ⟨q25, q26, L', rfl, g2, g3⟩
        · rw [if_neg (by rw [hz]; decide)]
          obtain ⟨p25, p26, L1, f1, f2, f3⟩ := ih (k + 1) (2 * b + 1) f r25 r26 L (by omega) hb2 hL (by rw [eb1]; exact hP) (z3.mp hz)
          obtain ⟨q25, q26, L', g1, g2, g3⟩ := ih (k + 1) (2 * b) f p25 p26 L1 (by omega) (by omega) f2 f3 (by rw [eb0]; exact hcf)
          rw [eb0] at g1 g3
          rw [f1, Option.bind_some]
          show ∃ q25 q26 L', Option.bind (m_X7_tryFrom F r16 r19 r20 r23 r24 (f + m + 1) p25 p26 (Int32.ofNat (k + 1)) (Int32.ofNat (sx n (b * 2 ^ (m + 1))))) _ = some (q25, q26) ∧ _
          rw [g1, Option.bind_some]
          exact ⟨q25, q26, L', rfl, g2, g3⟩
    · rw [if_neg (by rw [hv]; decide)]
      refine ⟨r25, r26, L, rfl, hL, isPL_skip hP (by omega) fun t h1 h2 hp => ?_⟩
      obtain ⟨u, u1, u2⟩ := v3.mp hv
      have hu := isPL_ge hP u u1
      have := hp.2.2 u hu.1.1 hu.1.2.1 (subP_trans (hrange t h1 h2).2 u2)
      omega
theorem isPL_nil {A : Nat → Nat → Bool} {n hi : Nat} : isPL A n hi hi [] := ⟨List.Pairwise.nil, fun t => ⟨fun h => absurd h List.not_mem_nil, fun ⟨_, h1, h2⟩ => by omega⟩⟩
theorem rL_nil {n : Nat} {r25 r26 : Nat → Int32} : rL n (upd r25 1 0) r26 [] := ⟨upd_at _ _ _, by decide, fun i hi => absurd hi (Nat.not_lt_zero _)⟩
theorem try_all {F n : Nat} {r13 r16 r19 r20 r23 r24 r25 r26 : Nat → Int32} (hF : 20000 ≤ F) (hn : n ≤ 14) (hT : tabR n r13 r16 r19 r20 r23 r24) :
    ∃ q25 q26 L, m_X7_tryAll F r16 r19 r20 r23 r24 r25 r26 = some (q25, q26) ∧ rL n q25 q26 L ∧ isPL (AA n r13) n 0 (2 ^ n) L := by
  obtain ⟨q25, q26, L', g1, g2, g3⟩ := try_from hF hn hT n 0 0 (15 - n) (upd r25 1 0) r26 [] (by omega) (by decide) rL_nil (by
    rw [Nat.zero_add, Nat.one_mul]; exact isPL_nil) (fun p q hp _ => by
    rw [Nat.zero_mul, Nat.zero_testBit] at hp; cases hp)
  rw [Nat.zero_mul] at g1 g3
  rw [show 15 - n + n + 1 = 16 by omega, show sx n 0 = 0 by unfold sx; rw [Nat.zero_mul]] at g1
  refine ⟨q25, q26, L', ?_, g2, g3⟩
  unfold m_X7_tryAll m_X6_clear
  rw [Option.bind_some]
  have g1 : m_X7_tryFrom F r16 r19 r20 r23 r24 16 (upd r25 1 0) r26 0 0 = some (q25, q26) := g1
  rw [g1, Option.bind_some]

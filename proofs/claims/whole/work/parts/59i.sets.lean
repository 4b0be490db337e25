/-- a set's number in the class: its bits at the upper end of 14 -/
def sx (n s : Nat) : Nat := s * 2 ^ (14 - n)
theorem sx_bit (n s j : Nat) : (sx n s).testBit j = (decide (14 - n ≤ j) && s.testBit (j - (14 - n))) := by
  unfold sx
  rw [← Nat.shiftLeft_eq, Nat.testBit_shiftLeft]
theorem sx_up (n s p : Nat) : (sx n s).testBit (p + (14 - n)) = s.testBit p := by
  rw [sx_bit, decide_eq_true (by omega), Bool.true_and, Nat.add_sub_cancel]
theorem sx_lt {n s : Nat} (hn : n ≤ 14) (hs : s < 2 ^ n) : sx n s < 16384 := by
  unfold sx
  have h1 : s * 2 ^ (14 - n) < 2 ^ n * 2 ^ (14 - n) := Nat.mul_lt_mul_of_pos_right hs (Nat.two_pow_pos _)
  rw [← Nat.pow_add, show n + (14 - n) = 14 by omega] at h1
  exact h1
/-- who attacks whom, by the places of a set's bits -/
def AA (n : Nat) (r : Nat → Int32) (p q : Nat) : Bool := decide (p < n) && decide (q < n) && tb (r (n - 1 - q)) (n - 1 - p)
theorem AA_iff {n : Nat} {r : Nat → Int32} {p q : Nat} : AA n r p q = true ↔ p < n ∧ q < n ∧ tb (r (n - 1 - q)) (n - 1 - p) = true := by
  unfold AA
  rw [Bool.and_eq_true, Bool.and_eq_true, decide_eq_true_eq, decide_eq_true_eq, and_assoc]
theorem row18 {n : Nat} {r13 r18 r22 : Nat → Int32} (hn : n ≤ 14) (hr : rwR n n 0 r13 r18 r22) {q j : Nat} (hq : q < n) (hj : j < 32) :
    (tb (r18 (q + (14 - n))) j = true ↔ ∃ p, p < n ∧ j = p + (14 - n) ∧ AA n r13 p q = true) ∧ (tb (r22 (q + (14 - n))) j = true ↔ ∃ p, p < n ∧ j = p + (14 - n) ∧ AA n r13 q p = true) := by
  obtain ⟨g1, g2⟩ := hr (n - 1 - q) (by omega) j hj
  rw [show 13 - (n - 1 - q) = q + (14 - n) by omega] at g1 g2
  rw [g1, g2]
  constructor
  · constructor
    · rintro ⟨d, d1, d2, d3, d4, d5⟩
      refine ⟨n - 1 - d, by omega, by omega, AA_iff.mpr ⟨by omega, hq, ?_⟩⟩
      rw [show n - 1 - (n - 1 - d) = d by omega]
      exact d5
    · rintro ⟨p, p1, p2, p3⟩
      exact ⟨n - 1 - p, by omega, by omega, by omega, by omega, (AA_iff.mp p3).2.2⟩
  · constructor
    · rintro ⟨d, d1, d2, d3, d4, d5⟩
      refine ⟨n - 1 - d, by omega, by omega, AA_iff.mpr ⟨hq, by omega, ?_⟩⟩
      rw [show n - 1 - (n - 1 - d) = d by omega]
      exact d5
    · rintro ⟨p, p1, p2, p3⟩
      exact ⟨n - 1 - p, by omega, by omega, by omega, by omega, (AA_iff.mp p3).2.2⟩
theorem ev_ofs {F n s : Nat} {r13 r16 r19 r20 r23 r24 : Nat → Int32} (hn : n ≤ 14) (hs : s < 2 ^ n) (hT : tabR n r13 r16 r19 r20 r23 r24) :
    (∃ v, m_X8_of F r19 r20 (Int32.ofNat (sx n s)) = some v ∧ ∀ i, i < 32 → (tb v i = true ↔ ∃ p, p < n ∧ i = p + (14 - n) ∧ ∃ q, s.testBit q = true ∧ AA n r13 p q = true)) ∧
    (∃ v, m_X8_of F r23 r24 (Int32.ofNat (sx n s)) = some v ∧ ∀ i, i < 32 → (tb v i = true ↔ ∃ p, p < n ∧ i = p + (14 - n) ∧ ∃ q, s.testBit q = true ∧ AA n r13 q p = true)) := by
  obtain ⟨h4, r18, r22, t1, t2, t3, t4, t5⟩ := hT
  have hbits : ∀ (row : Nat → Int32) (B : Nat → Nat → Bool), (∀ q j, q < n → j < 32 → (tb (row (q + (14 - n))) j = true ↔ ∃ p, p < n ∧ j = p + (14 - n) ∧ B p q = true)) → (∀ i, i < 32 → ((∃ j, j < 14 ∧ (sx n s).testBit j = true ∧ tb (row j) i = true) ↔ ∃ p, p < n ∧ i = p + (14 - n) ∧ ∃ q, s.testBit q = true ∧ B p q = true)) := by
    intro row B hB i hi
    constructor
    · rintro ⟨j, j1, j2, j3⟩
      rw [sx_bit, Bool.and_eq_true, decide_eq_true_eq] at j2
      have hq : j - (14 - n) < n := bit_lt hs j2.2
      rw [show j = (j - (14 - n)) + (14 - n) by omega, hB _ i hq hi] at j3
      obtain ⟨p, p1, p2, p3⟩ := j3
      exact ⟨p, p1, p2, j - (14 - n), j2.2, p3⟩
    · rintro ⟨p, p1, p2, q, q1, q2⟩
      have hq : q < n := bit_lt hs q1
      exact ⟨q + (14 - n), by omega, by rw [sx_up]; exact q1, (hB q i hq hi).mpr ⟨p, p1, p2, q2⟩⟩
  obtain ⟨v, v1, v2⟩ := ev_of (F := F) (sx_lt hn hs) t2 t3
  obtain ⟨w, w1, w2⟩ := ev_of (F := F) (sx_lt hn hs) t4 t5
  refine ⟨⟨v, v1, fun i hi => (v2 i hi).trans (hbits r18 (AA n r13) (fun q j hq hj => (row18 hn t1 hq hj).1) i hi)⟩, ⟨w, w1, fun i hi => (w2 i hi).trans (hbits r22 (fun p q => AA n r13 q p) (fun q j hq hj => (row18 hn t1 hq hj).2) i hi)⟩⟩
theorem ev_peace {F n s : Nat} {r13 r16 r19 r20 r23 r24 : Nat → Int32} (hn : n ≤ 14) (hs : s < 2 ^ n) (hT : tabR n r13 r16 r19 r20 r23 r24) :
    ∃ v, m_X7_isPeaceful F r19 r20 (Int32.ofNat (sx n s)) = some v ∧ (v = 0 ∨ v = 1) ∧ (v = 1 ↔ cfP (AA n r13) s) := by
  obtain ⟨⟨v, v1, v2⟩, -⟩ := ev_ofs (F := F) hn hs hT
  unfold m_X7_isPeaceful
  rw [v1, Option.bind_some]
  have key : (v &&& Int32.ofNat (sx n s)) = 0 ↔ cfP (AA n r13) s := by
    rw [dis_0]
    constructor
    · intro h p q hp hq
      apply Bool.eq_false_iff.mpr
      intro hA
      have hpn : p < n := bit_lt hs hp
      have := h (p + (14 - n)) (by omega) ((v2 _ (by omega)).mpr ⟨p, hpn, rfl, q, hq, hA⟩)
      rw [tb_nat (by omega), sx_up, hp] at this
      cases this
    · intro h i hi hv
      obtain ⟨p, p1, p2, q, q1, q2⟩ := (v2 i hi).mp hv
      subst p2
      rw [tb_nat hi, sx_up]
      apply Bool.eq_false_iff.mpr
      intro hp
      rw [h p q hp q1] at q2
      cases q2
  by_cases c : (v &&& Int32.ofNat (sx n s)) = 0
  · rw [if_pos c]; exact ⟨1, rfl, Or.inr rfl, fun _ => key.mp c, fun _ => rfl⟩
  · rw [if_neg c]; exact ⟨0, rfl, Or.inl rfl, fun q => absurd q (by decide), fun q => absurd (key.mpr q) c⟩
theorem ev_defend {F n s d : Nat} {r13 r16 r19 r20 r23 r24 : Nat → Int32} (hn : n ≤ 14) (hs : s < 2 ^ n) (hd : d < 2 ^ n) (hT : tabR n r13 r16 r19 r20 r23 r24) :
    ∃ v, m_X7_canDefend F r19 r20 r23 r24 (Int32.ofNat (sx n s)) (Int32.ofNat (sx n d)) = some v ∧ (v = 0 ∨ v = 1) ∧ (v = 1 ↔ dfP (AA n r13) n s d) := by
  obtain ⟨⟨v, v1, v2⟩, -⟩ := ev_ofs (F := F) hn hs hT
  obtain ⟨-, ⟨w, w1, w2⟩⟩ := ev_ofs (F := F) hn hd hT
  unfold m_X7_canDefend
  rw [v1, Option.bind_some, w1, Option.bind_some]
  have key : (v &&& (w ^^^ (-1))) = 0 ↔ dfP (AA n r13) n s d := by
    rw [sub_0]
    constructor
    · rintro h q hq ⟨p, hp, hA⟩
      obtain ⟨p', p1, p2, r, r1, r2⟩ := (w2 _ (by omega)).mp (h (q + (14 - n)) (by omega) ((v2 _ (by omega)).mpr ⟨q, hq, rfl, p, hp, hA⟩))
      have e : p' = q := by omega
      subst e
      exact ⟨r, r1, r2⟩
    · intro h i hi hv
      obtain ⟨p, p1, p2, q, q1, q2⟩ := (v2 i hi).mp hv
      obtain ⟨r, r1, r2⟩ := h p p1 ⟨q, q1, q2⟩
      exact (w2 i hi).mpr ⟨p, p1, p2, r, r1, r2⟩
  by_cases c : (v &&& (w ^^^ (-1))) = 0
  · rw [if_pos c]; exact ⟨1, rfl, Or.inr rfl, fun _ => key.mp c, fun _ => rfl⟩
  · rw [if_neg c]; exact ⟨0, rfl, Or.inl rfl, fun q => absurd q (by decide), fun q => absurd (key.mpr q) c⟩
/-- a list of sets in the class -/
def rL (n : Nat) (r25 r26 : Nat → Int32) (L : List Nat) : Prop := r25 1 = Int32.ofNat L.length ∧ L.length ≤ 162 ∧ ∀ i, i < L.length → r26 i = Int32.ofNat (sx n (L.getD i 0))
theorem mem_getD {L : List Nat} {P : Nat → Prop} : (∃ t, t ∈ L ∧ P t) ↔ ∃ i, i < L.length ∧ P (L.getD i 0) := by
  constructor
  · rintro ⟨t, h1, h2⟩
    obtain ⟨i, hi, e⟩ := List.getElem_of_mem h1
    refine ⟨i, hi, ?_⟩
    rw [List.getD_eq_getElem?_getD, List.getElem?_eq_getElem hi, e]
    exact h2
  · rintro ⟨i, hi, h⟩
    rw [List.getD_eq_getElem?_getD, List.getElem?_eq_getElem hi] at h
    exact ⟨L[i], List.getElem_mem hi, h⟩
theorem sub_sx {n s t : Nat} (hn : n ≤ 14) (hs : s < 2 ^ n) : (Int32.ofNat (sx n s) &&& (Int32.ofNat (sx n t) ^^^ (-1))) = 0 ↔ subP s t := by
  rw [sub_0]
  constructor
  · intro h p hp
    have hpn : p < n := bit_lt hs hp
    have := h (p + (14 - n)) (by omega) (by rw [tb_nat (by omega), sx_up]; exact hp)
    rw [tb_nat (by omega), sx_up] at this
    exact this
  · intro h k hk hb
    rw [tb_nat hk, sx_bit, Bool.and_eq_true] at hb
    rw [tb_nat hk, sx_bit, Bool.and_eq_true]
    exact ⟨hb.1, h _ hb.2⟩
theorem zn_162 {k : Nat} (h : k < 162) : ¬ (162 : Int32) ≤ Int32.ofNat k := by
  have e : (162 : Int32) = Int32.ofNat 162 := rfl
  rw [e, zn_le (by omega) (by omega)]
  omega
theorem ev_covers {F n s : Nat} {r25 r26 : Nat → Int32} {L : List Nat} (hF : 20000 ≤ F) (hn : n ≤ 14) (hs : s < 2 ^ n) (hL : rL n r25 r26 L) : ∃ v, m_X6_covers F r25 r26 (Int32.ofNat (sx n s)) = some v ∧ (v = 0 ∨ v = 1) ∧ (v = 1 ↔ ∃ t, t ∈ L ∧ subP s t) := by
  obtain ⟨l1, l2, l3⟩ := hL
  have key : ∀ d k f, k + d = L.length → ∃ v, m_X6_covers_L2 F r25 r26 (Int32.ofNat (sx n s)) (f + d + 1) (Int32.ofNat k) = some v ∧ (v = 0 ∨ v = 1) ∧ (v = 1 ↔ ∃ i, k ≤ i ∧ i < L.length ∧ subP s (L.getD i 0)) := by
    intro d
    induction d with
    | zero =>
      intro k f hk
      refine ⟨0, ?_, Or.inl rfl, fun q => absurd q (by decide), ?_⟩
      · rw [m_X6_covers_L2, l1, if_pos ((zn_le (by omega) (by omega)).mpr (by omega))]
      · rintro ⟨i, h1, h2, -⟩; omega
    | succ d ih =>
      intro k f hk
      rw [show f + (d + 1) + 1 = (f + d + 1) + 1 by omega, m_X6_covers_L2, l1, if_neg (fun w => by have := (zn_le (by omega) (by omega)).mp w; omega), if_neg (zn_162 (by omega)), if_pos (zn_ok (by omega) (by omega)), zn_nat (by omega), l3 k (by omega), zn_s]
      by_cases c : (Int32.ofNat (sx n s) &&& (Int32.ofNat (sx n (L.getD k 0)) ^^^ (-1))) = 0
      · rw [if_pos c]
        exact ⟨1, rfl, Or.inr rfl, fun _ => ⟨k, Nat.le_refl _, by omega, (sub_sx hn hs).mp c⟩, fun _ => rfl⟩
      · rw [if_neg c]
        obtain ⟨v, v1, v2, v3⟩ := ih (k + 1) f (by omega)
        refine ⟨v, v1, v2, v3.trans ⟨?_, ?_⟩⟩
        · rintro ⟨i, h1, h2, h3⟩; exact ⟨i, by omega, h2, h3⟩
        · rintro ⟨i, h1, h2, h3⟩
          by_cases e : i = k
          · subst e; exact absurd ((sub_sx hn hs).mpr h3) c
          · exact ⟨i, by omega, h2, h3⟩
  obtain ⟨v, v1, v2, v3⟩ := key L.length 0 (F - L.length - 1) (by omega)
  rw [show F - L.length - 1 + L.length + 1 = F by omega] at v1
  refine ⟨v, v1, v2, v3.trans ?_⟩
  rw [mem_getD (P := subP s)]
  constructor
  · rintro ⟨i, -, h⟩; exact ⟨i, h⟩
  · rintro ⟨i, h⟩; exact ⟨i, Nat.zero_le _, h⟩
theorem ev_keep {F n s : Nat} {r25 r26 : Nat → Int32} {L : List Nat} (hL : rL n r25 r26 L) (hlen : L.length < 162) : ∃ q25 q26, m_X6_keep F r25 r26 (Int32.ofNat (sx n s)) = some (q25, q26) ∧ rL n q25 q26 (L ++ [s]) := by
  obtain ⟨l1, l2, l3⟩ := hL
  refine ⟨upd r25 1 (Int32.ofNat (L.length + 1)), upd r26 L.length (Int32.ofNat (sx n s)), ?_, ?_, ?_, ?_⟩
  · unfold m_X6_keep
    rw [l1, if_neg (zn_162 hlen), if_pos (zn_ok hlen (by omega)), zn_nat (by omega), zn_s]
  · rw [upd_at, List.length_append]; rfl
  · rw [List.length_append]; exact hlen
  · intro i hi
    rw [List.length_append, List.length_singleton] at hi
    by_cases e : i = L.length
    · subst e
      rw [upd_at, List.getD_eq_getElem?_getD, List.getElem?_append_right (Nat.le_refl _), Nat.sub_self]
      rfl
    · rw [upd_ne e, l3 i (by omega), List.getD_eq_getElem?_getD, List.getD_eq_getElem?_getD, List.getElem?_append_left (by omega)]

/-! sets as numbers; unions of rows -/
theorem zsh_pow {p : Nat} (h : p < 15) : (1 : Int32) <<< (Int32.ofNat p &&& 31) = Int32.ofNat (2 ^ p) := by
  have : ∀ p, p < 15 → (1 : Int32) <<< (Int32.ofNat p &&& 31) = Int32.ofNat (2 ^ p) := by decide
  exact this p h
theorem tb_127 {k : Nat} (h : k < 32) : tb 127 k = decide (k < 7) := by
  have : ∀ k, k < 32 → tb 127 k = decide (k < 7) := by decide
  exact this k h
theorem low7 {x : Nat} : Int32.ofNat x &&& 127 = Int32.ofNat (x % 128) := tb_ext fun k hk => by
  rw [tb_and, tb_nat hk, tb_nat hk, tb_127 hk, show 128 = 2 ^ 7 from rfl, Nat.testBit_mod_two_pow, Bool.and_comm]
theorem high7 {x : Nat} (h : x < 16384) : (Int32.ofNat x >>> ((7 : Int32) &&& 31)) &&& 127 = Int32.ofNat (x / 128) := tb_ext fun k hk => by
  have e7 : (7 : Int32) = Int32.ofNat 7 := rfl
  rw [tb_and, tb_nat hk, tb_127 hk, show x / 128 = x / 2 ^ 7 from rfl, Nat.testBit_div_two_pow]
  by_cases h7 : k < 7
  · rw [e7, tb_shr _ (by omega), tb_nat (by omega), decide_eq_true h7, Bool.and_true, Nat.add_comm]
  · rw [decide_eq_false h7, Bool.and_false]
    have h14 : x < 2 ^ 14 := h
    have hle : 2 ^ 14 ≤ 2 ^ (k + 7) := Nat.pow_le_pow_right (show 0 < 2 by decide) (by omega)
    exact (Nat.testBit_lt_two_pow (Nat.lt_of_lt_of_le h14 hle)).symm
def unR (rows tab : Nat → Int32) (b s : Nat) : Prop := ∀ i, i < 32 → (tb (tab s) i = true ↔ ∃ j, j < 7 ∧ s.testBit j = true ∧ tb (rows (j + b)) i = true)
theorem unR_0 {rows tab : Nat → Int32} {b : Nat} (h : tab 0 = 0) : unR rows tab b 0 := fun i hi => by
  rw [h, tb_0]
  constructor
  · intro q; cases q
  · rintro ⟨j, -, q, -⟩
    rw [Nat.zero_testBit] at q
    cases q
theorem unR_add {rows tab tab' : Nat → Int32} {b p s : Nat} (hp : p < 7) (hs : s < 2 ^ p) (h : unR rows tab b s) (he : tab' (2 ^ p + s) = tab s ||| rows (p + b)) : unR rows tab' b (2 ^ p + s) := fun i hi => by
  rw [he, tb_or, Bool.or_eq_true, h i hi]
  have hsp : s.testBit p = false := Nat.testBit_lt_two_pow hs
  have hb : ∀ j, (2 ^ p + s).testBit j = (s.testBit j || decide (j = p)) := fun j => by
    rcases Nat.lt_trichotomy j p with h1 | h1 | h1
    · rw [Nat.testBit_two_pow_add_gt h1, decide_eq_false (by omega), Bool.or_false]
    · subst h1
      rw [Nat.testBit_two_pow_add_eq, hsp, decide_eq_true rfl]
      rfl
    · have h2 : 2 ^ (p + 1) ≤ 2 ^ j := Nat.pow_le_pow_right (by decide) h1
      have h3 : 2 ^ (p + 1) = 2 ^ p + 2 ^ p := by rw [Nat.pow_succ]; omega
      rw [Nat.testBit_lt_two_pow (by omega), Nat.testBit_lt_two_pow (by omega), decide_eq_false (by omega)]
      rfl
  constructor
  · rintro (⟨j, h1, h2, h3⟩ | q)
    · exact ⟨j, h1, by rw [hb, h2]; rfl, h3⟩
    · exact ⟨p, hp, by rw [hb, decide_eq_true rfl, Bool.or_true], q⟩
  · rintro ⟨j, h1, h2, h3⟩
    rw [hb, Bool.or_eq_true, decide_eq_true_eq] at h2
    rcases h2 with h2 | h2
    · exact Or.inl ⟨j, h1, h2, h3⟩
    · subst h2; exact Or.inr h3
theorem pow_7 {p : Nat} (h : p < 7) : 2 ^ p + 2 ^ p ≤ 128 ∧ 1 ≤ 2 ^ p := by
  have : ∀ p, p < 7 → 2 ^ p + 2 ^ p ≤ 128 ∧ 1 ≤ 2 ^ p := by decide
  exact this p h
theorem fill_in {F p : Nat} {r18 q19 q20 : Nat → Int32} (hF : 20000 ≤ F) (hp : p < 7) (h1 : ∀ s, s < 2 ^ p → unR r18 q19 0 s) (h2 : ∀ s, s < 2 ^ p → unR r18 q20 7 s) (h3 : q19 0 = 0) (h4 : q20 0 = 0) :
    ∃ z p19 p20, m_X8_fillHalves_L14 F r18 (Int32.ofNat (2 ^ p)) (Int32.ofNat p) F 0 q19 q20 = some (z, p19, p20) ∧ (∀ s, s < 2 ^ p + 2 ^ p → unR r18 p19 0 s) ∧ (∀ s, s < 2 ^ p + 2 ^ p → unR r18 p20 7 s) ∧ p19 0 = 0 ∧ p20 0 = 0 := by
  have hpw := pow_7 hp
  have key := run1F (F := F) (K := 2 ^ p) (LC := fun f x (t : (Nat → Int32) × (Nat → Int32)) => m_X8_fillHalves_L14 F r18 (Int32.ofNat (2 ^ p)) (Int32.ofNat p) f x t.1 t.2) (P := fun m t => (∀ s, s < 2 ^ p + m → unR r18 t.1 0 s) ∧ (∀ s, s < 2 ^ p + m → unR r18 t.2 7 s) ∧ t.1 0 = 0 ∧ t.2 0 = 0) (gC := fun t => (Int32.ofNat (2 ^ p), t)) (by omega) ?_ ?_ (q19, q20) ⟨h1, h2, h3, h4⟩
  · obtain ⟨t, ⟨t1, t2, t3, t4⟩, t5⟩ := key
    exact ⟨_, t.1, t.2, t5, t1, t2, t3, t4⟩
  · rintro m hm t ⟨t1, t2, t3, t4⟩
    have gm : ¬ (Int32.ofNat m < 0 ∨ 128 ≤ (Int32.ofNat m).toNatClampNeg) := zn_ok (by omega) (by omega)
    have gp : ¬ (Int32.ofNat p < 0 ∨ 14 ≤ (Int32.ofNat p).toNatClampNeg) := zn_ok (by omega) (by omega)
    have e1 : Int32.ofNat (2 ^ p) + Int32.ofNat m = Int32.ofNat (2 ^ p + m) := zn_add _ _
    have e2 : Int32.ofNat p + 7 = Int32.ofNat (p + 7) := zn_add p 7
    have g1 : ¬ (Int32.ofNat (2 ^ p + m) < 0 ∨ 128 ≤ (Int32.ofNat (2 ^ p + m)).toNatClampNeg) := zn_ok (by omega) (by omega)
    have g2 : ¬ (Int32.ofNat (p + 7) < 0 ∨ 14 ≤ (Int32.ofNat (p + 7)).toNatClampNeg) := zn_ok (by omega) (by omega)
    refine ⟨(upd t.1 (2 ^ p + m) (t.1 m ||| r18 p), upd t.2 (2 ^ p + m) (t.2 m ||| r18 (p + 7))), ⟨fun s hs => ?_, fun s hs => ?_, ?_, ?_⟩, fun f => ?_⟩
    · by_cases e : s = 2 ^ p + m
      · subst e
        exact unR_add hp hm (t1 m (by omega)) (upd_at _ _ _)
      · intro i hi
        show tb (upd t.1 (2 ^ p + m) (t.1 m ||| r18 p) s) i = true ↔ _
        rw [upd_ne e]
        exact t1 s (by omega) i hi
    · by_cases e : s = 2 ^ p + m
      · subst e
        exact unR_add hp hm (t2 m (by omega)) (upd_at _ _ _)
      · intro i hi
        show tb (upd t.2 (2 ^ p + m) (t.2 m ||| r18 (p + 7)) s) i = true ↔ _
        rw [upd_ne e]
        exact t2 s (by omega) i hi
    · exact (upd_ne (by omega)).trans t3
    · exact (upd_ne (by omega)).trans t4
    · show m_X8_fillHalves_L14 F r18 (Int32.ofNat (2 ^ p)) (Int32.ofNat p) (f + 1) (Int32.ofNat m) t.1 t.2 = _
      rw [m_X8_fillHalves_L14, if_neg (fun w => by have := (zn_le (by omega) (by omega)).mp w; omega), e1, e2]
      simp only [if_pos gm, if_pos gp, if_pos g1, if_pos g2]
      rw [zn_nat (show 2 ^ p + m < 2147483648 by omega), zn_nat (show m < 2147483648 by omega), zn_nat (show p < 2147483648 by omega), zn_nat (show p + 7 < 2147483648 by omega), zn_s]
  · intro f t ht
    show m_X8_fillHalves_L14 F r18 (Int32.ofNat (2 ^ p)) (Int32.ofNat p) (f + 1) (Int32.ofNat (2 ^ p)) t.1 t.2 = _
    rw [m_X8_fillHalves_L14, if_pos (Int32.le_refl _)]
theorem fill_all {F : Nat} {r18 q19 q20 : Nat → Int32} (hF : 20000 ≤ F) (h3 : q19 0 = 0) (h4 : q20 0 = 0) :
    ∃ p19 p20, m_X8_fillHalves F r18 q19 q20 = some (p19, p20) ∧ (∀ s, s < 128 → unR r18 p19 0 s) ∧ (∀ s, s < 128 → unR r18 p20 7 s) ∧ p19 0 = 0 ∧ p20 0 = 0 := by
  have key := run1F (F := F) (K := 7) (LC := fun f x (t : (Nat → Int32) × (Nat → Int32)) => m_X8_fillHalves_L2 F r18 f x t.1 t.2) (P := fun p t => (∀ s, s < 2 ^ p → unR r18 t.1 0 s) ∧ (∀ s, s < 2 ^ p → unR r18 t.2 7 s) ∧ t.1 0 = 0 ∧ t.2 0 = 0) (gC := fun t => t) (by omega) ?_ ?_ (q19, q20) ⟨fun s hs => by
      have : s = 0 := by simp at hs; exact hs
      subst this; exact unR_0 h3, fun s hs => by
      have : s = 0 := by simp at hs; exact hs
      subst this; exact unR_0 h4, h3, h4⟩
  · obtain ⟨t, ⟨t1, t2, t3, t4⟩, t5⟩ := key
    exact ⟨t.1, t.2, t5, t1, t2, t3, t4⟩
  · rintro p hp t ⟨t1, t2, t3, t4⟩
    obtain ⟨z, p19, p20, g1, g2, g3, g4, g5⟩ := fill_in (F := F) hF hp t1 t2 t3 t4
    refine ⟨(p19, p20), ⟨fun s hs => g2 s (by rw [Nat.pow_succ] at hs; omega), fun s hs => g3 s (by rw [Nat.pow_succ] at hs; omega), g4, g5⟩, fun f => ?_⟩
    show m_X8_fillHalves_L2 F r18 (f + 1) (Int32.ofNat p) t.1 t.2 = _
    have h7 : ¬ (7 : Int32) ≤ Int32.ofNat p := by
      have : ∀ p, p < 7 → ¬ (7 : Int32) ≤ Int32.ofNat p := by decide
      exact this p hp
    rw [m_X8_fillHalves_L2, if_neg h7, zsh_pow (by omega), g1, Option.bind_some, zn_s]
  · intro f t ht
    show m_X8_fillHalves_L2 F r18 (f + 1) (Int32.ofNat 7) t.1 t.2 = _
    rw [m_X8_fillHalves_L2, if_pos (by decide)]
theorem ev_of {F x : Nat} {r18 q19 q20 : Nat → Int32} (hx : x < 16384) (h1 : ∀ s, s < 128 → unR r18 q19 0 s) (h2 : ∀ s, s < 128 → unR r18 q20 7 s) : ∃ v, m_X8_of F q19 q20 (Int32.ofNat x) = some v ∧ ∀ i, i < 32 → (tb v i = true ↔ ∃ j, j < 14 ∧ x.testBit j = true ∧ tb (r18 j) i = true) := by
  have hm : x % 128 < 128 := Nat.mod_lt _ (by decide)
  have hd : x / 128 < 128 := by omega
  refine ⟨q19 (x % 128) ||| q20 (x / 128), ?_, fun i hi => ?_⟩
  · unfold m_X8_of
    rw [low7, high7 hx, if_pos (zn_ok hm (by omega)), if_pos (zn_ok hd (by omega)), zn_nat (by omega), zn_nat (by omega)]
  · rw [tb_or, Bool.or_eq_true, h1 _ hm i hi, h2 _ hd i hi]
    have b1 : ∀ j, (x % 128).testBit j = (decide (j < 7) && x.testBit j) := fun j => Nat.testBit_mod_two_pow x 7 j
    have b2 : ∀ j, (x / 128).testBit j = x.testBit (j + 7) := fun j => by
      show (x / 2 ^ 7).testBit j = _
      exact Nat.testBit_div_two_pow x j
    constructor
    · rintro (⟨j, j1, j2, j3⟩ | ⟨j, j1, j2, j3⟩)
      · rw [b1, Bool.and_eq_true] at j2
        exact ⟨j, by omega, j2.2, j3⟩
      · rw [b2] at j2
        exact ⟨j + 7, by omega, j2, j3⟩
    · rintro ⟨j, j1, j2, j3⟩
      by_cases h : j < 7
      · exact Or.inl ⟨j, h, by rw [b1, j2, decide_eq_true h]; rfl, j3⟩
      · refine Or.inr ⟨j - 7, by omega, ?_, ?_⟩
        · rw [b2, Nat.sub_add_cancel (by omega)]; exact j2
        · rw [Nat.sub_add_cancel (by omega)]; exact j3

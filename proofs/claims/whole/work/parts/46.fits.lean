/-! whether three parts make an argument: class and model -/
def mx3 (x y z : Int32) : Int32 := if x < (if y < z then z else y) then (if y < z then z else y) else x
theorem ev_fits {F j : Nat} {r9 r11 : Nat → Int32} {a b c : Option Nat} {dep : Int32} (hj : j < 21) (ha : pok a 24) (hb : pok b 24) (hc : pok c 24) : ∃ v, m_X0_fits F r9 r11 (lit j) (pv a) (pv b) (pv c) dep = some v ∧ (v = 0 ∨ v = 1) ∧ (v = 1 ↔ mx3 (pg a r9) (pg b r9) (pg c r9) + 1 = dep ∧ tb (pg a r11) j = false ∧ tb (pg b r11) j = false ∧ tb (pg c r11) j = false) := by
  unfold m_X0_fits
  rw [ev_depthP ha, ev_depthP hb, ev_depthP hc, ev_reachedP ha, ev_reachedP hb, ev_reachedP hc, ev_literalBit hj]
  simp only [Option.bind_some]
  have hbit : (((pg a r11 ||| pg b r11) ||| pg c r11) &&& ((1 : Int32) <<< (Int32.ofNat j &&& 31))) = 0 ↔ tb (pg a r11) j = false ∧ tb (pg b r11) j = false ∧ tb (pg c r11) j = false := by
    rw [dis_0]
    constructor
    · intro h
      cases h1 : tb ((pg a r11 ||| pg b r11) ||| pg c r11) j with
      | true =>
        have := h j (by omega) h1
        rw [tb_bit (by omega) (by omega)] at this
        simp at this
      | false =>
        rw [tb_or, tb_or, Bool.or_eq_false_iff, Bool.or_eq_false_iff] at h1
        exact ⟨h1.1.1, h1.1.2, h1.2⟩
    · rintro ⟨h1, h2, h3⟩ k hk hx
      rw [tb_bit (by omega) hk]
      by_cases e : k = j
      · subst e
        rw [tb_or, tb_or, h1, h2, h3] at hx
        cases hx
      · simp [e]
  by_cases h1 : mx3 (pg a r9) (pg b r9) (pg c r9) + 1 = dep
  · rw [if_pos (show (if pg a r9 < (if pg b r9 < pg c r9 then pg c r9 else pg b r9) then (if pg b r9 < pg c r9 then pg c r9 else pg b r9) else pg a r9) + 1 = dep from h1)]
    by_cases h2 : (((pg a r11 ||| pg b r11) ||| pg c r11) &&& ((1 : Int32) <<< (Int32.ofNat j &&& 31))) = 0
    · rw [if_pos h2]
      exact ⟨1, rfl, Or.inr rfl, fun _ => ⟨h1, hbit.mp h2⟩, fun _ => rfl⟩
    · rw [if_neg h2]
      exact ⟨0, rfl, Or.inl rfl, fun q => absurd q (by decide), fun q => absurd (hbit.mpr q.2) h2⟩
  · rw [if_neg (show ¬ (if pg a r9 < (if pg b r9 < pg c r9 then pg c r9 else pg b r9) then (if pg b r9 < pg c r9 then pg c r9 else pg b r9) else pg a r9) + 1 = dep from h1)]
    exact ⟨0, rfl, Or.inl rfl, fun q => absurd q (by decide), fun q => absurd q.1 h1⟩
theorem ev_isBuiltOf_L {F n : Nat} {r29 r36 : Nat → Int32} {set head : Int32} (h8 : r29 8 = Int32.ofNat n) (hn : n ≤ 24) : ∀ (d k fuel : Nat) (acc : Int32), k + d = n → d < fuel → (acc = 0 ∨ acc = 1) → ∃ v, m_X10_isBuiltOf_L5 F r29 r36 set head fuel (Int32.ofNat k) acc = some v ∧ (v = 0 ∨ v = 1) ∧ (v = 1 ↔ acc = 1 ∨ ∃ j, k ≤ j ∧ j < n ∧ tb set j = true ∧ r36 j = head) := by
  intro d
  induction d with
  | zero =>
    intro k fuel acc hk hf hacc
    obtain ⟨fuel, rfl⟩ : ∃ f, fuel = f + 1 := ⟨fuel - 1, by omega⟩
    have hk : k = n := hk
    subst hk
    rw [m_X10_isBuiltOf_L5, if_pos (by rw [h8]; exact (zn_le (by omega) (by omega)).mpr (Nat.le_refl _)), if_pos hacc]
    refine ⟨acc, rfl, hacc, fun q => Or.inl q, ?_⟩
    rintro (q | ⟨j, h1, h2, -⟩)
    · exact q
    · omega
  | succ d ih =>
    intro k fuel acc hk hf hacc
    obtain ⟨fuel, rfl⟩ : ∃ f, fuel = f + 1 := ⟨fuel - 1, by omega⟩
    rw [m_X10_isBuiltOf_L5, if_neg (by rw [h8, zn_le (by omega) (by omega)]; omega)]
    have e1 : Int32.ofNat k + 1 = Int32.ofNat (k + 1) := zn_add k 1
    rcases hacc with rfl | rfl
    · rw [if_pos rfl]
      cases hb : tb set k with
      | true =>
        rw [if_pos ((bit_1 _ (by omega)).mpr hb), if_pos (zn_ok (by omega) (by omega)), zn_nat (by omega)]
        by_cases h9 : r36 k = head
        · rw [if_pos h9]
          simp only [Option.bind_some]
          rw [e1]
          obtain ⟨v, v1, v2, v3⟩ := ih (k + 1) fuel 1 (by omega) (by omega) (Or.inr rfl)
          refine ⟨v, v1, v2, fun _ => Or.inr ⟨k, Nat.le_refl _, by omega, hb, h9⟩, fun _ => v3.mpr (Or.inl rfl)⟩
        · rw [if_neg h9]
          simp only [Option.bind_some]
          rw [e1]
          obtain ⟨v, v1, v2, v3⟩ := ih (k + 1) fuel 0 (by omega) (by omega) (Or.inl rfl)
          refine ⟨v, v1, v2, fun q => ?_, fun q => v3.mpr ?_⟩
          · rcases v3.mp q with q | ⟨j, h1, h2, h3, h4⟩
            · exact Or.inl q
            · exact Or.inr ⟨j, by omega, h2, h3, h4⟩
          · rcases q with q | ⟨j, h1, h2, h3, h4⟩
            · exact Or.inl q
            · refine Or.inr ⟨j, ?_, h2, h3, h4⟩
              by_cases e : j = k
              · subst e; exact absurd h4 h9
              · omega
      | false =>
        rw [if_neg (fun q => by rw [(bit_1 _ (by omega)).mp q] at hb; cases hb)]
        simp only [Option.bind_some]
        rw [e1]
        obtain ⟨v, v1, v2, v3⟩ := ih (k + 1) fuel 0 (by omega) (by omega) (Or.inl rfl)
        refine ⟨v, v1, v2, fun q => ?_, fun q => v3.mpr ?_⟩
        · rcases v3.mp q with q | ⟨j, h1, h2, h3, h4⟩
          · exact Or.inl q
          · exact Or.inr ⟨j, by omega, h2, h3, h4⟩
        · rcases q with q | ⟨j, h1, h2, h3, h4⟩
          · exact Or.inl q
          · refine Or.inr ⟨j, ?_, h2, h3, h4⟩
            by_cases e : j = k
            · subst e; rw [hb] at h3; cases h3
            · omega
    · rw [if_neg (by decide)]
      simp only [Option.bind_some]
      rw [e1]
      obtain ⟨v, v1, v2, v3⟩ := ih (k + 1) fuel 1 (by omega) (by omega) (Or.inr rfl)
      exact ⟨v, v1, v2, fun _ => Or.inl (by trivial), fun _ => v3.mpr (Or.inl rfl)⟩
theorem ev_isBuiltOf {F n : Nat} {r29 r36 : Nat → Int32} {set head : Int32} (hF : 20000 ≤ F) (h8 : r29 8 = Int32.ofNat n) (hn : n ≤ 24) : ∃ v, m_X10_isBuiltOf F r29 r36 set head = some v ∧ (v = 0 ∨ v = 1) ∧ (v = 1 ↔ ∃ j, j < n ∧ tb set j = true ∧ r36 j = head) := by
  unfold m_X10_isBuiltOf
  obtain ⟨v, v1, v2, v3⟩ := ev_isBuiltOf_L (F := F) (r36 := r36) (set := set) (head := head) h8 hn n 0 F 0 (by omega) (by omega) (Or.inl rfl)
  refine ⟨v, v1, v2, fun q => ?_, fun ⟨j, h1, h2, h3⟩ => v3.mpr (Or.inr ⟨j, Nat.zero_le _, h1, h2, h3⟩)⟩
  rcases v3.mp q with q | ⟨j, h1, h2, h3, h4⟩
  · exact absurd q (by decide)
  · exact ⟨j, h2, h3, h4⟩

theorem tb_pg {o : Option Nat} {r : Nat → Int32} {j : Nat} : tb (pg o r) j = true ↔ ∃ q, o = some q ∧ tb (r q) j = true := by
  cases o with
  | none =>
    constructor
    · intro h
      have h : tb 0 j = true := h
      rw [tb_0] at h; cases h
    · rintro ⟨q, hq, -⟩; cases hq
  | some q => exact ⟨fun h => ⟨q, rfl, h⟩, fun ⟨q', h1, h2⟩ => by cases h1; exact h2⟩
theorem reachB_add {ρn n j : Nat} {d31 d36 d37 d38 d39 d40 c11 : Nat → Int32} {a b c : Option Nat} (hV : validB ρn n d31 d36 d37 d38 d39 d40) (hR : reachB n d36 d40 c11) (hn : n < 24) (hj : j < 21) (ha : pok a n) (hb : pok b n) (hc : pok c n) :
    reachB (n + 1) (upd d36 n (lit j)) (upd d40 n ((pw a d40 ||| pw b d40) ||| pw c d40)) (upd c11 n (((((1 : Int32) <<< (Int32.ofNat j &&& 31)) ||| pg a c11) ||| pg b c11) ||| pg c c11)) := by
  intro i hi j' hj'
  by_cases e : i = n
  · subst e
    rw [upd_at, upd_at, tb_or, tb_or, tb_or, Bool.or_eq_true, Bool.or_eq_true, Bool.or_eq_true, tb_bit (by omega) (by omega), decide_eq_true_eq, tb_pg, tb_pg, tb_pg]
    have hpart : ∀ o, pok o i → (o = a ∨ o = b ∨ o = c) → (∃ q, o = some q ∧ tb (c11 q) j' = true) → ∃ k, k ≤ i ∧ (k = i ∨ tb ((pw a d40 ||| pw b d40) ||| pw c d40) k = true) ∧ upd d36 i (lit j) k = lit j' := by
      rintro o ho ho2 ⟨q, hq, h9⟩
      have hqi := ho q hq
      obtain ⟨k, k1, k2, k3⟩ := (hR q hqi j' hj').mp h9
      exact ⟨k, by omega, Or.inr ((tb_new (pok_mono ha (by omega)) (pok_mono hb (by omega)) (pok_mono hc (by omega)) (by omega)).mpr ⟨o, ho2, q, hq, k2⟩), by rw [upd_ne (by omega)]; exact k3⟩
    constructor
    · rintro (((h | h) | h) | h)
      · exact ⟨i, Nat.le_refl _, Or.inl rfl, by rw [upd_at, h]⟩
      · exact hpart a ha (Or.inl rfl) h
      · exact hpart b hb (Or.inr (Or.inl rfl)) h
      · exact hpart c hc (Or.inr (Or.inr rfl)) h
    · rintro ⟨k, k1, k2, k3⟩
      by_cases ek : k = i
      · subst ek
        rw [upd_at] at k3
        exact Or.inl (Or.inl (Or.inl ((lit_inj hj hj').mp k3).symm))
      · rw [upd_ne ek] at k3
        rcases k2 with k2 | k2
        · exact absurd k2 ek
        · obtain ⟨o, ho, q, hq, h9⟩ := (tb_new (pok_mono ha (by omega)) (pok_mono hb (by omega)) (pok_mono hc (by omega)) (by omega)).mp k2
          have hqi : q < i := by
            rcases ho with rfl | rfl | rfl
            · exact ha q hq
            · exact hb q hq
            · exact hc q hq
          have hkq : k ≤ q := by
            rcases h9 with rfl | h9
            · exact Nat.le_refl _
            · exact Nat.le_of_lt ((hV q hqi).2.2.2.1 k (by omega) h9)
          have h8 := (hR q hqi j' hj').mpr ⟨k, hkq, h9, k3⟩
          rcases ho with rfl | rfl | rfl
          · exact Or.inl (Or.inl (Or.inr ⟨q, hq, h8⟩))
          · exact Or.inl (Or.inr ⟨q, hq, h8⟩)
          · exact Or.inr ⟨q, hq, h8⟩
  · rw [upd_ne e, upd_ne e, hR i (by omega) j' hj']
    constructor
    · rintro ⟨k, k1, k2, k3⟩
      exact ⟨k, k1, k2, by rw [upd_ne (by omega)]; exact k3⟩
    · rintro ⟨k, k1, k2, k3⟩
      rw [upd_ne (by omega)] at k3
      exact ⟨k, k1, k2, k3⟩

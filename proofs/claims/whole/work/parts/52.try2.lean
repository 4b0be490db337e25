/-- how deep a part is, and its chain of rules -/
theorem part_dep {ρn n : Nat} {d31 d36 d37 d38 d39 d40 : Nat → Int32} {o : Option Nat} (hV : validB ρn n d31 d36 d37 d38 d39 d40) (hρ : ρn ≤ 12) (ho : pok o n) : ∃ l : List Nat, l.Nodup ∧ l.length ≤ 12 ∧ pg o d39 = Int32.ofNat l.length ∧ ∀ ρ ∈ l, ρ < ρn ∧ ∃ q, o = some q ∧ ∃ k, k ≤ q ∧ (k = q ∨ tb (d40 q) k = true) ∧ d37 k = Int32.ofNat ρ ∧ d36 k = d31 ρ := by
  cases o with
  | none => exact ⟨[], List.nodup_nil, by simp, rfl, fun ρ h => by cases h⟩
  | some q =>
    obtain ⟨-, -, -, -, l, l1, l2, l3⟩ := hV q (ho q rfl)
    refine ⟨l, l1, Nat.le_trans (nodup_len ρn l l1 (fun x hx => (l3 x hx).1)) hρ, l2, fun ρ h => ?_⟩
    obtain ⟨h1, k, k1, k2, k3, k4⟩ := l3 ρ h
    exact ⟨h1, q, rfl, k, k1, k2, k3, k4⟩
theorem pg_eq {o : Option Nat} {n : Nat} {r r' : Nat → Int32} (ho : pok o n) (h : ∀ i, i < n → r i = r' i) : pg o r = pg o r' := by
  cases o with
  | none => rfl
  | some q => exact h q (ho q rfl)
/-- the head is reached: in the class's bits and in the model's -/
theorem reach_iff {ρn n j : Nat} {d31 d36 d37 d38 d39 d40 c11 : Nat → Int32} {a b c : Option Nat} (hV : validB ρn n d31 d36 d37 d38 d39 d40) (hR : reachB n d36 d40 c11) (hn : n ≤ 24) (hj : j < 21) (ha : pok a n) (hb : pok b n) (hc : pok c n) : (∃ k, k < n ∧ tb ((pw a d40 ||| pw b d40) ||| pw c d40) k = true ∧ d36 k = lit j) ↔ ¬ (tb (pg a c11) j = false ∧ tb (pg b c11) j = false ∧ tb (pg c c11) j = false) := by
  have key : ∀ o, pok o n → (tb (pg o c11) j = true ↔ ∃ q, o = some q ∧ ∃ k, k ≤ q ∧ (k = q ∨ tb (d40 q) k = true) ∧ d36 k = lit j) := fun o ho => by
    rw [tb_pg]
    constructor
    · rintro ⟨q, hq, h⟩; exact ⟨q, hq, (hR q (ho q hq) j hj).mp h⟩
    · rintro ⟨q, hq, h⟩; exact ⟨q, hq, (hR q (ho q hq) j hj).mpr h⟩
  constructor
  · rintro ⟨k, k1, k2, k3⟩ ⟨f1, f2, f3⟩
    obtain ⟨o, ho, q, hq, h9⟩ := (tb_new (pok_mono ha hn) (pok_mono hb hn) (pok_mono hc hn) (by omega)).mp k2
    have hon : pok o n := by
      rcases ho with rfl | rfl | rfl
      · exact ha
      · exact hb
      · exact hc
    have hqn := hon q hq
    have hkq : k ≤ q := by
      rcases h9 with rfl | h9
      · exact Nat.le_refl _
      · exact Nat.le_of_lt ((hV q hqn).2.2.2.1 k (by omega) h9)
    have h8 := (key o hon).mpr ⟨q, hq, k, hkq, h9, k3⟩
    rcases ho with rfl | rfl | rfl
    · rw [h8] at f1; cases f1
    · rw [h8] at f2; cases f2
    · rw [h8] at f3; cases f3
  · intro h
    have hsome : ∃ o, (o = a ∨ o = b ∨ o = c) ∧ pok o n ∧ tb (pg o c11) j = true := by
      cases e1 : tb (pg a c11) j with
      | true => exact ⟨a, Or.inl rfl, ha, e1⟩
      | false =>
        cases e2 : tb (pg b c11) j with
        | true => exact ⟨b, Or.inr (Or.inl rfl), hb, e2⟩
        | false =>
          cases e3 : tb (pg c c11) j with
          | true => exact ⟨c, Or.inr (Or.inr rfl), hc, e3⟩
          | false => exact absurd ⟨e1, e2, e3⟩ h
    obtain ⟨o, ho, hon, h9⟩ := hsome
    obtain ⟨q, hq, k, k1, k2, k3⟩ := (key o hon).mp h9
    have hqn := hon q hq
    exact ⟨k, by omega, (tb_new (pok_mono ha hn) (pok_mono hb hn) (pok_mono hc hn) (by omega)).mpr ⟨o, ho, q, hq, k2⟩, k3⟩

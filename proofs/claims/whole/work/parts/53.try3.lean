/-- one try: both say no, or both say yes (and then the chain of rules is one longer, so the depth is at most 12) -/
theorem try_cases {F ρn ρ n j dp : Nat} {d29 d31 d36 d37 d38 d39 d40 c9 c11 : Nat → Int32} {a b c : Option Nat} (hF : 20000 ≤ F) (h8 : d29 8 = Int32.ofNat n) (hc9 : ∀ i, i < n → c9 i = d39 i) (hV : validB ρn n d31 d36 d37 d38 d39 d40) (hR : reachB n d36 d40 c11) (hn : n ≤ 24) (hρn : ρn ≤ 12) (hρ : ρ < ρn) (hj : j < 21) (hh : d31 ρ = lit j) (ha : pok a n) (hb : pok b n) (hc : pok c n) (hd1 : 1 ≤ dp) (hd2 : dp < 100) :
    (m_X0_fits F c9 c11 (lit j) (pv a) (pv b) (pv c) (Int32.ofNat dp) = some 0 ∧ (¬ mxm (pg a d39) (pg b d39) (pg c d39) = Int32.ofNat dp - 1 ∨ (mxm (pg a d39) (pg b d39) (pg c d39) = Int32.ofNat dp - 1 ∧ m_X10_isBuiltOf F d29 d36 ((pw a d40 ||| pw b d40) ||| pw c d40) (lit j) = some 1))) ∨
    (m_X0_fits F c9 c11 (lit j) (pv a) (pv b) (pv c) (Int32.ofNat dp) = some 1 ∧ mxm (pg a d39) (pg b d39) (pg c d39) = Int32.ofNat dp - 1 ∧ m_X10_isBuiltOf F d29 d36 ((pw a d40 ||| pw b d40) ||| pw c d40) (lit j) = some 0 ∧ dp ≤ 12 ∧ ∃ l : List Nat, l.Nodup ∧ Int32.ofNat dp = Int32.ofNat l.length ∧ ∀ ρ' ∈ l, ρ' < ρn ∧ ((Int32.ofNat ρ = Int32.ofNat ρ' ∧ lit j = d31 ρ') ∨ ∃ k, k < n ∧ tb ((pw a d40 ||| pw b d40) ||| pw c d40) k = true ∧ d37 k = Int32.ofNat ρ' ∧ d36 k = d31 ρ')) := by
  obtain ⟨la, a1, a2, a3, a4⟩ := part_dep hV hρn ha
  obtain ⟨lb, b1, b2, b3, b4⟩ := part_dep hV hρn hb
  obtain ⟨lc, c1, c2, c3, c4⟩ := part_dep hV hρn hc
  obtain ⟨v, v1, v2, v3⟩ := ev_fits (F := F) (r9 := c9) (r11 := c11) (dep := Int32.ofNat dp) hj (pok_mono ha hn) (pok_mono hb hn) (pok_mono hc hn)
  obtain ⟨w, w1, w2, w3⟩ := ev_isBuiltOf (F := F) (r36 := d36) (set := (pw a d40 ||| pw b d40) ||| pw c d40) (head := lit j) hF h8 hn
  rw [reach_iff hV hR hn hj ha hb hc] at w3
  rw [pg_eq ha hc9, pg_eq hb hc9, pg_eq hc hc9, a3, b3, c3, mx3_nat (by omega) (by omega) (by omega)] at v3
  rw [a3, b3, c3, mxm_nat (by omega) (by omega) (by omega)]
  have e1 : Int32.ofNat (max la.length (max lb.length lc.length)) + 1 = Int32.ofNat (max la.length (max lb.length lc.length) + 1) := zn_add _ 1
  have e2 : Int32.ofNat dp - 1 = Int32.ofNat (dp - 1) := by
    have h9 : ∀ d, d < 100 → 1 ≤ d → Int32.ofNat d - 1 = Int32.ofNat (d - 1) := by decide
    exact h9 dp hd2 hd1
  rw [e1, zn_eq (by omega) (by omega)] at v3
  rw [e2, zn_eq (by omega) (by omega)]
  rw [v1, w1]
  by_cases hm : max la.length (max lb.length lc.length) + 1 = dp
  · by_cases hr : tb (pg a c11) j = false ∧ tb (pg b c11) j = false ∧ tb (pg c c11) j = false
    · right
      have hv : v = 1 := v3.mpr ⟨hm, hr⟩
      have hw : w = 0 := w2.resolve_right (fun q => (w3.mp q) hr)
      have hno : ¬ ∃ k, k < n ∧ tb ((pw a d40 ||| pw b d40) ||| pw c d40) k = true ∧ d36 k = lit j := fun q => (reach_iff hV hR hn hj ha hb hc).mp q hr
      -- the deepest part's chain
      have hdeep : ∃ (o : Option Nat) (l : List Nat), (o = a ∨ o = b ∨ o = c) ∧ pok o n ∧ l.Nodup ∧ l.length + 1 = dp ∧ ∀ ρ ∈ l, ρ < ρn ∧ ∃ q, o = some q ∧ ∃ k, k ≤ q ∧ (k = q ∨ tb (d40 q) k = true) ∧ d37 k = Int32.ofNat ρ ∧ d36 k = d31 ρ := by
        by_cases m1 : la.length + 1 = dp
        · exact ⟨a, la, Or.inl rfl, ha, a1, m1, a4⟩
        · by_cases m2 : lb.length + 1 = dp
          · exact ⟨b, lb, Or.inr (Or.inl rfl), hb, b1, m2, b4⟩
          · exact ⟨c, lc, Or.inr (Or.inr rfl), hc, c1, by omega, c4⟩
      obtain ⟨o, l, ho, hon, l1, l2, l3⟩ := hdeep
      have hcl : ∀ ρ' ∈ l, ρ' < ρn ∧ ∃ k, k < n ∧ tb ((pw a d40 ||| pw b d40) ||| pw c d40) k = true ∧ d37 k = Int32.ofNat ρ' ∧ d36 k = d31 ρ' := fun ρ' h => by
        obtain ⟨h1, q, hq, k, k1, k2, k3, k4⟩ := l3 ρ' h
        have hqn := hon q hq
        exact ⟨h1, k, by omega, (tb_new (pok_mono ha hn) (pok_mono hb hn) (pok_mono hc hn) (by omega)).mpr ⟨o, ho, q, hq, k2⟩, k3, k4⟩
      have hnot : ρ ∉ l := fun h => by
        obtain ⟨-, k, k1, k2, -, k4⟩ := hcl ρ h
        exact hno ⟨k, k1, k2, k4.trans hh⟩
      have hnd : (ρ :: l).Nodup := List.nodup_cons.mpr ⟨hnot, l1⟩
      have hle := nodup_len ρn (ρ :: l) hnd (fun x hx => by
        rcases List.mem_cons.mp hx with rfl | hx
        · exact hρ
        · exact (hcl x hx).1)
      rw [List.length_cons] at hle
      refine ⟨by rw [hv], by omega, by rw [hw], by omega, ρ :: l, hnd, by rw [List.length_cons, l2], fun ρ' h => ?_⟩
      rcases List.mem_cons.mp h with rfl | h
      · exact ⟨hρ, Or.inl ⟨rfl, hh.symm⟩⟩
      · exact ⟨(hcl ρ' h).1, Or.inr (hcl ρ' h).2⟩
    · left
      have hv : v = 0 := v2.resolve_right (fun q => hr (v3.mp q).2)
      exact ⟨by rw [hv], Or.inr ⟨by omega, by rw [w3.mpr hr]⟩⟩
  · left
    have hv : v = 0 := v2.resolve_right (fun q => hm (v3.mp q).1)
    exact ⟨by rw [hv], Or.inl (by omega)⟩

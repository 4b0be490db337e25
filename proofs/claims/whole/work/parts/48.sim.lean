/-! class's and model's arguments, side by side -/
/-- the model's rows make sense: literals, makers, parts, what each is built of, and a chain of rules as long as it is deep -/
def validB (ρn n : Nat) (d31 d36 d37 d38 d39 d40 : Nat → Int32) : Prop := ∀ i, i < n →
  (∃ j, j < 21 ∧ j ≠ 10 ∧ d36 i = lit j) ∧
  (d37 i = -1 ∨ ∃ ρ, ρ < ρn ∧ d37 i = Int32.ofNat ρ ∧ d36 i = d31 ρ) ∧
  (∃ a b c, pok a i ∧ pok b i ∧ pok c i ∧ d38 (3 * i) = pv a ∧ d38 (3 * i + 1) = pv b ∧ d38 (3 * i + 2) = pv c ∧ d40 i = ((pw a d40 ||| pw b d40) ||| pw c d40)) ∧
  (∀ k, k < 32 → tb (d40 i) k = true → k < i) ∧
  (∃ l : List Nat, l.Nodup ∧ d39 i = Int32.ofNat l.length ∧ ∀ ρ ∈ l, ρ < ρn ∧ ∃ k, k ≤ i ∧ (k = i ∨ tb (d40 i) k = true) ∧ d37 k = Int32.ofNat ρ ∧ d36 k = d31 ρ)
/-- the class's bits of what is reached -/
def reachB (n : Nat) (d36 d40 c11 : Nat → Int32) : Prop := ∀ i, i < n → ∀ j, j < 21 → (tb (c11 i) j = true ↔ ∃ k, k ≤ i ∧ (k = i ∨ tb (d40 i) k = true) ∧ d36 k = lit j)
def simB (n : Nat) (c6 c7 c8 c9 c10 d29 d36 d37 d38 d39 : Nat → Int32) : Prop := n ≤ 24 ∧ c6 5 = Int32.ofNat n ∧ d29 8 = Int32.ofNat n ∧ c6 6 = d29 9 ∧ (c6 6 = 0 ∨ c6 6 = 1) ∧ ∀ i, i < n → c7 i = d36 i ∧ c8 i = d37 i ∧ c9 i = d39 i ∧ c10 (3 * i) = d38 (3 * i) ∧ c10 (3 * i + 1) = d38 (3 * i + 1) ∧ c10 (3 * i + 2) = d38 (3 * i + 2)
theorem upd_at (r : Nat → Int32) (k : Nat) (x : Int32) : upd r k x k = x := by unfold upd; rw [if_pos rfl]
theorem upd_ne {r : Nat → Int32} {k j : Nat} {x : Int32} (h : j ≠ k) : upd r k x j = r j := by unfold upd; rw [if_neg h]
theorem pw_upd {o : Option Nat} {r : Nat → Int32} {n : Nat} {x : Int32} (h : pok o n) : pw o (upd r n x) = pw o r := by
  cases o with
  | none => rfl
  | some k =>
    have := h k rfl
    show upd r n x k ||| _ = r k ||| _
    rw [upd_ne (by omega)]
theorem pg_upd {o : Option Nat} {r : Nat → Int32} {n : Nat} {x : Int32} (h : pok o n) : pg o (upd r n x) = pg o r := by
  cases o with
  | none => rfl
  | some k =>
    have := h k rfl
    show upd r n x k = r k
    rw [upd_ne (by omega)]
theorem pok_mono {o : Option Nat} {n m : Nat} (h : pok o n) (hm : n ≤ m) : pok o m := fun k hk => Nat.lt_of_lt_of_le (h k hk) hm
/-- what is below a new argument -/
theorem tb_new {a b c : Option Nat} {r : Nat → Int32} (ha : pok a 24) (hb : pok b 24) (hc : pok c 24) {k : Nat} (hk : k < 32) : tb ((pw a r ||| pw b r) ||| pw c r) k = true ↔ ∃ o, (o = a ∨ o = b ∨ o = c) ∧ ∃ q, o = some q ∧ (k = q ∨ tb (r q) k = true) := by
  rw [tb_or, tb_or, Bool.or_eq_true, Bool.or_eq_true, tb_pw ha hk, tb_pw hb hk, tb_pw hc hk]
  constructor
  · rintro ((h | h) | h)
    · exact ⟨a, Or.inl rfl, h⟩
    · exact ⟨b, Or.inr (Or.inl rfl), h⟩
    · exact ⟨c, Or.inr (Or.inr rfl), h⟩
  · rintro ⟨o, ho, h⟩
    rcases ho with rfl | rfl | rfl
    · exact Or.inl (Or.inl h)
    · exact Or.inl (Or.inr h)
    · exact Or.inr h
/-- one more argument: the model's rows -/
theorem validB_add {ρn n j : Nat} {d31 d36 d37 d38 d39 d40 : Nat → Int32} {a b c : Option Nat} {mk dep : Int32} (hV : validB ρn n d31 d36 d37 d38 d39 d40) (hn : n < 24) (hj : j < 21) (hj10 : j ≠ 10) (ha : pok a n) (hb : pok b n) (hc : pok c n) (hmk : mk = -1 ∨ ∃ ρ, ρ < ρn ∧ mk = Int32.ofNat ρ ∧ lit j = d31 ρ)
    (hl : ∃ l : List Nat, l.Nodup ∧ dep = Int32.ofNat l.length ∧ ∀ ρ ∈ l, ρ < ρn ∧ ((mk = Int32.ofNat ρ ∧ lit j = d31 ρ) ∨ ∃ k, k < n ∧ tb ((pw a d40 ||| pw b d40) ||| pw c d40) k = true ∧ d37 k = Int32.ofNat ρ ∧ d36 k = d31 ρ)) :
    validB ρn (n + 1) d31 (upd d36 n (lit j)) (upd d37 n mk) (upd (upd (upd d38 (3 * n) (pv a)) (3 * n + 1) (pv b)) (3 * n + 2) (pv c)) (upd d39 n dep) (upd d40 n ((pw a d40 ||| pw b d40) ||| pw c d40)) := by
  intro i hi
  by_cases e : i = n
  · subst e
    rw [upd_at, upd_at, upd_at, upd_at, upd_at]
    refine ⟨⟨j, hj, hj10, rfl⟩, hmk, ⟨a, b, c, ha, hb, hc, ?_, ?_, rfl, ?_⟩, fun k hk hx => ?_, ?_⟩
    · rw [upd_ne (by omega), upd_ne (by omega), upd_at]
    · rw [upd_ne (by omega), upd_at]
    · rw [pw_upd ha, pw_upd hb, pw_upd hc]
    · obtain ⟨o, ho, q, hq, h9⟩ := (tb_new (pok_mono ha (by omega)) (pok_mono hb (by omega)) (pok_mono hc (by omega)) hk).mp hx
      have hqn : q < i := by
        rcases ho with rfl | rfl | rfl
        · exact ha q hq
        · exact hb q hq
        · exact hc q hq
      rcases h9 with rfl | h9
      · exact hqn
      · have := (hV q hqn).2.2.2.1 k hk h9
        omega
    · obtain ⟨l, l1, l2, l3⟩ := hl
      refine ⟨l, l1, l2, fun ρ hρ => ?_⟩
      obtain ⟨h1, h2⟩ := l3 ρ hρ
      refine ⟨h1, ?_⟩
      rcases h2 with ⟨h2, h3⟩ | ⟨k, k1, k2, k3, k4⟩
      · exact ⟨i, Nat.le_refl _, Or.inl rfl, by rw [upd_at]; exact h2, by rw [upd_at]; exact h3⟩
      · exact ⟨k, by omega, Or.inr k2, by rw [upd_ne (by omega)]; exact k3, by rw [upd_ne (by omega)]; exact k4⟩
  · have hin : i < n := by omega
    obtain ⟨v1, v2, ⟨a', b', c', p1, p2, p3, p4, p5, p6, p7⟩, v4, l, l1, l2, l3⟩ := hV i hin
    rw [upd_ne e, upd_ne e, upd_ne e, upd_ne e]
    refine ⟨v1, v2, ⟨a', b', c', p1, p2, p3, ?_, ?_, ?_, ?_⟩, v4, l, l1, l2, fun ρ hρ => ?_⟩
    · rw [upd_ne (by omega), upd_ne (by omega), upd_ne (by omega)]; exact p4
    · rw [upd_ne (by omega), upd_ne (by omega), upd_ne (by omega)]; exact p5
    · rw [upd_ne (by omega), upd_ne (by omega), upd_ne (by omega)]; exact p6
    · rw [pw_upd (pok_mono p1 (by omega)), pw_upd (pok_mono p2 (by omega)), pw_upd (pok_mono p3 (by omega))]; exact p7
    · obtain ⟨h1, k, k1, k2, k3, k4⟩ := l3 ρ hρ
      exact ⟨h1, k, k1, k2, by rw [upd_ne (by omega)]; exact k3, by rw [upd_ne (by omega)]; exact k4⟩

/-! one loop, by its rounds -/
theorem zn_s (k : Nat) : Int32.ofNat k + 1 = Int32.ofNat (k + 1) := zn_add k 1
theorem run1 {α γ : Type} {LC : Nat → Int32 → α → Option γ} {P : Nat → α → Prop} {ix : Nat → Int32} {K : Nat}
    (h : ∀ k, k < K → ∀ s, P k s → ∃ s', P (k + 1) s' ∧ ∀ f, LC (f + 1) (ix k) s = LC f (ix (k + 1)) s') :
    ∀ d k s, k + d = K → P k s → ∃ s', P K s' ∧ ∀ f, LC (f + d) (ix k) s = LC f (ix K) s' := by
  intro d
  induction d with
  | zero =>
    intro k s hk hR
    have hk : k = K := hk
    subst hk
    exact ⟨s, hR, fun f => rfl⟩
  | succ d ih =>
    intro k s hk hR
    obtain ⟨s1, h1, h2⟩ := h k (by omega) s hR
    obtain ⟨s2, g1, g2⟩ := ih (k + 1) s1 (by omega) h1
    exact ⟨s2, g1, fun f => (h2 (f + d)).trans (g2 f)⟩
theorem run1F {α γ : Type} {LC : Nat → Int32 → α → Option γ} {P : Nat → α → Prop} {K F : Nat} {gC : α → γ} (hF : K + 1 ≤ F)
    (h : ∀ k, k < K → ∀ s, P k s → ∃ s', P (k + 1) s' ∧ ∀ f, LC (f + 1) (Int32.ofNat k) s = LC f (Int32.ofNat (k + 1)) s')
    (hE : ∀ f s, P K s → LC (f + 1) (Int32.ofNat K) s = some (gC s)) :
    ∀ s, P 0 s → ∃ s', P K s' ∧ LC F 0 s = some (gC s') := by
  intro s hs
  obtain ⟨s', h1, h2⟩ := run1 h K 0 s (by omega) hs
  have a := h2 (F - (K + 1) + 1)
  rw [show F - (K + 1) + 1 + K = F by omega, hE _ _ h1] at a
  exact ⟨s', h1, a⟩
/-! strength, and who goes against whom -/
def stg (r33 r37 : Nat → Int32) (k : Nat) : Int32 := if r37 k = -1 then 10 else r33 (r37 k).toNatClampNeg
def oppP (r33 r34 r36 r37 : Nat → Int32) (i c : Nat) : Prop := r37 c ≠ -1 ∧ ((r36 i = -(r36 c) ∧ ¬ stg r33 r37 i < stg r33 r37 c) ∨ r36 i = r34 (r37 c).toNatClampNeg)
def attP (r33 r34 r36 r37 r40 : Nat → Int32) (i b : Nat) : Prop := ∃ c, c ≤ b ∧ (c = b ∨ tb (r40 b) c = true) ∧ oppP r33 r34 r36 r37 i c
def mkOK (n : Nat) (r37 : Nat → Int32) : Prop := ∀ i, i < n → r37 i = -1 ∨ ∃ ρ, ρ < 12 ∧ r37 i = Int32.ofNat ρ
theorem ev_strengthOf {F n k : Nat} {r33 r37 : Nat → Int32} (hn : n ≤ 24) (hm : mkOK n r37) (hk : k < n) : m_X10_strengthOf F r33 r37 (Int32.ofNat k) = some (stg r33 r37 k) := by
  unfold m_X10_strengthOf stg
  rw [if_pos (zn_ok (by omega) (by omega)), zn_nat (by omega)]
  rcases hm k hk with h | ⟨ρ, h1, h2⟩
  · rw [if_pos h, if_pos h]
  · rw [h2, if_neg (zn_m1 (by omega)), if_neg (zn_m1 (by omega)), if_pos, if_pos (zn_ok h1 (by omega))]
    exact fun q => q.elim (zn_nn (by omega)) (fun q => by omega)
theorem ev_opposes {F n i c : Nat} {r33 r34 r36 r37 : Nat → Int32} (hn : n ≤ 24) (hm : mkOK n r37) (hi : i < n) (hc : c < n) : ∃ v, m_X10_opposes F r33 r34 r36 r37 (Int32.ofNat i) (Int32.ofNat c) = some v ∧ (v = 0 ∨ v = 1) ∧ (v = 1 ↔ oppP r33 r34 r36 r37 i c) := by
  unfold m_X10_opposes oppP
  have g1 : ¬ (Int32.ofNat i < 0 ∨ 24 ≤ (Int32.ofNat i).toNatClampNeg) := zn_ok (by omega) (by omega)
  have g2 : ¬ (Int32.ofNat c < 0 ∨ 24 ≤ (Int32.ofNat c).toNatClampNeg) := zn_ok (by omega) (by omega)
  simp only [if_pos g1, if_pos g2]
  rw [zn_nat (show c < 2147483648 by omega), zn_nat (show i < 2147483648 by omega), ev_strengthOf hn hm hi, ev_strengthOf hn hm hc]
  rcases hm c hc with h | ⟨ρ, h1, h2⟩
  · rw [if_pos h]
    exact ⟨0, rfl, Or.inl rfl, fun q => absurd q (by decide), fun q => absurd h q.1⟩
  · have hne : ¬ r37 c = -1 := by rw [h2]; exact zn_m1 (by omega)
    have g3 : ¬ (r37 c < 0 ∨ 12 ≤ (r37 c).toNatClampNeg) := by rw [h2]; exact zn_ok h1 (by omega)
    simp only [if_pos g3]
    rw [if_neg hne]
    simp only [Option.bind_some]
    by_cases p1 : r36 i = -(r36 c) ∧ ¬ stg r33 r37 i < stg r33 r37 c
    · rw [if_pos p1.1, if_neg p1.2, Option.bind_some, if_neg (by decide)]
      exact ⟨1, rfl, Or.inr rfl, fun _ => ⟨hne, Or.inl p1⟩, fun _ => rfl⟩
    · have e : (if r36 i = -(r36 c) then (if stg r33 r37 i < stg r33 r37 c then some (0 : Int32) else some 1) else some 0) = some 0 := by
        by_cases p2 : r36 i = -(r36 c)
        · rw [if_pos p2, if_pos (Classical.not_not.mp fun q => p1 ⟨p2, q⟩)]
        · rw [if_neg p2]
      rw [e, Option.bind_some, if_pos rfl]
      by_cases p3 : r36 i = r34 (r37 c).toNatClampNeg
      · rw [if_pos p3]
        exact ⟨1, rfl, Or.inr rfl, fun _ => ⟨hne, Or.inr p3⟩, fun _ => rfl⟩
      · rw [if_neg p3]
        exact ⟨0, rfl, Or.inl rfl, fun q => absurd q (by decide), fun q => (q.2.elim p1 p3).elim⟩
/-- what a row of attackers says -/
def atR (n : Nat) (Q : Nat → Nat → Prop) (r : Nat → Int32) : Prop := ∀ b, b < n → ∀ k, k < 32 → (tb (r b) k = true ↔ k < n ∧ Q k b)

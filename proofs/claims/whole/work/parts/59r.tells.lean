/-! what is told: the state behind it -/
theorem ruR_far {n : Nat} {X Z : Nat → Nat → Int32} (h4 : Z 4 = X 4) (h5 : Z 5 = X 5) (h47 : ∀ j, 47 ≤ j → Z j = X j) {r31 r32 r33 r34 r35 : Nat → Int32} (hr : ruR n X r31 r32 r33 r34 r35) : ruR n Z r31 r32 r33 r34 r35 := by
  intro ρ hρ
  have ea : ∀ i, Z (aid (X 4 2) i) = X (aid (X 4 2) i) := fun i => by
    rcases aid_far (X 4 2) i with q | q
    · rw [q]; exact h5
    · exact h47 _ q
  rw [h4, ea]
  exact hr ρ hρ
theorem lst_far {n : Nat} {X Z : Nat → Nat → Int32} (h4 : Z 4 = X 4) (h47 : ∀ j, 47 ≤ j → Z j = X j) (h : lst X n) : lst Z n := by
  obtain ⟨l1, l2, l3, l4⟩ := h
  unfold lst
  rw [h4, h47 48 (by decide), h47 59 (by decide)]
  exact ⟨l1, l2, l3, l4⟩
theorem faR_upd {r2 r30 : Nat → Int32} {j : Nat} {v : Int32} (h : faR r2 r30) (hj10 : j ≠ 10) (hv : v = 0 ∨ v = 1) : faR (upd r2 j v) (upd r30 j v) := by
  intro k hk
  obtain ⟨h1, h2, h3⟩ := h k hk
  by_cases e : k = j
  · subst e
    rw [upd_at, upd_at]
    exact ⟨rfl, hv, fun q => absurd q hj10⟩
  · rw [upd_ne e, upd_ne e]
    exact ⟨h1, h2, h3⟩
theorem upd_self {r : Nat → Int32} {k : Nat} {v : Int32} (h : r k = v) : upd r k v = r := funext fun j => by
  by_cases e : j = k
  · subst e; rw [upd_at, h]
  · exact upd_ne e
theorem ev_put {F j : Nat} {r1 r2 r30 : Nat → Int32} (hfa : faR r2 r30) (hj : j < 21) (h0 : r30 j = 0) : m_X2_put F r1 r2 (lit j) = some (upd r1 1 (r1 1 + 1), upd r2 j 1) := by
  unfold m_X2_put m_X9_isLiteralOrNone
  rw [if_neg (lit_in hj).1, if_neg (lit_in hj).2, Option.bind_some, if_neg zi_10, ev_has hfa hj, Option.bind_some, if_pos h0, lit_10 hj, if_pos (zn_ok hj (by omega)), zn_nat (by omega)]
theorem ev_drop {F j : Nat} {r1 r2 r30 : Nat → Int32} (hfa : faR r2 r30) (hj : j < 21) (h0 : r30 j ≠ 0) : m_X2_drop F r1 r2 (lit j) = some (upd r1 1 (r1 1 - 1), upd r2 j 0) := by
  unfold m_X2_drop
  rw [ev_has hfa hj, Option.bind_some, if_neg h0, lit_10 hj, if_pos (zn_ok hj (by omega)), zn_nat (by omega)]
theorem Sta_fact {F n : Nat} {X X2 : Nat → Nat → Int32} {r0 r1 r2 b29 b30 : Nat → Int32} (hS : Sta F X n) (h2 : ∀ j, j ≠ 46 → X2 j = (up (up (up X 0 (fgt r0)) 1 r1) 2 r2) j) (h29 : b29 2 = Int32.ofNat n) (hfa : faR r2 b30) (h1 : r1 1 = Int32.ofNat (nfc b30 21)) : Sta F (up (up X2 29 b29) 30 b30) n := by
  have hz : ∀ j, 3 ≤ j → j ≠ 29 → j ≠ 30 → j ≠ 46 → (up (up X2 29 b29) 30 b30) j = X j := fun j a1 a2 a3 a4 => by
    rw [up_ne a3, up_ne a2, h2 j a4, up_ne (by omega), up_ne (by omega), up_ne (by omega)]
  have hz2 : (up (up X2 29 b29) 30 b30) 2 = r2 := by
    rw [up_ne (by decide), up_ne (by decide), h2 2 (by decide), up_at]
  have hz1 : (up (up X2 29 b29) 30 b30) 1 = r1 := by
    rw [up_ne (by decide), up_ne (by decide), h2 1 (by decide), up_ne (by decide), up_at]
  have hz0 : (up (up X2 29 b29) 30 b30) 0 = fgt r0 := by
    rw [up_ne (by decide), up_ne (by decide), h2 0 (by decide), up_ne (by decide), up_ne (by decide), up_at]
  have hz30 : (up (up X2 29 b29) 30 b30) 30 = b30 := up_at _ _ _
  have hz29 : (up (up X2 29 b29) 30 b30) 29 = b29 := by rw [up_ne (by decide), up_at]
  have f4 := hz 4 (by decide) (by decide) (by decide) (by decide)
  have f5 := hz 5 (by decide) (by decide) (by decide) (by decide)
  have f47 : ∀ j, 47 ≤ j → (up (up X2 29 b29) 30 b30) j = X j := fun j hj => hz j (by omega) (by omega) (by omega) (by omega)
  refine Sta_new hS (lst_far f4 f47 hS.1) (by rw [hz29]; exact h29) (by rw [hz2, hz30]; exact hfa) (by rw [hz1, hz30]; exact h1) ?_ (hz 19 (by decide) (by decide) (by decide) (by decide)) (hz 20 (by decide) (by decide) (by decide) (by decide)) (hz 23 (by decide) (by decide) (by decide) (by decide)) (hz 24 (by decide) (by decide) (by decide) (by decide)) hz0
  rw [hz 31 (by decide) (by decide) (by decide) (by decide), hz 32 (by decide) (by decide) (by decide) (by decide), hz 33 (by decide) (by decide) (by decide) (by decide), hz 34 (by decide) (by decide) (by decide) (by decide), hz 35 (by decide) (by decide) (by decide) (by decide)]
  exact ruR_far f4 f5 f47 hS.2.2.2.2.1
/-- nothing but the row 29 (and one that stays as it was) -/
theorem Sta_keep {F n k : Nat} {X X2 : Nat → Nat → Int32} {b29 : Nat → Int32} (hS : Sta F X n) (h2 : ∀ j, j ≠ 46 → X2 j = X j) (h29 : b29 2 = Int32.ofNat n) (hk : k ≠ 29) : Sta F (up (up X2 29 b29) k (X k)) n := Sta_ext (X := X) (fun j hj => by
  unfold idl at hj
  by_cases e : j = k
  · subst e; exact up_at _ _ _
  · rw [up_ne e, up_ne (by omega)]; exact h2 j (by omega)) (by
  rw [up_ne (fun q => hk q.symm), up_at]; exact h29.trans hS.2.1.symm) hS
theorem same_012 (X : Nat → Nat → Int32) : up (up (up X 0 (X 0)) 1 (X 1)) 2 (X 2) = X := by rw [up_self, up_self, up_self]
theorem ruR_set {n i : Nat} {X Y : Nat → Nat → Int32} {r31 r32 r33 r34 r35 r33' r34' r35' : Nat → Int32} {c : Nat} {v : Int32} (hr : ruR n X r31 r32 r33 r34 r35) (hi : i < n) (hc : 4 ≤ c)
    (hY : ∀ ρ, ρ < n → Y (aid (Y 4 2) (Int32.ofNat ρ)) = if ρ = i then upd (X (aid (X 4 2) (Int32.ofNat i))) c v else X (aid (X 4 2) (Int32.ofNat ρ)))
    (h33 : ∀ ρ, ρ ≠ i → r33' ρ = r33 ρ) (h34 : ∀ ρ, ρ ≠ i → r34' ρ = r34 ρ) (h35 : ∀ ρ, ρ ≠ i → r35' ρ = r35 ρ)
    (hnew : ∀ j e p : Nat, r34 i = lit e → e < 21 → r33 i = Int32.ofNat p → p < 10 → X (aid (X 4 2) (Int32.ofNat i)) 4 = r33 i → X (aid (X 4 2) (Int32.ofNat i)) 5 = r34 i → X (aid (X 4 2) (Int32.ofNat i)) 6 = r35 i → (r35 i = 0 ∨ r35 i = 1) → ∃ e' p' : Nat, e' < 21 ∧ r34' i = lit e' ∧ p' < 10 ∧ r33' i = Int32.ofNat p' ∧ upd (X (aid (X 4 2) (Int32.ofNat i))) c v 4 = r33' i ∧ upd (X (aid (X 4 2) (Int32.ofNat i))) c v 5 = r34' i ∧ upd (X (aid (X 4 2) (Int32.ofNat i))) c v 6 = r35' i ∧ (r35' i = 0 ∨ r35' i = 1)) : ruR n Y r31 r32 r33' r34' r35' := by
  intro ρ hρ
  obtain ⟨j, e, p, g1, g2, g3, g4, g5, g6, g7, g8, g9, g10, g11, g12, g13, g14, g15⟩ := hr ρ hρ
  rw [hY ρ hρ]
  by_cases h : ρ = i
  · subst h
    rw [if_pos rfl]
    obtain ⟨e', p', k1, k2, k3, k4, k5, k6, k7, k8⟩ := hnew j e p g5 g4 g7 g6 g12 g13 g14 g15
    refine ⟨j, e', p', g1, g2, g3, k1, k2, k3, k4, ?_, ?_, ?_, ?_, k5, k6, k7, k8⟩
    · rw [upd_ne (by omega)]; exact g8
    · rw [upd_ne (by omega)]; exact g9
    · rw [upd_ne (by omega)]; exact g10
    · rw [upd_ne (by omega)]; exact g11
  · rw [if_neg h, h33 ρ h, h34 ρ h, h35 ρ h]
    exact ⟨j, e, p, g1, g2, g3, g4, g5, g6, g7, g8, g9, g10, g11, g12, g13, g14, g15⟩
theorem Sta_rule {F n i c k : Nat} {X X2 : Nat → Nat → Int32} {r0 b29 bk r33' r34' r35' : Nat → Int32} {v : Int32} (hS : Sta F X n) (hi : i < n) (hk : k = 33 ∨ k = 34 ∨ k = 35) (h2 : ∀ j, j ≠ 46 → X2 j = (up (up X (aid (X 4 2) (Int32.ofNat i)) (upd (X (aid (X 4 2) (Int32.ofNat i))) c v)) 0 (fgt r0)) j) (h29 : b29 2 = Int32.ofNat n)
    (hru : (∀ ρ, ρ < n → (up (up X2 29 b29) k bk) (aid ((up (up X2 29 b29) k bk) 4 2) (Int32.ofNat ρ)) = if ρ = i then upd (X (aid (X 4 2) (Int32.ofNat i))) c v else X (aid (X 4 2) (Int32.ofNat ρ))) → ruR n (up (up X2 29 b29) k bk) (X 31) (X 32) r33' r34' r35')
    (h33 : (up (up X2 29 b29) k bk) 33 = r33') (h34 : (up (up X2 29 b29) k bk) 34 = r34') (h35 : (up (up X2 29 b29) k bk) 35 = r35') : Sta F (up (up X2 29 b29) k bk) n := by
  have hn : n ≤ 12 := hS.1.1
  have h42 : X 4 2 = Int32.ofNat n := hS.1.2.1
  have ht : aid (X 4 2) (Int32.ofNat i) = rid i := by rw [h42, aid_rid hn hi]
  have hri := rid_ge i
  have hrn := rid_ne i
  rw [ht] at h2
  have hz : ∀ j, j ≠ 0 → j ≠ 29 → j ≠ k → j ≠ 46 → j ≠ rid i → (up (up X2 29 b29) k bk) j = X j := fun j a0 a1 a2 a3 a4 => by
    rw [up_ne a2, up_ne a1, h2 j a3, up_ne a0, up_ne a4]
  have hz0 : (up (up X2 29 b29) k bk) 0 = fgt r0 := by
    rw [up_ne (by omega), up_ne (by omega), h2 0 (by omega), up_at]
  have hz29 : (up (up X2 29 b29) k bk) 29 = b29 := by rw [up_ne (by omega), up_at]
  have hzr : (up (up X2 29 b29) k bk) (rid i) = upd (X (rid i)) c v := by
    rw [up_ne (by omega), up_ne (by omega), h2 _ (by omega), up_ne (by omega), up_at]
  have f4 := hz 4 (by omega) (by omega) (by omega) (by omega) (by omega)
  have f31 := hz 31 (by omega) (by omega) (by omega) (by omega) (by omega)
  have f32 := hz 32 (by omega) (by omega) (by omega) (by omega) (by omega)
  have f30 := hz 30 (by omega) (by omega) (by omega) (by omega) (by omega)
  refine Sta_new hS ?_ (by rw [hz29]; exact h29) (by rw [hz 2 (by omega) (by omega) (by omega) (by omega) (by omega), f30]; exact hS.2.2.1) (by rw [hz 1 (by omega) (by omega) (by omega) (by omega) (by omega), f30]; exact hS.2.2.2.1) ?_ (hz 19 (by omega) (by omega) (by omega) (by omega) (by omega)) (hz 20 (by omega) (by omega) (by omega) (by omega) (by omega)) (hz 23 (by omega) (by omega) (by omega) (by omega) (by omega)) (hz 24 (by omega) (by omega) (by omega) (by omega) (by omega)) hz0
  · obtain ⟨l1, l2, l3, l4⟩ := hS.1
    unfold lst
    rw [f4, hz 48 (by omega) (by omega) (by omega) (by omega) (by omega), hz 59 (by omega) (by omega) (by omega) (by omega) (by omega)]
    exact ⟨l1, l2, l3, l4⟩
  · rw [f31, f32, h33, h34, h35]
    refine hru fun ρ hρ => ?_
    rw [f4, ht, h42, aid_rid hn hρ]
    by_cases h : ρ = i
    · subst h; rw [if_pos rfl, hzr]
    · rw [if_neg h]
      have hg := rid_ge ρ
      exact hz _ (by omega) (by omega) (by omega) (by omega) (fun q => h (rid_inj (by omega) (by omega) q))

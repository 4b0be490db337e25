/-! loops that fall -/
def dn (j : Nat) : Int32 := Int32.ofNat j + (-1)
theorem dn_s (j : Nat) : dn (j + 1) = Int32.ofNat j := by
  unfold dn
  rw [← zn_s, Int32.add_assoc, show (1 : Int32) + (-1) = 0 from rfl, Int32.add_zero]
theorem run_dn {α γ : Type} {LC : Nat → Int32 → α → Option γ} {P : Nat → α → Prop} {K : Nat}
    (h : ∀ j, j < K → ∀ s, P (j + 1) s → ∃ s', P j s' ∧ ∀ f, LC (f + 1) (Int32.ofNat j) s = LC f (dn j) s') :
    ∀ j s, j ≤ K → P j s → ∃ s', P 0 s' ∧ ∀ f, LC (f + j) (dn j) s = LC f (-1) s' := by
  intro j
  induction j with
  | zero => intro s _ hP; exact ⟨s, hP, fun f => rfl⟩
  | succ j ih =>
    intro s hj hP
    obtain ⟨s1, h1, h2⟩ := h j (by omega) s hP
    obtain ⟨s2, g1, g2⟩ := ih s1 (by omega) h1
    refine ⟨s2, g1, fun f => ?_⟩
    rw [dn_s, show f + (j + 1) = (f + j) + 1 by omega, h2, g2]
theorem run_dnF {α γ : Type} {LC : Nat → Int32 → α → Option γ} {P : Nat → α → Prop} {K F : Nat} {gC : α → γ} (hF : K + 1 ≤ F)
    (h : ∀ j, j < K → ∀ s, P (j + 1) s → ∃ s', P j s' ∧ ∀ f, LC (f + 1) (Int32.ofNat j) s = LC f (dn j) s')
    (hE : ∀ f s, P 0 s → LC (f + 1) (-1) s = some (gC s)) :
    ∀ s, P K s → ∃ s', P 0 s' ∧ LC F (dn K) s = some (gC s') := by
  intro s hs
  obtain ⟨s', h1, h2⟩ := run_dn h K s (Nat.le_refl _) hs
  have a := h2 (F - (K + 1) + 1)
  rw [show F - (K + 1) + 1 + K = F by omega, hE _ _ h1] at a
  exact ⟨s', h1, a⟩
theorem shl_sx {n i : Nat} (hn : n ≤ 14) (hi : i < 2 ^ n) : Int32.ofNat i <<< ((14 - Int32.ofNat n) &&& 31) = Int32.ofNat (sx n i) := by
  have e : (14 : Int32) - Int32.ofNat n = Int32.ofNat (14 - n) := by
    have : ∀ n, n < 15 → (14 : Int32) - Int32.ofNat n = Int32.ofNat (14 - n) := by decide
    exact this n (by omega)
  rw [e]
  refine tb_ext fun k hk => ?_
  rw [tb_shl _ (by omega) hk, tb_nat hk, sx_bit]
  by_cases h : 14 - n ≤ k
  · rw [tb_nat (by omega)]
  · rw [decide_eq_false h]; rfl
theorem top_sx {n : Nat} (hn : n ≤ 14) : ((1 : Int32) <<< (Int32.ofNat n &&& 31)) - 1 = dn (2 ^ n) := by
  rw [zsh_pow (by omega), Int32.sub_eq_add_neg]
  unfold dn
  rfl
theorem pow_14 {n : Nat} (hn : n ≤ 14) : 2 ^ n ≤ 16384 := Nat.pow_le_pow_right (show 0 < 2 by decide) hn
theorem sweep_all {F n : Nat} {r13 r16 r19 r20 r23 r24 r27 r28 : Nat → Int32} (hF : 20000 ≤ F) (hn : n ≤ 14) (hT : tabR n r13 r16 r19 r20 r23 r24) :
    ∃ q27 q28 L, m_X7_sweep F r16 r19 r20 r23 r24 r27 r28 = some (q27, q28) ∧ rL n q27 q28 L ∧ isPL (AA n r13) n 0 (2 ^ n) L := by
  have h4 : r16 4 = Int32.ofNat n := hT.1
  have hp := pow_14 hn
  have key := run_dnF (F := F) (K := 2 ^ n) (LC := fun f x (t : (Nat → Int32) × (Nat → Int32)) => m_X7_sweep_L16 F r16 r19 r20 r23 r24 f x t.1 t.2) (P := fun j t => ∃ L, rL n t.1 t.2 L ∧ isPL (AA n r13) n j (2 ^ n) L) (gC := fun t => t) (by omega) ?_ ?_ (upd r27 1 0, r28) ⟨[], rL_nil, isPL_nil⟩
  · obtain ⟨t, ⟨L, t1, t2⟩, t3⟩ := key
    refine ⟨t.1, t.2, L, ?_, t1, t2⟩
    unfold m_X7_sweep m_X6_clear
    rw [Option.bind_some, h4, top_sx hn]
    exact t3
  · rintro j hj t ⟨L, hL, hP⟩
    obtain ⟨v, v1, v2, v3⟩ := ev_peace (F := F) hn hj hT
    obtain ⟨w, w1, w2, w3⟩ := ev_defend (F := F) hn hj hj hT
    obtain ⟨z, z1, z2, z3⟩ := ev_covers hF hn hj hL
    have hun : ∀ f, m_X7_sweep_L16 F r16 r19 r20 r23 r24 (f + 1) (Int32.ofNat j) t.1 t.2 = if v = 0 then m_X7_sweep_L16 F r16 r19 r20 r23 r24 f (dn j) t.1 t.2 else if w = 0 then m_X7_sweep_L16 F r16 r19 r20 r23 r24 f (dn j) t.1 t.2 else if z = 0 then Option.bind (m_X6_keep F t.1 t.2 (Int32.ofNat (sx n j))) (fun zu5 => m_X7_sweep_L16 F r16 r19 r20 r23 r24 f (dn j) zu5.1 zu5.2) else m_X7_sweep_L16 F r16 r19 r20 r23 r24 f (dn j) t.1 t.2 := fun f => by
      rw [m_X7_sweep_L16, if_neg (zn_nn (by omega)), h4, shl_sx hn hj, v1, Option.bind_some, w1, Option.bind_some, z1, Option.bind_some]
      rfl
    have hskip : (¬ prefP (AA n r13) n j) → isPL (AA n r13) n j (2 ^ n) L := fun h => isPL_skip hP (by omega) fun u h1 h2 hu => by
      have : u = j := by omega
      rw [this] at hu
      exact h hu
    rcases v2 with hv | hv
    · refine ⟨t, ⟨L, hL, hskip fun hu => ?_⟩, fun f => (hun f).trans (if_pos hv)⟩
      have := v3.mpr hu.2.1.1
      rw [hv] at this
      exact absurd this (by decide)
    · rcases w2 with hw | hw
      · refine ⟨t, ⟨L, hL, hskip fun hu => ?_⟩, fun f => (hun f).trans ?_⟩
        · have := w3.mpr hu.2.1.2
          rw [hw] at this
          exact absurd this (by decide)
        · rw [if_neg (by rw [hv]; decide), if_pos hw]
      · have hleaf := leaf_pref hj ⟨v3.mp hv, w3.mp hw⟩ L (fun u hu => ⟨(isPL_ge hP u hu).1, by have := (isPL_ge hP u hu).2; omega⟩) (fun u hu hlt => (hP.2 u).mpr ⟨hu, by omega, hu.1⟩)
        rcases z2 with hz | hz
        · have hpref := hleaf.mp (fun q => by
            have := z3.mpr q
            rw [hz] at this
            exact absurd this (by decide))
          have hP1 := isPL_keep hP hj hpref
          have hlen := isPL_len (by omega) hP1
          rw [List.length_append, List.length_singleton] at hlen
          obtain ⟨q25, q26, g1, g2⟩ := ev_keep (F := F) (s := j) hL (by omega)
          refine ⟨(q25, q26), ⟨_, g2, hP1⟩, fun f => (hun f).trans ?_⟩
          rw [if_neg (by rw [hv]; decide), if_neg (by rw [hw]; decide), if_pos hz, g1, Option.bind_some]
        · refine ⟨t, ⟨L, hL, hskip fun hu => hleaf.mpr hu (z3.mp hz)⟩, fun f => (hun f).trans ?_⟩
          rw [if_neg (by rw [hv]; decide), if_neg (by rw [hw]; decide), if_neg (by rw [hz]; decide)]
  · intro f t ht
    show m_X7_sweep_L16 F r16 r19 r20 r23 r24 (f + 1) (-1) t.1 t.2 = _
    rw [m_X7_sweep_L16, if_pos (by decide)]

/-! labels -/
theorem zn_nle {n k : Nat} (hn : n ≤ 24) (h : k < n) : ¬ Int32.ofNat n ≤ Int32.ofNat k := fun w => by have := (zn_le (by omega) (by omega)).mp w; omega
theorem tb_set {v : Int32} {k m : Nat} (hm : m < 32) (hk : k < 32) : tb (v ||| ((1 : Int32) <<< (Int32.ofNat m &&& 31))) k = true ↔ tb v k = true ∨ k = m := by
  rw [tb_or, Bool.or_eq_true, tb_bit hm hk, decide_eq_true_eq]
theorem zor_0 (x : Int32) : x ||| 0 = x := tb_ext fun k hk => by rw [tb_or, tb_0]; cases tb x k <;> rfl
/-- gathering bits: one more -/
theorem gath {C : Nat → Prop} {m : Nat} {v : Int32} (hm : m < 32) (hv : ∀ k, k < 32 → (tb v k = true ↔ k < m ∧ C k)) : (C m → ∀ k, k < 32 → (tb (v ||| ((1 : Int32) <<< (Int32.ofNat m &&& 31))) k = true ↔ k < m + 1 ∧ C k)) ∧ (¬ C m → ∀ k, k < 32 → (tb v k = true ↔ k < m + 1 ∧ C k)) := by
  constructor
  · intro hC k hk
    rw [tb_set hm hk, hv k hk]
    constructor
    · rintro (q | q)
      · exact ⟨by omega, q.2⟩
      · subst q; exact ⟨by omega, hC⟩
    · rintro ⟨q1, q2⟩
      by_cases e : k = m
      · exact Or.inr e
      · exact Or.inl ⟨by omega, q2⟩
  · intro hC k hk
    rw [hv k hk]
    constructor
    · rintro ⟨q1, q2⟩; exact ⟨by omega, q2⟩
    · rintro ⟨q1, q2⟩
      by_cases e : k = m
      · subst e; exact absurd q2 hC
      · exact ⟨by omega, q2⟩
theorem gath0 {C : Nat → Prop} : ∀ k, k < 32 → (tb 0 k = true ↔ k < 0 ∧ C k) := fun k hk => by
  rw [tb_0]
  exact ⟨fun q => absurd q (by decide), fun q => absurd q.1 (Nat.not_lt_zero _)⟩
theorem ev_withLabel {F n : Nat} {lab : Int32} {r29 r42 : Nat → Int32} (hF : 20000 ≤ F) (h8 : r29 8 = Int32.ofNat n) (hn : n ≤ 24) : ∃ v, m_X10_withLabel F r29 r42 lab = some v ∧ ∀ k, k < 32 → (tb v k = true ↔ k < n ∧ r42 k = lab) := by
  have key := run1F (F := F) (K := n) (LC := fun f x v => m_X10_withLabel_L4 F r29 r42 lab f x v) (P := fun m v => ∀ k, k < 32 → (tb v k = true ↔ k < m ∧ r42 k = lab)) (gC := fun v => v) (by omega) ?_ ?_ 0 gath0
  · obtain ⟨v, v1, v2⟩ := key
    exact ⟨v, v2, v1⟩
  · intro m hm v hv
    have hun : ∀ f, m_X10_withLabel_L4 F r29 r42 lab (f + 1) (Int32.ofNat m) v = if r42 m = lab then m_X10_withLabel_L4 F r29 r42 lab f (Int32.ofNat (m + 1)) (v ||| ((1 : Int32) <<< (Int32.ofNat m &&& 31))) else m_X10_withLabel_L4 F r29 r42 lab f (Int32.ofNat (m + 1)) (v ||| 0) := fun f => by
      rw [m_X10_withLabel_L4, h8, if_neg (zn_nle hn hm), if_pos (zn_ok (by omega) (by omega)), zn_nat (by omega), zn_s]
    by_cases p : r42 m = lab
    · exact ⟨_, (gath (by omega) hv).1 p, fun f => (hun f).trans (if_pos p)⟩
    · refine ⟨v, (gath (by omega) hv).2 p, fun f => (hun f).trans ?_⟩
      rw [if_neg p, zor_0]
  · intro f v hv
    show m_X10_withLabel_L4 F r29 r42 lab (f + 1) (Int32.ofNat n) v = _
    rw [m_X10_withLabel_L4, h8, if_pos (Int32.le_refl _)]
/-- labels laid where they were open -/
def labU (n : Nat) (y lab : Int32) (C : Nat → Prop) (q42 q43 q42' q43' : Nat → Int32) : Prop := ∀ k, (k < n ∧ q42 k = 1 ∧ C k → q42' k = lab ∧ q43' k = y) ∧ (¬ (k < n ∧ q42 k = 1 ∧ C k) → q42' k = q42 k ∧ q43' k = q43 k)
theorem labU_0 {y lab : Int32} {C : Nat → Prop} {q42 q43 : Nat → Int32} : labU 0 y lab C q42 q43 q42 q43 := fun k => ⟨fun q => absurd q.1 (Nat.not_lt_zero _), fun _ => ⟨rfl, rfl⟩⟩
theorem labU_1 {m : Nat} {y lab : Int32} {C : Nat → Prop} {q42 q43 p42 p43 : Nat → Int32} (h : labU m y lab C q42 q43 p42 p43) : p42 m = q42 m ∧ (q42 m = 1 → C m → labU (m + 1) y lab C q42 q43 (upd p42 m lab) (upd p43 m y)) ∧ (¬ (q42 m = 1 ∧ C m) → labU (m + 1) y lab C q42 q43 p42 p43) := by
  refine ⟨((h m).2 (fun q => Nat.lt_irrefl _ q.1)).1, fun h1 h2 k => ?_, fun h1 k => ?_⟩
  · by_cases e : k = m
    · subst e
      rw [upd_at, upd_at]
      exact ⟨fun _ => ⟨rfl, rfl⟩, fun q => absurd ⟨Nat.lt_succ_self _, h1, h2⟩ q⟩
    · rw [upd_ne e, upd_ne e]
      exact ⟨fun q => (h k).1 ⟨by omega, q.2⟩, fun q => (h k).2 (fun q' => q ⟨by omega, q'.2⟩)⟩
  · by_cases e : k = m
    · subst e
      exact ⟨fun q => absurd q.2 h1, fun _ => (h k).2 (fun q => Nat.lt_irrefl _ q.1)⟩
    · exact ⟨fun q => (h k).1 ⟨by omega, q.2⟩, fun q => (h k).2 (fun q' => q ⟨by omega, q'.2⟩)⟩
theorem ev_labIn {F n : Nat} {y mo : Int32} {r29 r41 q42 q43 : Nat → Int32} (hF : 20000 ≤ F) (h8 : r29 8 = Int32.ofNat n) (hn : n ≤ 24) : ∃ z p42 p43, m_X10_labelsAll_L58 F r29 r41 mo y F 0 q42 q43 = some (z, p42, p43) ∧ labU n y 2 (fun k => (r41 k &&& (mo ^^^ (-1))) = 0) q42 q43 p42 p43 := by
  have key := run1F (F := F) (K := n) (LC := fun f x (p : (Nat → Int32) × (Nat → Int32)) => m_X10_labelsAll_L58 F r29 r41 mo y f x p.1 p.2) (P := fun m p => labU m y 2 (fun k => (r41 k &&& (mo ^^^ (-1))) = 0) q42 q43 p.1 p.2) (gC := fun p => (Int32.ofNat n, p)) (by omega) ?_ ?_ (q42, q43) labU_0
  · obtain ⟨p, v1, v2⟩ := key
    exact ⟨_, p.1, p.2, v2, v1⟩
  · intro m hm p hp
    obtain ⟨g1, g2, g3⟩ := labU_1 hp
    have gm : ¬ (Int32.ofNat m < 0 ∨ 24 ≤ (Int32.ofNat m).toNatClampNeg) := zn_ok (by omega) (by omega)
    have hun : ∀ f, m_X10_labelsAll_L58 F r29 r41 mo y (f + 1) (Int32.ofNat m) p.1 p.2 = if q42 m = 1 then (if (r41 m &&& (mo ^^^ (-1))) = 0 then m_X10_labelsAll_L58 F r29 r41 mo y f (Int32.ofNat (m + 1)) (upd p.1 m 2) (upd p.2 m y) else m_X10_labelsAll_L58 F r29 r41 mo y f (Int32.ofNat (m + 1)) p.1 p.2) else m_X10_labelsAll_L58 F r29 r41 mo y f (Int32.ofNat (m + 1)) p.1 p.2 := fun f => by
      rw [m_X10_labelsAll_L58, h8, if_neg (zn_nle hn hm)]
      simp only [if_pos gm]
      rw [zn_nat (by omega), zn_s, g1]
    by_cases c1 : q42 m = 1
    · by_cases c2 : (r41 m &&& (mo ^^^ (-1))) = 0
      · refine ⟨(upd p.1 m 2, upd p.2 m y), g2 c1 c2, fun f => (hun f).trans ?_⟩
        rw [if_pos c1, if_pos c2]
      · refine ⟨p, g3 (fun q => c2 q.2), fun f => (hun f).trans ?_⟩
        rw [if_pos c1, if_neg c2]
    · refine ⟨p, g3 (fun q => c1 q.1), fun f => (hun f).trans ?_⟩
      rw [if_neg c1]
  · intro f p hp
    show m_X10_labelsAll_L58 F r29 r41 mo y (f + 1) (Int32.ofNat n) p.1 p.2 = _
    rw [m_X10_labelsAll_L58, h8, if_pos (Int32.le_refl _)]
theorem ev_labOut {F n : Nat} {y mo : Int32} {r29 r41 q42 q43 : Nat → Int32} (hF : 20000 ≤ F) (h8 : r29 8 = Int32.ofNat n) (hn : n ≤ 24) : ∃ z p42 p43, m_X10_labelsAll_L124 F r29 r41 mo y F 0 q42 q43 = some (z, p42, p43) ∧ labU n y 0 (fun k => ¬ (r41 k &&& mo) = 0) q42 q43 p42 p43 := by
  have key := run1F (F := F) (K := n) (LC := fun f x (p : (Nat → Int32) × (Nat → Int32)) => m_X10_labelsAll_L124 F r29 r41 mo y f x p.1 p.2) (P := fun m p => labU m y 0 (fun k => ¬ (r41 k &&& mo) = 0) q42 q43 p.1 p.2) (gC := fun p => (Int32.ofNat n, p)) (by omega) ?_ ?_ (q42, q43) labU_0
  · obtain ⟨p, v1, v2⟩ := key
    exact ⟨_, p.1, p.2, v2, v1⟩
  · intro m hm p hp
    obtain ⟨g1, g2, g3⟩ := labU_1 hp
    have gm : ¬ (Int32.ofNat m < 0 ∨ 24 ≤ (Int32.ofNat m).toNatClampNeg) := zn_ok (by omega) (by omega)
    have hun : ∀ f, m_X10_labelsAll_L124 F r29 r41 mo y (f + 1) (Int32.ofNat m) p.1 p.2 = if q42 m = 1 then (if (r41 m &&& mo) = 0 then m_X10_labelsAll_L124 F r29 r41 mo y f (Int32.ofNat (m + 1)) p.1 p.2 else m_X10_labelsAll_L124 F r29 r41 mo y f (Int32.ofNat (m + 1)) (upd p.1 m 0) (upd p.2 m y)) else m_X10_labelsAll_L124 F r29 r41 mo y f (Int32.ofNat (m + 1)) p.1 p.2 := fun f => by
      rw [m_X10_labelsAll_L124, h8, if_neg (zn_nle hn hm)]
      simp only [if_pos gm]
      rw [zn_nat (by omega), zn_s, g1]
    by_cases c1 : q42 m = 1
    · by_cases c2 : (r41 m &&& mo) = 0
      · refine ⟨p, g3 (fun q => q.2 c2), fun f => (hun f).trans ?_⟩
        rw [if_pos c1, if_pos c2]
      · refine ⟨(upd p.1 m 0, upd p.2 m y), g2 c1 c2, fun f => (hun f).trans ?_⟩
        rw [if_pos c1, if_neg c2]
    · refine ⟨p, g3 (fun q => c1 q.1), fun f => (hun f).trans ?_⟩
      rw [if_neg c1]
  · intro f p hp
    show m_X10_labelsAll_L124 F r29 r41 mo y (f + 1) (Int32.ofNat n) p.1 p.2 = _
    rw [m_X10_labelsAll_L124, h8, if_pos (Int32.le_refl _)]
/-- the class's two gatherings -/
theorem ev_unattacked {F n : Nat} {r13 r14 : Nat → Int32} (hF : 20000 ≤ F) (hn : n ≤ 24) : ∃ v, m_X3_unattacked F r13 r14 (Int32.ofNat n) = some v ∧ ∀ k, k < 32 → (tb v k = true ↔ k < n ∧ (tb (r14 1) k = false ∧ tb (r14 2) k = false) ∧ (r13 k &&& (r14 2 ^^^ (-1))) = 0) := by
  have key := run1F (F := F) (K := n) (LC := fun f x v => m_X3_unattacked_L5 F r13 r14 (Int32.ofNat n) f x v) (P := fun m v => ∀ k, k < 32 → (tb v k = true ↔ k < m ∧ (tb (r14 1) k = false ∧ tb (r14 2) k = false) ∧ (r13 k &&& (r14 2 ^^^ (-1))) = 0)) (gC := fun v => v) (by omega) ?_ ?_ 0 gath0
  · obtain ⟨v, v1, v2⟩ := key
    exact ⟨v, v2, v1⟩
  · intro m hm v hv
    have hun : ∀ f, m_X3_unattacked_L5 F r13 r14 (Int32.ofNat n) (f + 1) (Int32.ofNat m) v = if (if tb (r14 1) m = true then (2 : Int32) else if tb (r14 2) m = true then 0 else 1) = 1 then (if (r13 m &&& (r14 2 ^^^ (-1))) = 0 then m_X3_unattacked_L5 F r13 r14 (Int32.ofNat n) f (Int32.ofNat (m + 1)) (v ||| ((1 : Int32) <<< (Int32.ofNat m &&& 31))) else m_X3_unattacked_L5 F r13 r14 (Int32.ofNat n) f (Int32.ofNat (m + 1)) v) else m_X3_unattacked_L5 F r13 r14 (Int32.ofNat n) f (Int32.ofNat (m + 1)) v := fun f => by
      rw [m_X3_unattacked_L5, if_neg (zn_nle hn hm), ev_labelAt (by omega), Option.bind_some, ev_attackersOf (by omega), Option.bind_some, zn_s]
    by_cases c0 : tb (r14 1) m = false ∧ tb (r14 2) m = false
    · have hl : (if tb (r14 1) m = true then (2 : Int32) else if tb (r14 2) m = true then 0 else 1) = 1 := by rw [c0.1, c0.2]; rfl
      by_cases c2 : (r13 m &&& (r14 2 ^^^ (-1))) = 0
      · refine ⟨_, (gath (by omega) hv).1 ⟨c0, c2⟩, fun f => (hun f).trans ?_⟩
        rw [if_pos hl, if_pos c2]
      · refine ⟨_, (gath (by omega) hv).2 (fun q => c2 q.2), fun f => (hun f).trans ?_⟩
        rw [if_pos hl, if_neg c2]
    · have hl : ¬ (if tb (r14 1) m = true then (2 : Int32) else if tb (r14 2) m = true then 0 else 1) = 1 := by
        cases h1 : tb (r14 1) m with
        | true => rw [if_pos rfl]; decide
        | false =>
          cases h2 : tb (r14 2) m with
          | true => decide
          | false => exact absurd ⟨h1, h2⟩ c0
      refine ⟨_, (gath (by omega) hv).2 (fun q => c0 q.1), fun f => (hun f).trans ?_⟩
      rw [if_neg hl]
  · intro f v hv
    show m_X3_unattacked_L5 F r13 r14 (Int32.ofNat n) (f + 1) (Int32.ofNat n) v = _
    rw [m_X3_unattacked_L5, if_pos (Int32.le_refl _)]
theorem ev_defeated {F n : Nat} {r13 r14 : Nat → Int32} (hF : 20000 ≤ F) (hn : n ≤ 24) : ∃ v, m_X3_defeated F r13 r14 (Int32.ofNat n) = some v ∧ ∀ k, k < 32 → (tb v k = true ↔ k < n ∧ (tb (r14 1) k = false ∧ tb (r14 2) k = false) ∧ ¬ (r13 k &&& r14 1) = 0) := by
  have key := run1F (F := F) (K := n) (LC := fun f x v => m_X3_defeated_L5 F r13 r14 (Int32.ofNat n) f x v) (P := fun m v => ∀ k, k < 32 → (tb v k = true ↔ k < m ∧ (tb (r14 1) k = false ∧ tb (r14 2) k = false) ∧ ¬ (r13 k &&& r14 1) = 0)) (gC := fun v => v) (by omega) ?_ ?_ 0 gath0
  · obtain ⟨v, v1, v2⟩ := key
    exact ⟨v, v2, v1⟩
  · intro m hm v hv
    have hun : ∀ f, m_X3_defeated_L5 F r13 r14 (Int32.ofNat n) (f + 1) (Int32.ofNat m) v = if (if tb (r14 1) m = true then (2 : Int32) else if tb (r14 2) m = true then 0 else 1) = 1 then (if (r13 m &&& r14 1) = 0 then m_X3_defeated_L5 F r13 r14 (Int32.ofNat n) f (Int32.ofNat (m + 1)) v else m_X3_defeated_L5 F r13 r14 (Int32.ofNat n) f (Int32.ofNat (m + 1)) (v ||| ((1 : Int32) <<< (Int32.ofNat m &&& 31)))) else m_X3_defeated_L5 F r13 r14 (Int32.ofNat n) f (Int32.ofNat (m + 1)) v := fun f => by
      rw [m_X3_defeated_L5, if_neg (zn_nle hn hm), ev_labelAt (by omega), Option.bind_some, ev_attackersOf (by omega), Option.bind_some, zn_s]
    by_cases c0 : tb (r14 1) m = false ∧ tb (r14 2) m = false
    · have hl : (if tb (r14 1) m = true then (2 : Int32) else if tb (r14 2) m = true then 0 else 1) = 1 := by rw [c0.1, c0.2]; rfl
      by_cases c2 : (r13 m &&& r14 1) = 0
      · refine ⟨_, (gath (by omega) hv).2 (fun q => q.2 c2), fun f => (hun f).trans ?_⟩
        rw [if_pos hl, if_pos c2]
      · refine ⟨_, (gath (by omega) hv).1 ⟨c0, c2⟩, fun f => (hun f).trans ?_⟩
        rw [if_pos hl, if_neg c2]
    · have hl : ¬ (if tb (r14 1) m = true then (2 : Int32) else if tb (r14 2) m = true then 0 else 1) = 1 := by
        cases h1 : tb (r14 1) m with
        | true => rw [if_pos rfl]; decide
        | false =>
          cases h2 : tb (r14 2) m with
          | true => decide
          | false => exact absurd ⟨h1, h2⟩ c0
      refine ⟨_, (gath (by omega) hv).2 (fun q => c0 q.1), fun f => (hun f).trans ?_⟩
      rw [if_neg hl]
  · intro f v hv
    show m_X3_defeated_L5 F r13 r14 (Int32.ofNat n) (f + 1) (Int32.ofNat n) v = _
    rw [m_X3_defeated_L5, if_pos (Int32.le_refl _)]
theorem ev_noteRound {F : Nat} {y m : Int32} {r15 : Nat → Int32} (hF : 20000 ≤ F) : ∃ q, m_X3_noteRound F r15 y m = some q ∧ ∀ k, k < 24 → q k = if tb m k = true then y else r15 k := by
  have key := run1F (F := F) (K := 24) (LC := fun f x q => m_X3_noteRound_L2 F y m f x q) (P := fun i q => (∀ k, k < i → q k = if tb m k = true then y else r15 k) ∧ ∀ k, i ≤ k → q k = r15 k) (gC := fun v => v) (by omega) ?_ ?_ r15 ⟨fun k h => absurd h (Nat.not_lt_zero _), fun k _ => rfl⟩
  · obtain ⟨v, v1, v2⟩ := key
    exact ⟨v, v2, v1.1⟩
  · intro i hi q ⟨p1, p2⟩
    have hun : ∀ f, m_X3_noteRound_L2 F y m (f + 1) (Int32.ofNat i) q = if tb m i = false then m_X3_noteRound_L2 F y m f (Int32.ofNat (i + 1)) q else m_X3_noteRound_L2 F y m f (Int32.ofNat (i + 1)) (upd q i y) := fun f => by
      rw [m_X3_noteRound_L2, if_neg (zn_lt24 hi), if_pos (zn_ok hi (by omega)), zn_nat (by omega), zn_s]
      cases hb : tb m i with
      | false => rw [if_pos ((bit_0 _ (by omega)).mpr hb), if_pos rfl]
      | true => rw [if_neg (fun w => by rw [(bit_0 _ (by omega)).mp w] at hb; cases hb), if_neg (by decide)]
    cases hb : tb m i with
    | false =>
      refine ⟨q, ⟨fun k hk => ?_, fun k hk => p2 k (by omega)⟩, fun f => (hun f).trans (if_pos hb)⟩
      by_cases e : k = i
      · subst e; rw [hb, p2 k (Nat.le_refl _)]; rfl
      · exact p1 k (by omega)
    | true =>
      refine ⟨upd q i y, ⟨fun k hk => ?_, fun k hk => ?_⟩, fun f => (hun f).trans (if_neg (by rw [hb]; decide))⟩
      · by_cases e : k = i
        · subst e; rw [hb, upd_at]; rfl
        · rw [upd_ne e]; exact p1 k (by omega)
      · rw [upd_ne (by omega)]; exact p2 k (by omega)
  · intro f v hv
    show m_X3_noteRound_L2 F y m (f + 1) (Int32.ofNat 24) v = _
    rw [m_X3_noteRound_L2, if_pos (by decide)]

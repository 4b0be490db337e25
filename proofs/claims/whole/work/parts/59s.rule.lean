/-! a rule told -/
def shp3 (z2 z3 z4 : Int32) : Prop := (z3 = 0 ∨ (z2 ≠ 0 ∧ z3 ≠ z2)) ∧ (z4 = 0 ∨ (z3 ≠ 0 ∧ z4 ≠ z3 ∧ z4 ≠ z2))
theorem ev_shapeC {α : Type} {F : Nat} {z2 z3 z4 : Int32} {T B : Option α} : (shp3 z2 z3 z4 → Option.bind (m_X9_followsInBody F z3 z2) (fun zu6 => if zu6 = 0 then B else Option.bind (m_X9_followsInBody F z4 z3) (fun zu7 => if zu7 = 0 then B else (if z4 = 0 then T else (if z4 = z2 then B else T)))) = T) ∧ (¬ shp3 z2 z3 z4 → Option.bind (m_X9_followsInBody F z3 z2) (fun zu6 => if zu6 = 0 then B else Option.bind (m_X9_followsInBody F z4 z3) (fun zu7 => if zu7 = 0 then B else (if z4 = 0 then T else (if z4 = z2 then B else T)))) = B) := by
  unfold m_X9_followsInBody shp3
  by_cases h2 : z2 = 0 <;> by_cases h3 : z3 = 0 <;> by_cases h4 : z4 = 0 <;> by_cases h32 : z3 = z2 <;> by_cases h43 : z4 = z3 <;> by_cases h42 : z4 = z2 <;> simp_all
theorem ev_shapeM {z2 z3 z4 : Int32} : ∃ x y : Int32, (if z2 = 0 then (if z3 = 0 then (if z4 = 0 then (some (1 : Int32)) else (some (0 : Int32))) else (some (0 : Int32))) else (if z3 = 0 then (if z4 = 0 then (some (1 : Int32)) else (some (0 : Int32))) else (some (1 : Int32)))) = some x ∧ (if z2 = 0 then (if z3 = 0 then (some (0 : Int32)) else (if z3 = z4 then (some (1 : Int32)) else (some (0 : Int32)))) else (if z2 = z3 then (some (1 : Int32)) else (if z2 = z4 then (some (1 : Int32)) else (if z3 = 0 then (some (0 : Int32)) else (if z3 = z4 then (some (1 : Int32)) else (some (0 : Int32))))))) = some y ∧ (shp3 z2 z3 z4 → x ≠ 0 ∧ y = 0) ∧ (¬ shp3 z2 z3 z4 → x = 0 ∨ y ≠ 0) := by
  have e32 : (z2 = z3) = (z3 = z2) := propext ⟨Eq.symm, Eq.symm⟩
  have e42 : (z2 = z4) = (z4 = z2) := propext ⟨Eq.symm, Eq.symm⟩
  have e43 : (z3 = z4) = (z4 = z3) := propext ⟨Eq.symm, Eq.symm⟩
  unfold shp3
  by_cases h2 : z2 = 0 <;> by_cases h3 : z3 = 0 <;> by_cases h4 : z4 = 0 <;> by_cases h32 : z3 = z2 <;> by_cases h43 : z4 = z3 <;> by_cases h42 : z4 = z2 <;> simp_all
theorem Sta_keep5 {F n : Nat} {X X2 : Nat → Nat → Int32} {b29 : Nat → Int32} (hS : Sta F X n) (h2 : ∀ j, j ≠ 46 → X2 j = X j) (h29 : b29 2 = Int32.ofNat n) : Sta F (up (up (up (up (up (up X2 29 b29) 31 (X 31)) 32 (X 32)) 33 (X 33)) 34 (X 34)) 35 (X 35)) n := Sta_ext (X := X) (fun j hj => by
  unfold idl at hj
  by_cases e5 : j = 35
  · subst e5; exact up_at _ _ _
  · rw [up_ne e5]
    by_cases e4 : j = 34
    · subst e4; exact up_at _ _ _
    · rw [up_ne e4]
      by_cases e3 : j = 33
      · subst e3; exact up_at _ _ _
      · rw [up_ne e3]
        by_cases e2 : j = 32
        · subst e2; exact up_at _ _ _
        · rw [up_ne e2]
          by_cases e1 : j = 31
          · subst e1; exact up_at _ _ _
          · rw [up_ne e1, up_ne (by omega)]
            exact h2 j (by omega)) (by
  rw [up_ne (by decide), up_ne (by decide), up_ne (by decide), up_ne (by decide), up_ne (by decide), up_at]; exact h29.trans hS.2.1.symm) hS
theorem ruX_at {X : Nat → Nat → Int32} {n : Nat} {zh z1 z2 z3 zp : Int32} : (∀ j, j ≠ 0 → j ≠ 4 → j ≠ kaOf (n + 1) → j ≠ rid n → ruX X n zh z1 z2 z3 zp j = X j) ∧ ruX X n zh z1 z2 z3 zp 0 = fgt (X 0) ∧ ruX X n zh z1 z2 z3 zp 4 2 = Int32.ofNat (n + 1) ∧ ruX X n zh z1 z2 z3 zp (kaOf (n + 1)) = lrow (n + 1) ∧ ruX X n zh z1 z2 z3 zp (rid n) = rrow zh z1 z2 z3 zp := by
  have hr := rid_ge n
  have hne := rid_ne n
  have hk : kaOf (n + 1) = 48 ∨ kaOf (n + 1) = 59 := by
    unfold kaOf
    by_cases h : n + 1 ≤ 10
    · rw [if_pos h]; exact Or.inl rfl
    · rw [if_neg h]; exact Or.inr rfl
  unfold ruX
  refine ⟨fun j h0 h4 hj hjr => ?_, up_at _ _ _, ?_, ?_, ?_⟩
  · rw [up_ne h0, addX_ne h4 hj]
    unfold modX
    rw [up_ne h4, up_ne hjr]
  · rw [up_ne (by decide), addX_4]
    show (if (2 : Nat) = 2 then Int32.ofNat (n + 1) else _) = _
    rw [if_pos rfl]
  · rw [up_ne (by omega), addX_ka]
  · rw [up_ne (by omega), addX_ne (by omega) (by omega)]
    unfold modX
    rw [up_ne (by omega), up_at]
theorem Sta_ruled {F n j p : Nat} {X X2 : Nat → Nat → Int32} {z1 z2 z3 z4 z5 : Int32} {b29 : Nat → Int32} (hS : Sta F X n) (hn : n < 12) (hj : j < 21) (hj10 : j ≠ 10) (ej : z1 = lit j) (hp : p < 10) (ep : z5 = Int32.ofNat p) (h2 : ∀ j, j ≠ 46 → X2 j = (ruX X n z1 z2 z3 z4 z5) j) (h29 : b29 2 = Int32.ofNat (n + 1)) :
    Sta F (up (up (up (up (up (up X2 29 b29) 31 (upd (X 31) n z1)) 32 (upd (upd (upd (X 32) (3 * n) z2) (3 * n + 1) z3) (3 * n + 2) z4)) 33 (upd (X 33) n z5)) 34 (upd (X 34) n 0)) 35 (upd (X 35) n 1)) (n + 1) := by
  obtain ⟨r1, r2, r3, r4, r5⟩ := ruX_at (X := X) (n := n) (zh := z1) (z1 := z2) (z2 := z3) (z3 := z4) (zp := z5)
  have hr := rid_ge n
  have hne := rid_ne n
  have hk : (n + 1 ≤ 10 ∧ kaOf (n + 1) = 48) ∨ (¬ n + 1 ≤ 10 ∧ kaOf (n + 1) = 59) := by
    unfold kaOf
    by_cases h : n + 1 ≤ 10
    · exact Or.inl ⟨h, if_pos h⟩
    · exact Or.inr ⟨h, if_neg h⟩
  have hz : ∀ k, k ≠ 29 → k ≠ 31 → k ≠ 32 → k ≠ 33 → k ≠ 34 → k ≠ 35 → k ≠ 46 → (up (up (up (up (up (up X2 29 b29) 31 (upd (X 31) n z1)) 32 (upd (upd (upd (X 32) (3 * n) z2) (3 * n + 1) z3) (3 * n + 2) z4)) 33 (upd (X 33) n z5)) 34 (upd (X 34) n 0)) 35 (upd (X 35) n 1)) k = ruX X n z1 z2 z3 z4 z5 k := fun k k1 k2 k3 k4 k5 k6 k7 => by
    rw [up_ne k6, up_ne k5, up_ne k4, up_ne k3, up_ne k2, up_ne k1]; exact h2 k k7
  have hzX : ∀ k, k ≠ 29 → k ≠ 31 → k ≠ 32 → k ≠ 33 → k ≠ 34 → k ≠ 35 → k ≠ 46 → k ≠ 0 → k ≠ 4 → k ≠ kaOf (n + 1) → k ≠ rid n → (up (up (up (up (up (up X2 29 b29) 31 (upd (X 31) n z1)) 32 (upd (upd (upd (X 32) (3 * n) z2) (3 * n + 1) z3) (3 * n + 2) z4)) 33 (upd (X 33) n z5)) 34 (upd (X 34) n 0)) 35 (upd (X 35) n 1)) k = X k := fun k k1 k2 k3 k4 k5 k6 k7 k8 k9 k10 k11 => (hz k k1 k2 k3 k4 k5 k6 k7).trans (r1 k k8 k9 k10 k11)
  generalize hZ : (up (up (up (up (up (up X2 29 b29) 31 (upd (X 31) n z1)) 32 (upd (upd (upd (X 32) (3 * n) z2) (3 * n + 1) z3) (3 * n + 2) z4)) 33 (upd (X 33) n z5)) 34 (upd (X 34) n 0)) 35 (upd (X 35) n 1)) = Z at hz hzX ⊢
  have z31 : Z 31 = upd (X 31) n z1 := by rw [← hZ, up_ne (by decide), up_ne (by decide), up_ne (by decide), up_ne (by decide), up_at]
  have z32 : Z 32 = upd (upd (upd (X 32) (3 * n) z2) (3 * n + 1) z3) (3 * n + 2) z4 := by rw [← hZ, up_ne (by decide), up_ne (by decide), up_ne (by decide), up_at]
  have z33 : Z 33 = upd (X 33) n z5 := by rw [← hZ, up_ne (by decide), up_ne (by decide), up_at]
  have z34 : Z 34 = upd (X 34) n 0 := by rw [← hZ, up_ne (by decide), up_at]
  have z35 : Z 35 = upd (X 35) n 1 := by rw [← hZ, up_at]
  have z29 : Z 29 = b29 := by rw [← hZ, up_ne (by decide), up_ne (by decide), up_ne (by decide), up_ne (by decide), up_ne (by decide), up_at]
  have z4' : Z 4 2 = Int32.ofNat (n + 1) := by rw [hz 4 (by decide) (by decide) (by decide) (by decide) (by decide) (by decide) (by decide)]; exact r3
  have zs : ∀ k, 1 ≤ k → k ≤ 30 → k ≠ 4 → k ≠ 29 → Z k = X k := fun k k1 k2 k3 k4 => hzX k k4 (by omega) (by omega) (by omega) (by omega) (by omega) (by omega) (by omega) k3 (by omega) (by omega)
  obtain ⟨l1, l2, l3, l4⟩ := hS.1
  refine Sta_new (n' := n + 1) (r0 := X 0) hS ?_ (by rw [z29]; exact h29) (by rw [zs 2 (by decide) (by decide) (by decide) (by decide), zs 30 (by decide) (by decide) (by decide) (by decide)]; exact hS.2.2.1) (by rw [zs 1 (by decide) (by decide) (by decide) (by decide), zs 30 (by decide) (by decide) (by decide) (by decide)]; exact hS.2.2.2.1) ?_ (zs 19 (by decide) (by decide) (by decide) (by decide)) (zs 20 (by decide) (by decide) (by decide) (by decide)) (zs 23 (by decide) (by decide) (by decide) (by decide)) (zs 24 (by decide) (by decide) (by decide) (by decide)) ((hz 0 (by decide) (by decide) (by decide) (by decide) (by decide) (by decide) (by decide)).trans r2)
  · refine ⟨by omega, z4', fun _ => ?_, fun h11 => ?_⟩
    · rcases hk with ⟨hk1, hk2⟩ | ⟨hk1, hk2⟩
      · rw [hz 48 (by decide) (by decide) (by decide) (by decide) (by decide) (by decide) (by decide), ← hk2, r4, Nat.min_eq_left hk1]
      · rw [hzX 48 (by decide) (by decide) (by decide) (by decide) (by decide) (by decide) (by decide) (by decide) (by decide) (by omega) (by omega), l3 (by omega), Nat.min_eq_right (by omega), Nat.min_eq_right (by omega)]
    · rcases hk with ⟨hk1, hk2⟩ | ⟨hk1, hk2⟩
      · omega
      · rw [hz 59 (by decide) (by decide) (by decide) (by decide) (by decide) (by decide) (by decide), ← hk2, r4]
  · rw [z31, z32, z33, z34, z35]
    intro ρ hρ
    rw [z4', aid_rid (by omega) hρ]
    by_cases e : ρ = n
    · subst e
      rw [hz (rid ρ) (by omega) (by omega) (by omega) (by omega) (by omega) (by omega) (by omega), r5]
      refine ⟨j, 10, p, hj, hj10, (upd_at _ _ _).trans ej, by decide, (upd_at _ _ _).trans rfl, hp, (upd_at _ _ _).trans ep, (upd_at _ _ _).symm, ?_, ?_, (upd_at _ _ _).symm, (upd_at _ _ _).symm, (upd_at _ _ _).symm, (upd_at _ _ _).symm, Or.inr (upd_at _ _ _)⟩
      · rw [upd_ne (by omega), upd_ne (by omega)]; exact (upd_at _ _ _).symm
      · rw [upd_ne (by omega)]; exact (upd_at _ _ _).symm
    · have hρn : ρ < n := by omega
      have hg := rid_ge ρ
      have hg2 := rid_ne ρ
      obtain ⟨j', e', p', g1, g2, g3, g4, g5, g6, g7, g8, g9, g10, g11, g12, g13, g14, g15⟩ := hS.2.2.2.2.1 ρ hρn
      rw [l2, aid_rid (by omega) hρn] at g8 g9 g10 g11 g12 g13 g14
      rw [hzX (rid ρ) (by omega) (by omega) (by omega) (by omega) (by omega) (by omega) (by omega) (by omega) (by omega) (by omega) (fun q => e (rid_inj (by omega) (by omega) q)), upd_ne e, upd_ne e, upd_ne e, upd_ne e]
      refine ⟨j', e', p', g1, g2, g3, g4, g5, g6, g7, g8, ?_, ?_, ?_, g12, g13, g14, g15⟩
      · rw [upd_ne (by omega), upd_ne (by omega), upd_ne (by omega)]; exact g9
      · rw [upd_ne (by omega), upd_ne (by omega), upd_ne (by omega)]; exact g10
      · rw [upd_ne (by omega), upd_ne (by omega), upd_ne (by omega)]; exact g11

/-! what stands between two calls -/
/-- how many facts -/
def nfc (r : Nat → Int32) : Nat → Nat
  | 0 => 0
  | k + 1 => nfc r k + (if r k = 0 then 0 else 1)
/-- the class's built rows hold what the model would build -/
def BltR (F n : Nat) (r6 r7 r8 r9 r10 r13 r14 r15 r16 r19 r20 r23 r24 r30 r31 r32 r33 r34 r35 : Nat → Int32) : Prop := ∃ m, m ≤ 24 ∧ r6 5 = Int32.ofNat m ∧ (r6 6 = 0 ∨ r6 6 = 1) ∧
  (∀ t : Six, t.1 2 = Int32.ofNat n → ∃ t' : Six, m_X10_builds F t.1 r30 r31 r32 r35 t.2.1 t.2.2.1 t.2.2.2.1 t.2.2.2.2.1 t.2.2.2.2.2 = some t' ∧ simB m r6 r7 r8 r9 r10 t'.1 t'.2.1 t'.2.2.1 t'.2.2.2.1 t'.2.2.2.2.1 ∧ (∀ k, k ≠ 8 → k ≠ 9 → t'.1 k = t.1 k) ∧ mkOK m t'.2.2.1 ∧ (r6 6 = 0 → atR m (attP r33 r34 t'.2.1 t'.2.2.1 t'.2.2.2.2.2) r13)) ∧
  (r6 6 = 0 → (∀ r29 r41 r42 r43 : Nat → Int32, r29 8 = Int32.ofNat m → (∀ k, k < m → r13 k = r41 k) → ∃ q42 q43, m_X10_labelsAll F r29 r41 r42 r43 = some (q42, q43) ∧ LR m (r14 1) (r14 2) r15 q42 q43) ∧ tabR (min m 14) r13 r16 r19 r20 r23 r24)
/-- a list of sets that has been found -/
def SetR (r6 r13 r25 r26 : Nat → Int32) : Prop := ∃ m L, m ≤ 14 ∧ r6 5 = Int32.ofNat m ∧ rL m r25 r26 L ∧ isPL (AA m r13) m 0 (2 ^ m) L
def Sta (F : Nat) (X : Nat → Nat → Int32) (n : Nat) : Prop := lst X n ∧ X 29 2 = Int32.ofNat n ∧ faR (X 2) (X 30) ∧ X 1 1 = Int32.ofNat (nfc (X 30) 21) ∧ ruR n X (X 31) (X 32) (X 33) (X 34) (X 35) ∧ (X 19 0 = 0 ∧ X 20 0 = 0 ∧ X 23 0 = 0 ∧ X 24 0 = 0) ∧ (X 0 6 = 0 → X 0 7 = 0 ∧ X 0 8 = 0) ∧ (X 0 6 ≠ 0 → BltR F n (X 6) (X 7) (X 8) (X 9) (X 10) (X 13) (X 14) (X 15) (X 16) (X 19) (X 20) (X 23) (X 24) (X 30) (X 31) (X 32) (X 33) (X 34) (X 35)) ∧ (X 0 7 ≠ 0 → SetR (X 6) (X 13) (X 25) (X 26)) ∧ (X 0 8 ≠ 0 → SetR (X 6) (X 13) (X 27) (X 28))
theorem Sta.lst {F n : Nat} {X : Nat → Nat → Int32} (h : Sta F X n) : lst X n := h.1
theorem aid_far (sz i : Int32) : aid sz i = 5 ∨ 47 ≤ aid sz i := by
  unfold aid
  split
  · exact Or.inl rfl
  · split
    · exact Or.inl rfl
    · exact Or.inr (rid_ge _)
def idl (j : Nat) : Prop := j ≤ 28 ∨ (30 ≤ j ∧ j ≤ 35) ∨ 47 ≤ j
theorem ruR_ext {n : Nat} {X Y : Nat → Nat → Int32} (h : ∀ j, idl j → Y j = X j) {r31 r32 r33 r34 r35 : Nat → Int32} (hr : ruR n X r31 r32 r33 r34 r35) : ruR n Y r31 r32 r33 r34 r35 := by
  intro ρ hρ
  have e4 : Y 4 = X 4 := h 4 (Or.inl (by decide))
  have ea : ∀ i, Y (aid (X 4 2) i) = X (aid (X 4 2) i) := fun i => h _ (by
    rcases aid_far (X 4 2) i with q | q
    · exact Or.inl (by omega)
    · exact Or.inr (Or.inr q))
  rw [e4, ea]
  exact hr ρ hρ
theorem Sta_ext {F n : Nat} {X Y : Nat → Nat → Int32} (h : ∀ j, idl j → Y j = X j) (h29 : Y 29 2 = X 29 2) (hS : Sta F X n) : Sta F Y n := by
  obtain ⟨s1, s2, s3, s4, s5, s6, s7, s8, s9, s10⟩ := hS
  have e : ∀ j, j ≤ 28 → Y j = X j := fun j hj => h j (Or.inl hj)
  have e' : ∀ j, 30 ≤ j → j ≤ 35 → Y j = X j := fun j h1 h2 => h j (Or.inr (Or.inl ⟨h1, h2⟩))
  unfold Sta
  rw [e 0 (by decide), e 1 (by decide), e 2 (by decide), e 6 (by decide), e 7 (by decide), e 8 (by decide), e 9 (by decide), e 10 (by decide), e 13 (by decide), e 14 (by decide), e 15 (by decide), e 16 (by decide), e 19 (by decide), e 20 (by decide), e 23 (by decide), e 24 (by decide), e 25 (by decide), e 26 (by decide), e 27 (by decide), e 28 (by decide), e' 30 (by decide) (by decide), e' 31 (by decide) (by decide), e' 32 (by decide) (by decide), e' 33 (by decide) (by decide), e' 34 (by decide) (by decide), e' 35 (by decide) (by decide), h29]
  refine ⟨?_, s2, s3, s4, ruR_ext h s5, s6, s7, s8, s9, s10⟩
  obtain ⟨l1, l2, l3, l4⟩ := s1
  unfold lst
  rw [e 4 (by decide), h 48 (Or.inr (Or.inr (by decide))), h 59 (Or.inr (Or.inr (by decide)))]
  exact ⟨l1, l2, l3, l4⟩
theorem nfc_0 : ∀ k, nfc (fun _ => 0) k = 0 := by
  intro k
  induction k with
  | zero => rfl
  | succ k ih =>
    show nfc (fun _ => 0) k + (if (0 : Int32) = 0 then 0 else 1) = 0
    rw [ih, if_pos rfl]
theorem Sta_0 {F : Nat} {X : Nat → Nat → Int32} (hX : ∀ j, j < 46 → X j = fun _ => 0) : Sta F X 0 := by
  unfold Sta
  rw [hX 0 (by decide), hX 1 (by decide), hX 2 (by decide), hX 19 (by decide), hX 20 (by decide), hX 23 (by decide), hX 24 (by decide), hX 29 (by decide), hX 30 (by decide)]
  refine ⟨⟨by decide, ?_, fun q => absurd q (by decide), fun q => absurd q (by decide)⟩, rfl, fun j hj => ⟨rfl, Or.inl rfl, fun _ => rfl⟩, ?_, fun ρ hρ => absurd hρ (Nat.not_lt_zero _), ⟨rfl, rfl, rfl, rfl⟩, fun _ => ⟨rfl, rfl⟩, fun q => absurd rfl q, fun q => absurd rfl q, fun q => absurd rfl q⟩
  · rw [hX 4 (by decide)]; rfl
  · rw [nfc_0]; rfl
abbrev B17 := (Nat → Int32) × (Nat → Int32) × (Nat → Int32) × (Nat → Int32) × (Nat → Int32) × (Nat → Int32) × (Nat → Int32) × (Nat → Int32) × (Nat → Int32) × (Nat → Int32) × (Nat → Int32) × (Nat → Int32) × (Nat → Int32) × (Nat → Int32) × (Nat → Int32) × (Nat → Int32) × (Nat → Int32)
def upB (X : Nat → Nat → Int32) (R : B17) : Nat → Nat → Int32 := up (up (up (up (up (up (up (up (up (up (up (up (up (up (up (up (up X 0 R.1) 6 R.2.1) 7 R.2.2.1) 8 R.2.2.2.1) 9 R.2.2.2.2.1) 10 R.2.2.2.2.2.1) 11 R.2.2.2.2.2.2.1) 13 R.2.2.2.2.2.2.2.1) 14 R.2.2.2.2.2.2.2.2.1) 15 R.2.2.2.2.2.2.2.2.2.1) 16 R.2.2.2.2.2.2.2.2.2.2.1) 18 R.2.2.2.2.2.2.2.2.2.2.2.1) 19 R.2.2.2.2.2.2.2.2.2.2.2.2.1) 20 R.2.2.2.2.2.2.2.2.2.2.2.2.2.1) 22 R.2.2.2.2.2.2.2.2.2.2.2.2.2.2.1) 23 R.2.2.2.2.2.2.2.2.2.2.2.2.2.2.2.1) 24 R.2.2.2.2.2.2.2.2.2.2.2.2.2.2.2.2
theorem upB_0 {X : Nat → Nat → Int32} {R : B17} : upB X R 0 = R.1 := rfl
theorem upB_6 {X : Nat → Nat → Int32} {R : B17} : upB X R 6 = R.2.1 := rfl
theorem upB_7 {X : Nat → Nat → Int32} {R : B17} : upB X R 7 = R.2.2.1 := rfl
theorem upB_8 {X : Nat → Nat → Int32} {R : B17} : upB X R 8 = R.2.2.2.1 := rfl
theorem upB_9 {X : Nat → Nat → Int32} {R : B17} : upB X R 9 = R.2.2.2.2.1 := rfl
theorem upB_10 {X : Nat → Nat → Int32} {R : B17} : upB X R 10 = R.2.2.2.2.2.1 := rfl
theorem upB_11 {X : Nat → Nat → Int32} {R : B17} : upB X R 11 = R.2.2.2.2.2.2.1 := rfl
theorem upB_13 {X : Nat → Nat → Int32} {R : B17} : upB X R 13 = R.2.2.2.2.2.2.2.1 := rfl
theorem upB_14 {X : Nat → Nat → Int32} {R : B17} : upB X R 14 = R.2.2.2.2.2.2.2.2.1 := rfl
theorem upB_15 {X : Nat → Nat → Int32} {R : B17} : upB X R 15 = R.2.2.2.2.2.2.2.2.2.1 := rfl
theorem upB_16 {X : Nat → Nat → Int32} {R : B17} : upB X R 16 = R.2.2.2.2.2.2.2.2.2.2.1 := rfl
theorem upB_18 {X : Nat → Nat → Int32} {R : B17} : upB X R 18 = R.2.2.2.2.2.2.2.2.2.2.2.1 := rfl
theorem upB_19 {X : Nat → Nat → Int32} {R : B17} : upB X R 19 = R.2.2.2.2.2.2.2.2.2.2.2.2.1 := rfl
theorem upB_20 {X : Nat → Nat → Int32} {R : B17} : upB X R 20 = R.2.2.2.2.2.2.2.2.2.2.2.2.2.1 := rfl
theorem upB_22 {X : Nat → Nat → Int32} {R : B17} : upB X R 22 = R.2.2.2.2.2.2.2.2.2.2.2.2.2.2.1 := rfl
theorem upB_23 {X : Nat → Nat → Int32} {R : B17} : upB X R 23 = R.2.2.2.2.2.2.2.2.2.2.2.2.2.2.2.1 := rfl
theorem upB_24 {X : Nat → Nat → Int32} {R : B17} : upB X R 24 = R.2.2.2.2.2.2.2.2.2.2.2.2.2.2.2.2 := rfl
theorem upB_ne {X : Nat → Nat → Int32} {R : B17} {j : Nat} (h : 25 ≤ j ∨ j = 1 ∨ j = 2 ∨ j = 4 ∨ j = 5) : upB X R j = X j := by
  unfold upB
  rw [up_ne (by omega), up_ne (by omega), up_ne (by omega), up_ne (by omega), up_ne (by omega), up_ne (by omega), up_ne (by omega), up_ne (by omega), up_ne (by omega), up_ne (by omega), up_ne (by omega), up_ne (by omega), up_ne (by omega), up_ne (by omega), up_ne (by omega), up_ne (by omega), up_ne (by omega)]
theorem ruR_upB {n : Nat} {X : Nat → Nat → Int32} {R : B17} {r31 r32 r33 r34 r35 : Nat → Int32} (hr : ruR n X r31 r32 r33 r34 r35) : ruR n (upB X R) r31 r32 r33 r34 r35 := by
  intro ρ hρ
  have e4 : upB X R 4 = X 4 := upB_ne (by omega)
  have ea : ∀ i, upB X R (aid (X 4 2) i) = X (aid (X 4 2) i) := fun i => upB_ne (by
    rcases aid_far (X 4 2) i with q | q <;> omega)
  rw [e4, ea]
  exact hr ρ hρ
theorem lst_upB {n : Nat} {X : Nat → Nat → Int32} {R : B17} (h : lst X n) : lst (upB X R) n := by
  obtain ⟨l1, l2, l3, l4⟩ := h
  unfold lst
  rw [upB_ne (j := 4) (by omega), upB_ne (j := 48) (by omega), upB_ne (j := 59) (by omega)]
  exact ⟨l1, l2, l3, l4⟩
/-- built: the class's rows stand -/
theorem built {F n : Nat} {X : Nat → Nat → Int32} (hF : 20000 ≤ F) (hS : Sta F X n) : ∃ R : B17, m_X9_build F X (X 0) (X 2) (X 4) (X 6) (X 7) (X 8) (X 9) (X 10) (X 11) (X 13) (X 14) (X 15) (X 16) (X 18) (X 19) (X 20) (X 22) (X 23) (X 24) = some R ∧ Sta F (upB X R) n ∧ R.1 6 ≠ 0 := by
  have hS' := hS
  obtain ⟨s1, s2, s3, s4, s5, ⟨z1, z2, z3, z4⟩, s7, s8, s9, s10⟩ := hS
  by_cases h0 : X 0 6 = 0
  · obtain ⟨h07, h08⟩ := s7 h0
    have hρn : n ≤ 12 := s1.1
    have hr4 : X 4 2 = Int32.ofNat n := s1.2.1
    -- the class's run, and any run of the model beside it
    have both := fun (t : Six) (ht : t.1 2 = Int32.ofNat n) => build_both (F := F) (s := (X 6, X 7, X 8, X 9, X 10, X 11)) (t := t) hF hρn hr4 ht s5 s3
    obtain ⟨c, t0, hB0, hc0, -⟩ := both (X 29, X 36, X 37, X 38, X 39, X 40) s2
    have hc0 : m_X0_build F X (X 2) (X 4) (X 6) (X 7) (X 8) (X 9) (X 10) (X 11) = some c := hc0
    obtain ⟨m, b1, b2, b3, b4⟩ := hB0
    have b1' := b1
    obtain ⟨hm, i2, i3, i4, i5, i6⟩ := b1'
    have hall : ∀ t : Six, t.1 2 = Int32.ofNat n → ∃ t' : Six, m_X10_builds F t.1 (X 30) (X 31) (X 32) (X 35) t.2.1 t.2.2.1 t.2.2.2.1 t.2.2.2.2.1 t.2.2.2.2.2 = some t' ∧ simB m c.1 c.2.1 c.2.2.1 c.2.2.2.1 c.2.2.2.2.1 t'.1 t'.2.1 t'.2.2.1 t'.2.2.2.1 t'.2.2.2.2.1 ∧ (∀ k, k ≠ 8 → k ≠ 9 → t'.1 k = t.1 k) ∧ mkOK m t'.2.2.1 ∧ validB n m (X 31) t'.2.1 t'.2.2.1 t'.2.2.2.1 t'.2.2.2.2.1 t'.2.2.2.2.2 := by
      intro t ht
      obtain ⟨c', t', hB, hc, hm'⟩ := both t ht
      have hc : m_X0_build F X (X 2) (X 4) (X 6) (X 7) (X 8) (X 9) (X 10) (X 11) = some c' := hc
      rw [hc0] at hc
      have e := Option.some.inj hc
      subst e
      obtain ⟨m', d1, d2, d3, d4⟩ := hB
      have em : m' = m := (zn_eq (by have := d1.1; omega) (by omega)).mp (d1.2.1.symm.trans i2)
      subst em
      exact ⟨t', hm', d1, d4, fun i hi => (d2 i hi).2.1.imp id (fun ⟨ρ, q1, q2, _⟩ => ⟨ρ, by omega, q2⟩), d2⟩
    by_cases h6 : c.1 6 = 0
    · obtain ⟨t1, e1, e2, e3, e4, e5⟩ := hall (X 29, X 36, X 37, X 38, X 39, X 40) s2
      obtain ⟨q13, a1, a2⟩ := atts_all (F := F) (RR := X) (r13 := X 13) (r33 := X 33) (r34 := X 34) (r35 := X 35) (r32 := X 32) hF hρn s5 e2 e5
      obtain ⟨q14, q15, q42, q43, l1, l2, l3⟩ := labs_both (F := F) (r13 := q13) (r14 := X 14) (r15 := X 15) (r29 := t1.1) (r41 := q13) (r42 := X 42) (r43 := X 43) hF e2.2.2.1 hm (fun k _ => rfl)
      obtain ⟨q16, q18, q19, q20, q22, q23, q24, p1, p2, p3, p4, p5, p6⟩ := prep_all (F := F) (r13 := q13) (r16 := X 16) (r18 := X 18) (r22 := X 22) hF hm z1 z2 z3 z4
      refine ⟨(upd (X 0) 6 1, c.1, c.2.1, c.2.2.1, c.2.2.2.1, c.2.2.2.2.1, c.2.2.2.2.2, q13, q14, q15, q16, q18, q19, q20, q22, q23, q24), ?_, ?_, ?_⟩
      · unfold m_X9_build
        rw [if_pos h0, hc0, Option.bind_some, if_pos h6, a1, Option.bind_some, i2, l1, Option.bind_some, p1, Option.bind_some]
      · refine ⟨lst_upB s1, s2, s3, s4, ruR_upB s5, ⟨p3, p4, p5, p6⟩, fun q => absurd q ?_, fun _ => ?_, fun q => absurd ?_ q, fun q => absurd ?_ q⟩
        · show ¬ upd (X 0) 6 1 6 = 0
          rw [upd_at]; decide
        · refine ⟨m, hm, i2, i5, fun t ht => ?_, fun _ => ⟨fun r29 r41 r42 r43 h8 hA => ?_, p2⟩⟩
          · obtain ⟨t', f1, f2, f3, f4, f5⟩ := hall t ht
            refine ⟨t', f1, f2, f3, f4, fun _ => ?_⟩
            obtain ⟨w13, w1, w2⟩ := atts_all (F := F) (RR := X) (r13 := X 13) (r33 := X 33) (r34 := X 34) (r35 := X 35) (r32 := X 32) hF hρn s5 f2 f5
            rw [a1] at w1
            have e := Option.some.inj w1
            subst e
            exact w2
          · obtain ⟨v14, v15, v42, v43, w1, w2, w3⟩ := labs_both (F := F) (r13 := q13) (r14 := X 14) (r15 := X 15) (r29 := r29) (r41 := r41) (r42 := r42) (r43 := r43) hF h8 hm hA
            rw [l1] at w1
            have e := Option.some.inj w1
            have e14 : q14 = v14 := congrArg Prod.fst e
            have e15 : q15 = v15 := congrArg Prod.snd e
            rw [← e14, ← e15] at w3
            exact ⟨v42, v43, w2, w3⟩
        · show upd (X 0) 6 1 7 = 0
          rw [upd_ne (by decide)]; exact h07
        · show upd (X 0) 6 1 8 = 0
          rw [upd_ne (by decide)]; exact h08
      · show ¬ upd (X 0) 6 1 6 = 0
        rw [upd_at]; decide
    · refine ⟨(upd (X 0) 6 1, c.1, c.2.1, c.2.2.1, c.2.2.2.1, c.2.2.2.2.1, c.2.2.2.2.2, X 13, X 14, X 15, X 16, X 18, X 19, X 20, X 22, X 23, X 24), ?_, ?_, ?_⟩
      · unfold m_X9_build
        rw [if_pos h0, hc0, Option.bind_some, if_neg h6]
      · refine ⟨lst_upB s1, s2, s3, s4, ruR_upB s5, ⟨z1, z2, z3, z4⟩, fun q => absurd q ?_, fun _ => ?_, fun q => absurd ?_ q, fun q => absurd ?_ q⟩
        · show ¬ upd (X 0) 6 1 6 = 0
          rw [upd_at]; decide
        · refine ⟨m, hm, i2, i5, fun t ht => ?_, fun q => absurd q h6⟩
          obtain ⟨t', f1, f2, f3, f4, f5⟩ := hall t ht
          exact ⟨t', f1, f2, f3, f4, fun q => absurd q h6⟩
        · show upd (X 0) 6 1 7 = 0
          rw [upd_ne (by decide)]; exact h07
        · show upd (X 0) 6 1 8 = 0
          rw [upd_ne (by decide)]; exact h08
      · show ¬ upd (X 0) 6 1 6 = 0
        rw [upd_at]; decide
  · refine ⟨(X 0, X 6, X 7, X 8, X 9, X 10, X 11, X 13, X 14, X 15, X 16, X 18, X 19, X 20, X 22, X 23, X 24), ?_, ?_, h0⟩
    · unfold m_X9_build
      rw [if_neg h0]
    · exact ⟨lst_upB s1, s2, s3, s4, ruR_upB s5, ⟨z1, z2, z3, z4⟩, s7, s8, s9, s10⟩

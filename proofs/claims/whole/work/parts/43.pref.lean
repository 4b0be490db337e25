/-! preferred sets, as numbers: bit p is there, A p q: p attacks q -/
def subP (s t : Nat) : Prop := ∀ p, s.testBit p = true → t.testBit p = true
def cfP (A : Nat → Nat → Bool) (s : Nat) : Prop := ∀ p q, s.testBit p = true → s.testBit q = true → A p q = false
def dfP (A : Nat → Nat → Bool) (n s d : Nat) : Prop := ∀ q, q < n → (∃ p, s.testBit p = true ∧ A q p = true) → ∃ r, d.testBit r = true ∧ A r q = true
def admP (A : Nat → Nat → Bool) (n s : Nat) : Prop := cfP A s ∧ dfP A n s s
def prefP (A : Nat → Nat → Bool) (n s : Nat) : Prop := s < 2 ^ n ∧ admP A n s ∧ ∀ t, t < 2 ^ n → admP A n t → subP s t → t = s
theorem subP_rfl (s : Nat) : subP s s := fun _ h => h
theorem subP_trans {s t u : Nat} (h1 : subP s t) (h2 : subP t u) : subP s u := fun p h => h2 p (h1 p h)
theorem subP_or {s t : Nat} (h : subP s t) : s ||| t = t := by
  apply Nat.eq_of_testBit_eq
  intro i
  rw [Nat.testBit_or]
  cases hs : s.testBit i with
  | false => rfl
  | true => rw [h i hs]; rfl
theorem subP_le {s t : Nat} (h : subP s t) : s ≤ t := by
  have h1 : s ≤ s ||| t := Nat.left_le_or
  rwa [subP_or h] at h1
theorem subP_anti {s t : Nat} (h1 : subP s t) (h2 : subP t s) : s = t := Nat.le_antisymm (subP_le h1) (subP_le h2)
theorem subP_l (s t : Nat) : subP s (s ||| t) := fun p h => by rw [Nat.testBit_or, h]; rfl
theorem subP_r (s t : Nat) : subP t (s ||| t) := fun p h => by rw [Nat.testBit_or, h]; simp
theorem bit_lt {n s p : Nat} (h : s < 2 ^ n) (hp : s.testBit p = true) : p < n := by
  apply Nat.lt_of_not_le
  intro hle
  have : s < 2 ^ p := Nat.lt_of_lt_of_le h (Nat.pow_le_pow_right (by decide) hle)
  rw [Nat.testBit_lt_two_pow this] at hp
  cases hp
/-- every admissible set lies in a preferred one; every peaceful one in a greatest peaceful one -/
theorem up_max (P : Nat → Prop) (n : Nat) : ∀ (k s : Nat), 2 ^ n - s = k → s < 2 ^ n → P s → ∃ t, t < 2 ^ n ∧ P t ∧ subP s t ∧ ∀ u, u < 2 ^ n → P u → subP t u → u = t := by
  intro k
  induction k using Nat.strongRecOn with
  | ind k ih =>
  intro s hk hs hP
  by_cases h : ∃ u, u < 2 ^ n ∧ P u ∧ subP s u ∧ u ≠ s
  · obtain ⟨u, h1, h2, h3, h4⟩ := h
    have hle := subP_le h3
    obtain ⟨t, t1, t2, t3, t4⟩ := ih (2 ^ n - u) (by omega) u rfl h1 h2
    exact ⟨t, t1, t2, subP_trans h3 t3, t4⟩
  · exact ⟨s, hs, hP, subP_rfl s, fun u h1 h2 h3 => Classical.byContradiction fun h4 => h ⟨u, h1, h2, h3, h4⟩⟩
theorem pref_above {A : Nat → Nat → Bool} {n s : Nat} (hs : s < 2 ^ n) (h : admP A n s) : ∃ t, prefP A n t ∧ subP s t := by
  obtain ⟨t, h1, h2, h3, h4⟩ := up_max (admP A n) n _ s rfl hs h
  exact ⟨t, ⟨h1, h2, h4⟩, h3⟩
theorem cfP_sub {A : Nat → Nat → Bool} {s t : Nat} (h : cfP A t) (hs : subP s t) : cfP A s := fun p q h1 h2 => h p q (hs p h1) (hs q h2)
theorem or_lt {n s t : Nat} (h1 : s < 2 ^ n) (h2 : t < 2 ^ n) : s ||| t < 2 ^ n := Nat.or_lt_two_pow h1 h2
/-- two preferred sets in one peaceful set are one -/
theorem pref_one {A : Nat → Nat → Bool} {n s t m : Nat} (hs : prefP A n s) (ht : prefP A n t) (hm : cfP A m) (h1 : subP s m) (h2 : subP t m) : s = t := by
  have hsub : subP (s ||| t) m := fun p hp => by
    rw [Nat.testBit_or, Bool.or_eq_true] at hp
    exact hp.elim (h1 p) (h2 p)
  have hadm : admP A n (s ||| t) := by
    refine ⟨cfP_sub hm hsub, fun q hq ⟨p, hp, hqp⟩ => ?_⟩
    rw [Nat.testBit_or, Bool.or_eq_true] at hp
    rcases hp with hp | hp
    · obtain ⟨r, hr, h9⟩ := hs.2.1.2 q hq ⟨p, hp, hqp⟩
      exact ⟨r, subP_l s t r hr, h9⟩
    · obtain ⟨r, hr, h9⟩ := ht.2.1.2 q hq ⟨p, hp, hqp⟩
      exact ⟨r, subP_r s t r hr, h9⟩
  have hlt := or_lt hs.1 ht.1
  exact (hs.2.2 _ hlt hadm (subP_l s t)).symm.trans (ht.2.2 _ hlt hadm (subP_r s t))
theorem pref_bound {A : Nat → Nat → Bool} {n : Nat} (hn : n < 15) (Ls : List Nat) (hnd : Ls.Nodup) (h : ∀ s ∈ Ls, prefP A n s) : Ls.length ≤ 162 := by
  have hex : ∀ s : Nat, ∃ m, prefP A n s → m < 2 ^ n ∧ cfP A m ∧ subP s m ∧ ∀ u, u < 2 ^ n → cfP A u → subP m u → u = m := fun s => by
    by_cases hs : prefP A n s
    · obtain ⟨t, h1, h2, h3, h4⟩ := up_max (cfP A) n _ s rfl hs.1 hs.2.1.1
      exact ⟨t, fun _ => ⟨h1, h2, h3, h4⟩⟩
    · exact ⟨0, fun q => absurd q hs⟩
  obtain ⟨f, hf⟩ := Classical.axiomOfChoice hex
  have hnd2 : (Ls.map f).Nodup := by
    unfold List.Nodup
    rw [List.pairwise_map]
    refine List.Pairwise.imp_of_mem ?_ hnd
    intro a b ha hb hab hx
    apply hab
    obtain ⟨a1, a2, a3, -⟩ := hf a (h a ha)
    obtain ⟨b1, b2, b3, -⟩ := hf b (h b hb)
    exact pref_one (h a ha) (h b hb) a2 a3 (by rw [hx]; exact b3)
  have hlenV : ((List.range n).filter (fun p => !A p p)).length < 15 := Nat.lt_of_le_of_lt (Nat.le_trans (List.length_filter_le _ _) (Nat.le_of_eq List.length_range)) hn
  have hb := misP_bound (fun p q => A p q || A q p) _ hlenV ((List.range n).filter (fun p => !A p p)) rfl (List.nodup_range.sublist List.filter_sublist) (fun a _ b _ => Bool.or_comm _ _) (fun a ha => by
    have := (List.mem_filter.mp ha).2
    have : A a a = false := by simpa using this
    rw [this]; rfl) (Ls.map f) hnd2 (fun m hm => by
    obtain ⟨s, hs, rfl⟩ := List.mem_map.mp hm
    obtain ⟨m1, m2, m3, m4⟩ := hf s (h s hs)
    refine ⟨fun k hk => ?_, fun a b ha hb => ?_, fun v hv hvb => ?_⟩
    · rw [List.mem_filter, List.mem_range]
      exact ⟨bit_lt m1 hk, by rw [m2 k k hk hk]; rfl⟩
    · show (A a b || A b a) = false
      rw [m2 a b ha hb, m2 b a hb ha]; rfl
    · rw [List.mem_filter, List.mem_range] at hv
      have hvv : A v v = false := by simpa using hv.2
      refine Classical.byContradiction fun hno => ?_
      have hcf : cfP A (f s ||| 2 ^ v) := by
        have key : ∀ a, (f s).testBit a = true → A a v = false ∧ A v a = false := fun a ha => by
          constructor
          · cases h9 : A a v with
            | false => rfl
            | true => exact absurd ⟨a, ha, by show (A a v || A v a) = true; rw [h9]; rfl⟩ hno
          · cases h9 : A v a with
            | false => rfl
            | true => exact absurd ⟨a, ha, by show (A a v || A v a) = true; rw [h9]; simp⟩ hno
        intro p q hp hq
        rw [Nat.testBit_or, Nat.testBit_two_pow, Bool.or_eq_true, decide_eq_true_eq] at hp hq
        rcases hp with hp | rfl
        · rcases hq with hq | rfl
          · exact m2 p q hp hq
          · exact (key p hp).1
        · rcases hq with hq | rfl
          · exact (key q hq).2
          · exact hvv
      have := m4 _ (or_lt m1 (Nat.pow_lt_pow_right (by decide) hv.1)) hcf (subP_l _ _)
      have h9 := congrArg (fun z => z.testBit v) this
      simp [Nat.testBit_or, Nat.testBit_two_pow, hvb] at h9)
  rw [List.length_map] at hb
  have hg : ∀ k, k < 15 → gMM k ≤ 162 := by decide
  exact Nat.le_trans hb (hg _ hlenV)
/-- the preferred sets from lo on, below hi, falling -/
def isPL (A : Nat → Nat → Bool) (n lo hi : Nat) (L : List Nat) : Prop := L.Pairwise (fun a b => b < a) ∧ ∀ t, t ∈ L ↔ prefP A n t ∧ lo ≤ t ∧ t < hi
theorem desc_nodup {L : List Nat} (h : L.Pairwise (fun a b => b < a)) : L.Nodup := List.Pairwise.imp (fun hab => by omega) h
theorem isPL_len {A : Nat → Nat → Bool} {n lo hi : Nat} {L : List Nat} (hn : n < 15) (h : isPL A n lo hi L) : L.length ≤ 162 := pref_bound hn L (desc_nodup h.1) (fun s hs => ((h.2 s).mp hs).1)
theorem desc_eq : ∀ (L M : List Nat), L.Pairwise (fun a b => b < a) → M.Pairwise (fun a b => b < a) → (∀ t, t ∈ L ↔ t ∈ M) → L = M := by
  intro L
  induction L with
  | nil =>
    intro M _ _ h
    cases M with
    | nil => rfl
    | cons b M => exact absurd ((h b).mpr List.mem_cons_self) List.not_mem_nil
  | cons a L ih =>
    intro M hL hM h
    cases M with
    | nil => exact absurd ((h a).mp List.mem_cons_self) List.not_mem_nil
    | cons b M =>
      obtain ⟨hL1, hL2⟩ := List.pairwise_cons.mp hL
      obtain ⟨hM1, hM2⟩ := List.pairwise_cons.mp hM
      have hab : a = b := by
        rcases List.mem_cons.mp ((h a).mp List.mem_cons_self) with e | e
        · exact e
        · rcases List.mem_cons.mp ((h b).mpr List.mem_cons_self) with e2 | e2
          · exact e2.symm
          · have h1 := hM1 a e
            have h2 := hL1 b e2
            omega
      subst hab
      rw [ih M hL2 hM2 (fun t => ?_)]
      constructor
      · intro ht
        rcases List.mem_cons.mp ((h t).mp (List.mem_cons_of_mem _ ht)) with e | e
        · have := hL1 t ht; omega
        · exact e
      · intro ht
        rcases List.mem_cons.mp ((h t).mpr (List.mem_cons_of_mem _ ht)) with e | e
        · have := hM1 t ht; omega
        · exact e
theorem isPL_eq {A : Nat → Nat → Bool} {n lo hi : Nat} {L M : List Nat} (h1 : isPL A n lo hi L) (h2 : isPL A n lo hi M) : L = M := desc_eq L M h1.1 h2.1 (fun t => (h1.2 t).trans (h2.2 t).symm)
/-- one more below -/
theorem isPL_keep {A : Nat → Nat → Bool} {n lo hi : Nat} {L : List Nat} (h : isPL A n (lo + 1) hi L) (hlo : lo < hi) (hp : prefP A n lo) : isPL A n lo hi (L ++ [lo]) := by
  refine ⟨List.pairwise_append.mpr ⟨h.1, List.pairwise_singleton _ _, fun a ha b hb => ?_⟩, fun t => ?_⟩
  · rw [List.mem_singleton.mp hb]
    have := ((h.2 a).mp ha).2.1
    omega
  · rw [List.mem_append, List.mem_singleton, h.2]
    constructor
    · rintro (⟨h1, h2, h3⟩ | rfl)
      · exact ⟨h1, by omega, h3⟩
      · exact ⟨hp, Nat.le_refl _, hlo⟩
    · rintro ⟨h1, h2, h3⟩
      by_cases e : t = lo
      · exact Or.inr e
      · exact Or.inl ⟨h1, by omega, h3⟩
theorem isPL_skip {A : Nat → Nat → Bool} {n lo lo' hi : Nat} {L : List Nat} (h : isPL A n lo' hi L) (hlo : lo ≤ lo') (hp : ∀ t, lo ≤ t → t < lo' → ¬ prefP A n t) : isPL A n lo hi L := by
  refine ⟨h.1, fun t => ?_⟩
  rw [h.2]
  constructor
  · rintro ⟨h1, h2, h3⟩; exact ⟨h1, by omega, h3⟩
  · rintro ⟨h1, h2, h3⟩
    refine ⟨h1, Nat.le_of_not_lt fun q => hp t h2 q h1, h3⟩
/-- a set that none found before covers: what it is -/
theorem leaf_pref {A : Nat → Nat → Bool} {n s : Nat} (hs : s < 2 ^ n) (hadm : admP A n s) (L : List Nat) (hL : ∀ t ∈ L, prefP A n t ∧ s < t) (hall : ∀ t, prefP A n t → s < t → t ∈ L) : (¬ ∃ t ∈ L, subP s t) ↔ prefP A n s := by
  constructor
  · intro h
    obtain ⟨t, ht, hst⟩ := pref_above hs hadm
    by_cases e : t = s
    · rw [← e]; exact ht
    · exact absurd ⟨t, hall t ht (by have := subP_le hst; omega), hst⟩ h
  · rintro h ⟨t, ht, hst⟩
    have h1 := hL t ht
    have := h.2.2 t h1.1.1 h1.1.2.1 hst
    omega

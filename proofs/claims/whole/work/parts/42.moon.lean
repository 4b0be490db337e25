/-! how many maximal sets without attacks there are: at most 162 on 14 points -/
theorem fl_split {α : Type} (P : α → Bool) (l : List α) : l.length = (l.filter P).length + (l.filter (fun x => !P x)).length := by
  induction l with
  | nil => rfl
  | cons x l ih =>
    cases h : P x <;> simp [List.filter_cons, h, ih] <;> omega
theorem fl_mono {α : Type} (P Q : α → Bool) (l : List α) : ((l.filter Q).filter P).length ≤ (l.filter P).length := (List.filter_sublist.filter P).length_le
theorem fl_cover {α : Type} {B : Nat} (P : Nat → α → Bool) : ∀ (N : List Nat) (Ms : List α), (∀ s ∈ Ms, ∃ u ∈ N, P u s = true) → (∀ u ∈ N, (Ms.filter (P u)).length ≤ B) → Ms.length ≤ N.length * B := by
  intro N
  induction N with
  | nil =>
    intro Ms h _
    cases Ms with
    | nil => simp
    | cons s Ms =>
      obtain ⟨u, hu, -⟩ := h s List.mem_cons_self
      cases hu
  | cons u N ih =>
    intro Ms h hB
    have h1 := fl_split (P u) Ms
    have h2 := hB u List.mem_cons_self
    have h3 := ih (Ms.filter (fun x => !P u x)) (fun s hs => by
      rw [List.mem_filter] at hs
      obtain ⟨w, hw, hp⟩ := h s hs.1
      rcases List.mem_cons.mp hw with rfl | hw
      · rw [hp] at hs; simp at hs
      · exact ⟨w, hw, hp⟩) (fun w hw => Nat.le_trans (fl_mono _ _ _) (hB w (List.mem_cons_of_mem _ hw)))
    rw [List.length_cons, Nat.succ_mul]
    omega
theorem fl_min (d : Nat → Nat) : ∀ (V : List Nat), V ≠ [] → ∃ v ∈ V, ∀ u ∈ V, d v ≤ d u := by
  intro V
  induction V with
  | nil => intro h; exact absurd rfl h
  | cons x V ih =>
    intro _
    by_cases hV : V = []
    · subst hV
      exact ⟨x, List.mem_cons_self, fun u hu => by
        rcases List.mem_cons.mp hu with h | h
        · rw [h]; exact Nat.le_refl _
        · cases h⟩
    · obtain ⟨v, hv, hm⟩ := ih hV
      by_cases hx : d x ≤ d v
      · exact ⟨x, List.mem_cons_self, fun u hu => by
          rcases List.mem_cons.mp hu with rfl | h
          · exact Nat.le_refl _
          · exact Nat.le_trans hx (hm u h)⟩
      · exact ⟨v, List.mem_cons_of_mem _ hv, fun u hu => by
          rcases List.mem_cons.mp hu with rfl | h
          · omega
          · exact hm u h⟩
def gMM : Nat → Nat := fun n => [1, 1, 2, 3, 4, 6, 9, 12, 18, 27, 36, 54, 81, 108, 162].getD n 0
theorem gMM_ok : ∀ n, n < 15 → ∀ k, k < 15 → 1 ≤ k → k ≤ n → ∀ j, j < 15 → j ≤ n - k → k * gMM j ≤ gMM n := by
  have h : (List.range 15).all (fun n => (List.range 15).all (fun k => (List.range 15).all (fun j => !(decide (1 ≤ k) && decide (k ≤ n) && decide (j ≤ n - k)) || decide (k * gMM j ≤ gMM n)))) = true := by decide +kernel
  intro n hn k hk h1 h2 j hj h3
  have a1 := List.all_eq_true.mp h n (List.mem_range.mpr hn)
  have a2 := List.all_eq_true.mp a1 k (List.mem_range.mpr hk)
  have a3 := List.all_eq_true.mp a2 j (List.mem_range.mpr hj)
  simpa [h1, h2, h3] using a3
def misP (adj : Nat → Nat → Bool) (V : List Nat) (s : Nat) : Prop := (∀ k, s.testBit k = true → k ∈ V) ∧ (∀ a b, s.testBit a = true → s.testBit b = true → adj a b = false) ∧ ∀ v ∈ V, s.testBit v = false → ∃ a, s.testBit a = true ∧ adj a v = true
theorem tb_x (s u j : Nat) : (s ^^^ 2 ^ u).testBit j = (s.testBit j ^^ decide (u = j)) := by
  rw [Nat.testBit_xor, Nat.testBit_two_pow]
theorem misP_bound (adj : Nat → Nat → Bool) : ∀ (n : Nat), n < 15 → ∀ (V : List Nat), V.length = n → V.Nodup → (∀ a ∈ V, ∀ b ∈ V, adj a b = adj b a) → (∀ a ∈ V, adj a a = false) → ∀ (Ms : List Nat), Ms.Nodup → (∀ s ∈ Ms, misP adj V s) → Ms.length ≤ gMM n := by
  intro n
  induction n using Nat.strongRecOn with
  | ind n ih =>
  intro hn V hV hnd hsym hirr Ms hMs hmis
  by_cases h0 : V = []
  · subst h0
    have hn0 : n = 0 := hV.symm
    subst hn0
    have hz : ∀ s ∈ Ms, s = 0 := fun s hs => by
      apply Nat.eq_of_testBit_eq
      intro i
      rw [Nat.zero_testBit]
      cases hb : s.testBit i with
      | false => rfl
      | true => exact absurd ((hmis s hs).1 i hb) List.not_mem_nil
    show Ms.length ≤ 1
    match Ms, hMs, hz with
    | [], _, _ => simp
    | [_], _, _ => simp
    | a :: b :: Ms, hMs, hz =>
      exfalso
      have h1 := hz a List.mem_cons_self
      have h2 := hz b (List.mem_cons_of_mem _ List.mem_cons_self)
      rw [h1, h2] at hMs
      simp at hMs
  · obtain ⟨v, hv, hmin⟩ := fl_min (fun u => (V.filter (adj u)).length) V h0
    have hcov : ∀ s ∈ Ms, ∃ u ∈ v :: V.filter (adj v), s.testBit u = true := fun s hs => by
      obtain ⟨m1, m2, m3⟩ := hmis s hs
      cases hb : s.testBit v with
      | true => exact ⟨v, List.mem_cons_self, hb⟩
      | false =>
        obtain ⟨a, ha, hav⟩ := m3 v hv hb
        refine ⟨a, List.mem_cons_of_mem _ (List.mem_filter.mpr ⟨m1 a ha, ?_⟩), ha⟩
        rw [hsym v hv a (m1 a ha)]; exact hav
    have hlen : ∀ u ∈ V, (V.filter (fun w => !(w == u || adj u w))).length + (V.filter (adj u)).length + 1 ≤ V.length := fun u hu => by
      have h1 := fl_split (fun w => w == u || adj u w) V
      have h2 := fl_split (adj u) (V.filter (fun w => w == u || adj u w))
      have h3 : (V.filter (adj u)).length ≤ ((V.filter (fun w => w == u || adj u w)).filter (adj u)).length := by
        rw [List.filter_filter]
        apply Nat.le_of_eq
        congr 1
        apply List.filter_congr
        intro w _
        cases adj u w <;> simp
      have h4 : 1 ≤ ((V.filter (fun w => w == u || adj u w)).filter (fun x => !adj u x)).length := by
        apply List.length_pos_of_mem (a := u)
        rw [List.mem_filter, List.mem_filter]
        exact ⟨⟨hu, by simp⟩, by rw [hirr u hu]; rfl⟩
      omega
    have hvl := hlen v hv
    have hB : ∀ u ∈ v :: V.filter (adj v), (Ms.filter (fun s => s.testBit u)).length ≤ gMM (V.filter (fun w => !(w == u || adj u w))).length := fun u hu => by
      have huV : u ∈ V := by
        rcases List.mem_cons.mp hu with rfl | h
        · exact hv
        · exact (List.mem_filter.mp h).1
      have hul := hlen u huV
      have hnd2 : ((Ms.filter (fun s => s.testBit u)).map (fun s => s ^^^ 2 ^ u)).Nodup := by
        unfold List.Nodup
        rw [List.pairwise_map]
        refine List.Pairwise.imp ?_ (hMs.sublist List.filter_sublist)
        intro a b hab hx
        apply hab
        have h9 := congrArg (fun z => z ^^^ 2 ^ u) hx
        simpa [Nat.xor_assoc] using h9
      have := ih (V.filter (fun w => !(w == u || adj u w))).length (by omega) (by omega) (V.filter (fun w => !(w == u || adj u w))) rfl (hnd.sublist List.filter_sublist) (fun a ha b hb => hsym a (List.mem_filter.mp ha).1 b (List.mem_filter.mp hb).1) (fun a ha => hirr a (List.mem_filter.mp ha).1) _ hnd2 (fun s' hs' => by
        obtain ⟨s, hs, rfl⟩ := List.mem_map.mp hs'
        rw [List.mem_filter] at hs
        obtain ⟨m1, m2, m3⟩ := hmis s hs.1
        have hsu : s.testBit u = true := hs.2
        have hbit : ∀ j, (s ^^^ 2 ^ u).testBit j = true → s.testBit j = true ∧ j ≠ u := fun j hj => by
          rw [tb_x] at hj
          by_cases e : u = j
          · subst e; rw [hsu] at hj; simp at hj
          · exact ⟨by simpa [e] using hj, fun q => e q.symm⟩
        refine ⟨fun j hj => ?_, fun a b ha hb => m2 a b (hbit a ha).1 (hbit b hb).1, fun w hw hwb => ?_⟩
        · obtain ⟨h1, h2⟩ := hbit j hj
          rw [List.mem_filter]
          refine ⟨m1 j h1, ?_⟩
          rw [m2 u j hsu h1]
          simp [h2]
        · rw [List.mem_filter] at hw
          have hwu : w ≠ u := fun q => by subst q; simp at hw
          have hwa : adj u w = false := by
            cases h9 : adj u w with
            | false => rfl
            | true => rw [h9] at hw; simp at hw
          have hws : s.testBit w = false := by
            rw [tb_x] at hwb
            have e : ¬ u = w := fun q => hwu q.symm
            simpa [e] using hwb
          obtain ⟨a, ha, haw⟩ := m3 w hw.1 hws
          refine ⟨a, ?_, haw⟩
          have hau : ¬ u = a := fun q => by subst q; rw [hwa] at haw; cases haw
          rw [tb_x, ha]
          simp [hau])
      rw [List.length_map] at this
      exact this
    have hk : (v :: V.filter (adj v)).length = (V.filter (adj v)).length + 1 := List.length_cons
    have hmono : ∀ i j, i ≤ j → j < 15 → gMM i ≤ gMM j := by
      have : ∀ j, j < 15 → ∀ i, i ≤ j → gMM i ≤ gMM j := by decide +kernel
      exact fun i j h1 h2 => this j h2 i h1
    have hfin := fl_cover (B := gMM (n - ((V.filter (adj v)).length + 1))) (fun u (s : Nat) => s.testBit u) (v :: V.filter (adj v)) Ms hcov (fun u hu => Nat.le_trans (hB u hu) (hmono _ _ (by
      have huV : u ∈ V := by
        rcases List.mem_cons.mp hu with rfl | h
        · exact hv
        · exact (List.mem_filter.mp h).1
      have h1 := hlen u huV
      have h2 := hmin u huV
      have h2 : (V.filter (adj v)).length ≤ (V.filter (adj u)).length := h2
      omega) (by omega)))
    rw [hk] at hfin
    refine Nat.le_trans hfin (gMM_ok n hn _ (by omega) (by omega) (by omega) _ (by omega) (Nat.le_refl _))

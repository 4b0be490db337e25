/-! two loops that run side by side -/
theorem join {α β γ δ : Type} {LC : Nat → Int32 → α → Option γ} {LM : Nat → Int32 → β → Option δ} {Rl : α → β → Prop} {ix : Nat → Int32} {K : Nat}
    (h : ∀ k, k < K → ∀ s t, Rl s t → ∃ s' t', Rl s' t' ∧ (∀ f, LC (f + 1) (ix k) s = LC f (ix (k + 1)) s') ∧ (∀ f, LM (f + 1) (ix k) t = LM f (ix (k + 1)) t')) :
    ∀ d k s t, k + d = K → Rl s t → ∃ s' t', Rl s' t' ∧ (∀ f, LC (f + d) (ix k) s = LC f (ix K) s') ∧ (∀ f, LM (f + d) (ix k) t = LM f (ix K) t') := by
  intro d
  induction d with
  | zero =>
    intro k s t hk hR
    have hk : k = K := hk
    subst hk
    exact ⟨s, t, hR, fun f => rfl, fun f => rfl⟩
  | succ d ih =>
    intro k s t hk hR
    obtain ⟨s1, t1, h1, h2, h3⟩ := h k (by omega) s t hR
    obtain ⟨s2, t2, g1, g2, g3⟩ := ih (k + 1) s1 t1 (by omega) h1
    exact ⟨s2, t2, g1, fun f => (h2 (f + d)).trans (g2 f), fun f => (h3 (f + d)).trans (g3 f)⟩
/-- what comes after a choice -/
def nx (o : Option Nat) : Int32 := match o with
  | none => Int32.ofNat 0
  | some k => Int32.ofNat (k + 1)
theorem pv_nx (o : Option Nat) : pv o + 1 = nx o := by
  cases o with
  | none => rfl
  | some k => exact zn_add k 1
def lend (L : Int32) (K : Nat) : Int32 := if L = 0 then 0 else Int32.ofNat K
def lsta (L : Int32) : Int32 := if L = 0 then -1 else 0
theorem level {α β γ δ : Type} {LC : Nat → Int32 → α → Option γ} {LM : Nat → Int32 → β → Option δ} {Rl : α → β → Prop} {K : Nat} {L : Int32} {e : Nat → Int32}
    (hb : ∀ o, pok o K → pg o e = L → ∀ s t, Rl s t → ∃ s' t', Rl s' t' ∧ (∀ f, LC (f + 1) (pv o) s = LC f (nx o) s') ∧ (∀ f, LM (f + 1) (pv o) t = LM f (nx o) t'))
    (hc : L ≠ 0 → ∀ o, pok o K → pg o e ≠ L → ∀ s t, Rl s t → ∀ f, LC (f + 1) (pv o) s = LC f (nx o) s)
    (hm : ∀ o, pok o K → pg o e ≠ L → ∀ s t, Rl s t → ∀ f, LM (f + 1) (pv o) t = LM f (nx o) t)
    (he : ∀ k, k < K → e k ≠ 0) :
    ∀ s t, Rl s t → ∃ s' t' g, Rl s' t' ∧ (∀ f, LC (f + (K + 1)) (lsta L) s = LC (f + g) (lend L K) s') ∧ (∀ f, LM (f + (K + 1)) (-1) t = LM f (Int32.ofNat K) t') := by
  intro s t hR
  by_cases hL : L = 0
  · have e1 : lsta L = -1 := if_pos hL
    have e2 : lend L K = 0 := if_pos hL
    rw [e1, e2]
    obtain ⟨s1, t1, h1, h2, h3⟩ := hb none (pok_none K) hL.symm s t hR
    obtain ⟨s2, t2, g1, g2, g3⟩ := join (LC := fun (_ : Nat) (_ : Int32) (s : α) => some s) (LM := LM) (Rl := Rl) (ix := Int32.ofNat) (K := K) (fun k hk s t hR => ⟨s, t, hR, fun f => rfl, hm (some k) (pok_some hk) (fun q => he k hk (by rw [← hL]; exact q)) s t hR⟩) K 0 s1 t1 (by omega) h1
    have e3 : s1 = s2 := Option.some.inj (g2 0)
    subst e3
    exact ⟨s1, t2, K, g1, fun f => h2 (f + K), fun f => (h3 (f + K)).trans (g3 f)⟩
  · have e1 : lsta L = 0 := if_neg hL
    have e2 : lend L K = Int32.ofNat K := if_neg hL
    rw [e1, e2]
    have h3 := hm none (pok_none K) (fun q => hL q.symm) s t hR
    obtain ⟨s2, t2, g1, g2, g3⟩ := join (LC := LC) (LM := LM) (Rl := Rl) (ix := Int32.ofNat) (K := K) (fun k hk s t hR => by
      by_cases q : pg (some k) e = L
      · exact hb (some k) (pok_some hk) q s t hR
      · exact ⟨s, t, hR, hc hL (some k) (pok_some hk) q s t hR, hm (some k) (pok_some hk) q s t hR⟩) K 0 s t (by omega) hR
    refine ⟨s2, t2, 1, g1, fun f => ?_, fun f => (h3 (f + K)).trans (g3 f)⟩
    have := g2 (f + 1)
    rw [show f + 1 + K = f + (K + 1) by omega] at this
    exact this
/-- six rows -/
abbrev Six := (Nat → Int32) × (Nat → Int32) × (Nat → Int32) × (Nat → Int32) × (Nat → Int32) × (Nat → Int32)
def RlB (ρn dp K : Nat) (r31 : Nat → Int32) (s0 t0 s t : Six) : Prop := ∃ n, simB n s.1 s.2.1 s.2.2.1 s.2.2.2.1 s.2.2.2.2.1 t.1 t.2.1 t.2.2.1 t.2.2.2.1 t.2.2.2.2.1 ∧ validB ρn n r31 t.2.1 t.2.2.1 t.2.2.2.1 t.2.2.2.2.1 t.2.2.2.2.2 ∧ reachB n t.2.1 t.2.2.2.2.2 s.2.2.2.2.2 ∧ K ≤ n ∧ (∀ k, k ≠ 8 → k ≠ 9 → t.1 k = t0.1 k) ∧ (∀ k, k < K → t.2.1 k = t0.2.1 k) ∧ (12 < dp → s = s0 ∧ t = t0)
theorem levelF {α β γ δ : Type} {LC : Nat → Int32 → α → Option γ} {LM : Nat → Int32 → β → Option δ} {Rl : α → β → Prop} {K F : Nat} {L : Int32} {e : Nat → Int32} {gC : α → γ} {gM : β → δ} (hF : K + 2 ≤ F)
    (hb : ∀ o, pok o K → pg o e = L → ∀ s t, Rl s t → ∃ s' t', Rl s' t' ∧ (∀ f, LC (f + 1) (pv o) s = LC f (nx o) s') ∧ (∀ f, LM (f + 1) (pv o) t = LM f (nx o) t'))
    (hc : L ≠ 0 → ∀ o, pok o K → pg o e ≠ L → ∀ s t, Rl s t → ∀ f, LC (f + 1) (pv o) s = LC f (nx o) s)
    (hm : ∀ o, pok o K → pg o e ≠ L → ∀ s t, Rl s t → ∀ f, LM (f + 1) (pv o) t = LM f (nx o) t)
    (he : ∀ k, k < K → e k ≠ 0)
    (hcE : ∀ f s, LC (f + 1) (lend L K) s = some (gC s)) (hmE : ∀ f t, LM (f + 1) (Int32.ofNat K) t = some (gM t)) :
    ∀ s t, Rl s t → ∃ s' t', Rl s' t' ∧ LC F (lsta L) s = some (gC s') ∧ LM F (-1) t = some (gM t') := by
  intro s t hR
  obtain ⟨s', t', g, h1, h2, h3⟩ := level hb hc hm he s t hR
  have a2 := h2 (F - (K + 2) + 1)
  have a3 := h3 (F - (K + 2) + 1)
  have e1 : F - (K + 2) + 1 + (K + 1) = F := by omega
  have e2 : F - (K + 2) + 1 + g = (F - (K + 2) + g) + 1 := by omega
  rw [e1, e2, hcE] at a2
  rw [e1, hmE] at a3
  exact ⟨s', t', h1, a2, a3⟩

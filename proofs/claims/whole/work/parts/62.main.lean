set_option maxHeartbeats 4000000 in
theorem law_loop {p : Program} {l : Launch} {e : Env} {s : State} {m : MethodId} {args : Array Value} {below : List Frame} {meth : Method} {c : Code} {Q : State → Prop} {D : va_G} {cy : Nat → Nat} {b L F : Nat} {xs : Nat → Int32} (hF : 20000 ≤ F) (hL : L ≤ 3072) (C : wCx p l s m args c meth code 7 RL D cy (fun q => s.heap.size ≤ q)) (hXs : va_X b L xs s s.heap) (hbl : b < s.heap.size) (hbA : ¬ s.heap.size ≤ b)
    (hend : ∀ (H : Heap) (ls : Array Slot), W p l e room_1 s m args below meth c H [] 601024 7293034 Q (F0 m 1454 ls [.int 1])) :
    ∀ (d t : Nat), t + d = 512 → ∀ (n : Nat) (X : Nat → Nat → Int32) (g : Nat → Nat) (H : Heap) (locs : List Loc) (ls : Array Slot), Sta F X n → Wd D (fun q => s.heap.size ≤ q) s.heap g (nof n) (shp g cy X) H locs → lv_has ls 7 [(4, .int (Int32.ofNat (6 * t))), (0, .ref b), (1, .ref (g 0)), (2, .ref (g 29)), (3, .ref (g 46))] → W p l e room_1 s m args below meth c H locs (47 + 20 * t) (40000 + 100 * t) Q (F0 m 23 ls []) := by
  have hx := C.1
  have hb : c.code = cL_law := C.2.1
  have hfl := C.2.2.2.2.2.2.2.2
  intro d
  induction d with
  | zero =>
    intro t ht n X g H locs ls hS hw hl
    refine lv_iload hx hb dL_law_23 (lv_at hl 0 rfl) ?_
    refine lv_aload_n hx hb dL_law_25 rfl (lv_at hl 1 rfl) ?_
    refine va_slen hx hb hXs hbl hbA hw.2.2 dL_law_26 ?_
    refine lv_bipush (v := 6) hx hb dL_law_27 (by decide) ?_
    refine lv_isub hx hb dL_law_29 ?_
    refine lv_icmp_gt (tgt := 1453) hx hb dL_law_30 (by decide) (fun _ => ?_) (fun cz => absurd ((zt_cmp (by omega) (by omega)).mpr (by omega)) cz)
    refine lv_iconst (v := 1) hx hb dL_law_1453 (by decide) ?_
    exact va_forget (fun q hq => hw.2.2.2.2 q hq) (W.widen (by omega) (by omega) (hend _ _))
  | succ d ih =>
    intro t ht n X g H locs ls hS hw hl
    refine lv_iload hx hb dL_law_23 (lv_at hl 0 rfl) ?_
    refine lv_aload_n hx hb dL_law_25 rfl (lv_at hl 1 rfl) ?_
    refine va_slen hx hb hXs hbl hbA hw.2.2 dL_law_26 ?_
    refine lv_bipush (v := 6) hx hb dL_law_27 (by decide) ?_
    refine lv_isub hx hb dL_law_29 ?_
    refine lv_icmp_gt (tgt := 1453) hx hb dL_law_30 (by decide) (fun _ => ?_) (fun cz => ?_)
    · refine lv_iconst (v := 1) hx hb dL_law_1453 (by decide) ?_
      exact va_forget (fun q hq => hw.2.2.2.2 q hq) (W.widen (by omega) (by omega) (hend _ _))
    · have h6 : 6 * t + 6 ≤ L := Nat.not_lt.mp (fun q => cz ((zt_cmp (by omega) (by omega)).mpr q))
      obtain ⟨z6, -, z0, z1, z2, z3, z4, z5⟩ := zt_all t (by omega)
      have hk : LawK p l e s m args below meth c Q D cy b F t := by
        intro n X g H locs ls hS hw hl
        refine lv_iinc (v := Int32.ofNat (6 * t) + 6) (lv' := [(4, .int (Int32.ofNat (6 * t) + 6)), (0, .ref b), (1, .ref (g 0)), (2, .ref (g 29)), (3, .ref (g 46))]) hx hb dL_law_1447 hl (k := 0) rfl (by rfl) (by decide) rfl (fun ls hl => ?_)
        refine lv_goto (tgt := 23) hx hb dL_law_1450 (by decide) ?_
        rw [z6] at hl
        exact W.widen (by omega) (by omega) (ih (t + 1) (by omega) n X g H locs ls hS hw hl)
      refine lv_aload_n hx hb dL_law_33 rfl (lv_at hl 1 rfl) ?_
      refine lv_iload hx hb dL_law_34 (lv_at hl 0 rfl) ?_
      refine va_sld hx hb hXs hbl hbA hw.2.2 (zt_in (c := 0) z0 (by omega)) dL_law_36 ?_
      refine lv_bipush (v := 31) hx hb dL_law_37 (by decide) ?_
      refine lv_iand hx hb dL_law_39 ?_
      generalize xs (Int32.ofNat (6 * t)).toNatClampNeg &&& 31 = zop
      by_cases hout : zop.toInt < 0 ∨ 22 < zop.toInt
      · refine lv_tableOut (tgt := 1447) hx hb dL_law_40 hout (by decide) ?_
        exact W.widen (by omega) (by omega) (hk n X g H locs ls hS hw hl)
      · have h1 : ¬ zop.toInt < 0 := fun q => hout (Or.inl q)
        have h2 : ¬ 22 < zop.toInt := fun q => hout (Or.inr q)
        obtain ⟨zk, hzk⟩ : ∃ zk : Nat, zop.toInt = zk := ⟨zop.toInt.toNat, by omega⟩
        have hz23 : zk < 23 := by omega
        match zk, hzk, hz23 with
        | 0, hzk, _ =>
          refine lv_tableIn (off := 108) (tgt := 148) hx hb dL_law_40 h1 h2 (by rw [hzk]; rfl) (by decide) ?_
          exact law_addFact hF (by omega) C hXs hbl hbA rfl (zt_in (c := 1) z1 (by omega)) hS hw hl hk
        | 1, hzk, _ =>
          refine lv_tableIn (off := 164) (tgt := 204) hx hb dL_law_40 h1 h2 (by rw [hzk]; rfl) (by decide) ?_
          exact law_takeBack hF (by omega) C hXs hbl hbA rfl (zt_in (c := 1) z1 (by omega)) hS hw hl hk
        | 2, hzk, _ =>
          refine lv_tableIn (off := 227) (tgt := 267) hx hb dL_law_40 h1 h2 (by rw [hzk]; rfl) (by decide) ?_
          exact law_addRule hF (by omega) C hXs hbl hbA rfl (zt_in (c := 1) z1 (by omega)) rfl (zt_in (c := 2) z2 (by omega)) rfl (zt_in (c := 3) z3 (by omega)) rfl (zt_in (c := 4) z4 (by omega)) rfl (zt_in (c := 5) z5 (by omega)) hS hw hl hk
        | 3, hzk, _ =>
          refine lv_tableIn (off := 331) (tgt := 371) hx hb dL_law_40 h1 h2 (by rw [hzk]; rfl) (by decide) ?_
          exact law_setPriority hF (by omega) C hXs hbl hbA rfl (zt_in (c := 1) z1 (by omega)) rfl (zt_in (c := 2) z2 (by omega)) hS hw hl hk
        | 4, hzk, _ =>
          refine lv_tableIn (off := 399) (tgt := 439) hx hb dL_law_40 h1 h2 (by rw [hzk]; rfl) (by decide) ?_
          exact law_setException hF (by omega) C hXs hbl hbA rfl (zt_in (c := 1) z1 (by omega)) rfl (zt_in (c := 2) z2 (by omega)) hS hw hl hk
        | 5, hzk, _ =>
          refine lv_tableIn (off := 467) (tgt := 507) hx hb dL_law_40 h1 h2 (by rw [hzk]; rfl) (by decide) ?_
          exact law_turn hF (by omega) C hXs hbl hbA rfl (zt_in (c := 1) z1 (by omega)) rfl (zt_in (c := 2) z2 (by omega)) hS hw hl hk
        | 6, hzk, _ =>
          refine lv_tableIn (off := 558) (tgt := 598) hx hb dL_law_40 h1 h2 (by rw [hzk]; rfl) (by decide) ?_
          exact law_facts hF (by omega) C hXs hbl hbA hS hw hl hk
        | 7, hzk, _ =>
          refine lv_tableIn (off := 571) (tgt := 611) hx hb dL_law_40 h1 h2 (by rw [hzk]; rfl) (by decide) ?_
          exact law_rules hF (by omega) C hXs hbl hbA hS hw hl hk
        | 8, hzk, _ =>
          refine lv_tableIn (off := 584) (tgt := 624) hx hb dL_law_40 h1 h2 (by rw [hzk]; rfl) (by decide) ?_
          exact law_arguments hF (by omega) C hXs hbl hbA hS hw hl hk
        | 9, hzk, _ =>
          refine lv_tableIn (off := 597) (tgt := 637) hx hb dL_law_40 h1 h2 (by rw [hzk]; rfl) (by decide) ?_
          exact law_conclusion hF (by omega) C hXs hbl hbA rfl (zt_in (c := 1) z1 (by omega)) hS hw hl hk
        | 10, hzk, _ =>
          refine lv_tableIn (off := 653) (tgt := 693) hx hb dL_law_40 h1 h2 (by rw [hzk]; rfl) (by decide) ?_
          exact law_madeBy hF (by omega) C hXs hbl hbA rfl (zt_in (c := 1) z1 (by omega)) hS hw hl hk
        | 11, hzk, _ =>
          refine lv_tableIn (off := 709) (tgt := 749) hx hb dL_law_40 h1 h2 (by rw [hzk]; rfl) (by decide) ?_
          exact law_part hF (by omega) C hXs hbl hbA rfl (zt_in (c := 1) z1 (by omega)) rfl (zt_in (c := 2) z2 (by omega)) hS hw hl hk
        | 12, hzk, _ =>
          refine lv_tableIn (off := 777) (tgt := 817) hx hb dL_law_40 h1 h2 (by rw [hzk]; rfl) (by decide) ?_
          exact law_depth hF (by omega) C hXs hbl hbA rfl (zt_in (c := 1) z1 (by omega)) hS hw hl hk
        | 13, hzk, _ =>
          refine lv_tableIn (off := 833) (tgt := 873) hx hb dL_law_40 h1 h2 (by rw [hzk]; rfl) (by decide) ?_
          exact law_attacks hF (by omega) C hXs hbl hbA rfl (zt_in (c := 1) z1 (by omega)) rfl (zt_in (c := 2) z2 (by omega)) hS hw hl hk
        | 14, hzk, _ =>
          refine lv_tableIn (off := 908) (tgt := 948) hx hb dL_law_40 h1 h2 (by rw [hzk]; rfl) (by decide) ?_
          exact law_label hF (by omega) C hXs hbl hbA rfl (zt_in (c := 1) z1 (by omega)) hS hw hl hk
        | 15, hzk, _ =>
          refine lv_tableIn (off := 964) (tgt := 1004) hx hb dL_law_40 h1 h2 (by rw [hzk]; rfl) (by decide) ?_
          exact law_round hF (by omega) C hXs hbl hbA rfl (zt_in (c := 1) z1 (by omega)) hS hw hl hk
        | 16, hzk, _ =>
          refine lv_tableIn (off := 1020) (tgt := 1060) hx hb dL_law_40 h1 h2 (by rw [hzk]; rfl) (by decide) ?_
          exact law_holds hF (by omega) C hXs hbl hbA rfl (zt_in (c := 1) z1 (by omega)) hS hw hl hk
        | 17, hzk, _ =>
          refine lv_tableIn (off := 1076) (tgt := 1116) hx hb dL_law_40 h1 h2 (by rw [hzk]; rfl) (by decide) ?_
          exact law_reasonFor hF (by omega) C hXs hbl hbA rfl (zt_in (c := 1) z1 (by omega)) hS hw hl hk
        | 18, hzk, _ =>
          refine lv_tableIn (off := 1132) (tgt := 1172) hx hb dL_law_40 h1 h2 (by rw [hzk]; rfl) (by decide) ?_
          exact law_reasonAgainst hF (by omega) C hXs hbl hbA rfl (zt_in (c := 1) z1 (by omega)) hS hw hl hk
        | 19, hzk, _ =>
          refine lv_tableIn (off := 1188) (tgt := 1228) hx hb dL_law_40 h1 h2 (by rw [hzk]; rfl) (by decide) ?_
          exact law_preferred hF (by omega) C hXs hbl hbA hS hw hl hk
        | 20, hzk, _ =>
          refine lv_tableIn (off := 1232) (tgt := 1272) hx hb dL_law_40 h1 h2 (by rw [hzk]; rfl) (by decide) ?_
          exact law_preferredByAllSets hF (by omega) C hXs hbl hbA hS hw hl hk
        | 21, hzk, _ =>
          refine lv_tableIn (off := 1276) (tgt := 1316) hx hb dL_law_40 h1 h2 (by rw [hzk]; rfl) (by decide) ?_
          exact law_isInSet hF (by omega) C hXs hbl hbA rfl (zt_in (c := 1) z1 (by omega)) rfl (zt_in (c := 2) z2 (by omega)) hS hw hl hk
        | 22, hzk, _ =>
          refine lv_tableIn (off := 1351) (tgt := 1391) hx hb dL_law_40 h1 h2 (by rw [hzk]; rfl) (by decide) ?_
          exact law_setsFor hF (by omega) C hXs hbl hbA rfl (zt_in (c := 1) z1 (by omega)) hS hw hl hk
        | zk + 23, _, h9 => omega
theorem wd_nil {D : va_G} {A : Nat → Prop} {H : Heap} {g : Nat → Nat} {f : Nat → va_E} : Wd D A H g 0 f H [] :=
  ⟨fun k q h => absurd (wd_inv h).1 (Nat.not_lt_zero _), ⟨fun i j p q h => absurd (wd_inv h).1 (Nat.not_lt_zero _), fun k q h => absurd (wd_inv h).1 (Nat.not_lt_zero _)⟩, va_S.rf⟩
set_option maxHeartbeats 4000000 in
/-- YOUR PART: from the entry, for every script of at most 3072 ints, the law comes to its end with true -/
theorem whole_start {p : Program} {e : Env} {s : State} {m : MethodId} {below : List Frame} {meth : Method} {c : Code} (l : Launch) (hflags : l.flags = flags0) {b L : Nat} {xs : Nat → Int32} (hL : L ≤ 3072) (C0 : lw_At p s m meth c b L xs) : W p l e room_1 s m #[Value.ref b] below meth c s.heap [] 0 0 (lw_Z below #[Value.ref b] s) (entryFrame m ([Value.ref b] : List Value).toArray 7) := by
  obtain ⟨F, hF⟩ : ∃ F : Nat, 20000 ≤ F := ⟨20000, Nat.le_refl _⟩
  obtain ⟨D, cy, C⟩ := w_start hflags C0
  obtain ⟨hexec, hcode, hr, hml, hown, hts, hXs, hbl, hlk, hgv⟩ := C0
  have hbA : ¬ s.heap.size ≤ b := by omega
  have hx := C.1
  have hb : c.code = cL_law := C.2.1
  have hfl := C.2.2.2.2.2.2.2.2
  rw [lg_entry_eq]
  have hl := lv_entry [Value.ref b] (n := 7) (Nat.le_of_ble_eq_true rfl)
  generalize ((lg_sl [Value.ref b] ++ List.replicate (7 - (lg_sl [Value.ref b]).length) Slot.unset).toArray) = ls at hl ⊢
  have hl : lv_has ls 7 [(0, .ref b)] := hl
  have hw := wd_nil (D := D) (A := fun q => s.heap.size ≤ q) (H := s.heap) (g := fun _ => 0) (f := fun _ => .inr (0, []))
  refine w_newo C hw tyX9 tyX9_ok k704 k705 k18 (ci := 10) rfl dfX9 (by decide) (by decide) dL_law_0 fun q1 H hw => ?_
  refine lv_dup hx hb dL_law_3 rfl ?_
  refine t_iNv C hw bX9_init k708 (k := 0) (As := []) (c_X9_init hfl (g := va_up (fun _ => 0) 0 q1) (f := va_up (fun _ => .inr (0, [])) 0 _) (va_up_self _ _ _)) (by rw [va_up_self]; rfl) rfl dL_law_4 ⟨Nat.le_of_ble_eq_true rfl, Nat.le_of_ble_eq_true rfl⟩ hl.1 (Nat.le_of_ble_eq_true rfl) ⟨by decide, by decide⟩ fun g1 N1 f1 H locs hp hw => ?_
  obtain ⟨hN1, ⟨hS1, -, hS3⟩, hP0⟩ := hp
  have hN1 : N1 = 29 := hN1
  subst hN1
  have hS3 : ∀ j, 0 < j → j < 29 → f1 j = sh g1 cy j (fun _ => 0) := hS3
  have hP0 : f1 0 = sh g1 cy 0 (fun _ => 0) := hP0
  have hg10 : g1 0 = q1 := (hS1 0 (Nat.le_refl _)).trans (va_up_self _ _ _)
  refine lv_astore_n (lv' := [(1, .ref q1), (0, .ref b)]) hx hb dL_law_7 rfl hl (by decide) rfl (fun ls hl => ?_)
  refine w_newo C hw tyX10 tyX10_ok k706 k707 k494 (ci := 11) rfl dfX10 (by decide) (by decide) dL_law_8 fun q2 H hw => ?_
  refine lv_dup hx hb dL_law_11 rfl ?_
  refine t_iNv C hw bX10_init k710 (k := 29) (As := []) (c_X10_init hfl (g := va_up g1 29 q2) (f := va_up f1 29 _) (va_up_self _ _ _)) (by rw [va_up_self]; rfl) rfl dL_law_12 ⟨Nat.le_of_ble_eq_true rfl, Nat.le_of_ble_eq_true rfl⟩ hl.1 (Nat.le_of_ble_eq_true rfl) ⟨by decide, by decide⟩ fun g2 N2 f2 H locs hp hw => ?_
  obtain ⟨hN2, ⟨hU1, hU2, hU3⟩, hP29⟩ := hp
  have hN2 : N2 = 46 := hN2
  subst hN2
  have hU1 : ∀ j, j ≤ 29 → g2 j = va_up g1 29 q2 j := hU1
  have hU2 : ∀ j, j < 29 → f2 j = va_up f1 29 (.inr (11, [.int 0, .null, .int 0, .null, .null, .null, .null, .null, .int 0, .int 0, .null, .null, .null, .null, .null, .null, .null, .null, .null, .null])) j := hU2
  have hU3 : ∀ j, 29 < j → j < 46 → f2 j = sh g2 cy j (fun _ => 0) := hU3
  have hP29 : f2 29 = sh g2 cy 29 (fun _ => 0) := hP29
  have hg2 : ∀ j, j < 29 → g2 j = g1 j := fun j hj => (hU1 j (by omega)).trans (va_up_ne _ _ (by omega))
  have hg229 : g2 29 = q2 := (hU1 29 (Nat.le_refl _)).trans (va_up_self _ _ _)
  refine lv_astore_n (lv' := [(2, .ref q2), (1, .ref q1), (0, .ref b)]) hx hb dL_law_15 rfl hl (by decide) rfl (fun ls hl => ?_)
  refine lv_iconst (v := 1) hx hb dL_law_16 (by decide) ?_
  refine w_newa C hw (atype := .long) (ty := .long) (t := 3) (n := 1) (N' := 1) (a0 := (1, .inr (.inl (fun _ => 0)))) rfl (Or.inr (Or.inr rfl)) rfl (fun _ => rfl) (by decide) rfl (Nat.le_of_ble_eq_true rfl) (by decide) (by decide) dL_law_17 fun q3 H hw => ?_
  refine lv_astore_n (lv' := [(3, .ref q3), (2, .ref q2), (1, .ref q1), (0, .ref b)]) hx hb dL_law_19 rfl hl (by decide) rfl (fun ls hl => ?_)
  refine lv_iconst (v := 0) hx hb dL_law_20 (by decide) ?_
  refine lv_istore (lv' := [(4, .int 0), (3, .ref q3), (2, .ref q2), (1, .ref q1), (0, .ref b)]) hx hb dL_law_21 hl (by decide) rfl (fun ls hl => ?_)
  have hg3 : ∀ j, j < 46 → va_up g2 46 q3 j = g2 j := fun j hj => va_up_ne _ _ (by omega)
  have hg346 : va_up g2 46 q3 46 = q3 := va_up_self _ _ _
  have hw : Wd D (fun q => s.heap.size ≤ q) s.heap (va_up g2 46 q3) (nof 0) (shp (va_up g2 46 q3) cy X00) H locs := by
    refine hw.ext fun k hk => ?_
    show va_up f2 46 _ k = sh (va_up g2 46 q3) cy k (fun _ => 0)
    by_cases c46 : k = 46
    · subst c46
      rw [va_up_self, sh_46]
      congr 5
    · have hk46 : k < 46 := by
        have : k < 47 := hk
        omega
      rw [va_up_ne _ _ c46]
      have hmx : mx k ≤ 46 := by
        have : ∀ k, k < 46 → mx k ≤ 46 := by decide
        exact this k hk46
      rw [sh_gz (g := g2) (by omega) (fun i hi => hg3 i (by omega))]
      by_cases c29 : k < 29
      · rw [hU2 k c29, va_up_ne _ _ (by omega)]
        have hmx2 : mx k ≤ 29 := by
          have : ∀ k, k < 29 → mx k ≤ 29 := by decide
          exact this k c29
        have e1 : f1 k = sh g1 cy k (fun _ => 0) := by
          by_cases c0 : k = 0
          · subst c0; exact hP0
          · exact hS3 k (by omega) c29
        rw [e1]
        exact (sh_gz (by omega) (fun i hi => hg2 i (by omega))).symm
      · by_cases d29 : k = 29
        · subst d29; exact hP29
        · exact hU3 k (by omega) hk46
  have hl := lv_sub hl [0, 4, 3, 2, 1] rfl
  have e0 : va_up g2 46 q3 0 = q1 := (hg3 0 (by decide)).trans ((hg2 0 (by decide)).trans hg10)
  have e29 : va_up g2 46 q3 29 = q2 := (hg3 29 (by decide)).trans hg229
  refine W.widen (by decide) (by decide) (law_loop hF hL C hXs hbl hbA (fun H ls => lw_ret hexec hcode hr hlk dL_law_1454) 512 0 (by decide) 0 X00 (va_up g2 46 q3) H locs ls (Sta_0 (fun _ _ => rfl)) hw ?_)
  rw [e0, e29, hg346]
  exact hl
set_option maxHeartbeats 4000000 in
theorem lw_walk (l : Launch) (hflags : l.flags = flags0) (b : Addr) (xs : List Int32) : MetFree l x (headSpec (Jvm.Cond.code x code maxLocals ret :: tables_1) room_1) (lw_P b xs) (fun _ _ _ _ _ => True) lw_Q := by
  refine MetFree.of_bodyS (code := code) (maxLocals := maxLocals) (ret := ret) (by decide) ?_ ?_
  · intro args s m h hn
    obtain ⟨meth, c, h1, h2, h3, h4, h5, h6, -, -⟩ := Cond.code_spec hn (atoms_spec (ws := Jvm.Cond.code x code maxLocals ret :: tables_1) h _ List.mem_cons_self)
    exact ⟨meth, c, h1, h2, h3, h4, h5, h6⟩
  · intro p e s m args below meth c s₁ B hml0 hP _
    obtain ⟨rfl, hx, hbd, hgv⟩ := hP
    obtain ⟨scr, harrAt, hlist, hof, hsmall⟩ := hx
    obtain ⟨hcb, hkn, -, -⟩ := State.arrayAt?_spec harrAt
    have hown : s.vm.findClass R_law = some m.cls := findClass_of_methodNamed B.named
    have hts0 : ∀ c ∈ (Jvm.Cond.code x code maxLocals ret :: tables_1), c.before #[Value.ref b] s = true := atoms_spec (ws := Jvm.Cond.code x code maxLocals ret :: tables_1) B.pre
    have hts : ∀ w ∈ lw_tbl, w.before #[Value.ref b] s = true := k2_hts_sels lw_privs (fun w hw => hts0 w (List.mem_cons_of_mem _ hw)) lw_privs_ok
    have hml : c.maxLocals = 7 := B.maxLocals_eq (hts0 _ List.mem_cons_self)
    have X₀ : Stand p l e room_1 s m #[Value.ref b] below meth c s₁ [] 0 0 := Stand.of_body B
    have hh0 : s₁.heap = s.heap := by rw [B.state]; rfl
    have hsz : scr.slots.size = xs.length := by rw [← Array.length_toList, hlist, List.length_map]
    have hval : ∀ j : Nat, j < xs.length → scr.slots[j]? = some (.int (xs.getD j 0)) := fun j hj => by
      rw [← Array.getElem?_toList, hlist]
      simp [hj]
    have hbl : b < s.heap.size := (Array.getElem?_eq_some_iff.mp hcb).1
    have hX : va_X b xs.length (fun j => xs.getD j 0) s s.heap := ⟨scr, hcb, hof, hkn, hsz, hval⟩
    have K : W p l e room_1 s m #[Value.ref b] below meth c s₁.heap [] 0 0 (lw_Z below #[Value.ref b] s) (entryFrame m ([Value.ref b] : List Value).toArray 7) := by
      rw [hh0]
      exact whole_start l hflags hbd ⟨B.exec, B.bytes, B.returns, hml, hown, hts, hX, hbl, B.notSynchronized, hgv⟩
    obtain ⟨t, a1, o, b1, b2, b3⟩ := K s₁ rfl X₀
    exact ⟨t, o, a1, b1, b2, b3⟩
theorem lw_pre_spec {args : Array Value} {s : State} (h : (Jvm.Cond.and given_1 narrow_1).before args s = true) (hr : rest_1_c.before args s = true) : ∃ (b : Addr) (xs : List Int32), lw_P b xs args s := by
  have hs := flat_of_before _ h
  have hq := flat_of_before _ hr
  have hc : (Cond.count 1).before args s = true := hs _ (by decide +kernel)
  have harr : (Cond.arrayOf (.arg 0) .int).before args s = true := hs _ (by decide +kernel)
  have hle : (Cond.le (.length (.arg 0)) (.int 3072)).before args s = true := hs _ (by decide +kernel)
  have hlen : (Cond.isInt (.length (.arg 0))).before args s = true := hq _ (by decide +kernel)
  have hall : (Cond.all (.arg 0) (.isInt (.elem (.arg 0) (.index 0)))).before args s = true := hq _ (by decide +kernel)
  obtain ⟨b, xs, hb, hx⟩ := State.ints_of_pre rfl harr hlen hall
  have hsm : xs.length < 2 ^ 31 := hx.choose_spec.2.2.2
  have hev : (Term.length (.arg 0)).eval args s none [] s = some (.int xs.length.toInt32) := hx.length_eval hb
  have hv := Cond.le_ints hev (show (Term.int 3072).eval args s none [] s = some (.int 3072) from rfl)
  have hd : xs.length.toInt32 ≤ 3072 := by
    simpa [Cond.before, Cond.holds, hv] using hle
  have hN : xs.length ≤ 3072 := (Int32.ofNat_le_ofNat hsm (by decide)).mp (show Int32.ofNat xs.length ≤ Int32.ofNat 3072 from hd)
  exact ⟨b, xs, Cond.one_arg hc (show args[0]? = some (.ref b) from hb), hx, hN, h⟩
theorem lw_comes (l : Launch) (hflags : l.flags = flags0) : Comes l x (Jvm.Cond.code x code maxLocals ret :: tables_1) room_1 (fun tb e args s => Calls_1 tb e args s ∧ rest_1 tb e args s ∧ Pre_1 tb e args s)
    (fun _ _ args s o t => lw_Q args s o t) := by
  intro p e ha hc hk s m args below hf hfit hheap happ hpre
  obtain ⟨b, xs, hP⟩ := lw_pre_spec hpre.2.2 hpre.2.1
  obtain ⟨k, o, h1, h2, h3, hQ⟩ := lw_walk l hflags b xs p e ha hc hk s m args below hf ((Spec.applies_iff_loose hf).mp happ).1 hP trivial
  exact ⟨k, o, h1, h2, h3, hQ⟩
theorem lw_frame {s t : State} {o : Outcome} {args : Array Value} (h : Framed s o t [] 601024 7293034) :
    Framed s o t (fieldLocs frame_1_writes args s ++ arrayLocs frame_1_arrays args s ++ staticLocs frame_1_statics s) 601024 7293034 := h
theorem lw_limb (L : Cond) (hL : ∀ (args : Array Value) (s t : State), L.after args s (.returned (some (.int 1))) t = true) :
    ArmFor flags0 classFile x code maxLocals ret World_1 tables_1 room_1 Calls_1 rest_1 Pre_1
      (fun tb e a s o t => postC L tb e a s o t ∧ Framed s o t (fieldLocs frame_1_writes a s ++ arrayLocs frame_1_arrays a s ++ staticLocs frame_1_statics s) 601024 7293034) := by
  intro l hflags _ _ p e ha hc hk s m args below hf hfit hheap happ hpre
  obtain ⟨k, o, h1, h2, h3, rfl, hF⟩ := lw_comes l hflags p e ha hc hk s m args below hf hfit hheap happ hpre
  exact ⟨k, _, h1, h2, h3, hL args s _, lw_frame hF⟩
theorem i_vc : Claimed_1_1 ∧ Claimed_1_2 := ⟨lw_limb limb_1_1 (fun args s t => by simp [limb_1_1, Cond.after, Cond.holds, Cond.value]), lw_limb limb_1_2 (fun args s t => Cond.after_iff.mpr (by
  first | (rw [show limb_1_2 = Cond.eq .result (.int 1) from rfl, Cond.eq_ints (x := 1) (y := 1) rfl rfl]; simp; done) | (simp [limb_1_2, Cond.value, Term.eval]; done)))⟩

/-! ===== one look: the class ===== -/
theorem da_dv {a j : Nat} (q : daS a j) : dvS a j := by unfold daS at q; unfold dvS; omega
theorem an_dv {a j : Nat} (q : anR a j) : dvR a j := by unfold anR at q; unfold dvR; omega
section LOOK4
variable {M : Mem} {k P : Nat} {T : TS} {zs : List Clz}
/-- kind and below -/
theorem fin_kind (hG : Good M) (hT : TOK T k) (hC : CTs M T) {v : Int} (hv : v = 0 ∨ v = 4 ∨ v = 6) : ∃ M', Tr_addBelow 27 (30 + 6 * k) (stI M (30 + 6 * k) 4 v) = some (some (.inl 0), M') ∧ CTs M' (upK T k v) ∧ Good M' ∧ Fq (fun a j => a = 30 + 6 * k ∧ j = 4) nor M M' := by
  obtain ⟨hk1, hk2, hk3⟩ := hT.k
  obtain ⟨a1, a2, a3⟩ := kind_set hG hT hC (m := k) (by omega) (v := v) (by omega)
  exact ⟨_, Tr_addNone a2 (by omega) mI_at hv, a1, a2, a3⟩
theorem Tr_look_s (hG : Good M) (hL : LOK T k) (hC : CTs M T) (hP : 772 < P) (hzs : zsk 100 zs) (hok : okP zs) (hp : PRc M P zs) (h6 : mR M 27 6 = P) {nl fr tu : Nat} (h12 : mI M 27 12 = ((nl + 1 : Nat) : Int)) (h13 : mI M 27 13 = (fr : Int)) (h11 : mI M 27 11 = (tu : Int)) (hfr : fr + 400 < 65536) (htu : tu < 1000) : ∃ r2 M1 M', Tr_findKind 27 (30 + 6 * k) M = some (some (.inl r2), M1) ∧ Good M1 ∧ Tr_addBelow 27 (30 + 6 * k) (stI M1 (30 + 6 * k) 4 r2) = some (some (.inl (lok zs T k nl fr tu).1), M') ∧ CTs M' (lok zs T k nl fr tu).2.1 ∧ ((lok zs T k nl fr tu).1 = 0 → mI M' 27 12 = ((lok zs T k nl fr tu).2.2.1 : Int) ∧ mI M' 27 13 = ((lok zs T k nl fr tu).2.2.2.1 : Int) ∧ mI M' 27 11 = ((lok zs T k nl fr tu).2.2.2.2 : Int)) ∧ Good M' ∧ Fq dvS dvR M M' ∧ mI M' 27 10 = mI M 27 10 := by
  have hT := hL.tok
  obtain ⟨hk1, hk2, hk3⟩ := hT.k
  obtain ⟨e1, e2, e3⟩ := hT.2.2 k hk1
  have hlen := wf_len _ _ e1
  have hND := (hC.1.2.1 k hk1).1.1
  have ck : Ex_kindAt (31 + 6 * k) 0 M = some (some (.inl (kd (nth (T.1 k) 0))), M) := by
    have := Ex_kindAt_s hG hND e2 ((0 : Nat) : Int)
    rw [cA_n (by omega)] at this
    exact this
  have efk : Tr_findKind 27 (30 + 6 * k) M = if kd (nth (T.1 k) 0) = 0 then some (some (.inl 0), M) else if kd (nth (T.1 k) 0) = 1 then some (some (.inl 1), M) else if kd (nth (T.1 k) 0) = 2 then cI (Tr_findKindOfCall 27 (30 + 6 * k) M) (fun r4 M3 => some (some (.inl r4), M3)) else some (some (.inl 6), M) := by
    rw [Tr_findKind_eq, hG.nd (by omega), gd_t, (hG.ndr (x := k) (by omega)).1, hND.g hG, gd_t, ck, cI_s, hG.gT, gd_t]
  rw [efk]
  unfold lok
  by_cases q0 : kd (nth (T.1 k) 0) = 0
  · obtain ⟨M', a1, a2, a3, a4⟩ := fin_kind hG hT hC (v := 0) (by omega)
    rw [if_pos q0, if_pos q0]
    exact ⟨0, M, M', rfl, hG, a1, a2, fun _ => ⟨(a4.2.2 _ _ (by omega)).trans h12, (a4.2.2 _ _ (by omega)).trans h13, (a4.2.2 _ _ (by omega)).trans h11⟩, a3, a4.mono (fun a j q => by unfold dvS; omega) fun a j q => q.elim, a4.2.2 _ _ (by omega)⟩
  rw [if_neg q0, if_neg q0]
  by_cases q1 : kd (nth (T.1 k) 0) = 1
  · obtain ⟨b1, b2, b3⟩ := kind_set hG hT hC (m := k) (by omega) (v := 1) (by decide)
    obtain ⟨M', a1, a2, a3, a4⟩ := Tr_addCon (k := k) b2 (hT.up (m := k) (f := 4) (v := 1) (by omega)) b1 mI_at
    rw [if_pos q1, if_pos q1]
    have F := (b3.mono (T := dvS) (U := dvR) (fun a j q => by unfold dvS; omega) fun a j q => q.elim).trans (a4.mono (fun a j q => da_dv q) fun a j q => an_dv q)
    have F10 : ∀ j, 10 ≤ j → mI M' 27 j = mI M 27 j := fun j hj => (a4.2.2 _ _ (by unfold daS; omega)).trans (b3.2.2 _ _ (by omega))
    exact ⟨1, M, M', rfl, hG, a1, a2, fun _ => ⟨(F10 12 (by decide)).trans h12, (F10 13 (by decide)).trans h13, (F10 11 (by decide)).trans h11⟩, a3, F, F10 10 (by decide)⟩
  rw [if_neg q1, if_neg q1]
  by_cases q2 : ¬ kd (nth (T.1 k) 0) = 2
  · obtain ⟨M', a1, a2, a3, a4⟩ := fin_kind hG hT hC (v := 6) (by omega)
    rw [if_neg q2, if_neg q2]
    exact ⟨6, M, M', rfl, hG, a1, a2, fun _ => ⟨(a4.2.2 _ _ (by omega)).trans h12, (a4.2.2 _ _ (by omega)).trans h13, (a4.2.2 _ _ (by omega)).trans h11⟩, a3, a4.mono (fun a j q => by unfold dvS; omega) fun a j q => q.elim, a4.2.2 _ _ (by omega)⟩
  have q2 := Classical.not_not.mp q2
  rw [if_pos q2, if_pos q2]
  obtain ⟨M1, a1, a2, a3, a4, a5⟩ := Ru_findNext_loop (e := 31 + 6 * k) (by omega) (by omega) e2 _ 0 M (some (.inl 0)) none none none none rfl (Nat.zero_le _) hG hND hp
  rw [List.drop_zero] at a1 a2 a3
  have a1 : Ru_findNext 21 P (31 + 6 * k) 0 M = some (some (.inl ((fnx zs (T.1 k) 0).1 : Nat)), M1) := by rw [Ru_findNext_eq]; exact a1
  have hst := fnx_st zs (T.1 k) 0
  have hC1 : CTs M1 T := hC.fq hT.1 a5 (by unfold nxS; omega) (by unfold nxR; omega)
  have F1 : Fq dvS dvR M M1 := a5.mono (fun a j q => by unfold nxS at q; unfold dvS; omega) fun a j q => by unfold nxR at q; unfold dvR; omega
  have S1 : ∀ j, mI M1 27 j = mI M 27 j := fun j => a5.2.2 _ _ (by unfold nxS; omega)
  have efc : Tr_findKindOfCall 27 (30 + 6 * k) M = if (((fnx zs (T.1 k) 0).1 : Nat) : Int) = 1 then some (some (.inl 6), M1) else if (((fnx zs (T.1 k) 0).1 : Nat) : Int) = 5 then Tr_findKindOfCall_52 27 (30 + 6 * k) 3 (some (.inl (((fnx zs (T.1 k) 0).1 : Nat) : Int))) (stI M1 (30 + 6 * k) 10 (mI M1 21 5)) else Tr_findKindOfCall_52 27 (30 + 6 * k) 2 (some (.inl (((fnx zs (T.1 k) 0).1 : Nat) : Int))) M1 := by
    rw [Tr_findKindOfCall_eq, hG.gT, gd_t, gd_t, hG.nd (by omega), gd_t, hG.r27_0, hG.gRu, gd_t, h6, (hG.ndr (x := k) (by omega)).1, a1, cI_s, a4.gT, gd_t, a4.r27_0, a4.gRu, gd_t, a4.nd (by omega), gd_t]
  rw [efc]
  by_cases s1 : (fnx zs (T.1 k) 0).1 = 1
  · obtain ⟨M', b1, b2, b3, b4⟩ := fin_kind a4 hT hC1 (v := 6) (by omega)
    rw [if_pos (show (((fnx zs (T.1 k) 0).1 : Nat) : Int) = 1 by rw [s1]; rfl), if_pos s1, cI_s]
    have S' : ∀ j, mI M' 27 j = mI M 27 j := fun j => (b4.2.2 _ _ (by omega)).trans (S1 j)
    exact ⟨6, M1, M', rfl, a4, b1, b2, fun _ => ⟨(S' 12).trans h12, (S' 13).trans h13, (S' 11).trans h11⟩, b3, F1.trans (b4.mono (fun a j q => by unfold dvS; omega) fun a j q => q.elim), S' 10⟩
  rw [if_neg (show ¬ (((fnx zs (T.1 k) 0).1 : Nat) : Int) = 1 by omega), if_neg s1]
  -- blocked or not: the same from here
  have hS0 : ∀ (f : Nat) (v : Int), f ≠ 4 → ∀ p ∈ lnF (upB T k f v).2.1, (f ≠ 5 ∧ f ≠ 6 ∧ f ≠ 8 ∧ f ≠ 15 ∧ f ≠ 16) → isS ((upB T k f v).2.1 p 4) → kd (nth ((upB T k f v).1 p) 0) = 2 := by
    intro f v hf p hp hf2 hs
    have hp : p ∈ lnF (upF T.2.1 k f v) := hp
    rw [(hT.1.up1 (m := k) (f := f) (v := v) (by omega)).2] at hp
    have hs : isS (upF T.2.1 k f v p 4) := hs
    rw [upF_ne (by omega)] at hs
    exact hL.2.2 p hp hs
  have main : ∀ (M2 : Mem) (T0 : TS), Good M2 → CTs M2 T0 → TOK T0 k → T0.1 = T.1 → T0 = bkS (fnx zs (T.1 k) 0) T k (T.1 k) → (∀ p ∈ lnF T0.2.1, T0.2.1 p 4 = itS (fnx zs (T.1 k) 0) → kd (nth (T0.1 p) 0) = 2) → Fq dvS dvR M M2 → (∀ j, mI M2 27 j = mI M 27 j) → mR M2 27 6 = P → (mI M2 21 3 = ((fnx zs (T.1 k) 0).2.1 : Nat)) → ((fnx zs (T.1 k) 0).1 = 4 → mR M2 21 4 = P + 2 + 4 * (fnx zs (T.1 k) 0).2.2) → ∀ d2 : LV, ∃ r2 M3 M', cI (Tr_findKindOfCall_52 27 (30 + 6 * k) (itS (fnx zs (T.1 k) 0)) d2 M2) (fun r4 M3 => some (some (.inl r4), M3)) = some (some (.inl r2), M3) ∧ Good M3 ∧ Tr_addBelow 27 (30 + 6 * k) (stI M3 (30 + 6 * k) 4 r2) = some (some (.inl (lkSp zs (fnx zs (T.1 k) 0) T0 k (T.1 k) nl fr tu).1), M') ∧ CTs M' (lkSp zs (fnx zs (T.1 k) 0) T0 k (T.1 k) nl fr tu).2.1 ∧ ((lkSp zs (fnx zs (T.1 k) 0) T0 k (T.1 k) nl fr tu).1 = 0 → mI M' 27 12 = ((lkSp zs (fnx zs (T.1 k) 0) T0 k (T.1 k) nl fr tu).2.2.1 : Int) ∧ mI M' 27 13 = ((lkSp zs (fnx zs (T.1 k) 0) T0 k (T.1 k) nl fr tu).2.2.2.1 : Int) ∧ mI M' 27 11 = ((lkSp zs (fnx zs (T.1 k) 0) T0 k (T.1 k) nl fr tu).2.2.2.2 : Int)) ∧ Good M' ∧ Fq dvS dvR M M' ∧ mI M' 27 10 = mI M 27 10 := by
    intro M2 T0 hG2 hC2 hT0 hx0 hbk hS2 F2 S2 h62 h32 h42 d2
    have hits : isS (itS (fnx zs (T.1 k) 0)) := by unfold isS itS; split <;> omega
    have hk0 := hT0.k
    obtain ⟨M3, b1, b2, b3, b4, b5⟩ := Tr_find52_s (k := k) hG2 hT0.1 hT0.2.2 hC2 hk0.1 hits hS2 d2
    have exs : T0.1 k = T.1 k := by rw [hx0]
    rw [exs] at b1 b2 b3
    rw [b1, cI_s]
    have F3 : Fq dvS dvR M M3 := F2.trans (b5.mono (fun a j q => by unfold dvS; omega) fun a j q => by unfold dvR; omega)
    have S3 : ∀ j, mI M3 27 j = mI M 27 j := fun j => (b5.2.2 _ _ (by omega)).trans (S2 j)
    have h63 : mR M3 27 6 = P := (b5.2.1 _ _ (by omega)).trans h62
    have h33 : mI M3 21 3 = ((fnx zs (T.1 k) 0).2.1 : Nat) := (b5.2.2 _ _ (by omega)).trans h32
    have hp3 : PRc M3 P zs := hp.ext fun a j q => F3.2.2 a j (by unfold pS at q; unfold dvS; omega)
    unfold lkSp
    by_cases g1 : ¬ foS T0 k (T.1 k) (itS (fnx zs (T.1 k) 0)) = -1
    · rw [if_pos g1, if_pos g1]
      obtain ⟨M', c1, c2, c3, c4⟩ := fin_kind b4 (hT0.up (m := k) (f := 14) (v := foS T0 k (T.1 k) (itS (fnx zs (T.1 k) 0))) (by omega)) b2 (v := 4) (by omega)
      have S' : ∀ j, mI M' 27 j = mI M 27 j := fun j => (c4.2.2 _ _ (by omega)).trans (S3 j)
      exact ⟨4, M3, M', rfl, b4, c1, c2, fun _ => ⟨(S' 12).trans h12, (S' 13).trans h13, (S' 11).trans h11⟩, c3, F3.trans (c4.mono (fun a j q => by unfold dvS; omega) fun a j q => q.elim), S' 10⟩
    have g1 := Classical.not_not.mp g1
    have n1 : ¬ (foS T0 k (T.1 k) (itS (fnx zs (T.1 k) 0)) ≠ -1) := fun q => q g1
    rw [if_neg n1, if_neg n1]
    have b3 := b3 g1
    rw [g1] at b2
    have hT1 := hT0.up (m := k) (f := 14) (v := -1) (by omega)
    have hcp : cpS T0 k (T.1 k) (itS (fnx zs (T.1 k) 0)) = -1 ∨ (0 ≤ cpS T0 k (T.1 k) (itS (fnx zs (T.1 k) 0)) ∧ (cpS T0 k (T.1 k) (itS (fnx zs (T.1 k) 0))).toNat ∈ lnF T0.2.1 ∧ pCpl T0.1 T0.2.1 (T.1 k) (itS (fnx zs (T.1 k) 0)) (cpS T0 k (T.1 k) (itS (fnx zs (T.1 k) 0))).toNat = true ∧ cpS T0 k (T.1 k) (itS (fnx zs (T.1 k) 0)) ≤ T0.2.1 k 15) := nrs_spec (P := pCpl T0.1 T0.2.1 (T.1 k) (itS (fnx zs (T.1 k) 0))) hT0.1.uok 121 (T0.2.1 k 15) ((hT0.1.uok k hk0.1).imp_right fun q => ⟨q.1, q.2.2⟩)
    by_cases g2 : cpS T0 k (T.1 k) (itS (fnx zs (T.1 k) 0)) = -1
    · rw [if_pos g2, if_pos g2]
      unfold lkK
      by_cases s5 : (fnx zs (T.1 k) 0).1 = 5
      · have ei : itS (fnx zs (T.1 k) 0) = 3 := if_pos s5
        rw [ei, if_pos s5]
        obtain ⟨c1, c2, c3⟩ := kind_set b4 hT1 b2 (m := k) (by omega) (v := 3) (by decide)
        have ex1 : (upB (upB T0 k 14 (-1)) k 4 3).1 k = T.1 k := exs
        have h5 : (fnx zs ((upB (upB T0 k 14 (-1)) k 4 3).1 k) 0).1 = 5 := by rw [ex1]; exact s5
        have h10 : (upB (upB T0 k 14 (-1)) k 4 3).2.1 k 10 = nth (T.1 k) ((fnx zs (T.1 k) 0).2.1 + 1) := by
          show upF (upF T0.2.1 k 14 (-1)) k 4 3 k 10 = _
          rw [upF_ne (by omega), upF_ne (by omega), hbk]
          unfold bkS
          rw [if_pos s5]
          exact upF_at
        have S4 : ∀ j, mI (stI M3 (30 + 6 * k) 4 3) 27 j = mI M 27 j := fun j => (c3.2.2 _ _ (by omega)).trans (S3 j)
        obtain ⟨M', d1, d2', d3, d4, d5⟩ := Tr_addCase (k := k) (P := P) (zs := zs) c2 (hT1.up (m := k) (f := 4) (v := 3) (by omega)) c1 mI_at hP hzs hok (hp3.ext fun a j q => c3.2.2 a j (by unfold pS at q; omega)) h63 h5 (by rw [ex1]; exact (c3.2.2 _ _ (by omega)).trans h33) (by rw [ex1]; exact h10) ((S4 13).trans h13) hfr
        rw [ex1] at d1 d2' d3
        have K : ∀ j, (j = 10 ∨ j = 11 ∨ j = 12) → mI M' 27 j = mI M 27 j := fun j q => (d5.2.2 _ _ (by unfold dcS daS; omega)).trans (S4 j)
        refine ⟨3, M3, M', rfl, b4, d1, d2', fun q => ⟨(K 12 (by omega)).trans h12, d3 q, (K 11 (by omega)).trans h11⟩, d4, (F3.trans (c3.mono (fun a j q => by unfold dvS; omega) fun a j q => q.elim)).trans (d5.mono (fun a j q => by unfold dcS daS at q; unfold dvS; omega) fun a j q => an_dv q), K 10 (by omega)⟩
      · have s4 : (fnx zs (T.1 k) 0).1 = 4 := by omega
        have ei : itS (fnx zs (T.1 k) 0) = 2 := if_neg s5
        rw [ei, if_neg s5]
        obtain ⟨c1, c2, c3⟩ := kind_set b4 hT1 b2 (m := k) (by omega) (v := 2) (by decide)
        obtain ⟨z, z1, z2, z3⟩ := fnx_clf (zs := zs) (xs := T.1 k) _ 0 rfl (Nat.zero_le _) (by rw [List.drop_zero]; exact s4)
        rw [List.drop_zero] at z1 z2 z3
        have hclf : CLf (T.1 k) (fnx zs (T.1 k) 0).2.1 z := by
          obtain ⟨b, hb⟩ := wf_at e1 z2.1
          rw [Nat.add_comm] at hb
          have := wf_next z2.1 hb
          rw [z2.2] at this
          exact ⟨⟨z2.1, z2.2, b, this⟩, z3⟩
        have ez : zs.getD (fnx zs (T.1 k) 0).2.2 (0, -1, [], []) = z := by rw [List.getD_eq_getElem?_getD, z1]; rfl
        rw [ez]
        have ex1 : (upB (upB T0 k 14 (-1)) k 4 2).1 k = T.1 k := exs
        have h4r : mR M3 21 4 = P + 2 + 4 * (fnx zs (T.1 k) 0).2.2 := (b5.2.1 _ _ (by omega)).trans (h42 s4)
        have S4 : ∀ j, mI (stI M3 (30 + 6 * k) 4 2) 27 j = mI M 27 j := fun j => (c3.2.2 _ _ (by omega)).trans (S3 j)
        obtain ⟨M', d1, d2', d4, d5⟩ := Tr_addStep (k := k) (P := P) (zs := zs) c2 (hT1.up (m := k) (f := 4) (v := 2) (by omega)) c1 mI_at hP hzs (hp3.ext fun a j q => c3.2.2 a j (by unfold pS at q; omega)) z1 (by rw [ex1]; exact hclf) ((c3.2.2 _ _ (by omega)).trans h33) h4r
        rw [ex1] at d1 d2'
        have K : ∀ j, 10 ≤ j → mI M' 27 j = mI M 27 j := fun j q => (d5.2.2 _ _ (by unfold daS; omega)).trans (S4 j)
        exact ⟨2, M3, M', rfl, b4, d1, d2', fun q => ⟨(K 12 (by omega)).trans h12, (K 13 (by omega)).trans h13, (K 11 (by omega)).trans h11⟩, d4, (F3.trans (c3.mono (fun a j q => by unfold dvS; omega) fun a j q => q.elim)).trans (d5.mono (fun a j q => da_dv q) fun a j q => an_dv q), K 10 (by omega)⟩
    · rw [if_neg g2, if_neg g2]
      obtain ⟨r1, r2, r3, r4⟩ := hcp.resolve_left g2
      obtain ⟨g, hg⟩ := Int.eq_ofNat_of_zero_le r1
      rw [hg, toNat_n] at r2
      rw [hg] at b3 r4
      rw [hg, toNat_n]
      have hgk : g < k := by
        rcases hT0.1.uok k hk0.1 with e | ⟨-, e, -⟩ <;> omega
      have h73 : mR M3 27 7 = 30 + 6 * g := by rw [b3]; unfold ndf; rw [if_neg (by omega), toNat_n]
      obtain ⟨c1, c2, c3⟩ := kind_set b4 hT1 b2 (m := k) (by omega) (v := 5) (by decide)
      have hT2 := hT1.up (m := k) (f := 4) (v := 5) (by omega)
      have hl1 : lnF (upB (upB T0 k 14 (-1)) k 4 5).2.1 = lnF T0.2.1 := by
        have t1 := (hT0.1.up1 (m := k) (f := 14) (v := -1) (by omega))
        have t2 := (t1.1.up1 (m := k) (f := 4) (v := 5) (by omega))
        exact t2.2.trans t1.2
      have hg2 : g ∈ lnF (upB (upB T0 k 14 (-1)) k 4 5).2.1 := by rw [hl1]; exact r2
      have exk : (upB (upB T0 k 14 (-1)) k 4 5).1 k = T.1 k := exs
      have exg : (upB (upB T0 k 14 (-1)) k 4 5).1 g = T0.1 g := rfl
      have S4 : ∀ j, mI (stI M3 (30 + 6 * k) 4 5) 27 j = mI M 27 j := fun j => (c3.2.2 _ _ (by omega)).trans (S3 j)
      have h74 : mR (stI M3 (30 + 6 * k) 4 5) 27 7 = 30 + 6 * g := h73
      unfold lkL
      cases hin : insg (T.1 k) ((upB T0 k 14 (-1)).1 g) 0 [] with
      | some ps =>
        obtain ⟨M', d1, d2', d4, d5⟩ := Tr_let_inst c2 hT2 c1 mI_at hg2 h74 (ps := ps) (by rw [exk, exg]; exact hin)
        rw [exk] at d1 d2'
        have K : ∀ j, 10 ≤ j → mI M' 27 j = mI M 27 j := fun j q => (d5.2.2 _ _ (by unfold daS; omega)).trans (S4 j)
        exact ⟨5, M3, M', rfl, b4, d1, d2', fun q => ⟨(K 12 (by omega)).trans h12, (K 13 (by omega)).trans h13, (K 11 (by omega)).trans h11⟩, d4, (F3.trans (c3.mono (fun a j q => by unfold dvS; omega) fun a j q => q.elim)).trans (d5.mono (fun a j q => da_dv q) fun a j q => an_dv q), K 10 (by omega)⟩
      | none =>
        have hkL : k ∉ lnF (upF (upB (upB T0 k 14 (-1)) k 4 5).2.1 g 8 0) := by
          intro q
          have e15 : (upB (upB T0 k 14 (-1)) k 4 5).2.1 k 15 = T0.2.1 k 15 := by
            show upF (upF T0.2.1 k 14 (-1)) k 4 5 k 15 = _
            rw [upF_ne (by omega), upF_ne (by omega)]
          have := nrs_rem (P := pCpl T0.1 T0.2.1 (T.1 k) (itS (fnx zs (T.1 k) 0))) hT2.1 hg2 121 k q
          apply this
          rw [e15]
          have en : ∀ (n : Nat) (u : Int), nrs (pCpl T0.1 T0.2.1 (T.1 k) (itS (fnx zs (T.1 k) 0))) (upB (upB T0 k 14 (-1)) k 4 5).2.1 n u = nrs (pCpl T0.1 T0.2.1 (T.1 k) (itS (fnx zs (T.1 k) 0))) T0.2.1 n u := by
            intro n
            induction n with
            | zero => intro u; rfl
            | succ n ih =>
              intro u
              have e : (upB (upB T0 k 14 (-1)) k 4 5).2.1 u.toNat 15 = T0.2.1 u.toNat 15 := by
                show upF (upF T0.2.1 k 14 (-1)) k 4 5 u.toNat 15 = _
                rw [upF_ne (by omega), upF_ne (by omega)]
              unfold nrs
              rw [ih, e]
          rw [en]
          exact hg
        obtain ⟨M', d1, d2', ⟨d31, d32, d33⟩, d4, d5, -⟩ := Tr_let_turn (T1 := upB T0 k 14 (-1)) c2 hT2 c1 mI_at hg2 h74 (by rw [exk, exg]; exact hin) ((S4 13).trans h13) ((S4 11).trans h11) hfr htu rfl hkL
        rw [exk] at d1 d2' d32
        have K10 : mI M' 27 10 = mI M 27 10 := (d5.2.2 _ _ (by unfold dlS daS; omega)).trans (S4 10)
        exact ⟨5, M3, M', rfl, b4, d1, d2', fun q => ⟨d31, d32, d33⟩, d4, (F3.trans (c3.mono (fun a j q => by unfold dvS; omega) fun a j q => q.elim)).trans (d5.mono (fun a j q => by unfold dlS daS at q; unfold dvS; omega) fun a j q => an_dv q), K10⟩
  by_cases s5 : (fnx zs (T.1 k) 0).1 = 5
  · obtain ⟨b1, b2⟩ := a3 s5
    obtain ⟨⟨-, g1⟩, g2, -⟩ := fnx_blk (zs := zs) (xs := T.1 k) _ 0 rfl (Nat.zero_le _) (by rw [List.drop_zero]; exact s5)
    rw [List.drop_zero] at g1
    rw [cA_n g1] at b2
    have f2 : Fj (fun a j => a = 30 + 6 * k ∧ j = 10) M1 (stI M1 (30 + 6 * k) 10 (mI M1 21 5)) := Fj.ofI ⟨rfl, rfl⟩
    have hG2 := a4.fj f2
    have hC2 : CTs (stI M1 (30 + 6 * k) 10 (mI M1 21 5)) (upB T k 10 (nth (T.1 k) ((fnx zs (T.1 k) 0).2.1 + 1))) := by
      rw [b2]
      exact hC1.mkT (A := fun a j => a = 30 + 6 * k ∧ j = 10) (R := nor) ((Fj.ofI ⟨rfl, rfl⟩ : Fj (fun a j => a = 30 + 6 * k ∧ j = 10) M1 (stI M1 (30 + 6 * k) 10 (nth (T.1 k) ((fnx zs (T.1 k) 0).2.1 + 1)))).fq fun a j q => q) (by omega) (hC1.1.setI hT.1 (by omega) (by omega))
    have ei : itS (fnx zs (T.1 k) 0) = 3 := if_pos s5
    have eb : bkS (fnx zs (T.1 k) 0) T k (T.1 k) = upB T k 10 (nth (T.1 k) ((fnx zs (T.1 k) 0).2.1 + 1)) := if_pos s5
    rw [if_pos (show (((fnx zs (T.1 k) 0).1 : Nat) : Int) = 5 by omega), eb]
    have := main _ (upB T k 10 (nth (T.1 k) ((fnx zs (T.1 k) 0).2.1 + 1))) hG2 hC2 (hT.up (m := k) (f := 10) (v := nth (T.1 k) ((fnx zs (T.1 k) 0).2.1 + 1)) (by omega)) rfl eb.symm (fun p hp hq => hS0 10 _ (by decide) p hp (by omega) (by rw [hq, ei]; exact Or.inr rfl)) (F1.trans (f2.fq fun a j q => by unfold dvS; omega)) (fun j => (f2.2.2 _ _ (by omega)).trans (S1 j)) ((a5.2.1 _ _ (by unfold nxR; omega)).trans h6) ((f2.2.2 _ _ (by omega)).trans b1) (fun q => by omega) (some (.inl (((fnx zs (T.1 k) 0).1 : Nat) : Int)))
    rw [ei] at this
    exact this
  · have s4 : (fnx zs (T.1 k) 0).1 = 4 := by omega
    obtain ⟨b1, b2, b3⟩ := a2 s4
    have ei : itS (fnx zs (T.1 k) 0) = 2 := if_neg s5
    have eb : bkS (fnx zs (T.1 k) 0) T k (T.1 k) = T := if_neg s5
    rw [if_neg (show ¬ (((fnx zs (T.1 k) 0).1 : Nat) : Int) = 5 by omega), eb]
    have := main M1 T a4 hC1 hT rfl eb.symm (fun p hp hq => hL.2.2 p hp (by rw [hq, ei]; exact Or.inl rfl)) F1 S1 ((a5.2.1 _ _ (by unfold nxR; omega)).trans h6) b1 (fun _ => b2) (some (.inl (((fnx zs (T.1 k) 0).1 : Nat) : Int)))
    rw [ei] at this
    exact this
end LOOK4

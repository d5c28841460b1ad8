/-! ===== the reference: what comes of a node ===== -/
section RCOMES2
variable {M : Mem} {T : TS} {x : Nat} {zs : List Clz} {C : Nat → List Int}
theorem F2_nfk (F : FT) (x : Nat) : nfk (F2of F) x = nfk F x := by unfold nfk; rw [F2_eq _ _ _ (by decide) (by decide)]
theorem F2_nkc (F : FT) (x : Nat) : nkc (F2of F) x = nkc F x := by unfold nkc; rw [F2_eq _ _ _ (by decide) (by decide)]
/-- what BLOCKED a node is told right, where that is asked -/
theorem BLm_of (hN : NS zs T.1 (F2of T.2.1) x) (hQ : RQ M T) (hx : x < T.2.2) (h23 : T.2.1 x 4 = 2 ∨ T.2.1 x 4 = 3) : BLm M T x := by
  have e : ∀ f, f ≠ 9 → f ≠ 13 → F2of T.2.1 x f = T.2.1 x f := fun f h1 h2 => F2_eq _ _ _ h1 h2
  unfold NS at hN
  rw [e 4 (by decide) (by decide), e 10 (by decide) (by decide)] at hN
  refine ⟨fun q => ?_, fun q => ?_⟩
  · rcases hN with h | h | h | ⟨h1, ⟨h2, h3, h4⟩, -⟩ | h | h | h
    · omega
    · omega
    · omega
    · obtain ⟨⟨-, g1⟩, g2, -, -⟩ := fnx_blk (zs := zs) (xs := T.1 x) _ 0 rfl (Nat.zero_le _) (by rw [List.drop_zero]; exact h3)
      rw [List.drop_zero] at g1 g2
      refine ⟨?_, (hQ x hx).1 q⟩
      rw [h4]
      exact ⟨nth_mem g1, g2⟩
    · omega
    · omega
    · omega
  · rcases hN with h | h | ⟨h1, h2, -⟩ | h | h | h | h
    · omega
    · omega
    · exact h2.2.2
    · omega
    · omega
    · omega
    · omega
theorem sid_var (hv : av (T.1 x)) (hB : BLm M T x) : ∀ v ∈ sid (T.1 x) (T.2.1 x 10), (vc v ∧ kd v = 0) ∧ v ∈ T.1 x := by
  refine sid_in hv ?_
  by_cases q : T.2.1 x 4 = 3
  · exact Or.inr (hB.1 q).1
  · exact Or.inl (hB.2 q)
theorem RVm.ofC {M1 : Mem} {ys : List Int} (h : CMm M1 x ys) (h76 : mI M1 1269 76 = 0) : RVm M1 x ys := ⟨fun q => absurd h.2 (by omega), fun _ => ⟨h, h76⟩⟩
theorem M_kids_none {i3 : Int} {d2 : LV} (hG : Good M) (hx : x < 120) (h13 : mI M 1313 x = 0) : M_layComes_165 1269 (x : Int) i3 0 d2 M = some (none, M) := by
  rw [M_layComes_165_eq, hG.gM, gd_t, hG.m67, hG.tgS (arr_nd (by decide)) (by omega) (by omega), gd_t, toNat_n, h13, if_neg (by decide)]
theorem CMm_one {c : Int} {a : Nat} (h1 : mI M 1324 (100 * x) = cm c) (h2 : mI M 1325 x = 1) : CMm M x [c] := ⟨⟨fun i hi => by
    have : i = 0 := by rw [List.length_singleton] at hi; omega
    subst this
    exact h1, h2⟩, by rw [List.length_singleton]; decide⟩
theorem M_layComes_s (hG : Good M) (hT : TI T.2.1 T.2.2) (hX : XOK T.1 T.2.1) (hZ : RZm M T) (hx : x ∈ lnF T.2.1) (hN : ∀ y ∈ lnF T.2.1, NS zs T.1 (F2of T.2.1) y) (hK : ∀ y ∈ lnF T.2.1, RK T.1 (F2of T.2.1) y ∧ (F2of T.2.1 y 9 ≠ -1 ↔ isFn (nuF T.2.1 (lnF T.2.1)) y)) (hV : FVL T.2.1) (hC : ∀ i, i < nkc T.2.1 x → CMm M (nfk T.2.1 x + i) (C (nfk T.2.1 x + i)) ∧ av (C (nfk T.2.1 x + i))) (h76 : mI M 1269 76 = 0) : ∃ M', M_layComes 1269 (x : Int) M = some (none, M') ∧ RVm M' x (cmo T.1 (F2of T.2.1) C x) ∧ Good M' ∧ Fj (cvS x) M M' := by
  have hm := hT.1.2.2
  have hxm := hT.1.2.1 x hx
  obtain ⟨e1, e2, e3⟩ := hX x hx
  have hlen := wf_len _ _ e1
  have e : ∀ f, f ≠ 9 → f ≠ 13 → F2of T.2.1 x f = T.2.1 x f := fun f h1 h2 => F2_eq _ _ _ h1 h2
  have hnfk := F2_nfk T.2.1 x
  have hnkc := F2_nkc T.2.1 x
  obtain ⟨⟨hR, hQ⟩, ⟨h84, h85⟩, hNB, hDP, hFN⟩ := hZ
  have hZ : RZm M T := ⟨⟨hR, hQ⟩, ⟨h84, h85⟩, hNB, hDP, hFN⟩
  obtain ⟨⟨r1, r2⟩, ⟨r3, r4⟩, ⟨r5, r6⟩, r7, r8⟩ := hR.2 x hx
  have r9 : mI M 1323 x = F2of T.2.1 x 9 := hFN x hx
  have hNx := hN x hx
  obtain ⟨⟨⟨⟨k0, k6⟩, k1, k2⟩, ⟨k3, k5⟩, ⟨⟨k9, k9'⟩, k4⟩, k8⟩, kf⟩ := hK x hx
  rw [e 4 (by decide) (by decide)] at k0 k6 k1 k2 k3 k5 k4 k8
  rw [e 10 (by decide) (by decide)] at k8
  have hTx := hT.2.1 x hx
  have h8 : T.2.1 x 8 = (nkc T.2.1 x : Int) := by have := hTx.1; unfold nkc; omega
  have g14 : gS M 1314 0 (x : Int) = true := hG.tgS (arr_nd (by decide)) (by omega) (by omega)
  have g15 : gS M 1315 0 (x : Int) = true := hG.tgS (arr_nd (by decide)) (by omega) (by omega)
  have g16 : gS M 1316 0 (x : Int) = true := hG.tgS (arr_nd (by decide)) (by omega) (by omega)
  have g23 : gS M 1323 0 (x : Int) = true := hG.tgS (arr_nb (by decide)) (by omega) (by omega)
  have g24 : gS M 1324 0 ((100 * x : Nat) : Int) = true := hG.tgS arr_1324 (by omega) (by omega)
  have g25 : gS M 1325 0 (x : Int) = true := hG.tgS arr_1325 (by omega) (by omega)
  have kids : 0 < nkc T.2.1 x → mI M 1314 x = (nfk T.2.1 x : Int) ∧ x < nfk T.2.1 x ∧ nfk T.2.1 x + nkc T.2.1 x ≤ 120 := by
    intro q
    have a1 := hTx.lt q
    have a2 := hT.1.2.1 _ (hT.kid hx (j := nkc T.2.1 x - 1) (by omega))
    have a3 := hTx.2.1 (by omega)
    have a4 := r6 (by omega)
    refine ⟨?_, a1, by omega⟩
    rw [a4]; unfold nfk; omega
  have hcmo : cmo T.1 (F2of T.2.1) C x = if T.2.1 x 4 = 0 then [nth (T.1 x) 0] else if T.2.1 x 4 = 1 then nth (T.1 x) 0 :: kcat T.2.1 C x else if T.2.1 x 4 = 2 ∨ T.2.1 x 4 = 3 then (if F2of T.2.1 x 9 = -1 then kcat T.2.1 C x else cmC (F2of T.2.1 x 9) (sid (T.1 x) (T.2.1 x 10))) else if T.2.1 x 4 = 4 then cmC (F2of T.2.1 (T.2.1 x 14).toNat 9) (sid (T.1 x) (T.2.1 x 10)) else if T.2.1 x 4 = 5 then clt T.1 T.2.1 C x else [50331648] := by
    unfold cmo kcat clt
    rw [hnfk, hnkc, e 4 (by decide) (by decide), e 10 (by decide) (by decide), e 14 (by decide) (by decide)]
  rw [hcmo, M_layComes_eq, hG.gM, gd_t, hG.m68, g14, gd_t, gd_t, hG.m83, g23, gd_t, toNat_n, r9]
  by_cases c9 : F2of T.2.1 x 9 = -1
  · -- no function
    rw [if_pos c9, if_pos c9, gd_t, hG.m69, g15, gd_t, r7]
    by_cases c4 : T.2.1 x 4 = 4
    · -- folded
      unfold NS at hNx
      rw [e 4 (by decide) (by decide)] at hNx
      have hNx : NS4 zs T.1 (F2of T.2.1) x := by
        rcases hNx with h | h | h | h | h | h | h
        · omega
        · omega
        · omega
        · omega
        · exact h.2
        · omega
        · omega
      obtain ⟨⟨-, -, s1⟩, s2, y, y1, y2, y3, y4⟩ := hNx
      rw [e 10 (by decide) (by decide)] at s2
      rw [e 14 (by decide) (by decide)] at y1
      rw [F2_eq _ _ _ (by decide) (by decide)] at y3
      have y2' : anc T.2.1 121 x y := anc_same (F := F2of T.2.1) (fun a => (F2_eq _ _ _ (by decide) (by decide)).symm) _ _ y2
      obtain ⟨hy, hyx⟩ := anc_mem hT.uok _ _ hx y2'
      have hym := hT.1.2.1 y hy
      obtain ⟨f1, f2, f3⟩ := hX y hy
      have hits : T.2.1 y 4 = 2 ∨ T.2.1 y 4 = 3 := by rw [y3]; unfold itS; split <;> omega
      have hB := BLm_of (hN y hy) hQ hym hits
      obtain ⟨hKy, hFy⟩ := hK y hy
      have y9 : F2of T.2.1 y 9 ≠ -1 := hFy.mpr (by
        unfold isFn
        rw [nuF_ne _ _ _ _ (by decide)]
        rcases hits with q | q
        · refine Or.inr ⟨q, ?_⟩
          rw [nuF_13 _ _ _ fun z hz => (hV z hz).1.1, if_pos ⟨x, hx, y1⟩]
          decide
        · exact Or.inl q)
      obtain ⟨-, -, ⟨⟨q1, q2⟩, -⟩, q3⟩ := hKy
      have q3 := q3 (Or.inr y9)
      rw [F2_eq _ _ _ (by decide) (by decide)] at q3
      obtain ⟨M', a1, a2, a3, a4⟩ := M_callFold_s hG hT hX hZ hx hy (by omega) hB rfl (by omega) q3 (sid_var f2 hB) y4
      have hfx : fnx zs (T.1 x) 0 = fnx zs (T.1 y) 0 := by
        obtain ⟨l1, l2⟩ := rnc_al y4
        have := fnx_al (zs := zs) l1 l2 _ 0 rfl (Nat.zero_le _)
        rw [List.drop_zero, List.drop_zero] at this
        exact this
      have hsid : (sid (T.1 y) (T.2.1 y 10)).map (sgm (T.1 x) (T.1 y)) = sid (T.1 x) (T.2.1 x 10) := by
        rw [sgm_sid y4 e2 f2 (by
          by_cases q : T.2.1 y 4 = 3
          · exact Or.inr (hB.1 q).1
          · exact Or.inl (hB.2 q)), s2]
        congr 1
        by_cases s5 : (fnx zs (T.1 x) 0).1 = 5
        · have q3 : T.2.1 y 4 = 3 := y3.trans (if_pos s5)
          have hNy := hN y hy
          unfold NS at hNy
          rw [F2_eq _ _ _ (by decide) (by decide), F2_eq _ _ _ (by decide) (by decide)] at hNy
          have y10 : T.2.1 y 10 = nth (T.1 y) ((fnx zs (T.1 y) 0).2.1 + 1) := by
            rcases hNy with h | h | h | h | h | h | h
            · omega
            · omega
            · omega
            · exact (F2_eq _ _ _ (by decide) (by decide)).symm.trans h.2.1.2.2
            · omega
            · omega
            · omega
          have hb := (hB.1 q3).1
          have hb0 : T.2.1 y 10 ≠ -1 := by have := (f2 _ hb.1).1; omega
          obtain ⟨⟨-, g1⟩, g2, -, -⟩ := fnx_blk (zs := zs) (xs := T.1 y) _ 0 rfl (Nat.zero_le _) (by rw [List.drop_zero, ← hfx]; exact s5)
          rw [List.drop_zero] at g1 g2
          rw [if_neg hb0, if_pos s5, y10, hfx]
          exact (sgm_at y4 (by rw [rnc_len _ _ _ _ y4]; exact g1) g2).1
        · have q3 : T.2.1 y 4 ≠ 3 := by rw [y3]; unfold itS; rw [if_neg s5]; decide
          rw [if_pos (hB.2 q3), if_neg s5]
      have y14 : (T.2.1 x 14).toNat = y := by rw [y1, toNat_n]
      have i16 : mI M 1316 x = (y : Int) := r8.trans y1
      rw [hsid] at a2
      rw [if_pos c4, if_neg (by omega), if_neg (by omega), if_neg (by omega), if_pos c4, gd_t, hG.m70, g16, gd_t, gd_t, i16, a1, cV_s, y14]
      exact ⟨M', rfl, RVm.ofC a2 ((a4.2.2 _ _ (by unfold caS; omega)).trans h76), a3, a4.mono fun a j q => ca_co q⟩
    rw [if_neg c4, if_neg c4, gd_t, gd_t]
    by_cases c2 : T.2.1 x 4 = 2
    · -- a STEP, with no function
      have h1k : nkc T.2.1 x = 1 := by
        unfold NS at hNx
        rw [e 4 (by decide) (by decide)] at hNx
        rcases hNx with h | h | h | h | h | h | h
        · omega
        · omega
        · have := h.2.2.nkc
          rw [hnkc] at this
          exact this
        · omega
        · omega
        · omega
        · omega
      obtain ⟨q1, q2, q3⟩ := kids (by omega)
      obtain ⟨⟨⟨m1, m2⟩, m3⟩, -⟩ := hC 0 (by omega)
      rw [Nat.add_zero] at m1 m2 m3
      have ek : kcat T.2.1 C x = C (nfk T.2.1 x) := by
        unfold kcat
        rw [h1k]
        show C (nfk T.2.1 x + 0) ++ [] = _
        rw [List.append_nil, Nat.add_zero]
      generalize nfk T.2.1 x = fk at *
      generalize C fk = ys at *
      have f1 : Fj (caS x) M (stI M 1325 x (ys.length : Int)) := Fj.ofI (by unfold caS; omega)
      have hG1 := hG.fj f1
      have i25 : mI (stI M 1325 x (ys.length : Int)) 1325 fk = (ys.length : Int) := by rw [mI_ne (by omega)]; exact m2
      obtain ⟨M1, a1, a2, a3⟩ := M_copy_s hG1 (k := ys.length) (p := 100 * fk) (q := 100 * x) arr_1324 arr_1324 (by omega) (by omega) ⟨by decide, by decide⟩ (Or.inr (by omega))
      have f2 : Fj (caS x) (stI M 1325 x (ys.length : Int)) M1 := ⟨a2.1, a2.2.1, fun b j hb => by
        by_cases q9 : b = 1324
        · subst q9
          rw [a3, if_neg (by unfold caS at hb; omega)]
        · exact a2.2.2 b q9 j⟩
      have gf : gS M 1325 0 (fk : Int) = true := hG.tgS arr_1325 (by omega) (by omega)
      have F2 := f1.trans f2
      rw [if_pos c2, if_neg (by omega), if_neg (by omega), if_pos (Or.inl c2), ek, gd_t, gd_t, hG.m87, q1, gf, gd_t, g25, gd_t, gd_t, gd_t, gd_t, gd_t, hG.m86, toNat_n, m2, i25, wr_id (x := (100 : Int) * (fk : Int)) (by omega) (by omega), wr_id (x := (100 : Int) * (x : Int)) (by omega) (by omega), show (100 : Int) * (fk : Int) = ((100 * fk : Nat) : Int) by omega, show (100 : Int) * (x : Int) = ((100 * x : Nat) : Int) by omega, a1, cV_s]
      refine ⟨M1, rfl, RVm.ofC ⟨⟨fun i hi => ?_, ?_⟩, m3⟩ ((F2.2.2 _ _ (by unfold caS; omega)).trans h76), hG1.fi a2, F2.mono fun a j q => ca_co q⟩
      · rw [a3, if_pos (by omega), mI_ne (by omega), show 100 * fk + (100 * x + i - 100 * x) = 100 * fk + i by omega]
        exact m1 i hi
      · exact (a2.2.2 _ (by omega) _).trans mI_at
    rw [if_neg c2, gd_t, gd_t]
    by_cases c5 : T.2.1 x 4 = 5
    · -- LET
      have hk5 := k5 c5
      rw [hnfk, hnkc] at hk5
      obtain ⟨q1, q2, q3⟩ := kids (by omega)
      have hfL := hT.kid hx (j := 0) (by omega)
      rw [Nat.add_zero] at hfL
      have hef := hX _ hfL
      have hXf := (hR.2 _ hfL).rx (by omega) hef
      have l10 := (hR.2 _ hfL).1.2
      have ho := ord_le40 hef.2.2
      have hC0 := hC 0 (by omega)
      rw [Nat.add_zero] at hC0
      obtain ⟨M1, a1, a2, a3⟩ := M_layOrder_s hG hXf ⟨by decide, by decide⟩ (by omega)
      have hG1 := hG.fj a3
      have f2 : Fj (cvS x) M1 (stI M1 1325 x 0) := Fj.ofI (by unfold cvS; omega)
      have F2 : Fj (cvS x) M (stI M1 1325 x 0) := (a3.mono fun a j q => by unfold oS at q; unfold cvS; omega).trans f2
      have hO2 : OR (stI M1 1325 x 0) (ord (T.1 (nfk T.2.1 x))) := a2.fjo (Fj.ofI (S := fun a j => a = 1325 ∧ j = x) ⟨rfl, rfl⟩) (by omega) (by omega)
      have hCx : CMm (stI M1 1325 x 0) x [] := ⟨⟨fun i hi => absurd hi (Nat.not_lt_zero i), mI_at⟩, by decide⟩
      have hKs : ∀ i, i < 1 + (ord (T.1 (nfk T.2.1 x))).length → CMm (stI M1 1325 x 0) (nfk T.2.1 x + i) (C (nfk T.2.1 x + i)) := fun i hi => (hC i (by omega)).1.fjo F2 (fun j q => by unfold cvS; omega) (by unfold cvS; omega)
      obtain ⟨M', b1, b2, b3, b4⟩ := M_let2_loop (k := x) (n := (C (nfk T.2.1 x)).length) (fk := nfk T.2.1 x) (C := C) (os := ord (T.1 (nfk T.2.1 x))) (by omega) (by omega) (fun j hj => by omega) rfl hC0.2 (C (nfk T.2.1 x)).length 0 (stI M1 1325 x 0) [] none rfl (Nat.zero_le _) (hG1.fj f2) hO2 hCx hKs (by rw [mI_ne (by omega)]; exact (a3.2.2 _ _ (by unfold oS; omega)).trans h76)
      rw [List.drop_zero, List.nil_append] at b2
      have b1 : M_layLet_38 1269 (x : Int) (nfk T.2.1 x : Int) ((100 * nfk T.2.1 x : Nat) : Int) none (stI M1 1325 x 0) = _ := b1
      have el : M_layLet 1269 (x : Int) M = some (none, M') := by
        rw [M_layLet_eq, hG.gM, gd_t, hG.m68, g14, gd_t, gd_t, gd_t, toNat_n, q1, hG.m64, hG.tgS (arr_nd (by decide)) (by omega) (by omega), gd_t, gd_t, hG.m63, toNat_n, l10, wr_id (x := (40 : Int) * (nfk T.2.1 x : Int)) (by omega) (by omega), show (40 : Int) * (nfk T.2.1 x : Int) = ((40 * nfk T.2.1 x : Nat) : Int) by omega, a1, cI_s, hG1.gM, gd_t, hG1.m87, hG1.tgS arr_1325 (by omega) (by omega), gd_t, wr_id (x := (100 : Int) * (nfk T.2.1 x : Int)) (by omega) (by omega), show (100 : Int) * (nfk T.2.1 x : Int) = ((100 * nfk T.2.1 x : Nat) : Int) by omega, b1]
      rw [if_pos c5, if_neg (by omega), if_neg (by omega), if_neg (by omega), if_pos c5, gd_t, el, cV_s]
      exact ⟨M', rfl, b2, b3, F2.trans (b4.mono fun a j q => cmF_co q)⟩
    rw [if_neg c5, if_neg c5, gd_t, gd_t, gd_t]
    have c3 : ¬ T.2.1 x 4 = 3 := fun q => k3 q c9
    rw [if_neg (show ¬ (T.2.1 x 4 = 2 ∨ T.2.1 x 4 = 3) by omega)]
    by_cases c6 : T.2.1 x 4 = 6
    · -- !
      have h80 : nkc T.2.1 x = 0 := by
        unfold NS at hNx
        rw [e 4 (by decide) (by decide), e 8 (by decide) (by decide)] at hNx
        rcases hNx with h | h | h | h | h | h | h
        · omega
        · omega
        · omega
        · omega
        · omega
        · omega
        · unfold nkc; rw [h.2]; rfl
      have F1 : Fj (caS x) M (stI (stI M 1324 (100 * x) 3) 1325 x 1) := (Fj.ofI (by unfold caS; omega)).trans (Fj.ofI (by unfold caS; omega))
      have hG1 := hG.fj F1
      have i13 : mI (stI (stI M 1324 (100 * x) 3) 1325 x 1) 1313 x = 0 := ((F1.2.2 _ _ (by unfold caS; omega)).trans r5).trans (by rw [h8, h80]; rfl)
      have e3 : M_thing 3 0 0 M = some (some (.inl 3), M) := by rw [M_thing_s (by decide) (by decide) (by decide)]; rfl
      have ecm : cm 50331648 = 3 := by decide
      rw [if_pos c6, e3, cI_s, if_neg (by omega), if_neg (by omega), hG.m86, wr_id (x := (100 : Int) * (x : Int)) (by omega) (by omega), show (100 : Int) * (x : Int) = ((100 * x : Nat) : Int) by omega, g24, gd_t, hG.gM, gd_t, hG.m87, g25, gd_t, toNat_n, M_kids_none hG1 (by omega) i13]
      refine ⟨_, rfl, RVm.ofC (CMm_one (a := 0) ?_ mI_at) ((F1.2.2 _ _ (by unfold caS; omega)).trans h76), hG1, F1.mono fun a j q => ca_co q⟩
      rw [mI_ne (by omega), mI_at, ecm]
    rw [if_neg c6]
    have hcell : mI M 1309 (40 * x) = cm (nth (T.1 x) 0) := r1 0 (by omega)
    have g09 : gS M 1309 0 ((40 * x : Nat) : Int) = true := hG.tgS arr_1309 (by omega) (by omega)
    have F1 : Fj (caS x) M (stI (stI M 1324 (100 * x) (cm (nth (T.1 x) 0))) 1325 x 1) := (Fj.ofI (by unfold caS; omega)).trans (Fj.ofI (by unfold caS; omega))
    have hG1 := hG.fj F1
    have i13 : mI (stI (stI M 1324 (100 * x) (cm (nth (T.1 x) 0))) 1325 x 1) 1313 x = (nkc T.2.1 x : Int) := ((F1.2.2 _ _ (by unfold caS; omega)).trans r5).trans h8
    have hCx : CMm (stI (stI M 1324 (100 * x) (cm (nth (T.1 x) 0))) 1325 x 1) x [nth (T.1 x) 0] := CMm_one (a := 0) (by rw [mI_ne (by omega), mI_at]) mI_at
    have j76 : mI (stI (stI M 1324 (100 * x) (cm (nth (T.1 x) 0))) 1325 x 1) 1269 76 = 0 := (F1.2.2 _ _ (by unfold caS; omega)).trans h76
    have F1c : Fj (cvS x) M (stI (stI M 1324 (100 * x) (cm (nth (T.1 x) 0))) 1325 x 1) := F1.mono fun a j q => ca_co q
    rw [hG.m63, hG.m86, wr_id (x := (40 : Int) * (x : Int)) (by omega) (by omega), wr_id (x := (100 : Int) * (x : Int)) (by omega) (by omega), show (40 : Int) * (x : Int) = ((40 * x : Nat) : Int) by omega, show (100 : Int) * (x : Int) = ((100 * x : Nat) : Int) by omega, g09, gd_t, gd_t, g24, gd_t, gd_t, hG.m87, g25, gd_t, toNat_n, toNat_n, hcell]
    by_cases c1 : T.2.1 x 4 = 1
    · rw [if_neg (by omega), if_pos c1]
      by_cases z : nkc T.2.1 x = 0
      · have ek : kcat T.2.1 C x = [] := by unfold kcat; rw [z]; rfl
        rw [ek, M_kids_none hG1 (by omega) (by rw [i13, z]; rfl)]
        exact ⟨_, rfl, RVm.ofC hCx j76, hG1, F1c⟩
      · obtain ⟨q1, q2, q3⟩ := kids (by omega)
        obtain ⟨M', b1, b2, b3, b4⟩ := M_kids_loop (k := x) (n := nkc T.2.1 x) (fk := nfk T.2.1 x) (C := C) (by omega) q3 (fun j hj => by omega) (some (.inl ((100 * x : Nat) : Int))) (nkc T.2.1 x) 0 _ [nth (T.1 x) 0] (Nat.sub_zero _) (Nat.zero_le _) hG1 i13 hCx (fun i hi => (hC i hi).1.fjo F1 (fun j q => by unfold caS; omega) (by unfold caS; omega)) j76
        have b1 : M_layComes_165 1269 (x : Int) (nfk T.2.1 x : Int) 0 (some (.inl ((100 * x : Nat) : Int))) _ = _ := b1
        rw [q1, b1]
        refine ⟨M', rfl, ?_, b3, F1c.trans (b4.mono fun a j q => cmF_co q)⟩
        have ek : [nth (T.1 x) 0] ++ (List.range' 0 (nkc T.2.1 x)).flatMap (fun j => C (nfk T.2.1 x + j)) = nth (T.1 x) 0 :: kcat T.2.1 C x := by
          unfold kcat
          rw [List.range_eq_range']
          rfl
        rw [ek] at b2
        exact b2
    · have c0 : T.2.1 x 4 = 0 := by omega
      have z : nkc T.2.1 x = 0 := by
        unfold NS at hNx
        rw [e 4 (by decide) (by decide), e 8 (by decide) (by decide)] at hNx
        rcases hNx with h | h | h | h | h | h | h
        · unfold nkc; rw [h.2.1]; rfl
        · omega
        · omega
        · omega
        · omega
        · omega
        · omega
      rw [if_pos c0, M_kids_none hG1 (by omega) (by rw [i13, z]; rfl)]
      exact ⟨_, rfl, RVm.ofC hCx j76, hG1, F1c⟩
  · -- a function of its own
    have hfn := kf.mp c9
    have h23 : T.2.1 x 4 = 2 ∨ T.2.1 x 4 = 3 := by
      unfold isFn at hfn
      rw [nuF_ne _ _ _ _ (by decide)] at hfn
      rcases hfn with q | q
      · exact Or.inr q
      · exact Or.inl q.1
    have hB := BLm_of hNx hQ hxm h23
    obtain ⟨M', a1, a2, a3, a4⟩ := M_callOwn_s hG hT hX hZ hx hB rfl (by omega) (k8 (Or.inr c9)) (fun v hv => (sid_var e2 hB v hv).1)
    rw [if_neg c9, if_neg c9, if_neg (by omega), if_neg (by omega), if_pos h23, gd_t, a1, cV_s]
    exact ⟨M', rfl, RVm.ofC a2 ((a4.2.2 _ _ (by unfold caS; omega)).trans h76), a3, a4.mono fun a j q => ca_co q⟩
end RCOMES2

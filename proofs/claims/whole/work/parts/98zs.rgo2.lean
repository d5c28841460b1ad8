/-! ===== the reference goes on below one ===== -/
section RGO2
variable {M : Mem} {T : TS} {k : Nat} {zs : List Clz}
/-- the call is looked up anew -/
theorem M_goHead_s {its : Int} (hG : Good M) (hT : TOK T k) (hR : RT M T) (hP : ROWP M 0 zs) (hW : RX M 1318 41 0 (T.1 k)) (hk2 : kd (nth (T.1 k) 0) = 2) : ∃ M1, M_lookCall 1269 0 1318 (stI (stI M 1315 k its) 1269 47 0) = some (some (.inl (lkR (fnx zs (T.1 k) 0).1)), M1) ∧ (((fnx zs (T.1 k) 0).1 = 4 ∨ (fnx zs (T.1 k) 0).1 = 5 → mI M1 1269 47 = ((fnx zs (T.1 k) 0).2.1 : Nat)) ∧ ((fnx zs (T.1 k) 0).1 = 4 → mI M1 1269 49 = ((fnx zs (T.1 k) 0).2.2 : Nat))) ∧ RT M1 (upB T k 4 its) ∧ TOK (upB T k 4 its) k ∧ Good M1 ∧ Fj (fun a j => (a = 1315 ∧ j = k) ∨ (a = 1269 ∧ 47 ≤ j ∧ j ≤ 49)) M M1 := by
  obtain ⟨hk1, hk2', hk3⟩ := hT.k
  obtain ⟨e1, e2, e3⟩ := hT.2.2 k hk1
  obtain ⟨b1, b2, b3⟩ := RT.kind (k := k) hG hR its
  have f2 : Fj (fun a j => a = 1269 ∧ j = 47) (stI M 1315 k its) (stI (stI M 1315 k its) 1269 47 0) := Fj.ofI ⟨rfl, rfl⟩
  have F2 : Fj (fun a j => (a = 1315 ∧ j = k) ∨ (a = 1269 ∧ 47 ≤ j ∧ j ≤ 49)) M (stI (stI M 1315 k its) 1269 47 0) := (b3.mono fun a j q => Or.inl q).trans (f2.mono fun a j q => by omega)
  have hG2 := hG.fj F2
  obtain ⟨M1, c1, ⟨c2, c3⟩, c4⟩ := M_lookC_s (p := 0) (zs := zs) (by decide) e2 e1 hk2 hG2 (hW.fj F2 (by omega)) (hP.fj F2 (by omega)) mI_at
  refine ⟨M1, c1, ⟨c2, fun q => ?_⟩, (b1.fjo f2 (by omega)).fjo c4 (fun a j q => by unfold lkS; omega), hT.up (by omega), hG2.fj c4, F2.trans (c4.mono fun a j q => by unfold lkS at q; omega)⟩
  rw [c3 q, Nat.mul_zero, Nat.zero_add]
theorem M_goStep_s {nl fr tu : Nat} (hG : Good M) (hT : TOK T k) (hR : RT M T) (hQ : RQ M T) (hP : ROWP M 0 zs) (hW : RX M 1318 41 0 (T.1 k)) (hk2 : kd (nth (T.1 k) 0) = 2) (h4 : (fnx zs (T.1 k) 0).1 = 4) (h75 : mI M 1269 75 = (fr : Int) + 98586) (h74 : mI M 1269 74 = (tu : Int)) (h76 : mI M 1269 76 = 0) : ∃ M', M_goBelow 1269 (k : Int) 2 M = some (none, M') ∧ RLk M' (lkK zs (fnx zs (T.1 k) 0) T k (T.1 k) nl fr tu) ∧ Good M' ∧ Fj dtS M M' := by
  obtain ⟨hk1, hk2', hk3⟩ := hT.k
  obtain ⟨e1, e2, e3⟩ := hT.2.2 k hk1
  obtain ⟨M1, a1, ⟨a2, a3⟩, a4, a5, a6, a7⟩ := M_goHead_s (its := 2) hG hT hR hP hW hk2
  obtain ⟨z, z1, z2, z3⟩ := fnx_clf (zs := zs) (xs := T.1 k) _ 0 rfl (Nat.zero_le _) (by rw [List.drop_zero]; exact h4)
  rw [List.drop_zero] at z1 z2 z3
  have hclf : CLf (T.1 k) (fnx zs (T.1 k) 0).2.1 z := by
    obtain ⟨b, hb⟩ := wf_at e1 z2.1
    rw [Nat.add_comm] at hb
    have := wf_next z2.1 hb
    rw [z2.2] at this
    exact ⟨⟨z2.1, z2.2, b, this⟩, z3⟩
  have ez : zs.getD (fnx zs (T.1 k) 0).2.2 (0, -1, [], []) = z := by rw [List.getD_eq_getElem?_getD, z1]; rfl
  have hcl := (List.getElem?_eq_some_iff.mp z1).1
  have hzl := hP.1.2.2
  have hP1 := hP.fj a7 (by omega)
  have hrow : ROW M1 (fnx zs (T.1 k) 0).2.2 z := by
    have := hP1.2.1.row z1
    rwa [Nat.mul_zero, Nat.zero_add] at this
  have i76 : mI M1 1269 76 = 0 := (a7.2.2 _ _ (by omega)).trans h76
  obtain ⟨M2, c1, c2, c3, c4, c5⟩ := M_stepBelow_s (k := k) (a := 1318) (n := 41) (c := (fnx zs (T.1 k) 0).2.2) (p := (fnx zs (T.1 k) 0).2.1) (z := z) (T := upB T k 4 2) (xs := T.1 k) (-1) (-1) (by decide) (by omega) (hP.2.2.1 z (List.mem_of_getElem? z1)) hclf e1 e2 a6 (hW.fj a7 (by omega)) hrow (a2 (Or.inl h4)) (a3 h4) a5 a4 i76
  have c1 : M_stepBelow 1269 (k : Int) 1318 ((T.1 k).length : Int) M1 = some (some (.inl (if ad1 (stx z (T.1 k) (fnx zs (T.1 k) 0).2.1).length T.2.2 = 0 then 1 else 0)), M2) := c1
  have i10 : mI M1 1310 k = ((T.1 k).length : Int) := (a7.2.2 _ _ (by omega)).trans (hR.2 k hk1).1.2
  have F2 : Fj dtS M M2 := (a7.mono fun a j q => by unfold dtS; omega).trans (c5.mono fun a j q => by unfold rsS2 rbS at q; unfold dtS; omega)
  have hQ1 : RQ M2 (upB T k 4 2) := ((hQ.fjo a7 (by omega)).kind (by decide)).fjo c5 (fun a j q => by
    have q : (a = 1317 ∨ a = 1328) ∧ j < T.2.2 := q
    show ¬ rsS2 T.2.2 a j
    unfold rsS2 rbS; omega)
  have k75 : mI M2 1269 75 = (fr : Int) + 98586 := ((c5.2.2 _ _ (by unfold rsS2 rbS; omega)).trans (a7.2.2 _ _ (by omega))).trans h75
  have k74 : mI M2 1269 74 = (tu : Int) := ((c5.2.2 _ _ (by unfold rsS2 rbS; omega)).trans (a7.2.2 _ _ (by omega))).trans h74
  refine ⟨M2, ?_, ?_, c4, F2⟩
  · have gk : gS M 1315 0 (k : Int) = true := hG.tgS (arr_nd (by decide)) (by omega) (by omega)
    rw [M_goBelow_eq, hG.gM, gd_t, hG.m69, gk, gd_t, gd_t, gd_t, gd_t, hG.m78, toNat_n, a1, cI_s, if_pos rfl, a6.gM, gd_t, gd_t, a6.m64, a6.tgS (arr_nd (by decide)) (by omega) (by omega), gd_t, gd_t, i10, a6.m78, c1, cI_s]
  · have e5 : ¬ (fnx zs (T.1 k) 0).1 = 5 := by omega
    unfold lkK
    rw [if_neg e5, ez]
    show RAd M2 (adL k [(stx z (T.1 k) (fnx zs (T.1 k) 0).2.1, -1, -1)] (upB T k 4 2)) ∧ ((adL k [(stx z (T.1 k) (fnx zs (T.1 k) 0).2.1, -1, -1)] (upB T k 4 2)).1 = 0 → RQ M2 (adL k [(stx z (T.1 k) (fnx zs (T.1 k) 0).2.1, -1, -1)] (upB T k 4 2)).2 ∧ mI M2 1269 75 = (fr : Int) + 98586 ∧ mI M2 1269 74 = (tu : Int))
    refine ⟨?_, fun _ => ⟨hQ1.addL _ _ (fun x hx => by rw [List.mem_singleton.mp hx]), k75, k74⟩⟩
    rw [adL_s]
    by_cases w : ad1 (stx z (T.1 k) (fnx zs (T.1 k) 0).2.1).length T.2.2 = 0
    · rw [if_pos (show ad1 (stx z (T.1 k) (fnx zs (T.1 k) 0).2.1).length (upB T k 4 2).2.2 = 0 from w)]
      exact ⟨fun _ => c3 w, fun h => absurd rfl h⟩
    · rw [if_neg (show ¬ ad1 (stx z (T.1 k) (fnx zs (T.1 k) 0).2.1).length (upB T k 4 2).2.2 = 0 from w)]
      exact ⟨fun h => absurd h w, fun _ => c2 w⟩
theorem M_goSplit_s {nl fr tu : Nat} (hG : Good M) (hT : TOK T k) (hR : RT M T) (hQ : RQ M T) (hP : ROWP M 0 zs) (hW : RX M 1318 41 0 (T.1 k)) (hk2 : kd (nth (T.1 k) 0) = 2) (h5 : (fnx zs (T.1 k) 0).1 = 5) (h10 : T.2.1 k 10 = nth (T.1 k) ((fnx zs (T.1 k) 0).2.1 + 1)) (hfr : 1414 ≤ fr ∧ fr + 600 < 65536) (h75 : mI M 1269 75 = (fr : Int) + 98586) (h74 : mI M 1269 74 = (tu : Int)) (h76 : mI M 1269 76 = 0) : ∃ M', M_goBelow 1269 (k : Int) 3 M = some (none, M') ∧ RLk M' (lkK zs (fnx zs (T.1 k) 0) T k (T.1 k) nl fr tu) ∧ Good M' ∧ Fj dtS M M' := by
  obtain ⟨hk1, hk2', hk3⟩ := hT.k
  obtain ⟨e1, e2, e3⟩ := hT.2.2 k hk1
  obtain ⟨M1, a1, ⟨a2, -⟩, a4, a5, a6, a7⟩ := M_goHead_s (its := 3) hG hT hR hP hW hk2
  have a2 := a2 (Or.inr h5)
  obtain ⟨⟨g0, g1⟩, g2, g3, c, z, w1, w2, w3⟩ := fnx_blk (zs := zs) (xs := T.1 k) _ 0 rfl (Nat.zero_le _) (by rw [List.drop_zero]; exact h5)
  rw [List.drop_zero] at g1 g2 g3 w1
  have hzl := hP.1.2.2
  have hvb := av_nth e2 g1
  have hvf : vc (nth (T.1 k) (fnx zs (T.1 k) 0).2.1) := av_nth e2 (by omega)
  have hcon : ∀ z ∈ zs, z.1 = nth (T.1 k) (fnx zs (T.1 k) 0).2.1 → z.2.1 ≠ -1 := by
    intro y hy hyf
    obtain ⟨v, v1, v2⟩ : ∃ v, zs[c]? = some v ∧ v.1 = nth (T.1 k) (fnx zs (T.1 k) 0).2.1 := by
      rcases fo_spec (nth (T.1 k) (fnx zs (T.1 k) 0).2.1) zs 0 with ⟨g, -⟩ | ⟨j, w, g1, g2, g3, -⟩
      · rw [g] at w1; cases w1
      · rw [g1, Nat.zero_add] at w1; cases w1; exact ⟨w, g2, g3⟩
    rw [w2] at v1
    cases v1
    obtain ⟨j, hj⟩ := List.mem_iff_getElem?.mp hy
    by_cases e1 : j = c
    · subst e1; rw [w2] at hj; cases hj; exact w3
    · by_cases e2 : j < c
      · exact (hP.2.2.2 j c y z e2 hj w2 (hyf.trans v2.symm)).1
      · exact (hP.2.2.2 c j z y (by omega) w2 hj (v2.trans hyf.symm)).2.1
  have hP1 := hP.fj a7 (by omega)
  have hW1 := hW.fj a7 (by omega)
  have i76 : mI M1 1269 76 = 0 := (a7.2.2 _ _ (by omega)).trans h76
  have i75 : mI M1 1269 75 = (fr : Int) + 98586 := (a7.2.2 _ _ (by omega)).trans h75
  have f2 : Fj (fun a j => a = 1317 ∧ j = k) M1 (stI M1 1317 k (nmo (nth (T.1 k) ((fnx zs (T.1 k) 0).2.1 + 1)))) := Fj.ofI ⟨rfl, rfl⟩
  have hQ0 : RQ M1 T := hQ.fjo a7 (by omega)
  have hQ2 : RQ (stI M1 1317 k (nmo (nth (T.1 k) ((fnx zs (T.1 k) 0).2.1 + 1)))) (upB T k 4 3) := by
    intro y hy
    show (upF T.2.1 k 4 3 y 4 = 3 → mI (stI M1 1317 k (nmo (nth (T.1 k) ((fnx zs (T.1 k) 0).2.1 + 1)))) 1317 y = nmo (upF T.2.1 k 4 3 y 10)) ∧ (upF T.2.1 k 4 3 y 12 ≠ -1 → fro (stI M1 1317 k (nmo (nth (T.1 k) ((fnx zs (T.1 k) 0).2.1 + 1)))) y (upF T.2.1 k 4 3 y 12))
    rw [upF_ne (b := 10) (by omega), upF_ne (b := 12) (by omega)]
    refine ⟨fun q => ?_, fun q => ⟨(f2.2.2 _ _ (by omega)).trans ((hQ0 y hy).2 q).1, ((hQ0 y hy).2 q).2⟩⟩
    by_cases e : y = k
    · subst e
      rw [mI_at, h10]
    · rw [upF_ne (by omega)] at q
      rw [mI_ne (by omega)]
      exact (hQ0 y hy).1 q
  have x1 : mI M1 1318 ((fnx zs (T.1 k) 0).2.1 + 1) = cm (nth (T.1 k) ((fnx zs (T.1 k) 0).2.1 + 1)) := by have := hW1.2.1 _ g1; rwa [Nat.zero_add] at this
  have x0 : mI (stI M1 1317 k (nmo (nth (T.1 k) ((fnx zs (T.1 k) 0).2.1 + 1)))) 1318 (fnx zs (T.1 k) 0).2.1 = cm (nth (T.1 k) (fnx zs (T.1 k) 0).2.1) := by
    have := hW1.2.1 (fnx zs (T.1 k) 0).2.1 (by omega)
    rw [Nat.zero_add] at this
    exact (f2.2.2 _ _ (by omega)).trans this
  have i47 : mI (stI M1 1317 k (nmo (nth (T.1 k) ((fnx zs (T.1 k) 0).2.1 + 1)))) 1269 47 = (((fnx zs (T.1 k) 0).2.1 : Nat) : Int) := (f2.2.2 _ _ (by omega)).trans a2
  have hG2 := a6.fj f2
  have r1317 : mI (stI M1 1317 k (nmo (nth (T.1 k) ((fnx zs (T.1 k) 0).2.1 + 1)))) 1317 k = nmo (nth (T.1 k) ((fnx zs (T.1 k) 0).2.1 + 1)) := mI_at
  have gk : gS M 1315 0 (k : Int) = true := hG.tgS (arr_nd (by decide)) (by omega) (by omega)
  have head : M_goBelow 1269 (k : Int) 3 M = M_goBelow_80 1269 (k : Int) (cm (nth (T.1 k) (fnx zs (T.1 k) 0).2.1)) 1 0 (some (.inl 3)) (stI M1 1317 k (nmo (nth (T.1 k) ((fnx zs (T.1 k) 0).2.1 + 1)))) := by
    rw [M_goBelow_eq, hG.gM, gd_t, hG.m69, gk, gd_t, gd_t, gd_t, gd_t, hG.m78, toNat_n, a1, cI_s, if_neg (by decide), a6.gM, gd_t, gd_t, gd_t, a2, wr_s (by omega), a6.m78, a6.tgS arr_1318 (by omega) (by omega), gd_t, toNat_n, x1, M_nameOf_s hvb, cI_s, a6.m71, a6.tgS (arr_nd (by decide)) (by omega) (by omega), gd_t, a6.gM, gd_t, gd_t, i47, a6.m78, a6.tgS arr_1318 (by omega) (by omega), gd_t, toNat_n, x0]
  rw [head]
  generalize hM2 : stI M1 1317 k (nmo (nth (T.1 k) ((fnx zs (T.1 k) 0).2.1 + 1))) = M2 at *
  have F2 : Fj (fun a j => ((a = 1315 ∨ a = 1317) ∧ j = k) ∨ (a = 1269 ∧ 47 ≤ j ∧ j ≤ 49)) M M2 := (a7.mono fun a j q => by omega).trans (f2.mono fun a j q => by omega)
  obtain ⟨M3, b1, b2, b3, b4, b5⟩ := M_goCases_loop (k := k) (m0 := T.2.2) h5 hcon hvf (some (.inl 3)) zs.length 0 (upB T k 4 3) M2 fr (Nat.sub_zero _) (Nat.zero_le _) (Nat.le_refl T.2.2) hG2 a5 (a4.fjo f2 (by omega)) hQ2 rfl (hW1.fj f2 (by omega)) (hP1.fj f2 (by omega)) r1317 ((f2.2.2 _ _ (by omega)).trans i75) ((f2.2.2 _ _ (by omega)).trans i76) (by omega)
  rw [List.drop_zero] at b2 b3
  refine ⟨M3, b1, ?_, b4, (F2.mono fun a j q => by unfold dtS; omega).trans (b5.mono fun a j q => sp_dt q)⟩
  have k74 : mI M3 1269 74 = (tu : Int) := ((b5.2.2 _ _ (by unfold spS; omega)).trans (F2.2.2 _ _ (by omega))).trans h74
  unfold lkK
  rw [if_pos h5]
  exact ⟨b2, fun q => ⟨(b3 q).1, (b3 q).2, k74⟩⟩
end RGO2

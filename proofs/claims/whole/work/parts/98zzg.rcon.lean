/-! ===== the reference: the CON of a case by its place ===== -/
section RCON
variable {T : TS} {k : Nat} {zs : List Clz}
theorem M_con_find {xs : List Int} {f blk : Int} {p : Nat} (hf : vc f) (hp : p < 41) : ∀ (t i j fr : Nat) (M : Mem) (d5 : LV) (cc0 : Int) (e : Kd3), zs.length - i = t → i ≤ zs.length → j < 1000 → Good M → ROWP M 0 zs → mI M 1269 47 = (p : Int) → mI M 1318 p = cm f → (spk f blk xs p (zs.drop i) fr)[j]? = some e → ∃ (i' : Nat) (z : Clz), M_conBelow_42 1269 (k : Int) cc0 (j : Int) (i : Int) d5 M = M_conBelow_101 1269 (k : Int) cc0 (i' : Int) 0 (some (.inl 0)) M ∧ zs[i']? = some z ∧ z.1 = f ∧ e.2.1 = z.2.1 := by
  intro t
  induction t with
  | zero =>
    intro i j fr M d5 cc0 e h1 h2 hj hG hP h47 h18 he
    rw [List.drop_eq_nil_of_le (by omega)] at he
    cases he
  | succ t ih =>
    intro i j fr M d5 cc0 e h1 h2 hj hG hP h47 h18 he
    have hzl := hP.1.2.2
    have hi : i < zs.length := by omega
    have hg : zs[i]? = some zs[i] := List.getElem?_eq_getElem hi
    have hzm := List.mem_of_getElem? hg
    rw [List.drop_eq_getElem_cons hi] at he
    generalize zs[i] = z at *
    have hzk := hP.2.2.1 z hzm
    have hrow : ROW M i z := by
      have := hP.2.1.row hg
      rwa [Nat.mul_zero, Nat.zero_add] at this
    have g74 : gS M 1274 0 (i : Int) = true := hG.tgS arr_1274 (by omega) (by omega)
    have g18 : gS M 1318 0 (p : Int) = true := hG.tgS arr_1318 (by omega) (by omega)
    have e65 : M_conBelow_65 1269 (k : Int) cc0 (j : Int) (i : Int) d5 M = if z.1 = f then M_conBelow_42 1269 (k : Int) cc0 ((j : Int) - 1) ((i + 1 : Nat) : Int) d5 M else M_conBelow_42 1269 (k : Int) cc0 (j : Int) ((i + 1 : Nat) : Int) d5 M := by
      rw [M_conBelow_65_eq, hG.gM, gd_t, hG.m11, g74, gd_t, gd_t, gd_t, h47, hG.m78, g18, gd_t, toNat_n, toNat_n, hrow.1.1, h18, wr_s (by omega), wr_id (x := (j : Int) - 1) (by omega) (by omega), wr_id (x := (j : Int) - 0) (by omega) (by omega), show (j : Int) - 0 = (j : Int) by omega]
      by_cases q : z.1 = f
      · rw [if_pos (by rw [q]), if_pos q]
      · rw [if_neg (fun e => q ((cm_inj hzk.1.1 hf).mp e)), if_neg q]
    have e42 : M_conBelow_42 1269 (k : Int) cc0 (j : Int) (i : Int) d5 M = if z.1 = f then (if 0 < (j : Int) then M_conBelow_65 1269 (k : Int) cc0 (j : Int) (i : Int) d5 M else M_conBelow_101 1269 (k : Int) cc0 (i : Int) 0 (some (.inl (j : Int))) M) else M_conBelow_65 1269 (k : Int) cc0 (j : Int) (i : Int) d5 M := by
      rw [M_conBelow_42_eq, hG.gM, gd_t, hG.m11, g74, gd_t, gd_t, gd_t, h47, hG.m78, g18, gd_t, toNat_n, toNat_n, hrow.1.1, h18]
      by_cases q : z.1 = f
      · rw [if_pos (by rw [q]), if_pos q]
      · rw [if_neg (fun e => q ((cm_inj hzk.1.1 hf).mp e)), if_neg q]
    rw [e42, e65]
    unfold spk at he
    by_cases q : z.1 = f
    · rw [if_pos q] at he
      rw [if_pos q, if_pos q]
      cases j with
      | zero =>
        have he := Option.some.inj he
        rw [if_neg (by decide)]
        exact ⟨i, z, rfl, hg, q, by rw [← he]⟩
      | succ j =>
        rw [if_pos (by omega), show ((j + 1 : Nat) : Int) - 1 = (j : Int) by omega]
        exact ih (i + 1) j _ M d5 cc0 e (by omega) (by omega) (by omega) hG hP h47 h18 he
    · rw [if_neg q] at he
      rw [if_neg q, if_neg q]
      exact ih (i + 1) j _ M d5 cc0 e (by omega) (by omega) hj hG hP h47 h18 he
theorem M_con_vars {con : Int} {fr i0 c y : Nat} (hk : k < 120) (hi0 : i0 < 40) (hy : y < 120) (hcon : vc con) (hn : arN con ≤ 4) (hfr : 1414 ≤ fr ∧ fr + 4 < 65536) (d3 : LV) : ∀ (t j : Nat) (M : Mem), arN con - j = t → j ≤ arN con → Good M → mI M 1275 i0 = cm con → mI M 1314 k + (c : Int) = (y : Int) → -1 ≤ mI M 1314 k → mI M 1328 y = (fr : Int) + 98586 → OR M (vsq fr j) → ∃ M', M_conBelow_101 1269 (k : Int) (c : Int) (i0 : Int) (j : Int) d3 M = some (some (.inl (cm con)), M') ∧ OR M' (vsq fr (arN con)) ∧ Good M' ∧ Fj oS M M' := by
  have har := arN_ar con
  intro t
  induction t with
  | zero =>
    intro j M h1 h2 hG h75 h14 h14' h28 hO
    have e : j = arN con := by omega
    subst e
    refine ⟨M, ?_, hO, hG, Fj.refl⟩
    rw [M_conBelow_101_eq, hG.gM, gd_t, hG.m12, hG.tgS arr_1275 (by omega) (by omega), gd_t, toNat_n, h75, M_manyOf_s hcon, cI_s, if_neg (by omega), hG.gM, gd_t, hG.m12, hG.tgS arr_1275 (by omega) (by omega), gd_t, h75]
  | succ t ih =>
    intro j M h1 h2 hG h75 h14 h14' h28 hO
    have n43 := hO.1
    rw [vsq_len] at n43
    obtain ⟨-, m2⟩ := cm_var (v := (fr : Int) + (j : Int)) (by omega)
    have hv := vc_var (c := (fr : Int) + (j : Int)) (by omega)
    have hkd := (kd_var (c := (fr : Int) + (j : Int)) (by omega)).1
    have hO1 := hO.push hv hkd (by rw [vsq_len]; omega)
    rw [← vsq_s, vsq_len, m2, if_neg (by omega)] at hO1
    have f1 : Fj oS M (stI (stI M 1297 j ((fr : Int) + (j : Int) + 98586)) 1269 43 ((j + 1 : Nat) : Int)) := (Fj.ofI (by unfold oS; omega)).trans (Fj.ofI (by unfold oS; omega))
    have e43 : mI (stI M 1297 j ((fr : Int) + (j : Int) + 98586)) 1269 43 = (j : Int) := by rw [mI_ne (by omega)]; exact n43
    obtain ⟨M', a1, a2, a3, a4⟩ := ih (j + 1) _ (by omega) (by omega) (hG.fj f1) ((f1.2.2 _ _ (by unfold oS; omega)).trans h75) (by rw [f1.2.2 _ _ (by unfold oS; omega)]; exact h14) (by rw [f1.2.2 _ _ (by unfold oS; omega)]; exact h14') ((f1.2.2 _ _ (by unfold oS; omega)).trans h28) hO1
    refine ⟨M', ?_, a2, a3, f1.trans a4⟩
    have g68 : gS M 1314 0 (k : Int) = true := hG.tgS (arr_nd (by decide)) (by omega) (by omega)
    have g92 : gS M 1328 0 (y : Int) = true := hG.tgS arr_1328 (by omega) (by omega)
    have g97 : gS M 1297 0 (j : Int) = true := hG.tgS arr_1297 (by omega) (by omega)
    rw [M_conBelow_101_eq, hG.gM, gd_t, hG.m12, hG.tgS arr_1275 (by omega) (by omega), gd_t, toNat_n, h75, M_manyOf_s hcon, cI_s, if_pos (by omega), hG.gM, gd_t, gd_t, gd_t, gd_t, hG.m68, g68, gd_t, toNat_n, wr_id (x := mI M 1314 k + (c : Int)) (by omega) (by omega), h14, hG.m92, g92, gd_t, hG.m42, n43, g97, gd_t, gd_t, gd_t, toNat_n, toNat_n, h28, wr_id (x := (fr : Int) + 98586 + (j : Int)) (by omega) (by omega), show (fr : Int) + 98586 + (j : Int) = (fr : Int) + (j : Int) + 98586 by omega, e43, wr_s (by omega), a1]
theorem M_conBelow_s {M : Mem} {j fr0 : Nat} {e : Kd3} {fr : Nat} (hG : Good M) (hT : TI T.2.1 T.2.2) (hX : XOK T.1 T.2.1) (hR : RT M T) (hP : ROWP M 0 zs) (hk : k ∈ lnF T.2.1) (hkd : kd (nth (T.1 k) 0) = 2) (h5 : (fnx zs (T.1 k) 0).1 = 5) (he : (spk (nth (T.1 k) (fnx zs (T.1 k) 0).2.1) (nth (T.1 k) ((fnx zs (T.1 k) 0).2.1 + 1)) (T.1 k) (fnx zs (T.1 k) 0).2.1 zs fr0)[j]? = some e) (hj : j < nkc T.2.1 k) (hcon : vc e.2.1 ∧ e.2.1 ≠ -1 ∧ arN e.2.1 ≤ 4) (hfr : 1414 ≤ fr ∧ fr + 4 < 65536) (h28 : mI M 1328 (nfk T.2.1 k + j) = (fr : Int) + 98586) (h43 : mI M 1269 43 = 0) : ∃ M', M_conBelow 1269 (k : Int) (j : Int) M = some (some (.inl (cm e.2.1)), M') ∧ OR M' (vsq fr (arN e.2.1)) ∧ Good M' ∧ Fj (fun a j => a = 1297 ∨ a = 1318 ∨ (a = 1269 ∧ (j = 43 ∨ (47 ≤ j ∧ j ≤ 49)))) M M' := by
  have hm := hT.1.2.2
  have hkm := hT.1.2.1 k hk
  obtain ⟨e1, e2, e3⟩ := hX k hk
  have hXk := (hR.2 k hk).rx (by omega) ⟨e1, e2, e3⟩
  have l10 := (hR.2 k hk).1.2
  have hTk := hT.2.1 k hk
  have hkid := hT.1.2.1 _ (hT.kid hk hj)
  have hT3 := hTk.2.1 (by unfold nkc at hj; omega)
  have i14 : mI M 1314 k = (nfk T.2.1 k : Int) := by
    have := (hR.2 k hk).2.2.1.2 (by unfold nkc at hj; omega)
    rw [this]; unfold nfk; omega
  obtain ⟨⟨-, g1⟩, g2, -, -⟩ := fnx_blk (zs := zs) (xs := T.1 k) _ 0 rfl (Nat.zero_le _) (by rw [List.drop_zero]; exact h5)
  rw [List.drop_zero] at g1
  obtain ⟨M1, a1, a2, a3⟩ := M_copy_s hG (k := (T.1 k).length) (p := 40 * k) (q := 0) arr_1309 arr_1318 (by omega) (by omega) ⟨by decide, by decide⟩ (Or.inl (by decide))
  have a1 : M_copy 1309 ((40 * k : Nat) : Int) ((T.1 k).length : Int) 1318 0 M = some (none, M1) := a1
  have hG1 := hG.fi a2
  have hW1 : RX M1 1318 41 0 (T.1 k) := by
    refine ⟨⟨arr_1318, by decide⟩, fun i hi => ?_, by omega, e2⟩
    rw [a3, if_pos (by omega), Nat.zero_add, Nat.sub_zero]
    exact hXk.2.1 i hi
  have f1 : Fj (fun a j => a = 1318) M M1 := a2.fj fun a j q => q
  have f2 : Fj (fun a j => a = 1269 ∧ j = 47) M1 (stI M1 1269 47 0) := Fj.ofI ⟨rfl, rfl⟩
  have F2 : Fj (fun a j => a = 1318 ∨ (a = 1269 ∧ 47 ≤ j ∧ j ≤ 49)) M (stI M1 1269 47 0) := (f1.mono fun a j q => by omega).trans (f2.mono fun a j q => by omega)
  have hG2 := hG.fj F2
  obtain ⟨M2, c1, ⟨c2, -⟩, c4⟩ := M_lookC_s (p := 0) (zs := zs) (by decide) e2 e1 hkd hG2 (hW1.fj f2 (by omega)) (hP.fj F2 (by omega)) mI_at
  have c1 : M_lookCall 1269 0 1318 (stI M1 1269 47 0) = _ := c1
  have F3 : Fj (fun a j => a = 1318 ∨ (a = 1269 ∧ 47 ≤ j ∧ j ≤ 49)) M M2 := F2.trans (c4.mono fun a j q => by unfold lkS at q; omega)
  have hG3 := hG.fj F3
  have i18 : mI M2 1318 (fnx zs (T.1 k) 0).2.1 = cm (nth (T.1 k) (fnx zs (T.1 k) 0).2.1) := by
    have := hW1.2.1 (fnx zs (T.1 k) 0).2.1 (by omega)
    rw [Nat.zero_add] at this
    exact ((c4.2.2 _ _ (by unfold lkS; omega)).trans (f2.2.2 _ _ (by omega))).trans this
  have hP3 := hP.fj F3 (by omega)
  obtain ⟨i', z, d1, d2, d3, d4⟩ := M_con_find (k := k) (zs := zs) (xs := T.1 k) (f := nth (T.1 k) (fnx zs (T.1 k) 0).2.1) (blk := nth (T.1 k) ((fnx zs (T.1 k) 0).2.1 + 1)) (p := (fnx zs (T.1 k) 0).2.1) (av_nth e2 (by omega)) (by omega) zs.length 0 j fr0 M2 none (j : Int) e (Nat.sub_zero _) (Nat.zero_le _) (by omega) hG3 hP3 (c2 (Or.inr h5)) i18 (by rw [List.drop_zero]; exact he)
  have d1 : M_conBelow_42 1269 (k : Int) (j : Int) (j : Int) 0 none M2 = _ := d1
  have hil := (List.getElem?_eq_some_iff.mp d2).1
  have hzl := hP.1.2.2
  have hrow : ROW M2 i' z := by
    have := hP3.2.1.row d2
    rwa [Nat.mul_zero, Nat.zero_add] at this
  have r75 : mI M2 1275 i' = cm e.2.1 := by
    rw [hrow.1.2.1, ← d4]
    exact if_neg hcon.2.1
  have j14 : mI M2 1314 k = (nfk T.2.1 k : Int) := (F3.2.2 _ _ (by omega)).trans i14
  obtain ⟨M', b1, b2, b3, b4⟩ := M_con_vars (k := k) (con := e.2.1) (fr := fr) (i0 := i') (c := j) (y := nfk T.2.1 k + j) (by omega) (by omega) (by omega) hcon.1 hcon.2.2 hfr (some (.inl 0)) (arN e.2.1) 0 M2 (Nat.sub_zero _) (Nat.zero_le _) hG3 r75 (by rw [j14]; omega) (by rw [j14]; omega) ((F3.2.2 _ _ (by omega)).trans h28) ⟨(F3.2.2 _ _ (by omega)).trans h43, Nat.zero_le _, fun i hi => absurd hi (Nat.not_lt_zero i), fun v hv => by cases hv⟩
  have b1 : M_conBelow_101 1269 (k : Int) (j : Int) (i' : Int) 0 (some (.inl 0)) M2 = _ := b1
  refine ⟨M', ?_, b2, b3, (F3.mono fun a j q => by omega).trans (b4.mono fun a j q => by unfold oS at q; omega)⟩
  rw [M_conBelow_eq, hG.gM, gd_t, gd_t, hG.m64, hG.tgS (arr_nd (by decide)) (by omega) (by omega), gd_t, gd_t, hG.m63, hG.m78, toNat_n, l10, wr_id (x := (40 : Int) * (k : Int)) (by omega) (by omega), show (40 : Int) * (k : Int) = ((40 * k : Nat) : Int) by omega, a1, cV_s, hG1.gM, gd_t, gd_t, gd_t, hG1.m78, c1, cI_s, d1, b1]
end RCON

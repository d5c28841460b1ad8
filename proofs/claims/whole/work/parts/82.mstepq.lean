/-! ===== step and saved: the reference ===== -/
section MSTEPQ
variable {M : Mem} {ws : List Int} {zs ns : List Clz} {bs : Bnd} {gl ng : List Int} {es : Nat → List Int} {f dr : Int}
def smS : Nat → Nat → Prop := fun a k => (1298 ≤ a ∧ a ≤ 1300) ∨ (a = 1269 ∧ (k = 46 ∨ k = 47 ∨ k = 48 ∨ k = 49)) ∨ a = 1292 ∨ a = 1293
theorem MX.fj {M1 : Mem} {A : Nat → Nat → Prop} (h : MX M es) (f : Fj A M M1) (h0 : ∀ k, ¬ A 1292 k ∧ ¬ A 1293 k) : MX M1 es := fun i hi => ⟨(f.2.2 _ _ (h0 _).2).trans (h i hi).1, fun j hj => (f.2.2 _ _ (h0 _).1).trans ((h i hi).2 j hj)⟩
theorem MB.fj {M1 : Mem} {A : Nat → Nat → Prop} (h : MB M bs) (f : Fj A M M1) (h0 : ¬ A 1269 36) (h1 : ∀ k, ¬ A 1289 k ∧ ¬ A 1290 k ∧ ¬ A 1291 k) : MB M1 bs := ⟨(f.2.2 _ _ h0).trans h.1, fun i q hq => ⟨(f.2.2 _ _ (h1 _).1).trans (h.2 i q hq).1, (f.2.2 _ _ (h1 _).2.1).trans (h.2 i q hq).2.1, (h.2 i q hq).2.2.fj f fun k => (h1 k).2.2⟩⟩
/-- the row behind the look is kept as an expression -/
theorem M_step_keep (hG : Good M) (hX : MX M es) (hx : ∀ i, i < 4 → xok (es i)) {y m : Nat} {us : List Int} (hY : RM M y 0 us) (hy : arr y 0 m ∧ m ≤ 20480 ∧ us.length ≤ m) (hne : y ≠ 1292) (hl : us.length ≤ 40) {j : Nat} (hj : j < 4) (c : Int) (d : LV) : ∃ M', M_step_140 1269 (j : Int) c (us.length : Int) y d M = some (some (.inl (if c = 2 then 1 else 0)), M') ∧ MX M' (setX es j us) ∧ Fj (fun a _ => a = 1292 ∨ a = 1293) M M' := by
  obtain ⟨M1, b1, b2, b3⟩ := M_copy_s hG (s := y) (d := 1292) (p := 0) (q := 40 * j) (k := us.length) hy.1 arr_1292 (by omega) (by omega) (by omega) (Or.inl hne)
  have b1 : M_copy y 0 (us.length : Int) 1292 ((40 * j : Nat) : Int) M = some (none, M1) := b1
  have hG1 := hG.fi b2
  have f2 : Fj (fun a k => a = 1293 ∧ k = j) M1 (stI M1 1293 j (us.length : Int)) := Fj.ofI ⟨rfl, rfl⟩
  rw [M_step_140_eq, hG.gM, gd_t, hG.m33, wr_id (x := 40 * (j : Int)) (by omega) (by omega), show 40 * (j : Int) = ((40 * j : Nat) : Int) by omega, b1, cV_s, hG1.gM, gd_t, hG1.m34, hG1.tgS arr_1293 (by omega) (by omega), gd_t, toNat_n]
  have hM : MX (stI M1 1293 j (us.length : Int)) (setX es j us) := fun i hi => by
    unfold setX
    by_cases q : i = j
    · subst q
      rw [if_pos rfl]
      refine ⟨mI_at, fun t ht => ?_⟩
      rw [mI_ne (by omega), b3, if_pos (by omega), show 0 + (40 * i + t - 40 * i) = 0 + t by omega]
      exact hY t ht
    · rw [if_neg q]
      have h40 := (hx i hi).1.2.2
      refine ⟨by rw [mI_ne (by omega)]; exact (b2.2.2 _ (by omega) _).trans (hX i hi).1, fun t ht => ?_⟩
      rw [mI_ne (by omega), b3, if_neg (by omega)]
      exact (hX i hi).2 t ht
  have F : Fj (fun a _ => a = 1292 ∨ a = 1293) M (stI M1 1293 j (us.length : Int)) := (b2.fj fun a k q => by omega).trans (f2.mono fun a k q => Or.inr q.1)
  by_cases h : c = 2
  · rw [if_pos h, if_pos h]
    exact ⟨_, rfl, hM, F⟩
  · rw [if_neg h, if_neg h]
    exact ⟨_, rfl, hM, F⟩
theorem M_step_s (hG : Good M) (hP : MP M zs) (hl : zs.length ≤ 40) (ho : okP zs) (hB : MB M bs) (hX : MX M es) (hz : zsk 100 zs) (hb : bok bs) (hx : ∀ i, i < 4 → xok (es i)) (i k : Int) : ∃ M', M_step 1269 i k M = some (some (.inl (stA zs bs es i k)), M') ∧ MX M' (stE zs bs es i k) ∧ Fj smS M M' := by
  unfold stA stE
  rw [M_step_eq, hG.gM, gd_t, M_isTold_s hG, cI_s]
  by_cases hi : 0 ≤ i ∧ i < 4
  · rw [if_pos hi, if_neg (by decide), hG.gM, gd_t, M_isTold_s hG, cI_s]
    by_cases hk : 0 ≤ k ∧ k < 4
    · have hik : isY i ∧ isY k := ⟨hi, hk⟩
      rw [if_pos hk, if_neg (by decide), if_pos hik]
      obtain ⟨m, rfl⟩ := Int.eq_ofNat_of_zero_le hi.1
      obtain ⟨j, rfl⟩ := Int.eq_ofNat_of_zero_le hk.1
      have hm : m < 4 := by omega
      have hj : j < 4 := by omega
      obtain ⟨⟨x1, x2, x3⟩, x4⟩ := hx m hm
      have hlen := fll_len hb x2
      have w2 := fll_wf hb x1 x2
      have v2 := fll_av hb x2
      obtain ⟨M1, a1, a2, a3⟩ := M_layBound_s (y := 1298) (m2 := 13000) (by decide) (by decide) ⟨arr_1298, by decide⟩ hb x2 hG (hX.rx hx hm) hB (by omega)
      have a1 : M_layBound 1269 1292 ((40 * m : Nat) : Int) ((es m).length : Int) 1298 M = _ := a1
      have hG1 := hG.fi a3
      rw [toNat_n, toNat_n, hG.gM, gd_t, gd_t, hG.m34, hG.tgS arr_1293 (by omega) (by omega), gd_t, gd_t, gd_t, hG.m33, (hX m hm).1, hG.m44, wr_id (x := 40 * (m : Int)) (by omega) (by omega), show 40 * (m : Int) = ((40 * m : Nat) : Int) by omega, a1, cI_s, hG1.gM, gd_t, gd_t, gd_t, hG1.m44]
      generalize hg : fll bs (es m) = gs at *
      have f2 : Fj (fun a k => a = 1269 ∧ k = 46) M1 (stI M1 1269 46 (gs.length : Int)) := Fj.ofI ⟨rfl, rfl⟩
      have F2 : Fj smS M (stI M1 1269 46 (gs.length : Int)) := (a3.fj fun a k q => by unfold smS; omega).trans (f2.mono fun a k q => by unfold smS; omega)
      have hG2 := hG1.fj f2
      have hX2 : RX (stI M1 1269 46 (gs.length : Int)) 1298 13000 0 gs := RX.fj (M := M1) ⟨⟨arr_1298, by decide⟩, a2, by omega, v2⟩ f2 (by omega)
      have hR2 : ROWP (stI M1 1269 46 (gs.length : Int)) 0 zs := (hP.rwp hl hz ho).fj F2 (by unfold smS; omega)
      have hMX2 : MX (stI M1 1269 46 (gs.length : Int)) es := hX.fj ((a3.fj (T := fun a k => a = 1298 ∨ (a = 1269 ∧ k = 46)) fun a k q => Or.inl q).trans (f2.mono fun a k q => Or.inr q)) (by omega)
      have e46 : mI (stI M1 1269 46 (gs.length : Int)) 1269 46 = (gs.length : Int) := mI_at
      generalize stI M1 1269 46 (gs.length : Int) = M2 at *
      obtain ⟨M3, c1, c2, c3⟩ := M_look_s (p := 0) (a := 1298) (by decide) v2 (by omega) w2 hG2 hX2 hR2
      have c1 : M_look 1269 0 1298 M2 = _ := c1
      have hG3 := hG2.fj c3
      have F3 : Fj smS M M3 := F2.trans (c3.mono fun a k q => by unfold lkS at q; unfold smS; omega)
      have hMX3 : MX M3 es := hMX2.fj c3 (by unfold lkS; omega)
      have hX3 : RX M3 1298 13000 0 gs := hX2.fj c3 (by unfold lkS; omega)
      have g46 : mI M3 1269 46 = (gs.length : Int) := (c3.2.2 _ _ (by unfold lkS; omega)).trans e46
      rw [c1, cI_s]
      unfold onO onX
      by_cases q0 : (nxt zs gs).1 = 0
      · have q4 : ¬ (nxt zs gs).1 = 4 := by omega
        rw [if_pos q0, if_pos q0, if_neg q4, if_neg (by decide), if_neg (by decide), if_neg (by decide), hG3.gM, gd_t, if_neg (by decide), M_step_91_eq, g46]
        by_cases hl : 40 < gs.length
        · rw [if_pos (by omega), if_pos hl, if_neg (fun q => by omega)]
          exact ⟨M3, rfl, hMX3, F3⟩
        · obtain ⟨M4, d1, d2, d3⟩ := M_step_keep hG3 hMX3 hx (y := 1298) (m := 13000) hX3.2.1 ⟨arr_1298, by decide, by omega⟩ (by decide) (by omega) hj 0 (some (.inl (m : Int)))
          rw [if_neg (show ¬ (40 : Int) < (gs.length : Int) by omega), if_neg hl, if_pos (show (0 : Nat) = 0 from rfl), if_pos (show (isY (m : Int) ∧ isY (j : Int)) ∧ (0 : Nat) ≠ 1 ∧ gs.length ≤ 40 from ⟨hik, by decide, by omega⟩), if_neg (show ¬ (0 : Int) = 2 by decide), if_neg (show ¬ (0 : Int) = 2 by decide), hG3.gM, gd_t, hG3.m44, d1, if_neg (by decide)]
          exact ⟨M4, rfl, d2, F3.trans (d3.mono fun a k q => by unfold smS; omega)⟩
      · rw [if_neg q0, if_neg q0]
        by_cases q4 : (nxt zs gs).1 = 4
        · obtain ⟨b1, b2, b3, b4⟩ := c2 q4
          obtain ⟨z, z1, hf⟩ := nxt_clf w2 q4
          have hzk := hz z (List.mem_of_getElem? z1)
          have hsz := stepZ_of z1
          have hki := (List.getElem?_eq_some_iff.mp z1).1
          have el : lkR (nxt zs gs).1 = 2 := by rw [q4]; rfl
          have b3' : mI M3 1269 49 = (((nxt zs gs).2.2 : Nat) : Int) := by rw [b3]; congr 1; omega
          have hR3 : ROWP M3 0 zs := hR2.fj c3 (by unfold lkS; omega)
          have hrow : ROW M3 (nxt zs gs).2.2 z := by
            have := hR3.2.1.row z1
            rwa [Nat.mul_zero, Nat.zero_add] at this
          obtain ⟨M4, d1, d2⟩ := M_stepLong_s (a := 1298) (n := 13000) (k := (nxt zs gs).2.2) (by decide) (by omega) (Nat.le_refl _) hzk hf hG3 hX3 hrow b1 b3'
          rw [← hsz] at d1
          have hG4 := hG3.fj d2
          have F4 : Fj smS M M4 := F3.trans (d2.mono fun a k q => by unfold s1300 at q; unfold smS; omega)
          have hMX4 : MX M4 es := hMX3.fj d2 (by unfold s1300; omega)
          rw [el, if_pos q4, if_neg (by decide), if_neg (by decide), if_pos rfl, hG3.gM, gd_t, gd_t, gd_t, hG3.m44, g46, d1, cI_s, if_pos q4, if_neg (by decide), M_step_91_eq]
          by_cases hl : 40 < (stepZ zs gs).length
          · rw [if_pos (by omega), if_pos hl, if_neg (fun q => by omega)]
            exact ⟨M4, rfl, hMX4, F4⟩
          · have hX4 : RX M4 1298 13000 0 gs := hX3.fj d2 (by unfold s1300; omega)
            have h47 : mI M4 1269 47 = ((nxt zs gs).2.1 : Nat) := (d2.2.2 _ _ (by unfold s1300; omega)).trans b1
            have h49 : mI M4 1269 49 = (((nxt zs gs).2.2 : Nat) : Int) := (d2.2.2 _ _ (by unfold s1300; omega)).trans b3'
            have h46 : mI M4 1269 46 = (gs.length : Int) := (d2.2.2 _ _ (by unfold s1300; omega)).trans g46
            have hrow4 : ROW M4 (nxt zs gs).2.2 z := hrow.fj d2 (by unfold s1300; omega)
            obtain ⟨M5, e1, e2, e3⟩ := M_stepOf_s (a := 1298) (y := 1299) (m2 := 13000) (k := (nxt zs gs).2.2) (by decide) (by decide) ⟨arr_1299, by decide⟩ (by omega) (Nat.le_refl _) hzk hf v2 hG4 hX4 hrow4 h47 h49 (by rw [← hsz]; omega)
            rw [← hsz] at e1 e2
            have hG5 := hG4.fi e3
            have F5 : Fj smS M M5 := F4.trans (e3.fj fun a k q => by unfold smS; omega)
            have hMX5 : MX M5 es := hMX4.fj (e3.fj (T := fun a _ => a = 1299 ∨ a = 1300) fun a k q => q) (by omega)
            obtain ⟨M6, g1, g2, g3⟩ := M_step_keep hG5 hMX5 hx (y := 1299) (m := 13000) e2 ⟨arr_1299, by decide, by omega⟩ (by decide) (by omega) hj 2 (some (.inl (m : Int)))
            rw [if_neg (show ¬ (40 : Int) < ((stepZ zs gs).length : Int) by omega), if_neg hl, if_neg (show ¬ (4 : Nat) = 0 by decide), if_pos (show (isY (m : Int) ∧ isY (j : Int)) ∧ (4 : Nat) ≠ 1 ∧ (stepZ zs gs).length ≤ 40 from ⟨hik, by decide, by omega⟩), if_pos (show (2 : Int) = 2 from rfl), hG4.gM, gd_t, gd_t, gd_t, gd_t, hG4.m44, hG4.m45, h46, e1, cI_s, if_pos (show (2 : Int) = 2 from rfl), hG5.gM, gd_t, hG5.m45, g1, if_pos (show (2 : Int) = 2 from rfl)]
            exact ⟨M6, rfl, g2, F5.trans (g3.mono fun a k q => by unfold smS; omega)⟩
        · have el : lkR (nxt zs gs).1 = 1 ∨ lkR (nxt zs gs).1 = 3 := by unfold lkR; rw [if_neg q4]; split <;> simp
          simp only [if_neg q4]
          rw [if_pos trivial, if_neg (show ¬ ((isY (m : Int) ∧ isY (j : Int)) ∧ (1 : Nat) ≠ 1 ∧ gs.length ≤ 40) from fun q => q.2.1 rfl)]
          by_cases e1 : lkR (nxt zs gs).1 = 1
          · rw [if_pos e1]
            exact ⟨M3, rfl, hMX3, F3⟩
          · rw [if_neg e1, if_pos (by omega)]
            exact ⟨M3, rfl, hMX3, F3⟩
    · rw [if_neg hk, if_pos rfl, if_neg (fun q => hk q.2), if_neg (fun q => hk q.1.2)]
      exact ⟨M, rfl, hX, Fj.refl⟩
  · rw [if_neg hi, if_pos rfl, if_neg (fun q => hi q.1), if_neg (fun q => hi q.1.1)]
    exact ⟨M, rfl, hX, Fj.refl⟩
theorem M_saved_s (hG : Good M) (hP : MP M zs) (hl : zs.length ≤ 40) (ho : okP zs) (hB : MB M bs) (hO : MO M gl) (hF : MF M f dr) (hz : zsk 100 zs) (hb : bok bs) (hg : gok gl) (hn : dr ≠ 0 → (MQn M ns ∧ MG M ng) ∧ nOK zs ns ng) : (dr ≠ 0 → ∃ M', M_saved 1269 M = some (some (.inl (svA dr (run0 zs bs gl) (run0 ns bs ng))), M') ∧ RNm M' (run0 ns bs ng) ∧ Fj rmS M M') ∧ (dr = 0 → M_saved 1269 M = some (some (.inl (svA dr (run0 zs bs gl) (run0 ns bs ng))), M)) := by
  unfold svA
  rw [M_saved_eq, hG.gM, gd_t, hF.2]
  by_cases hd : dr = 0
  · rw [if_pos hd, if_pos hd]
    exact ⟨fun q => absurd hd q, fun _ => rfl⟩
  · rw [if_neg hd, if_neg hd]
    refine ⟨fun _ => ?_, fun q => absurd q hd⟩
    obtain ⟨⟨n1, n2⟩, n3, n4, n5, n6⟩ := hn hd
    obtain ⟨M1, a1, a2, a3⟩ := M_runNow_s hG (hP.rwp hl hz ho) hB hb (hO.rx hg) (by decide) hg.1.2.1 hg.1.1 hg.1.2.2
    have a1 : M_runNow 1269 0 1288 0 (gl.length : Int) M = some (none, M1) := a1
    have hG1 := hG.fj a3
    have n1' : MQn M1 ns := ⟨(a3.2.2 _ _ (by unfold rmS; omega)).trans n1.1, n1.2.fj a3 fun a k q => by unfold rmS; omega⟩
    have n2' : MG M1 ng := ⟨(a3.2.2 _ _ (by unfold rmS; omega)).trans n2.1, fun j hj => (a3.2.2 _ _ (by unfold rmS; omega)).trans (n2.2 j hj)⟩
    have hB1 : MB M1 bs := hB.fj a3 (by unfold rmS; omega) (by unfold rmS; omega)
    obtain ⟨M2, c1, c2, c3⟩ := M_runNow_s hG1 (n1'.rwp n3 n4 n5) hB1 hb (n2'.rx n6) (by decide) n6.1.2.1 n6.1.1 n6.1.2.2
    have c1 : M_runNow 1269 1 1326 0 (ng.length : Int) M1 = some (none, M2) := c1
    have hG2 := hG1.fj c3
    have s1 := rnl_st (zs := zs) 200 (fll bs gl) 0 (fll bs gl).length 0
    have s2 := rnl_st (zs := ns) 200 (fll bs ng) 0 (fll bs ng).length 0
    have t1 : (run0 zs bs gl).2.2.1 ≤ 200 ∧ (run0 zs bs gl).2.1 ≤ 3 := by unfold run0; omega
    have t2 : (run0 ns bs ng).2.2.1 ≤ 200 ∧ (run0 ns bs ng).2.1 ≤ 3 := by unfold run0; omega
    have r0 : M_runGoal 1269 0 M = some (none, M1) := by
      rw [M_runGoal_eq, if_pos rfl, hG.gM, gd_t, gd_t, gd_t, hG.m29, hO.1, a1, cV_s]
    have r1 : M_runGoal 1269 1 M1 = some (none, M2) := by
      rw [M_runGoal_eq, if_neg (by decide), hG1.gM, gd_t, gd_t, gd_t, hG1.m88, n2'.1, c1, cV_s]
    rw [gd_t, r0, cV_s, hG1.gM, gd_t, hG1.m51, hG1.tgS arr_1301 (i := 0) (by decide) (by decide), gd_t, gd_t, hG1.tgS arr_1301 (i := 1) (by decide) (by decide), gd_t, gd_t, r1, cV_s, hG2.gM, gd_t, hG2.m51, hG2.tgS arr_1301 (i := 0) (by decide) (by decide), gd_t, a2.2.1, c2.2.1, gd_t, hG2.tgS arr_1301 (i := 1) (by decide) (by decide), gd_t, a2.1.2.1.1, c2.1.2.1.1, wr_id (by omega) (by omega)]
    have F := a3.trans c3
    by_cases he : (run0 zs bs gl).2.1 = (run0 ns bs ng).2.1
    · rw [if_pos (by omega)]
      by_cases h2 : (run0 zs bs gl).2.1 < 2
      · rw [if_pos (by omega), if_pos ⟨he, h2⟩]
        exact ⟨M2, rfl, c2, F⟩
      · rw [if_neg (by omega), if_neg (fun q => h2 q.2)]
        exact ⟨M2, rfl, c2, F⟩
    · rw [if_neg (by omega), if_neg (fun q => he q.1)]
      exact ⟨M2, rfl, c2, F⟩
end MSTEPQ

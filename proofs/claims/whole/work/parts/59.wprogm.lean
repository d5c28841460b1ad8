/-! ===== texts of programs: the reference ===== -/
def mlv (cs : Bool) (ic : Nat) : List Int → Nat → List Int
  | [], _ => []
  | v :: vs, i => (if i = 0 then (if 0 < ic then [40] else if cs = true then [44] else []) else [44]) ++ (nmB 109 v ++ ((if i + 1 = ic then [41] else []) ++ mlv cs ic vs (i + 1)))
theorem mlv_far {cs : Bool} {ic : Nat} : ∀ (vs : List Int) (i : Nat), 0 < i → ic ≤ i → mlv cs ic vs i = cvB vs := by
  intro vs
  induction vs with
  | nil => intro i _ _; rfl
  | cons v vs ih =>
    intro i h1 h2
    unfold mlv cvB
    rw [if_neg (by omega), if_neg (by omega), ih (i + 1) (by omega) (by omega)]
    rfl
theorem mlv_in {cs : Bool} {ic : Nat} : ∀ (vs : List Int) (i : Nat), 0 < i → i < ic → ic - i ≤ vs.length → mlv cs ic vs i = cvB (vs.take (ic - i)) ++ (41 :: cvB (vs.drop (ic - i))) := by
  intro vs
  induction vs with
  | nil => intro i h1 h2 h3; exact absurd h3 (by simp; omega)
  | cons v vs ih =>
    intro i h1 h2 h3
    simp only [List.length_cons] at h3
    unfold mlv
    rw [if_neg (by omega)]
    by_cases q : i + 1 = ic
    · rw [if_pos q, mlv_far vs (i + 1) (by omega) (by omega), show ic - i = 0 + 1 by omega, List.take_succ_cons, List.drop_succ_cons, List.take_zero, List.drop_zero]
      unfold cvB
      simp [cvB]
    · rw [if_neg q, ih (i + 1) (by omega) (by omega) (by omega), show ic - i = (ic - (i + 1)) + 1 by omega, List.take_succ_cons, List.drop_succ_cons]
      rw [show cvB (v :: vs.take (ic - (i + 1))) = 44 :: (nmB 109 v ++ cvB (vs.take (ic - (i + 1)))) from rfl]
      simp
theorem mlv_no (vs : List Int) : mlv false 0 vs 0 = vsB vs := by
  cases vs with
  | nil => rfl
  | cons v vs =>
    unfold mlv vsB
    rw [if_pos rfl, if_neg (by decide), if_neg (by decide), if_neg (by omega), mlv_far vs 1 (by decide) (by decide)]
    rfl
theorem mlv_con {ic : Nat} (vs : List Int) (h : ic ≤ vs.length) : mlv true ic vs 0 = (if 0 < ic then 40 :: (vsB (vs.take ic) ++ [41]) else []) ++ cvB (vs.drop ic) := by
  by_cases h0 : 0 < ic
  · rw [if_pos h0]
    cases vs with
    | nil => exact absurd h (by simp; omega)
    | cons v vs =>
      simp only [List.length_cons] at h
      unfold mlv
      rw [if_pos rfl, if_pos h0]
      by_cases q : 0 + 1 = ic
      · subst q
        rw [if_pos rfl, mlv_far vs 1 (by decide) (by decide)]
        simp [vsB, cvB]
      · rw [if_neg q, mlv_in vs (0 + 1) (by decide) (by omega) (by omega), show ic = (ic - (0 + 1)) + 1 by omega, List.take_succ_cons, List.drop_succ_cons]
        rw [show vsB (v :: vs.take (ic - (0 + 1))) = nmB 109 v ++ cvB (vs.take (ic - (0 + 1))) from rfl, show ic - (0 + 1) + 1 - (0 + 1) = ic - (0 + 1) by omega]
        simp
  · have : ic = 0 := by omega
    subst this
    rw [if_neg h0, List.drop_zero]
    cases vs with
    | nil => rfl
    | cons v vs =>
      unfold mlv
      rw [if_pos rfl, if_neg h0, if_pos rfl, if_neg (by omega), mlv_far vs 1 (by decide) (by decide)]
      rfl
section WPROGM
variable {M : Mem} {ws : List Int} {z : Clz} {zs ns : List Clz} {o : Nat}
/-- a row of a clause in the reference -/
def ROW (M : Mem) (k : Nat) (z : Clz) : Prop := (mI M 1274 k = cm z.1 ∧ mI M 1275 k = cc z.2.1 ∧ mI M 1276 k = (z.2.2.1.length : Int)) ∧ (∀ j, j < z.2.2.1.length → mI M 1277 (12 * k + j) = nmo (nth z.2.2.1 j)) ∧ mI M 1278 k = (z.2.2.2.length : Int) ∧ RM M 1279 (100 * k) z.2.2.2
theorem ROW.fj {M1 : Mem} {S : Nat → Nat → Prop} {k : Nat} (h : ROW M k z) (f : Fj S M M1) (h0 : ∀ a j, 1274 ≤ a ∧ a ≤ 1279 → ¬ S a j) : ROW M1 k z := ⟨⟨(f.2.2 _ _ (h0 _ _ (by omega))).trans h.1.1, (f.2.2 _ _ (h0 _ _ (by omega))).trans h.1.2.1, (f.2.2 _ _ (h0 _ _ (by omega))).trans h.1.2.2⟩, fun j hj => (f.2.2 _ _ (h0 _ _ (by omega))).trans (h.2.1 j hj), (f.2.2 _ _ (h0 _ _ (by omega))).trans h.2.2.1, fun j hj => (f.2.2 _ _ (h0 _ _ (by omega))).trans (h.2.2.2 j hj)⟩
theorem PMr.row (h : PMr M 1274 o 100 zs) {i : Nat} (hz : zs[i]? = some z) : ROW M (o + i) z := h i z hz
theorem M_wlLoop {n : Nat} (hz : zok n z) {k : Nat} (hk : k < 80) {ic : Nat} (hic : ic ≤ 4) : ∀ (t i : Nat) (M : Mem) (ws : List Int), z.2.2.1.length - i = t → i ≤ z.2.2.1.length → Good M → ROW M k z → TXm M ws → ws.length + 5 * t + 10 ≤ 79000 → ∃ M', M_writeLeft_59 1269 (k : Int) (cc z.2.1) (ic : Int) (i : Int) M = some (none, M') ∧ TXm M' (ws ++ (mlv (decide (z.2.1 ≠ -1)) ic (z.2.2.1.drop i) i ++ [41, 61])) ∧ Fj wmS M M' := by
  have hvl := hz.2.2.1.2.1
  intro t
  induction t with
  | zero =>
    intro i M ws h1 h2 hG hR hT hl
    obtain ⟨M1, a1, a2, a3⟩ := M_put_s hG hT (v := 41) (by omega) (by decide)
    have hG1 := hG.fj a3
    obtain ⟨M2, b1, b2, b3⟩ := M_put_s hG1 a2 (v := 61) (by rw [List.length_append, List.length_singleton]; omega) (by decide)
    rw [M_writeLeft_59_eq, hG.gM, gd_t, hG.m13, hG.tgS arr_1276 (by omega) (by omega), gd_t, toNat_n, hR.1.2.2, if_neg (by omega), gd_t, a1, cV_s, hG1.gM, gd_t, b1, cV_s, List.drop_eq_nil_of_le (by omega)]
    refine ⟨M2, rfl, ?_, a3.trans b3⟩
    rw [List.append_assoc] at b2
    exact b2
  | succ t ih =>
    intro i M ws h1 h2 hG hR hT hl
    have hi : i < z.2.2.1.length := by omega
    have hv := lvs_n hz.2.2.1.1 hi
    have hn3 := @nmB_len 109 (nth z.2.2.1 i)
    have enm : nmo (nth z.2.2.1 i) = nth z.2.2.1 i + 1212 := by rw [(cm_var (v := nth z.2.2.1 i) (by omega)).2, if_pos (by omega)]
    -- the name and what comes behind
    have rest : ∀ (M1 : Mem) (pre : List Int), Good M1 → ROW M1 k z → TXm M1 (ws ++ pre) → pre.length ≤ 1 → Fj wmS M M1 → pre = (if i = 0 then (if 0 < ic then [40] else if decide (z.2.1 ≠ -1) = true then [44] else []) else [44]) → ∃ M', M_writeLeft_103 1269 (k : Int) (cc z.2.1) (ic : Int) (i : Int) M1 = some (none, M') ∧ TXm M' (ws ++ (mlv (decide (z.2.1 ≠ -1)) ic (z.2.2.1.drop i) i ++ [41, 61])) ∧ Fj wmS M M' := by
      intro M1 pre hG1 hR1 hT1 hpl hF1 hpre
      obtain ⟨M2, b1, b2, b3⟩ := M_putName_s hG1 hT1 (n := nth z.2.2.1 i + 1212) (by rw [List.length_append]; omega) (by omega)
      rw [nmB_off] at b2
      have hG2 := hG1.fj b3
      have hR2 : ROW M2 k z := hR1.fj b3 (by unfold wmS; omega)
      rw [M_writeLeft_103_eq, hG1.gM, gd_t, hG1.m14, wr_id (x := 12 * (k : Int)) (by omega) (by omega), wr_id (x := 12 * (k : Int) + (i : Int)) (by omega) (by omega), hG1.tgS arr_1277 (by omega) (by omega), gd_t, gd_t, show 12 * (k : Int) + (i : Int) = ((12 * k + i : Nat) : Int) by omega, toNat_n, hR1.2.1 i hi, enm, b1, cV_s, wr_s (by omega), drop_cons hi]
      unfold mlv
      rw [← hpre]
      by_cases q : i + 1 = ic
      · obtain ⟨M3, c1, c2, c3⟩ := M_put_s hG2 b2 (v := 41) (by rw [List.length_append, List.length_append]; omega) (by decide)
        have hG3 := hG2.fj c3
        obtain ⟨M4, d1, d2, d3⟩ := ih (i + 1) M3 _ (by omega) (by omega) hG3 (hR2.fj c3 (by unfold wmS; omega)) c2 (by simp only [List.length_append, List.length_cons, List.length_nil]; omega)
        rw [if_pos (show ((i + 1 : Nat) : Int) = (ic : Int) by omega), if_pos q, hG2.gM, gd_t, c1, cV_s]
        refine ⟨M4, d1, ?_, ((hF1.trans b3).trans c3).trans d3⟩
        simp only [List.append_assoc] at d2 ⊢
        exact d2
      · obtain ⟨M4, d1, d2, d3⟩ := ih (i + 1) M2 _ (by omega) (by omega) hG2 hR2 b2 (by simp only [List.length_append]; omega)
        rw [if_neg (show ¬ ((i + 1 : Nat) : Int) = (ic : Int) by omega), if_neg q]
        refine ⟨M4, d1, ?_, (hF1.trans b3).trans d3⟩
        simp only [List.append_assoc, List.nil_append] at d2 ⊢
        exact d2
    have hcc := cc_0 hz.2.1
    rw [M_writeLeft_59_eq, hG.gM, gd_t, hG.m13, hG.tgS arr_1276 (by omega) (by omega), gd_t, toNat_n, hR.1.2.2, if_pos (by omega)]
    by_cases h0 : i = 0
    · rw [if_pos (by omega)]
      by_cases h3 : 0 < ic
      · obtain ⟨M1, a1, a2, a3⟩ := M_put_s hG hT (v := 40) (by omega) (by decide)
        rw [if_pos (by omega), gd_t, a1, cV_s]
        exact rest M1 [40] (hG.fj a3) (hR.fj a3 (by unfold wmS; omega)) a2 (by simp) a3 (by rw [if_pos h0, if_pos h3])
      · rw [if_neg (by omega), M_writeLeft_88_eq, if_neg (by omega)]
        by_cases h4 : z.2.1 = -1
        · rw [if_pos (hcc.mpr h4)]
          exact rest M [] hG hR (by rw [List.append_nil]; exact hT) (by simp) Fj.refl (by rw [if_pos h0, if_neg h3, if_neg (by simp [h4])])
        · obtain ⟨M1, a1, a2, a3⟩ := M_put_s hG hT (v := 44) (by omega) (by decide)
          rw [if_neg (fun q => h4 (hcc.mp q)), hG.gM, gd_t, a1, cV_s]
          exact rest M1 [44] (hG.fj a3) (hR.fj a3 (by unfold wmS; omega)) a2 (by simp) a3 (by rw [if_pos h0, if_neg h3, if_pos (by simp [h4])])
    · obtain ⟨M1, a1, a2, a3⟩ := M_put_s hG hT (v := 44) (by omega) (by decide)
      rw [if_neg (by omega), M_writeLeft_88_eq, if_pos (by omega), hG.gM, gd_t, a1, cV_s]
      exact rest M1 [44] (hG.fj a3) (hR.fj a3 (by unfold wmS; omega)) a2 (by simp) a3 (by rw [if_neg h0])
theorem M_writeLeft_s (hG : Good M) {n : Nat} (hz : zok n z) {k : Nat} (hk : k < 80) (hR : ROW M k z) (hT : TXm M ws) (hl : ws.length + 200 ≤ 79000) : ∃ M', M_writeLeft 1269 (k : Int) M = some (none, M') ∧ TXm M' (ws ++ (lfB z ++ [61])) ∧ Fj wmS M M' := by
  have hz0 := hz
  obtain ⟨⟨z1, z2⟩, z3, ⟨z4, z5, z6, z7⟩, -⟩ := hz0
  have h12 := (z1.2.2.2.1 z2).2
  have hsy : 0 ≤ sy z.1 := by unfold sy; omega
  have enm : nmo z.1 = sy z.1 := by unfold nmo; rw [if_neg (by omega), if_neg (by omega), if_pos z2]
  have hn3 := @nmB_len 97 (sy z.1)
  obtain ⟨M1, a1, a2, a3⟩ := M_putName_s hG hT (n := sy z.1) (by omega) (by omega)
  have hG1 := hG.fj a3
  obtain ⟨M2, b1, b2, b3⟩ := M_put_s hG1 a2 (v := 40) (by rw [List.length_append]; omega) (by decide)
  have hG2 := hG1.fj b3
  have F2 : Fj wmS M M2 := a3.trans b3
  have hR2 : ROW M2 k z := hR.fj F2 (by unfold wmS; omega)
  have hl2 : ((ws ++ nmB 97 (sy z.1)) ++ [40]).length ≤ ws.length + 4 := by simp only [List.length_append, List.length_cons, List.length_nil]; omega
  have hcc := cc_0 z3
  unfold lfB
  rw [M_writeLeft_eq, hG.gM, gd_t, hG.m11, hG.tgS arr_1274 (by omega) (by omega), gd_t, toNat_n, hR.1.1, M_nameOf_s z1, cI_s, enm, hG.gM, gd_t, a1, cV_s, hG1.gM, gd_t, b1, cV_s, hG2.gM, gd_t, hG2.m12, hG2.tgS arr_1275 (by omega) (by omega), gd_t, hR2.1.2.1]
  by_cases hcon : z.2.1 = -1
  · obtain ⟨M3, c1, c2, c3⟩ := M_wlLoop hz hk (ic := 0) (by decide) _ 0 M2 _ rfl (Nat.zero_le _) hG2 hR2 b2 (by omega)
    have c1 : M_writeLeft_59 1269 (k : Int) (cc z.2.1) 0 0 M2 = some (none, M3) := c1
    rw [if_pos (hcc.mpr hcon), M_writeLeft_43_eq, if_pos (hcc.mpr hcon), c1]
    refine ⟨M3, rfl, ?_, F2.trans c3⟩
    rw [List.drop_zero, show decide (z.2.1 ≠ -1) = false by simp [hcon], mlv_no] at c2
    rw [if_pos hcon]
    simp only [List.append_assoc, List.cons_append, List.nil_append] at c2 ⊢
    exact c2
  · obtain ⟨c1, c2⟩ := z3.resolve_left hcon
    obtain ⟨z8, z9⟩ := z7 hcon
    have h26 := c1.2.2.1 c2
    have hal := arN_ar z.2.1
    have hcs : 0 ≤ sy z.2.1 := by unfold sy; omega
    have ecn : nmo z.2.1 = sy z.2.1 + 1 := by unfold nmo; rw [if_neg (by omega), if_pos c2]
    have ecc : cc z.2.1 = cm z.2.1 := if_neg hcon
    obtain ⟨M3, d1, d2, d3⟩ := M_put_s hG2 b2 (v := 65 + sy z.2.1) (by omega) (by omega)
    have hG3 := hG2.fj d3
    have hR3 : ROW M3 k z := hR2.fj d3 (by unfold wmS; omega)
    obtain ⟨M4, e1, e2, e3⟩ := M_wlLoop hz hk (ic := arN z.2.1) (by omega) _ 0 M3 _ rfl (Nat.zero_le _) hG3 hR3 d2 (by rw [List.length_append, List.length_singleton]; omega)
    have e1 : M_writeLeft_59 1269 (k : Int) (cc z.2.1) (arN z.2.1 : Int) 0 M3 = some (none, M4) := e1
    rw [if_neg (fun q => hcon (hcc.mp q))]
    have e0 : M_nameOf (cc z.2.1) M2 = some (some (.inl (sy z.2.1 + 1)), M2) := by rw [ecc, M_nameOf_s c1, ecn]
    have e5 : M_manyOf (cc z.2.1) M3 = some (some (.inl (arN z.2.1 : Int)), M3) := by rw [ecc, M_manyOf_s c1, hal]
    rw [e0, cI_s, hG2.gM, gd_t, wr_id (x := 65 + (sy z.2.1 + 1)) (by omega) (by omega), show 65 + (sy z.2.1 + 1) - 1 = 65 + sy z.2.1 by omega, wr_id (by omega) (by omega), d1, cV_s, M_writeLeft_43_eq, if_neg (fun q => hcon (hcc.mp q)), e5, cI_s, e1]
    refine ⟨M4, rfl, ?_, (F2.trans d3).trans e3⟩
    rw [List.drop_zero, show decide (z.2.1 ≠ -1) = true by simp [hcon], mlv_con _ (by omega)] at e2
    rw [if_neg hcon]
    simp only [List.append_assoc, List.cons_append, List.nil_append] at e2 ⊢
    exact e2
theorem M_writeProgram_s {p : Nat} (hp : p < 2) {n : Nat} (hn : n ≤ 100) (hz : zsk n zs) (hl40 : zs.length ≤ 40) : ∀ (k i : Nat) (M : Mem) (ws : List Int), zs.length - i = k → i ≤ zs.length → Good M → mI M 1280 p = (zs.length : Int) → PMr M 1274 (40 * p) 100 zs → TXm M ws → ws.length + 1000 * k ≤ 78000 → ∃ M', M_writeProgram_5 1269 (p : Int) ((40 * p + i : Nat) : Int) M = some (none, M') ∧ TXm M' (ws ++ pgB (zs.drop i)) ∧ Fj wmL M M' := by
  intro k
  induction k with
  | zero =>
    intro i M ws h1 h2 hG hc hp5 hT hl
    rw [M_writeProgram_5_eq, hG.gM, gd_t, hG.m17, hG.tgS arr_1280 (by omega) (by omega), gd_t, toNat_n, hc, wr_id (x := 40 * (p : Int)) (by omega) (by omega), wr_id (x := 40 * (p : Int) + (zs.length : Int)) (by omega) (by omega), if_neg (by omega), List.drop_eq_nil_of_le (by omega)]
    refine ⟨M, rfl, ?_, Fj.refl⟩
    show TXm M (ws ++ [])
    rw [List.append_nil]; exact hT
  | succ k ih =>
    intro i M ws h1 h2 hG hc hp5 hT hl
    obtain ⟨z, hzi⟩ : ∃ z, zs[i]? = some z := ⟨zs[i], List.getElem?_eq_getElem (by omega)⟩
    have hzk := hz z (List.mem_of_getElem? hzi)
    have hrl := hzk.2.2.2.1.2.2
    have hR := hp5.row hzi
    obtain ⟨M1, a1, a2, a3⟩ := M_writeLeft_s hG hzk (k := 40 * p + i) (by omega) hR hT (by omega)
    have hG1 := hG.fj a3
    have hR1 : ROW M1 (40 * p + i) z := hR.fj a3 (by unfold wmS; omega)
    have hlf := lfB_len hzk
    have hX1 : RX M1 1279 8000 (100 * (40 * p + i)) z.2.2.2 := ⟨⟨arr_1279, by decide⟩, hR1.2.2.2, by omega, hzk.2.2.2.1.2.1⟩
    obtain ⟨M3, c1, c2, c3⟩ := M_writeThings_s hG1 hX1 (by decide) a2 (zok_lo hzk) (wok_len _ [] (by simp; omega)) (by rw [List.length_append, List.length_append, List.length_singleton]; omega)
    have hG3 := hG1.fj c3
    have hwl := wtx_len z.2.2.2 []
    rw [List.length_nil] at hwl
    obtain ⟨M4, d1, d2, d3⟩ := M_put_s hG3 c2 (v := 59) (by rw [List.length_append, List.length_append, List.length_append, List.length_singleton]; omega) (by decide)
    have hG4 := hG3.fj d3
    have F4 : Fj wmL M M4 := ((a3.mono fun a k q => Or.inl q).trans c3).trans (d3.mono fun a k q => Or.inl q)
    obtain ⟨M5, e1, e2, e3⟩ := ih (i + 1) M4 _ (by omega) (by omega) hG4 ((F4.2.2 _ _ (by unfold wmL wmS; omega)).trans hc) (hp5.fj F4 fun a k q => by unfold wmL wmS; omega) d2 (by simp only [List.length_append, List.length_cons, List.length_nil]; omega)
    rw [M_writeProgram_5_eq, hG.gM, gd_t, hG.m17, hG.tgS arr_1280 (by omega) (by omega), gd_t, toNat_n, hc, wr_id (x := 40 * (p : Int)) (by omega) (by omega), wr_id (x := 40 * (p : Int) + (zs.length : Int)) (by omega) (by omega), if_pos (by omega), gd_t, a1, cV_s, hG1.gM, gd_t, gd_t, hG1.m15, hG1.tgS arr_1278 (by omega) (by omega), gd_t, gd_t, toNat_n, hR1.2.2.1, hG1.m16, wr_id (x := 100 * ((40 * p + i : Nat) : Int)) (by omega) (by omega), show 100 * ((40 * p + i : Nat) : Int) = ((100 * (40 * p + i) : Nat) : Int) by omega, c1, cV_s, hG3.gM, gd_t, d1, cV_s, wr_s (by omega), drop_get hzi]
    refine ⟨M5, e1, ?_, F4.trans e3⟩
    unfold pgB clsB
    simp only [List.append_assoc, List.cons_append, List.nil_append] at e2 ⊢
    exact e2
end WPROGM

/-! ===== the reference: all cases below one ===== -/
def spS (m0 : Nat) : Nat → Nat → Prop := fun a j => (1309 ≤ a ∧ a ≤ 1316) ∨ ((a = 1317 ∨ a = 1328) ∧ m0 ≤ j) ∨ (a = 1269 ∧ ((47 ≤ j ∧ j ≤ 49) ∨ j = 72 ∨ j = 75 ∨ j = 76)) ∨ a = 1299 ∨ a = 1300 ∨ a = 1319
/-- what the reference keeps of what BLOCKED, and of new VARS -/
def fro (M : Mem) (x : Nat) (v : Int) : Prop := mI M 1328 x = v + 98586 ∧ 1414 ≤ v
def RQ (M : Mem) (T : TS) : Prop := ∀ x, x < T.2.2 → (T.2.1 x 4 = 3 → mI M 1317 x = nmo (T.2.1 x 10)) ∧ (T.2.1 x 12 ≠ -1 → fro M x (T.2.1 x 12))
section RSPLIT3
variable {M : Mem} {T : TS} {k : Nat}
theorem RQ.fjo {M1 : Mem} {S : Nat → Nat → Prop} (h : RQ M T) (f : Fj S M M1) (h0 : ∀ a j, (a = 1317 ∨ a = 1328) ∧ j < T.2.2 → ¬ S a j) : RQ M1 T := fun x hx => ⟨fun q => (f.2.2 _ _ (h0 _ _ ⟨Or.inl rfl, hx⟩)).trans ((h x hx).1 q), fun q => ⟨(f.2.2 _ _ (h0 _ _ ⟨Or.inr rfl, hx⟩)).trans ((h x hx).2 q).1, ((h x hx).2 q).2⟩⟩
theorem spl_at {xs : List Int} {blk con : Int} {fr p : Nat} (hb : kd blk = 0) (hp : p + 1 < xs.length) (h2 : ∀ j, j ≤ p → kd (nth xs j) = 2) (hx : nth xs (p + 1) = blk) {j : Nat} (hj : j ≤ p) : nth (spl xs blk con fr) j = nth xs j := by
  obtain ⟨r, hr⟩ := spl_pre (con := con) (fr := fr) hb hp h2 hx
  have hlen : (xs.take (p + 1)).length = p + 1 := by rw [List.length_take]; omega
  rw [hr, nth_app1 (by omega), nth_take (by omega)]
theorem arr_1328 : arr 1328 0 120 := arr_of _ _ _ (by decide)
theorem M_split156_s {zs : List Clz} {ys : List Int} {z : Clz} {p c fr : Nat} {d2 d5 d6 d7 d8 : LV} (cn cv : Int) (hG : Good M) (hT : TOK T k) (hR : RT M T) (hP : ROWP M 0 zs) (hw : wf 1 ys) (hv : av ys) (hX : RX M 1319 300 0 ys) (hk0 : kd (nth ys 0) = 2) (hy : fnx zs ys 0 = (4, p, c)) (hz : zs[c]? = some z) (hcon : vc z.2.1) (hclf : CLf ys p z) (hfr : fr + 400 < 65536) (h75 : mI M 1269 75 = (fr : Int) + 98586) (h76 : mI M 1269 76 = 0) : ∃ M', M_splitBelow_156 1269 (k : Int) (cm z.2.1) (ys.length : Int) d2 d5 d6 d7 d8 M = some (some (.inl (if ad1 (stx z ys p).length T.2.2 = 0 then 1 else 0)), M') ∧ (ad1 (stx z ys p).length T.2.2 ≠ 0 → mI M' 1269 76 = ad1 (stx z ys p).length T.2.2) ∧ (ad1 (stx z ys p).length T.2.2 = 0 → RT M' (adT k T (stx z ys p, cn, cv)) ∧ mI M' 1269 76 = 0) ∧ mI M' 1269 75 = ((fr + arN z.2.1 : Nat) : Int) + 98586 ∧ Good M' ∧ Fj (spS T.2.2) M M' ∧ ∀ j, mI M' 1328 j = mI M 1328 j := by
  have har := arN_ar z.2.1
  have hal := arN_lt z.2.1
  have hd1 : decide ((1 : Int) = 0 ∨ (1 : Int) = 1) = true := by decide
  have hd0 : decide ((0 : Int) = 0 ∨ (0 : Int) = 1) = true := by decide
  have F1 : Fj (fun a j => a = 1269 ∧ (j = 75 ∨ j = 47)) M (stI (stI M 1269 75 (((fr + arN z.2.1 : Nat) : Int) + 98586)) 1269 47 0) := (Fj.ofI ⟨rfl, Or.inl rfl⟩).trans (Fj.ofI ⟨rfl, Or.inr rfl⟩)
  have hG1 := hG.fj F1
  have i75 : mI (stI (stI M 1269 75 (((fr + arN z.2.1 : Nat) : Int) + 98586)) 1269 47 0) 1269 75 = ((fr + arN z.2.1 : Nat) : Int) + 98586 := by rw [mI_ne (by omega), mI_at]
  obtain ⟨M2, b1, ⟨b2, b3⟩, b4⟩ := M_lookC_s (p := 0) (by decide) hv hw hk0 hG1 (hX.fj F1 (by omega)) (hP.fj F1 (by omega)) mI_at
  rw [hy] at b1 b2 b3
  have b1 : M_lookCall 1269 0 1319 (stI (stI M 1269 75 (((fr + arN z.2.1 : Nat) : Int) + 98586)) 1269 47 0) = some (some (.inl 2), M2) := b1
  have b2 : mI M2 1269 47 = (p : Int) := b2 (Or.inl rfl)
  have b3 : mI M2 1269 49 = (c : Int) := by
    have := b3 rfl
    rw [this]
    show ((40 * 0 + c : Nat) : Int) = (c : Int)
    rw [Nat.mul_zero, Nat.zero_add]
  have F2 : Fj (fun a j => a = 1269 ∧ ((47 ≤ j ∧ j ≤ 49) ∨ j = 75)) M M2 := (F1.mono fun a j q => by omega).trans (b4.mono fun a j q => by unfold lkS at q; omega)
  have hG2 := hG.fj F2
  have hcl := (List.getElem?_eq_some_iff.mp hz).1
  have hzl := hP.1.2.2
  have hrow : ROW M c z := by
    have := hP.2.1.row hz
    rwa [Nat.mul_zero, Nat.zero_add] at this
  obtain ⟨M3, c1, c2, c3, c4, c5⟩ := M_stepBelow_s (k := k) (a := 1319) (n := 300) (c := c) (p := p) (z := z) cn cv (by decide) (by omega) (hP.2.2.1 z (List.mem_of_getElem? hz)) hclf hw hv hG2 (hX.fj F2 (by omega)) (hrow.fj F2 (by omega)) b2 b3 hT (hR.fjo F2 (by omega)) ((F2.2.2 _ _ (by omega)).trans h76)
  refine ⟨M3, ?_, c2, c3, ?_, c4, (F2.mono fun a j q => by unfold spS; omega).trans (c5.mono fun a j q => by unfold rsS2 rbS at q; unfold spS; omega), fun j => (c5.2.2 _ _ (by unfold rsS2 rbS; omega)).trans (F2.2.2 _ _ (by omega))⟩
  · rw [M_splitBelow_156_eq, hG.gM, gd_t, M_manyOf_s hcon, cI_s, hG.gM, gd_t, gd_t, gd_t, gd_t, h75, wr_id (x := (fr : Int) + 98586 + ar z.2.1) (by omega) (by omega), show (fr : Int) + 98586 + ar z.2.1 = ((fr + arN z.2.1 : Nat) : Int) + 98586 by omega, hG.m79, b1, cI_s, hG2.gM, gd_t, gd_t, hG2.m79, c1, cI_s]
    by_cases w : ad1 (stx z ys p).length T.2.2 = 0
    · rw [if_pos w, hd1, gd_t]
    · rw [if_neg w, hd0, gd_t]
  · rw [c5.2.2 _ _ (by unfold rsS2 rbS; omega), b4.2.2 _ _ (by unfold lkS; omega)]
    exact i75
theorem M_splitBelow_s {zs : List Clz} {xs : List Int} {z : Clz} {c fr : Nat} (hG : Good M) (hT : TOK T k) (hR : RT M T) (hP : ROWP M 0 zs) (hxs : T.1 k = xs) (hW : RX M 1318 41 0 xs) (h5 : (fnx zs xs 0).1 = 5) (hz : zs[c]? = some z) (hf : z.1 = nth xs (fnx zs xs 0).2.1) (hcon : z.2.1 ≠ -1) (h17 : mI M 1317 k = nmo (nth xs ((fnx zs xs 0).2.1 + 1))) (hfr : 1414 ≤ fr ∧ fr + 400 < 65536) (h75 : mI M 1269 75 = (fr : Int) + 98586) (h76 : mI M 1269 76 = 0) : ∃ M', M_splitBelow 1269 (k : Int) (c : Int) M = some (some (.inl (if ad1 (stx z (spl xs (nth xs ((fnx zs xs 0).2.1 + 1)) z.2.1 fr) (fnx zs xs 0).2.1).length T.2.2 = 0 then 1 else 0)), M') ∧ (ad1 (stx z (spl xs (nth xs ((fnx zs xs 0).2.1 + 1)) z.2.1 fr) (fnx zs xs 0).2.1).length T.2.2 ≠ 0 → mI M' 1269 76 = ad1 (stx z (spl xs (nth xs ((fnx zs xs 0).2.1 + 1)) z.2.1 fr) (fnx zs xs 0).2.1).length T.2.2) ∧ (ad1 (stx z (spl xs (nth xs ((fnx zs xs 0).2.1 + 1)) z.2.1 fr) (fnx zs xs 0).2.1).length T.2.2 = 0 → RT M' (adT k T (stx z (spl xs (nth xs ((fnx zs xs 0).2.1 + 1)) z.2.1 fr) (fnx zs xs 0).2.1, z.2.1, (fr : Int))) ∧ mI M' 1269 76 = 0) ∧ (T.2.2 < 120 → mI M' 1328 T.2.2 = (fr : Int) + 98586) ∧ mI M' 1269 75 = ((fr + arN z.2.1 : Nat) : Int) + 98586 ∧ Good M' ∧ Fj (spS T.2.2) M M' := by
  obtain ⟨hk1, hk2, hk3⟩ := hT.k
  obtain ⟨e1, e2, e3⟩ := hT.2.2 k hk1
  rw [hxs] at e1 e2 e3
  have h10 : mI M 1310 k = (xs.length : Int) := by rw [← hxs]; exact (hR.2 k hk1).1.2
  have hcl := (List.getElem?_eq_some_iff.mp hz).1
  have hzl := hP.1.2.2
  have hzm := List.mem_of_getElem? hz
  have hzs := hP.2.2.1
  have hrow : ROW M c z := by
    have := hP.2.1.row hz
    rwa [Nat.mul_zero, Nat.zero_add] at this
  obtain ⟨c1, c2⟩ := (hzs z hzm).2.1.resolve_left hcon
  have hal := arN_ar z.2.1
  have hn4 : arN z.2.1 ≤ 4 := by have := (c1.2.2.1 c2).1; omega
  have r15 : mI M 1275 c = cm z.2.1 := hrow.1.2.1.trans (if_neg hcon)
  have hclf := spl_clf (fr := fr) e1 e2 hzs h5 hzm hf hcon (by omega)
  have hfx := spl_fnx (fr := fr) e1 e2 hzs hP.2.2.2 h5 hz hf hcon
  obtain ⟨⟨-, g1⟩, g2, g3, -⟩ := fnx_blk (zs := zs) (xs := xs) _ 0 rfl (Nat.zero_le _) (by rw [List.drop_zero]; exact h5)
  rw [List.drop_zero] at g1 g2 g3
  have hat := spl_at (con := z.2.1) (fr := fr) g2 g1 (fun j hj => g3 j (Nat.zero_le _) hj) rfl (j := 0) (Nat.zero_le _)
  have hk0 := g3 0 (Nat.le_refl _) (Nat.zero_le _)
  have hvb : vc (nth xs ((fnx zs xs 0).2.1 + 1)) := av_nth e2 g1
  obtain ⟨s1, s2, s3⟩ := spl_ok (fr := fr) e1 e2 g2 c1 hn4 (by omega)
  generalize (fnx zs xs 0).2.1 = p at *
  generalize nth xs (p + 1) = blk at *
  have hloop := M_split_loop (k := k) (xs := xs) (blk := blk) (con := z.2.1) (fr := fr) (by omega) e3 ⟨hvb, g2⟩ c1 hn4 hfr (some (.inl (c : Int))) xs.length 0 M [] none none none rfl (Nat.zero_le _) hG hW h10 h17 h75 (fun i hi => absurd hi (Nat.not_lt_zero i)) (by rw [List.length_nil]; omega)
  rw [List.drop_zero, List.nil_append] at hloop
  generalize spl xs blk z.2.1 fr = ys at *
  obtain ⟨M1, w6, w7, w8, a1, a2, a3, a4⟩ := hloop
  have a1 : M_splitBelow_13 1269 (k : Int) (cm z.2.1) 0 0 (some (.inl (c : Int))) none none none M = _ := a1
  have hX1 : RX M1 1319 300 0 ys := ⟨⟨arr_1319, by decide⟩, a2, by omega, s2⟩
  have i72 : mI M1 1269 72 = (T.2.2 : Int) := (a4.2.2 _ _ (by omega)).trans hR.1
  have i75 : mI M1 1269 75 = (fr : Int) + 98586 := (a4.2.2 _ _ (by omega)).trans h75
  have i10 : mI M1 1310 k = (xs.length : Int) := (a4.2.2 _ _ (by omega)).trans h10
  -- where the new VARS begin
  have mid : ∃ M2, M_splitBelow_13 1269 (k : Int) (cm z.2.1) (ys.length : Int) (xs.length : Int) (some (.inl (c : Int))) w6 w7 w8 M1 = M_splitBelow_156 1269 (k : Int) (cm z.2.1) (ys.length : Int) (some (.inl (c : Int))) (some (.inl (xs.length : Int))) w6 w7 w8 M2 ∧ (T.2.2 < 120 → mI M2 1328 T.2.2 = (fr : Int) + 98586) ∧ Fj (fun a j => a = 1328 ∧ j = T.2.2) M1 M2 := by
    rw [M_splitBelow_13_eq, a3.gM, gd_t, a3.m64, a3.tgS (arr_nd (by decide)) (by omega) (by omega), gd_t, toNat_n, i10, if_neg (by omega), gd_t, i72]
    by_cases q : T.2.2 < 120
    · rw [if_pos (by omega), gd_t, gd_t, gd_t, a3.m92, a3.tgS arr_1328 (by omega) (by omega), gd_t, toNat_n, i75]
      exact ⟨_, rfl, fun _ => mI_at, Fj.ofI ⟨rfl, rfl⟩⟩
    · rw [if_neg (by omega)]
      exact ⟨M1, rfl, fun h => absurd h q, Fj.refl⟩
  obtain ⟨M2, m1, m2, m3⟩ := mid
  have F2 : Fj (fun a j => a = 1319 ∨ (a = 1328 ∧ j = T.2.2)) M M2 := (a4.mono fun a j q => Or.inl q).trans (m3.mono fun a j q => Or.inr q)
  have hG2 := hG.fj F2
  obtain ⟨M3, b1, b2, b3, b4, b5, b6, b7⟩ := M_split156_s (fr := fr) (d2 := some (.inl (c : Int))) (d5 := some (.inl (xs.length : Int))) (d6 := w6) (d7 := w7) (d8 := w8) z.2.1 (fr : Int) hG2 hT (hR.fjo F2 (by omega)) (hP.fj F2 (by omega)) s1 s2 (hX1.fj m3 (by omega)) (by rw [hat]; exact hk0) hfx hz c1 hclf hfr.2 ((F2.2.2 _ _ (by omega)).trans h75) ((F2.2.2 _ _ (by omega)).trans h76)
  refine ⟨M3, ?_, b2, b3, fun q => (b7 _).trans (m2 q), b4, b5, (F2.mono fun a j q => by unfold spS; omega).trans b6⟩
  rw [M_splitBelow_eq, hG.gM, gd_t, hG.m12, hG.tgS arr_1275 (by omega) (by omega), gd_t, toNat_n, r15, a1, m1, b1]
/-- one node more, or some -/
theorem RQ.add {x : Kd3} (h : RQ M T) (hx : x.2.2 ≠ -1 → fro M T.2.2 x.2.2) : RQ M (adT k T x) := by
  intro y hy
  have hy : y < T.2.2 + 1 := hy
  show (adF T.2.1 k T.2.2 x.2.1 x.2.2 y 4 = 3 → mI M 1317 y = nmo (adF T.2.1 k T.2.2 x.2.1 x.2.2 y 10)) ∧ (adF T.2.1 k T.2.2 x.2.1 x.2.2 y 12 ≠ -1 → fro M y (adF T.2.1 k T.2.2 x.2.1 x.2.2 y 12))
  by_cases q : y = T.2.2
  · subst q
    rw [adF_new, adF_new, adF_new]
    exact ⟨fun w => absurd (show (-1 : Int) = 3 from w) (by decide), fun w => hx w⟩
  · rw [adF_old q (by omega), adF_old q (by omega), adF_old q (by omega)]
    exact h y (by omega)
theorem RQ.addL : ∀ (es : List Kd3) (T : TS), RQ M T → (∀ x ∈ es, x.2.2 = -1) → RQ M (adL k es T).2 := by
  intro es
  induction es with
  | nil => intro T h _; exact h
  | cons x es ih =>
    intro T h hx
    rw [adL_s]
    by_cases q : ad1 x.1.length T.2.2 = 0
    · rw [if_pos q]
      exact ih _ (h.add fun w => absurd (hx x (by simp)) w) fun y hy => hx y (List.mem_cons_of_mem _ hy)
    · rw [if_neg q]; exact h
theorem RQ.kind (h : RQ M T) {v : Int} (hv : v ≠ 3) : RQ M (upB T k 4 v) := by
  intro y hy
  show (upF T.2.1 k 4 v y 4 = 3 → mI M 1317 y = nmo (upF T.2.1 k 4 v y 10)) ∧ (upF T.2.1 k 4 v y 12 ≠ -1 → fro M y (upF T.2.1 k 4 v y 12))
  rw [upF_ne (b := 10) (by omega), upF_ne (b := 12) (by omega)]
  refine ⟨fun q => ?_, (h y hy).2⟩
  by_cases e : y = k
  · subst e
    rw [upF_at] at q
    exact absurd q hv
  · rw [upF_ne (by omega)] at q
    exact (h y hy).1 q
end RSPLIT3

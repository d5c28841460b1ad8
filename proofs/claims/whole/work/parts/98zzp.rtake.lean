/-! ===== the reference: writeNode, take ===== -/
def tkS : Nat → Nat → Prop := fun a j => ((a = 1274 ∨ a = 1275 ∨ a = 1276 ∨ a = 1278) ∧ j < 40) ∨ (a = 1277 ∧ j < 480) ∨ (a = 1279 ∧ j < 4000) ∨ (a = 1280 ∧ j = 0) ∨ a = 1288 ∨ (a = 1269 ∧ (j = 35 ∨ j = 77))
section RTAKE
variable {M : Mem} {T : TS} {ns : List Clz} {ng ws : List Int}
theorem M_wnode_1 (hG : Good M) (hT : TI T.2.1 T.2.2) (hX : XOK T.1 T.2.1) (hZ : RZm M T) (hW : TXm M ws) (h77 : mI M 1269 77 = 1) (k : Int) : ∃ M', M_writeNode 1269 k M = some (some (.inl (wnA T.1 (F2of T.2.1) k)), M') ∧ TXm M' (wnT T.1 (F2of T.2.1) ws k) ∧ Good M' ∧ Fj woS M M' := by
  have hlen := hT.len
  have hm := hT.1.2.2
  have l2 := F2_ln hT
  rw [M_writeNode_eq, hG.gM, gd_t, M_isNumber_1 hG hT hZ h77, cI_s]
  unfold wnA wnT
  rw [l2]
  by_cases q : 0 ≤ k ∧ k < ((lnF T.2.1).length : Int)
  · rw [if_pos q, if_neg (by decide), if_pos q, if_pos q]
    obtain ⟨i, hi⟩ := Int.eq_ofNat_of_zero_le q.1
    subst hi
    have hil : i < (lnF T.2.1).length := by omega
    have hx := List.getElem?_eq_getElem hil
    have hgd : (lnF T.2.1).getD i 0 = (lnF T.2.1)[i] := by rw [List.getD_eq_getElem?_getD, hx]; rfl
    have hxL := List.getElem_mem hil
    have i20 := (hZ.2.2.1 i _ hx).1
    rw [toNat_n, hgd]
    generalize (lnF T.2.1)[i] = x at *
    have hxm := hT.1.2.1 x hxL
    obtain ⟨e1, e2, e3⟩ := hX x hxL
    obtain ⟨a1, a2⟩ := M_begin_s hG
    have f1 : Fj (fun a j => a = 1269 ∧ j = 61) M (stI M 1269 61 0) := Fj.ofI ⟨rfl, rfl⟩
    have hG1 := hG.fj f1
    have hZ1 := hZ.fjo f1 (by unfold rzS; omega)
    have hXx := (hZ1.1.1.2 x hxL).rx (by omega) ⟨e1, e2, e3⟩
    have r2 := (hZ1.1.1.2 x hxL).1.2
    have j20 : mI (stI M 1269 61 0) 1320 i = (x : Int) := (f1.2.2 _ _ (by omega)).trans i20
    have ho := ord_le40 e3
    generalize stI M 1269 61 0 = M1 at *
    obtain ⟨M2, b1, b2, b3⟩ := M_writeRow_1 hG1 hXx ⟨by decide, by decide, by decide, by decide⟩ a2 (by omega) (wok_len _ [] (by rw [List.length_nil]; omega)) (by rw [List.length_nil]; omega)
    rw [List.nil_append, rno_rnm] at b2
    have hG2 := hG1.fj b3
    have g20 : gS M1 1320 0 (i : Int) = true := hG1.tgS (arr_nb (by decide)) (by omega) (by omega)
    refine ⟨M2, ?_, b2, hG2, (f1.mono fun a j q => by unfold woS wmL wmS; omega).trans b3⟩
    have n61 : mI M2 1269 61 = ((wtx (rnX (T.1 x)) []).length : Int) := b2.1
    rw [hG.gM, gd_t, a1, cV_s, hG1.gM, gd_t, gd_t, hG1.m80, g20, gd_t, gd_t, gd_t, gd_t, j20, hG1.m64, hG1.tgS (arr_nd (by decide)) (by omega) (by omega), gd_t, gd_t, hG1.m63, toNat_n, r2, wr_id (x := (40 : Int) * (x : Int)) (by omega) (by omega), show (40 : Int) * (x : Int) = ((40 * x : Nat) : Int) by omega, b1, cV_s, hG2.gM, gd_t, n61]
  · rw [if_neg q, if_pos rfl, if_neg q, if_neg q]
    exact ⟨M, rfl, hW, hG, Fj.refl⟩
theorem M_take_0 (hG : Good M) (h77 : mI M 1269 77 = 0) : M_take 1269 M = some (some (.inl (-1)), M) := by
  rw [M_take_eq, hG.gM, gd_t, if_pos h77]
/-- one row of the new program becomes one of the program -/
theorem M_take_row {i : Nat} {z : Clz} (hi : i < 40) (hG : Good M) (h80 : (i : Int) < mI M 1280 0) (hR : ROW M (40 + i) z) (hl : z.2.2.1.length ≤ 12 ∧ z.2.2.2.length ≤ 100) : ∃ M', M_take_28 1269 (i : Int) M = M_take_28 1269 ((i + 1 : Nat) : Int) M' ∧ ROW M' i z ∧ Good M' ∧ Fj (wrI i) M M' := by
  obtain ⟨⟨r1, r2, r3⟩, r4, r5, r6⟩ := hR
  have g : ∀ b, (b = 1274 ∨ b = 1275 ∨ b = 1276 ∨ b = 1278) → ∀ M2 : Mem, Good M2 → gS M2 b 0 (i : Int) = true ∧ gS M2 b 0 ((40 + i : Nat) : Int) = true := fun b hb M2 g => by
    rcases hb with e | e | e | e <;> subst e
    · exact ⟨g.tgS arr_1274 (by omega) (by omega), g.tgS arr_1274 (by omega) (by omega)⟩
    · exact ⟨g.tgS arr_1275 (by omega) (by omega), g.tgS arr_1275 (by omega) (by omega)⟩
    · exact ⟨g.tgS arr_1276 (by omega) (by omega), g.tgS arr_1276 (by omega) (by omega)⟩
    · exact ⟨g.tgS arr_1278 (by omega) (by omega), g.tgS arr_1278 (by omega) (by omega)⟩
  have F4 : Fj (wrI i) M (stI (stI (stI (stI M 1274 i (cm z.1)) 1275 i (cc z.2.1)) 1276 i (z.2.2.1.length : Int)) 1278 i (z.2.2.2.length : Int)) := (((Fj.ofI (by unfold wrI; omega)).trans (Fj.ofI (by unfold wrI; omega))).trans (Fj.ofI (by unfold wrI; omega))).trans (Fj.ofI (by unfold wrI; omega))
  have hG4 := hG.fj F4
  have x1 : mI (stI M 1274 i (cm z.1)) 1275 (40 + i) = cc z.2.1 := (mI_ne (by omega)).trans r2
  have x2 : mI (stI (stI M 1274 i (cm z.1)) 1275 i (cc z.2.1)) 1276 (40 + i) = (z.2.2.1.length : Int) := by rw [mI_ne (by omega), mI_ne (by omega)]; exact r3
  have x3 : mI (stI (stI (stI M 1274 i (cm z.1)) 1275 i (cc z.2.1)) 1276 i (z.2.2.1.length : Int)) 1278 (40 + i) = (z.2.2.2.length : Int) := by rw [mI_ne (by omega), mI_ne (by omega), mI_ne (by omega)]; exact r5
  have y1 : mI (stI (stI (stI (stI M 1274 i (cm z.1)) 1275 i (cc z.2.1)) 1276 i (z.2.2.1.length : Int)) 1278 i (z.2.2.2.length : Int)) 1274 i = cm z.1 := by rw [mI_ne (by omega), mI_ne (by omega), mI_ne (by omega), mI_at]
  have y2 : mI (stI (stI (stI (stI M 1274 i (cm z.1)) 1275 i (cc z.2.1)) 1276 i (z.2.2.1.length : Int)) 1278 i (z.2.2.2.length : Int)) 1275 i = cc z.2.1 := by rw [mI_ne (by omega), mI_ne (by omega), mI_at]
  have y3 : mI (stI (stI (stI (stI M 1274 i (cm z.1)) 1275 i (cc z.2.1)) 1276 i (z.2.2.1.length : Int)) 1278 i (z.2.2.2.length : Int)) 1276 i = (z.2.2.1.length : Int) := by rw [mI_ne (by omega), mI_at]
  have y4 : mI (stI (stI (stI (stI M 1274 i (cm z.1)) 1275 i (cc z.2.1)) 1276 i (z.2.2.1.length : Int)) 1278 i (z.2.2.2.length : Int)) 1278 i = (z.2.2.2.length : Int) := mI_at
  have s77 : ∀ j, mI (stI (stI (stI (stI M 1274 i (cm z.1)) 1275 i (cc z.2.1)) 1276 i (z.2.2.1.length : Int)) 1278 i (z.2.2.2.length : Int)) 1277 j = mI M 1277 j := fun j => by rw [mI_ne (by omega), mI_ne (by omega), mI_ne (by omega), mI_ne (by omega)]
  have s79 : ∀ j, mI (stI (stI (stI (stI M 1274 i (cm z.1)) 1275 i (cc z.2.1)) 1276 i (z.2.2.1.length : Int)) 1278 i (z.2.2.2.length : Int)) 1279 j = mI M 1279 j := fun j => by rw [mI_ne (by omega), mI_ne (by omega), mI_ne (by omega), mI_ne (by omega)]
  have head : M_take_28 1269 (i : Int) M = cV (M_copy 1277 ((12 * (40 + i) : Nat) : Int) 12 1277 ((12 * i : Nat) : Int) (stI (stI (stI (stI M 1274 i (cm z.1)) 1275 i (cc z.2.1)) 1276 i (z.2.2.1.length : Int)) 1278 i (z.2.2.2.length : Int))) fun M1 => gd (gO M1 1269 12) (gd (gO M1 1269 12) (cV (M_copy (mR M1 1269 16) ((100 * (40 + i) : Nat) : Int) 100 (mR M1 1269 16) ((100 * i : Nat) : Int) M1) fun M2 => M_take_28 1269 ((i + 1 : Nat) : Int) M2)) := by
    rw [M_take_28_eq, hG.gM, gd_t, hG.m17, hG.tgS arr_1280 (by decide) (by decide), gd_t, if_pos h80, wr_id (x := (40 : Int) + (i : Int)) (by omega) (by omega), show (40 : Int) + (i : Int) = ((40 + i : Nat) : Int) by omega, hG.m11, hG.m12, hG.m13, hG.m14, hG.m15, (g 1274 (by omega) M hG).1, (g 1274 (by omega) M hG).2, (g 1275 (by omega) M hG).1, (g 1275 (by omega) M hG).2, (g 1276 (by omega) M hG).1, (g 1276 (by omega) M hG).2, (g 1278 (by omega) M hG).1, (g 1278 (by omega) M hG).2]
    simp only [gd_t]
    rw [toNat_n, toNat_n, r1, x1, x2, x3, wr_id (x := (12 : Int) * ((40 + i : Nat) : Int)) (by omega) (by omega), wr_id (x := (12 : Int) * (i : Int)) (by omega) (by omega), wr_id (x := (100 : Int) * ((40 + i : Nat) : Int)) (by omega) (by omega), wr_id (x := (100 : Int) * (i : Int)) (by omega) (by omega), show (12 : Int) * ((40 + i : Nat) : Int) = ((12 * (40 + i) : Nat) : Int) by omega, show (12 : Int) * (i : Int) = ((12 * i : Nat) : Int) by omega, show (100 : Int) * ((40 + i : Nat) : Int) = ((100 * (40 + i) : Nat) : Int) by omega, show (100 : Int) * (i : Int) = ((100 * i : Nat) : Int) by omega, wr_s (by omega)]
  rw [head]
  generalize stI (stI (stI (stI M 1274 i (cm z.1)) 1275 i (cc z.2.1)) 1276 i (z.2.2.1.length : Int)) 1278 i (z.2.2.2.length : Int) = M4 at *
  obtain ⟨M5, a1, a2, a3⟩ := M_copy_s hG4 (k := 12) (p := 12 * (40 + i)) (q := 12 * i) arr_1277 arr_1277 (by omega) (by omega) ⟨by decide, by decide⟩ (Or.inr (by omega))
  have a1 : M_copy 1277 ((12 * (40 + i) : Nat) : Int) 12 1277 ((12 * i : Nat) : Int) M4 = some (none, M5) := a1
  have hG5 := hG4.fi a2
  have F5 : Fj (wrI i) M4 M5 := ⟨a2.1, a2.2.1, fun b j hb => by
    by_cases q9 : b = 1277
    · subst q9
      rw [a3, if_neg (by unfold wrI at hb; omega)]
    · exact a2.2.2 b q9 j⟩
  obtain ⟨M6, b1, b2, b3⟩ := M_copy_s hG5 (k := 100) (p := 100 * (40 + i)) (q := 100 * i) arr_1279 arr_1279 (by omega) (by omega) ⟨by decide, by decide⟩ (Or.inr (by omega))
  have b1 : M_copy 1279 ((100 * (40 + i) : Nat) : Int) 100 1279 ((100 * i : Nat) : Int) M5 = some (none, M6) := b1
  have F6 : Fj (wrI i) M5 M6 := ⟨b2.1, b2.2.1, fun b j hb => by
    by_cases q9 : b = 1279
    · subst q9
      rw [b3, if_neg (by unfold wrI at hb; omega)]
    · exact b2.2.2 b q9 j⟩
  have keep : ∀ b j, b ≠ 1277 → b ≠ 1279 → mI M6 b j = mI M4 b j := fun b j h1 h2 => (b2.2.2 b h2 j).trans (a2.2.2 b h1 j)
  refine ⟨M6, ?_, ⟨⟨?_, ?_, ?_⟩, fun j hj => ?_, ?_, fun j hj => ?_⟩, hG5.fi b2, (F4.trans F5).trans F6⟩
  · rw [a1, cV_s, hG5.gM, gd_t, gd_t, hG5.m16, b1, cV_s]
  · exact (keep _ _ (by decide) (by decide)).trans y1
  · exact (keep _ _ (by decide) (by decide)).trans y2
  · exact (keep _ _ (by decide) (by decide)).trans y3
  · rw [b2.2.2 _ (by decide) _, a3, if_pos (by omega), s77, show 12 * (40 + i) + (12 * i + j - 12 * i) = 12 * (40 + i) + j by omega]
    exact r4 j hj
  · exact (keep _ _ (by decide) (by decide)).trans y4
  · rw [b3, if_pos (by omega), a2.2.2 _ (by decide) _, s79, show 100 * (40 + i) + (100 * i + j - 100 * i) = 100 * (40 + i) + j by omega]
    exact r6 j hj
theorem M_take_loop (hl : ns.length ≤ 40) (hok : ∀ z ∈ ns, z.2.2.1.length ≤ 12 ∧ z.2.2.2.length ≤ 100) : ∀ (t i : Nat) (M : Mem), ns.length - i = t → i ≤ ns.length → Good M → mI M 1280 0 = (ns.length : Int) → PMr M 1274 40 100 ns → (∀ j z, j < i → ns[j]? = some z → ROW M j z) → ∃ M', M_take_28 1269 (i : Int) M = M_take_28 1269 (ns.length : Int) M' ∧ (∀ j z, ns[j]? = some z → ROW M' j z) ∧ Good M' ∧ Fj (fun a j => ∃ r, r < 40 ∧ wrI r a j) M M' := by
  intro t
  induction t with
  | zero =>
    intro i M h1 h2 hG h80 hP hD
    have : i = ns.length := by omega
    subst this
    exact ⟨M, rfl, fun j z hj => hD j z (List.getElem?_eq_some_iff.mp hj).1 hj, hG, Fj.refl⟩
  | succ t ih =>
    intro i M h1 h2 hG h80 hP hD
    have hi : i < ns.length := by omega
    have hg : ns[i]? = some ns[i] := List.getElem?_eq_getElem hi
    have hzm := List.mem_of_getElem? hg
    generalize ns[i] = z at *
    obtain ⟨M1, a1, a2, a3, a4⟩ := M_take_row (i := i) (z := z) (by omega) hG (by omega) (hP.row hg) (hok z hzm)
    have hP1 : PMr M1 1274 40 100 ns := fun j w hj => by
      have hjl := (List.getElem?_eq_some_iff.mp hj).1
      have := hok w (List.mem_of_getElem? hj)
      exact (hP.row hj).fjr this.1 this.2 a4 fun a k r1 r2 => by have := wrI_dj r1 r2; omega
    obtain ⟨M', b1, b2, b3, b4⟩ := ih (i + 1) M1 (by omega) (by omega) a3 ((a4.2.2 _ _ (by unfold wrI; omega)).trans h80) hP1 (fun j w hj hw => by
      by_cases q : j = i
      · subst q
        rw [hg] at hw
        cases hw
        exact a2
      · have := hok w (List.mem_of_getElem? hw)
        exact (hD j w (by omega) hw).fjr this.1 this.2 a4 fun a k r1 r2 => by have := wrI_dj r1 r2; omega)
    rw [a1, b1]
    exact ⟨M', rfl, b2, b3, (a4.mono fun a j q => ⟨i, by omega, q⟩).trans b4⟩
theorem M_take_1 (hG : Good M) (h77 : mI M 1269 77 = 1) (hQ : MQn M ns) (hl : ns.length ≤ 40) (hok : ∀ z ∈ ns, z.2.2.1.length ≤ 12 ∧ z.2.2.2.length ≤ 100) (hg : MG M ng) (hgl : ng.length ≤ 100) : ∃ M', M_take 1269 M = some (some (.inl (ns.length : Int)), M') ∧ MP M' ns ∧ MO M' ng ∧ MQn M' ns ∧ MG M' ng ∧ mI M' 1269 77 = 0 ∧ Good M' ∧ Fj tkS M M' := by
  have F1 : Fj (fun a j => (a = 1269 ∧ j = 77) ∨ (a = 1280 ∧ j = 0)) M (stI (stI M 1269 77 0) 1280 0 (ns.length : Int)) := (Fj.ofI (by omega)).trans (Fj.ofI (by omega))
  have hG1 := hG.fj F1
  have e80 : mI (stI M 1269 77 0) 1280 1 = (ns.length : Int) := (mI_ne (by omega)).trans hQ.1
  have k80 : mI (stI (stI M 1269 77 0) 1280 0 (ns.length : Int)) 1280 0 = (ns.length : Int) := mI_at
  have k77 : mI (stI (stI M 1269 77 0) 1280 0 (ns.length : Int)) 1269 77 = 0 := by rw [mI_ne (by omega), mI_at]
  have hP1 : PMr (stI (stI M 1269 77 0) 1280 0 (ns.length : Int)) 1274 40 100 ns := hQ.2.fj F1 (by omega)
  have k801 : mI (stI (stI M 1269 77 0) 1280 0 (ns.length : Int)) 1280 1 = (ns.length : Int) := by rw [mI_ne (by omega)]; exact e80
  have k90 : mI (stI (stI M 1269 77 0) 1280 0 (ns.length : Int)) 1269 90 = (ng.length : Int) := (F1.2.2 _ _ (by omega)).trans hg.1
  have k26 : ∀ j, mI (stI (stI M 1269 77 0) 1280 0 (ns.length : Int)) 1326 j = mI M 1326 j := fun j => F1.2.2 _ _ (by omega)
  have head : M_take 1269 M = M_take_28 1269 0 (stI (stI M 1269 77 0) 1280 0 (ns.length : Int)) := by
    rw [M_take_eq, hG.gM, gd_t, h77, if_neg (by decide), gd_t, gd_t, gd_t, hG.m17, hG.tgS arr_1280 (by decide) (by decide), gd_t, hG.tgS arr_1280 (by decide) (by decide), gd_t, e80]
  rw [head]
  clear head
  generalize stI (stI M 1269 77 0) 1280 0 (ns.length : Int) = M1 at *
  obtain ⟨M2, a1, a2, a3, a4⟩ := M_take_loop hl hok ns.length 0 M1 (Nat.sub_zero _) (Nat.zero_le _) hG1 k80 hP1 (fun j z hj => absurd hj (Nat.not_lt_zero j))
  have a1 : M_take_28 1269 0 M1 = _ := a1
  have o2 : ∀ a j, (∀ r, r < 40 → ¬ wrI r a j) → mI M2 a j = mI M1 a j := fun a j h => a4.2.2 a j fun ⟨r, r1, r2⟩ => h r r1 r2
  have f3 : Fj (fun a j => a = 1269 ∧ j = 35) M2 (stI M2 1269 35 (ng.length : Int)) := Fj.ofI ⟨rfl, rfl⟩
  have hG3 := a3.fj f3
  have m80 : mI M2 1280 0 = (ns.length : Int) := (o2 _ _ (fun r _ => by unfold wrI; omega)).trans k80
  have m90 : mI M2 1269 90 = (ng.length : Int) := (o2 _ _ (fun r _ => by unfold wrI; omega)).trans k90
  have j90 : mI (stI M2 1269 35 (ng.length : Int)) 1269 90 = (ng.length : Int) := by rw [mI_ne (by omega)]; exact m90
  obtain ⟨M4, b1, b2, b3⟩ := M_copy_s hG3 (k := ng.length) (p := 0) (q := 0) arr_1326 arr_1288 (by omega) (by omega) ⟨by decide, by decide⟩ (Or.inl (by decide))
  have b1 : M_copy 1326 0 (ng.length : Int) 1288 0 (stI M2 1269 35 (ng.length : Int)) = some (none, M4) := b1
  have hG4 := hG3.fi b2
  have f4 : Fj (fun a j => a = 1288 ∨ (a = 1269 ∧ j = 35)) M2 M4 := (f3.mono fun a j q => Or.inr q).trans (b2.fj fun a j q => Or.inl q)
  have n80 : mI M4 1280 0 = (ns.length : Int) := (f4.2.2 _ _ (by omega)).trans m80
  refine ⟨M4, ?_, ⟨n80, fun i z hz => ?_⟩, ⟨?_, fun i hi => ?_⟩, ⟨?_, ?_⟩, ⟨?_, fun i hi => ?_⟩, ?_, hG4, ?_⟩
  · rw [a1, M_take_28_eq, a3.gM, gd_t, a3.m17, a3.tgS arr_1280 (by decide) (by decide), gd_t, m80, if_neg (by omega), gd_t, gd_t, gd_t, gd_t, gd_t, a3.m88, a3.m29, m90, j90, b1, cV_s, hG4.gM, gd_t, hG4.m17, hG4.tgS arr_1280 (by decide) (by decide), gd_t, n80]
  · have := (a2 i z hz).fj f4 fun a j q => by omega
    rw [Nat.zero_add]
    exact this
  · exact (b2.2.2 _ (by decide) _).trans mI_at
  · rw [b3, if_pos (by omega), Nat.zero_add, Nat.sub_zero, Nat.zero_add, mI_ne (by omega), o2 _ _ (fun r _ => by unfold wrI; omega), k26]
    have := hg.2 i hi
    rwa [Nat.zero_add] at this
  · exact ((f4.2.2 _ _ (by omega)).trans (o2 _ _ (fun r _ => by unfold wrI; omega))).trans k801
  · have : PMr M2 1274 40 100 ns := fun j w hj => by
      have hjl := (List.getElem?_eq_some_iff.mp hj).1
      have h2 := hok w (List.mem_of_getElem? hj)
      exact (hP1.row hj).fjr h2.1 h2.2 a4 fun a k r1 ⟨r, r2, r3⟩ => by have := wrI_dj r1 r3; omega
    exact this.fj f4 fun a j q => by omega
  · exact (f4.2.2 _ _ (by omega)).trans m90
  · rw [f4.2.2 _ _ (by omega), o2 _ _ (fun r _ => by unfold wrI; omega), k26]
    exact hg.2 i hi
  · exact ((f4.2.2 _ _ (by omega)).trans (o2 _ _ (fun r _ => by unfold wrI; omega))).trans k77
  · exact ((F1.mono fun a j q => by unfold tkS; omega).trans (a4.mono fun a j ⟨r, r1, r2⟩ => by unfold wrI at r2; unfold tkS; omega)).trans (f4.mono fun a j q => by unfold tkS; omega)
end RTAKE

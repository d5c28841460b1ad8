/-! ===== run, result, runOf, deepest: the reference ===== -/
section MRUNQ
variable {M : Mem} {ws : List Int} {zs ns : List Clz} {bs : Bnd} {gl ng : List Int} {es : Nat → List Int} {f dr : Int}
theorem MP.rwp (h : MP M zs) (hl : zs.length ≤ 40) (hz : zsk 100 zs) (ho : okP zs) : ROWP M 0 zs := ⟨⟨h.1, by decide, hl⟩, h.2, hz, ho⟩
theorem MQn.rwp (h : MQn M ns) (hl : ns.length ≤ 40) (hz : zsk 100 ns) (ho : okP ns) : ROWP M 1 ns := ⟨⟨h.1, by decide, hl⟩, h.2, hz, ho⟩
theorem MO.rx (h : MO M gl) (hg : gok gl) : RX M 1288 100 0 gl := ⟨⟨arr_1288, by decide⟩, h.2, by have := hg.1.2.2; omega, hg.1.2.1⟩
theorem MG.rx (h : MG M ng) (hg : gok ng) : RX M 1326 100 0 ng := ⟨⟨arr_1326, by decide⟩, h.2, by have := hg.1.2.2; omega, hg.1.2.1⟩
theorem MX.rx (h : MX M es) (hx : ∀ i, i < 4 → xok (es i)) {i : Nat} (hi : i < 4) : RX M 1292 160 (40 * i) (es i) := ⟨⟨arr_1292, by decide⟩, (h i hi).2, by have := (hx i hi).1.2.2; omega, (hx i hi).1.2.1⟩
/-- what drive left, if it is there -/
def nOK (zs ns : List Clz) (ng : List Int) : Prop := ns.length ≤ 40 ∧ zsk 100 ns ∧ okP ns ∧ gok ng
theorem M_runGoal_s (hG : Good M) (hP : MP M zs) (hl : zs.length ≤ 40) (ho : okP zs) (hB : MB M bs) (hO : MO M gl) (hz : zsk 100 zs) (hb : bok bs) (hg : gok gl) (hn : dr ≠ 0 → (MQn M ns ∧ MG M ng) ∧ nOK zs ns ng) (w : Int) (hr : rGo w dr) : ∃ M', M_runGoal 1269 w M = some (none, M') ∧ RNm M' (rEn w zs ns bs gl ng) ∧ Fj rmS M M' := by
  unfold rGo at hr
  unfold rEn
  rw [M_runGoal_eq]
  by_cases h0 : w = 0
  · obtain ⟨M', a1, a2, a3⟩ := M_runNow_s hG (hP.rwp hl hz ho) hB hb (hO.rx hg) (by decide) hg.1.2.1 hg.1.1 hg.1.2.2
    have a1 : M_runNow 1269 0 1288 0 (gl.length : Int) M = some (none, M') := a1
    rw [if_pos h0, if_pos h0, hG.gM, gd_t, gd_t, gd_t, hG.m29, hO.1, a1, cV_s]
    exact ⟨M', rfl, a2, a3⟩
  · obtain ⟨⟨n1, n2⟩, n3, n4, n5, n6⟩ := hn (by omega)
    obtain ⟨M', a1, a2, a3⟩ := M_runNow_s hG (n1.rwp n3 n4 n5) hB hb (n2.rx n6) (by decide) n6.1.2.1 n6.1.1 n6.1.2.2
    have a1 : M_runNow 1269 1 1326 0 (ng.length : Int) M = some (none, M') := a1
    rw [if_neg h0, if_neg h0, hG.gM, gd_t, gd_t, gd_t, hG.m88, n2.1, a1, cV_s]
    exact ⟨M', rfl, a2, a3⟩
theorem M_isRun_s (hG : Good M) (hF : MF M f dr) (w : Int) : M_isRun 1269 w M = some (some (.inl (if rGo w dr then 1 else 0)), M) := by
  rw [M_isRun_eq]
  unfold rGo
  by_cases h0 : w = 0
  · rw [if_pos h0, if_pos (Or.inl h0)]
  rw [if_neg h0]
  by_cases h1 : w = 1
  · rw [if_pos h1, hG.gM, gd_t, hF.2]
    by_cases hd : dr = 0
    · rw [if_pos hd, if_neg (by omega)]
    · rw [if_neg hd, if_pos (Or.inr ⟨h1, hd⟩)]
  · rw [if_neg h1, if_neg (by omega)]
theorem RNm.get (hG : Good M) {r : List Int × Nat × Nat × Nat × Nat} (h : RNm M r) {v : Int} (h0 : 0 ≤ v ∧ v ≤ 3) : gS M 1301 0 v = true ∧ mI M 1301 v.toNat = rAn r v := by
  refine ⟨hG.tgS arr_1301 h0.1 (by omega), ?_⟩
  obtain ⟨h1, h2, h3⟩ := h
  unfold rAn
  by_cases q0 : v = 0
  · rw [if_pos q0, q0]; exact h2
  rw [if_neg q0]
  by_cases q1 : v = 1
  · rw [if_pos q1, q1]; exact h1.2.1.1
  rw [if_neg q1]
  by_cases q2 : v = 2
  · rw [if_pos q2, q2]; exact h3
  rw [if_neg q2, if_pos (by omega), show v = 3 by omega]
  exact h1.2.1.2
theorem M_run_s (hG : Good M) (hP : MP M zs) (hl : zs.length ≤ 40) (ho : okP zs) (hB : MB M bs) (hO : MO M gl) (hF : MF M f dr) (hz : zsk 100 zs) (hb : bok bs) (hg : gok gl) (hn : dr ≠ 0 → (MQn M ns ∧ MG M ng) ∧ nOK zs ns ng) (w v : Int) : ((rGo w dr ∧ 0 ≤ v ∧ v ≤ 3) → ∃ M', M_run 1269 w v M = some (some (.inl (rAn (rEn w zs ns bs gl ng) v)), M') ∧ RNm M' (rEn w zs ns bs gl ng) ∧ Fj rmS M M') ∧ (¬ (rGo w dr ∧ 0 ≤ v ∧ v ≤ 3) → M_run 1269 w v M = some (some (.inl (-1)), M)) := by
  rw [M_run_eq, hG.gM, gd_t, M_isRun_s hG hF, cI_s]
  by_cases hr : rGo w dr
  · rw [if_pos hr, if_neg (by decide), M_isIn_s, cI_s]
    by_cases hv : 0 ≤ v ∧ v ≤ 3
    · refine ⟨fun _ => ?_, fun q => absurd ⟨hr, hv⟩ q⟩
      obtain ⟨M', a1, a2, a3⟩ := M_runGoal_s hG hP hl ho hB hO hz hb hg hn w hr
      have hG1 := hG.fj a3
      obtain ⟨g1, g2⟩ := a2.get hG1 hv
      rw [if_pos hv, if_neg (by decide), hG.gM, gd_t, a1, cV_s, hG1.gM, gd_t, hG1.m51, g1, gd_t, g2]
      exact ⟨M', rfl, a2, a3⟩
    · refine ⟨fun q => absurd q.2 hv, fun _ => ?_⟩
      rw [if_neg hv, if_pos rfl]
  · refine ⟨fun q => absurd q.1 hr, fun _ => ?_⟩
    rw [if_neg hr, if_pos rfl]
theorem M_result_s (hG : Good M) (hP : MP M zs) (hl : zs.length ≤ 40) (ho : okP zs) (hB : MB M bs) (hO : MO M gl) (hF : MF M f dr) (hz : zsk 100 zs) (hb : bok bs) (hg : gok gl) (hn : dr ≠ 0 → (MQn M ns ∧ MG M ng) ∧ nOK zs ns ng) (w : Int) : (rGo w dr → ∃ M', M_result 1269 w M = some (some (.inl ((wtx (rEn w zs ns bs gl ng).1 []).length : Int)), M') ∧ RNm M' (rEn w zs ns bs gl ng) ∧ TXm M' (wtx (rEn w zs ns bs gl ng).1 []) ∧ Fj (fun a k => rmS a k ∨ wmL a k) M M') ∧ (¬ rGo w dr → M_result 1269 w M = some (some (.inl (-1)), M)) := by
  rw [M_result_eq, hG.gM, gd_t, M_isRun_s hG hF, cI_s]
  by_cases hr : rGo w dr
  · refine ⟨fun _ => ?_, fun q => absurd hr q⟩
    have hk : rnk (rEn w zs ns bs gl ng).1 := by
      unfold rEn
      by_cases h0 : w = 0
      · rw [if_pos h0]; exact run0_ok hz hb hg
      · rw [if_neg h0]
        have hd : dr ≠ 0 := by unfold rGo at hr; omega
        exact run0_ok (hn hd).2.2.1 hb (hn hd).2.2.2.2
    obtain ⟨M1, a1, a2, a3⟩ := M_runGoal_s hG hP hl ho hB hO hz hb hg hn w hr
    have hG1 := hG.fj a3
    obtain ⟨hb1, hT1⟩ := M_begin_s hG1
    have f1 : Fj (fun a k => a = 1269 ∧ k = 61) M1 (stI M1 1269 61 0) := Fj.ofI ⟨rfl, rfl⟩
    have hG2 := hG1.fj f1
    have hX2 := a2.1.1.2.fj f1 (by omega)
    have hlen := hk.1.2.2
    obtain ⟨M3, b1, b2, b3⟩ := M_writeRow_0 hG2 hX2 (by decide) hT1 hk.2.1 hk.2.2 (by simp only [List.length_nil]; omega)
    have b1 : M_writeRow 1269 1298 0 ((rEn w zs ns bs gl ng).1.length : Int) 0 (stI M1 1269 61 0) = some (none, M3) := b1
    have hG3 := hG2.fj b3
    have e46 : mI (stI M1 1269 61 0) 1269 46 = ((rEn w zs ns bs gl ng).1.length : Int) := by rw [mI_ne (by omega)]; exact a2.1.1.1
    have F2 : Fj wmL M1 M3 := (f1.mono (T := wmL) fun a k q => Or.inl (Or.inr q)).trans b3
    rw [List.nil_append] at b2
    rw [if_pos hr, if_neg (by decide), hG.gM, gd_t, a1, cV_s, hG1.gM, gd_t, hb1, cV_s, hG2.gM, gd_t, gd_t, gd_t, hG2.m44, e46, b1, cV_s, hG3.gM, gd_t, b2.1]
    refine ⟨M3, rfl, ⟨a2.1.fj F2 (by unfold wmL wmS; omega) (by unfold wmL wmS; omega), (F2.2.2 _ _ (by unfold wmL wmS; omega)).trans a2.2.1, (F2.2.2 _ _ (by unfold wmL wmS; omega)).trans a2.2.2⟩, b2, ?_⟩
    exact (a3.mono (T := fun a k => rmS a k ∨ wmL a k) fun a k q => Or.inl q).trans (F2.mono fun a k q => Or.inr q)
  · refine ⟨fun q => absurd q hr, fun _ => ?_⟩
    rw [if_neg hr, if_pos rfl]
theorem M_runOf_s (hG : Good M) (hP : MP M zs) (hl : zs.length ≤ 40) (ho : okP zs) (hB : MB M bs) (hX : MX M es) (hz : zsk 100 zs) (hb : bok bs) (hx : ∀ i, i < 4 → xok (es i)) (i v : Int) : ((isY i ∧ 0 ≤ v ∧ v ≤ 3) → ∃ M', M_runOf 1269 i v M = some (some (.inl (rAn (run0 zs bs (es i.toNat)) v)), M') ∧ RNm M' (run0 zs bs (es i.toNat)) ∧ Fj rmS M M') ∧ (¬ (isY i ∧ 0 ≤ v ∧ v ≤ 3) → M_runOf 1269 i v M = some (some (.inl (-1)), M)) := by
  unfold isY
  rw [M_runOf_eq, hG.gM, gd_t, M_isTold_s hG, cI_s]
  by_cases hi : 0 ≤ i ∧ i < 4
  · rw [if_pos hi, if_neg (by decide), M_isIn_s, cI_s]
    by_cases hv : 0 ≤ v ∧ v ≤ 3
    · refine ⟨fun _ => ?_, fun q => absurd ⟨hi, hv⟩ q⟩
      obtain ⟨m, rfl⟩ := Int.eq_ofNat_of_zero_le hi.1
      have hm : m < 4 := by omega
      obtain ⟨⟨x1, x2, x3⟩, x4⟩ := hx m hm
      obtain ⟨M', a1, a2, a3⟩ := M_runNow_s hG (hP.rwp hl hz ho) hB hb (hX.rx hx hm) (by decide) x2 x1 (by omega)
      have a1 : M_runNow 1269 0 1292 ((40 * m : Nat) : Int) ((es m).length : Int) M = some (none, M') := a1
      have hG1 := hG.fj a3
      obtain ⟨g1, g2⟩ := a2.get hG1 hv
      rw [if_pos hv, if_neg (by decide), hG.gM, gd_t, gd_t, hG.m34, hG.tgS arr_1293 (by omega) (by omega), gd_t, gd_t, hG.m33, toNat_n, (hX m hm).1, wr_id (x := 40 * (m : Int)) (by omega) (by omega), show 40 * (m : Int) = ((40 * m : Nat) : Int) by omega, a1, cV_s, hG1.gM, gd_t, hG1.m51, g1, gd_t, g2]
      exact ⟨M', rfl, a2, a3⟩
    · refine ⟨fun q => absurd q.2 hv, fun _ => ?_⟩
      rw [if_neg hv, if_pos rfl]
  · refine ⟨fun q => absurd q.1 hi, fun _ => ?_⟩
    rw [if_neg hi, if_pos rfl]
theorem M_deepest_s (hG : Good M) : M_deepest 1269 M = some (some (.inl (mI M 1269 52)), M) := by
  rw [M_deepest_eq, hG.gM, gd_t]
end MRUNQ

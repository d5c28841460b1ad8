/-! ===== run, result, runOf, deepest: the class ===== -/
abbrev isY (i : Int) : Prop := 0 ≤ i ∧ i < 4
abbrev rGo (w dr : Int) : Prop := w = 0 ∨ (w = 1 ∧ dr ≠ 0)
/-- the run that is asked for -/
def rEn (w : Int) (zs ns : List Clz) (bs : Bnd) (gl ng : List Int) : List Int × Nat × Nat × Nat × Nat := if w = 0 then run0 zs bs gl else run0 ns bs ng
def rAn (r : List Int × Nat × Nat × Nat × Nat) (w : Int) : Int := if w = 0 then (r.2.1 : Int) else if w = 1 then (r.2.2.1 : Int) else if w = 2 then (r.1.length : Int) else if w = 3 then (r.2.2.2.1 : Int) else -1
def RUx (M : Mem) : Prop := ∃ N S xs, RUc M N S xs
theorem RNc.x {M : Mem} {r : List Int × Nat × Nat × Nat × Nat} (h : RNc M r) : RUx M := by
  obtain ⟨⟨N, S, h⟩, -⟩ := h
  exact ⟨N, S, _, h⟩
section CRUN
variable {M : Mem} {ws : List Int} {zs ns : List Clz} {bs : Bnd} {gl ng : List Int} {es : Nat → List Int} {f dr : Int}
theorem CB.told (h : CB M bs) : ∃ B, 1258 < B ∧ BDc M B bs ∧ mR M 2 13 = B := by
  obtain ⟨B0, B1, b, ⟨r0, r1⟩, a0, -⟩ := h
  unfold brm at b
  exact ⟨B0, by omega, a0, r0⟩
theorem D_runGoal_s (hG : Good M) (hP : CP M zs ns) (hB : CB M bs) (hE : CE M gl ng es) (hF : CF M f dr) (hU : RUx M) (hz : zsk 100 zs) (hb : bok bs) (hg : gok gl) (hn : dr ≠ 0 → zsk 100 ns ∧ gok ng) (w : Int) : (rGo w dr → ∃ M', D_runGoal 2 w M = some (some (.inl 1), M') ∧ RNc M' (rEn w zs ns bs gl ng) ∧ Good M' ∧ Fq rpS ruR M M') ∧ (¬ rGo w dr → D_runGoal 2 w M = some (some (.inl 0), M)) := by
  obtain ⟨N, S, ys, hU⟩ := hU
  obtain ⟨B, b1, b2, b3⟩ := hB.told
  unfold rGo rEn
  rw [D_runGoal_eq]
  by_cases h0 : w = 0
  · refine ⟨fun _ => ?_, fun q => absurd (Or.inl h0) q⟩
    obtain ⟨P, p1, p2, p3⟩ := hP.told2
    obtain ⟨M', a1, a2, a3, a4⟩ := Ru_perform_s (e := 767) (by omega) hz hG hU p2 (by decide) hE.1 hg.1.2.1 hg.1.1 hg.1.2.2 b1 b2 hb
    rw [if_pos h0, if_pos h0, hG.gx, gd_t, gd_t, gd_t, gd_t, hG.r2_3, hG.gRu, gd_t, p3, hG.r2_7, b3, a1, cV_s]
    exact ⟨M', rfl, a2, a3, a4⟩
  · rw [if_neg h0, if_neg h0]
    by_cases h1 : w = 1
    · rw [if_pos h1, hG.gx, gd_t, hF.2]
      by_cases hd : dr = 0
      · rw [if_pos hd]
        exact ⟨fun q => by omega, fun _ => rfl⟩
      · obtain ⟨n1, n2⟩ := hn hd
        refine ⟨fun _ => ?_, fun q => absurd (Or.inr ⟨h1, hd⟩) q⟩
        obtain ⟨P, p1, p2, p3⟩ := hP.new
        obtain ⟨M', a1, a2, a3, a4⟩ := Ru_perform_s (e := 769) (by omega) n1 hG hU p2 (by decide) hE.2.1 n2.1.2.1 n2.1.1 n2.1.2.2 b1 b2 hb
        rw [if_neg hd, gd_t, gd_t, gd_t, gd_t, hG.r2_3, hG.gRu, gd_t, p3, hG.r2_8, b3, a1, cV_s]
        exact ⟨M', rfl, a2, a3, a4⟩
    · rw [if_neg h1]
      exact ⟨fun q => by omega, fun _ => rfl⟩
theorem D_run_s (hG : Good M) (hP : CP M zs ns) (hB : CB M bs) (hE : CE M gl ng es) (hF : CF M f dr) (hU : RUx M) (hz : zsk 100 zs) (hb : bok bs) (hg : gok gl) (hn : dr ≠ 0 → zsk 100 ns ∧ gok ng) (w v : Int) : ((rGo w dr ∧ 0 ≤ v ∧ v ≤ 3) → ∃ M', D_run 2 w v M = some (some (.inl (rAn (rEn w zs ns bs gl ng) v)), M') ∧ RNc M' (rEn w zs ns bs gl ng) ∧ Good M' ∧ Fq rpS ruR M M') ∧ (¬ (rGo w dr ∧ 0 ≤ v ∧ v ≤ 3) → D_run 2 w v M = some (some (.inl (-1)), M)) := by
  obtain ⟨g1, g2⟩ := D_runGoal_s hG hP hB hE hF hU hz hb hg hn w
  rw [D_run_eq]
  by_cases h1 : v < 0
  · rw [if_pos h1]; exact ⟨fun q => by omega, fun _ => rfl⟩
  rw [if_neg h1]
  by_cases h2 : 3 < v
  · rw [if_pos h2]; exact ⟨fun q => by omega, fun _ => rfl⟩
  rw [if_neg h2, hG.gx, gd_t]
  by_cases hr : rGo w dr
  · refine ⟨fun _ => ?_, fun q => absurd ⟨hr, by omega, by omega⟩ q⟩
    obtain ⟨M', a1, a2, a3, a4⟩ := g1 hr
    rw [a1, cI_s, if_neg (by decide), a3.gx, gd_t, a3.r2_3, a3.gRu, gd_t, Ru_answer_s a3 a2, cI_s]
    exact ⟨M', rfl, a2, a3, a4⟩
  · refine ⟨fun q => absurd q.1 hr, fun _ => ?_⟩
    rw [g2 hr, cI_s, if_pos rfl]
theorem D_result_s (hG : Good M) (hP : CP M zs ns) (hB : CB M bs) (hE : CE M gl ng es) (hF : CF M f dr) (hU : RUx M) (hT : TXc M ws) (hz : zsk 100 zs) (hb : bok bs) (hg : gok gl) (hn : dr ≠ 0 → zsk 100 ns ∧ gok ng) (w : Int) : (rGo w dr → ∃ M', D_result 2 w M = some (some (.inl ((wtx (rEn w zs ns bs gl ng).1 []).length : Int)), M') ∧ RNc M' (rEn w zs ns bs gl ng) ∧ TXc M' (wtx (rEn w zs ns bs gl ng).1 []) ∧ Good M' ∧ Fq (fun a k => rpS a k ∨ wcL a k) ruR M M') ∧ (¬ rGo w dr → D_result 2 w M = some (some (.inl (-1)), M)) := by
  obtain ⟨g1, g2⟩ := D_runGoal_s hG hP hB hE hF hU hz hb hg hn w
  rw [D_result_eq, hG.gx, gd_t]
  by_cases hr : rGo w dr
  · refine ⟨fun _ => ?_, fun q => absurd hr q⟩
    obtain ⟨M1, a1, a2, a3, a4⟩ := g1 hr
    have hk : rnk (rEn w zs ns bs gl ng).1 := by
      unfold rEn
      by_cases h0 : w = 0
      · rw [if_pos h0]; exact run0_ok hz hb hg
      · rw [if_neg h0]
        have hd : dr ≠ 0 := by unfold rGo at hr; omega
        exact run0_ok (hn hd).1 hb (hn hd).2
    have hT1 : TXc M1 ws := ⟨(a4.2.2 _ _ (by unfold rpS; omega)).trans hT.1, hT.2.1, fun i hi => (a4.2.2 _ _ (by unfold rpS; omega)).trans (hT.2.2 i hi)⟩
    have a2' := a2
    obtain ⟨⟨N, S, hU1⟩, hrest⟩ := a2'
    have hU1' := hU1
    obtain ⟨hns, ⟨r1, r2⟩, x1, x2⟩ := hU1'
    obtain ⟨M2, b1, b2, b3⟩ := D_writeExpr_s a3 (e := N) (by omega) x1 hT1 hk.1.2.1 hk.2.1 hk.2.2 (by have := hk.1.2.2; omega)
    have F2 : Fq wcL nor M1 M2 := b3.fq fun a k q => q
    rw [a1, cI_s, if_neg (by decide), a3.gx, gd_t, a3.r2_3, a3.gRu, gd_t, gd_t, r1, b1, cI_s]
    refine ⟨M2, rfl, ⟨⟨N, S, hU1.fq F2 (by unfold wcL wcS; omega) ⟨fun q => q, fun q => q⟩⟩, ⟨(b3.2.2 _ _ (by unfold wcL wcS; omega)).trans hrest.1.1, (b3.2.2 _ _ (by unfold wcL wcS; omega)).trans hrest.1.2⟩, (b3.2.2 _ _ (by unfold wcL wcS; omega)).trans hrest.2.1, (b3.2.2 _ _ (by unfold wcL wcS; omega)).trans hrest.2.2⟩, b2, a3.fj b3, ?_⟩
    exact (a4.mono (T := fun a k => rpS a k ∨ wcL a k) (fun a k q => Or.inl q) fun a k q => q).trans (b3.fq fun a k q => Or.inr q)
  · refine ⟨fun q => absurd q hr, fun _ => ?_⟩
    rw [g2 hr, cI_s, if_pos rfl]
theorem D_runOf_s (hG : Good M) (hP : CP M zs ns) (hB : CB M bs) (hE : CE M gl ng es) (hU : RUx M) (hz : zsk 100 zs) (hb : bok bs) (hx : ∀ i, i < 4 → xok (es i)) (i v : Int) : ((isY i ∧ 0 ≤ v ∧ v ≤ 3) → ∃ M', D_runOf 2 i v M = some (some (.inl (rAn (run0 zs bs (es i.toNat)) v)), M') ∧ RNc M' (run0 zs bs (es i.toNat)) ∧ Good M' ∧ Fq rpS ruR M M') ∧ (¬ (isY i ∧ 0 ≤ v ∧ v ≤ 3) → D_runOf 2 i v M = some (some (.inl (-1)), M)) := by
  unfold isY
  rw [D_runOf_eq, D_isExpression_s, cI_s]
  by_cases hi : 0 ≤ i ∧ i < 4
  · rw [if_pos hi, if_neg (by decide)]
    by_cases h1 : v < 0
    · rw [if_pos h1]; exact ⟨fun q => by omega, fun _ => rfl⟩
    rw [if_neg h1]
    by_cases h2 : 3 < v
    · rw [if_pos h2]; exact ⟨fun q => by omega, fun _ => rfl⟩
    refine ⟨fun _ => ?_, fun q => absurd ⟨hi, by omega, by omega⟩ q⟩
    obtain ⟨m, rfl⟩ := Int.eq_ofNat_of_zero_le hi.1
    have hm : m < 4 := by omega
    obtain ⟨N, S, ys, hU⟩ := hU
    obtain ⟨B, b1, b2, b3⟩ := hB.told
    obtain ⟨P, p1, p2, p3⟩ := hP.told2
    obtain ⟨⟨x1, x2, x3⟩, x4⟩ := hx m hm
    obtain ⟨M', a1, a2, a3, a4⟩ := Ru_perform_s (e := 759 + 2 * m) (by omega) hz hG hU p2 (by omega) (hE.2.2 m hm) x2 x1 (by omega) b1 b2 hb
    rw [if_neg h2, hG.gx, gd_t, gd_t, gd_t, hG.r2_6, hG.aX hm, gd_t, gd_t, hG.r2_3, hG.gRu, gd_t, toNat_n, hG.rX hm, p3, b3, a1, cV_s, a3.gx, gd_t, a3.r2_3, a3.gRu, gd_t, Ru_answer_s a3 a2, cI_s]
    exact ⟨M', rfl, a2, a3, a4⟩
  · rw [if_neg hi, if_pos rfl]
    exact ⟨fun q => absurd q.1 hi, fun _ => rfl⟩
theorem D_deepest_s (hG : Good M) : D_deepest 2 M = some (some (.inl (mI M 21 9)), M) := by
  rw [D_deepest_eq, hG.gx, gd_t, hG.r2_3, hG.gRu, gd_t]
end CRUN

/-! ===== step and saved: the class ===== -/
def stA (zs : List Clz) (bs : Bnd) (es : Nat → List Int) (i k : Int) : Int := if isY i ∧ isY k then (if onO zs (fll bs (es i.toNat)) = 1 then -2 else if 40 < (onX zs (fll bs (es i.toNat))).length then -1 else if onO zs (fll bs (es i.toNat)) = 0 then 0 else 1) else -1
def stE (zs : List Clz) (bs : Bnd) (es : Nat → List Int) (i k : Int) : Nat → List Int := if (isY i ∧ isY k) ∧ onO zs (fll bs (es i.toNat)) ≠ 1 ∧ (onX zs (fll bs (es i.toNat))).length ≤ 40 then setX es k.toNat (onX zs (fll bs (es i.toNat))) else es
abbrev Rrn : Type := List Int × Nat × Nat × Nat × Nat
def svA (dr : Int) (r s : Rrn) : Int := if dr = 0 then -1001 else if r.2.1 = s.2.1 ∧ r.2.1 < 2 then (r.2.2.1 : Int) - (s.2.2.1 : Int) else -1000
theorem rnl_st {zs : List Clz} : ∀ (n : Nat) (xs : List Int) (st gr dp : Nat), (rnl zs n xs st gr dp).2.2.1 ≤ st + n ∧ (rnl zs n xs st gr dp).2.1 ≤ 3 := by
  intro n
  induction n with
  | zero =>
    intro xs st gr dp
    refine ⟨Nat.le_refl _, ?_⟩
    show (if stO zs xs = 4 then 2 else stO zs xs) ≤ 3
    unfold stO
    repeat' split
    all_goals omega
  | succ n ih =>
    intro xs st gr dp
    unfold rnl
    by_cases q : stO zs xs = 4
    · rw [if_pos q]
      have := ih (stepZ zs xs) (st + 1) (max gr (stepZ zs xs).length) (max dp (1 + dep xs (nxt zs xs).2.1))
      omega
    · rw [if_neg q]
      refine ⟨by show st ≤ st + (n + 1); omega, ?_⟩
      show stO zs xs ≤ 3
      unfold stO at q ⊢
      repeat' split
      all_goals first | omega | (exfalso; apply q; simp_all)
theorem onX_ok {zs : List Clz} {bs : Bnd} {xs : List Int} (hz : zsk 100 zs) (hb : bok bs) (hx : xok xs) (hl : (onX zs (fll bs xs)).length ≤ 40) : xok (onX zs (fll bs xs)) := by
  obtain ⟨⟨hw, hv, h40⟩, ho⟩ := hx
  have w2 := fll_wf hb hw hv
  have v2 := fll_av hb hv
  have o2 := fll_vlo hb hv ho
  unfold onX at hl ⊢
  by_cases q : (nxt zs (fll bs xs)).1 = 4
  · rw [if_pos q] at hl ⊢
    obtain ⟨z, z1, hf⟩ := nxt_clf w2 q
    have hzk := hz z (List.mem_of_getElem? z1)
    have hsz := stepZ_of z1
    rw [hsz] at hl ⊢
    exact ⟨⟨stx_wf w2 hf hzk, stx_av v2 hzk, hl⟩, stx_vlo o2 hzk⟩
  · rw [if_neg q] at hl ⊢
    exact ⟨⟨w2, v2, hl⟩, o2⟩
theorem stE_ok {zs : List Clz} {bs : Bnd} {es : Nat → List Int} (hz : zsk 100 zs) (hb : bok bs) (hx : ∀ i, i < 4 → xok (es i)) (i k : Int) : ∀ j, j < 4 → xok (stE zs bs es i k j) := by
  intro j hj
  unfold stE
  split
  · rename_i h
    unfold setX
    split
    · have h1 : 0 ≤ i ∧ i < 4 := h.1.1
      exact onX_ok hz hb (hx i.toNat (by omega)) h.2.2
    · exact hx j hj
  · exact hx j hj
section CSTEP
variable {M : Mem} {ws : List Int} {zs ns : List Clz} {bs : Bnd} {gl ng : List Int} {es : Nat → List Int} {f dr : Int}
def stS : Nat → Nat → Prop := fun a k => ruS a k ∨ (759 ≤ a ∧ a < 767)
theorem D_step_s (hG : Good M) (hP : CP M zs ns) (hB : CB M bs) (hE : CE M gl ng es) (hU : RUx M) (hz : zsk 100 zs) (hb : bok bs) (hx : ∀ i, i < 4 → xok (es i)) (i k : Int) : ∃ M', D_step 2 i k M = some (some (.inl (stA zs bs es i k)), M') ∧ CE M' gl ng (stE zs bs es i k) ∧ RUx M' ∧ mI M' 21 9 = mI M 21 9 ∧ Good M' ∧ Fq stS ruR M M' := by
  have hU0 := hU
  unfold stA stE
  rw [D_step_eq, D_isExpression_s, cI_s]
  by_cases hi : 0 ≤ i ∧ i < 4
  · rw [if_pos hi, if_neg (by decide), D_isExpression_s, cI_s]
    by_cases hk : 0 ≤ k ∧ k < 4
    · have hik : isY i ∧ isY k := ⟨hi, hk⟩
      rw [if_pos hk, if_neg (by decide), if_pos hik]
      obtain ⟨m, rfl⟩ := Int.eq_ofNat_of_zero_le hi.1
      obtain ⟨j, rfl⟩ := Int.eq_ofNat_of_zero_le hk.1
      have hm : m < 4 := by omega
      have hj : j < 4 := by omega
      obtain ⟨N, S, ys, hU⟩ := hU
      obtain ⟨B, b1, b2, b3⟩ := hB.told
      obtain ⟨P, p1, p2, p3⟩ := hP.told2
      obtain ⟨⟨x1, x2, x3⟩, x4⟩ := hx m hm
      obtain ⟨M1, N1, S1, us, a1, a2, a3, a4, a5, a6⟩ := Ru_performOne_s (e := 759 + 2 * m) (by omega) hz hG hU p2 (by omega) (hE.2.2 m hm) x2 x1 (by omega) b1 b2 hb
      have xe : ∀ {e n : Nat} {qs : List Int}, 26 < e → XE M e n qs → XE M1 e n qs := fun he h => h.ext fun a k q => a5.2.2 a k (by unfold ruS; omega)
      have hE1 : CE M1 gl ng es := ⟨xe (by decide) hE.1, xe (by decide) hE.2.1, fun i hi => xe (by omega) (hE.2.2 i hi)⟩
      have F1 : Fq stS ruR M M1 := a5.mono (fun a k q => Or.inl q) fun a k q => q
      rw [toNat_n, toNat_n, hG.gx, gd_t, gd_t, gd_t, hG.r2_6, hG.aX hm, gd_t, gd_t, hG.r2_3, hG.gRu, gd_t, hG.rX hm, p3, b3, a1, cI_s]
      by_cases o1 : onO zs (fll bs (es m)) = 1
      · rw [if_pos (by omega), if_pos o1, if_neg (fun q => q.2.1 o1)]
        exact ⟨M1, rfl, hE1, ⟨N1, S1, us, a2⟩, a6, a4, F1⟩
      · have a2' := a2
        obtain ⟨hns, ⟨r1, r2⟩, y1, y2⟩ := a2'
        rw [if_neg (by omega), if_neg o1, a4.gx, gd_t, a4.r2_3, a4.gRu, gd_t, r1, y1.g a4, gd_t, y1.s]
        have hle : 40 < us.length ↔ 40 < (onX zs (fll bs (es m))).length := by
          rcases a3 with e | ⟨e1, e2⟩
          · rw [e]
          · exact ⟨fun _ => e2, fun _ => e1⟩
        by_cases hl : 40 < us.length
        · have hl2 := hle.mp hl
          rw [if_pos (by omega), if_pos hl2, if_neg (fun q => by omega)]
          exact ⟨M1, rfl, hE1, ⟨N1, S1, us, a2⟩, a6, a4, F1⟩
        · have hl2 : ¬ 40 < (onX zs (fll bs (es m))).length := fun q => hl (hle.mpr q)
          have e : us = onX zs (fll bs (es m)) := by
            rcases a3 with e | ⟨e1, e2⟩
            · exact e
            · exact absurd e1 hl
          obtain ⟨M2, c1, c2, c3⟩ := Ex_become_s a4 (hE1.2.2 j hj) y1 (by omega) (by omega) (by omega) (by omega)
          rw [if_neg (by omega), if_neg hl2, if_pos (show (isY (m : Int) ∧ isY (j : Int)) ∧ onO zs (fll bs (es m)) ≠ 1 ∧ (onX zs (fll bs (es m))).length ≤ 40 from ⟨hik, o1, by omega⟩), gd_t, a4.r2_6, a4.aX hj, gd_t, gd_t, gd_t, a4.rX hj, (hE1.2.2 j hj).g a4, gd_t, c1, cV_s]
          have hC : CE M2 gl ng (setX es j (onX zs (fll bs (es m)))) := by
            refine ⟨hE1.1.fi c3 (by unfold eS; omega) (by unfold eS; omega), hE1.2.1.fi c3 (by unfold eS; omega) (by unfold eS; omega), fun t ht => ?_⟩
            unfold setX
            by_cases q : t = j
            · subst q; rw [if_pos rfl, ← e]; exact c2
            · rw [if_neg q]
              exact (hE1.2.2 t ht).fi c3 (by unfold eS; omega) (by unfold eS; omega)
          have F2 : Fq stS ruR M1 M2 := (c3.fj (T := stS) fun a k q => by unfold eS at q; unfold stS; omega).fq fun a k q => q
          have hU2 : RUx M2 := ⟨N1, S1, us, a2.fq ((c3.fj (T := fun a _ => eS (759 + 2 * j) a) fun a k q => q).fq (R := nor) fun a k q => q) (by unfold eS; omega) ⟨fun q => q, fun q => q⟩⟩
          have d2 : mI M2 21 9 = mI M 21 9 := (c3.2.2 _ (by unfold eS; omega) _).trans a6
          by_cases o0 : onO zs (fll bs (es m)) = 0
          · rw [if_pos (by omega), if_pos o0]
            exact ⟨M2, rfl, hC, hU2, d2, a4.fi c3, F1.trans F2⟩
          · rw [if_neg (by omega), if_neg o0]
            exact ⟨M2, rfl, hC, hU2, d2, a4.fi c3, F1.trans F2⟩
    · rw [if_neg hk, if_pos rfl, if_neg (fun q => hk q.2), if_neg (fun q => hk q.1.2)]
      exact ⟨M, rfl, hE, hU0, rfl, hG, Fq.refl⟩
  · rw [if_neg hi, if_pos rfl, if_neg (fun q => hi q.1), if_neg (fun q => hi q.1.1)]
    exact ⟨M, rfl, hE, hU0, rfl, hG, Fq.refl⟩
theorem D_saved_s (hG : Good M) (hP : CP M zs ns) (hB : CB M bs) (hE : CE M gl ng es) (hF : CF M f dr) (hU : RUx M) (hz : zsk 100 zs) (hb : bok bs) (hg : gok gl) (hn : dr ≠ 0 → zsk 100 ns ∧ gok ng) : (dr ≠ 0 → ∃ M', D_saved 2 M = some (some (.inl (svA dr (run0 zs bs gl) (run0 ns bs ng))), M') ∧ RNc M' (run0 ns bs ng) ∧ Good M' ∧ Fq rpS ruR M M') ∧ (dr = 0 → D_saved 2 M = some (some (.inl (svA dr (run0 zs bs gl) (run0 ns bs ng))), M)) := by
  unfold svA
  rw [D_saved_eq, hG.gx, gd_t, hF.2]
  by_cases hd : dr = 0
  · rw [if_pos hd, if_pos hd]
    exact ⟨fun q => absurd hd q, fun _ => rfl⟩
  · rw [if_neg hd, if_neg hd]
    refine ⟨fun _ => ?_, fun q => absurd q hd⟩
    obtain ⟨n1, n2⟩ := hn hd
    obtain ⟨N, S, ys, hU⟩ := hU
    obtain ⟨B, b1, b2, b3⟩ := hB.told
    obtain ⟨P, p1, p2, p3⟩ := hP.told2
    obtain ⟨M1, a1, a2, a3, a4⟩ := Ru_perform_s (e := 767) (by omega) hz hG hU p2 (by decide) hE.1 hg.1.2.1 hg.1.1 hg.1.2.2 b1 b2 hb
    have hP1 : CP M1 zs ns := hP.fq a4 (by unfold rpS; omega) (by unfold ruR; omega)
    have hB1 : CB M1 bs := hB.fq a4 (by unfold rpS; omega) (by unfold ruR; omega)
    have hE1 : CE M1 gl ng es := hE.fq a4 (by unfold rpS; omega)
    obtain ⟨N1, S1, us, hU1⟩ := a2.x
    obtain ⟨B', d1, d2, d3⟩ := hB1.told
    obtain ⟨Q, q1, q2, q3⟩ := hP1.new
    obtain ⟨M2, c1, c2, c3, c4⟩ := Ru_perform_s (e := 769) (by omega) n1 a3 hU1 q2 (by decide) hE1.2.1 n2.1.2.1 n2.1.1 n2.1.2.2 d1 d2 hb
    have s1 := rnl_st (zs := zs) 200 (fll bs gl) 0 (fll bs gl).length 0
    have s2 := rnl_st (zs := ns) 200 (fll bs ng) 0 (fll bs ng).length 0
    have t1 : (run0 zs bs gl).2.2.1 ≤ 200 ∧ (run0 zs bs gl).2.1 ≤ 3 := by unfold run0; omega
    have t2 : (run0 ns bs ng).2.2.1 ≤ 200 ∧ (run0 ns bs ng).2.1 ≤ 3 := by unfold run0; omega
    rw [gd_t, gd_t, gd_t, gd_t, hG.r2_3, hG.gRu, gd_t, p3, hG.r2_7, b3, a1, cV_s, a3.gx, gd_t, a3.r2_3, a3.gRu, gd_t, gd_t, gd_t, gd_t, gd_t, gd_t, gd_t, gd_t, q3, a3.r2_8, d3, c1, cV_s, c3.gx, gd_t, c3.r2_3, c3.gRu, gd_t, a2.2.1.1, a2.2.1.2, c2.2.1.1]
    have e81 : ∀ (b : Int) (v : LV), D_saved_81 2 ((run0 zs bs gl).2.1 : Int) ((run0 zs bs gl).2.2.1 : Int) b v M2 = some (some (.inl (if b = 0 then -1000 else if (run0 zs bs gl).2.1 < 2 then ((run0 zs bs gl).2.2.1 : Int) - ((run0 ns bs ng).2.2.1 : Int) else -1000)), M2) := by
      intro b v
      rw [D_saved_81_eq]
      by_cases h0 : b = 0
      · rw [if_pos h0, if_pos h0]
      rw [if_neg h0, if_neg h0, c3.gx, gd_t, c3.r2_3, c3.gRu, gd_t, c2.2.1.2, wr_id (by omega) (by omega)]
      by_cases g0 : (run0 zs bs gl).2.1 = 0
      · rw [if_pos (by omega), if_pos (by omega)]
      rw [if_neg (by omega)]
      by_cases g1 : (run0 zs bs gl).2.1 = 1
      · rw [if_pos (by omega), if_pos (by omega)]
      · rw [if_neg (by omega), if_neg (by omega)]
    have F := a4.trans c4
    by_cases he : (run0 zs bs gl).2.1 = (run0 ns bs ng).2.1
    · rw [if_pos (by omega), e81, if_neg (by decide)]
      by_cases h2 : (run0 zs bs gl).2.1 < 2
      · rw [if_pos h2, if_pos ⟨he, h2⟩]
        exact ⟨M2, rfl, c2, c3, F⟩
      · rw [if_neg h2, if_neg (fun q => h2 q.2)]
        exact ⟨M2, rfl, c2, c3, F⟩
    · rw [if_neg (by omega), e81, if_pos rfl, if_neg (fun q => he q.1)]
      exact ⟨M2, rfl, c2, c3, F⟩
end CSTEP

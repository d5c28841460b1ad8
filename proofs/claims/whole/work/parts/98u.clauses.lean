/-! ===== the class: the new program's clauses ===== -/
def mka (X : Nat → List Int) (F : FT) (x y : Nat) : List Int := if F x 4 = 3 then lfs (F y 12).toNat (arN (F y 11)) (X x) (F x 10) else sid (X x) (F x 10)
def mkz (X : Nat → List Int) (F : FT) (C : Nat → List Int) (x y : Nat) : Clz := (33554432 + ((sid (X x) (F x 10)).length : Int) * 65536 + (1 + F x 9), if F x 4 = 3 then F y 11 else -1, vsq 1 (mka X F x y).length, (C y).map (rnm (mka X F x y)))
def mzS (P : Nat) : Nat → Nat → Prop := fun a j => arS a j ∨ pS P a
section CLAUSES
variable {X : Nat → List Int} {F : FT} {mk P : Nat}
theorem CLc.fjo {M M1 : Mem} {c : Nat} {z : Clz} {S : Nat → Nat → Prop} (h : CLc M c z) (f : Fj S M M1) (h0 : ∀ a k, c ≤ a ∧ a < c + 4 → ¬ S a k) : CLc M1 c z := by
  have o : ∀ a k, c ≤ a ∧ a < c + 4 → mI M1 a k = mI M a k := fun a k q => f.2.2 a k (h0 a k q)
  obtain ⟨⟨h1, h2, h3⟩, ⟨h4, h5, h6⟩, h7⟩ := h
  exact ⟨⟨h1, (o _ _ (by omega)).trans h2, (o _ _ (by omega)).trans h3⟩, ⟨(o _ _ (by omega)).trans h4, fun i hi => (o _ _ (by omega)).trans (h5 i hi), h6⟩, h7.ext fun a k q => o a k (by omega)⟩
theorem Rs_clause_loop {c y : Nat} {vs cs : List Int} {zs : List Clz} (hc : c = P + 2 + 4 * zs.length) (hP : 772 < P) (hvl : vs.length ≤ 11) (hy : y < 120) (hl : zs.length < 40) (d1 d5 : LV) (hcv : av cs) : ∀ (t i : Nat) (M : Mem) (nm con : Int), vs.length - i = t → i ≤ vs.length → Good M → AR M vs → PRc M P zs → XE M (34 + 6 * y) 100 cs → CLc M c (nm, con, vsq 1 i, []) → ∃ M', Rs_makeClause_66 754 (30 + 6 * y) P c (i : Int) d1 d5 M = some (none, M') ∧ PRc M' P (zs ++ [(nm, con, vsq 1 vs.length, cs.map (rnm vs))]) ∧ Good M' ∧ Fj (fun a _ => a = P ∨ (c ≤ a ∧ a < c + 4)) M M' := by
  intro t
  induction t with
  | zero =>
    intro i M nm con h1 h2 hG hA hp hX hC
    have hi : i = vs.length := by omega
    subst hi
    have hEr := hC.2.2
    obtain ⟨M1, b1, b2, b3⟩ := Ex_addRenamed_s hG hEr hX hcv (by omega) (by omega) (by omega) arr_757 (by decide) hA.2 (by omega) (by omega) (by omega) (by have := hX.2.2; rw [List.length_nil]; omega)
    rw [List.nil_append] at b2
    have hG1 := hG.fi b3
    have f1 : Fj (fun a _ => c + 2 ≤ a ∧ a < c + 4) M M1 := b3.fj fun a j q => by unfold eS at q; omega
    have hC1 : CLc M1 c (nm, con, vsq 1 vs.length, cs.map (rnm vs)) := by
      obtain ⟨⟨g1, g2, g3⟩, ⟨g4, g5, g6⟩, -⟩ := hC
      exact ⟨⟨g1, (f1.2.2 _ _ (by omega)).trans g2, (f1.2.2 _ _ (by omega)).trans g3⟩, ⟨(f1.2.2 _ _ (by omega)).trans g4, fun i hi => (f1.2.2 _ _ (by omega)).trans (g5 i hi), g6⟩, b2⟩
    have hp1 : PRc M1 P zs := by
      refine ⟨⟨hp.1.1, (f1.2.2 _ _ (by omega)).trans hp.1.2.1, hp.1.2.2⟩, fun i z hz => ?_⟩
      have hi := (List.getElem?_eq_some_iff.mp hz).1
      exact (hp.2 i z hz).fjo f1 fun a k q => by omega
    subst hc
    obtain ⟨M2, c1, c2, c3⟩ := Pr_keepSpare_s hG1 hp1 hl hC1
    refine ⟨M2, ?_, c2, hG1.fi c3, (f1.mono fun a j q => by omega).trans (c3.fj fun a j q => Or.inl q)⟩
    rw [Rs_makeClause_66_eq, hG.gRs, gd_t, hA.1, if_neg (by omega), hC.g hG, gd_t, hG.nd hy, gd_t, gd_t, gd_t, (hC.r hG).2, hEr.g hG, gd_t, (hG.ndr hy).2.2, hG.r754_1, b1, cV_s, hp1.g hG1, gd_t, c1, cV_s]
  | succ t ih =>
    intro i M nm con h1 h2 hG hA hp hX hC
    obtain ⟨M1, b1, b2, b3⟩ := Cl_addVar_s hG hC (1 + (i : Int)) (by show (vsq 1 i).length < 11; rw [vsq_len]; omega)
    have b2 : CLc M1 c (nm, con, vsq 1 i ++ [1 + (i : Int)], []) := b2
    have b2 : CLc M1 c (nm, con, vsq 1 (i + 1), []) := by rw [vsq_s]; exact b2
    have hG1 := hG.fi b3
    have f1 : Fj (fun a _ => c ≤ a ∧ a < c + 4) M M1 := b3.fj fun a j q => by unfold cS at q; omega
    have hp1 : PRc M1 P zs := by
      refine ⟨⟨hp.1.1, (f1.2.2 _ _ (by omega)).trans hp.1.2.1, hp.1.2.2⟩, fun i z hz => ?_⟩
      have hi := (List.getElem?_eq_some_iff.mp hz).1
      exact (hp.2 i z hz).fjo f1 fun a k q => by omega
    obtain ⟨M', a1, a2, a3, a4⟩ := ih (i + 1) M1 nm con (by omega) (by omega) hG1 (hA.fj f1 (by omega) (by omega)) hp1 (hX.ext fun a k q => f1.2.2 a k (by omega)) b2
    refine ⟨M', ?_, a2, a3, (f1.mono fun a j q => Or.inr q).trans a4⟩
    rw [Rs_makeClause_66_eq, hG.gRs, gd_t, hA.1, if_pos (by omega), hC.g hG, gd_t, wr_id (x := 1 + (i : Int)) (by omega) (by omega), b1, cV_s, wr_s (by omega), a1]
/-- what a clause more needs -/
def MK (X : Nat → List Int) (F : FT) (x y : Nat) : Prop := ((sid (X x) (F x 10)).length ≤ 8 ∧ (mka X F x y).length ≤ 11) ∧ (F x 4 = 3 → InR (F y 11) ∧ arN (F y 11) ≤ 4 ∧ 0 ≤ F y 12 ∧ F y 12 < 65536)
theorem PRc.fjo {M M1 : Mem} {zs : List Clz} {S : Nat → Nat → Prop} (h : PRc M P zs) (f : Fj S M M1) (h0 : ∀ a k, pS P a → ¬ S a k) : PRc M1 P zs := h.ext fun a k q => f.2.2 a k (h0 a k q)
theorem Rs_clause_s {M : Mem} {x y : Nat} {C : Nat → List Int} {zs : List Clz} (hP : 772 < P) (hG : Good M) (hR : TRc M X F mk) (hT : TI F mk) (hx : x ∈ lnF F) (hy : y ∈ lnF F) (hX : (X x).length ≤ 40) (h4 : 0 ≤ F x 4 ∧ F x 4 ≤ 6) (h9 : -1 ≤ F x 9 ∧ F x 9 < 120) (hm : MK X F x y) (hp : PRx M P zs) (hl : zs.length < 40) (hC : XE M (34 + 6 * y) 100 (C y) ∧ av (C y)) : ∃ M', Rs_makeClause 754 (30 + 6 * x) (30 + 6 * y) P M = some (none, M') ∧ PRx M' P (zs ++ [mkz X F C x y]) ∧ Good M' ∧ Fj (mzS P) M M' := by
  have hxm := hT.1.2.1 x hx
  have hym := hT.1.2.1 y hy
  have hm120 := hT.1.2.2
  obtain ⟨⟨m1, m2⟩, m3⟩ := hm
  obtain ⟨z0, hz0⟩ := hp.2 zs.length hl
  obtain ⟨M1, a1, a2, a3⟩ := Pr_spareClause_s hG hp.1 hl hz0
  have hG1 := hG.fi a3
  have f1 : Fj (fun a _ => P + 2 + 4 * zs.length ≤ a ∧ a < P + 2 + 4 * zs.length + 4) M M1 := a3.fj fun a j q => by unfold cS at q; omega
  have hR1 := hR.fjo hT f1 fun a j q => by omega
  obtain ⟨M2, b1, b2, b3, b4⟩ := Rs_listArguments_s hG1 hR1 hT hx hX
  have hR2 := hR1.fjo hT b4 fun a j q => by unfold arS; omega
  have hp1 : PRc M1 P zs := by
    refine ⟨⟨hp.1.1.1, (f1.2.2 _ _ (by omega)).trans hp.1.1.2.1, hp.1.1.2.2⟩, fun i z hz => ?_⟩
    have hi := (List.getElem?_eq_some_iff.mp hz).1
    exact (hp.1.2 i z hz).fjo f1 fun a k q => by omega
  have hp2 : PRc M2 P zs := hp1.fjo b4 fun a k q => by unfold pS at q; unfold arS; omega
  have hC2 : CLc M2 (P + 2 + 4 * zs.length) (-1, -1, [], []) := a2.fjo b4 fun a k q => by unfold arS; omega
  have hY2 : XE M2 (34 + 6 * y) 100 (C y) := (hC.1.ext fun a k q => f1.2.2 a k (by omega)).ext fun a k q => b4.2.2 a k (by unfold arS; omega)
  have hp40 : isP P := hp.1.1.1
  have hc1 := hC2.g b3
  have i9 : mI M2 (30 + 6 * x) 9 = F x 9 := (hR2.2.1 x hx).2.1.1 9 (by unfold nf; omega)
  have i4 : mI M2 (30 + 6 * x) 4 = F x 4 := by rw [(hR2.2.1 x hx).2.1.2, if_neg (by omega)]
  have hPc : 0 < P + 2 + 4 * zs.length := by omega
  generalize hc : P + 2 + 4 * zs.length = c at *
  -- the function's name
  generalize hnm : 33554432 + ((sid (X x) (F x 10)).length : Int) * 65536 + (1 + F x 9) = nm at *
  have f3 : Fj (fun a j => a = c ∧ j = 3) M2 (stI M2 c 3 nm) := Fj.ofI ⟨rfl, rfl⟩
  have hC3 := hC2.fun nm
  have hG3 := b3.fj f3
  have hA3 := b2.fj f3 (by omega) (by omega)
  have hp3 : PRc (stI M2 c 3 nm) P zs := ⟨⟨hp2.1.1, (f3.2.2 _ _ (by omega)).trans hp2.1.2.1, hp2.1.2.2⟩, fun i z hz => by
    have hi := (List.getElem?_eq_some_iff.mp hz).1
    exact (hp2.2 i z hz).fjo f3 fun a k q => by omega⟩
  have hR3 := hR2.fjo hT f3 fun a j q => by omega
  have hY3 : XE (stI M2 c 3 nm) (34 + 6 * y) 100 (C y) := hY2.ext fun a k q => f3.2.2 a k (by omega)
  have i43 : mI (stI M2 c 3 nm) (30 + 6 * x) 4 = F x 4 := (f3.2.2 _ _ (by omega)).trans i4
  have i11 : mI (stI M2 c 3 nm) (30 + 6 * y) 11 = F y 11 := (hR3.2.1 y hy).2.1.1 11 (by unfold nf; omega)
  have head : Rs_makeClause 754 (30 + 6 * x) (30 + 6 * y) P M = if F x 4 = 3 then cV (Rs_listLeftVars 754 (30 + 6 * x) (30 + 6 * y) (stI (stI M2 c 3 nm) c 4 (F y 11))) fun M6 => Rs_makeClause_66 754 (30 + 6 * y) P c 0 (some (.inr (30 + 6 * x))) (some (.inl (1 + F x 9))) M6 else Rs_makeClause_66 754 (30 + 6 * y) P c 0 (some (.inr (30 + 6 * x))) (some (.inl (1 + F x 9))) (stI M2 c 3 nm) := by
    rw [Rs_makeClause_eq, hp.1.g hG, gd_t, a1, cR_s, if_neg (by omega), hG1.gRs, gd_t, b1, cV_s, b3.nd (by omega), gd_t, b3.gRs, gd_t, b2.1, i9, wr_id (x := 1 + F x 9) (by omega) (by omega), Ex_cell_s (by decide) (by omega) (by omega), cI_s, show (2 : Int) * 16777216 = 33554432 from rfl, hnm]
    simp only [hc1, gd_t]
    rw [i43]
    simp only [b3.nd (x := y) (by omega), b3.nd (x := x) (by omega), b3.gRs, gd_t, i11]
  have fin : ∀ (M6 : Mem) (con : Int), Good M6 → AR M6 (mka X F x y) → PRc M6 P zs → XE M6 (34 + 6 * y) 100 (C y) → CLc M6 c (nm, con, [], []) → con = (if F x 4 = 3 then F y 11 else -1) → Fj (fun a j => arS a j ∨ (c ≤ a ∧ a < c + 4)) M M6 → ∃ M', Rs_makeClause_66 754 (30 + 6 * y) P c 0 (some (.inr (30 + 6 * x))) (some (.inl (1 + F x 9))) M6 = some (none, M') ∧ PRx M' P (zs ++ [mkz X F C x y]) ∧ Good M' ∧ Fj (mzS P) M M' := by
    intro M6 con g1 g2 g3 g4 g5 g6 g7
    obtain ⟨M', d1, d2, d3, d4⟩ := Rs_clause_loop (c := c) (y := y) hc.symm hP m2 (by omega) hl (some (.inr (30 + 6 * x))) (some (.inl (1 + F x 9))) hC.2 _ 0 M6 nm con rfl (Nat.zero_le _) g1 g2 g3 g4 g5
    have g7' : Fj (mzS P) M M6 := g7.mono fun a j q => q.imp_right fun r => by unfold pS; omega
    refine ⟨M', d1, ⟨?_, fun i hi => ?_⟩, d3, g7'.trans (d4.mono fun a j q => by unfold mzS pS; omega)⟩
    · unfold mkz
      rw [hnm, ← g6]
      exact d2
    · by_cases e : i = zs.length
      · subst e
        have := d2.2 zs.length _ (by rw [List.getElem?_append_right (Nat.le_refl _), Nat.sub_self]; rfl)
        exact ⟨_, this⟩
      · obtain ⟨z, hz⟩ := hp.2 i hi
        exact ⟨z, (hz.fjo g7 fun a k q => by unfold arS; omega).fjo d4 fun a k q => by omega⟩
  have G3 : Fj (fun a j => arS a j ∨ (c ≤ a ∧ a < c + 4)) M (stI M2 c 3 nm) := ((f1.mono (T := fun a j => arS a j ∨ (c ≤ a ∧ a < c + 4)) fun a j q => Or.inr q).trans (b4.mono fun a j q => Or.inl q)).trans (f3.mono fun a j q => Or.inr (by omega))
  rw [head]
  by_cases q : F x 4 = 3
  · obtain ⟨n1, n2, n3, n4⟩ := m3 q
    have f4 : Fj (fun a j => a = c ∧ j = 4) (stI M2 c 3 nm) (stI (stI M2 c 3 nm) c 4 (F y 11)) := Fj.ofI ⟨rfl, rfl⟩
    have hC4 : CLc (stI (stI M2 c 3 nm) c 4 (F y 11)) c (nm, F y 11, [], []) := hC3.con (F y 11)
    have hG4 := hG3.fj f4
    have hR4 := hR3.fjo hT f4 fun a j q => by omega
    have hp4 : PRc (stI (stI M2 c 3 nm) c 4 (F y 11)) P zs := ⟨⟨hp3.1.1, (f4.2.2 _ _ (by omega)).trans hp3.1.2.1, hp3.1.2.2⟩, fun i z hz => by
      have hi := (List.getElem?_eq_some_iff.mp hz).1
      exact (hp3.2 i z hz).fjo f4 fun a k q => by omega⟩
    obtain ⟨cv, hcv⟩ := Int.eq_ofNat_of_zero_le n3
    obtain ⟨M5, e1, e2, e3, e4⟩ := Rs_left_s (n := arN (F y 11)) (cv := cv) hG4 hR4 hT hx hy hX n2 (by omega) n1 (arN_ar _).symm rfl hcv
    rw [if_pos q, e1, cV_s]
    refine fin M5 (F y 11) e3 ?_ (hp4.fjo e4 fun a k q => by unfold pS at q; unfold arS; omega) ((hY3.ext fun a k q => f4.2.2 a k (by omega)).ext fun a k q => e4.2.2 a k (by unfold arS; omega)) (hC4.fjo e4 fun a k q => by unfold arS; omega) (if_pos q).symm ((G3.trans (f4.mono fun a j q => Or.inr (by omega))).trans (e4.mono fun a j q => Or.inl q))
    unfold mka
    rw [if_pos q, hcv, toNat_n]
    exact e2
  · rw [if_neg q]
    refine fin _ (-1) hG3 ?_ hp3 hY3 hC3 (if_neg q).symm G3
    unfold mka
    rw [if_neg q]
    exact hA3
end CLAUSES

/-! ===== the cases of a node: the class ===== -/
theorem stx_len3 {xs : List Int} {at0 m : Nat} {z : Clz} (hl : xs.length ≤ 200) (hm : m ≤ 100) (hz : zok m z) : (stx z xs at0).length ≤ 20200 := by
  have hr := hz.2.2.2.1.2.2
  have h1 := flat_len (f := put1 xs (st0 z at0) z.2.2.1) (n := 200) z.2.2.2 (fun c hc => by
    rcases put1_cases (xs := xs) (at0 := at0) hz hc with e | ⟨-, j, -, e⟩
    · rw [e]; simp
    · rw [e]
      unfold sub
      rw [List.length_take, List.length_drop]
      omega)
  unfold stx
  simp only [List.length_append, List.length_take, List.length_drop]
  by_cases q : sts xs (st0 z at0) z.2.2.1.length ≤ at0
  · -- the rest from behind
    have h2 : at0 ≤ sts xs (st0 z at0) z.2.2.1.length := by unfold sts st0; split <;> omega
    omega
  · omega
def dcS : Nat → Nat → Prop := fun a j => daS a j ∨ (a = 27 ∧ j = 13)
section CASES2
variable {M : Mem} {T : TS} {k P : Nat} {zs : List Clz}
theorem Tr_addCases_loop (hP : 772 < P) (hzs : zsk 100 zs) {xs : List Int} {f blk : Int} {p : Nat} (hw : wf 1 xs) (hv : av xs) (h40 : xs.length ≤ 40) (hb : kd blk = 0) (hcon : ∀ z ∈ zs, z.1 = f → z.2.1 ≠ -1) (hclf : ∀ z ∈ zs, z.1 = f → ∀ fr, fr + 4 < 65536 → CLf (spl xs blk z.2.1 fr) p z) : ∀ (t i : Nat) (T : TS) (M : Mem) (fr : Nat) (d6 : LV), zs.length - i = t → i ≤ zs.length → Good M → TOK T k → CTs M T → T.1 k = xs → T.2.1 k 10 = blk → mI M 27 13 = (fr : Int) → PRc M P zs → mR M 27 6 = P → fr + 4 * t + 20 < 65536 → ∃ M', Tr_addCases_23 27 (30 + 6 * k) (p : Int) f 0 (i : Int) d6 M = some (some (.inl (adL k (spk f blk xs p (zs.drop i) fr) T).1), M') ∧ CTs M' (adL k (spk f blk xs p (zs.drop i) fr) T).2 ∧ ((adL k (spk f blk xs p (zs.drop i) fr) T).1 = 0 → mI M' 27 13 = (spf f (zs.drop i) fr : Nat)) ∧ Good M' ∧ Fq dcS anR M M' := by
  intro t
  induction t with
  | zero =>
    intro i T M fr d6 h1 h2 hG hT hC hxs hbk h13 hp h6 hfr
    rw [List.drop_eq_nil_of_le (by omega), Tr_addCases_23_eq, hG.gT, gd_t, h6, hp.g hG, gd_t, hp.1.2.1, if_neg (by omega)]
    exact ⟨M, rfl, hC, fun _ => h13, hG, Fq.refl⟩
  | succ t ih =>
    intro i T M fr d6 h1 h2 hG hT hC hxs hbk h13 hp h6 hfr
    obtain ⟨hk1, hk2, hk3⟩ := hT.k
    have hi : i < zs.length := by omega
    have hzl := hp.1.2.2
    have hg : zs[i]? = some zs[i] := List.getElem?_eq_getElem hi
    have hzm := List.mem_of_getElem? hg
    have hCl := hp.2 i _ hg
    have hzk := hzs _ hzm
    rw [List.drop_eq_getElem_cons hi]
    have hci := hcon _ hzm
    have hcf := hclf _ hzm
    generalize zs[i] = z at *
    rw [Tr_addCases_23_eq, hG.gT, gd_t, h6, hp.g hG, gd_t, hp.1.2.1, if_pos (by omega), if_pos rfl, gd_t, gd_t, Pr_clauseAt_s hG hp, cR_s, if_pos (show (0 : Int) ≤ (i : Int) ∧ (i : Int) < (zs.length : Int) from ⟨by omega, by omega⟩), toNat_n, if_neg (show ¬ P + 2 + 4 * i = 0 by omega), hCl.g hG, gd_t, hCl.1.2.1]
    unfold spk spf
    by_cases hzf : z.1 = f
    · rw [if_pos hzf, if_pos hzf, if_pos hzf]
      have hcn := hci hzf
      obtain ⟨c1, c2⟩ := hzk.2.1.resolve_left hcn
      have hal := arN_ar z.2.1
      have hn4 : arN z.2.1 ≤ 4 := by have := (c1.2.2.1 c2).1; omega
      obtain ⟨s1, s2, s3⟩ := spl_ok (fr := fr) hw hv hb c1 hn4 (by omega)
      have hF := hcf hzf fr (by omega)
      obtain ⟨-, hst, -⟩ := hF.all hzk
      have hND := hC.1.2.1 k hk1
      have hX := hND.1.1
      rw [hxs] at hX
      have h10 : mI M (30 + 6 * k) 10 = blk := (hND.2.1.1 10 (by unfold nf; omega)).trans hbk
      have hC' := hC
      obtain ⟨-, ⟨us, hm⟩, us2, hp2⟩ := hC'
      obtain ⟨M1, a1, a2, a3, a4⟩ := Tr_fillSplit_s (by omega) c1 hn4 (by omega) hG hX h10 h13 hp2
      have F1q : Fq (fun a _ => eS 750 a) nor M M1 := (a4.fj (T := fun a _ => eS 750 a) fun a j q => q).fq fun a j q => q
      have hCl1 : CLc M1 (P + 2 + 4 * i) z := hCl.fi a4 fun a q => by unfold cS at q; unfold eS; omega
      have hm1 : XE M1 752 20480 us := hm.fi a4 (by unfold eS; omega) (by unfold eS; omega)
      have hsl := stx_len3 (at0 := p) (show (spl xs blk z.2.1 fr).length ≤ 200 by omega) (Nat.le_refl _) hzk
      obtain ⟨M2, b1, b2, b3, b4, b5⟩ := Ru_makeStep_s (e1 := 750) (e2 := 752) (n1 := 256) (n2 := 20480) (c := P + 2 + 4 * i) (by decide) (by decide) (by omega) (by decide) (by omega) (by omega) s2 hzk hst a3 a2 hm1 hCl1 (by omega)
      have hG2 := a3.fj b5
      have F2q : Fq (fun a _ => a = 22 ∨ (750 ≤ a ∧ a < 754)) nor M M2 := (F1q.mono (fun a j q => by unfold eS at q; omega) fun a j q => q).trans (b5.fq fun a j q => by omega)
      have hC2 : CTs M2 T := ⟨hC.1.fq hT.1 F2q (by omega) (fun a j _ q => q), ⟨_, b3⟩, _, b2⟩
      obtain ⟨M3, d1, d2, d3, d4, d5⟩ := Tr_addMade_s hG2 hT hC2 (x := (stx z (spl xs blk z.2.1 fr) p, -1, -1)) ⟨rfl, rfl⟩ (stx_av s2 hzk) b3
      have F3 : Fq dcS anR M M3 := (F2q.mono (T := dcS) (U := anR) (fun a j q => by unfold dcS daS; omega) fun a j q => q.elim).trans (d5.mono (fun a j q => by unfold anS at q; unfold dcS daS; omega) fun a j q => q)
      have hCl2 : CLc M2 (P + 2 + 4 * i) z := b4
      have hz4 : mI M1 (P + 2 + 4 * i) 4 = z.2.1 := hCl1.1.2.2
      rw [gd_t, hG.gT, gd_t, hCl.1.2.2, a1, cV_s, a3.gT, gd_t, gd_t, gd_t, a3.r27_0, a3.gRu, gd_t, a3.r27_4, a3.r27_5, b1, cV_s, hG2.gT, gd_t, gd_t, hG2.r27_5, d1, cI_s]
      unfold adL
      have hp3 : PRc M3 P zs := hp.ext fun a j q => F3.2.2 a j (by unfold pS at q; unfold dcS daS; omega)
      have h63 : mR M3 27 6 = P := (F3.2.1 _ _ (by unfold anR; omega)).trans h6
      have hi3 : ∀ (a j : Nat), (a = 27 ∧ j = 13) → mI M3 a j = mI M a j := fun a j q => (d5.2.2 _ _ (by unfold anS; omega)).trans (F2q.2.2 _ _ (by omega))
      have hCl3 : CLc M3 (P + 2 + 4 * i) z := hp3.2 i _ hg
      have h4 : mI M3 (P + 2 + 4 * i) 4 = z.2.1 := hCl3.1.2.2
      have ends : ∀ (v : Int) (M' : Mem) (d : LV), Good M' → PRc M' P zs → mR M' 27 6 = P → ¬ v = 0 → Tr_addCases_23 27 (30 + 6 * k) (p : Int) f v ((i + 1 : Nat) : Int) d M' = some (some (.inl v), M') := by
        intro v M' d g1 g2 g3 g4
        rw [Tr_addCases_23_eq, g1.gT, gd_t, g3, g2.g g1, gd_t, if_neg g4]
        split <;> rfl
      have h133 : mI M3 27 13 = (fr : Int) := (hi3 27 13 ⟨rfl, rfl⟩).trans h13
      have eaf : wr ((fr : Int) + ar z.2.1) = ((fr + arN z.2.1 : Nat) : Int) := by rw [wr_id (by omega) (by omega)]; omega
      have fail : ∀ v : Int, ¬ v = 0 → ∃ M', (if v = 0 then gd (gO M3 (30 + 6 * k) 4) (some (none, M3) : Res) else gd (gO M3 27 9) (gd (gO M3 (P + 2 + 4 * i) 1) (cI (Ex_arity (mI M3 (P + 2 + 4 * i) 4) M3) fun r12 M11 => gd (gO M11 27 9) (Tr_addCases_23 27 (30 + 6 * k) (p : Int) f v (wr ((i : Int) + 1)) (some (.inr (P + 2 + 4 * i))) (stI M11 27 13 (wr ((mI M3 27 13) + r12))))))) = some (some (.inl v), M') ∧ M' = stI M3 27 13 ((fr + arN z.2.1 : Nat) : Int) := by
        intro v hv0
        have f4 : Fj (fun a j => a = 27 ∧ j = 13) M3 (stI M3 27 13 ((fr + arN z.2.1 : Nat) : Int)) := Fj.ofI ⟨rfl, rfl⟩
        rw [if_neg hv0, d4.gT, gd_t, hCl3.g d4, gd_t, h4, Ex_arity_s c1.inR, cI_s, d4.gT, gd_t, h133, eaf, wr_s (by omega), ends v _ _ (d4.fj f4) (hp3.fj f4 fun a k q => by unfold pS at q; omega) h63 hv0]
        exact ⟨_, rfl, rfl⟩
      have failC : ∀ {T' : TS}, TI T'.2.1 T'.2.2 → CTs M3 T' → CTs (stI M3 27 13 ((fr + arN z.2.1 : Nat) : Int)) T' ∧ Good (stI M3 27 13 ((fr + arN z.2.1 : Nat) : Int)) ∧ Fq dcS anR M (stI M3 27 13 ((fr + arN z.2.1 : Nat) : Int)) := by
        intro T' hT' hC'
        have f4 : Fj (fun a j => a = 27 ∧ j = 13) M3 (stI M3 27 13 ((fr + arN z.2.1 : Nat) : Int)) := Fj.ofI ⟨rfl, rfl⟩
        exact ⟨hC'.fq hT' (R := nor) (f4.fq fun a j q => q) (by omega) (fun a j _ q => q), d4.fj f4, F3.trans (f4.fq fun a j q => by unfold dcS; omega)⟩
      by_cases h1' : 40 < (stx z (spl xs blk z.2.1 fr) p).length
      · simp only [if_pos h1'] at d2 ⊢
        obtain ⟨M', e1, e2⟩ := fail (-3) (by decide)
        rw [if_neg (show ¬ (-3 : Int) = 0 by decide)] at e1 ⊢
        subst e2
        obtain ⟨e3, e4, e5⟩ := failC hT.1 d2
        exact ⟨_, e1, e3, fun q => absurd q (by decide), e4, e5⟩
      · simp only [if_neg h1'] at d2 ⊢
        by_cases h2' : 120 ≤ T.2.2
        · simp only [if_pos h2'] at d2 ⊢
          obtain ⟨M', e1, e2⟩ := fail (-2) (by decide)
          rw [if_neg (show ¬ (-2 : Int) = 0 by decide)] at e1 ⊢
          subst e2
          obtain ⟨e3, e4, e5⟩ := failC hT.1 d2
          exact ⟨_, e1, e3, fun q => absurd q (by decide), e4, e5⟩
        · simp only [if_neg h2'] at d2 ⊢
          have hTm := hT.add (stx z (spl xs blk z.2.1 fr) p, -1, -1) ⟨stx_wf s1 hF hzk, stx_av s2 hzk⟩ h1' (by omega)
          have hTn := hT.add (stx z (spl xs blk z.2.1 fr) p, z.2.1, (fr : Int)) ⟨stx_wf s1 hF hzk, stx_av s2 hzk⟩ h1' (by omega)
          have hND3 := d2.1.2.1 k hTm.k.1
          have hfk := hTm.2.1.1.2
          have e8 : (adT k T (stx z (spl xs blk z.2.1 fr) p, -1, -1)).2.1 k 8 = T.2.1 k 8 + 1 := adF_k8 (by omega)
          have t8 := (hT.1.2.1 k hk1).1
          have hkc : 0 < nkc (adT k T (stx z (spl xs blk z.2.1 fr) p, -1, -1)).2.1 k := by unfold nkc; rw [e8]; omega
          have hfk2 : nfk (adT k T (stx z (spl xs blk z.2.1 fr) p, -1, -1)).2.1 k + nkc (adT k T (stx z (spl xs blk z.2.1 fr) p, -1, -1)).2.1 k = T.2.2 + 1 := hfk hkc
          have r17 : mR M3 (30 + 6 * k) 17 = 30 + 6 * T.2.2 := by
            rw [hND3.2.2.2.1.2, e8, if_neg (by omega)]
            omega
          have hm120 : T.2.2 < 120 := by omega
          have hA := (d2.1.setI hTm.1 (m := T.2.2) (f := 11) (v := z.2.1) hm120 (by omega))
          have fA : Fj (fun a j => a = 30 + 6 * T.2.2 ∧ j = 11) M3 (stI M3 (30 + 6 * T.2.2) 11 z.2.1) := Fj.ofI ⟨rfl, rfl⟩
          have hGA := d4.fj fA
          have hTA : TI (upF (adT k T (stx z (spl xs blk z.2.1 fr) p, -1, -1)).2.1 T.2.2 11 z.2.1) (T.2.2 + 1) := (hTm.1.upd fun x g hg => upF_ne (by omega)).1
          have hB := hA.setI hTA (m := T.2.2) (f := 12) (v := (fr : Int)) hm120 (by omega)
          have fB : Fj (fun a j => a = 30 + 6 * T.2.2 ∧ j = 12) (stI M3 (30 + 6 * T.2.2) 11 z.2.1) (stI (stI M3 (30 + 6 * T.2.2) 11 z.2.1) (30 + 6 * T.2.2) 12 (fr : Int)) := Fj.ofI ⟨rfl, rfl⟩
          have hGB := hGA.fj fB
          have fC : Fj (fun a j => a = 27 ∧ j = 13) (stI (stI M3 (30 + 6 * T.2.2) 11 z.2.1) (30 + 6 * T.2.2) 12 (fr : Int)) (stI (stI (stI M3 (30 + 6 * T.2.2) 11 z.2.1) (30 + 6 * T.2.2) 12 (fr : Int)) 27 13 ((fr + arN z.2.1 : Nat) : Int)) := Fj.ofI ⟨rfl, rfl⟩
          have hGC := hGB.fj fC
          have FAC : Fj (fun a j => (a = 30 + 6 * T.2.2 ∧ (j = 11 ∨ j = 12)) ∨ (a = 27 ∧ j = 13)) M3 (stI (stI (stI M3 (30 + 6 * T.2.2) 11 z.2.1) (30 + 6 * T.2.2) 12 (fr : Int)) 27 13 ((fr + arN z.2.1 : Nat) : Int)) := ((fA.mono fun a j q => by omega).trans (fB.mono fun a j q => by omega)).trans (fC.mono fun a j q => by omega)
          have hTR : TRc (stI (stI M3 (30 + 6 * T.2.2) 11 z.2.1) (30 + 6 * T.2.2) 12 (fr : Int)) (adT k T (stx z (spl xs blk z.2.1 fr) p, z.2.1, (fr : Int))).1 (adT k T (stx z (spl xs blk z.2.1 fr) p, z.2.1, (fr : Int))).2.1 (T.2.2 + 1) := by
            have e : (adT k T (stx z (spl xs blk z.2.1 fr) p, z.2.1, (fr : Int))).2.1 = upF (upF (adT k T (stx z (spl xs blk z.2.1 fr) p, -1, -1)).2.1 T.2.2 11 z.2.1) T.2.2 12 (fr : Int) := upF_cong (by omega)
            rw [e]
            exact hB
          have hCC : CTs (stI (stI (stI M3 (30 + 6 * T.2.2) 11 z.2.1) (30 + 6 * T.2.2) 12 (fr : Int)) 27 13 ((fr + arN z.2.1 : Nat) : Int)) (adT k T (stx z (spl xs blk z.2.1 fr) p, z.2.1, (fr : Int))) := by
            obtain ⟨-, ⟨ys1, hy1⟩, ys2, hy2⟩ := d2
            exact ⟨hTR.fq hTn.1 (R := nor) (fC.fq fun a j q => q) (by omega) (fun a j _ q => q), ⟨ys1, hy1.fj FAC (by omega) (by omega)⟩, ys2, hy2.fj FAC (by omega) (by omega)⟩
          have hpC : PRc (stI (stI (stI M3 (30 + 6 * T.2.2) 11 z.2.1) (30 + 6 * T.2.2) 12 (fr : Int)) 27 13 ((fr + arN z.2.1 : Nat) : Int)) P zs := hp3.fj FAC fun a k q => by unfold pS at q; omega
          obtain ⟨M5, e1, e2, e3, e4, e5⟩ := ih (i + 1) (adT k T (stx z (spl xs blk z.2.1 fr) p, z.2.1, (fr : Int))) _ (fr + arN z.2.1) (some (.inr (P + 2 + 4 * i))) (by omega) (by omega) hGC hTn hCC (by rw [adT_X hk2]; exact hxs) (by
            show adF T.2.1 k T.2.2 z.2.1 (fr : Int) k 10 = blk
            rw [adF_old (by omega) (by omega)]
            exact hbk) mI_at hpC h63 (by omega)
          have hCl4 : mI (stI M3 (30 + 6 * T.2.2) 11 z.2.1) 27 13 = (fr : Int) := by rw [mI_ne (by omega)]; exact h133
          have hCl5 : mI (stI (stI M3 (30 + 6 * T.2.2) 11 z.2.1) (30 + 6 * T.2.2) 12 (fr : Int)) (P + 2 + 4 * i) 4 = z.2.1 := by rw [mI_ne (by omega), mI_ne (by omega)]; exact h4
          have h13B : mI (stI (stI M3 (30 + 6 * T.2.2) 11 z.2.1) (30 + 6 * T.2.2) 12 (fr : Int)) 27 13 = (fr : Int) := by rw [mI_ne (by omega)]; exact hCl4
          rw [if_pos trivial, d4.nd (by omega), gd_t, r17, if_neg (by omega), gd_t, hCl3.g d4, gd_t, d4.nd hm120, gd_t, gd_t, d4.gT, gd_t, gd_t, gd_t, gd_t, h4, hCl4, hCl5, Ex_arity_s c1.inR, cI_s, hGB.gT, gd_t, h13B, eaf, wr_s (by omega), e1]
          refine ⟨M5, rfl, e2, e3, e4, (F3.trans (FAC.fq fun a j q => by unfold dcS daS; omega)).trans e5⟩
    · rw [if_neg hzf, if_neg hzf, if_neg hzf, wr_s (by omega)]
      exact ih (i + 1) T M fr _ (by omega) (by omega) hG hT hC hxs hbk h13 hp h6 (by omega)
end CASES2

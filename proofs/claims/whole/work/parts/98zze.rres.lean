/-! ===== the reference: whether the functions fit; all comings ===== -/
theorem flt_ne1 {b : Int} : ∀ l : List Int, l.Nodup → b ∈ l → (l.filter fun v => decide (v ≠ b)).length + 1 = l.length := by
  intro l
  induction l with
  | nil => intro _ h; cases h
  | cons a l ih =>
    intro hn hb
    obtain ⟨n1, n2⟩ := List.nodup_cons.mp hn
    by_cases q : a = b
    · subst q
      have e : (l.filter fun v => decide (v ≠ a)) = l := List.filter_eq_self.mpr fun v hv => by
        rw [decide_eq_true_eq]
        exact fun z => n1 (z ▸ hv)
      rw [List.filter_cons, decide_eq_false (fun h => h rfl), if_neg (by decide), e, List.length_cons]
    · rw [List.filter_cons, decide_eq_true q, if_pos rfl, List.length_cons, List.length_cons, ih n2 ((List.mem_cons.mp hb).resolve_left fun z => q z.symm)]
section RRES
variable {T : TS} {zs : List Clz}
theorem sid_ord {M : Mem} {x : Nat} (hv : av (T.1 x)) (hB : BLm M T x) : (sid (T.1 x) (T.2.1 x 10)).length = (ord (T.1 x)).length := by
  unfold sid
  by_cases q : T.2.1 x 4 = 3
  · obtain ⟨⟨b1, b2⟩, -⟩ := hB.1 q
    have h0 := (hv _ b1).1
    have := flt_ne1 (b := T.2.1 x 10) (ord (T.1 x)) (ord_nodup _) (ord_mem.mpr ⟨b1, b2⟩)
    rw [if_neg (by omega)]
    unfold oth
    rw [List.length_append, List.length_singleton]
    omega
  · rw [hB.2 q, if_pos rfl, oth_all hv, List.nil_append]
theorem M_breaks_any {M : Mem} (hG : Good M) (v : Int) : M_breaks 1269 v M = some (some (.inl 0), if mI M 1269 76 = 0 then stI M 1269 76 v else M) := by
  rw [M_breaks_eq, hG.gM, gd_t]
  by_cases q : mI M 1269 76 = 0
  · rw [if_pos q, if_pos q, gd_t]
  · rw [if_neg q, if_neg q]
def rvS : Nat → Nat → Prop := fun a j => a = 1297 ∨ a = 1302 ∨ a = 1303 ∨ (1324 ≤ a ∧ a ≤ 1325) ∨ a = 1327 ∨ (a = 1269 ∧ (j = 43 ∨ j = 56 ∨ j = 76 ∨ j = 91))
theorem re_rz {a j : Nat} (q : rzS a j) : ¬ rvS a j := by unfold rzS at q; unfold rvS; omega
theorem co_re {k a j : Nat} (q : cvS k a j) : rvS a j := by unfold cvS at q; unfold rvS; omega
theorem M_fit_loop (hT : TI T.2.1 T.2.2) (hX : XOK T.1 T.2.1) (hN : ∀ y ∈ lnF T.2.1, NS zs T.1 (F2of T.2.1) y) (hFn : ∀ y ∈ lnF T.2.1, F2of T.2.1 y 9 ≠ -1 ↔ isFn (nuF T.2.1 (lnF T.2.1)) y) : ∀ (B A : List Nat) (M : Mem) (f c m : Nat) (d3 : LV), lnF T.2.1 = A ++ B → Good M → RZm M T → c ≤ 120 * A.length → mI M 1269 76 = (if 8 < m then -4 else 0) → ∃ M' d3', M_layResidue_4 1269 (c : Int) (A.length : Int) d3 M = M_layResidue_87 1269 (((lnF T.2.1).length : Int) - 1) (some (.inl ((nmf T.1 (nuF T.2.1 (lnF T.2.1)) B f c m).2.1 : Int))) d3' M' ∧ mI M' 1269 76 = nst (nmf T.1 (nuF T.2.1 (lnF T.2.1)) B f c m).2.1 (nmf T.1 (nuF T.2.1 (lnF T.2.1)) B f c m).2.2 ∧ RZm M' T ∧ Good M' ∧ Fj rvS M M' := by
  have hm := hT.1.2.2
  have hlen := hT.len
  intro B
  induction B with
  | nil =>
    intro A M f c m d3 hL hG hZ hc h76
    rw [List.append_nil] at hL
    have h84 := hZ.2.1.1
    have e : nmf T.1 (nuF T.2.1 (lnF T.2.1)) [] f c m = (f, c, m) := rfl
    have hlt : (lnF T.2.1).length = A.length := by rw [hL]
    rw [e]
    show ∃ M' d3', _ = M_layResidue_87 1269 (((lnF T.2.1).length : Int) - 1) (some (.inl (c : Int))) d3' M' ∧ mI M' 1269 76 = nst c m ∧ _
    unfold nst
    rw [M_layResidue_4_eq, hG.gM, gd_t, h84, if_neg (by omega)]
    by_cases q : 40 < c
    · have hG1 : Good (if mI M 1269 76 = 0 then stI M 1269 76 (-5) else M) := by
        split
        · exact hG.fj (Fj.ofI (S := fun _ _ => True) trivial)
        · exact hG
      have F1 : Fj rvS M (if mI M 1269 76 = 0 then stI M 1269 76 (-5) else M) := by
        split
        · exact Fj.ofI (by unfold rvS; omega)
        · exact Fj.refl
      have i84 : mI (if mI M 1269 76 = 0 then stI M 1269 76 (-5) else M) 1269 84 = ((lnF T.2.1).length : Int) := (F1.2.2 _ _ (by unfold rvS; omega)).trans h84
      have i76 : mI (if mI M 1269 76 = 0 then stI M 1269 76 (-5) else M) 1269 76 = if 8 < m then -4 else -5 := by
        rw [h76]
        by_cases z : 8 < m
        · rw [if_pos z, if_pos z, if_neg (by decide), h76, if_pos z]
        · rw [if_neg z, if_neg z, if_pos rfl, mI_at]
      rw [if_pos (by omega), gd_t, M_breaks_any hG, cI_s, hG1.gM, gd_t, i84, wr_id (x := ((lnF T.2.1).length : Int) - 1) (by omega) (by omega), if_pos q]
      exact ⟨_, d3, rfl, i76, hZ.fjo F1 fun a j q => re_rz q, hG1, F1⟩
    · rw [if_neg (by omega), gd_t, wr_id (x := ((lnF T.2.1).length : Int) - 1) (by omega) (by omega), if_neg q]
      exact ⟨M, d3, rfl, h76, hZ, hG, Fj.refl⟩
  | cons x B ih =>
    intro A M f c m d3 hL hG hZ hc h76
    have hll : (lnF T.2.1).length = A.length + (B.length + 1) := by rw [hL]; simp
    have hxL : x ∈ lnF T.2.1 := by rw [hL]; simp
    have hxm := hT.1.2.1 x hxL
    obtain ⟨e1, e2, e3⟩ := hX x hxL
    have hl1 : (A ++ [x]).length = A.length + 1 := by simp
    obtain ⟨⟨hR, hQ⟩, ⟨h84, h85⟩, hNB, hDP, hFN⟩ := hZ
    have hZ : RZm M T := ⟨⟨hR, hQ⟩, ⟨h84, h85⟩, hNB, hDP, hFN⟩
    have i20 := (hNB A.length x (by rw [hL]; simp)).1
    have i23 : mI M 1323 x = F2of T.2.1 x 9 := hFN x hxL
    have g20 : gS M 1320 0 (A.length : Int) = true := hG.tgS (arr_nb (by decide)) (by omega) (by omega)
    have g23 : gS M 1323 0 (x : Int) = true := hG.tgS (arr_nb (by decide)) (by omega) (by omega)
    have h4n : nuF T.2.1 (lnF T.2.1) x 4 = T.2.1 x 4 := nuF_ne _ _ _ _ (by decide)
    have hkn : nkc (nuF T.2.1 (lnF T.2.1)) x = nkc T.2.1 x := by unfold nkc; rw [nuF_ne _ _ _ _ (by decide)]
    unfold nmf
    by_cases q : isFn (nuF T.2.1 (lnF T.2.1)) x
    · have q9 := (hFn x hxL).mpr q
      have h23 : T.2.1 x 4 = 2 ∨ T.2.1 x 4 = 3 := by
        unfold isFn at q
        rw [h4n] at q
        rcases q with q | q
        · exact Or.inr q
        · exact Or.inl q.1
      have hB := BLm_of (hN x hxL) hQ hxm h23
      have hso := sid_ord e2 hB
      obtain ⟨M1, a1, a2, a3, a4⟩ := M_laySides_s hG hT hX hR hxL hB
      have n91 := a2.1
      rw [hso] at n91
      have F1 : Fj rvS M M1 := a4.mono fun a j q => by unfold sdS at q; unfold rvS; omega
      have i76 : mI M1 1269 76 = (if 8 < m then -4 else 0) := (a4.2.2 _ _ (by unfold sdS; omega)).trans h76
      -- how many CLAUSES
      have hkc : nkc T.2.1 x ≤ 120 := by
        by_cases z : 0 < nkc T.2.1 x
        · have := hT.1.2.1 _ (hT.kid hxL (j := nkc T.2.1 x - 1) (by omega))
          omega
        · omega
      have hT8 := (hT.2.1 x hxL).1
      have h8 : T.2.1 x 8 = (nkc T.2.1 x : Int) := by unfold nkc; omega
      have hcl : ∀ M2 : Mem, Good M2 → RT M2 T → M_clausesOf 1269 (x : Int) M2 = some (some (.inl (nkc T.2.1 x : Int)), M2) := by
        intro M2 g1 g2
        obtain ⟨-, -, ⟨s5, -⟩, s7, -⟩ := g2.2 x hxL
        rw [M_clausesOf_eq, g1.gM, gd_t, g1.m69, g1.tgS (arr_nd (by decide)) (by omega) (by omega), gd_t, toNat_n, s7]
        by_cases z : T.2.1 x 4 = 3
        · rw [if_pos z, gd_t, g1.m67, g1.tgS (arr_nd (by decide)) (by omega) (by omega), gd_t, s5, h8]
        · have h1k : nkc T.2.1 x = 1 := by
            have hNx := hN x hxL
            unfold NS at hNx
            rw [F2_eq _ _ _ (by decide) (by decide)] at hNx
            rcases hNx with h | h | h | h | h | h | h
            · omega
            · omega
            · have := h.2.2.nkc
              rw [F2_nkc] at this
              exact this
            · omega
            · omega
            · omega
            · omega
          rw [if_neg z, h1k]
          rfl
      have hR1 : RT M1 T := hR.fjo a4 fun a j q => by unfold sdS; omega
      have head : ∃ M2, M_layResidue_4 1269 (c : Int) (A.length : Int) d3 M = M_layResidue_4 1269 ((c + nkc T.2.1 x : Nat) : Int) ((A.length + 1 : Nat) : Int) (some (.inl (x : Int))) M2 ∧ mI M2 1269 76 = (if 8 < (if m < (ord (T.1 x)).length then (ord (T.1 x)).length else m) then -4 else 0) ∧ Good M2 ∧ Fj rvS M M2 := by
        rw [M_layResidue_4_eq, hG.gM, gd_t, h84, if_pos (by omega), gd_t, hG.m80, g20, gd_t, gd_t, toNat_n, i20, hG.m83, g23, gd_t, toNat_n, i23, if_neg q9, gd_t, a1, cV_s, a3.gM, gd_t, n91, wr_s (by omega)]
        by_cases z : 8 < (ord (T.1 x)).length
        · have hG2 : Good (if mI M1 1269 76 = 0 then stI M1 1269 76 (-4) else M1) := by
            split
            · exact a3.fj (Fj.ofI (S := fun _ _ => True) trivial)
            · exact a3
          have F2 : Fj rvS M1 (if mI M1 1269 76 = 0 then stI M1 1269 76 (-4) else M1) := by
            split
            · exact Fj.ofI (by unfold rvS; omega)
            · exact Fj.refl
          have j76 : mI (if mI M1 1269 76 = 0 then stI M1 1269 76 (-4) else M1) 1269 76 = -4 := by
            rw [i76]
            by_cases w : 8 < m
            · rw [if_pos w, if_neg (by decide), i76, if_pos w]
            · rw [if_neg w, if_pos rfl, mI_at]
          refine ⟨(if mI M1 1269 76 = 0 then stI M1 1269 76 (-4) else M1), ?_, ?_, hG2, F1.trans F2⟩
          · rw [if_pos (by omega), gd_t, M_breaks_any a3, cI_s, hG2.gM, gd_t, hcl _ hG2 (hR1.fjo F2 fun a j q => by unfold rvS; omega), cI_s, wr_id (x := (c : Int) + (nkc T.2.1 x : Int)) (by omega) (by omega), show (c : Int) + (nkc T.2.1 x : Int) = ((c + nkc T.2.1 x : Nat) : Int) by omega]
          · rw [j76, if_pos]
            split <;> omega
        · refine ⟨M1, ?_, ?_, a3, F1⟩
          · rw [if_neg (by omega), gd_t, hcl _ a3 hR1, cI_s, wr_id (x := (c : Int) + (nkc T.2.1 x : Int)) (by omega) (by omega), show (c : Int) + (nkc T.2.1 x : Int) = ((c + nkc T.2.1 x : Nat) : Int) by omega]
          · rw [i76]
            by_cases w : m < (ord (T.1 x)).length
            · rw [if_pos w, if_neg (by omega), if_neg (by omega)]
            · rw [if_neg w]
      obtain ⟨M2, b1, b2, b3, b4⟩ := head
      obtain ⟨M', d3', c1, c2, c3, c4, c5⟩ := ih (A ++ [x]) M2 (f + 1) (c + nkc T.2.1 x) (if m < (ord (T.1 x)).length then (ord (T.1 x)).length else m) (some (.inl (x : Int))) (by rw [hL]; simp) b3 (hZ.fjo b4 fun a j q => re_rz q) (by rw [hl1]; omega) b2
      rw [hl1] at c1
      rw [b1, if_pos q, hkn]
      exact ⟨M', d3', c1, c2, c3, c4, b4.trans c5⟩
    · have q9 : F2of T.2.1 x 9 = -1 := by
        by_cases z : F2of T.2.1 x 9 = -1
        · exact z
        · exact absurd ((hFn x hxL).mp z) q
      obtain ⟨M', d3', c1, c2, c3, c4, c5⟩ := ih (A ++ [x]) M f c m (some (.inl (x : Int))) (by rw [hL]; simp) hG hZ (by rw [hl1]; omega) h76
      rw [hl1] at c1
      rw [M_layResidue_4_eq, hG.gM, gd_t, h84, if_pos (by omega), gd_t, hG.m80, g20, gd_t, gd_t, toNat_n, i20, hG.m83, g23, gd_t, toNat_n, i23, if_pos q9, wr_s (by omega), if_neg q]
      exact ⟨M', d3', c1, c2, c3, c4, c5⟩
theorem M_comings_loop (hzs : zsk 100 zs) (hT : TI T.2.1 T.2.2) (hX : XOK T.1 T.2.1) (hV : FVL T.2.1) (hN : ∀ y ∈ lnF T.2.1, NS zs T.1 (F2of T.2.1) y) (hK : ∀ y ∈ lnF T.2.1, RK T.1 (F2of T.2.1) y ∧ (F2of T.2.1 y 9 ≠ -1 ↔ isFn (nuF T.2.1 (lnF T.2.1)) y)) (d1 d3 : LV) : ∀ (R D : List Nat) (M : Mem) (C : Nat → List Int), lnF T.2.1 = R.reverse ++ D → Good M → RZm M T → mI M 1269 76 = 0 → (∀ y ∈ D, CMm M y (C y) ∧ cok T.1 C y) → ∃ M', ((cmg T.1 (F2of T.2.1) R C).1 = 0 → M_layResidue_87 1269 ((R.length : Int) - 1) d1 d3 M = M_layResidue_87 1269 (-1) d1 d3 M' ∧ mI M' 1269 76 = 0 ∧ ∀ y ∈ lnF T.2.1, CMm M' y ((cmg T.1 (F2of T.2.1) R C).2 y) ∧ cok T.1 (cmg T.1 (F2of T.2.1) R C).2 y) ∧ ((cmg T.1 (F2of T.2.1) R C).1 ≠ 0 → M_layResidue_87 1269 ((R.length : Int) - 1) d1 d3 M = some (none, M') ∧ mI M' 1269 76 = (cmg T.1 (F2of T.2.1) R C).1) ∧ RZm M' T ∧ Good M' ∧ Fj rvS M M' := by
  have hm := hT.1.2.2
  have hlen := hT.len
  intro R
  induction R with
  | nil =>
    intro D M C hL hG hZ h76 hD
    exact ⟨M, fun _ => ⟨rfl, h76, fun y hy => hD y (by rw [hL] at hy; exact hy)⟩, fun h => absurd rfl h, hZ, hG, Fj.refl⟩
  | cons x R ih =>
    intro D M C hL hG hZ h76 hD
    have hL2 : lnF T.2.1 = R.reverse ++ x :: D := by rw [hL, List.reverse_cons, List.append_assoc]; rfl
    have hx : x ∈ lnF T.2.1 := by rw [hL2]; simp
    have hxm := hT.1.2.1 x hx
    have hll : (lnF T.2.1).length = R.length + (D.length + 1) := by rw [hL2]; simp
    have hkd : ∀ i, i < nkc T.2.1 x → nfk T.2.1 x + i ∈ D := fun i hi => hT.after hL2 hi
    obtain ⟨M1, a1, ⟨a2, a3⟩, a4, a5⟩ := M_layComes_s (C := C) hG hT hX hZ hx hN hK hV (fun i hi => ⟨(hD _ (hkd i hi)).1, (hD _ (hkd i hi)).2.1.2⟩) h76
    have hok := cmo_ok (C := C) hzs (hX x hx) (hN x hx) (hK x hx).1 (fun i hi => by
      rw [F2_nkc] at hi
      rw [F2_nfk]
      exact (hD _ (hkd i hi)).2)
    have i20 := (hZ.2.2.1 R.length x (by rw [hL2, List.getElem?_append_right (by rw [List.length_reverse]; omega), List.length_reverse, Nat.sub_self]; rfl)).1
    have head : M_layResidue_87 1269 (((x :: R).length : Int) - 1) d1 d3 M = M_layResidue_87 1269 ((R.length : Int) - 1) d1 d3 M1 := by
      rw [show (((x :: R).length : Nat) : Int) - 1 = ((R.length : Nat) : Int) by rw [List.length_cons]; omega, M_layResidue_87_eq, if_neg (by omega), hG.gM, gd_t, if_pos h76, gd_t, hG.m80, hG.tgS (arr_nb (by decide)) (by omega) (by omega), gd_t, gd_t, toNat_n, i20, a1, cV_s, wr_id (x := (R.length : Int) + (-1)) (by omega) (by omega)]
      rfl
    have F1 : Fj rvS M M1 := a5.mono fun a j q => co_re q
    have hZ1 := hZ.fjo F1 fun a j q => re_rz q
    rw [head]
    unfold cmg
    by_cases q : 100 < (cmo T.1 (F2of T.2.1) C x).length
    · have n76 := a2 q
      rw [if_pos q]
      refine ⟨M1, fun h => absurd (show (-6 : Int) = 0 from h) (by decide), fun _ => ⟨?_, n76⟩, hZ1, a4, F1⟩
      have n0 : ¬ mI M1 1269 76 = 0 := by rw [n76]; decide
      by_cases g : (R.length : Int) - 1 < 0
      · rw [M_layResidue_87_eq, if_pos g, a4.gM, gd_t, if_neg n0]
      · rw [M_layResidue_87_eq, if_neg g, a4.gM, gd_t, if_neg n0, gd_t, if_neg n0]
    · obtain ⟨b1, b2⟩ := a3 q
      rw [if_neg q]
      obtain ⟨M', c1, c2, c3, c4, c5⟩ := ih (x :: D) M1 (upX C x (cmo T.1 (F2of T.2.1) C x)) hL2 a4 hZ1 b2 (fun y hy => by
        by_cases e : y = x
        · subst e
          unfold cok
          rw [upX_at]
          exact ⟨b1, hok⟩
        · have hy2 : y ∈ D := (List.mem_cons.mp hy).resolve_left e
          obtain ⟨h1, h2⟩ := hD y hy2
          unfold cok
          rw [upX_ne e]
          exact ⟨h1.fjo a5 (fun j q => by unfold cvS; omega) (by unfold cvS; omega), h2⟩)
      exact ⟨M', c1, c2, c3, c4, F1.trans c5⟩
end RRES

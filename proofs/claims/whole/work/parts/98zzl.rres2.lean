/-! ===== the reference lays the residue ===== -/
def lrS : Nat → Nat → Prop := fun a j => ncS a j ∨ rvS a j ∨ a = 1326 ∨ (a = 1269 ∧ j = 90)
theorem F2_fn {F : FT} {mk : Nat} (hT : TI F mk) (hV : FVL F) : ∀ y ∈ lnF F, F2of F y 9 ≠ -1 ↔ isFn (nuF F (lnF F)) y := by
  intro y hy
  obtain ⟨h1, h2⟩ := fnF_9 (lnF F) (nuF F (lnF F)) 0 y hT.1.1 hy
  constructor
  · intro q
    by_cases z : isFn (nuF F (lnF F)) y
    · exact z
    · exact absurd ((h2 z).trans ((nuF_ne _ _ _ _ (by decide)).trans (hV y hy).2.1)) q
  · intro q
    obtain ⟨k, -, -, k3⟩ := h1 q
    show fnF (nuF F (lnF F)) (lnF F) 0 y 9 ≠ -1
    rw [k3]; omega
section RRES2
variable {zs : List Clz} {T : TS}
theorem lr_rz {a j : Nat} (q : rzS a j) : ¬ lrS a j := by unfold rzS at q; unfold lrS ncS rvS; omega
theorem M_layResidue_s {M : Mem} (hzs : zsk 100 zs) (hok : okP zs) (hzl : zs.length ≤ 40) (hG : Good M) (hT : TI T.2.1 T.2.2) (hX : XOK T.1 T.2.1) (hV : FVL T.2.1) (hN : ∀ x ∈ lnF T.2.1, NS zs T.1 T.2.1 x) (hZ : RZm M T) (hP : ROWP M 0 zs) (h76 : mI M 1269 76 = 0) : ∃ M', M_layResidue 1269 M = some (none, M') ∧ mI M' 1269 76 = (rsd T.1 T.2.1).1 ∧ ((rsd T.1 T.2.1).1 = 0 → MQn M' (rsP T.1 T.2.1) ∧ MG M' ((rsd T.1 T.2.1).2 0)) ∧ ((rsd T.1 T.2.1).1 ≠ 0 → Fj rvS M M') ∧ RZm M' T ∧ ROWP M' 0 zs ∧ Good M' ∧ Fj lrS M M' := by
  have hm := hT.1.2.2
  have hlen := hT.len
  obtain ⟨-, hN2, hfin⟩ := fin_ok hzs hok hzl hT hX hV hN
  have hFn := F2_fn hT hV
  obtain ⟨M1, d3', a1, a2, a3, a4, a5⟩ := M_fit_loop hT hX hN2 hFn (lnF T.2.1) [] M 0 0 0 none rfl hG hZ (Nat.zero_le _) (by rw [if_neg (by decide)]; exact h76)
  have a1 : M_layResidue_4 1269 0 0 none M = M_layResidue_87 1269 (((lnF T.2.1).length : Int) - 1) (some (.inl ((nmR T.1 T.2.1).2.1 : Int))) d3' M1 := a1
  have a2 : mI M1 1269 76 = nst (nmR T.1 T.2.1).2.1 (nmR T.1 T.2.1).2.2 := a2
  have hP1 : ROWP M1 0 zs := hP.fj a5 fun a j q => by unfold rvS; omega
  have F1 : Fj lrS M M1 := a5.mono fun a j q => Or.inr (Or.inl q)
  by_cases q : nst (nmR T.1 T.2.1).2.1 (nmR T.1 T.2.1).2.2 = 0
  · have hr : rsd T.1 T.2.1 = cmg T.1 (F2of T.2.1) (lnF T.2.1).reverse (fun _ => []) := if_pos q
    have hcm : (nmR T.1 T.2.1).2.2 ≤ 8 ∧ (nmR T.1 T.2.1).2.1 ≤ 40 := by
      unfold nst at q
      by_cases z : 8 < (nmR T.1 T.2.1).2.2
      · rw [if_pos z] at q; exact absurd q (by decide)
      · rw [if_neg z] at q
        by_cases z2 : 40 < (nmR T.1 T.2.1).2.1
        · rw [if_pos z2] at q; exact absurd q (by decide)
        · omega
    have hall := hfin (fun x hx hf => by
      have := (nmf_most (X := T.1) (F := nuF T.2.1 (lnF T.2.1)) (lnF T.2.1) 0 0 0).2 x hx hf
      have h2 : (nmR T.1 T.2.1).2.2 = (nmf T.1 (nuF T.2.1 (lnF T.2.1)) (lnF T.2.1) 0 0 0).2.2 := rfl
      omega)
    obtain ⟨M2, b1, b2, b3, b4, b5⟩ := M_comings_loop hzs hT hX hV hN2 (fun y hy => ⟨(hall y hy).1.1, (hall y hy).2⟩) (some (.inl ((nmR T.1 T.2.1).2.1 : Int))) d3' (lnF T.2.1).reverse [] M1 (fun _ => []) (by rw [List.reverse_reverse, List.append_nil]) a4 a3 (a2.trans q) (fun y hy => by cases hy)
    rw [← hr, List.length_reverse] at b1 b2
    have hP2 : ROWP M2 0 zs := hP1.fj b5 fun a j q => by unfold rvS; omega
    have F2 : Fj lrS M M2 := F1.trans (b5.mono fun a j q => Or.inr (Or.inl q))
    by_cases z : (rsd T.1 T.2.1).1 = 0
    · obtain ⟨c1, c2, c3⟩ := b1 z
      have f3 : Fj ncS M2 (stI M2 1280 1 0) := Fj.ofI (by unfold ncS; omega)
      have hG3 := b4.fj f3
      have hQ3 : MQw (stI M2 1280 1 0) [] := ⟨⟨mI_at, fun i z h => by rw [List.getElem?_nil] at h; cases h⟩, fun z h => by cases h⟩
      have htot : ((lnF T.2.1).flatMap (mcx T.1 (F2of T.2.1) (rsd T.1 T.2.1).2)).length ≤ 40 := by
        have := nmf_all (X := T.1) (F := nuF T.2.1 (lnF T.2.1)) (G := F2of T.2.1) (C := (rsd T.1 T.2.1).2) (lnF T.2.1) 0 0 0 (fun x hx => ⟨hFn x hx, by
          rw [F2_nkc]
          unfold nkc
          rw [nuF_ne _ _ _ _ (by decide)]⟩)
        have h2 : (nmR T.1 T.2.1).2.1 = (nmf T.1 (nuF T.2.1 (lnF T.2.1)) (lnF T.2.1) 0 0 0).2.1 := rfl
        omega
      obtain ⟨M4, d1, d2, d3, d4⟩ := M_allClauses_loop (C := (rsd T.1 T.2.1).2) hzs hok hzl hT hX hN2 (fun y hy => ⟨(hall y hy).1.1, (hall y hy).2⟩) (fun y hy => (hall y hy).1.2) (some (.inl ((nmR T.1 T.2.1).2.1 : Int))) d3' (lnF T.2.1) [] (stI M2 1280 1 0) [] rfl hG3 (b3.nc f3) (hP2.nc f3) hQ3 (by rw [List.length_nil]; omega) (fun y hy => ⟨(c3 y hy).1.nc f3, (c3 y hy).2⟩)
      have d1 : M_layResidue_131 1269 0 (some (.inl ((nmR T.1 T.2.1).2.1 : Int))) d3' (stI M2 1280 1 0) = _ := d1
      have d2 : MQw M4 (rsP T.1 T.2.1) := d2
      have F4 : Fj ncS M2 M4 := f3.trans d4
      obtain ⟨rl, hrl⟩ := lnF_head T.2.1
      have h0 : 0 ∈ lnF T.2.1 := by rw [hrl]; simp
      obtain ⟨⟨m1, m2⟩, m3⟩ := (c3 0 h0).1.nc F4
      generalize hng : (rsd T.1 T.2.1).2 0 = ng at *
      have f5 : Fj (fun a j => a = 1269 ∧ j = 90) M4 (stI M4 1269 90 (ng.length : Int)) := Fj.ofI ⟨rfl, rfl⟩
      have hG5 := d3.fj f5
      obtain ⟨M6, e1, e2, e3⟩ := M_copy_s hG5 (k := ng.length) (p := 0) (q := 0) arr_1324 arr_1326 (by omega) (by omega) ⟨by decide, by decide⟩ (Or.inl (by decide))
      have e1 : M_copy 1324 0 (ng.length : Int) 1326 0 (stI M4 1269 90 (ng.length : Int)) = some (none, M6) := e1
      have F6 : Fj (fun a j => a = 1326 ∨ (a = 1269 ∧ j = 90)) M4 M6 := (f5.mono fun a j q => Or.inr q).trans (e2.fj fun a j q => Or.inl q)
      have h84 := (b3.nc F4).2.1.1
      have m2 : mI M4 1325 0 = (ng.length : Int) := m2
      have i90 : mI (stI M4 1269 90 (ng.length : Int)) 1269 90 = (ng.length : Int) := mI_at
      refine ⟨M6, ?_, ?_, fun _ => ⟨?_, ?_, fun i hi => ?_⟩, fun h => absurd z h, ?_, ?_, hG5.fi e2, F2.trans ((F4.mono fun a j q => Or.inl q).trans (F6.mono fun a j q => Or.inr (Or.inr q)))⟩
      · rw [M_layResidue_eq, a1, c1, M_layResidue_87_eq, if_pos (by decide), b4.gM, gd_t, if_pos c2, gd_t, b4.m17, b4.tgS arr_1280 (by decide) (by decide), gd_t, d1, M_layResidue_131_eq, d3.gM, gd_t, h84, if_neg (by omega), gd_t, d3.m87, d3.tgS arr_1325 (by decide) (by decide), gd_t, gd_t, gd_t, gd_t, gd_t, d3.m86, d3.m88, m2, i90, e1, cV_s]
      · rw [z]
        exact ((F6.2.2 _ _ (by omega)).trans (F4.2.2 _ _ (by unfold ncS; omega))).trans c2
      · exact ⟨(F6.2.2 _ _ (by omega)).trans d2.1.1, d2.1.2.fj F6 fun a j q => by omega⟩
      · exact (e2.2.2 _ (by omega) _).trans i90
      · rw [e3, if_pos (by omega), Nat.zero_add, Nat.sub_zero, Nat.zero_add, mI_ne (by omega)]
        have := m1 i hi
        rwa [Nat.mul_zero, Nat.zero_add] at this
      · exact (b3.nc F4).fjo F6 fun a j q => by unfold rzS at q; omega
      · exact (hP2.nc F4).fj F6 fun a j q => by omega
    · obtain ⟨c1, c2⟩ := b2 z
      refine ⟨M2, ?_, c2, fun h => absurd h z, fun _ => a5.trans b5, b3, hP2, b4, F2⟩
      rw [M_layResidue_eq, a1, c1]
  · have hr : rsd T.1 T.2.1 = (nst (nmR T.1 T.2.1).2.1 (nmR T.1 T.2.1).2.2, fun _ => []) := if_neg q
    have n0 : ¬ mI M1 1269 76 = 0 := by rw [a2]; exact q
    rw [hr]
    refine ⟨M1, ?_, a2, fun h => absurd h q, fun _ => a5, a3, hP1, a4, F1⟩
    rw [M_layResidue_eq, a1]
    by_cases g : ((lnF T.2.1).length : Int) - 1 < 0
    · rw [M_layResidue_87_eq, if_pos g, a4.gM, gd_t, if_neg n0]
    · rw [M_layResidue_87_eq, if_neg g, a4.gM, gd_t, if_neg n0, gd_t, if_neg n0]
end RRES2

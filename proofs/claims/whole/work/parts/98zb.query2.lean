/-! ===== the class: node, ranked, take ===== -/
def numF (F : FT) (v : Int) : Int := if v = -1 then -1 else ((lnF F).idxOf v.toNat : Int)
def ndA (X : Nat → List Int) (F : FT) (x : Nat) (w : Int) : Int := if w = 0 then F x 4 else if w = 1 then numF F (F x 15) else if w = 2 then F x 5 else if w = 3 then F x 6 else if w = 4 then ((X x).length : Int) else if w = 5 then ((ord (X x)).length : Int) else if w = 6 then F x 8 else if w = 7 then numF F (F x 14) else if w = 8 then F x 9 else -2
def noA (X : Nat → List Int) (F : FT) (k w : Int) : Int := if 0 ≤ k ∧ k < ((lnF F).length : Int) then ndA X F ((lnF F).getD k.toNat 0) w else -2
section QUERY2
variable {M : Mem} {X : Nat → List Int} {F : FT} {mk : Nat}
theorem NBc.num {L : List Nat} (h : NBc M L) {y : Nat} (hy : y ∈ L) : mI M (30 + 6 * y) 7 = (L.idxOf y : Int) := by
  have hl := List.idxOf_lt_length_iff.mpr hy
  refine h (L.idxOf y) y ?_
  rw [List.getElem?_eq_getElem hl, List.getElem_idxOf hl]
theorem Tr_nodeAt_out (hG : Good M) (hR : TRc M X F mk) {k : Int} (h : ¬ (0 ≤ k ∧ k < ((lnF F).length : Int))) : Tr_nodeAt 27 k M = some (some (.inr 0), M) := by
  have h8 := hR.1.1.1
  rw [Tr_nodeAt_eq]
  by_cases q : k < 0
  · rw [if_pos q]
  · rw [if_neg q, hG.gT, gd_t, h8, if_neg (by omega)]
theorem D_node_0 (hG : Good M) (h15 : mI M 2 15 = 0) (k w : Int) : D_node 2 k w M = some (some (.inl (-2)), M) := by
  rw [D_node_eq, hG.gx, gd_t, h15, if_pos rfl, D_node_19_eq, if_pos rfl]
theorem D_node_1 (hG : Good M) (hT : TI F mk) (hR : TRc M X F mk) (hB : NBc M (lnF F)) (hk : ∀ x ∈ lnF F, 0 ≤ F x 4 ∧ (F x 14 = -1 ∨ (0 ≤ F x 14 ∧ (F x 14).toNat ∈ lnF F))) (h15 : mI M 2 15 = 1) (k w : Int) : D_node 2 k w M = some (some (.inl (noA X F k w)), M) := by
  have hlen := hT.len
  have hm := hT.1.2.2
  rw [D_node_eq, hG.gx, gd_t, h15, if_neg (by decide), gd_t, hG.r2_4, hG.gT, gd_t]
  unfold noA
  by_cases q : 0 ≤ k ∧ k < ((lnF F).length : Int)
  · rw [if_pos q]
    obtain ⟨i, hi⟩ := Int.eq_ofNat_of_zero_le q.1
    subst hi
    have hil : i < (lnF F).length := by omega
    have hx := List.getElem?_eq_getElem hil
    have hgd : (lnF F).getD i 0 = (lnF F)[i] := by rw [List.getD_eq_getElem?_getD, hx]; rfl
    have hxL := List.getElem_mem hil
    rw [Tr_nodeAt_s hG hT hR hx, cR_s, toNat_n, hgd]
    generalize (lnF F)[i] = x at *
    have hxm := hT.1.2.1 x hxL
    obtain ⟨⟨p1, p2, p3⟩, ⟨p4, p5⟩, ⟨p6, p7⟩, -, -⟩ := hR.2.1 x hxL
    obtain ⟨k1, k2⟩ := hk x hxL
    have gn := hG.nd (x := x) (by omega)
    have i4 : mI M (30 + 6 * x) 4 = F x 4 := by rw [p5, if_neg (by omega)]
    have u1 : (if mR M (30 + 6 * x) 15 = 0 then some (some (Sum.inl (-1)), M) else gd true (gd true (gd (gO M (mR M (30 + 6 * x) 15) 4) (some (some (Sum.inl (mI M (mR M (30 + 6 * x) 15) 7)), M)))) : Option (LV × Mem)) = some (some (.inl (numF F (F x 15))), M) := by
      unfold numF
      rw [p7]
      rcases hT.uok x hxL with e | ⟨e1, e2, e3⟩
      · rw [e, if_pos (show ndf (-1) = 0 from rfl), if_pos rfl]
      · have en : ndf (F x 15) = 30 + 6 * (F x 15).toNat := if_neg (by omega)
        have := hT.1.2.1 _ e3
        rw [en, if_neg (by omega), if_neg (by omega), gd_t, gd_t, hG.nd (by omega), gd_t, hB.num e3]
    have u2 : (if mR M (30 + 6 * x) 14 = 0 then some (some (Sum.inl (-1)), M) else gd true (gd true (gd (gO M (mR M (30 + 6 * x) 14) 4) (some (some (Sum.inl (mI M (mR M (30 + 6 * x) 14) 7)), M)))) : Option (LV × Mem)) = some (some (.inl (numF F (F x 14))), M) := by
      unfold numF
      rw [p6]
      rcases k2 with e | ⟨e1, e3⟩
      · rw [e, if_pos (show ndf (-1) = 0 from rfl), if_pos rfl]
      · have en : ndf (F x 14) = 30 + 6 * (F x 14).toNat := if_neg (by omega)
        have := hT.1.2.1 _ e3
        rw [en, if_neg (by omega), if_neg (by omega), gd_t, gd_t, hG.nd (by omega), gd_t, hB.num e3]
    simp only [gd_t] at u1 u2
    rw [D_node_19_eq, if_neg (by omega)]
    simp only [gn, gd_t, i4, u1, u2, p3, p4 5 (Or.inl rfl), p4 6 (by unfold nf; omega), p4 8 (by unfold nf; omega), p4 9 (by unfold nf; omega), (hG.ndr (x := x) (by omega)).1, p1.g hG, p1.s, ite_out]
    rfl
  · rw [if_neg q, Tr_nodeAt_out hG hR q, cR_s, D_node_19_eq, if_pos rfl]
theorem D_ranked_0 (hG : Good M) (h15 : mI M 2 15 = 0) (p w : Int) : D_ranked 2 p w M = some (some (.inl (-1)), M) := by
  rw [D_ranked_eq, hG.gx, gd_t, h15, if_pos rfl]
def raA (X : Nat → List Int) (F : FT) (p w : Int) : Int := if 0 ≤ w ∧ w ≤ 2 then nrk X F w p (lnF F) (lnF F) 0 else -1
theorem D_ranked_1 (hG : Good M) (hT : TI F mk) (hR : TRc M X F mk) (h15 : mI M 2 15 = 1) (p w : Int) : D_ranked 2 p w M = some (some (.inl (raA X F p w)), M) := by
  rw [D_ranked_eq, hG.gx, gd_t, h15, if_neg (by decide)]
  unfold raA
  by_cases q : w < 0
  · rw [if_pos q, if_neg (by omega)]
  · rw [if_neg q]
    by_cases q2 : 2 < w
    · rw [if_pos q2, if_neg (by omega)]
    · have := Tr_atRank_loop hG hT hR (w := w) (place := p) (lnF F) [] rfl
      have this : Tr_numberAtRank_2 27 p w 0 M = _ := this
      rw [if_neg q2, if_pos (by omega), gd_t, hG.r2_4, hG.gT, gd_t, Tr_numberAtRank_eq, this, cI_s]
      rfl
/-- take -/
theorem D_take_0 (hG : Good M) (h15 : mI M 2 15 = 0) : D_take 2 M = some (some (.inl (-1)), M) := by
  rw [D_take_eq, hG.gx, gd_t, h15, if_pos rfl]
theorem D_take_1 {zs ns : List Clz} {gl ng : List Int} {es : Nat → List Int} (hG : Good M) (hP : CP M zs ns) (hE : CE M gl ng es) (h15 : mI M 2 15 = 1) : ∃ M', D_take 2 M = some (some (.inl (ns.length : Int)), M') ∧ CP M' ns zs ∧ CE M' ng ng es ∧ mI M' 2 15 = 0 ∧ Good M' ∧ Fq (fun a j => (a = 2 ∧ j = 15) ∨ a = 767 ∨ a = 768) (fun a j => a = 2 ∧ (j = 10 ∨ j = 11)) M M' := by
  obtain ⟨P0, P1, P2, hprm, ⟨r10, r11, r12⟩, hp0, hp1, ws, hp2⟩ := hP
  obtain ⟨qb0, qb1, qb2⟩ := prm_b hprm
  have hprm2 : prm P1 P0 P2 := by
    obtain ⟨h1, h2, h3, h4, h5, h6⟩ := hprm
    exact ⟨h2, h1, h3, fun e => h4 e.symm, h6, h5⟩
  obtain ⟨e1, e2, e3⟩ := hE
  have hG1 : Good (stR (stR M 2 10 P1) 2 11 P0) := (hG.ofR (by unfold mtb; omega)).ofR (by unfold mtb; omega)
  have x1 : XE (stR (stR M 2 10 P1) 2 11 P0) 767 100 gl := e1.ext fun a j q => rfl
  have x2 : XE (stR (stR M 2 10 P1) 2 11 P0) 769 100 ng := e2.ext fun a j q => rfl
  obtain ⟨M1, a1, a2, a3⟩ := Ex_become_s hG1 x1 x2 (by decide) (by decide) (by decide) x2.2.2
  have hG2 := hG1.fi a3
  have f2 : Fj (fun a j => a = 2 ∧ j = 15) M1 (stI M1 2 15 0) := Fj.ofI ⟨rfl, rfl⟩
  have o : ∀ a j, ¬ (a = 767 ∨ a = 768) → ¬ (a = 2 ∧ j = 15) → mI (stI M1 2 15 0) a j = mI M a j := fun a j h1 h2 => (mI_ne h2).trans (a3.2.2 a (by unfold eS; omega) j)
  have rr : ∀ j, mR (stI M1 2 15 0) 2 j = mR (stR (stR M 2 10 P1) 2 11 P0) 2 j := fun j => a3.2.1 _ _
  have k10 : mR (stR (stR M 2 10 P1) 2 11 P0) 2 10 = P1 := by rw [mR_ne (by omega), mR_at]
  have k11 : mR (stR (stR M 2 10 P1) 2 11 P0) 2 11 = P0 := mR_at
  have k12 : mR (stR (stR M 2 10 P1) 2 11 P0) 2 12 = P2 := by rw [mR_ne (by omega), mR_ne (by omega)]; exact r12
  have y1 : PRx (stI M1 2 15 0) P1 ns := hp1.ext fun a j q => o a j (by have := pS_ge qb1 q; omega) (by have := pS_ge qb1 q; omega)
  have F1 : Fq (fun a j => (a = 2 ∧ j = 15) ∨ a = 767 ∨ a = 768) (fun a j => a = 2 ∧ (j = 10 ∨ j = 11)) M (stI M1 2 15 0) := (((Fq.ofR ⟨rfl, Or.inl rfl⟩).trans (Fq.ofR ⟨rfl, Or.inr rfl⟩)).trans ((a3.fj (T := fun a j => (a = 2 ∧ j = 15) ∨ a = 767 ∨ a = 768) fun a j q => by unfold eS at q; omega).fq fun a j q => q)).trans (f2.fq fun a j q => Or.inl q)
  refine ⟨stI M1 2 15 0, ?_, ⟨P1, P0, P2, hprm2, ⟨(rr _).trans k10, (rr _).trans k11, (rr _).trans k12⟩, y1, ?_, ws, ?_⟩, ⟨?_, ?_, fun i hi => ?_⟩, mI_at, hG2.fj f2, F1⟩
  · have n1 : mI (stI M1 2 15 0) P1 1 = (ns.length : Int) := y1.1.1.2.1
    have g1 : gO (stI M1 2 15 0) P1 5 = true := y1.1.g (hG2.fj f2)
    have m10 : mR M1 2 10 = P1 := (rr 10).trans k10
    rw [D_take_eq, hG.gx, gd_t, h15, if_neg (by decide)]
    simp only [gd_t, r10, r11]
    rw [hG1.r2_7, hG1.r2_8, e1.g hG, gd_t, a1, cV_s, hG2.gx, gd_t, gd_t, m10, n1]
    have g2 : gO M1 P1 5 = true := g1
    rw [g2, gd_t]
  · exact hp0.ext fun a j q => o a j (by have := pS_ge qb0 q; omega) (by have := pS_ge qb0 q; omega)
  · exact hp2.ext fun a j q => o a j (by have := pS_ge qb2 q; omega) (by have := pS_ge qb2 q; omega)
  · exact a2.fj f2 (by omega) (by omega)
  · exact e2.ext fun a j q => o a j (by omega) (by omega)
  · exact (e3 i hi).ext fun a j q => o a j (by omega) (by omega)
end QUERY2

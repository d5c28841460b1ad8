/-! ===== the class: all that a driven tree is asked ===== -/
theorem rnm_ok {vs : List Int} (hl : vs.length ≤ 40) {c : Int} (hc : vc c) (hin : kd c = 0 → c ∈ vs) : vc (rnm vs c) ∧ (kd (rnm vs c) = 0 → rnm vs c < 1414) := by
  unfold rnm
  by_cases q : kd c = 0 ∧ ix vs c ≠ -1
  · have := ix_rng vs c
    rw [if_pos q]
    have h2 := q.2
    exact ⟨vc_var (by omega), fun _ => by omega⟩
  · rw [if_neg q]
    exact ⟨hc, fun h => absurd (show kd c = 0 ∧ ix vs c ≠ -1 from ⟨h, ix_mem.mpr (hin h)⟩) q⟩
/-- a node's expression, renamed -/
def rnX (xs : List Int) : List Int := xs.map (rnm (ord xs))
theorem rnX_ok {xs : List Int} (h : eok xs) : (av (rnX xs) ∧ vlo (rnX xs)) ∧ (rnX xs).length = xs.length := by
  obtain ⟨h1, h2, h3⟩ := h
  have hl := ord_len xs
  refine ⟨⟨fun d hd => ?_, fun d hd => ?_⟩, List.length_map ..⟩
  · obtain ⟨c, hc, rfl⟩ := List.mem_map.mp hd
    exact (rnm_ok (by omega) (h2 c hc) fun hk => ord_mem.mpr ⟨hc, hk⟩).1
  · obtain ⟨c, hc, rfl⟩ := List.mem_map.mp hd
    exact (rnm_ok (by omega) (h2 c hc) fun hk => ord_mem.mpr ⟨hc, hk⟩).2
def wnA (X : Nat → List Int) (F : FT) (k : Int) : Int := if 0 ≤ k ∧ k < ((lnF F).length : Int) then ((wtx (rnX (X ((lnF F).getD k.toNat 0))) []).length : Int) else -1
def wnT (X : Nat → List Int) (F : FT) (ws : List Int) (k : Int) : List Int := if 0 ≤ k ∧ k < ((lnF F).length : Int) then wtx (rnX (X ((lnF F).getD k.toNat 0))) [] else ws
section DRIVEN
variable {M : Mem} {X : Nat → List Int} {F : FT} {mk : Nat} {ws : List Int}
theorem D_wnode_0 (hG : Good M) (h15 : mI M 2 15 = 0) (k : Int) : D_writeNode 2 k M = some (some (.inl (-1)), M) := by
  rw [D_writeNode_eq, hG.gx, gd_t, h15, if_pos rfl, D_writeNode_19_eq, if_pos rfl]
theorem D_wnode_1 (hG : Good M) (hT : TI F mk) (hR : TRc M X F mk) (hX : XOK X F) (hS : ∃ ys, XE M 771 100 ys) (hW : TXc M ws) (h15 : mI M 2 15 = 1) (k : Int) : ∃ M', D_writeNode 2 k M = some (some (.inl (wnA X F k)), M') ∧ TXc M' (wnT X F ws k) ∧ (∃ ys, XE M' 771 100 ys) ∧ Good M' ∧ Fj (fun a j => wcL a j ∨ a = 771 ∨ a = 772) M M' := by
  have hlen := hT.len
  have hm := hT.1.2.2
  have head : D_writeNode 2 k M = cR (Tr_nodeAt 27 k M) fun r2 M1 => D_writeNode_19 2 r2 (some (.inl k)) none M1 := by
    rw [D_writeNode_eq, hG.gx, gd_t, h15, if_neg (by decide), gd_t, hG.r2_4, hG.gT, gd_t]
  rw [head]
  unfold wnA wnT
  by_cases q : 0 ≤ k ∧ k < ((lnF F).length : Int)
  · rw [if_pos q, if_pos q]
    obtain ⟨i, hi⟩ := Int.eq_ofNat_of_zero_le q.1
    subst hi
    have hil : i < (lnF F).length := by omega
    have hx := List.getElem?_eq_getElem hil
    have hgd : (lnF F).getD i 0 = (lnF F)[i] := by rw [List.getD_eq_getElem?_getD, hx]; rfl
    have hxL := List.getElem_mem hil
    rw [Tr_nodeAt_s hG hT hR hx, cR_s, toNat_n, hgd]
    generalize (lnF F)[i] = x at *
    have hxm := hT.1.2.1 x hxL
    have heok := hX x hxL
    obtain ⟨⟨g1, g2⟩, g3⟩ := rnX_ok heok
    have he3 := heok.2.2
    have hov := ord_len (X x)
    obtain ⟨ys, hS⟩ := hS
    obtain ⟨M1, a1, a2, a3⟩ := Ex_clear_s hG hS
    have hG1 := hG.fi a3
    have hR1 : TRc M1 X F mk := hR.fjo hT (a3.fj (T := fun a _ => eS 771 a) fun a j q => q) fun a j q => by unfold eS; omega
    obtain ⟨p1, p2, p3⟩ := (hR1.2.1 x hxL).1
    have o33 : arr (33 + 6 * x) 0 40 := by
      have := (isN_at (k := x) (by omega)).2.2.1
      rw [show 30 + 6 * x + 3 = 33 + 6 * x by omega] at this
      exact this
    obtain ⟨M2, b1, b2, b3⟩ := Ex_addRenamed_s hG1 a2 p1 heok.2.1 (by omega) (by omega) (by omega) o33 (by decide) p2 (by omega) (by omega) (by omega) (by rw [List.length_nil]; omega)
    rw [List.nil_append] at b2
    have hG2 := hG1.fi b3
    have f2 : Fj (fun a j => a = 771 ∨ a = 772) M M2 := (a3.fj fun a j q => by unfold eS at q; omega).trans (b3.fj fun a j q => by unfold eS at q; omega)
    have hW2 : TXc M2 ws := ⟨(f2.2.2 _ _ (by omega)).trans hW.1, hW.2.1, fun i hi => (f2.2.2 _ _ (by omega)).trans (hW.2.2 i hi)⟩
    obtain ⟨M3, c1, c2, c3⟩ := D_writeExpr_s hG2 (e := 771) (by decide) b2 hW2 g1 g2 (wok_len _ _ (by show 0 + (rnX (X x)).length ≤ 512; omega)) (by show (rnX (X x)).length ≤ 12200; omega)
    have nr := hG1.ndr (x := x) (by omega)
    rw [D_writeNode_19_eq, if_neg (by omega), hG.gx, gd_t, hG.r2_9, hS.g hG, gd_t, a1, cV_s, hG1.gx, gd_t, hG1.nd (by omega), gd_t, gd_t, gd_t, hG1.r2_9, a2.g hG1, gd_t, nr.1, nr.2.1, p3, b1, cV_s, hG2.gx, gd_t, gd_t, hG2.r2_9, c1, cI_s]
    refine ⟨M3, rfl, c2, ⟨_, b2.ext fun a j q => c3.2.2 a j (by unfold wcL wcS; omega)⟩, hG2.fj c3, (f2.mono fun a j q => Or.inr q).trans (c3.mono fun a j q => Or.inl q)⟩
  · rw [if_neg q, if_neg q, Tr_nodeAt_out hG hR q, cR_s, D_writeNode_19_eq, if_pos rfl]
    exact ⟨M, rfl, hW, hS, hG, Fj.refl⟩
/-- the facts of a driven tree -/
theorem DRc.all {zs : List Clz} {gl : List Int} (hzs : zsk 100 zs) (hok : okP zs) (hzl : zs.length ≤ 40) (h : DRc M zs gl) (hi : isd zs gl) : (TI (F2of (tof zs gl).2.1) (tof zs gl).2.2 ∧ lnF (F2of (tof zs gl).2.1) = lnF (tof zs gl).2.1) ∧ XOK (tof zs gl).1 (F2of (tof zs gl).2.1) ∧ ∀ x ∈ lnF (F2of (tof zs gl).2.1), (0 ≤ F2of (tof zs gl).2.1 x 4 ∧ (F2of (tof zs gl).2.1 x 14 = -1 ∨ (0 ≤ F2of (tof zs gl).2.1 x 14 ∧ (F2of (tof zs gl).2.1 x 14).toNat ∈ lnF (F2of (tof zs gl).2.1)))) ∧ NS zs (tof zs gl).1 (F2of (tof zs gl).2.1) x := by
  obtain ⟨-, -, -, g⟩ := h
  have hN := GRW.all g hi.1
  obtain ⟨⟨hT, hX, hV⟩, -⟩ := g
  obtain ⟨⟨t1, t2⟩, hN2, -⟩ := fin_ok hzs hok hzl hT hX hV hN
  have t2 : lnF (F2of (tof zs gl).2.1) = lnF (tof zs gl).2.1 := t2
  refine ⟨⟨t1, t2⟩, fun x hx => hX x (by rw [t2] at hx; exact hx), fun x hx => ?_⟩
  have hx0 : x ∈ lnF (tof zs gl).2.1 := by rw [t2] at hx; exact hx
  have hn := hN2 x hx0
  refine ⟨⟨hn.k.1.1, ?_⟩, hn⟩
  have e14 : F2of (tof zs gl).2.1 x 14 = (tof zs gl).2.1 x 14 := F2_eq _ _ _ (by decide) (by decide)
  have e4 : F2of (tof zs gl).2.1 x 4 = (tof zs gl).2.1 x 4 := F2_eq _ _ _ (by decide) (by decide)
  rcases (hV x hx0).2.2.2 with q | q
  · exact Or.inl (e14.trans q)
  · have q4 : F2of (tof zs gl).2.1 x 4 = 4 := e4.trans q
    rcases hN x hx0 with ⟨h, -⟩ | ⟨h, -⟩ | ⟨h, -⟩ | ⟨h, -⟩ | ⟨h, ⟨-, g2, y, y1, y2, y3, y4⟩⟩ | ⟨h, -⟩ | ⟨h, -⟩
    · exact absurd (h.symm.trans q) (by decide)
    · exact absurd (h.symm.trans q) (by decide)
    · exact absurd (h.symm.trans q) (by decide)
    · exact absurd (h.symm.trans q) (by decide)
    · have ym := (anc_mem hT.uok 121 x hx0 y2).1
      right
      have y1 : F2of (tof zs gl).2.1 x 14 = (y : Int) := e14.trans y1
      rw [y1, toNat_n, t2]
      exact ⟨by omega, ym⟩
    · exact absurd (h.symm.trans q) (by decide)
    · exact absurd (h.symm.trans q) (by decide)
end DRIVEN

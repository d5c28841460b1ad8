/-! ===== drive ===== -/
def tof (zs : List Clz) (gl : List Int) : TS := (grw zs gl).2.1
def isd (zs : List Clz) (gl : List Int) : Prop := gst (grw zs gl) = 0 ∧ (rsd (tof zs gl).1 (tof zs gl).2.1).1 = 0
def drv (zs : List Clz) (gl : List Int) : Int := if gst (grw zs gl) = 0 then (if (rsd (tof zs gl).1 (tof zs gl).2.1).1 = 0 then ((lnF (tof zs gl).2.1).length : Int) else (rsd (tof zs gl).1 (tof zs gl).2.1).1) else gst (grw zs gl)
def nwP (zs : List Clz) (gl : List Int) : List Clz := rsP (tof zs gl).1 (tof zs gl).2.1
def nwG (zs : List Clz) (gl : List Int) : List Int := (rsd (tof zs gl).1 (tof zs gl).2.1).2 0
def TKc (M : Mem) : Prop := (WKc M ∧ ∃ cs, XE M 755 10240 cs) ∧ (∃ ys, XE M 752 20480 ys) ∧ ∃ ys, XE M 750 256 ys
def DRc (M : Mem) (zs : List Clz) (gl : List Int) : Prop := (TRc M (tof zs gl).1 (F2of (tof zs gl).2.1) (tof zs gl).2.2 ∧ NBc M (lnF (tof zs gl).2.1)) ∧ (mI M 27 10 = ((80 - (grw zs gl).2.2.1 : Nat) : Int) ∧ mI M 27 11 = ((grw zs gl).2.2.2.2 : Int)) ∧ mI M 754 3 = ((nmR (tof zs gl).1 (tof zs gl).2.1).1 : Int) ∧ GRW zs (grw zs gl)
def ddS : Nat → Nat → Prop := fun a j => dvS a j ∨ (a = 2 ∧ j = 15) ∨ (754 ≤ a ∧ a ≤ 757) ∨ a = 769 ∨ a = 770 ∨ (773 ≤ a ∧ a < 1259)
/-- a tree that is done: every node was looked at -/
theorem GRW.all {zs : List Clz} {r : Int × TS × Nat × Nat × Nat} (h : GRW zs r) (h0 : gst r = 0) : ∀ x ∈ lnF r.2.1.2.1, NS zs r.2.1.1 r.2.1.2.1 x := by
  obtain ⟨-, h2, -⟩ := h
  unfold gst at h0
  by_cases q : r.1 = 0 ∧ r.2.2.2.1 < (lnF r.2.1.2.1).length
  · rw [if_pos q] at h0; exact absurd h0 (by decide)
  · rw [if_neg q] at h0
    obtain ⟨⟨L1, N, hL, hl⟩, h3, -⟩ := h2 h0
    have hn : N = [] := by
      have := hL.1
      have e := congrArg List.length this
      rw [List.length_append] at e
      have : N.length = 0 := by omega
      exact List.eq_nil_of_length_eq_zero this
    intro x hx
    rw [hL.1, hn, List.append_nil] at hx
    exact hL.2.1 x hx
theorem WKc.fjx {M M1 : Mem} (h : WKc M) (f : ∀ a j, 30 ≤ a → a < 750 → mI M1 a j = mI M a j) : WKc M1 := h.ext f
theorem prm_b {a b c : Nat} (h : prm a b c) : (773 ≤ a ∧ a ≤ 1097) ∧ (773 ≤ b ∧ b ≤ 1097) ∧ (773 ≤ c ∧ c ≤ 1097) := by
  unfold prm at h; omega
theorem prm_d {a b c : Nat} (h : prm a b c) : (∀ x, pS a x → ¬ pS b x) ∧ (∀ x, pS c x → ¬ pS b x) := by
  unfold prm at h
  refine ⟨fun x => ?_, fun x => ?_⟩
  · unfold pS; omega
  · unfold pS; omega
theorem rs_dd {P a j : Nat} (h : 773 ≤ P ∧ P ≤ 1097) (q : rsS P a j) : ddS a j := by
  unfold rsS pS at q; unfold ddS dvS; omega
theorem rs_not {P a j : Nat} (h : 773 ≤ P ∧ P ≤ 1097) (q : a < 30 ∨ (757 < a ∧ a < 773) ∨ (750 ≤ a ∧ a < 754)) : ¬ rsS P a j := by
  unfold rsS pS; omega
theorem rs_pS {P Q a j : Nat} (h : 773 ≤ Q ∧ Q ≤ 1097) (q : pS Q a) (d : ∀ x, pS Q x → ¬ pS P x) : ¬ rsS P a j := by
  have := d a q
  unfold rsS
  unfold pS at q this ⊢
  omega
theorem pS_ge {P a : Nat} (h : 773 ≤ P ∧ P ≤ 1097) (q : pS P a) : 773 ≤ a := by unfold pS at q; omega
theorem D_drive_s {M : Mem} {zs ns : List Clz} {gl ng : List Int} {es : Nat → List Int} (hG : Good M) (hP : CP M zs ns) (hE : CE M gl ng es) (hK : TKc M) (hzs : zsk 100 zs) (hok : okP zs) (hw : wf 1 gl) (hv : av gl) : ∃ M', D_drive 2 M = some (some (.inl (drv zs gl)), M') ∧ (isd zs gl → DRc M' zs gl ∧ CP M' zs (nwP zs gl) ∧ CE M' gl (nwG zs gl) es ∧ mI M' 2 15 = 1) ∧ (¬ isd zs gl → CP M' zs ns ∧ CE M' gl ng es ∧ mI M' 2 15 = 0) ∧ TKc M' ∧ Good M' ∧ Fq ddS grR M M' := by
  obtain ⟨P0, P1, P2, hprm, ⟨r10, r11, r12⟩, hp0, hp1, ws, hp2⟩ := hP
  obtain ⟨qb0, qb1, qb2⟩ := prm_b hprm
  obtain ⟨qd0, qd2⟩ := prm_d hprm
  obtain ⟨⟨hwk, h755⟩, h752, h750⟩ := hK
  obtain ⟨e1, e2, e3⟩ := hE
  have hzl := hp0.1.1.2.2
  have f0 : Fj (fun a j => a = 2 ∧ j = 15) M (stI M 2 15 0) := Fj.ofI ⟨rfl, rfl⟩
  have hG0 := hG.fj f0
  have o0 : ∀ a j, a ≠ 2 → mI (stI M 2 15 0) a j = mI M a j := fun a j h => mI_ne (fun z => h z.1)
  obtain ⟨ys1, h752⟩ := h752
  obtain ⟨ys2, h750⟩ := h750
  obtain ⟨cs, h755⟩ := h755
  have hp00 : PRx (stI M 2 15 0) P0 zs := hp0.ext fun a j q => o0 a j (by have := pS_ge qb0 q; omega)
  obtain ⟨M1, a1, a2, ⟨a3, a4, a5⟩, a6, a7⟩ := Tr_grow_s (e := 767) (xs := gl) hG0 (by omega) hzs hok hzl hp00.1 (hwk.ext fun a j h1 h2 => o0 a j (by omega)) ⟨ys1, h752.ext fun a j q => o0 a j (by omega)⟩ ⟨ys2, h750.ext fun a j q => o0 a j (by omega)⟩ (e1.ext fun a j q => o0 a j (by omega)) hv hw (by decide)
  have gD : ∀ {M : Mem}, Good M → gO M 2 11 = true := fun h => h.gx
  have F1 : Fq ddS grR M M1 := (f0.fq (R := grR) fun a j q => Or.inr (Or.inl q)).trans (a7.mono (fun a j q => Or.inl q) fun a j q => q)
  have o1 : ∀ a j, (754 ≤ a ∨ (a = 2 ∧ j ≠ 15)) → mI M1 a j = mI M a j := fun a j h => (a7.2.2 a j (by unfold dvS; omega)).trans (mI_ne (by omega))
  have i15 : mI M1 2 15 = 0 := (a7.2.2 _ _ (by unfold dvS; omega)).trans mI_at
  have rr : ∀ j, mR M1 2 j = mR M 2 j := fun j => a7.2.1 _ _ (by unfold grR dvR; omega)
  have x0 : PRx M1 P0 zs := hp0.ext fun a j q => o1 a j (by have := pS_ge qb0 q; omega)
  have x1 : PRx M1 P1 ns := hp1.ext fun a j q => o1 a j (by have := pS_ge qb1 q; omega)
  have x2 : PRx M1 P2 ws := hp2.ext fun a j q => o1 a j (by have := pS_ge qb2 q; omega)
  have y1 : XE M1 767 100 gl := e1.ext fun a j q => o1 a j (by omega)
  have y2 : XE M1 769 100 ng := e2.ext fun a j q => o1 a j (by omega)
  have y3 : ∀ i, i < 4 → XE M1 (759 + 2 * i) 40 (es i) := fun i hi => (e3 i hi).ext fun a j q => o1 a j (by omega)
  have z1 : XE M1 755 10240 cs := h755.ext fun a j q => o1 a j (by omega)
  have head : D_drive 2 M = if gst (grw zs gl) = 0 then cI (Rs_make 754 27 P1 M1) fun r4 M3 => D_drive_41 2 r4 M3 else D_drive_41 2 (gst (grw zs gl)) M1 := by
    rw [D_drive_eq, gD hG, gd_t, gd_t, gd_t, gd_t, hG.r2_4, hG.gT, gd_t, r10, hG.r2_7, a1, cI_s, gD a6, gd_t, gd_t, gd_t, a6.r2_5, a6.gRs, gd_t, a6.r2_4, rr, r11]
  rw [head]
  by_cases q : gst (grw zs gl) = 0
  · obtain ⟨⟨c1, c2⟩, ⟨c3, c4⟩, c5, c6⟩ := a2 q
    have hN := GRW.all c2 q
    have c2' := c2
    obtain ⟨⟨hT, hX, hV⟩, -⟩ := c2
    have hm := hT.1.2.2
    obtain ⟨M2, b1, b2, b3, ⟨b4, b5⟩, b6, b7⟩ := Rs_make_s (P := P1) (by omega) hzs hok hzl hT hX hV hN a6 c1.1 c6 x1 ⟨cs, z1⟩
    have b1 : Rs_make 754 27 P1 M1 = some (some (.inl (rsd (tof zs gl).1 (tof zs gl).2.1).1), M2) := b1
    have F2 : Fq ddS grR M M2 := F1.trans (b7.fq fun a j q => rs_dd qb1 q)
    have o2 : ∀ a j, ¬ rsS P1 a j → mI M2 a j = mI M1 a j := fun a j h => b7.2.2 a j h
    have x02 : PRx M2 P0 zs := x0.ext fun a j q => o2 a j (rs_pS qb0 q qd0)
    have x22 : PRx M2 P2 ws := x2.ext fun a j q => o2 a j (rs_pS qb2 q qd2)
    have y12 : XE M2 767 100 gl := y1.ext fun a j q => o2 a j (rs_not qb1 (by omega))
    have y22 : XE M2 769 100 ng := y2.ext fun a j q => o2 a j (rs_not qb1 (by omega))
    have y32 : ∀ i, i < 4 → XE M2 (759 + 2 * i) 40 (es i) := fun i hi => (y3 i hi).ext fun a j q => o2 a j (rs_not qb1 (by omega))
    have i152 : mI M2 2 15 = 0 := (o2 _ _ (rs_not qb1 (by omega))).trans i15
    have rr2 : ∀ j, mR M2 2 j = mR M 2 j := fun j => (b7.2.1 _ _).trans (rr j)
    obtain ⟨zs1, w1⟩ := a4
    obtain ⟨zs2, w2⟩ := a5
    have K2 : TKc M2 := ⟨⟨b4, b5⟩, ⟨zs1, w1.ext fun a j q => o2 a j (rs_not qb1 (by omega))⟩, zs2, w2.ext fun a j q => o2 a j (rs_not qb1 (by omega))⟩
    rw [if_pos q, b1, cI_s]
    unfold drv
    rw [if_pos q]
    by_cases z : (rsd (tof zs gl).1 (tof zs gl).2.1).1 = 0
    · obtain ⟨⟨d1, d2⟩, d3, d4, d5⟩ := b2 z
      obtain ⟨⟨t1, t2⟩, -⟩ := fin_ok hzs hok hzl hT hX hV hN
      have h0 : 0 ∈ lnF (grw zs gl).2.1.2.1 := pre_self _ 120 0
      obtain ⟨rl, hrl⟩ := pre_head (F2of (grw zs gl).2.1.2.1) 120 0
      have hna := Tr_nodeAt_s b6 t1 d1 (i := 0) (x := 0) (by show (pre (F2of (grw zs gl).2.1.2.1) 120 0)[0]? = some 0; rw [hrl]; rfl)
      have hna : Tr_nodeAt 27 0 M2 = some (some (.inr 30), M2) := hna
      have hC0 : XE M2 34 100 (nwG zs gl) := (d3 0 h0).1
      obtain ⟨M3, g1, g2, g3⟩ := Ex_become_s b6 y22 hC0 (by decide) (by decide) (by decide) hC0.2.2
      have hG3 := b6.fi g3
      have f4 : Fj (fun a j => a = 2 ∧ j = 15) M3 (stI M3 2 15 1) := Fj.ofI ⟨rfl, rfl⟩
      have o3 : ∀ a j, ¬ (a = 769 ∨ a = 770) → ¬ (a = 2 ∧ j = 15) → mI (stI M3 2 15 1) a j = mI M2 a j := fun a j h1 h2 => (mI_ne h2).trans (g3.2.2 a (by unfold eS; omega) j)
      have i8 : mI (stI M3 2 15 1) 27 8 = ((lnF (tof zs gl).2.1).length : Int) := by
        rw [o3 _ _ (by omega) (by omega), d1.1.1.1, t2]; rfl
      have n30 : mR M2 30 2 = 34 := (b6.ndr (x := 0) (by decide)).2.2
      have g30 : gO M2 30 4 = true := b6.nd (x := 0) (by decide)
      rw [if_pos z, z]
      refine ⟨stI M3 2 15 1, ?_, fun _ => ⟨⟨⟨?_, ?_⟩, ⟨?_, ?_⟩, ?_, c2'⟩, ⟨P0, P1, P2, hprm, ?_, ?_, ?_, ws, ?_⟩, ⟨?_, ?_, ?_⟩, mI_at⟩, fun h => absurd ⟨q, z⟩ h, ?_, hG3.fj f4, (F2.trans (g3.fj (T := ddS) (fun a j q => by unfold eS at q; unfold ddS; omega) |>.fq fun a j q => q)).trans (f4.fq fun a j q => Or.inr (Or.inl q))⟩
      · rw [D_drive_41_eq, if_pos rfl, gD b6, gd_t, gd_t, gd_t, b6.r2_5, b6.gRs, gd_t, b6.r2_4, Rs_goalOf_eq, b6.gT, gd_t, hna, cR_s, if_neg (by decide), g30, gd_t, n30, cR_s, b6.r2_8, y22.g b6, gd_t, g1, cV_s, gD hG3, gd_t, gd_t, hG3.r2_4, hG3.gT, gd_t, i8]
      · exact d1.fjo t1 ((g3.fj (T := fun a j => (a = 769 ∨ a = 770) ∨ (a = 2 ∧ j = 15)) fun a j q => Or.inl (by unfold eS at q; omega)).trans (f4.mono fun a j q => Or.inr q)) fun a j q => by omega
      · intro i x hx
        rw [o3 _ _ (by have := hT.1.2.1 x (List.mem_of_getElem? hx); omega) (by omega)]
        exact d2 i x hx
      · rw [o3 _ _ (by omega) (by omega), o2 _ _ (rs_not qb1 (by omega))]; exact c3
      · rw [o3 _ _ (by omega) (by omega), o2 _ _ (rs_not qb1 (by omega))]; exact c4
      · rw [o3 _ _ (by omega) (by omega)]; exact d5
      · have : ∀ j, mR (stI M3 2 15 1) 2 j = mR M 2 j := fun j => (g3.2.1 _ _).trans (rr2 j)
        exact ⟨(this _).trans r10, (this _).trans r11, (this _).trans r12⟩
      · exact x02.ext fun a j q => o3 a j (by have := pS_ge qb0 q; omega) (by have := pS_ge qb0 q; omega)
      · exact d4.ext fun a j q => o3 a j (by have := pS_ge qb1 q; omega) (by have := pS_ge qb1 q; omega)
      · exact x22.ext fun a j q => o3 a j (by have := pS_ge qb2 q; omega) (by have := pS_ge qb2 q; omega)
      · exact y12.ext fun a j q => o3 a j (by omega) (by omega)
      · exact g2.fj f4 (by omega) (by omega)
      · exact fun i hi => (y32 i hi).ext fun a j q => o3 a j (by omega) (by omega)
      · obtain ⟨⟨k1, k2, k3⟩, ⟨k4, k5⟩, k6, k7⟩ := K2
        exact ⟨⟨k1.ext fun a j h1 h2 => o3 a j (by omega) (by omega), k2, k3.ext fun a j q => o3 a j (by omega) (by omega)⟩, ⟨k4, k5.ext fun a j q => o3 a j (by omega) (by omega)⟩, k6, k7.ext fun a j q => o3 a j (by omega) (by omega)⟩
    · rw [if_neg z, D_drive_41_eq, if_neg z]
      exact ⟨M2, rfl, fun h => absurd h.2 z, fun _ => ⟨⟨P0, P1, P2, hprm, ⟨(rr2 _).trans r10, (rr2 _).trans r11, (rr2 _).trans r12⟩, x02, b3 z, ws, x22⟩, ⟨y12, y22, y32⟩, i152⟩, K2, b6, F2⟩
  · unfold drv
    rw [if_neg q, if_neg q, D_drive_41_eq, if_neg q]
    exact ⟨M1, rfl, fun h => absurd h.1 q, fun _ => ⟨⟨P0, P1, P2, hprm, ⟨(rr _).trans r10, (rr _).trans r11, (rr _).trans r12⟩, x0, x1, ws, x2⟩, ⟨y1, y2, y3⟩, i15⟩, ⟨⟨a3, cs, z1⟩, a4, a5⟩, a6, F1⟩

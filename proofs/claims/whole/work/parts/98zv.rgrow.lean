/-! ===== the reference drives: the tree grows ===== -/
section RGROW
variable {zs : List Clz}
theorem drl_st {T : TS} {n nl fr tu : Nat} {st : Int} (h : st ≠ 0) : (drl zs n st T nl fr tu).1 = st := by
  cases n with
  | zero => rfl
  | succ n =>
    unfold drl
    rw [if_neg (fun q => h q.1)]
theorem gst_st {r : Int × TS × Nat × Nat × Nat} (h : r.1 ≠ 0) : gst r = r.1 := if_neg fun q => h q.1
theorem dk_q {a j : Nat} (h : (1274 ≤ a ∧ a ≤ 1280) ∨ (a = 1269 ∧ j < 47)) : ¬ dkS a j := by unfold dkS dtS; omega
theorem M_drive_loop (hzs : zsk 100 zs) (hok : okP zs) (hzl : zs.length ≤ 40) : ∀ (n : Nat) (T : TS) (nl fr tu : Nat) (M : Mem) (L1 N : List Nat), n ≤ 80 → Good M → RT M T → RQ M T → ROWP M 0 zs → (TI T.2.1 T.2.2 ∧ XOK T.1 T.2.1 ∧ FVL T.2.1) → LKD zs T L1 N → L1.length = nl → (1414 ≤ fr ∧ fr ≤ 1414 + 160 * (80 - n)) → tu ≤ 80 - n → mI M 1269 75 = (fr : Int) + 98586 → mI M 1269 74 = (tu : Int) → mI M 1269 76 = 0 → mI M 1269 73 = ((80 - n : Nat) : Int) → ∃ M', M_driveTree_48 1269 (hdi N) M = some (none, M') ∧ mI M' 1269 76 = gst (drl zs n 0 T nl fr tu) ∧ (gst (drl zs n 0 T nl fr tu) = 0 → (RT M' (drl zs n 0 T nl fr tu).2.1 ∧ RQ M' (drl zs n 0 T nl fr tu).2.1) ∧ mI M' 1269 73 = ((80 - (drl zs n 0 T nl fr tu).2.2.1 : Nat) : Int) ∧ mI M' 1269 74 = ((drl zs n 0 T nl fr tu).2.2.2.2 : Int)) ∧ Good M' ∧ Fj dkS M M' := by
  intro n
  induction n with
  | zero =>
    intro T nl fr tu M L1 N hn hG hR hQ hP hI hL hl hfr htu h75 h74 h76 h73
    have e : drl zs 0 0 T nl fr tu = (0, T, 0, nl, tu) := rfl
    rw [e]
    cases N with
    | nil =>
      have hz : gst ((0, T, 0, nl, tu) : Int × TS × Nat × Nat × Nat) = 0 := if_neg (fun q => by
        have q2 : nl < (lnF T.2.1).length := q.2
        rw [hL.1, List.append_nil] at q2; omega)
      rw [hz]
      refine ⟨M, ?_, h76, fun _ => ⟨⟨hR, hQ⟩, h73, h74⟩, hG, Fj.refl⟩
      rw [M_driveTree_48_eq]
      exact if_pos rfl
    | cons k R =>
      have hz : gst ((0, T, 0, nl, tu) : Int × TS × Nat × Nat × Nat) = -2 := if_pos ⟨rfl, by
        show nl < (lnF T.2.1).length
        rw [hL.1, List.length_append, List.length_cons]; omega⟩
      have f1 : Fj (fun a j => a = 1269 ∧ j = 76) M (stI M 1269 76 (-2)) := Fj.ofI ⟨rfl, rfl⟩
      rw [hz]
      refine ⟨stI M 1269 76 (-2), ?_, mI_at, fun h => absurd h (by decide), hG.fj f1, f1.mono fun a j q => by unfold dkS dtS; omega⟩
      show M_driveTree_48 1269 (k : Int) M = _
      rw [M_driveTree_48_eq, if_neg (by omega), hG.gM, gd_t, if_pos h76, gd_t, if_pos (show mI M 1269 73 = 80 from h73), gd_t, M_breaks_s hG h76, cI_s]
  | succ n ih =>
    intro T nl fr tu M L1 N hn hG hR hQ hP hI hL hl hfr htu h75 h74 h76 h73
    obtain ⟨hT, hX, hV⟩ := hI
    cases N with
    | nil =>
      have hlen : ¬ ((0 : Int) = 0 ∧ nl < (lnF T.2.1).length) := fun q => by
        have q2 := q.2
        rw [hL.1, List.append_nil] at q2; omega
      have e : drl zs (n + 1) 0 T nl fr tu = (0, T, n + 1, nl, tu) := by
        unfold drl
        exact if_neg hlen
      have hz : gst ((0, T, n + 1, nl, tu) : Int × TS × Nat × Nat × Nat) = 0 := if_neg hlen
      rw [e, hz]
      refine ⟨M, ?_, h76, fun _ => ⟨⟨hR, hQ⟩, h73, h74⟩, hG, Fj.refl⟩
      rw [M_driveTree_48_eq]
      exact if_pos rfl
    | cons k R =>
      have hlen : (0 : Int) = 0 ∧ nl < (lnF T.2.1).length := ⟨rfl, by rw [hL.1, List.length_append, List.length_cons]; omega⟩
      have hget : (lnF T.2.1).getD nl 0 = k := by
        rw [List.getD_eq_getElem?_getD, hL.1, List.getElem?_append_right (by omega), show nl - L1.length = 0 by omega]; rfl
      have e : drl zs (n + 1) 0 T nl fr tu = drl zs n (lok zs T k nl fr tu).1 (lok zs T k nl fr tu).2.1 (lok zs T k nl fr tu).2.2.1 (lok zs T k nl fr tu).2.2.2.1 (lok zs T k nl fr tu).2.2.2.2 := by
        conv => lhs; unfold drl
        rw [if_pos hlen, hget]
      have hkL : k ∈ lnF T.2.1 := by rw [hL.1]; simp
      have hU : UNL T.2.1 k := hL.2.2 k (by simp)
      have hTok : TOK T k := TOK.of0 hT hX hkL hU.1.2
      obtain ⟨M1, a1, ⟨⟨a2, a3⟩, a4⟩, a5, a6, a7⟩ := M_lookAt_s (nl := nl) hG hTok hR hQ hP hU (fr := fr) (tu := tu) (lk := 80 - (n + 1)) (by omega) (by omega) (by omega) h75 h74 h76 h73
      obtain ⟨c1, c2⟩ := lok_ok (fr := fr) (tu := tu) hzs hok hzl hT hX hL hV hl (by omega)
      have hP1 : ROWP M1 0 zs := hP.fj a7 (fun a j q => dk_q (Or.inl q))
      rw [e]
      have head : M_driveTree_48 1269 (hdi (k :: R)) M = if mI M1 1269 76 = 0 then cI (M_firstNew 1269 M1) fun r5 M4 => M_driveTree_48 1269 r5 M4 else M_driveTree_48 1269 (-1) M1 := by
        show M_driveTree_48 1269 (k : Int) M = _
        rw [M_driveTree_48_eq, if_neg (by omega), hG.gM, gd_t, if_pos h76, gd_t, if_neg (by omega), gd_t, a1, cV_s, a6.gM, gd_t, gd_t]
      rw [head]
      generalize hr : lok zs T k nl fr tu = r at *
      by_cases z : r.1 = 0
      · obtain ⟨b1, b2⟩ := a2 z
        obtain ⟨b3, b4, b5⟩ := a4 z
        obtain ⟨⟨L2, N2, d1, d2⟩, ⟨d3, d4⟩, d5⟩ := c2 z
        clear c2 a2 a3 a4
        obtain ⟨M', g1, g2, g3, g4, g5⟩ := ih r.2.1 r.2.2.1 r.2.2.2.1 r.2.2.2.2 M1 L2 N2 (by omega) a6 b1 b3 hP1 c1 d1 d2 (by omega) (by omega) b4 b5 b2 (by rw [a5, show 80 - (n + 1) + 1 = 80 - n by omega])
        rw [if_pos b2, M_firstNew_s a6 c1.1 b1 d1, cI_s, g1, z]
        exact ⟨M', rfl, g2, g3, g4, a7.trans g5⟩
      · have n76 := a3 z
        have n76 : mI M1 1269 76 = r.1 := n76
        have hs := drl_st (zs := zs) (T := r.2.1) (n := n) (nl := r.2.2.1) (fr := r.2.2.2.1) (tu := r.2.2.2.2) z
        rw [if_neg (by rw [n76]; exact z), gst_st (by rw [hs]; exact z), hs]
        refine ⟨M1, ?_, n76, fun h => absurd h z, a6, a7⟩
        rw [M_driveTree_48_eq, if_pos rfl]
theorem M_driveTree_s {M : Mem} {xs : List Int} (hG : Good M) (hP : ROWP M 0 zs) (hX : RX M 1288 100 0 xs) (h35 : mI M 1269 35 = (xs.length : Int)) (hw : wf 1 xs) : ∃ M', M_driveTree 1269 M = some (none, M') ∧ mI M' 1269 76 = gst (grw zs xs) ∧ (gst (grw zs xs) = 0 → (RT M' (grw zs xs).2.1 ∧ RQ M' (grw zs xs).2.1) ∧ mI M' 1269 73 = ((80 - (grw zs xs).2.2.1 : Nat) : Int) ∧ mI M' 1269 74 = ((grw zs xs).2.2.2.2 : Int)) ∧ Good M' ∧ Fj dkS M M' := by
  have hzs := hP.2.2.1
  have hok := hP.2.2.2
  have hzl := hP.1.2.2
  have hv := hX.2.2.2
  have F1 : Fj (fun a j => a = 1269 ∧ 72 ≤ j ∧ j ≤ 76) M (stI (stI (stI (stI (stI M 1269 72 0) 1269 73 0) 1269 74 0) 1269 75 100000) 1269 76 0) := ((((Fj.ofI (by omega)).trans (Fj.ofI (by omega))).trans (Fj.ofI (by omega))).trans (Fj.ofI (by omega))).trans (Fj.ofI (by omega))
  have hG1 := hG.fj F1
  have i72 : mI (stI (stI (stI (stI (stI M 1269 72 0) 1269 73 0) 1269 74 0) 1269 75 100000) 1269 76 0) 1269 72 = ((0 : Nat) : Int) := by rw [mI_ne (by omega), mI_ne (by omega), mI_ne (by omega), mI_ne (by omega), mI_at]; rfl
  have i73 : mI (stI (stI (stI (stI (stI M 1269 72 0) 1269 73 0) 1269 74 0) 1269 75 100000) 1269 76 0) 1269 73 = 0 := by rw [mI_ne (by omega), mI_ne (by omega), mI_ne (by omega), mI_at]
  have i74 : mI (stI (stI (stI (stI (stI M 1269 72 0) 1269 73 0) 1269 74 0) 1269 75 100000) 1269 76 0) 1269 74 = 0 := by rw [mI_ne (by omega), mI_ne (by omega), mI_at]
  have i75 : mI (stI (stI (stI (stI (stI M 1269 72 0) 1269 73 0) 1269 74 0) 1269 75 100000) 1269 76 0) 1269 75 = 100000 := by rw [mI_ne (by omega), mI_at]
  have i76 : mI (stI (stI (stI (stI (stI M 1269 72 0) 1269 73 0) 1269 74 0) 1269 75 100000) 1269 76 0) 1269 76 = 0 := mI_at
  have j35 : mI (stI (stI (stI (stI (stI M 1269 72 0) 1269 73 0) 1269 74 0) 1269 75 100000) 1269 76 0) 1269 35 = (xs.length : Int) := (F1.2.2 _ _ (by omega)).trans h35
  have head : M_driveTree 1269 M = cI (M_make 1269 1288 0 (xs.length : Int) (-1) (-1) (stI (stI (stI (stI (stI M 1269 72 0) 1269 73 0) 1269 74 0) 1269 75 100000) 1269 76 0)) fun r2 M1 => if r2 = 0 then some (none, M1) else M_driveTree_48 1269 0 M1 := by
    rw [M_driveTree_eq, hG.gM, gd_t, gd_t, gd_t, gd_t, gd_t, gd_t, gd_t, gd_t, hG.m29, j35]
  rw [head]
  have hX1 := hX.fj F1 (by omega)
  have hP1 := hP.fj F1 (by omega)
  clear head
  generalize stI (stI (stI (stI (stI M 1269 72 0) 1269 73 0) 1269 74 0) 1269 75 100000) 1269 76 0 = M1 at *
  have Fd : Fj dkS M M1 := F1.mono fun a j q => by unfold dkS dtS; omega
  obtain ⟨c1, -, c3⟩ := M_make_s (mk := 0) hG1 hX1 ⟨Or.inl (by decide), by decide, by decide⟩ i72 (by decide) i76 (-1) (-1)
  unfold grw
  by_cases q : 40 < xs.length
  · have c1 : M_make 1269 1288 0 (xs.length : Int) (-1) (-1) M1 = _ := c1 q
    have hz : gst ((-3, TS0 [], 80, 0, 0) : Int × TS × Nat × Nat × Nat) = -3 := gst_st (by decide)
    have f2 : Fj (fun a j => a = 1269 ∧ j = 76) M1 (stI M1 1269 76 (-3)) := Fj.ofI ⟨rfl, rfl⟩
    rw [if_pos q, hz, c1, cI_s, if_pos rfl]
    exact ⟨_, rfl, mI_at, fun h => absurd h (by decide), hG1.fj f2, Fd.trans (f2.mono fun a j q => by unfold dkS dtS; omega)⟩
  · obtain ⟨M2, d1, ⟨⟨d2, d3⟩, ⟨d4, d5⟩, d6, d7, d8⟩, d9, d10, d11, d12⟩ := c3 q (by decide)
    have d1 : M_make 1269 1288 0 (xs.length : Int) (-1) (-1) M1 = _ := d1
    obtain ⟨t1, t2⟩ := TS0_ok (zs := zs) hw hv (by omega : xs.length ≤ 40)
    have eX : (TS0 xs).1 0 = xs := by
      show upX (fun _ => []) 0 xs 0 = xs
      exact upX_at
    have hRT : RT M2 (TS0 xs) := by
      refine ⟨d9, fun x hx => ?_⟩
      have hx : x ∈ lnF rtF := hx
      rw [rtF_ln] at hx
      rw [List.mem_singleton.mp hx]
      refine ⟨⟨?_, ?_⟩, ⟨d4, d5⟩, ⟨d6, fun h => absurd rfl h⟩, d7, d8⟩
      · rw [eX]; exact d2
      · rw [eX]; exact d3
    have hRQ : RQ M2 (TS0 xs) := fun x _ => ⟨fun h => absurd (show (-1 : Int) = 3 from h) (by decide), fun h => absurd rfl h⟩
    have S : ∀ j, 73 ≤ j → j ≤ 75 → mI M2 1269 j = mI M1 1269 j := fun j q1 q2 => d12.2.2 _ _ (by unfold mkF; omega)
    obtain ⟨M3, g1, g2, g3, g4, g5⟩ := M_drive_loop hzs hok hzl 80 (TS0 xs) 0 1414 0 M2 [] [0] (Nat.le_refl _) d11 hRT hRQ (hP1.fj d12 (fun a j q => by unfold mkF; omega)) t1 t2 rfl (by decide) (by decide) ((S 75 (by decide) (by decide)).trans i75) ((S 74 (by decide) (by decide)).trans i74) d10 ((S 73 (by decide) (by decide)).trans i73)
    have g1 : M_driveTree_48 1269 0 M2 = some (none, M3) := g1
    rw [if_neg q, d1, cI_s, if_neg (by decide), g1]
    exact ⟨M3, rfl, g2, g3, g4, (Fd.trans (d12.mono fun a j q => by unfold mkF at q; unfold dkS dtS; omega)).trans g5⟩
end RGROW

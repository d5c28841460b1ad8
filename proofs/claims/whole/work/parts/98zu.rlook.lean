/-! ===== the reference looks at a node ===== -/
def dkS : Nat → Nat → Prop := fun a j => dtS a j ∨ (a = 1269 ∧ j = 73)
section RLOOK
variable {M : Mem} {T : TS} {k : Nat} {zs : List Clz}
theorem rb_dt {m0 a j : Nat} (q : rbS m0 a j) : dtS a j := by unfold rbS at q; unfold dtS; omega
/-- a kind is all that is set -/
theorem RLk.kind {nl fr tu : Nat} {v : Int} (hG : Good M) (hR : RT M T) (hQ : RQ M T) (hv : v ≠ 3) (h75 : mI M 1269 75 = (fr : Int) + 98586) (h74 : mI M 1269 74 = (tu : Int)) (h76 : mI M 1269 76 = 0) : RLk (stI M 1315 k v) (0, upK T k v, nl + 1, fr, tu) ∧ Good (stI M 1315 k v) ∧ Fj dtS M (stI M 1315 k v) := by
  obtain ⟨b1, b2, b3⟩ := RT.kind (k := k) hG hR v
  refine ⟨⟨⟨fun _ => ⟨b1, (b3.2.2 _ _ (by omega)).trans h76⟩, fun h => absurd rfl h⟩, fun _ => ⟨(hQ.fjo b3 (by omega)).kind hv, (b3.2.2 _ _ (by omega)).trans h75, (b3.2.2 _ _ (by omega)).trans h74⟩⟩, b2, b3.mono fun a j q => by unfold dtS; omega⟩
theorem M_lookAt_s {nl fr tu lk : Nat} (hG : Good M) (hT : TOK T k) (hR : RT M T) (hQ : RQ M T) (hP : ROWP M 0 zs) (hU : UNL T.2.1 k) (hfr : 1414 ≤ fr ∧ fr + 600 < 65536) (htu : tu < 1000) (hlk : lk < 1000) (h75 : mI M 1269 75 = (fr : Int) + 98586) (h74 : mI M 1269 74 = (tu : Int)) (h76 : mI M 1269 76 = 0) (h73 : mI M 1269 73 = (lk : Int)) : ∃ M', M_lookAt 1269 (k : Int) M = some (none, M') ∧ RLk M' (lok zs T k nl fr tu) ∧ mI M' 1269 73 = ((lk + 1 : Nat) : Int) ∧ Good M' ∧ Fj dkS M M' := by
  obtain ⟨hk1, hk2', hk3⟩ := hT.k
  obtain ⟨e1, e2, e3⟩ := hT.2.2 k hk1
  obtain ⟨⟨u1, u2⟩, u3, u4⟩ := hU
  have hlen := wf_len _ _ e1
  have hm := hT.1.1.2.2
  have f0 : Fj (fun a j => a = 1269 ∧ j = 73) M (stI M 1269 73 ((lk + 1 : Nat) : Int)) := Fj.ofI ⟨rfl, rfl⟩
  have hG0 := hG.fj f0
  have hR0 : RT (stI M 1269 73 ((lk + 1 : Nat) : Int)) T := hR.fjo f0 (by omega)
  have hQ0 : RQ (stI M 1269 73 ((lk + 1 : Nat) : Int)) T := hQ.fjo f0 (by omega)
  have hP0 : ROWP (stI M 1269 73 ((lk + 1 : Nat) : Int)) 0 zs := hP.fj f0 (by omega)
  have i73 : mI (stI M 1269 73 ((lk + 1 : Nat) : Int)) 1269 73 = ((lk + 1 : Nat) : Int) := mI_at
  have i75 := (f0.2.2 1269 75 (by omega)).trans h75
  have i74 := (f0.2.2 1269 74 (by omega)).trans h74
  have i76 := (f0.2.2 1269 76 (by omega)).trans h76
  have F0 : Fj dkS M (stI M 1269 73 ((lk + 1 : Nat) : Int)) := f0.mono fun a j q => Or.inr q
  have hXM := (hR.2 k hk1).rx (by omega) ⟨e1, e2, e3⟩
  have hX := (hR0.2 k hk1).rx (by omega) ⟨e1, e2, e3⟩
  have g0 : gS M 1309 0 ((40 * k : Nat) : Int) = true := hXM.gs hG (i := 0) (by omega)
  have hc := av_nth e2 (show 0 < (T.1 k).length by omega)
  have c0 : mI (stI M 1269 73 ((lk + 1 : Nat) : Int)) 1309 (40 * k) = cm (nth (T.1 k) 0) := hX.2.1 0 (by omega)
  have hk4 := kd_nn (nth (T.1 k) 0)
  have g15 : gS (stI M 1269 73 ((lk + 1 : Nat) : Int)) 1315 0 (k : Int) = true := hG0.tgS (arr_nd (by decide)) (by omega) (by omega)
  have i10 : mI (stI M 1269 73 ((lk + 1 : Nat) : Int)) 1310 k = ((T.1 k).length : Int) := (hR0.2 k hk1).1.2
  rw [M_lookAt_eq, hG.gM, gd_t, gd_t, gd_t, hG.m63, wr_id (x := (40 : Int) * (k : Int)) (by omega) (by omega), show (40 : Int) * (k : Int) = ((40 * k : Nat) : Int) by omega, g0, gd_t, h73, wr_s (by omega), toNat_n, c0, M_sortOf_s hc, cI_s]
  generalize hM0 : stI M 1269 73 ((lk + 1 : Nat) : Int) = M0 at *
  unfold lok
  by_cases k0 : kd (nth (T.1 k) 0) = 0
  · obtain ⟨b1, b2, b3⟩ := RLk.kind (k := k) (nl := nl) (v := 0) hG0 hR0 hQ0 (by decide) i75 i74 i76
    rw [if_pos k0, if_pos k0, if_pos k0, hG0.gM, gd_t, hG0.m69, g15, gd_t, toNat_n]
    exact ⟨_, rfl, b1, by rw [mI_ne (by omega)]; exact i73, b2, F0.trans (b3.mono fun a j q => Or.inl q)⟩
  rw [if_neg k0, if_neg k0, if_neg k0]
  by_cases k3 : kd (nth (T.1 k) 0) = 3
  · obtain ⟨b1, b2, b3⟩ := RLk.kind (k := k) (nl := nl) (v := 6) hG0 hR0 hQ0 (by decide) i75 i74 i76
    rw [if_pos k3, hG0.gM, gd_t, hG0.m69, g15, gd_t, toNat_n, if_neg (show ¬ kd (nth (T.1 k) 0) = 1 by omega), if_neg (show ¬ kd (nth (T.1 k) 0) = 2 by omega)]
    exact ⟨_, rfl, b1, by rw [mI_ne (by omega)]; exact i73, b2, F0.trans (b3.mono fun a j q => Or.inl q)⟩
  rw [if_neg k3]
  by_cases k1 : kd (nth (T.1 k) 0) = 1
  · obtain ⟨b1, b2, b3⟩ := RT.kind (k := k) hG0 hR0 1
    obtain ⟨M', a1, a2, a3, a4⟩ := M_args_loop (k := k) (m0 := T.2.2) (xs := T.1 k) (some (.inl (kd (nth (T.1 k) 0)))) e1 e2 (arN (nth (T.1 k) 0)) 0 (upB T k 4 1) _ none (Nat.le_refl T.2.2) (Nat.zero_add _) b2 (hT.up (by omega)) b1 rfl ((b3.2.2 _ _ (by omega)).trans i76)
    have a1 : M_lookAt_69 1269 (k : Int) ((40 * k : Nat) : Int) 1 0 (some (.inl (kd (nth (T.1 k) 0)))) none (stI M0 1315 k 1) = _ := a1
    rw [if_pos k1, if_pos k1, hG0.gM, gd_t, hG0.m69, g15, gd_t, toNat_n, a1]
    have F : Fj dtS M0 M' := (b3.mono fun a j q => by unfold dtS; omega).trans (a4.mono fun a j q => rb_dt q)
    have S : ∀ j, (j = 73 ∨ j = 74 ∨ j = 75) → mI M' 1269 j = mI M0 1269 j := fun j q => (a4.2.2 _ _ (by unfold rbS; omega)).trans (b3.2.2 _ _ (by omega))
    refine ⟨M', rfl, ⟨a2, fun _ => ⟨?_, (S 75 (by omega)).trans i75, (S 74 (by omega)).trans i74⟩⟩, (S 73 (by omega)).trans i73, a3, F0.trans (F.mono fun a j q => Or.inl q)⟩
    refine RQ.addL _ _ (((hQ0.fjo b3 (by omega)).kind (by decide)).fjo a4 (fun a j q => by
      have q : (a = 1317 ∨ a = 1328) ∧ j < T.2.2 := q
      show ¬ rbS T.2.2 a j
      unfold rbS; omega)) ?_
    have : ∀ (t j : Nat), ∀ x ∈ argL (T.1 k) t j, x.2.2 = -1 := by
      intro t
      induction t with
      | zero => intro j x hx; cases hx
      | succ t ih =>
        intro j x hx
        rcases List.mem_cons.mp hx with q | q
        · rw [q]
        · exact ih _ _ q
    exact this _ _
  have k2 : kd (nth (T.1 k) 0) = 2 := by omega
  rw [if_neg k1, if_neg k1, if_pos k2]
  have g10 : gS M0 1310 0 (k : Int) = true := hG0.tgS (arr_nd (by decide)) (by omega) (by omega)
  obtain ⟨M1, a1, a2, a3⟩ := M_copy_s hG0 (k := (T.1 k).length) (p := 40 * k) (q := 0) arr_1309 arr_1318 (by omega) (by omega) ⟨by decide, by decide⟩ (Or.inl (by decide))
  have a1 : M_copy 1309 ((40 * k : Nat) : Int) ((T.1 k).length : Int) 1318 0 M0 = some (none, M1) := a1
  have hG1 := hG0.fi a2
  have hW1 : RX M1 1318 41 0 (T.1 k) := by
    refine ⟨⟨arr_1318, by decide⟩, fun i hi => ?_, by omega, e2⟩
    rw [a3, if_pos (by omega), Nat.zero_add, Nat.sub_zero]
    exact hX.2.1 i hi
  have f1 : Fj (fun a j => a = 1318) M0 M1 := a2.fj fun a j q => q
  have f2 : Fj (fun a j => a = 1269 ∧ j = 47) M1 (stI M1 1269 47 0) := Fj.ofI ⟨rfl, rfl⟩
  have F2 : Fj (fun a j => a = 1318 ∨ (a = 1269 ∧ j = 47)) M0 (stI M1 1269 47 0) := (f1.mono fun a j q => Or.inl q).trans (f2.mono fun a j q => Or.inr q)
  have hG2 := hG0.fj F2
  have hP2 := hP0.fj F2 (by omega)
  have hW2 := hW1.fj f2 (by omega)
  obtain ⟨M3, c1, -, c4⟩ := M_lookC_s (p := 0) (zs := zs) (by decide) e2 e1 k2 hG2 hW2 hP2 mI_at
  have c1 : M_lookCall 1269 0 1318 (stI M1 1269 47 0) = _ := c1
  have F3 : Fj (fun a j => a = 1318 ∨ (a = 1269 ∧ 47 ≤ j ∧ j ≤ 49)) M0 M3 := (F2.mono fun a j q => by omega).trans (c4.mono fun a j q => by unfold lkS at q; omega)
  have hG3 := hG0.fj F3
  have hR3 : RT M3 T := hR0.fjo F3 (by omega)
  have hQ3 : RQ M3 T := hQ0.fjo F3 (by omega)
  have hP3 := hP0.fj F3 (by omega)
  have hW3 := hW2.fj c4 (fun j => by unfold lkS; omega)
  have S3 : ∀ j, 72 ≤ j → mI M3 1269 j = mI M0 1269 j := fun j q => F3.2.2 _ _ (by omega)
  have F3d : Fj dkS M M3 := F0.trans (F3.mono fun a j q => Or.inl (by unfold dtS; omega))
  rw [hG0.gM, gd_t, gd_t, hG0.m64, g10, gd_t, gd_t, hG0.m63, hG0.m78, toNat_n, i10, a1, cV_s, hG1.gM, gd_t, gd_t, gd_t, hG1.m78, c1, cI_s]
  rcases fnx_st zs (T.1 k) 0 with s1 | s45
  · obtain ⟨b1, b2, b3⟩ := RLk.kind (k := k) (nl := nl) (v := 6) hG3 hR3 hQ3 (by decide) ((S3 75 (by decide)).trans i75) ((S3 74 (by decide)).trans i74) ((S3 76 (by decide)).trans i76)
    rw [if_pos s1, if_pos (show lkR (fnx zs (T.1 k) 0).1 = 1 by rw [s1]; rfl), hG3.gM, gd_t, hG3.m69, hG3.tgS (arr_nd (by decide)) (by omega) (by omega), gd_t]
    exact ⟨_, rfl, b1, by rw [mI_ne (by omega)]; exact (S3 73 (by decide)).trans i73, b2, F3d.trans (b3.mono fun a j q => Or.inl q)⟩
  · have s1 : ¬ (fnx zs (T.1 k) 0).1 = 1 := by omega
    have hT0 : TOK (bkS (fnx zs (T.1 k) 0) T k (T.1 k)) k ∧ (bkS (fnx zs (T.1 k) 0) T k (T.1 k)).1 = T.1 ∧ RT M3 (bkS (fnx zs (T.1 k) 0) T k (T.1 k)) ∧ RQ M3 (bkS (fnx zs (T.1 k) 0) T k (T.1 k)) ∧ ((fnx zs (T.1 k) 0).1 = 5 → (bkS (fnx zs (T.1 k) 0) T k (T.1 k)).2.1 k 10 = nth (T.1 k) ((fnx zs (T.1 k) 0).2.1 + 1)) ∧ (bkS (fnx zs (T.1 k) 0) T k (T.1 k)).2.1 k 14 = -1 := by
      unfold bkS
      by_cases s5 : (fnx zs (T.1 k) 0).1 = 5
      · rw [if_pos s5]
        refine ⟨hT.up (by omega), rfl, hR3.same (lnF_cong fun x _ => ⟨upF_ne (by omega), upF_ne (by omega)⟩) (fun x _ f hf => upF_ne (by omega)), fun y hy => ?_, fun _ => upF_at, (upF_ne (by omega)).trans u4⟩
        have := hQ3 y hy
        show (upF T.2.1 k 10 (nth (T.1 k) ((fnx zs (T.1 k) 0).2.1 + 1)) y 4 = 3 → mI M3 1317 y = nmo (upF T.2.1 k 10 (nth (T.1 k) ((fnx zs (T.1 k) 0).2.1 + 1)) y 10)) ∧ (upF T.2.1 k 10 (nth (T.1 k) ((fnx zs (T.1 k) 0).2.1 + 1)) y 12 ≠ -1 → fro M3 y (upF T.2.1 k 10 (nth (T.1 k) ((fnx zs (T.1 k) 0).2.1 + 1)) y 12))
        rw [upF_ne (b := 4) (by omega), upF_ne (b := 12) (by omega)]
        refine ⟨fun q => ?_, this.2⟩
        by_cases e : y = k
        · subst e; rw [u1] at q; exact absurd q (by decide)
        · rw [upF_ne (by omega)]; exact this.1 q
      · rw [if_neg s5]
        exact ⟨hT, rfl, hR3, hQ3, fun q => absurd q s5, u4⟩
    obtain ⟨t1, t2, t3, t4, t5, t6⟩ := hT0
    generalize hB : bkS (fnx zs (T.1 k) 0) T k (T.1 k) = T0 at *
    obtain ⟨M4, d1, d2, d3, d4⟩ := M_lookBelow_s (T := T0) (nl := nl) (fr := fr) (tu := tu) hG3 t1 t3 t4 hP3 (by rw [t2]; exact hW3) (by rw [t2]; exact k2) (by rw [t2]; exact s45) (by rw [t2]; exact t5) t6 hfr htu ((S3 75 (by decide)).trans i75) ((S3 74 (by decide)).trans i74) ((S3 76 (by decide)).trans i76)
    rw [t2] at d1 d2
    have k73 : mI M4 1269 73 = ((lk + 1 : Nat) : Int) := ((d4.2.2 _ _ (by unfold dtS; omega)).trans (S3 73 (by decide))).trans i73
    have F4 : Fj dkS M M4 := F3d.trans (d4.mono fun a j q => Or.inl q)
    rw [if_neg s1]
    rcases s45 with s4 | s5
    · have el : lkR (fnx zs (T.1 k) 0).1 = 2 := by rw [s4]; rfl
      have ei : itS (fnx zs (T.1 k) 0) = 2 := if_neg (by omega)
      rw [ei] at d1
      rw [el, if_neg (by decide), if_pos rfl, hG3.gM, gd_t, d1, cV_s]
      exact ⟨M4, rfl, d2, k73, d3, F4⟩
    · have el : lkR (fnx zs (T.1 k) 0).1 = 3 := by rw [s5]; rfl
      have ei : itS (fnx zs (T.1 k) 0) = 3 := if_pos s5
      rw [ei] at d1
      rw [el, if_neg (by decide), if_neg (by decide), hG3.gM, gd_t, d1, cV_s]
      exact ⟨M4, rfl, d2, k73, d3, F4⟩
end RLOOK

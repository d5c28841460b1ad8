/-! ===== the reference looks below a call ===== -/
section RLOOKB
variable {M : Mem} {T : TS} {k : Nat} {zs : List Clz}
theorem upB_same {f : Nat} {v : Int} (h : T.2.1 k f = v) : upB T k f v = T := by
  have e : upF T.2.1 k f v = T.2.1 := by
    funext a b
    by_cases q : a = k ∧ b = f
    · obtain ⟨rfl, rfl⟩ := q
      rw [upF_at, h]
    · exact upF_ne q
  show (T.1, upF T.2.1 k f v, T.2.2) = T
  rw [e]
theorem nr_dt {a j : Nat} (q : nrS a j) : dtS a j := by unfold nrS mimS leS at q; unfold dtS; omega
theorem M_lookBelow_s {nl fr tu : Nat} (hG : Good M) (hT : TOK T k) (hR : RT M T) (hQ : RQ M T) (hP : ROWP M 0 zs) (hW : RX M 1318 41 0 (T.1 k)) (hk2 : kd (nth (T.1 k) 0) = 2) (h45 : (fnx zs (T.1 k) 0).1 = 4 ∨ (fnx zs (T.1 k) 0).1 = 5) (h10 : (fnx zs (T.1 k) 0).1 = 5 → T.2.1 k 10 = nth (T.1 k) ((fnx zs (T.1 k) 0).2.1 + 1)) (h14 : T.2.1 k 14 = -1) (hfr : 1414 ≤ fr ∧ fr + 600 < 65536) (htu : tu < 1000) (h75 : mI M 1269 75 = (fr : Int) + 98586) (h74 : mI M 1269 74 = (tu : Int)) (h76 : mI M 1269 76 = 0) : ∃ M', M_lookBelow 1269 (k : Int) (itS (fnx zs (T.1 k) 0)) M = some (none, M') ∧ RLk M' (lkSp zs (fnx zs (T.1 k) 0) T k (T.1 k) nl fr tu) ∧ Good M' ∧ Fj dtS M M' := by
  obtain ⟨hk1, hk2', hk3⟩ := hT.k
  obtain ⟨e1, e2, e3⟩ := hT.2.2 k hk1
  obtain ⟨M1, a1, a2, a3, a4⟩ := M_nearest_s hG hT.1 hT.2.2 hR hk1 (its := itS (fnx zs (T.1 k) 0)) true
  rw [if_pos rfl] at a1
  have a1 : M_nearest 1269 (k : Int) (itS (fnx zs (T.1 k) 0)) 1 M = _ := a1
  have S1 : ∀ j, 72 ≤ j → mI M1 1269 j = mI M 1269 j := fun j q => a4.2.2 _ _ (by unfold nrS mimS leS; omega)
  rw [M_lookBelow_eq, hG.gM, gd_t, a1, cI_s]
  unfold lkSp
  by_cases g1 : foS T k (T.1 k) (itS (fnx zs (T.1 k) 0)) = -1
  · -- not folded
    obtain ⟨M3, b1, b2, b3, b4⟩ := M_nearest_s a3 hT.1 hT.2.2 a2 hk1 (its := itS (fnx zs (T.1 k) 0)) false
    rw [if_neg (by decide)] at b1
    have b1 : M_nearest 1269 (k : Int) (itS (fnx zs (T.1 k) 0)) 0 M1 = _ := b1
    have F3 : Fj nrS M M3 := a4.trans b4
    have S3 : ∀ j, 72 ≤ j → mI M3 1269 j = mI M 1269 j := fun j q => F3.2.2 _ _ (by unfold nrS mimS leS; omega)
    have hQ3 : RQ M3 T := hQ.fjo F3 (fun a j q => by unfold nrS mimS leS; omega)
    have hP3 : ROWP M3 0 zs := hP.fj F3 (fun a j q => by unfold nrS mimS leS; omega)
    have hW3 : RX M3 1318 41 0 (T.1 k) := hW.fj F3 (fun j => by unfold nrS mimS leS; omega)
    rw [if_pos g1, a3.gM, gd_t, b1, cI_s, if_neg (show ¬ (foS T k (T.1 k) (itS (fnx zs (T.1 k) 0)) ≠ -1) from fun q => q g1)]
    by_cases g2 : cpS T k (T.1 k) (itS (fnx zs (T.1 k) 0)) = -1
    · rw [if_pos g2, if_pos g2, b3.gM, gd_t, upB_same h14]
      rcases h45 with s4 | s5
      · obtain ⟨M4, c1, c2, c3, c4⟩ := M_goStep_s (nl := nl) (fr := fr) (tu := tu) b3 hT b2 hQ3 hP3 hW3 hk2 s4 ((S3 75 (by decide)).trans h75) ((S3 74 (by decide)).trans h74) ((S3 76 (by decide)).trans h76)
        have ei : itS (fnx zs (T.1 k) 0) = 2 := if_neg (by omega)
        rw [ei, c1, cV_s]
        exact ⟨M4, rfl, c2, c3, (F3.mono fun a j q => nr_dt q).trans c4⟩
      · obtain ⟨M4, c1, c2, c3, c4⟩ := M_goSplit_s (nl := nl) (fr := fr) (tu := tu) b3 hT b2 hQ3 hP3 hW3 hk2 s5 (h10 s5) hfr ((S3 75 (by decide)).trans h75) ((S3 74 (by decide)).trans h74) ((S3 76 (by decide)).trans h76)
        have ei : itS (fnx zs (T.1 k) 0) = 3 := if_pos s5
        rw [ei, c1, cV_s]
        exact ⟨M4, rfl, c2, c3, (F3.mono fun a j q => nr_dt q).trans c4⟩
    · -- one above is coupled in it
      have hup : T.2.1 k 15 = -1 ∨ (0 ≤ T.2.1 k 15 ∧ (T.2.1 k 15).toNat ∈ lnF T.2.1) := (hT.1.uok k hk1).imp_right fun q => ⟨q.1, q.2.2⟩
      have hcp : cpS T k (T.1 k) (itS (fnx zs (T.1 k) 0)) = -1 ∨ (0 ≤ cpS T k (T.1 k) (itS (fnx zs (T.1 k) 0)) ∧ (cpS T k (T.1 k) (itS (fnx zs (T.1 k) 0))).toNat ∈ lnF T.2.1 ∧ pCpl T.1 T.2.1 (T.1 k) (itS (fnx zs (T.1 k) 0)) (cpS T k (T.1 k) (itS (fnx zs (T.1 k) 0))).toNat = true ∧ cpS T k (T.1 k) (itS (fnx zs (T.1 k) 0)) ≤ T.2.1 k 15) := nrs_spec (P := pCpl T.1 T.2.1 (T.1 k) (itS (fnx zs (T.1 k) 0))) hT.1.uok 121 (T.2.1 k 15) hup
      obtain ⟨r1, r2, r3, r4⟩ := hcp.resolve_left g2
      rw [if_neg g2, if_neg g2, upB_same h14]
      obtain ⟨g, hg⟩ := Int.eq_ofNat_of_zero_le r1
      rw [hg, toNat_n] at r2
      rw [hg, toNat_n]
      have hgm := hT.1.1.2.1 g r2
      obtain ⟨f1, f2, f3⟩ := hT.2.2 g r2
      have hXk := (b2.2 k hk1).rx (by omega) ⟨e1, e2, e3⟩
      have hXg := (b2.2 g r2).rx (by omega) ⟨f1, f2, f3⟩
      obtain ⟨M4, c1, c2, c3⟩ := M_isInstance_s ⟨by decide, by decide, by decide⟩ ⟨by decide, by decide, by decide⟩ e1 f1 f3 b3 hXk hXg
      have hG4 := b3.fj c3
      have F4 : Fj nrS M M4 := F3.trans (c3.mono fun a j q => Or.inl q)
      have S4 : ∀ j, 72 ≤ j → mI M4 1269 j = mI M 1269 j := fun j q => F4.2.2 _ _ (by unfold nrS mimS leS; omega)
      have hQ4 : RQ M4 T := hQ.fjo F4 (fun a j q => by unfold nrS mimS leS; omega)
      have hR4 : RT M4 T := hR.fjo F4 (fun a j q => by unfold nrS mimS leS; omega)
      rw [b3.gM, gd_t, gd_t, gd_t, b3.m63, wr_id (x := (40 : Int) * (k : Int)) (by omega) (by omega), wr_id (x := (40 : Int) * (g : Int)) (by omega) (by omega), show (40 : Int) * (k : Int) = ((40 * k : Nat) : Int) by omega, show (40 : Int) * (g : Int) = ((40 * g : Nat) : Int) by omega, c1, cI_s]
      unfold lkL
      cases hin : insg (T.1 k) (T.1 g) 0 [] with
      | some ps =>
        obtain ⟨m1, m2, m3, m4⟩ := c2 ps hin
        obtain ⟨M5, d1, d2, d3, d4⟩ := M_letBelow_s (g := g) hG4 hT hR4 r2 m1 (fun q hq => m2 q hq) (by omega) ((S4 76 (by decide)).trans h76)
        rw [if_neg (show ¬ okO (some ps) = 0 from (by decide : ¬ (1 : Int) = 0)), hG4.gM, gd_t, d1, cV_s]
        refine ⟨M5, rfl, ⟨d2, fun _ => ⟨?_, ?_, ?_⟩⟩, d3, (F4.mono fun a j q => nr_dt q).trans (d4.mono fun a j q => by unfold rbS at q; unfold dtS; omega)⟩
        · refine RQ.addL _ _ ((hQ4.fjo d4 (fun a j q => by unfold rbS; omega)).kind (by decide)) fun x hx => ?_
          rcases List.mem_cons.mp hx with q | q
          · rw [q]
          · obtain ⟨s, -, hs⟩ := List.mem_map.mp q
            rw [← hs]
        · exact ((d4.2.2 _ _ (by unfold rbS; omega)).trans (S4 75 (by decide))).trans h75
        · exact ((d4.2.2 _ _ (by unfold rbS; omega)).trans (S4 74 (by decide))).trans h74
      | none =>
        obtain ⟨l1, l2, -⟩ := com_len (xs := T.1 g) (ys := T.1 k) (bs := (fr : Int)) (T.1 g).length 0 0 [] (Nat.zero_le _)
        rw [List.length_nil] at l2
        have l3 := com_ok (xs := T.1 g) (ys := T.1 k) (bs := (fr : Int)) (by omega) f2 (T.1 g).length 0 0 1 [] (Nat.zero_le _) (by omega) (by rw [List.length_nil]; omega) (by rw [List.drop_zero]; exact f1)
        have l4 := com_ps2 (xs := T.1 g) (ys := T.1 k) (bs := (fr : Int)) f2 f1 e1 (T.1 g).length 0 0 1 [] (by rw [List.drop_zero]; exact f1) (by rw [List.drop_zero]; exact e1) (fun q hq => absurd hq List.not_mem_nil)
        obtain ⟨M5, d1, d2, ⟨d3, d4⟩, d5, d6⟩ := M_turnUp_s (b := (com (T.1 g) (T.1 k) fr (T.1 g).length 0 0 []).1) (ps := (com (T.1 g) (T.1 k) fr (T.1 g).length 0 0 []).2) hG4 hT.1 hT.2.2 hR4 r2 hk1 (by omega) htu ((S4 75 (by decide)).trans h75) ((S4 74 (by decide)).trans h74) ((S4 76 (by decide)).trans h76) rfl ⟨l3.1, l3.2, by omega⟩ (fun q hq => (l4 q hq).1) (by omega)
        rw [if_pos (show okO (none : Option Prs) = 0 from rfl), hG4.gM, gd_t, d1, cV_s]
        refine ⟨M5, rfl, ⟨d2, fun _ => ⟨?_, d3, d4⟩⟩, d5, (F4.mono fun a j q => nr_dt q).trans (d6.mono fun a j q => by unfold rtS rbS mcmS mkmS at q; unfold dtS; omega)⟩
        have hQ5 : RQ M5 T := hQ4.fjo d6 (fun a j q => by unfold rtS rbS mcmS mkmS; omega)
        have hQ6 : RQ M5 (T.1, upF T.2.1 g 8 0, T.2.2) := fun y hy => by
          show (upF T.2.1 g 8 0 y 4 = 3 → mI M5 1317 y = nmo (upF T.2.1 g 8 0 y 10)) ∧ (upF T.2.1 g 8 0 y 12 ≠ -1 → fro M5 y (upF T.2.1 g 8 0 y 12))
          rw [upF_ne (b := 10) (by omega), upF_ne (b := 12) (by omega), upF_ne (b := 4) (by omega)]
          exact hQ5 y hy
        refine RQ.addL _ _ (hQ6.kind (k := g) (v := 5) (by decide)) fun x hx => ?_
        rcases List.mem_cons.mp hx with q | q
        · rw [q]
        · obtain ⟨s, -, hs⟩ := List.mem_map.mp q
          rw [← hs]
  · -- folded
    obtain ⟨b1, b2, b3⟩ := RT.kind (k := k) a3 a2 4
    have hup : T.2.1 k 15 = -1 ∨ (0 ≤ T.2.1 k 15 ∧ (T.2.1 k 15).toNat ∈ lnF T.2.1) := (hT.1.uok k hk1).imp_right fun q => ⟨q.1, q.2.2⟩
    rw [if_neg g1, if_pos g1, a3.gM, gd_t, a3.m69, a3.tgS (arr_nd (by decide)) (by omega) (by omega), gd_t, gd_t, a3.m70, a3.tgS (arr_nd (by decide)) (by omega) (by omega), gd_t, toNat_n]
    generalize hv : foS T k (T.1 k) (itS (fnx zs (T.1 k) 0)) = v at *
    have f2 : Fj (fun a j => (a = 1315 ∨ a = 1316) ∧ j = k) M1 (stI (stI M1 1315 k 4) 1316 k v) := (b3.mono fun a j q => by omega).trans (Fj.ofI (by omega))
    have hQ1 : RQ M1 T := hQ.fjo a4 (fun a j q => by unfold nrS mimS leS; omega)
    have hl : lnF (upF T.2.1 k 4 4) = lnF T.2.1 := lnF_cong fun x _ => ⟨upF_ne (by omega), upF_ne (by omega)⟩
    have hl2 : lnF (upF (upF T.2.1 k 14 v) k 4 4) = lnF T.2.1 := lnF_cong fun x _ => ⟨by rw [upF_ne (by omega), upF_ne (by omega)], by rw [upF_ne (by omega), upF_ne (by omega)]⟩
    have hRT : RT (stI (stI M1 1315 k 4) 1316 k v) (upB (upB T k 14 v) k 4 4) := by
      refine ⟨(f2.2.2 _ _ (by omega)).trans a2.1, fun x hx => ?_⟩
      have hx : x ∈ lnF (upF (upF T.2.1 k 14 v) k 4 4) := hx
      rw [hl2] at hx
      obtain ⟨⟨h1, h2⟩, ⟨h3, h4⟩, ⟨h5, h6⟩, h7, h8⟩ := a2.2 x hx
      have e : ∀ f, f ≠ 4 → f ≠ 14 → upF (upF T.2.1 k 14 v) k 4 4 x f = T.2.1 x f := fun f hf hf2 => by rw [upF_ne (by omega), upF_ne (by omega)]
      refine ⟨⟨fun i hi => (f2.2.2 _ _ (by omega)).trans (h1 i hi), (f2.2.2 _ _ (by omega)).trans h2⟩, ⟨((f2.2.2 _ _ (by omega)).trans h3).trans (e 15 (by decide) (by decide)).symm, ((f2.2.2 _ _ (by omega)).trans h4).trans (e 5 (by decide) (by decide)).symm⟩, ⟨((f2.2.2 _ _ (by omega)).trans h5).trans (e 8 (by decide) (by decide)).symm, fun q => ?_⟩, ?_, ?_⟩
      · have q : upF (upF T.2.1 k 14 v) k 4 4 x 8 ≠ 0 := q
        rw [e 8 (by decide) (by decide)] at q
        exact ((f2.2.2 _ _ (by omega)).trans (h6 q)).trans (e 16 (by decide) (by decide)).symm
      · show mI (stI (stI M1 1315 k 4) 1316 k v) 1315 x = upF (upF T.2.1 k 14 v) k 4 4 x 4
        by_cases z : x = k
        · subst z; rw [mI_ne (by omega), mI_at, upF_at]
        · rw [mI_ne (by omega), mI_ne (by omega), upF_ne (by omega), upF_ne (by omega)]; exact h7
      · show mI (stI (stI M1 1315 k 4) 1316 k v) 1316 x = upF (upF T.2.1 k 14 v) k 4 4 x 14
        by_cases z : x = k
        · subst z; rw [mI_at, upF_ne (by omega), upF_at]
        · rw [mI_ne (by omega), mI_ne (by omega), upF_ne (by omega), upF_ne (by omega)]; exact h8
    have hQ2 : RQ (stI (stI M1 1315 k 4) 1316 k v) (upB (upB T k 14 v) k 4 4) := by
      refine RQ.kind (v := 4) (fun y hy => ?_) (by decide)
      show (upF T.2.1 k 14 v y 4 = 3 → mI _ 1317 y = nmo (upF T.2.1 k 14 v y 10)) ∧ (upF T.2.1 k 14 v y 12 ≠ -1 → fro _ y (upF T.2.1 k 14 v y 12))
      rw [upF_ne (b := 10) (by omega), upF_ne (b := 12) (by omega), upF_ne (b := 4) (by omega)]
      exact (hQ1.fjo f2 (by omega)) y hy
    refine ⟨_, rfl, ⟨⟨fun _ => ⟨hRT, ?_⟩, fun h => absurd rfl h⟩, fun _ => ⟨hQ2, ?_, ?_⟩⟩, a3.fj f2, (a4.mono fun a j q => nr_dt q).trans (f2.mono fun a j q => by unfold dtS; omega)⟩
    · exact ((f2.2.2 _ _ (by omega)).trans (S1 76 (by decide))).trans h76
    · exact ((f2.2.2 _ _ (by omega)).trans (S1 75 (by decide))).trans h75
    · exact ((f2.2.2 _ _ (by omega)).trans (S1 74 (by decide))).trans h74
end RLOOKB

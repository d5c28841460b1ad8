/-! ===== one look keeps what holds: all kinds ===== -/
theorem lok_ok {zs : List Clz} {T : TS} {k nl fr tu : Nat} {L1 R : List Nat} (hzs : zsk 100 zs) (hok : okP zs) (hzl : zs.length ≤ 40) (hT : TI T.2.1 T.2.2) (hX : XOK T.1 T.2.1) (hL : LKD zs T L1 (k :: R)) (hV : FVL T.2.1) (hnl : L1.length = nl) (hfr : fr + 400 < 65536) : (TI (lok zs T k nl fr tu).2.1.2.1 (lok zs T k nl fr tu).2.1.2.2 ∧ XOK (lok zs T k nl fr tu).2.1.1 (lok zs T k nl fr tu).2.1.2.1 ∧ FVL (lok zs T k nl fr tu).2.1.2.1) ∧ ((lok zs T k nl fr tu).1 = 0 → (∃ L1' N, LKD zs (lok zs T k nl fr tu).2.1 L1' N ∧ L1'.length = (lok zs T k nl fr tu).2.2.1) ∧ (fr ≤ (lok zs T k nl fr tu).2.2.2.1 ∧ (lok zs T k nl fr tu).2.2.2.1 ≤ fr + 160) ∧ (lok zs T k nl fr tu).2.2.2.2 ≤ tu + 1) := by
  have hkL : k ∈ lnF T.2.1 := by rw [hL.1]; simp
  have hkm := hT.1.2.1 k hkL
  have hm120 := hT.1.2.2
  obtain ⟨⟨u4, u8⟩, u10, u14⟩ := hL.2.2 k (by simp)
  obtain ⟨e1, e2, e3⟩ := hX k hkL
  have hlen := wf_len _ _ e1
  -- what adding comes to
  have add : ∀ (T1 : TS) (es : List Kd3) (fr' : Nat), T1.1 = T.1 → T1.2.2 = T.2.2 → (∀ x f, ¬ (x = k ∧ (f = 4 ∨ f = 10 ∨ f = 14)) → T1.2.1 x f = T.2.1 x f) → ((-1 ≤ T1.2.1 k 14 ∧ T1.2.1 k 14 < 120) ∧ (T1.2.1 k 14 = -1 ∨ T1.2.1 k 4 = 4)) → (∀ e ∈ es, wf 1 e.1 ∧ av e.1) → (∀ (Y : Nat → List Int) (G : FT), (∀ a, a < T.2.2 → Y a = T.1 a) → (∀ f, f ≠ 8 → f ≠ 16 → G k f = T1.2.1 k f) → (∀ a, a < T.2.2 → a ≠ k → ∀ f, G a f = T.2.1 a f) → KL Y G k es → NS zs Y G k) → (fr ≤ fr' ∧ fr' ≤ fr + 160) → ∀ r : LkR, r = lkA k es T1 (nl + 1) fr' tu → (TI r.2.1.2.1 r.2.1.2.2 ∧ XOK r.2.1.1 r.2.1.2.1 ∧ FVL r.2.1.2.1) ∧ (r.1 = 0 → (∃ L1' N, LKD zs r.2.1 L1' N ∧ L1'.length = r.2.2.1) ∧ (fr ≤ r.2.2.2.1 ∧ r.2.2.2.1 ≤ fr + 160) ∧ r.2.2.2.2 ≤ tu + 1) := by
    intro T1 es fr' h1 h2 h3 h4 h5 h6 h7 r hr
    subst hr
    obtain ⟨a1, a2⟩ := step_add hT hX hL hV ⟨h1, h2⟩ h3 h4 h5 h6
    refine ⟨a1, fun q => ⟨?_, h7, Nat.le_succ _⟩⟩
    obtain ⟨N, b⟩ := a2 q
    exact ⟨L1 ++ [k], N, b, by rw [List.length_append, List.length_singleton, hnl]; rfl⟩
  have upk : ∀ (T1 : TS) (v : Int) (x f : Nat), ¬ (x = k ∧ f = 4) → (upK T1 k v).2.1 x f = T1.2.1 x f := fun T1 v x f h => upF_ne h
  have upk4 : ∀ (T1 : TS) (v : Int), (upK T1 k v).2.1 k 4 = v := fun T1 v => upF_at
  unfold lok
  by_cases q0 : kd (nth (T.1 k) 0) = 0
  · rw [if_pos q0]
    refine add (upK T k 0) [] fr rfl rfl (fun x f h => upk _ _ x f (by omega)) (by rw [upk _ _ _ 14 (by omega)]; omega) (fun e he => by cases he) (fun Y G hY hG hG2 hK => Or.inl ⟨?_, hK.1, ?_⟩) (by omega) _ rfl
    · rw [hG 4 (by decide) (by decide), upk4]
    · rw [hY k hkm]; exact q0
  rw [if_neg q0]
  by_cases q1 : kd (nth (T.1 k) 0) = 1
  · rw [if_pos q1]
    refine add (upK T k 1) (argL (T.1 k) (arN (nth (T.1 k) 0)) 0) fr rfl rfl (fun x f h => upk _ _ x f (by omega)) (by rw [upk _ _ _ 14 (by omega)]; omega) (argL_ok (b := 0) e1 e2 _ 0 (by omega)) (fun Y G hY hG hG2 hK => Or.inr (Or.inl ⟨?_, ?_, ?_⟩)) (by omega) _ rfl
    · rw [hG 4 (by decide) (by decide), upk4]
    · rw [hY k hkm]; exact q1
    · rw [hY k hkm]; exact hK
  rw [if_neg q1]
  have six : (TI (upK T k 6).2.1 (upK T k 6).2.2 ∧ XOK (upK T k 6).1 (upK T k 6).2.1 ∧ FVL (upK T k 6).2.1) ∧ ((0 : Int) = 0 → (∃ L1' N, LKD zs (upK T k 6) L1' N ∧ L1'.length = nl + 1) ∧ (fr ≤ fr ∧ fr ≤ fr + 160) ∧ tu ≤ tu + 1) := by
    refine add (upK T k 6) [] fr rfl rfl (fun x f h => upk _ _ x f (by omega)) (by rw [upk _ _ _ 14 (by omega)]; omega) (fun e he => by cases he) (fun Y G hY hG hG2 hK => Or.inr (Or.inr (Or.inr (Or.inr (Or.inr (Or.inr ⟨?_, hK.1⟩)))))) (by omega) _ rfl
    rw [hG 4 (by decide) (by decide), upk4]
  by_cases q2 : kd (nth (T.1 k) 0) = 2
  · rw [if_pos q2]
    by_cases s1 : (fnx zs (T.1 k) 0).1 = 1
    · rw [if_pos s1]; exact six
    · rw [if_neg s1]
      have hst := fnx_st zs (T.1 k) 0
      -- the blocking one
      have hb0 : ∀ x f, ¬ (x = k ∧ f = 10) → (bkS (fnx zs (T.1 k) 0) T k (T.1 k)).2.1 x f = T.2.1 x f := by
        intro x f h
        unfold bkS
        split
        · exact upF_ne h
        · rfl
      have hb10 : (bkS (fnx zs (T.1 k) 0) T k (T.1 k)).2.1 k 10 = if (fnx zs (T.1 k) 0).1 = 5 then nth (T.1 k) ((fnx zs (T.1 k) 0).2.1 + 1) else -1 := by
        unfold bkS
        split
        · exact upF_at
        · exact u10
      have hbX : (bkS (fnx zs (T.1 k) 0) T k (T.1 k)).1 = T.1 ∧ (bkS (fnx zs (T.1 k) 0) T k (T.1 k)).2.2 = T.2.2 := by
        unfold bkS
        split <;> exact ⟨rfl, rfl⟩
      have hTb : TI (bkS (fnx zs (T.1 k) 0) T k (T.1 k)).2.1 T.2.2 ∧ lnF (bkS (fnx zs (T.1 k) 0) T k (T.1 k)).2.1 = lnF T.2.1 := hT.upd fun x f hf => hb0 x f (by omega)
      generalize bkS (fnx zs (T.1 k) 0) T k (T.1 k) = T0 at *
      have hub : ∀ (v : Int) (x f : Nat), ¬ (x = k ∧ (f = 10 ∨ f = 14)) → (upB T0 k 14 v).2.1 x f = T.2.1 x f := fun v x f h => (upF_ne (by omega)).trans (hb0 x f (by omega))
      have hub14 : ∀ v : Int, (upB T0 k 14 v).2.1 k 14 = v := fun v => upF_at
      have hub10 : ∀ v : Int, (upB T0 k 14 v).2.1 k 10 = if (fnx zs (T.1 k) 0).1 = 5 then nth (T.1 k) ((fnx zs (T.1 k) 0).2.1 + 1) else -1 := fun v => (upF_ne (by omega)).trans hb10
      have hu0 : T0.2.1 k 15 = -1 ∨ (0 ≤ T0.2.1 k 15 ∧ (T0.2.1 k 15).toNat ∈ lnF T0.2.1) := (hTb.1.uok k (by rw [hTb.2]; exact hkL)).imp_right fun q => ⟨q.1, q.2.2⟩
      unfold lkSp
      have hfo := nrs_spec (P := pRen T0.1 T0.2.1 (T.1 k) (itS (fnx zs (T.1 k) 0))) hTb.1.uok 121 (T0.2.1 k 15) hu0
      have hcp := nrs_spec (P := pCpl T0.1 T0.2.1 (T.1 k) (itS (fnx zs (T.1 k) 0))) hTb.1.uok 121 (T0.2.1 k 15) hu0
      have efo : nrs (pRen T0.1 T0.2.1 (T.1 k) (itS (fnx zs (T.1 k) 0))) T0.2.1 121 (T0.2.1 k 15) = foS T0 k (T.1 k) (itS (fnx zs (T.1 k) 0)) := rfl
      have ecp : nrs (pCpl T0.1 T0.2.1 (T.1 k) (itS (fnx zs (T.1 k) 0))) T0.2.1 121 (T0.2.1 k 15) = cpS T0 k (T.1 k) (itS (fnx zs (T.1 k) 0)) := rfl
      rw [efo] at hfo
      rw [ecp] at hcp
      by_cases g1 : foS T0 k (T.1 k) (itS (fnx zs (T.1 k) 0)) ≠ -1
      · rw [if_pos g1]
        obtain ⟨r1, r2, r3, -⟩ := hfo.resolve_left g1
        obtain ⟨y, hy⟩ := Int.eq_ofNat_of_zero_le r1
        rw [hy, toNat_n, hTb.2] at r2
        rw [hy, toNat_n] at r3
        have hanc : anc T0.2.1 121 k y := nrs_anc (P := pRen T0.1 T0.2.1 (T.1 k) (itS (fnx zs (T.1 k) 0))) hTb.1.uok 121 k (by rw [hTb.2]; exact hkL) (by rw [efo]; exact hy)
        have hyk := (anc_mem hTb.1.uok 121 k (by rw [hTb.2]; exact hkL) hanc).2
        have hym := hT.1.2.1 y r2
        unfold pRen at r3
        rw [Bool.and_eq_true, decide_eq_true_eq] at r3
        refine add (upK (upB T0 k 14 (foS T0 k (T.1 k) (itS (fnx zs (T.1 k) 0)))) k 4) [] fr hbX.1 hbX.2 (fun x f h => (upk _ _ x f (by omega)).trans (hub _ x f (by omega))) (by rw [upk _ _ _ 14 (by omega), hub14, hy, upk4]; omega) (fun e he => by cases he) (fun Y G hY hG hG2 hK => Or.inr (Or.inr (Or.inr (Or.inr (Or.inl ⟨?_, ⟨hK.1, ?_⟩, ?_, y, ?_, ?_, ?_, ?_⟩))))) (by omega) _ rfl
        · rw [hG 4 (by decide) (by decide), upk4]
        · rw [hY k hkm]; exact ⟨q2, s1⟩
        · rw [hG 10 (by decide) (by decide), upk _ _ _ _ (by omega), hub10, hY k hkm]
        · rw [hG 14 (by decide) (by decide), upk _ _ _ _ (by omega), hub14, hy]
        · refine anc_cong hTb.1.uok (fun a ha => ?_) 121 k (by rw [hTb.2]; exact hkL) hanc
          rw [hTb.2] at ha
          by_cases e : a = k
          · subst e
            rw [hG 15 (by decide) (by decide), upk _ _ _ _ (by omega), hub _ _ _ (by omega), hb0 _ _ (by omega)]
          · rw [hG2 a (hT.1.2.1 a ha) e, hb0 _ _ (by omega)]
        · rw [hG2 y hym (by omega), hY k hkm]
          have := r3.1
          rw [hb0 _ _ (by omega)] at this
          exact this
        · rw [hY k hkm, hY y hym]
          have := r3.2
          rw [hbX.1] at this
          exact this
      · rw [if_neg g1]
        by_cases g2 : cpS T0 k (T.1 k) (itS (fnx zs (T.1 k) 0)) = -1
        · rw [if_pos g2]
          unfold lkK
          by_cases s5 : (fnx zs (T.1 k) 0).1 = 5
          · rw [if_pos s5]
            obtain ⟨⟨-, b1⟩, b2, b3, c0, z0, b4, b5, b6⟩ := fnx_blk (zs := zs) (xs := T.1 k) _ 0 rfl (Nat.zero_le _) (by rw [List.drop_zero]; exact s5)
            rw [List.drop_zero] at b1 b2 b3 b4
            have hz0 : z0.1 = nth (T.1 k) (fnx zs (T.1 k) 0).2.1 := by
              rcases fo_spec (nth (T.1 k) (fnx zs (T.1 k) 0).2.1) zs 0 with ⟨g, -⟩ | ⟨j, w, t1, t2, t3, -⟩
              · rw [g] at b4; cases b4
              · rw [t1, Nat.zero_add] at b4; cases b4; rw [t2] at b5; cases b5; exact t3
            have hcon : ∀ z ∈ zs, z.1 = nth (T.1 k) (fnx zs (T.1 k) 0).2.1 → z.2.1 ≠ -1 := by
              intro z hz hzf
              obtain ⟨j, hj⟩ := List.mem_iff_getElem?.mp hz
              by_cases t1 : j = c0
              · subst t1; rw [b5] at hj; cases hj; exact b6
              · by_cases t2 : j < c0
                · exact (hok j c0 z z0 t2 hj b5 (hzf.trans hz0.symm)).1
                · exact (hok c0 j z0 z (by omega) b5 hj (hz0.trans hzf.symm)).2.1
            have h4 : ∀ z ∈ zs, z.1 = nth (T.1 k) (fnx zs (T.1 k) 0).2.1 → arN z.2.1 ≤ 4 := by
              intro z hz hzf
              obtain ⟨c1, c2⟩ := (hzs z hz).2.1.resolve_left (hcon z hz hzf)
              have := (c1.2.2.1 c2).1
              have := arN_ar z.2.1
              omega
            have hsp := spf_le (nth (T.1 k) (fnx zs (T.1 k) 0).2.1) zs fr h4
            refine add (upK (upB T0 k 14 (-1)) k 3) _ _ hbX.1 hbX.2 (fun x f h => (upk _ _ x f (by omega)).trans (hub _ x f (by omega))) (by rw [upk _ _ _ 14 (by omega), hub14]; omega) (spk_ok e1 e2 b2 zs fr hzs hcon (fun z hz hzf fr hfr => spl_clf e1 e2 hzs s5 hz hzf (hcon z hz hzf) hfr) (by omega)) (fun Y G hY hG hG2 hK => Or.inr (Or.inr (Or.inr (Or.inl ⟨?_, ?_, fr, hfr, ?_⟩)))) (by omega) _ rfl
            · rw [hG 4 (by decide) (by decide), upk4]
            · rw [hY k hkm, hG 10 (by decide) (by decide), upk _ _ _ _ (by omega), hub10, if_pos s5]
              exact ⟨q2, s5, rfl⟩
            · rw [hY k hkm]; exact hK
          · rw [if_neg s5]
            have s4 : (fnx zs (T.1 k) 0).1 = 4 := by omega
            obtain ⟨z, z1, z2, z3⟩ := fnx_clf (zs := zs) (xs := T.1 k) _ 0 rfl (Nat.zero_le _) (by rw [List.drop_zero]; exact s4)
            rw [List.drop_zero] at z1 z2 z3
            have hclf : CLf (T.1 k) (fnx zs (T.1 k) 0).2.1 z := by
              obtain ⟨b, hb⟩ := wf_at e1 z2.1
              rw [Nat.add_comm] at hb
              have := wf_next z2.1 hb
              rw [z2.2] at this
              exact ⟨⟨z2.1, z2.2, b, this⟩, z3⟩
            have hzk := hzs z (List.mem_of_getElem? z1)
            have ez : zs.getD (fnx zs (T.1 k) 0).2.2 (0, -1, [], []) = z := by rw [List.getD_eq_getElem?_getD, z1]; rfl
            refine add (upK (upB T0 k 14 (-1)) k 2) _ fr hbX.1 hbX.2 (fun x f h => (upk _ _ x f (by omega)).trans (hub _ x f (by omega))) (by rw [upk _ _ _ 14 (by omega), hub14]; omega) (fun e he => by
              rw [List.mem_singleton.mp he, ez]
              exact ⟨stx_wf e1 hclf hzk, stx_av e2 hzk⟩) (fun Y G hY hG hG2 hK => Or.inr (Or.inr (Or.inl ⟨?_, ?_, ?_⟩))) (by omega) _ rfl
            · rw [hG 4 (by decide) (by decide), upk4]
            · rw [hY k hkm, hG 10 (by decide) (by decide), upk _ _ _ _ (by omega), hub10, if_neg s5]
              exact ⟨q2, s4, rfl⟩
            · rw [hY k hkm]; exact hK
        · rw [if_neg g2]
          obtain ⟨r1, r2, r3, r4⟩ := hcp.resolve_left g2
          obtain ⟨g, hg⟩ := Int.eq_ofNat_of_zero_le r1
          rw [hg, toNat_n, hTb.2] at r2
          rw [hg] at r4
          rw [hg, toNat_n]
          obtain ⟨f1, f2, f3⟩ := hX g r2
          have hgk : g < k := by
            rcases hTb.1.uok k (by rw [hTb.2]; exact hkL) with e | ⟨-, e, -⟩ <;> omega
          unfold lkL
          have eX1 : (upB T0 k 14 (-1)).1 = T.1 := hbX.1
          rw [eX1]
          cases hin : insg (T.1 k) (T.1 g) 0 [] with
          | some ps =>
            have hpl := insg_psl e2 (T.1 g) 0 1 [] ps f2 (by rw [List.drop_zero]; exact e1) f1 (fun q hq => by cases hq) hin
            have hpo := insg_ord (T.1 g) 0 [] ps hin
            have hsl : ∀ s ∈ ps.map (fun q => q.2), s < (T.1 k).length := fun s hs => by
              obtain ⟨q, h1, h2⟩ := List.mem_map.mp hs
              rw [← h2]
              exact hpl q h1
            refine add (upK (upB T0 k 14 (-1)) k 5) _ fr hbX.1 hbX.2 (fun x f h => (upk _ _ x f (by omega)).trans (hub _ x f (by omega))) (by rw [upk _ _ _ 14 (by omega), hub14]; omega) (fun e he => by
              rcases List.mem_cons.mp he with q | q
              · rw [q]; exact ⟨f1, f2⟩
              · exact prtL_ok e1 e2 hsl e q) (fun Y G hY hG hG2 hK => Or.inr (Or.inr (Or.inr (Or.inr (Or.inr (Or.inl ⟨?_, T.1 g, ps.map (fun q => q.2), ?_, ?_, ?_, f1, f2⟩)))))) (by omega) _ rfl
            · rw [hG 4 (by decide) (by decide), upk4]
            · rw [hY k hkm]; exact hK
            · rw [List.length_map, ← pvx_len, hpo]; rfl
            · rw [hY k hkm]; exact hsl
          | none =>
            have hcl := com_len (xs := T.1 g) (ys := T.1 k) (bs := (fr : Int)) (T.1 g).length 0 0 [] (Nat.zero_le _)
            have hco := com_ok (xs := T.1 g) (ys := T.1 k) (bs := (fr : Int)) (by omega) f2 (T.1 g).length 0 0 1 [] (Nat.zero_le _) (Nat.sub_le _ _) (by simp only [List.length_nil]; omega) f1
            have hc2 := com_ps2 (xs := T.1 g) (ys := T.1 k) (bs := (fr : Int)) f2 f1 e1 (T.1 g).length 0 0 1 [] (by rw [List.drop_zero]; exact f1) (by rw [List.drop_zero]; exact e1) (fun q hq => by cases hq)
            have hcd := com_ord (xs := T.1 g) (ys := T.1 k) (b := fr) (T.1 g).length 0 0 [] (Nat.zero_le _) (Nat.sub_le _ _) (by simp only [List.length_nil]; omega)
            simp only [List.length_nil] at hcl hcd
            rw [show vsq fr 0 = [] from rfl] at hcd
            generalize com (T.1 g) (T.1 k) (fr : Int) (T.1 g).length 0 0 [] = cm at *
            have hss : ∀ s ∈ cm.2.map (fun q => q.1), s < (T.1 g).length := fun s hs => by
              obtain ⟨q, h1, h2⟩ := List.mem_map.mp hs
              rw [← h2]
              exact (hc2 q h1).1
            have hT1 : TI (upB T0 k 14 (-1)).2.1 T.2.2 := (hTb.1.up1 (by omega)).1
            have hl1 : lnF (upB T0 k 14 (-1)).2.1 = lnF T.2.1 := ((hTb.1.up1 (m := k) (f := 14) (v := -1) (by omega)).2).trans hTb.2
            have hkg : k ∉ lnF (upF (upB T0 k 14 (-1)).2.1 g 8 0) := by
              intro q
              have := nrs_rem (P := pCpl T0.1 T0.2.1 (T.1 k) (itS (fnx zs (T.1 k) 0))) hT1 (by rw [hl1]; exact r2) 121 k q
              apply this
              have en : ∀ (n : Nat) (u : Int), nrs (pCpl T0.1 T0.2.1 (T.1 k) (itS (fnx zs (T.1 k) 0))) (upB T0 k 14 (-1)).2.1 n u = nrs (pCpl T0.1 T0.2.1 (T.1 k) (itS (fnx zs (T.1 k) 0))) T0.2.1 n u := by
                intro n
                induction n with
                | zero => intro u; rfl
                | succ n ih =>
                  intro u
                  have e : (upB T0 k 14 (-1)).2.1 u.toNat 15 = T0.2.1 u.toNat 15 := upF_ne (by omega)
                  unfold nrs
                  rw [ih, e]
              have e15 : (upB T0 k 14 (-1)).2.1 k 15 = T0.2.1 k 15 := upF_ne (by omega)
              rw [e15, en, ecp]
              exact hg
            have hs := step_turn (T1 := upB T0 k 14 (-1)) (zs := zs) (b := cm.1) (ss := cm.2.map fun q => q.1) hT hX hL hV hbX (fun x f h => hub _ x f (by omega)) (by rw [hub14]; omega) (by
              rw [hub _ _ _ (by omega)]
              have h14 := (hV g (by rw [← hTb.2]; rw [hTb.2]; exact r2)).2.2.2
              unfold pCpl at r3
              rw [hg, toNat_n, Bool.and_eq_true, decide_eq_true_eq] at r3
              have h4 := r3.1
              rw [hb0 _ _ (by omega)] at h4
              unfold itS at h4
              split at h4 <;> omega) r2 hgk hkg hco hss (by
              rw [List.length_map]
              unfold ord
              rw [hcd, vsq_len])
            obtain ⟨a1, a2⟩ := hs
            rw [eX1] at a1 a2
            refine ⟨a1, fun q => ⟨?_, ⟨Nat.le_add_right _ _, ?_⟩, Nat.le_refl _⟩⟩
            · obtain ⟨A, N, b1, b2⟩ := a2 q
              exact ⟨A ++ [g], N, b2, by rw [List.length_append, List.length_singleton, b1]; rfl⟩
            · show fr + cm.2.length ≤ fr + 160
              omega
  · rw [if_neg q2]; exact six

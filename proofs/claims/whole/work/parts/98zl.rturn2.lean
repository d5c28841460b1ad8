/-! ===== the reference: one above becomes a common form ===== -/
def rtS (m0 : Nat) : Nat → Nat → Prop := fun a j => rbS m0 a j ∨ mcmS a j ∨ (a = 1269 ∧ (j = 74 ∨ j = 75))
section RTURN2
variable {M : Mem} {T : TS} {k g fr tu : Nat}
theorem M_turnUp_s {b : List Int} {ps : Pr2} (hG : Good M) (hT : TI T.2.1 T.2.2) (hX : XOK T.1 T.2.1) (hR : RT M T) (hg : g ∈ lnF T.2.1) (hk : k ∈ lnF T.2.1) (hfr : 1414 ≤ fr ∧ fr + 400 < 65536) (htu : tu < 1000) (h75 : mI M 1269 75 = (fr : Int) + 98586) (h74 : mI M 1269 74 = (tu : Int)) (h76 : mI M 1269 76 = 0) (hcm : com (T.1 g) (T.1 k) (fr : Int) (T.1 g).length 0 0 [] = (b, ps)) (hb : wf 1 b ∧ av b ∧ b.length ≤ 41) (hps : ∀ q ∈ ps, q.1 < (T.1 g).length) (hpl : ps.length ≤ 120) : ∃ M', M_turnUp 1269 (g : Int) (k : Int) M = some (none, M') ∧ RAd M' (adL g ((b, -1, -1) :: prtL (T.1 g) (ps.map fun q => q.1)) (T.1, upF (upF T.2.1 g 8 0) g 4 5, T.2.2)) ∧ (mI M' 1269 75 = ((fr + ps.length : Nat) : Int) + 98586 ∧ mI M' 1269 74 = ((tu + 1 : Nat) : Int)) ∧ Good M' ∧ Fj (rtS T.2.2) M M' := by
  have hm := hT.1.2.2
  have hgm := hT.1.2.1 g hg
  have hkm := hT.1.2.1 k hk
  have heg := hX g hg
  have hek := hX k hk
  have hXg := (hR.2 g hg).rx (by omega) heg
  have hXk := (hR.2 k hk).rx (by omega) hek
  obtain ⟨M1, a1, a2, a3, a4⟩ := M_layCommon_s (fv := fr) (by decide) (by decide) heg.1 hek.1 heg.2.2 (by omega) hG hXg hXk
  rw [hcm] at a2 a3
  have a2 : MFo M1 b := a2
  have a3 : MKm M1 (40 * g) (40 * k) ps := a3
  have hG1 := hG.fj a4
  have hR1 := hR.fjo a4 fun a j q => by unfold mcmS mkmS; omega
  -- the four things set
  have F2 : Fj (fun a j => (a = 1269 ∧ (j = 74 ∨ j = 75)) ∨ ((a = 1313 ∨ a = 1315) ∧ j = g)) M1 (stI (stI (stI (stI M1 1269 75 (((fr + ps.length : Nat) : Int) + 98586)) 1269 74 ((tu + 1 : Nat) : Int)) 1315 g 5) 1313 g 0) := (((Fj.ofI (by omega)).trans (Fj.ofI (by omega))).trans (Fj.ofI (by omega))).trans (Fj.ofI (by omega))
  have hG2 := hG1.fj F2
  obtain ⟨hTr, A, S, B, eA, eB, -⟩ := hT.rem hg
  obtain ⟨hT2, hl2⟩ := hTr.up1 (m := g) (f := 4) (v := 5) (by omega)
  have hsub : ∀ x, x ∈ lnF (upF T.2.1 g 8 0) → x ∈ lnF T.2.1 := by
    intro x hx
    rw [eB] at hx
    rw [eA]
    simp only [List.mem_append, List.mem_cons] at hx ⊢
    rcases hx with q | q | q
    · exact Or.inl q
    · exact Or.inr (Or.inl q)
    · exact Or.inr (Or.inr (Or.inr q))
  have g8 : upF (upF T.2.1 g 8 0) g 4 5 g 8 = 0 := by rw [upF_ne (by omega), upF_at]
  have hTok : TOK (T.1, upF (upF T.2.1 g 8 0) g 4 5, T.2.2) g := TOK.of0 hT2 (fun x hx => hX x (hsub x (by have hx : x ∈ lnF (upF (upF T.2.1 g 8 0) g 4 5) := hx; rw [hl2] at hx; exact hx))) (by show g ∈ lnF (upF (upF T.2.1 g 8 0) g 4 5); rw [hl2, eB]; simp) g8
  have hR2 : RT (stI (stI (stI (stI M1 1269 75 (((fr + ps.length : Nat) : Int) + 98586)) 1269 74 ((tu + 1 : Nat) : Int)) 1315 g 5) 1313 g 0) (T.1, upF (upF T.2.1 g 8 0) g 4 5, T.2.2) := by
    refine ⟨(F2.2.2 _ _ (by omega)).trans hR1.1, fun x hx => ?_⟩
    have hx : x ∈ lnF (upF (upF T.2.1 g 8 0) g 4 5) := hx
    rw [hl2] at hx
    obtain ⟨⟨h1, h2⟩, ⟨h3, h4⟩, ⟨h5, h6⟩, h7, h8⟩ := hR1.2 x (hsub x hx)
    have e : ∀ f, f ≠ 4 → f ≠ 8 → upF (upF T.2.1 g 8 0) g 4 5 x f = T.2.1 x f := fun f h1 h2 => by rw [upF_ne (by omega), upF_ne (by omega)]
    refine ⟨⟨fun i hi => (F2.2.2 _ _ (by omega)).trans (h1 i hi), (F2.2.2 _ _ (by omega)).trans h2⟩, ⟨?_, ?_⟩, ⟨?_, fun q => ?_⟩, ?_, ?_⟩
    · exact ((F2.2.2 _ _ (by omega)).trans h3).trans (e 15 (by decide) (by decide)).symm
    · exact ((F2.2.2 _ _ (by omega)).trans h4).trans (e 5 (by decide) (by decide)).symm
    · show _ = upF (upF T.2.1 g 8 0) g 4 5 x 8
      by_cases z : x = g
      · subst z; rw [g8, mI_at]
      · rw [upF_ne (by omega), upF_ne (by omega)]
        exact (F2.2.2 _ _ (by omega)).trans h5
    · have q : upF (upF T.2.1 g 8 0) g 4 5 x 8 ≠ 0 := q
      have z : x ≠ g := fun z => by subst z; exact q g8
      rw [upF_ne (by omega), upF_ne (by omega)] at q
      exact ((F2.2.2 _ _ (by omega)).trans (h6 q)).trans (e 16 (by decide) (by decide)).symm
    · show _ = upF (upF T.2.1 g 8 0) g 4 5 x 4
      by_cases z : x = g
      · subst z; rw [upF_at, mI_ne (by omega), mI_at]
      · rw [upF_ne (by omega), upF_ne (by omega)]
        exact (F2.2.2 _ _ (by omega)).trans h7
    · exact ((F2.2.2 _ _ (by omega)).trans h8).trans (e 14 (by decide) (by decide)).symm
  have i59 : mI (stI (stI (stI (stI M1 1269 75 (((fr + ps.length : Nat) : Int) + 98586)) 1269 74 ((tu + 1 : Nat) : Int)) 1315 g 5) 1313 g 0) 1269 59 = (b.length : Int) := (F2.2.2 _ _ (by omega)).trans a2.1
  have hXb : RX (stI (stI (stI (stI M1 1269 75 (((fr + ps.length : Nat) : Int) + 98586)) 1269 74 ((tu + 1 : Nat) : Int)) 1315 g 5) 1313 g 0) 1306 41 0 b := ⟨⟨arr_1306, by decide⟩, fun i hi => (F2.2.2 _ _ (by omega)).trans (a2.2 i hi), by omega, hb.2.1⟩
  have h762 : mI (stI (stI (stI (stI M1 1269 75 (((fr + ps.length : Nat) : Int) + 98586)) 1269 74 ((tu + 1 : Nat) : Int)) 1315 g 5) 1313 g 0) 1269 76 = 0 := ((F2.2.2 _ _ (by omega)).trans (a4.2.2 _ _ (by unfold mcmS mkmS; omega))).trans h76
  have j75 : mI (stI (stI (stI (stI M1 1269 75 (((fr + ps.length : Nat) : Int) + 98586)) 1269 74 ((tu + 1 : Nat) : Int)) 1315 g 5) 1313 g 0) 1269 75 = ((fr + ps.length : Nat) : Int) + 98586 := by
    rw [mI_ne (by omega), mI_ne (by omega), mI_ne (by omega), mI_at]
  have j74 : mI (stI (stI (stI (stI M1 1269 75 (((fr + ps.length : Nat) : Int) + 98586)) 1269 74 ((tu + 1 : Nat) : Int)) 1315 g 5) 1313 g 0) 1269 74 = ((tu + 1 : Nat) : Int) := by
    rw [mI_ne (by omega), mI_ne (by omega), mI_at]
  have k75 : mI M1 1269 75 = (fr : Int) + 98586 := (a4.2.2 _ _ (by unfold mcmS mkmS; omega)).trans h75
  have k74 : mI M1 1269 74 = (tu : Int) := (a4.2.2 _ _ (by unfold mcmS mkmS; omega)).trans h74
  have g1 : gS M1 1315 0 (g : Int) = true := hG1.tgS (arr_nd (by decide)) (by omega) (by omega)
  have g2 : gS M1 1313 0 (g : Int) = true := hG1.tgS (arr_nd (by decide)) (by omega) (by omega)
  have e75 : wr (mI M1 1269 75 + mI M1 1269 56) = ((fr + ps.length : Nat) : Int) + 98586 := by
    rw [k75, a3.1, wr_id (x := (fr : Int) + 98586 + (ps.length : Int)) (by omega) (by omega)]; omega
  have e74 : ∀ v, wr (mI (stI M1 1269 75 v) 1269 74 + 1) = ((tu + 1 : Nat) : Int) := fun v => by rw [mI_ne (by omega), k74, wr_s (by omega)]
  have head : M_turnUp 1269 (g : Int) (k : Int) M = cI (M_makeBelow 1269 (g : Int) 1306 0 (b.length : Int) (stI (stI (stI (stI M1 1269 75 (((fr + ps.length : Nat) : Int) + 98586)) 1269 74 ((tu + 1 : Nat) : Int)) 1315 g 5) 1313 g 0)) fun r3 M2 => if r3 = 0 then some (none, M2) else gd (gO M2 1269 12) (M_turnUp_90 1269 (g : Int) (mI M2 1269 56) 1 0 (some (.inl (k : Int))) M2) := by
    rw [M_turnUp_eq, hG.gM, gd_t, gd_t, gd_t, gd_t, hG.m63, h75, wr_id (x := (40 : Int) * (g : Int)) (by omega) (by omega), wr_id (x := (40 : Int) * (k : Int)) (by omega) (by omega), show (40 : Int) * (g : Int) = ((40 * g : Nat) : Int) by omega, show (40 : Int) * (k : Int) = ((40 * k : Nat) : Int) by omega, a1, cV_s]
    simp only [hG1.gM, gd_t, hG1.m69, hG1.m67, hG1.m58, g1, g2, toNat_n]
    rw [e75, e74, i59]
  clear e75 e74
  rw [head]
  generalize stI (stI (stI (stI M1 1269 75 (((fr + ps.length : Nat) : Int) + 98586)) 1269 74 ((tu + 1 : Nat) : Int)) 1315 g 5) 1313 g 0 = M2 at *
  obtain ⟨M3, c1, c2, c3, c4, c5⟩ := M_makeBelow_s (x := (b, -1, -1)) hG2 hTok hR2 hXb hb.1 ⟨Or.inl (by decide), by decide, by decide⟩ h762
  have c1 : M_makeBelow 1269 (g : Int) 1306 0 (b.length : Int) M2 = some (some (.inl (if ad1 b.length T.2.2 = 0 then 1 else 0)), M3) := c1
  have F3 : Fj (rtS T.2.2) M M3 := ((a4.mono (T := rtS T.2.2) fun a j q => Or.inr (Or.inl q)).trans (F2.mono fun a j q => by unfold rtS rbS; omega)).trans (c5.mono fun a j q => Or.inl (mb_rb (Nat.le_refl T.2.2) q))
  have l75 : mI M3 1269 75 = ((fr + ps.length : Nat) : Int) + 98586 := (c5.2.2 _ _ (by unfold mbF mkF; omega)).trans j75
  have l74 : mI M3 1269 74 = ((tu + 1 : Nat) : Int) := (c5.2.2 _ _ (by unfold mbF mkF; omega)).trans j74
  have l3 : ∀ a j, (a = 1303 ∨ (a = 1269 ∧ j = 56)) → mI M3 a j = mI M1 a j := fun a j q => (c5.2.2 _ _ (by unfold mbF mkF; omega)).trans (F2.2.2 _ _ (by omega))
  rw [c1, cI_s, adL_s]
  by_cases q : ad1 b.length T.2.2 = 0
  · obtain ⟨r1, r3⟩ := c3 q
    have hsl := ad1_0 q
    have hT3 := TOK.add hTok (b, -1, -1) ⟨hb.1, hb.2.1⟩ hsl.1 hsl.2
    have hl : (ps.map fun q => q.1).length = ps.length := List.length_map ..
    have hPP : PPm M3 (40 * g) (ps.map fun q => q.1) := fun i s hs => by
      rw [List.getElem?_map] at hs
      cases hq : ps[i]? with
      | none => rw [hq] at hs; cases hs
      | some q =>
        rw [hq] at hs
        have hs := Option.some.inj hs
        rw [← hs]
        exact (l3 _ _ (Or.inl rfl)).trans (a3.2 i q hq).1
    obtain ⟨M', d1, d2, d3, d4⟩ := M_turn_loop (k := g) (xs := T.1 g) (ss := ps.map fun q => q.1) heg.1 heg.2.1 (fun s hs => by
      obtain ⟨q, h1, h2⟩ := List.mem_map.mp hs
      rw [← h2]
      exact hps q h1) (by omega) (some (.inl (k : Int))) _ 0 (adT g (T.1, upF (upF T.2.1 g 8 0) g 4 5, T.2.2) (b, -1, -1)) M3 (Nat.le_succ T.2.2) (Nat.zero_add _) c4 hT3 r1 (upX_ne (show g ≠ T.2.2 by omega)) hPP r3
    rw [List.drop_zero] at d2
    rw [hl] at d1
    rw [if_pos q, if_neg (by decide), if_pos (show ad1 b.length T.2.2 = 0 from q), c4.gM, gd_t, l3 _ _ (Or.inr ⟨rfl, rfl⟩), a3.1]
    exact ⟨M', d1, d2, ⟨(d4.2.2 _ _ (by unfold rbS; omega)).trans l75, (d4.2.2 _ _ (by unfold rbS; omega)).trans l74⟩, d3, F3.trans (d4.mono fun a j q => Or.inl q)⟩
  · rw [if_neg q, if_pos rfl, if_neg (show ¬ ad1 b.length T.2.2 = 0 from q)]
    exact ⟨M3, rfl, ⟨fun h => absurd h q, fun _ => c2 q⟩, ⟨l75, l74⟩, c4, F3⟩
end RTURN2

/-! ===== the reference: LET below one ===== -/
section RLET2
variable {M : Mem} {T : TS} {k g : Nat}
theorem M_letBelow_s {ps : Prs} (hG : Good M) (hT : TOK T k) (hR : RT M T) (hg : g ∈ lnF T.2.1) (hP : MIm M (40 * k) ps) (hps : ∀ q ∈ ps, q.2 < (T.1 k).length) (hpl : ps.length ≤ 120) (h76 : mI M 1269 76 = 0) : ∃ M', M_letBelow 1269 (k : Int) (g : Int) M = some (none, M') ∧ RAd M' (adL k ((T.1 g, -1, -1) :: prtL (T.1 k) (ps.map fun q => q.2)) (upB T k 4 5)) ∧ Good M' ∧ Fj (rbS T.2.2) M M' := by
  obtain ⟨hk1, hk2, hk3⟩ := hT.k
  have hm := hT.1.1.2.2
  have hgm := hT.1.1.2.1 g hg
  have heg := hT.2.2 g hg
  have hek := hT.2.2 k hk1
  obtain ⟨b1, b2, b3⟩ := RT.kind (k := k) hG hR 5
  have hT1 := hT.up (m := k) (f := 4) (v := 5) (by omega)
  have hX0 := (hR.2 g hg).rx (by omega) heg
  have hX := hX0.fj b3 fun j => by omega
  have h761 : mI (stI M 1315 k 5) 1269 76 = 0 := (b3.2.2 _ _ (by omega)).trans h76
  have r2 : mI (stI M 1315 k 5) 1310 g = ((T.1 g).length : Int) := (b3.2.2 _ _ (by omega)).trans (hR.2 g hg).1.2
  obtain ⟨M1, c1, c2, c3, c4, c5⟩ := M_makeBelow_s (x := (T.1 g, -1, -1)) b2 hT1 b1 hX heg.1 ⟨Or.inr (by have := heg.2.2; show 40 * g + (T.1 g).length ≤ 40 * T.2.2; omega), by decide, by decide⟩ h761
  have c1 : M_makeBelow 1269 (k : Int) 1309 ((40 * g : Nat) : Int) ((T.1 g).length : Int) (stI M 1315 k 5) = some (some (.inl (if ad1 (T.1 g).length T.2.2 = 0 then 1 else 0)), M1) := c1
  have F1 : Fj (rbS T.2.2) M M1 := (b3.mono fun a j q => by unfold rbS; omega).trans (c5.mono fun a j q => mb_rb (Nat.le_refl T.2.2) q)
  have gk : gS M 1315 0 (k : Int) = true := hG.tgS (arr_nd (by decide)) (by omega) (by omega)
  have gg : gS M 1310 0 (g : Int) = true := hG.tgS (arr_nd (by decide)) (by omega) (by omega)
  have head : M_letBelow 1269 (k : Int) (g : Int) M = if (if ad1 (T.1 g).length T.2.2 = 0 then (1 : Int) else 0) = 0 then some (none, M1) else M_letBelow_41 1269 (k : Int) (mI M1 1269 56) 1 0 (some (.inl (g : Int))) M1 := by
    rw [M_letBelow_eq, hG.gM, gd_t, hG.m69, gk, gd_t, gd_t, gd_t, hG.m64, gg, gd_t, gd_t, toNat_n, toNat_n, r2, hG.m63, wr_id (x := (40 : Int) * (g : Int)) (by omega) (by omega), show (40 : Int) * (g : Int) = ((40 * g : Nat) : Int) by omega, c1, cI_s, c4.gM, gd_t]
  rw [head, adL_s]
  show ∃ M', _ ∧ RAd M' (if ad1 (T.1 g).length T.2.2 = 0 then _ else _) ∧ _
  by_cases q : ad1 (T.1 g).length T.2.2 = 0
  · obtain ⟨r1, r3⟩ := c3 q
    have hsl := ad1_0 q
    have hT2 := TOK.add hT1 (T.1 g, -1, -1) ⟨heg.1, heg.2.1⟩ hsl.1 hsl.2
    have i56 : mI M1 1269 56 = (ps.length : Int) := (F1.2.2 _ _ (by unfold rbS; omega)).trans hP.1
    have hl : (ps.map fun q => q.2).length = ps.length := List.length_map ..
    have hPP : PPm M1 (40 * k) (ps.map fun q => q.2) := fun i s hs => by
      rw [List.getElem?_map] at hs
      cases hq : ps[i]? with
      | none => rw [hq] at hs; cases hs
      | some q =>
        rw [hq] at hs
        have hs := Option.some.inj hs
        rw [← hs]
        exact (F1.2.2 _ _ (by unfold rbS; omega)).trans (hP.2 i q hq).2
    obtain ⟨M', a1, a2, a3, a4⟩ := M_let_loop (k := k) (xs := T.1 k) (ss := ps.map fun q => q.2) hek.1 hek.2.1 (fun s hs => by
      obtain ⟨q, h1, h2⟩ := List.mem_map.mp hs
      rw [← h2]
      exact hps q h1) (by omega) (some (.inl (g : Int))) _ 0 (adT k (upB T k 4 5) (T.1 g, -1, -1)) M1 (Nat.le_succ T.2.2) (Nat.zero_add _) c4 hT2 r1 (upX_ne (show k ≠ T.2.2 by omega)) hPP r3
    rw [List.drop_zero] at a2
    rw [hl] at a1
    rw [if_pos q, if_neg (by decide), if_pos q, i56]
    exact ⟨M', a1, a2, a3, F1.trans a4⟩
  · rw [if_neg q, if_pos rfl, if_neg q]
    exact ⟨M1, rfl, ⟨fun h => absurd h q, fun _ => c2 q⟩, c4, F1⟩
end RLET2

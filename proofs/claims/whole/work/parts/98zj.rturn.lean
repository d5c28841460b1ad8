/-! ===== the reference: the parts below one that becomes a common form ===== -/
section RTURN
variable {k m0 : Nat}
theorem M_turn_loop {xs : List Int} {ss : List Nat} (hw : wf 1 xs) (hv : av xs) (hss : ∀ s ∈ ss, s < xs.length) (hn : ss.length ≤ 120) (d2 : LV) : ∀ (t i : Nat) (T : TS) (M : Mem), m0 ≤ T.2.2 → i + t = ss.length → Good M → TOK T k → RT M T → T.1 k = xs → PPm M (40 * k) ss → mI M 1269 76 = 0 → ∃ M', M_turnUp_90 1269 (k : Int) (ss.length : Int) 1 (i : Int) d2 M = some (none, M') ∧ RAd M' (adL k (prtL xs (ss.drop i)) T) ∧ Good M' ∧ Fj (rbS m0) M M' := by
  intro t
  induction t with
  | zero =>
    intro i T M hm0 h hG hT hR hxs hP h76
    refine ⟨M, ?_, ?_, hG, Fj.refl⟩
    · rw [M_turnUp_90_eq, if_neg (by omega)]
    · rw [List.drop_eq_nil_of_le (by omega)]
      exact ⟨fun _ => ⟨hR, h76⟩, fun h => absurd rfl h⟩
  | succ t ih =>
    intro i T M hm0 h hG hT hR hxs hP h76
    obtain ⟨hk1, hk2, hk3⟩ := hT.k
    have hk := hR.2 k hk1
    have hm := hT.1.1.2.2
    have hX := hk.rx (by omega) (hT.2.2 k hk1)
    rw [hxs] at hX
    have hi : i < ss.length := by omega
    have hs := List.getElem?_eq_getElem hi
    have hsm := List.getElem_mem hi
    have hd : ss.drop i = ss[i] :: ss.drop (i + 1) := List.drop_eq_getElem_cons hi
    have hp := hP i _ hs
    have p1 := hss _ hsm
    rw [hd]
    generalize ss[i] = s at *
    obtain ⟨c, p2⟩ := wf_at hw p1
    have e2 := M_behind_s hG hX p2
    have hbl := beh_le (xs := xs) (p := s) (by omega)
    have hbg := beh_gt p1
    have x40 : xs.length ≤ 40 := by rw [← hxs]; exact (hT.2.2 k hk1).2.2
    have g3 : gS M 1303 0 (i : Int) = true := hG.tgS arr_1303 (by omega) (by omega)
    obtain ⟨M1, b1, b2, b3, b4, b5, b6⟩ := M_addPart hm0 hG hT hR h76 hk1 (p := s) (c := c) (by rw [hxs]; exact p2) (by rw [hxs]; exact p1)
    rw [hxs] at b1 b2 b3
    have head : M_turnUp_90 1269 (k : Int) (ss.length : Int) 1 (i : Int) d2 M = M_turnUp_90 1269 (k : Int) (ss.length : Int) (if ad1 (sub xs s).length T.2.2 = 0 then 1 else 0) ((i + 1 : Nat) : Int) d2 M1 := by
      rw [M_turnUp_90_eq, if_pos (by omega), if_neg (by decide), hG.gM, gd_t, gd_t, hG.m54, g3, gd_t, gd_t, gd_t, gd_t, toNat_n, hp, hG.m63, e2, cI_s, hG.gM, gd_t, hG.m54, g3, gd_t, gd_t, hp, wr_id (x := ((40 * k + beh xs s : Nat) : Int) - ((40 * k + s : Nat) : Int)) (by omega) (by omega), show ((40 * k + beh xs s : Nat) : Int) - ((40 * k + s : Nat) : Int) = ((beh xs s - s : Nat) : Int) by omega, b1, cI_s, wr_s (by omega)]
    have eL : prtL xs (s :: ss.drop (i + 1)) = (sub xs s, -1, -1) :: prtL xs (ss.drop (i + 1)) := rfl
    rw [head, eL, adL_s]
    by_cases q : ad1 (sub xs s).length T.2.2 = 0
    · obtain ⟨r1, r2⟩ := b3 q
      have hsl := ad1_0 q
      have hT1 := TOK.add hT (sub xs s, -1, -1) (sub_eok hv p2) hsl.1 hsl.2
      have hx1 : (adT k T (sub xs s, -1, -1)).1 k = xs := (upX_ne (by omega)).trans hxs
      obtain ⟨M', a1, a2, a3, a4⟩ := ih (i + 1) _ M1 (Nat.le_succ_of_le hm0) (by omega) b4 hT1 r1 hx1 (fun j w hj => (b5.2.2 _ _ (by unfold rbS; omega)).trans (hP j w hj)) r2
      rw [if_pos q, if_pos q, a1]
      exact ⟨M', rfl, a2, a3, b5.trans a4⟩
    · rw [if_neg q, if_neg q, M_turnUp_90_eq]
      refine ⟨M1, ?_, ⟨fun h => absurd h q, fun _ => b2 q⟩, b4, b5⟩
      by_cases z : ((i + 1 : Nat) : Int) < (ss.length : Int)
      · rw [if_pos z, if_pos rfl]
      · rw [if_neg z]
end RTURN
section RSET
variable {M : Mem} {T : TS} {k : Nat}
/-- a kind is set -/
theorem RT.kind (hG : Good M) (hR : RT M T) (v : Int) : RT (stI M 1315 k v) (upB T k 4 v) ∧ Good (stI M 1315 k v) ∧ Fj (fun a j => a = 1315 ∧ j = k) M (stI M 1315 k v) := by
  have f : Fj (fun a j => a = 1315 ∧ j = k) M (stI M 1315 k v) := Fj.ofI ⟨rfl, rfl⟩
  have hl : lnF (upF T.2.1 k 4 v) = lnF T.2.1 := lnF_cong fun x _ => ⟨upF_ne (by omega), upF_ne (by omega)⟩
  refine ⟨⟨(f.2.2 _ _ (by omega)).trans hR.1, fun x hx => ?_⟩, hG.fj f, f⟩
  have hx : x ∈ lnF (upF T.2.1 k 4 v) := hx
  rw [hl] at hx
  obtain ⟨⟨h1, h2⟩, ⟨h3, h4⟩, ⟨h5, h6⟩, h7, h8⟩ := hR.2 x hx
  have e : ∀ f, f ≠ 4 → upF T.2.1 k 4 v x f = T.2.1 x f := fun f hf => upF_ne (by omega)
  refine ⟨⟨fun i hi => (f.2.2 _ _ (by omega)).trans (h1 i hi), (f.2.2 _ _ (by omega)).trans h2⟩, ⟨?_, ?_⟩, ⟨?_, fun q => ?_⟩, ?_, ?_⟩
  · exact ((f.2.2 _ _ (by omega)).trans h3).trans (e 15 (by decide)).symm
  · exact ((f.2.2 _ _ (by omega)).trans h4).trans (e 5 (by decide)).symm
  · exact ((f.2.2 _ _ (by omega)).trans h5).trans (e 8 (by decide)).symm
  · have q : upF T.2.1 k 4 v x 8 ≠ 0 := q
    rw [e 8 (by decide)] at q
    exact ((f.2.2 _ _ (by omega)).trans (h6 q)).trans (e 16 (by decide)).symm
  · show mI (stI M 1315 k v) 1315 x = upF T.2.1 k 4 v x 4
    by_cases q : x = k
    · subst q; rw [mI_at, upF_at]
    · rw [mI_ne (by omega), upF_ne (by omega)]; exact h7
  · exact ((f.2.2 _ _ (by omega)).trans h8).trans (e 14 (by decide)).symm
/-- fields that the reference does not keep, or keeps elsewhere -/
theorem RT.same {F : FT} (hR : RT M T) (hl : lnF F = lnF T.2.1) (h : ∀ x ∈ lnF T.2.1, ∀ f, (f = 4 ∨ f = 5 ∨ f = 8 ∨ f = 14 ∨ f = 15 ∨ f = 16) → F x f = T.2.1 x f) : RT M (T.1, F, T.2.2) := by
  refine ⟨hR.1, fun x hx => ?_⟩
  have hx : x ∈ lnF F := hx
  rw [hl] at hx
  obtain ⟨h1, ⟨h3, h4⟩, ⟨h5, h6⟩, h7, h8⟩ := hR.2 x hx
  have e := h x hx
  refine ⟨h1, ⟨h3.trans (e 15 (by omega)).symm, h4.trans (e 5 (by omega)).symm⟩, ⟨h5.trans (e 8 (by omega)).symm, fun q => ?_⟩, h7.trans (e 4 (by omega)).symm, h8.trans (e 14 (by omega)).symm⟩
  have q : F x 8 ≠ 0 := q
  rw [e 8 (by omega)] at q
  exact (h6 q).trans (e 16 (by omega)).symm
end RSET

/-! ===== the reference: the parts below a LET one ===== -/
def PPm (M : Mem) (o : Nat) (ss : List Nat) : Prop := ∀ (i s : Nat), ss[i]? = some s → mI M 1303 i = ((o + s : Nat) : Int)
section RLET
variable {k m0 : Nat}
theorem ad1_0 {n mk : Nat} (q : ad1 n mk = 0) : ¬ 40 < n ∧ mk < 120 := by
  unfold ad1 at q
  by_cases z : 40 < n
  · rw [if_pos z] at q; exact absurd q (by decide)
  · rw [if_neg z] at q
    by_cases z2 : 120 ≤ mk
    · rw [if_pos z2] at q; exact absurd q (by decide)
    · exact ⟨z, by omega⟩
theorem M_let_loop {xs : List Int} {ss : List Nat} (hw : wf 1 xs) (hv : av xs) (hss : ∀ s ∈ ss, s < xs.length) (hn : ss.length ≤ 120) (d2 : LV) : ∀ (t i : Nat) (T : TS) (M : Mem), m0 ≤ T.2.2 → i + t = ss.length → Good M → TOK T k → RT M T → T.1 k = xs → PPm M (40 * k) ss → mI M 1269 76 = 0 → ∃ M', M_letBelow_41 1269 (k : Int) (ss.length : Int) 1 (i : Int) d2 M = some (none, M') ∧ RAd M' (adL k (prtL xs (ss.drop i)) T) ∧ Good M' ∧ Fj (rbS m0) M M' := by
  intro t
  induction t with
  | zero =>
    intro i T M hm0 h hG hT hR hxs hP h76
    refine ⟨M, ?_, ?_, hG, Fj.refl⟩
    · rw [M_letBelow_41_eq, if_neg (by omega)]
    · rw [List.drop_eq_nil_of_le (by omega)]
      exact ⟨fun _ => ⟨hR, h76⟩, fun h => absurd rfl h⟩
  | succ t ih =>
    intro i T M hm0 h hG hT hR hxs hP h76
    obtain ⟨hk1, hk2, hk3⟩ := hT.k
    have hk := hR.2 k hk1
    have hm := hT.1.1.2.2
    have hX := hk.rx (by omega) (hT.2.2 k hk1)
    rw [hxs] at hX
    have hi : i < ss.length := by omega
    have hs := List.getElem?_eq_getElem hi
    have hsm := List.getElem_mem hi
    have hd : ss.drop i = ss[i] :: ss.drop (i + 1) := List.drop_eq_getElem_cons hi
    have hp := hP i _ hs
    have p1 := hss _ hsm
    rw [hd]
    generalize ss[i] = s at *
    obtain ⟨c, p2⟩ := wf_at hw p1
    have e2 := M_behind_s hG hX p2
    have hbl := beh_le (xs := xs) (p := s) (by omega)
    have hbg := beh_gt p1
    have x40 : xs.length ≤ 40 := by rw [← hxs]; exact (hT.2.2 k hk1).2.2
    have g3 : gS M 1303 0 (i : Int) = true := hG.tgS arr_1303 (by omega) (by omega)
    obtain ⟨M1, b1, b2, b3, b4, b5, b6⟩ := M_addPart hm0 hG hT hR h76 hk1 (p := s) (c := c) (by rw [hxs]; exact p2) (by rw [hxs]; exact p1)
    rw [hxs] at b1 b2 b3
    have head : M_letBelow_41 1269 (k : Int) (ss.length : Int) 1 (i : Int) d2 M = M_letBelow_41 1269 (k : Int) (ss.length : Int) (if ad1 (sub xs s).length T.2.2 = 0 then 1 else 0) ((i + 1 : Nat) : Int) d2 M1 := by
      rw [M_letBelow_41_eq, if_pos (by omega), if_neg (by decide), hG.gM, gd_t, gd_t, hG.m54, g3, gd_t, gd_t, gd_t, gd_t, toNat_n, hp, hG.m63, e2, cI_s, hG.gM, gd_t, hG.m54, g3, gd_t, gd_t, hp, wr_id (x := ((40 * k + beh xs s : Nat) : Int) - ((40 * k + s : Nat) : Int)) (by omega) (by omega), show ((40 * k + beh xs s : Nat) : Int) - ((40 * k + s : Nat) : Int) = ((beh xs s - s : Nat) : Int) by omega, b1, cI_s, wr_s (by omega)]
    have eL : prtL xs (s :: ss.drop (i + 1)) = (sub xs s, -1, -1) :: prtL xs (ss.drop (i + 1)) := rfl
    rw [head, eL, adL_s]
    by_cases q : ad1 (sub xs s).length T.2.2 = 0
    · obtain ⟨r1, r2⟩ := b3 q
      have hsl := ad1_0 q
      have hT1 := TOK.add hT (sub xs s, -1, -1) (sub_eok hv p2) hsl.1 hsl.2
      have hx1 : (adT k T (sub xs s, -1, -1)).1 k = xs := (upX_ne (by omega)).trans hxs
      obtain ⟨M', a1, a2, a3, a4⟩ := ih (i + 1) _ M1 (Nat.le_succ_of_le hm0) (by omega) b4 hT1 r1 hx1 (fun j w hj => (b5.2.2 _ _ (by unfold rbS; omega)).trans (hP j w hj)) r2
      rw [if_pos q, if_pos q, a1]
      exact ⟨M', rfl, a2, a3, b5.trans a4⟩
    · rw [if_neg q, if_neg q, M_letBelow_41_eq]
      refine ⟨M1, ?_, ⟨fun h => absurd h q, fun _ => b2 q⟩, b4, b5⟩
      by_cases z : ((i + 1 : Nat) : Int) < (ss.length : Int)
      · rw [if_pos z, if_pos rfl]
      · rw [if_neg z]
end RLET

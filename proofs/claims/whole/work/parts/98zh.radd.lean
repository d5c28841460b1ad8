/-! ===== the reference: nodes more below one ===== -/
def rbS (m0 : Nat) : Nat → Nat → Prop := fun a j => (1309 ≤ a ∧ a ≤ 1316) ∨ (a = 1317 ∧ m0 ≤ j) ∨ (a = 1269 ∧ (j = 72 ∨ j = 76))
theorem mb_rb {m0 k mk a j : Nat} (h : m0 ≤ mk) (q : mbF k mk a j) : rbS m0 a j := by
  unfold mbF mkF at q
  unfold rbS
  omega
/-- what is left when nodes were added -/
def RAd (M' : Mem) (r : Int × TS) : Prop := (r.1 = 0 → RT M' r.2 ∧ mI M' 1269 76 = 0) ∧ (r.1 ≠ 0 → mI M' 1269 76 = r.1)
section RADD
variable {M : Mem} {T : TS} {k m0 : Nat}
theorem sub_eok {xs : List Int} {p c : Nat} (h2 : av xs) (hw : wf (1 + c) (xs.drop p)) : wf 1 (sub xs p) ∧ av (sub xs p) := ⟨(wf_sk _ _ _ hw).1, fun c hc => h2 c (sub_mem hc)⟩
/-- a part of a row, as a row -/
theorem RX_sub {M : Mem} {a n o p : Nat} {xs : List Int} (h : RX M a n o xs) (hp : p ≤ xs.length) : RX M a n (o + p) (sub xs p) := by
  obtain ⟨h1, h2, h3, h4⟩ := h
  have hb := beh_le hp
  have hl : (sub xs p).length = beh xs p - p := sub_len
  refine ⟨h1, fun i hi => ?_, by omega, fun c hc => h4 c (sub_mem hc)⟩
  have e : nth (sub xs p) i = nth xs (p + i) := by
    unfold sub
    rw [nth_take (by unfold beh at hl; rw [hl] at hi; omega), nth_drop]
  rw [e, Nat.add_assoc]
  exact h2 _ (by omega)
/-- one part of a row more, below k -/
theorem M_addPart (hm0 : m0 ≤ T.2.2) (hG : Good M) (hT : TOK T k) (hR : RT M T) (h76 : mI M 1269 76 = 0) {y p c : Nat} (hy : y ∈ lnF T.2.1) (hw : wf (1 + c) ((T.1 y).drop p)) (hp : p < (T.1 y).length) : ∃ M', M_makeBelow 1269 (k : Int) 1309 ((40 * y + p : Nat) : Int) (((beh (T.1 y) p - p : Nat)) : Int) M = some (some (.inl (if ad1 (sub (T.1 y) p).length T.2.2 = 0 then 1 else 0)), M') ∧ (ad1 (sub (T.1 y) p).length T.2.2 ≠ 0 → mI M' 1269 76 = ad1 (sub (T.1 y) p).length T.2.2) ∧ (ad1 (sub (T.1 y) p).length T.2.2 = 0 → RT M' (adT k T (sub (T.1 y) p, -1, -1)) ∧ mI M' 1269 76 = 0) ∧ Good M' ∧ Fj (rbS m0) M M' ∧ ∀ j, j < 40 * T.2.2 → mI M' 1309 j = mI M 1309 j := by
  have hm := hT.1.1.2.2
  have hym := hT.1.1.2.1 y hy
  have hey := hT.2.2 y hy
  have hX := (hR.2 y hy).rx (by omega) hey
  have h1 := RX_sub hX (p := p) (by omega)
  have hb := beh_le (xs := T.1 y) (p := p) (by omega)
  have hl : (sub (T.1 y) p).length = beh (T.1 y) p - p := sub_len
  have he3 := hey.2.2
  obtain ⟨M', a1, a2, a3, a4, a5⟩ := M_makeBelow_s (x := (sub (T.1 y) p, -1, -1)) hG hT hR h1 (sub_eok hey.2.1 hw).1 ⟨Or.inr (by show 40 * y + p + (sub (T.1 y) p).length ≤ _; omega), by decide, by decide⟩ h76
  have a1 : M_makeBelow 1269 (k : Int) 1309 ((40 * y + p : Nat) : Int) ((sub (T.1 y) p).length : Int) M = _ := a1
  rw [hl] at a1
  rw [← hl] at a1
  refine ⟨M', ?_, a2, a3, a4, a5.mono fun a j q => mb_rb hm0 q, fun j hj => a5.2.2 _ _ (by unfold mbF mkF; omega)⟩
  rw [← hl]
  exact a1
theorem adL_s {es : List Kd3} {x : Kd3} : adL k (x :: es) T = if ad1 x.1.length T.2.2 = 0 then adL k es (adT k T x) else (ad1 x.1.length T.2.2, T) := by
  show (if 40 < x.1.length then (-3, T) else if 120 ≤ T.2.2 then (-2, T) else adL k es (adT k T x)) = _
  unfold ad1
  by_cases q : 40 < x.1.length
  · rw [if_pos q, if_pos q, if_neg (by decide)]
  · rw [if_neg q, if_neg q]
    by_cases q2 : 120 ≤ T.2.2
    · rw [if_pos q2, if_pos q2, if_neg (by decide)]
    · rw [if_neg q2, if_neg q2, if_pos rfl]
/-- the arguments of a CON -/
theorem M_args_loop {xs : List Int} (d3 : LV) (hw : wf 1 xs) (hv : av xs) : ∀ (t j : Nat) (T : TS) (M : Mem) (d6 : LV), m0 ≤ T.2.2 → j + t = arN (nth xs 0) → Good M → TOK T k → RT M T → T.1 k = xs → mI M 1269 76 = 0 → ∃ M', M_lookAt_69 1269 (k : Int) ((40 * k : Nat) : Int) 1 (j : Int) d3 d6 M = some (none, M') ∧ RAd M' (adL k (argL xs t j) T) ∧ Good M' ∧ Fj (rbS m0) M M' := by
  have hlen := wf_len _ _ hw
  have hw1 : wf (1 + 0) (xs.drop 0) := by rw [List.drop_zero]; exact hw
  intro t
  induction t with
  | zero =>
    intro j T M d6 hm0 h hG hT hR hxs h76
    obtain ⟨hk1, hk2, hk3⟩ := hT.k
    have hk := hR.2 k hk1
    have hm := hT.1.1.2.2
    have hX := hk.rx (by omega) (hT.2.2 k hk1)
    rw [hxs] at hX
    have c0 : mI M 1309 (40 * k) = cm (nth xs 0) := hX.2.1 0 (by omega)
    have g0 : gS M 1309 0 ((40 * k : Nat) : Int) = true := hX.gs hG (i := 0) (by omega)
    have har := arN_ar (nth xs 0)
    refine ⟨M, ?_, ⟨fun _ => ⟨hR, h76⟩, fun h => absurd rfl h⟩, hG, Fj.refl⟩
    rw [M_lookAt_69_eq, hG.gM, gd_t, hG.m63, g0, gd_t, toNat_n, c0, M_manyOf_s (av_nth hv (by omega)), cI_s, if_neg (by omega)]
  | succ t ih =>
    intro j T M d6 hm0 h hG hT hR hxs h76
    obtain ⟨hk1, hk2, hk3⟩ := hT.k
    have hk := hR.2 k hk1
    have hm := hT.1.1.2.2
    have hX := hk.rx (by omega) (hT.2.2 k hk1)
    rw [hxs] at hX
    have c0 : mI M 1309 (40 * k) = cm (nth xs 0) := hX.2.1 0 (by omega)
    have g0 : gS M 1309 0 ((40 * k : Nat) : Int) = true := hX.gs hG (i := 0) (by omega)
    have har := arN_ar (nth xs 0)
    obtain ⟨p1, c, p2⟩ := agp_lt hw1 (k := j) (by omega)
    have hwn : wf (j + (arN (nth xs 0) - j)) (xs.drop (0 + 1)) := by
      have := wf_next (p := 0) (by omega) hw1
      rw [show j + (arN (nth xs 0) - j) = 0 + arN (nth xs 0) by omega]
      exact this
    have e1 := M_argument_s hG hX (p := 0) hwn (by omega)
    have e1 : M_argument 1309 ((40 * k : Nat) : Int) (j : Int) M = _ := e1
    have e2 := M_behind_s hG hX p2
    have hbl := beh_le (xs := xs) (p := agp xs 0 j) (by omega)
    have hbg := beh_gt p1
    have har16 := arN_lt (nth xs 0)
    obtain ⟨M1, b1, b2, b3, b4, b5, b6⟩ := M_addPart hm0 hG hT hR h76 hk1 (p := agp xs 0 j) (c := c) (by rw [hxs]; exact p2) (by rw [hxs]; exact p1)
    rw [hxs] at b1 b2 b3
    have x40 : xs.length ≤ 40 := by rw [← hxs]; exact (hT.2.2 k hk1).2.2
    have head : M_lookAt_69 1269 (k : Int) ((40 * k : Nat) : Int) 1 (j : Int) d3 d6 M = M_lookAt_69 1269 (k : Int) ((40 * k : Nat) : Int) (if ad1 (sub xs (agp xs 0 j)).length T.2.2 = 0 then 1 else 0) ((j + 1 : Nat) : Int) d3 (some (.inl ((40 * k + agp xs 0 j : Nat) : Int))) M1 := by
      rw [M_lookAt_69_eq, hG.gM, gd_t, hG.m63, g0, gd_t, toNat_n, c0, M_manyOf_s (av_nth hv (by omega)), cI_s, if_pos (by omega), if_neg (by decide), hG.gM, gd_t, hG.m63, e1, cI_s, hG.gM, gd_t, gd_t, hG.m63, e2, cI_s, hG.gM, gd_t, wr_id (x := ((40 * k + beh xs (agp xs 0 j) : Nat) : Int) - ((40 * k + agp xs 0 j : Nat) : Int)) (by omega) (by omega), show ((40 * k + beh xs (agp xs 0 j) : Nat) : Int) - ((40 * k + agp xs 0 j : Nat) : Int) = ((beh xs (agp xs 0 j) - agp xs 0 j : Nat) : Int) by omega, b1, cI_s, wr_s (by omega)]
    have eL : argL xs (t + 1) j = (sub xs (agp xs 0 j), -1, -1) :: argL xs t (j + 1) := rfl
    rw [head, eL, adL_s]
    by_cases q : ad1 (sub xs (agp xs 0 j)).length T.2.2 = 0
    · obtain ⟨r1, r2⟩ := b3 q
      have hsl : ¬ 40 < (sub xs (agp xs 0 j)).length ∧ T.2.2 < 120 := by
        unfold ad1 at q
        by_cases z : 40 < (sub xs (agp xs 0 j)).length
        · rw [if_pos z] at q; exact absurd q (by decide)
        · rw [if_neg z] at q
          by_cases z2 : 120 ≤ T.2.2
          · rw [if_pos z2] at q; exact absurd q (by decide)
          · exact ⟨z, by omega⟩
      have hT1 := TOK.add hT (sub xs (agp xs 0 j), -1, -1) (sub_eok hv p2) hsl.1 hsl.2
      have hx1 : (adT k T (sub xs (agp xs 0 j), -1, -1)).1 k = xs := (upX_ne (by omega)).trans hxs
      obtain ⟨M', a1, a2, a3, a4⟩ := ih (j + 1) _ M1 (some (.inl ((40 * k + agp xs 0 j : Nat) : Int))) (Nat.le_succ_of_le hm0) (by omega) b4 hT1 r1 hx1 r2
      rw [if_pos q, if_pos q, a1]
      exact ⟨M', rfl, a2, a3, b5.trans a4⟩
    · have g1 : gS M1 1309 0 ((40 * k : Nat) : Int) = true := b4.tgS arr_1309 (by omega) (by omega)
      have c1 : mI M1 1309 (40 * k) = cm (nth xs 0) := (b6 _ (by omega)).trans c0
      rw [if_neg q, if_neg q, M_lookAt_69_eq, b4.gM, gd_t, b4.m63, g1, gd_t, toNat_n, c1, M_manyOf_s (av_nth hv (by omega)), cI_s]
      refine ⟨M1, ?_, ⟨fun h => absurd h q, fun _ => b2 q⟩, b4, b5⟩
      by_cases z : ((j + 1 : Nat) : Int) < ar (nth xs 0)
      · rw [if_pos z, if_pos rfl]
      · rw [if_neg z]
end RADD

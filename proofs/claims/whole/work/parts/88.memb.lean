/-! ===== coupled, embedded: the reference ===== -/
section MCOMP
variable {M : Mem} {A B n m o o2 : Nat} {xs ys : List Int}
def EBm (M : Mem) (xs ys : List Int) (i j : Nat) : Prop := ∀ a b, a < xs.length → b < ys.length → (i < a ∨ (a = i ∧ j ≤ b)) → mI M 1305 (41 * a + b) = b2i (emb xs ys a b)
def leS : Nat → Nat → Prop := fun a _ => a = 1305
theorem M_idx {o o2 i j : Nat} (h1 : o + i ≤ 20480) (h2 : o2 + j ≤ 20480) (h3 : i ≤ 40) : wr (wr (wr (41 * wr (((o + i : Nat) : Int) - (o : Int))) + ((o2 + j : Nat) : Int)) - (o2 : Int)) = ((41 * i + j : Nat) : Int) := by
  rw [wr_id (x := ((o + i : Nat) : Int) - (o : Int)) (by omega) (by omega), wr_id (x := 41 * (((o + i : Nat) : Int) - (o : Int))) (by omega) (by omega), wr_id (x := 41 * (((o + i : Nat) : Int) - (o : Int)) + ((o2 + j : Nat) : Int)) (by omega) (by omega), wr_id (by omega) (by omega)]
  omega
theorem M_lt {a b : Nat} (h1 : a < 40) (h2 : b < 40) : ((41 * a + b : Nat) : Int) < ((1681 : Nat) : Int) := by omega
theorem o_le {o a l n : Nat} (h1 : a < l) (h2 : o + l ≤ n) (h3 : n ≤ 20480) : o + a ≤ 20480 := by omega
theorem M_cpl_loop (hG : Good M) (hX : RX M A n o xs) (hY : RX M B m o2 ys) {i j : Nat} (hE : EBm M xs ys i (j + 1)) (hlx : xs.length ≤ 40) (hly : ys.length ≤ 40) (hi : i < xs.length) (hj : j < ys.length) {b1 b2 : Nat} (hwx : wf (1 + b1) (xs.drop i)) (hwy : wf (1 + b2) (ys.drop j)) (he : nth ys j = nth xs i) (d6 : LV) : ∀ (t k : Nat), arN (nth xs i) - k = t → k ≤ arN (nth xs i) → M_coupledAt_70 1269 A (o : Int) ((o + i : Nat) : Int) B (o2 : Int) ((o + agp xs i k : Nat) : Int) ((o2 + agp ys j k : Nat) : Int) (k : Int) d6 M = some (some (.inl (b2i (allA (emb xs ys) xs ys i j t k))), M) := by
  have ha := arN_ar (nth xs i)
  have hc := hX.v hi
  have hcell : mI M A (o + i) = cm (nth xs i) := hX.2.1 i hi
  have hn1 := hX.1.2
  have hn2 := hY.1.2
  have hx2 := hX.2.2.1
  have hy2 := hY.2.2.1
  intro t
  induction t with
  | zero =>
    intro k e1 e2
    rw [M_coupledAt_70_eq, hX.gs hG hi, gd_t, toNat_n, hcell, M_manyOf_s hc, cI_s, if_neg (by omega)]
    rfl
  | succ t ih =>
    intro k e1 e2
    obtain ⟨x1, c1, x2⟩ := agp_lt hwx (k := k) (by omega)
    obtain ⟨y1, c2, y2⟩ := agp_lt hwy (k := k) (by rw [he]; omega)
    have g1 := agp_gt xs i k
    have p1 : agp xs i k < 40 := Nat.lt_of_lt_of_le x1 hlx
    have p2 : agp ys j k < 40 := Nat.lt_of_lt_of_le y1 hly
    have h8 := arN_lt (nth xs i)
    have hnx := ih (k + 1) (by omega) (by omega)
    rw [M_coupledAt_70_eq, hX.gs hG hi, gd_t, toNat_n, hcell, M_manyOf_s hc, cI_s, if_pos (K_lt e1), hG.gM, gd_t, hG.m57, M_idx (o_le x1 hx2 hn1) (o_le y1 hy2 hn2) (Nat.le_of_lt p1), g12 (hG.tgS arr_1305 (Int.natCast_nonneg _) (M_lt p1 p2)), gd_t, toNat_n, hE _ _ x1 y1 (Or.inl g1)]
    unfold allA
    rcases b2i_01 (emb xs ys (agp xs i k) (agp ys j k)) with ⟨h1, h2⟩ | ⟨h1, h2⟩
    · rw [h2, h1, if_neg (by decide), M_behind_s hG hX x2, cI_s, M_behind_s hG hY y2, cI_s, ← agp_s, ← agp_s, wr_s (by omega), hnx, Bool.true_and]
    · rw [h2, h1, if_pos rfl, Bool.false_and]
      rfl
theorem M_cpl_s (hG : Good M) (hX : RX M A n o xs) (hY : RX M B m o2 ys) {i j : Nat} (hE : EBm M xs ys i (j + 1)) (hlx : xs.length ≤ 40) (hly : ys.length ≤ 40) (hi : i < xs.length) (hj : j < ys.length) {b1 b2 : Nat} (hwx : wf (1 + b1) (xs.drop i)) (hwy : wf (1 + b2) (ys.drop j)) : M_coupledAt 1269 A (o : Int) ((o + i : Nat) : Int) B (o2 : Int) ((o2 + j : Nat) : Int) M = some (some (.inl (b2i (cpl xs ys i j))), M) := by
  have hc := hX.v hi
  have hd := hY.v hj
  have hcell : mI M A (o + i) = cm (nth xs i) := hX.2.1 i hi
  have hcely : mI M B (o2 + j) = cm (nth ys j) := hY.2.1 j hj
  have hn1 := hX.1.2
  have hn2 := hY.1.2
  have hx2 := hX.2.2.1
  have hy2 := hY.2.2.1
  have e20 : ∀ d0 d2 d5 d7 d8 d9 : LV, M_coupledAt_20 A ((o + i : Nat) : Int) B ((o2 + j : Nat) : Int) d0 d2 d5 d7 d8 d9 M = some (some (.inl (if kd (nth xs i) = kd (nth ys j) then 1 else 0)), M) := by
    intro d0 d2 d5 d7 d8 d9
    rw [M_coupledAt_20_eq, hX.gs hG hi, gd_t, toNat_n, hcell, M_sortOf_s hc, cI_s, hY.gs hG hj, gd_t, toNat_n, hcely, M_sortOf_s hd, cI_s]
    split <;> rfl
  unfold cpl cplF
  rw [M_coupledAt_eq, hX.gs hG hi, gd_t, toNat_n, hcell, M_sortOf_s hc, cI_s]
  by_cases hk : kd (nth xs i) = 0
  · rw [if_pos hk, if_pos hk, e20, hk]
    by_cases hk2 : kd (nth ys j) = 0
    · rw [if_pos hk2.symm, decide_eq_true hk2]; rfl
    · rw [if_neg (fun q => hk2 q.symm), decide_eq_false hk2]; rfl
  · rw [if_neg hk, if_neg hk, hY.gs hG hj, gd_t, toNat_n, hcely, M_sortOf_s hd, cI_s]
    by_cases hk2 : kd (nth ys j) = 0
    · rw [if_pos hk2, e20, if_neg (by omega), decide_eq_false (show ¬ nth xs i = nth ys j from fun q => hk (q ▸ hk2)), Bool.false_and]
      rfl
    · rw [if_neg hk2, hX.gs hG hi, gd_t, hY.gs hG hj, gd_t, hcell, hcely]
      by_cases he : nth xs i = nth ys j
      · have := M_cpl_loop hG hX hY hE hlx hly hi hj hwx hwy he.symm (some (.inl ((o2 + j : Nat) : Int))) _ 0 rfl (Nat.zero_le _)
        rw [agp_z, agp_z, Nat.sub_zero] at this
        have this : M_coupledAt_70 1269 A (o : Int) ((o + i : Nat) : Int) B (o2 : Int) ((o + i + 1 : Nat) : Int) ((o2 + j + 1 : Nat) : Int) 0 (some (.inl ((o2 + j : Nat) : Int))) M = _ := this
        rw [if_pos (by rw [he]), wr_s (by omega), wr_s (by omega), this, decide_eq_true he, Bool.true_and]
      · rw [if_neg (fun q => he ((cm_inj hc hd).mp q)), decide_eq_false he, Bool.false_and]
        rfl
theorem M_any_loop (hG : Good M) (hX : RX M A n o xs) (hY : RX M B m o2 ys) {i j : Nat} (hE : EBm M xs ys i (j + 1)) (hlx : xs.length ≤ 40) (hly : ys.length ≤ 40) (hi : i < xs.length) (hj : j < ys.length) {b2 : Nat} (hwy : wf (1 + b2) (ys.drop j)) : ∀ (t k : Nat) (b : Bool), arN (nth ys j) - k = t → k ≤ arN (nth ys j) → ∃ d8 d9, M_layEmbedded_56 1269 A (o : Int) B (o2 : Int) ((o + i : Nat) : Int) ((o2 + j : Nat) : Int) (b2i b) ((o2 + agp ys j k : Nat) : Int) (k : Int) M = M_layEmbedded_107 1269 A (o : Int) B (o2 : Int) ((o + i : Nat) : Int) ((o2 + j : Nat) : Int) (b2i (b || anyA (emb xs ys) ys i j t k)) d8 d9 M := by
  have ha := arN_ar (nth ys j)
  have hd := hY.v hj
  have hcely : mI M B (o2 + j) = cm (nth ys j) := hY.2.1 j hj
  have hn1 := hX.1.2
  have hn2 := hY.1.2
  have hx2 := hX.2.2.1
  have hy2 := hY.2.2.1
  intro t
  induction t with
  | zero =>
    intro k b e1 e2
    rw [M_layEmbedded_56_eq, hY.gs hG hj, gd_t, toNat_n, hcely, M_manyOf_s hd, cI_s, if_neg (by omega)]
    exact ⟨_, _, by unfold anyA; rw [Bool.or_false]⟩
  | succ t ih =>
    intro k b e1 e2
    obtain ⟨y1, c2, y2⟩ := agp_lt hwy (k := k) (by omega)
    have g1 := agp_gt ys j k
    have p2 : agp ys j k < 40 := Nat.lt_of_lt_of_le y1 hly
    have p5 : i < 40 := Nat.lt_of_lt_of_le hi hlx
    have h8 := arN_lt (nth ys j)
    rw [M_layEmbedded_56_eq, hY.gs hG hj, gd_t, toNat_n, hcely, M_manyOf_s hd, cI_s, if_pos (K_lt e1)]
    rcases b2i_01 b with ⟨h1, h2⟩ | ⟨h1, h2⟩
    · rw [if_neg (by omega), h1, Bool.true_or]
      exact ⟨_, _, rfl⟩
    · obtain ⟨d8, d9, h3⟩ := ih (k + 1) (emb xs ys i (agp ys j k)) (by omega) (by omega)
      rw [if_pos h2, hG.gM, gd_t, hG.m57, M_idx (o_le hi hx2 hn1) (o_le y1 hy2 hn2) (Nat.le_of_lt p5), g12 (hG.tgS arr_1305 (Int.natCast_nonneg _) (M_lt p5 p2)), gd_t, toNat_n, hE _ _ hi y1 (Or.inr ⟨rfl, g1⟩), M_behind_s hG hY y2, cI_s, ← agp_s, wr_s (by omega), h3, h1, Bool.false_or]
      exact ⟨d8, d9, rfl⟩
theorem M_pair_s (hA : A ≠ 1305) (hB : B ≠ 1305) (hw : wf 1 xs) (hwy : wf 1 ys) (hlx : xs.length ≤ 40) (hly : ys.length ≤ 40) (hG : Good M) (hX : RX M A n o xs) (hY : RX M B m o2 ys) {i j : Nat} (hE : EBm M xs ys i (j + 1)) (hi : i < xs.length) (hj : j < ys.length) (d7 d8 d9 : LV) : ∃ M' e7 e8 e9, M_layEmbedded_25 1269 A (o : Int) B (o2 : Int) ((o + i : Nat) : Int) ((o2 + j : Nat) : Int) d7 d8 d9 M = M_layEmbedded_25 1269 A (o : Int) B (o2 : Int) ((o + i : Nat) : Int) (((o2 + j : Nat) : Int) - 1) e7 e8 e9 M' ∧ EBm M' xs ys i j ∧ Fj leS M M' := by
  obtain ⟨b1, hb1⟩ := wf_at hw hi
  obtain ⟨b2, hb2⟩ := wf_at hwy hj
  have hn1 := hX.1.2
  have hn2 := hY.1.2
  have hx2 := hX.2.2.1
  have hy2 := hY.2.2.1
  obtain ⟨e8, e9, h1⟩ := M_any_loop hG hX hY hE hlx hly hi hj hb2 _ 0 (cpl xs ys i j) rfl (Nat.zero_le _)
  rw [agp_z, Nat.sub_zero] at h1
  have h1 : M_layEmbedded_56 1269 A (o : Int) B (o2 : Int) ((o + i : Nat) : Int) ((o2 + j : Nat) : Int) (b2i (cpl xs ys i j)) ((o2 + j + 1 : Nat) : Int) 0 M = _ := h1
  rw [M_layEmbedded_25_eq, if_neg (by omega), hG.gM, gd_t, M_cpl_s hG hX hY hE hlx hly hi hj hb1 hb2, cI_s, wr_s (by omega), h1, ← emb_eq hi hj, M_layEmbedded_107_eq, hG.gM, gd_t, hG.m57, M_idx (by omega) (by omega) (by omega), hG.tgB arr_1305, if_neg Bool.false_ne_true, hG.tgS arr_1305 (by omega) (by omega), gd_t, toNat_n]
  have d01 : decide (b2i (emb xs ys i j) = 0 ∨ b2i (emb xs ys i j) = 1) = true := by cases emb xs ys i j <;> decide
  rw [d01, gd_t, wr_id (x := ((o2 + j : Nat) : Int) + -1) (by omega) (by omega), show ((o2 + j : Nat) : Int) + -1 = ((o2 + j : Nat) : Int) - 1 by omega]
  refine ⟨_, _, _, _, rfl, fun a b ha hb h => ?_, Fj.ofI rfl⟩
  by_cases q : a = i ∧ b = j
  · obtain ⟨rfl, rfl⟩ := q
    exact mI_at
  · rw [mI_ne (by omega)]
    exact hE a b ha hb (by omega)
theorem M_row_s (hA : A ≠ 1305) (hB : B ≠ 1305) (hw : wf 1 xs) (hwy : wf 1 ys) (hlx : xs.length ≤ 40) (hly : ys.length ≤ 40) {i : Nat} (hi : i < xs.length) : ∀ (j : Nat) (M : Mem) (d7 d8 d9 : LV), j < ys.length → Good M → RX M A n o xs → RX M B m o2 ys → EBm M xs ys i (j + 1) → ∃ M' e6 e7 e8 e9, M_layEmbedded_25 1269 A (o : Int) B (o2 : Int) ((o + i : Nat) : Int) ((o2 + j : Nat) : Int) d7 d8 d9 M = M_layEmbedded_9 1269 A (o : Int) B (o2 : Int) (((o + i : Nat) : Int) - 1) e6 e7 e8 e9 M' ∧ EBm M' xs ys i 0 ∧ Fj leS M M' := by
  intro j
  induction j with
  | zero =>
    intro M d7 d8 d9 hj hG hX hY hE
    have hn1 := hX.1.2
    have hx2 := hX.2.2.1
    obtain ⟨M1, e7, e8, e9, a1, a2, a3⟩ := M_pair_s hA hB hw hwy hlx hly hG hX hY hE hi hj d7 d8 d9
    rw [a1, M_layEmbedded_25_eq, if_pos (by omega), wr_id (x := ((o + i : Nat) : Int) + -1) (by omega) (by omega), show ((o + i : Nat) : Int) + -1 = ((o + i : Nat) : Int) - 1 by omega]
    exact ⟨M1, _, _, _, _, rfl, a2, a3⟩
  | succ j ih =>
    intro M d7 d8 d9 hj hG hX hY hE
    obtain ⟨M1, e7, e8, e9, a1, a2, a3⟩ := M_pair_s hA hB hw hwy hlx hly hG hX hY hE hi hj d7 d8 d9
    obtain ⟨M2, k6, k7, k8, k9, b1, b2, b3⟩ := ih M1 e7 e8 e9 (by omega) (hG.fj a3) (hX.fj a3 (by unfold leS; omega)) (hY.fj a3 (by unfold leS; omega)) a2
    rw [a1, show ((o2 + (j + 1) : Nat) : Int) - 1 = ((o2 + j : Nat) : Int) by omega, b1]
    exact ⟨M2, k6, k7, k8, k9, rfl, b2, a3.trans b3⟩
theorem M_rows_s (hA : A ≠ 1305) (hB : B ≠ 1305) (hw : wf 1 xs) (hwy : wf 1 ys) (hlx : xs.length ≤ 40) (hly : ys.length ≤ 40) : ∀ (i : Nat) (M : Mem) (d6 d7 d8 d9 : LV), i ≤ xs.length → Good M → RX M A n o xs → RX M B m o2 ys → EBm M xs ys i 0 → ∃ M', M_layEmbedded_9 1269 A (o : Int) B (o2 : Int) (((o + i : Nat) : Int) - 1) d6 d7 d8 d9 M = some (none, M') ∧ EBm M' xs ys 0 0 ∧ Fj leS M M' := by
  have hly2 := wf_len _ _ hwy
  have hbe : beh ys 0 = ys.length := by unfold beh; rw [List.drop_zero, sk_self hwy, Nat.zero_add]
  intro i
  induction i with
  | zero =>
    intro M d6 d7 d8 d9 hi hG hX hY hE
    rw [M_layEmbedded_9_eq, if_pos (by omega)]
    exact ⟨M, rfl, hE, Fj.refl⟩
  | succ i ih =>
    intro M d6 d7 d8 d9 hi hG hX hY hE
    have hn2 := hY.1.2
    have hy2 := hY.2.2.1
    have hb := M_behind_s hG hY (p := 0) (b := 0) hwy
    rw [hbe] at hb
    have hb : M_behind B (o2 : Int) M = _ := hb
    have hE' : EBm M xs ys i (ys.length - 1 + 1) := fun a b ha hb q => hE a b ha hb (by omega)
    obtain ⟨M1, e6, e7, e8, e9, a1, a2, a3⟩ := M_row_s hA hB hw hwy hlx hly (i := i) (by omega) (ys.length - 1) M d7 d8 d9 (by omega) hG hX hY hE'
    obtain ⟨M2, b1, b2, b3⟩ := ih M1 e6 e7 e8 e9 (by omega) (hG.fj a3) (hX.fj a3 (by unfold leS; omega)) (hY.fj a3 (by unfold leS; omega)) a2
    rw [M_layEmbedded_9_eq, if_neg (by omega), hb, cI_s, wr_id (x := ((o2 + ys.length : Nat) : Int) - 1) (by omega) (by omega), show ((o2 + ys.length : Nat) : Int) - 1 = ((o2 + (ys.length - 1) : Nat) : Int) by omega, show ((o + (i + 1) : Nat) : Int) - 1 = ((o + i : Nat) : Int) by omega, a1, b1]
    exact ⟨M2, rfl, b2, a3.trans b3⟩
theorem M_layEmbedded_s (hA : A ≠ 1305) (hB : B ≠ 1305) (hw : wf 1 xs) (hwy : wf 1 ys) (hlx : xs.length ≤ 40) (hly : ys.length ≤ 40) (hG : Good M) (hX : RX M A n o xs) (hY : RX M B m o2 ys) : ∃ M', M_layEmbedded 1269 A (o : Int) B (o2 : Int) M = some (none, M') ∧ EBm M' xs ys 0 0 ∧ Fj leS M M' := by
  have hn1 := hX.1.2
  have hx2 := hX.2.2.1
  have hbe : beh xs 0 = xs.length := by unfold beh; rw [List.drop_zero, sk_self hw, Nat.zero_add]
  have hb := M_behind_s hG hX (p := 0) (b := 0) hw
  rw [hbe] at hb
  have hb : M_behind A (o : Int) M = _ := hb
  rw [M_layEmbedded_eq, hb, cI_s, wr_id (x := ((o + xs.length : Nat) : Int) - 1) (by omega) (by omega)]
  exact M_rows_s hA hB hw hwy hlx hly xs.length M none none none none (Nat.le_refl _) hG hX hY (fun a b ha hb h => by omega)
theorem M_isCoupled_s (hA : A ≠ 1305) (hB : B ≠ 1305) (hw : wf 1 xs) (hwy : wf 1 ys) (hlx : xs.length ≤ 40) (hly : ys.length ≤ 40) (hG : Good M) (hX : RX M A n o xs) (hY : RX M B m o2 ys) : ∃ M', M_isCoupled 1269 A (o : Int) B (o2 : Int) M = some (some (.inl (b2i (cpl xs ys 0 0))), M') ∧ Fj leS M M' := by
  have hl1 := wf_len _ _ hw
  have hl2 := wf_len _ _ hwy
  have hc := hX.v (i := 0) (by omega)
  have hd := hY.v (i := 0) (by omega)
  have hcell : mI M A o = cm (nth xs 0) := hX.2.1 0 (by omega)
  have hcely : mI M B o2 = cm (nth ys 0) := hY.2.1 0 (by omega)
  have g1 : gS M A 0 (o : Int) = true := hX.gs hG (i := 0) (by omega)
  have g2 : gS M B 0 (o2 : Int) = true := hY.gs hG (i := 0) (by omega)
  have e21 : ∃ M', M_isCoupled_21 1269 A (o : Int) B (o2 : Int) M = some (some (.inl (b2i (cpl xs ys 0 0))), M') ∧ Fj leS M M' := by
    obtain ⟨M1, a1, a2, a3⟩ := M_layEmbedded_s hA hB hw hwy hlx hly hG hX hY
    have hG1 := hG.fj a3
    have hX1 := hX.fj a3 (by unfold leS; omega)
    have hY1 := hY.fj a3 (by unfold leS; omega)
    have hcp := M_cpl_s hG1 hX1 hY1 (i := 0) (j := 0) (fun a b ha hb h => a2 a b ha hb (by omega)) hlx hly (by omega) (by omega) (b1 := 0) (b2 := 0) hw hwy
    have hcp : M_coupledAt 1269 A (o : Int) (o : Int) B (o2 : Int) (o2 : Int) M1 = _ := hcp
    have d01 : decide (b2i (cpl xs ys 0 0) = 0 ∨ b2i (cpl xs ys 0 0) = 1) = true := by cases cpl xs ys 0 0 <;> decide
    rw [M_isCoupled_21_eq, hG.gM, gd_t, a1, cV_s, hG1.gM, gd_t, hcp, cI_s, d01, gd_t]
    exact ⟨M1, rfl, a3⟩
  rw [M_isCoupled_eq, g1, gd_t, g2, gd_t, toNat_n, toNat_n, hcell, hcely]
  by_cases he : nth xs 0 = nth ys 0
  · rw [if_pos (by rw [he])]
    exact e21
  · rw [if_neg (fun q => he ((cm_inj hc hd).mp q)), gd_t, M_sortOf_s hc, cI_s]
    by_cases hk : kd (nth xs 0) = 0
    · rw [if_pos hk]
      exact e21
    · have : cpl xs ys 0 0 = false := by
        unfold cpl cplF
        rw [if_neg hk, decide_eq_false he, Bool.false_and]
      rw [if_neg hk, this]
      exact ⟨M, rfl, Fj.refl⟩
end MCOMP

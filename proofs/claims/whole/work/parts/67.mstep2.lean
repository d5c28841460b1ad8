/-! ===== a STEP: the reference lays what comes ===== -/
theorem CLf.all {xs : List Int} {at0 m : Nat} {z : Clz} (hf : CLf xs at0 z) (hz : zok m z) : (∃ b, wf (z.2.2.1.length + b) (xs.drop (st0 z at0))) ∧ st0 z at0 ≤ xs.length ∧ sts xs (st0 z at0) z.2.2.1.length = beh xs at0 := by
  obtain ⟨⟨f1, f2, b, f3⟩, f4⟩ := hf
  obtain ⟨-, z3, ⟨z4, z5, z6, z7⟩, -⟩ := hz
  have hba := beh_agp f1
  rw [agp_sts, f2] at hba
  unfold st0
  by_cases q : z.2.1 = -1
  · rw [if_pos q, z6 q]
    exact ⟨⟨b, by rw [Nat.add_comm]; exact f3⟩, f1, hba.symm⟩
  · obtain ⟨q1, q2⟩ := z7 q
    obtain ⟨q3, q4⟩ := f4 q
    rw [if_neg q]
    rw [drop_cons q3, q4] at f3
    obtain ⟨v, hv, h⟩ := wf_pos f3
    refine ⟨⟨b, by rw [show z.2.2.1.length + b = v + arN z.2.1 by omega]; exact h⟩, q3, ?_⟩
    rw [hba, show arN z.1 = (arN z.1 - 1) + 1 by omega, sts_con q3, q4, show arN z.1 - 1 + arN z.2.1 = z.2.2.1.length by omega]
section MSTEP2
variable {M : Mem} {z : Clz} {a y n m2 k : Nat} {xs : List Int}
/-- a part comes behind a row -/
theorem RM.copy {M1 : Mem} {us vs : List Int} {q : Nat} (h : RM M y 0 us) (hx : RM M a 0 xs) (hq : q + vs.length ≤ xs.length) (hvs : ∀ j, j < vs.length → nth vs j = nth xs (q + j)) (hc : ∀ j, mI M1 y j = if us.length ≤ j ∧ j < us.length + vs.length then mI M a (q + (j - us.length)) else mI M y j) : RM M1 y 0 (us ++ vs) := by
  intro j hj
  rw [List.length_append] at hj
  rw [Nat.zero_add, hc]
  by_cases e : us.length ≤ j
  · have h2 := hx (q + (j - us.length)) (by omega)
    rw [Nat.zero_add] at h2
    rw [if_pos (by omega), h2, nth_app2 e, hvs _ (by omega)]
  · have h2 := h j (by omega)
    rw [Nat.zero_add] at h2
    rw [if_neg (by omega), h2, nth_app1 (by omega)]
theorem M_stepOf_loop (hay : a ≠ y ∧ a ≠ 1269 ∧ y ≠ 1269 ∧ y ≠ 1300 ∧ ¬ (1274 ≤ y ∧ y ≤ 1279)) (hya : arr y 0 m2 ∧ m2 ≤ 20480) (hk : k < 80) {m : Nat} (hm : m ≤ 100) (hz : zok m z) {at0 : Nat} (hf : CLf xs at0 z) (hav : av xs) : ∀ (t i : Nat) (M : Mem) (us : List Int) (d1 d2 d3 : LV), z.2.2.2.length - i = t → i ≤ z.2.2.2.length → Good M → RX M a n 0 xs → ROW M k z → mI M 1269 47 = (at0 : Int) → mI M 1269 49 = (k : Int) → (∀ j, j < z.2.2.1.length → mI M 1300 j = (sts xs (st0 z at0) j : Nat)) → RM M y 0 us → us.length + (((z.2.2.2.drop i).flatMap (put1 xs (st0 z at0) z.2.2.1)).length + (xs.length - beh xs at0)) ≤ m2 → ∃ M', M_stepOf_33 1269 a (xs.length : Int) y (us.length : Int) (i : Int) d1 d2 d3 M = some (some (.inl ((us ++ ((z.2.2.2.drop i).flatMap (put1 xs (st0 z at0) z.2.2.1) ++ xs.drop (beh xs at0))).length : Int)), M') ∧ RM M' y 0 (us ++ ((z.2.2.2.drop i).flatMap (put1 xs (st0 z at0) z.2.2.1) ++ xs.drop (beh xs at0))) ∧ Fi (fun b => b = y) M M' := by
  obtain ⟨⟨b, hwf⟩, hst, hend⟩ := hf.all hz
  have hvl := hz.2.2.1.2.1
  have hrl := hz.2.2.2.1.2.2
  have havr := hz.2.2.2.1.2.1
  have hat := hf.1.1
  have hbl := beh_le (xs := xs) (p := at0) (by omega)
  intro t
  induction t with
  | zero =>
    intro i M us d1 d2 d3 e1 e2 hG hX hR h47 h49 hS hU hl
    have hxl : xs.length ≤ n := by have := hX.2.2.1; omega
    have hn := hX.1.2
    rw [List.drop_eq_nil_of_le (by omega), List.flatMap_nil] at hl ⊢
    rw [List.length_nil] at hl
    have hw0 : ∃ b2, wf (1 + b2) (xs.drop at0) := by
      obtain ⟨-, f2, b2, f3⟩ := hf.1
      refine ⟨b2, ?_⟩
      rw [drop_cons hat, f2, Nat.add_comm]
      exact f3
    obtain ⟨b2, hw0⟩ := hw0
    have e3 := M_behind_s hG hX hw0
    rw [Nat.zero_add, Nat.zero_add] at e3
    have hdl : (xs.drop (beh xs at0)).length = xs.length - beh xs at0 := List.length_drop
    obtain ⟨M1, a1, a2, a3⟩ := M_copy_s hG (s := a) (d := y) (p := beh xs at0) (q := us.length) (k := xs.length - beh xs at0) hX.1.1 hya.1 (by omega) (by omega) ⟨hn, hya.2⟩ (Or.inl hay.1)
    rw [M_stepOf_33_eq, hG.gM, gd_t, gd_t, h49, hG.m15, hG.tgS arr_1278 (by omega) (by omega), gd_t, toNat_n, hR.2.2.1, if_neg (by omega), gd_t, h47, e3, cI_s, wr_id (x := (xs.length : Int) - ((beh xs at0 : Nat) : Int)) (by omega) (by omega), show (xs.length : Int) - ((beh xs at0 : Nat) : Int) = ((xs.length - beh xs at0 : Nat) : Int) by omega, a1, cV_s, wr_id (x := (us.length : Int) + (xs.length : Int)) (by omega) (by omega), wr_id (by omega) (by omega)]
    refine ⟨M1, ?_, ?_, a2⟩
    · rw [List.nil_append, List.length_append, hdl, show (us.length : Int) + (xs.length : Int) - ((beh xs at0 : Nat) : Int) = ((us.length + (xs.length - beh xs at0) : Nat) : Int) by omega]
    · rw [List.nil_append]
      exact RM.copy hU hX.2.1 (q := beh xs at0) (by omega) (fun j hj => nth_drop) (fun j => by rw [hdl]; exact a3 j)
  | succ t ih =>
    intro i M us d1 d2 d3 e1 e2 hG hX hR h47 h49 hS hU hl
    have hxl : xs.length ≤ n := by have := hX.2.2.1; omega
    have hn := hX.1.2
    have hi : i < z.2.2.2.length := by omega
    have hcv := av_nth havr hi
    have hcm := nth_mem hi
    have hcell : mI M 1279 (100 * k + i) = cm (nth z.2.2.2 i) := hR.2.2.2 i hi
    rw [drop_cons hi, List.flatMap_cons] at hl ⊢
    rw [List.length_append] at hl
    have go : ∀ (M1 : Mem) (d4 d5 d6 : LV), RM M1 y 0 (us ++ put1 xs (st0 z at0) z.2.2.1 (nth z.2.2.2 i)) → Fi (fun b => b = y) M M1 → ∃ M', M_stepOf_33 1269 a (xs.length : Int) y ((us ++ put1 xs (st0 z at0) z.2.2.1 (nth z.2.2.2 i)).length : Int) ((i + 1 : Nat) : Int) d4 d5 d6 M1 = some (some (.inl ((us ++ (put1 xs (st0 z at0) z.2.2.1 (nth z.2.2.2 i) ++ (z.2.2.2.drop (i + 1)).flatMap (put1 xs (st0 z at0) z.2.2.1) ++ xs.drop (beh xs at0))).length : Int)), M') ∧ RM M' y 0 (us ++ (put1 xs (st0 z at0) z.2.2.1 (nth z.2.2.2 i) ++ (z.2.2.2.drop (i + 1)).flatMap (put1 xs (st0 z at0) z.2.2.1) ++ xs.drop (beh xs at0))) ∧ Fi (fun b => b = y) M M' := by
      intro M1 d4 d5 d6 hU1 hF
      have hFj : Fj (fun b _ => b = y) M M1 := hF.fj fun a k q => q
      obtain ⟨M2, a1, a2, a3⟩ := ih (i + 1) M1 _ d4 d5 d6 (by omega) (by omega) (hG.fi hF) (hX.fi hF (by omega)) (hR.fj hFj fun b j hb => by omega) ((hF.2.2 _ (by omega) _).trans h47) ((hF.2.2 _ (by omega) _).trans h49) (fun j hj => (hF.2.2 _ (by omega) _).trans (hS j hj)) hU1 (by rw [List.length_append]; omega)
      simp only [List.append_assoc] at a1 a2 ⊢
      exact ⟨M2, a1, a2, hF.trans a3⟩
    rw [M_stepOf_33_eq, hG.gM, gd_t, gd_t, h49, hG.m15, hG.tgS arr_1278 (by omega) (by omega), gd_t, toNat_n, hR.2.2.1, if_pos (by omega), gd_t, gd_t, hG.m16, wr_id (x := 100 * (k : Int)) (by omega) (by omega), wr_id (x := 100 * (k : Int) + (i : Int)) (by omega) (by omega), show 100 * (k : Int) + (i : Int) = ((100 * k + i : Nat) : Int) by omega, hG.tgS arr_1279 (by omega) (by omega), gd_t, toNat_n, hcell, M_sortOf_s hcv, cI_s]
    by_cases hk0 : kd (nth z.2.2.2 i) = 0
    · have hpc := (hz.2.2.2.2 _ hcm).1 hk0
      have hin := hpc.2 z.2.2.1 rfl
      have hix := ix_mem.mpr hin
      have hrg := ix_rng z.2.2.1 (nth z.2.2.2 i)
      obtain ⟨j, hj⟩ := Int.eq_ofNat_of_zero_le (show 0 ≤ ix z.2.2.1 (nth z.2.2.2 i) by omega)
      have hp : put1 xs (st0 z at0) z.2.2.1 (nth z.2.2.2 i) = sub xs (sts xs (st0 z at0) j) := by unfold put1; rw [if_pos ⟨hk0, hix⟩, hj, toNat_n]
      have e6 := M_leftOf_s hG hk hz hR hin
      rw [hj] at hrg e6
      have hw2 : wf (1 + (z.2.2.1.length - j - 1 + b)) (xs.drop (sts xs (st0 z at0) j)) := by
        have := (wf_sk (xs.drop (st0 z at0)) j (z.2.2.1.length - j + b) (by rw [show j + (z.2.2.1.length - j + b) = z.2.2.1.length + b by omega]; exact hwf)).2
        rw [List.drop_drop] at this
        rw [show 1 + (z.2.2.1.length - j - 1 + b) = z.2.2.1.length - j + b by omega]
        exact this
      have e7 := M_behind_s hG hX hw2
      rw [Nat.zero_add, Nat.zero_add] at e7
      have hsl := sts_le hst j
      have hbl2 := beh_le hsl
      have hge : sts xs (st0 z at0) j ≤ beh xs (sts xs (st0 z at0) j) := by unfold beh; omega
      have hlen : (sub xs (sts xs (st0 z at0) j)).length = beh xs (sts xs (st0 z at0) j) - sts xs (st0 z at0) j := sub_len
      rw [hp] at hl go ⊢
      rw [hlen] at hl
      obtain ⟨M1, a1, a2, a3⟩ := M_copy_s hG (s := a) (d := y) (p := sts xs (st0 z at0) j) (q := us.length) (k := beh xs (sts xs (st0 z at0) j) - sts xs (st0 z at0) j) hX.1.1 hya.1 (by omega) (by omega) ⟨hn, hya.2⟩ (Or.inl hay.1)
      have hU1 : RM M1 y 0 (us ++ sub xs (sts xs (st0 z at0) j)) := RM.copy hU hX.2.1 (q := sts xs (st0 z at0) j) (by omega) (fun i hi => by
        rw [hlen] at hi
        unfold sub
        rw [nth_take (by unfold beh at hi; omega), nth_drop]) (fun i => by rw [hlen]; exact a3 i)
      have hla : (us ++ sub xs (sts xs (st0 z at0) j)).length = us.length + (beh xs (sts xs (st0 z at0) j) - sts xs (st0 z at0) j) := by rw [List.length_append, hlen]
      rw [if_pos hk0, hG.gM, gd_t, gd_t, M_nameOf_s hcv, cI_s, hG.gM, gd_t, h49, e6, cI_s, hG.m50, hG.tgS arr_1300 (by omega) (by omega), gd_t, toNat_n, hS j (by omega), e7, cI_s, wr_id (x := ((beh xs (sts xs (st0 z at0) j) : Nat) : Int) - ((sts xs (st0 z at0) j : Nat) : Int)) (by omega) (by omega), show ((beh xs (sts xs (st0 z at0) j) : Nat) : Int) - ((sts xs (st0 z at0) j : Nat) : Int) = ((beh xs (sts xs (st0 z at0) j) - sts xs (st0 z at0) j : Nat) : Int) by omega, a1, cV_s, wr_id (x := (us.length : Int) + ((beh xs (sts xs (st0 z at0) j) - sts xs (st0 z at0) j : Nat) : Int)) (by omega) (by omega), wr_s (by omega), show (us.length : Int) + ((beh xs (sts xs (st0 z at0) j) - sts xs (st0 z at0) j : Nat) : Int) = ((us ++ sub xs (sts xs (st0 z at0) j)).length : Int) by rw [hla]; omega]
      exact go M1 _ _ _ hU1 a2
    · have hp : put1 xs (st0 z at0) z.2.2.1 (nth z.2.2.2 i) = [nth z.2.2.2 i] := by unfold put1; rw [if_neg (fun q => hk0 q.1)]
      rw [hp] at hl go ⊢
      rw [List.length_singleton] at hl
      have hU1 : RM (stI M y us.length (cm (nth z.2.2.2 i))) y 0 (us ++ [nth z.2.2.2 i]) := by have := hU.push (c := nth z.2.2.2 i); rwa [Nat.zero_add] at this
      rw [if_neg hk0, hG.tgS hya.1 (by omega) (by omega), gd_t, toNat_n, wr_s (i := us.length) (by omega), wr_s (by omega), show ((us.length + 1 : Nat) : Int) = ((us ++ [nth z.2.2.2 i]).length : Int) by rw [List.length_append]; rfl]
      exact go _ _ _ _ hU1 (Fi.ofI rfl)
theorem M_stepOf_s (hay : a ≠ y ∧ a ≠ 1269 ∧ y ≠ 1269 ∧ y ≠ 1300 ∧ ¬ (1274 ≤ y ∧ y ≤ 1279)) (ha : a ≠ 1300) (hya : arr y 0 m2 ∧ m2 ≤ 20480) (hk : k < 80) {m : Nat} (hm : m ≤ 100) (hz : zok m z) {at0 : Nat} (hf : CLf xs at0 z) (hav : av xs) (hG : Good M) (hX : RX M a n 0 xs) (hR : ROW M k z) (h47 : mI M 1269 47 = (at0 : Int)) (h49 : mI M 1269 49 = (k : Int)) (hl : (stx z xs at0).length ≤ m2) : ∃ M', M_stepOf 1269 a (xs.length : Int) y M = some (some (.inl ((stx z xs at0).length : Int)), M') ∧ RM M' y 0 (stx z xs at0) ∧ Fi (fun b => b = y ∨ b = 1300) M M' := by
  obtain ⟨-, hst, hend⟩ := hf.all hz
  have hat := hf.1.1
  have hn := hX.1.2
  have hxl : xs.length ≤ n := by have := hX.2.2.1; omega
  obtain ⟨M1, a1, a2, a3⟩ := M_layArguments_s ⟨ha, hay.2.1⟩ hk hz hf hG hX hR
  have hG1 := hG.fj a3
  have hX1 : RX M1 a n 0 xs := hX.fj a3 (by unfold s1300; omega)
  have h47' : mI M1 1269 47 = (at0 : Int) := (a3.2.2 _ _ (by unfold s1300; omega)).trans h47
  have h49' : mI M1 1269 49 = (k : Int) := (a3.2.2 _ _ (by unfold s1300; omega)).trans h49
  unfold stx at hl ⊢
  rw [hend] at hl ⊢
  simp only [List.length_append, List.length_drop, List.length_take] at hl
  obtain ⟨M2, b1, b2, b3⟩ := M_copy_s hG1 (s := a) (d := y) (p := 0) (q := 0) (k := at0) hX.1.1 hya.1 (by omega) (by omega) ⟨hn, hya.2⟩ (Or.inl hay.1)
  have b1 : M_copy a 0 (at0 : Int) y 0 M1 = some (none, M2) := b1
  have hG2 := hG1.fi b2
  have htl : (xs.take at0).length = at0 := by rw [List.length_take]; omega
  have hU : RM M2 y 0 (xs.take at0) := fun j hj => by
    rw [htl] at hj
    rw [Nat.zero_add, b3, if_pos (by omega), nth_take hj]
    exact hX1.2.1 j (by omega)
  have b2j : Fj (fun b _ => b = y) M1 M2 := b2.fj fun a k q => q
  have h47'' : mI M2 1269 47 = (at0 : Int) := (b2.2.2 _ (by omega) _).trans h47'
  obtain ⟨M3, c1, c2, c3⟩ := M_stepOf_loop hay hya hk hm hz hf hav _ 0 M2 (xs.take at0) none none none rfl (Nat.zero_le _) hG2 (hX1.fi b2 (by omega)) ((hR.fj a3 (by unfold s1300; omega)).fj b2j fun b j hb => by omega) h47'' ((b2.2.2 _ (by omega) _).trans h49') (fun j hj => (b2.2.2 _ (by omega) _).trans (a2 j hj)) hU (by rw [List.drop_zero, htl]; omega)
  rw [List.drop_zero] at c1 c2
  have c1 : M_stepOf_33 1269 a (xs.length : Int) y ((xs.take at0).length : Int) 0 none none none M2 = _ := c1
  rw [htl] at c1
  rw [M_stepOf_eq, hG.gM, gd_t, gd_t, gd_t, h47, h49, a1, cV_s, hG1.gM, gd_t, h47', b1, cV_s, hG2.gM, gd_t, h47'', c1]
  exact ⟨M3, rfl, c2, ((a3.fi (T := fun b => b = y ∨ b = 1300) fun a k q => Or.inr q).trans (b2.mono fun b q => Or.inl q)).trans (c3.mono fun b q => Or.inl q)⟩
end MSTEP2

/-! ===== how long a STEP's outcome would be: the reference ===== -/
section MLONG
variable {M : Mem} {z : Clz} {a n k : Nat} {xs : List Int}
theorem M_stepLong_loop (hk : k < 80) {m : Nat} (hm : m ≤ 100) (hz : zok m z) {at0 : Nat} (hf : CLf xs at0 z) (hG : Good M) (hX : RX M a n 0 xs) (hR : ROW M k z) (h49 : mI M 1269 49 = (k : Int)) (hS : ∀ j, j < z.2.2.1.length → mI M 1300 j = (sts xs (st0 z at0) j : Nat)) : ∀ (t i s : Nat) (d1 d2 d3 : LV), z.2.2.2.length - i = t → i ≤ z.2.2.2.length → s + 20480 * (z.2.2.2.length - i) ≤ 2100000 → M_stepLong_32 1269 a (s : Int) (i : Int) d1 d2 d3 M = some (some (.inl ((s + ((z.2.2.2.drop i).flatMap (put1 xs (st0 z at0) z.2.2.1)).length : Nat) : Int)), M) := by
  obtain ⟨⟨b, hwf⟩, hst, hend⟩ := hf.all hz
  have hvl := hz.2.2.1.2.1
  have hrl := hz.2.2.2.1.2.2
  have havr := hz.2.2.2.1.2.1
  have hxl : xs.length ≤ 20480 := by have := hX.2.2.1; have := hX.1.2; omega
  intro t
  induction t with
  | zero =>
    intro i s d1 d2 d3 e1 e2 e3
    rw [M_stepLong_32_eq, hG.gM, gd_t, gd_t, h49, hG.m15, hG.tgS arr_1278 (by omega) (by omega), gd_t, toNat_n, hR.2.2.1, if_neg (by omega), List.drop_eq_nil_of_le (by omega)]
    rfl
  | succ t ih =>
    intro i s d1 d2 d3 e1 e2 e3
    have hi : i < z.2.2.2.length := by omega
    have hcv := av_nth havr hi
    have hcm := nth_mem hi
    have hcell : mI M 1279 (100 * k + i) = cm (nth z.2.2.2 i) := hR.2.2.2 i hi
    rw [drop_cons hi, List.flatMap_cons, List.length_append]
    rw [M_stepLong_32_eq, hG.gM, gd_t, gd_t, h49, hG.m15, hG.tgS arr_1278 (by omega) (by omega), gd_t, toNat_n, hR.2.2.1, if_pos (by omega), gd_t, gd_t, hG.m16, wr_id (x := 100 * (k : Int)) (by omega) (by omega), wr_id (x := 100 * (k : Int) + (i : Int)) (by omega) (by omega), show 100 * (k : Int) + (i : Int) = ((100 * k + i : Nat) : Int) by omega, hG.tgS arr_1279 (by omega) (by omega), gd_t, toNat_n, hcell, M_sortOf_s hcv, cI_s]
    by_cases hk0 : kd (nth z.2.2.2 i) = 0
    · have hpc := (hz.2.2.2.2 _ hcm).1 hk0
      have hin := hpc.2 z.2.2.1 rfl
      have hix := ix_mem.mpr hin
      have hrg := ix_rng z.2.2.1 (nth z.2.2.2 i)
      obtain ⟨j, hj⟩ := Int.eq_ofNat_of_zero_le (show 0 ≤ ix z.2.2.1 (nth z.2.2.2 i) by omega)
      have hp : put1 xs (st0 z at0) z.2.2.1 (nth z.2.2.2 i) = sub xs (sts xs (st0 z at0) j) := by unfold put1; rw [if_pos ⟨hk0, hix⟩, hj, toNat_n]
      have e6 := M_leftOf_s hG hk hz hR hin
      rw [hj] at hrg e6
      have hw2 : wf (1 + (z.2.2.1.length - j - 1 + b)) (xs.drop (sts xs (st0 z at0) j)) := by
        have := (wf_sk (xs.drop (st0 z at0)) j (z.2.2.1.length - j + b) (by rw [show j + (z.2.2.1.length - j + b) = z.2.2.1.length + b by omega]; exact hwf)).2
        rw [List.drop_drop] at this
        rw [show 1 + (z.2.2.1.length - j - 1 + b) = z.2.2.1.length - j + b by omega]
        exact this
      have e7 := M_behind_s hG hX hw2
      rw [Nat.zero_add, Nat.zero_add] at e7
      have hsl := sts_le hst j
      have hbl2 := beh_le hsl
      have hge : sts xs (st0 z at0) j ≤ beh xs (sts xs (st0 z at0) j) := by unfold beh; omega
      have hlen : (sub xs (sts xs (st0 z at0) j)).length = beh xs (sts xs (st0 z at0) j) - sts xs (st0 z at0) j := sub_len
      have hnx := ih (i + 1) (s + (beh xs (sts xs (st0 z at0) j) - sts xs (st0 z at0) j)) d1 (some (.inl (cm (nth z.2.2.2 i)))) (some (.inl ((sts xs (st0 z at0) j : Nat) : Int))) (by omega) (by omega) (by omega)
      rw [hp, hlen, if_pos hk0, hG.gM, gd_t, gd_t, M_nameOf_s hcv, cI_s, hG.gM, gd_t, h49, e6, cI_s, hG.m50, hG.tgS arr_1300 (by omega) (by omega), gd_t, toNat_n, hS j (by omega), M_stepLong_93_eq, if_neg (by omega), e7, cI_s, wr_id (x := ((beh xs (sts xs (st0 z at0) j) : Nat) : Int) - ((sts xs (st0 z at0) j : Nat) : Int)) (by omega) (by omega), show ((beh xs (sts xs (st0 z at0) j) : Nat) : Int) - ((sts xs (st0 z at0) j : Nat) : Int) = ((beh xs (sts xs (st0 z at0) j) - sts xs (st0 z at0) j : Nat) : Int) by omega, wr_id (x := (s : Int) + ((beh xs (sts xs (st0 z at0) j) - sts xs (st0 z at0) j : Nat) : Int)) (by omega) (by omega), wr_s (by omega), show (s : Int) + ((beh xs (sts xs (st0 z at0) j) - sts xs (st0 z at0) j : Nat) : Int) = ((s + (beh xs (sts xs (st0 z at0) j) - sts xs (st0 z at0) j) : Nat) : Int) by omega, hnx, Nat.add_assoc]
    · have hp : put1 xs (st0 z at0) z.2.2.1 (nth z.2.2.2 i) = [nth z.2.2.2 i] := by unfold put1; rw [if_neg (fun q => hk0 q.1)]
      have hnx := ih (i + 1) (s + 1) d1 (some (.inl (cm (nth z.2.2.2 i)))) (some (.inl (-1))) (by omega) (by omega) (by omega)
      rw [hp, List.length_singleton, if_neg hk0, M_stepLong_93_eq, if_pos rfl, wr_s (i := s) (by omega), wr_s (by omega), hnx, Nat.add_assoc]
theorem M_stepLong_s (ha : a ≠ 1300 ∧ a ≠ 1269) (hk : k < 80) {m : Nat} (hm : m ≤ 100) (hz : zok m z) {at0 : Nat} (hf : CLf xs at0 z) (hG : Good M) (hX : RX M a n 0 xs) (hR : ROW M k z) (h47 : mI M 1269 47 = (at0 : Int)) (h49 : mI M 1269 49 = (k : Int)) : ∃ M', M_stepLong 1269 a (xs.length : Int) M = some (some (.inl ((stx z xs at0).length : Int)), M') ∧ Fj s1300 M M' := by
  obtain ⟨-, hst, hend⟩ := hf.all hz
  have hat := hf.1.1
  have hxl : xs.length ≤ 20480 := by have := hX.2.2.1; have := hX.1.2; omega
  have hrl := hz.2.2.2.1.2.2
  have hbl := beh_le (xs := xs) (p := at0) (by omega)
  have hbg := beh_gt hat
  obtain ⟨M1, a1, a2, a3⟩ := M_layArguments_s ha hk hz hf hG hX hR
  have hG1 := hG.fj a3
  have hX1 : RX M1 a n 0 xs := hX.fj a3 (by unfold s1300; omega)
  have h47' : mI M1 1269 47 = (at0 : Int) := (a3.2.2 _ _ (by unfold s1300; omega)).trans h47
  have h49' : mI M1 1269 49 = (k : Int) := (a3.2.2 _ _ (by unfold s1300; omega)).trans h49
  have hw0 : ∃ b2, wf (1 + b2) (xs.drop at0) := by
    obtain ⟨-, f2, b2, f3⟩ := hf.1
    refine ⟨b2, ?_⟩
    rw [drop_cons hat, f2, Nat.add_comm]
    exact f3
  obtain ⟨b2, hw0⟩ := hw0
  have e3 := M_behind_s hG1 hX1 hw0
  rw [Nat.zero_add, Nat.zero_add] at e3
  have hlp := M_stepLong_loop hk hm hz hf hG1 hX1 (hR.fj a3 (by unfold s1300; omega)) h49' a2 _ 0 (xs.length - (beh xs at0 - at0)) (some (.inl (xs.length : Int))) none none rfl (Nat.zero_le _) (by omega)
  rw [List.drop_zero] at hlp
  have hlp : M_stepLong_32 1269 a ((xs.length - (beh xs at0 - at0) : Nat) : Int) 0 (some (.inl (xs.length : Int))) none none M1 = _ := hlp
  rw [M_stepLong_eq, hG.gM, gd_t, gd_t, gd_t, h47, h49, a1, cV_s, hG1.gM, gd_t, h47', e3, cI_s, hG1.gM, gd_t, h47', wr_id (x := ((beh xs at0 : Nat) : Int) - (at0 : Int)) (by omega) (by omega), wr_id (x := (xs.length : Int) - (((beh xs at0 : Nat) : Int) - (at0 : Int))) (by omega) (by omega), show (xs.length : Int) - (((beh xs at0 : Nat) : Int) - (at0 : Int)) = ((xs.length - (beh xs at0 - at0) : Nat) : Int) by omega, hlp]
  refine ⟨M1, ?_, a3⟩
  unfold stx
  rw [hend]
  simp only [List.length_append, List.length_take, List.length_drop]
  rw [show min at0 xs.length + ((z.2.2.2.flatMap (put1 xs (st0 z at0) z.2.2.1)).length + (xs.length - beh xs at0)) = xs.length - (beh xs at0 - at0) + (z.2.2.2.flatMap (put1 xs (st0 z at0) z.2.2.1)).length by omega]
end MLONG

/-! ===== the reference: what comes of those below ===== -/
/-- what comes of one, or that it is too long -/
def RVm (M : Mem) (k : Nat) (ys : List Int) : Prop := (100 < ys.length → mI M 1269 76 = -6) ∧ (¬ 100 < ys.length → CMm M k ys ∧ mI M 1269 76 = 0)
def cmF (k : Nat) : Nat → Nat → Prop := fun a j => (a = 1324 ∧ 100 * k ≤ j ∧ j < 100 * k + 100) ∨ (a = 1325 ∧ j = k) ∨ (a = 1269 ∧ j = 76)
section RCOMES
variable {M : Mem} {k y : Nat} {xs ys : List Int}
theorem cmF_co {a j : Nat} (q : cmF k a j) : cvS k a j := by unfold cmF at q; unfold cvS; omega
theorem CMm.other {M1 : Mem} (h : CMm M y ys) (f : Fj (cmF k) M M1) (hyk : y ≠ k) : CMm M1 y ys := h.fjo f (fun j q => by unfold cmF; omega) (by unfold cmF; omega)
theorem M_comesMore_s (hG : Good M) (hk : k < 120) (hy : y < 120) (hyk : y ≠ k) (h1 : CMm M k xs) (h2 : CMm M y ys) (h76 : mI M 1269 76 = 0) : ∃ M', M_comesMore 1269 (k : Int) (y : Int) M = some (none, M') ∧ RVm M' k (xs ++ ys) ∧ Good M' ∧ Fj (cmF k) M M' := by
  obtain ⟨⟨r1, l1⟩, x1⟩ := h1
  obtain ⟨⟨r2, l2⟩, x2⟩ := h2
  have g25k : gS M 1325 0 (k : Int) = true := hG.tgS arr_1325 (by omega) (by omega)
  have g25y : gS M 1325 0 (y : Int) = true := hG.tgS arr_1325 (by omega) (by omega)
  have hll : (xs ++ ys).length = xs.length + ys.length := List.length_append
  rw [M_comesMore_eq, hG.gM, gd_t, hG.m87, g25k, gd_t, gd_t, g25y, gd_t, toNat_n, toNat_n, l1, l2, wr_id (x := (xs.length : Int) + (ys.length : Int)) (by omega) (by omega)]
  by_cases q : 100 < (xs ++ ys).length
  · have f1 : Fj (cmF k) M (stI M 1269 76 (-6)) := Fj.ofI (by unfold cmF; omega)
    rw [if_pos (by omega), gd_t, M_breaks_s hG h76, cI_s]
    exact ⟨_, rfl, ⟨fun _ => mI_at, fun h => absurd q h⟩, hG.fj f1, f1⟩
  · obtain ⟨M1, a1, a2, a3⟩ := M_copy_s hG (k := ys.length) (p := 100 * y) (q := 100 * k + xs.length) arr_1324 arr_1324 (by omega) (by omega) ⟨by decide, by decide⟩ (Or.inr (by omega))
    have hG1 := hG.fi a2
    have i25k : mI M1 1325 k = (xs.length : Int) := (a2.2.2 _ (by omega) _).trans l1
    have i25y : mI M1 1325 y = (ys.length : Int) := (a2.2.2 _ (by omega) _).trans l2
    have g25k' : gS M1 1325 0 (k : Int) = true := hG1.tgS arr_1325 (by omega) (by omega)
    have g25y' : gS M1 1325 0 (y : Int) = true := hG1.tgS arr_1325 (by omega) (by omega)
    have f1 : Fj (cmF k) M M1 := ⟨a2.1, a2.2.1, fun b j hb => by
      by_cases q9 : b = 1324
      · subst q9
        rw [a3, if_neg (by unfold cmF at hb; omega)]
      · exact a2.2.2 b q9 j⟩
    have f2 : Fj (cmF k) M1 (stI M1 1325 k (((xs ++ ys).length : Nat) : Int)) := Fj.ofI (by unfold cmF; omega)
    refine ⟨stI M1 1325 k (((xs ++ ys).length : Nat) : Int), ?_, ⟨fun h => absurd h q, fun _ => ⟨⟨⟨fun i hi => ?_, mI_at⟩, by omega⟩, ?_⟩⟩, hG1.fj f2, f1.trans f2⟩
    · rw [if_neg (by omega), gd_t, gd_t, gd_t, gd_t, gd_t, gd_t, hG.m86, wr_id (x := (100 : Int) * (y : Int)) (by omega) (by omega), wr_id (x := (100 : Int) * (k : Int)) (by omega) (by omega), wr_id (x := (100 : Int) * (k : Int) + (xs.length : Int)) (by omega) (by omega), show (100 : Int) * (y : Int) = ((100 * y : Nat) : Int) by omega, show (100 : Int) * (k : Int) + (xs.length : Int) = ((100 * k + xs.length : Nat) : Int) by omega, a1, cV_s, hG1.gM, gd_t, hG1.m87, g25k', gd_t, gd_t, g25y', gd_t, gd_t, i25k, i25y, wr_id (x := (xs.length : Int) + (ys.length : Int)) (by omega) (by omega), show (xs.length : Int) + (ys.length : Int) = (((xs ++ ys).length : Nat) : Int) by omega]
    · rw [mI_ne (by omega), a3]
      by_cases z : i < xs.length
      · rw [if_neg (by omega), nth_app1 z]; exact r1 i z
      · rw [if_pos (by omega), nth_app2 (by omega), show 100 * y + (100 * k + i - (100 * k + xs.length)) = 100 * y + (i - xs.length) by omega]
        exact r2 _ (by omega)
    · rw [mI_ne (by omega)]
      exact (a2.2.2 _ (by omega) _).trans h76
theorem M_comesOne_s {c : Int} (hG : Good M) (hk : k < 120) (h1 : CMm M k xs) (h76 : mI M 1269 76 = 0) : ∃ M', M_comesOne 1269 (k : Int) (cm c) M = some (none, M') ∧ RVm M' k (xs ++ [c]) ∧ Good M' ∧ Fj (cmF k) M M' := by
  obtain ⟨⟨r1, l1⟩, x1⟩ := h1
  have g25k : gS M 1325 0 (k : Int) = true := hG.tgS arr_1325 (by omega) (by omega)
  have hll : (xs ++ [c]).length = xs.length + 1 := by rw [List.length_append]; rfl
  rw [M_comesOne_eq, hG.gM, gd_t, hG.m87, g25k, gd_t, toNat_n, l1]
  by_cases q : 100 < (xs ++ [c]).length
  · have f1 : Fj (cmF k) M (stI M 1269 76 (-6)) := Fj.ofI (by unfold cmF; omega)
    rw [if_pos (by omega), gd_t, M_breaks_s hG h76, cI_s]
    exact ⟨_, rfl, ⟨fun _ => mI_at, fun h => absurd q h⟩, hG.fj f1, f1⟩
  · have g24 : gS M 1324 0 ((100 * k + xs.length : Nat) : Int) = true := hG.tgS arr_1324 (by omega) (by omega)
    have F : Fj (cmF k) M (stI (stI M 1324 (100 * k + xs.length) (cm c)) 1325 k ((xs.length + 1 : Nat) : Int)) := (Fj.ofI (by unfold cmF; omega)).trans (Fj.ofI (by unfold cmF; omega))
    have e25 : mI (stI M 1324 (100 * k + xs.length) (cm c)) 1325 k = (xs.length : Int) := by rw [mI_ne (by omega)]; exact l1
    refine ⟨stI (stI M 1324 (100 * k + xs.length) (cm c)) 1325 k ((xs.length + 1 : Nat) : Int), ?_, ⟨fun h => absurd h q, fun _ => ⟨⟨⟨fun i hi => ?_, by rw [mI_at, hll]⟩, by omega⟩, ?_⟩⟩, hG.fj F, F⟩
    · rw [if_neg (by omega), gd_t, gd_t, gd_t, hG.m86, wr_id (x := (100 : Int) * (k : Int)) (by omega) (by omega), wr_id (x := (100 : Int) * (k : Int) + (xs.length : Int)) (by omega) (by omega), show (100 : Int) * (k : Int) + (xs.length : Int) = ((100 * k + xs.length : Nat) : Int) by omega, g24, gd_t, gd_t, gd_t, gd_t, toNat_n, e25, wr_s (by omega)]
    · rw [mI_ne (by omega)]
      by_cases z : i < xs.length
      · rw [mI_ne (by omega), nth_app1 z]; exact r1 i z
      · have : i = xs.length := by omega
        subst this
        rw [mI_at, nth_app2 (Nat.le_refl _), Nat.sub_self]; rfl
    · rw [mI_ne (by omega), mI_ne (by omega)]; exact h76
/-- arguments one behind another -/
theorem M_kids_loop {n fk : Nat} {C : Nat → List Int} (hk : k < 120) (hfk : fk + n ≤ 120) (hne : ∀ j, j < n → fk + j ≠ k) (d2 : LV) : ∀ (t j : Nat) (M : Mem) (xs : List Int), n - j = t → j ≤ n → Good M → mI M 1313 k = (n : Int) → CMm M k xs → (∀ i, i < n → CMm M (fk + i) (C (fk + i))) → mI M 1269 76 = 0 → ∃ M', M_layComes_165 1269 (k : Int) (fk : Int) (j : Int) d2 M = some (none, M') ∧ RVm M' k (xs ++ (List.range' j t).flatMap fun j => C (fk + j)) ∧ Good M' ∧ Fj (cmF k) M M' := by
  intro t
  induction t with
  | zero =>
    intro j M xs h1 h2 hG h13 hC hK h76
    have e : xs ++ (List.range' j 0).flatMap (fun j => C (fk + j)) = xs := List.append_nil xs
    rw [e]
    refine ⟨M, ?_, ⟨fun h => by have := hC.2; omega, fun _ => ⟨hC, h76⟩⟩, hG, Fj.refl⟩
    rw [M_layComes_165_eq, hG.gM, gd_t, hG.m67, hG.tgS (arr_nd (by decide)) (by omega) (by omega), gd_t, toNat_n, h13, if_neg (by omega)]
  | succ t ih =>
    intro j M xs h1 h2 hG h13 hC hK h76
    have hj : j < n := by omega
    obtain ⟨M1, a1, ⟨a2, a3⟩, a4, a5⟩ := M_comesMore_s hG hk (show fk + j < 120 by omega) (hne j hj) hC (hK j hj) h76
    have head : M_layComes_165 1269 (k : Int) (fk : Int) (j : Int) d2 M = M_layComes_165 1269 (k : Int) (fk : Int) ((j + 1 : Nat) : Int) d2 M1 := by
      rw [M_layComes_165_eq, hG.gM, gd_t, hG.m67, hG.tgS (arr_nd (by decide)) (by omega) (by omega), gd_t, toNat_n, h13, if_pos (by omega), gd_t, if_pos h76, gd_t, wr_id (x := (fk : Int) + (j : Int)) (by omega) (by omega), show (fk : Int) + (j : Int) = ((fk + j : Nat) : Int) by omega, a1, cV_s, wr_s (by omega)]
    have e : (List.range' j (t + 1)).flatMap (fun j => C (fk + j)) = C (fk + j) ++ (List.range' (j + 1) t).flatMap fun j => C (fk + j) := rfl
    have i13 : mI M1 1313 k = (n : Int) := (a5.2.2 _ _ (by unfold cmF; omega)).trans h13
    rw [head, e, ← List.append_assoc]
    by_cases q : 100 < (xs ++ C (fk + j)).length
    · refine ⟨M1, ?_, ⟨fun _ => a2 q, fun h => absurd (by rw [List.length_append]; omega) h⟩, a4, a5⟩
      rw [M_layComes_165_eq, a4.gM, gd_t, a4.m67, a4.tgS (arr_nd (by decide)) (by omega) (by omega), gd_t, toNat_n, i13]
      by_cases z : ((j + 1 : Nat) : Int) < (n : Int)
      · rw [if_pos z, gd_t, if_neg (by rw [a2 q]; decide)]
      · rw [if_neg z]
    · obtain ⟨b1, b2⟩ := a3 q
      obtain ⟨M', c1, c2, c3, c4⟩ := ih (j + 1) M1 _ (by omega) (by omega) a4 i13 b1 (fun i hi => (hK i hi).other a5 (hne i hi)) b2
      exact ⟨M', c1, c2, c3, a5.trans c4⟩
theorem M_let2_loop {n fk : Nat} {C : Nat → List Int} {os : List Int} (hk : k < 120) (hfk : fk + 1 + os.length ≤ 120) (hne : ∀ j, j < 1 + os.length → fk + j ≠ k) (hn : n = (C fk).length) (hv : av (C fk)) : ∀ (t i : Nat) (M : Mem) (xs : List Int) (d4 : LV), n - i = t → i ≤ n → Good M → OR M os → CMm M k xs → (∀ i, i < 1 + os.length → CMm M (fk + i) (C (fk + i))) → mI M 1269 76 = 0 → ∃ M', M_layLet_38 1269 (k : Int) (fk : Int) ((100 * fk + i : Nat) : Int) d4 M = some (none, M') ∧ RVm M' k (xs ++ ((C fk).drop i).flatMap fun c => if kd c = 0 ∧ ix os c ≠ -1 then C (fk + 1 + (ix os c).toNat) else [c]) ∧ Good M' ∧ Fj (cmF k) M M' := by
  intro t
  induction t with
  | zero =>
    intro i M xs d4 h1 h2 hG hO hC hK h76
    have hK0 := hK 0 (by omega)
    rw [Nat.add_zero] at hK0
    have e : xs ++ ((C fk).drop i).flatMap (fun c => if kd c = 0 ∧ ix os c ≠ -1 then C (fk + 1 + (ix os c).toNat) else [c]) = xs := by
      rw [List.drop_eq_nil_of_le (by omega)]; exact List.append_nil xs
    rw [e]
    refine ⟨M, ?_, ⟨fun h => by have := hC.2; omega, fun _ => ⟨hC, h76⟩⟩, hG, Fj.refl⟩
    have l0 := hK0.1.2
    have l1 := hK0.2
    rw [M_layLet_38_eq, hG.gM, gd_t, hG.m87, hG.tgS arr_1325 (by omega) (by omega), gd_t, toNat_n, l0, wr_id (x := (100 : Int) * (fk : Int)) (by omega) (by omega), wr_id (x := (100 : Int) * (fk : Int) + ((C fk).length : Int)) (by omega) (by omega), if_neg (by omega)]
  | succ t ih =>
    intro i M xs d4 h1 h2 hG hO hC hK h76
    have hK0 := hK 0 (by omega)
    rw [Nat.add_zero] at hK0
    have l0 := hK0.1.2
    have l1 := hK0.2
    have hi : i < (C fk).length := by omega
    have hc := av_nth hv hi
    have hcell := hK0.1.1 i hi
    have hd := drop_cons hi
    have g25 : gS M 1325 0 (fk : Int) = true := hG.tgS arr_1325 (by omega) (by omega)
    have g24 : gS M 1324 0 ((100 * fk + i : Nat) : Int) = true := hG.tgS arr_1324 (by omega) (by omega)
    have hixr := ix_rng os (nth (C fk) i)
    have head : M_layLet_38 1269 (k : Int) (fk : Int) ((100 * fk + i : Nat) : Int) d4 M = M_layLet_89 1269 (k : Int) (fk : Int) ((100 * fk + i : Nat) : Int) (if kd (nth (C fk) i) = 0 then ix os (nth (C fk) i) else -1) d4 M := by
      rw [M_layLet_38_eq, hG.gM, gd_t, hG.m87, g25, gd_t, toNat_n, l0, wr_id (x := (100 : Int) * (fk : Int)) (by omega) (by omega), wr_id (x := (100 : Int) * (fk : Int) + ((C fk).length : Int)) (by omega) (by omega), if_pos (by omega), gd_t, if_pos h76, gd_t, hG.m86, g24, gd_t, toNat_n, hcell, M_sortOf_s hc, cI_s]
      by_cases k0 : kd (nth (C fk) i) = 0
      · rw [if_pos k0, if_pos k0, hG.gM, gd_t, hG.m86, g24, gd_t, hcell, M_nameOf_s hc, cI_s, hG.gM, gd_t, M_orderPlace_s hG hO hc k0, cI_s]
      · rw [if_neg k0, if_neg k0]
    have e : ((C fk).drop i).flatMap (fun c => if kd c = 0 ∧ ix os c ≠ -1 then C (fk + 1 + (ix os c).toNat) else [c]) = (if kd (nth (C fk) i) = 0 ∧ ix os (nth (C fk) i) ≠ -1 then C (fk + 1 + (ix os (nth (C fk) i)).toNat) else [nth (C fk) i]) ++ ((C fk).drop (i + 1)).flatMap (fun c => if kd c = 0 ∧ ix os c ≠ -1 then C (fk + 1 + (ix os c).toNat) else [c]) := by rw [hd]; rfl
    -- one more step, then the rest
    have step : ∃ M1, (∃ d, M_layLet_38 1269 (k : Int) (fk : Int) ((100 * fk + i : Nat) : Int) d4 M = M_layLet_38 1269 (k : Int) (fk : Int) ((100 * fk + (i + 1) : Nat) : Int) d M1) ∧ RVm M1 k (xs ++ (if kd (nth (C fk) i) = 0 ∧ ix os (nth (C fk) i) ≠ -1 then C (fk + 1 + (ix os (nth (C fk) i)).toNat) else [nth (C fk) i])) ∧ Good M1 ∧ Fj (cmF k) M M1 := by
      rw [head, M_layLet_89_eq]
      by_cases z : kd (nth (C fk) i) = 0 ∧ ix os (nth (C fk) i) ≠ -1
      · obtain ⟨z1, z2⟩ := z
        have hK1 := hK (1 + (ix os (nth (C fk) i)).toNat) (by omega)
        rw [← Nat.add_assoc] at hK1
        have hne1 := hne (1 + (ix os (nth (C fk) i)).toNat) (by omega)
        rw [← Nat.add_assoc] at hne1
        obtain ⟨M1, a1, a2, a3, a4⟩ := M_comesMore_s hG hk (show fk + 1 + (ix os (nth (C fk) i)).toNat < 120 by omega) hne1 hC hK1 h76
        rw [if_pos z1, if_neg z2, if_pos (show kd (nth (C fk) i) = 0 ∧ ix os (nth (C fk) i) ≠ -1 from ⟨z1, z2⟩), hG.gM, gd_t, wr_s (by omega), wr_id (x := ((fk + 1 : Nat) : Int) + ix os (nth (C fk) i)) (by omega) (by omega), show ((fk + 1 : Nat) : Int) + ix os (nth (C fk) i) = ((fk + 1 + (ix os (nth (C fk) i)).toNat : Nat) : Int) by omega, a1, cV_s, wr_s (by omega)]
        exact ⟨M1, ⟨_, rfl⟩, a2, a3, a4⟩
      · obtain ⟨M1, a1, a2, a3, a4⟩ := M_comesOne_s (c := nth (C fk) i) hG hk hC h76
        have e1 : (if kd (nth (C fk) i) = 0 then ix os (nth (C fk) i) else -1) = -1 := by
          by_cases z1 : kd (nth (C fk) i) = 0
          · rw [if_pos z1]
            by_cases z2 : ix os (nth (C fk) i) = -1
            · exact z2
            · exact absurd ⟨z1, z2⟩ z
          · rw [if_neg z1]
        rw [e1, if_pos rfl, if_neg z, hG.gM, gd_t, hG.m86, g24, gd_t, gd_t, toNat_n, hcell, a1, cV_s, wr_s (by omega)]
        exact ⟨M1, ⟨_, rfl⟩, a2, a3, a4⟩
    obtain ⟨M1, ⟨d, s1⟩, ⟨s2, s3⟩, s4, s5⟩ := step
    rw [s1, e, ← List.append_assoc]
    generalize (if kd (nth (C fk) i) = 0 ∧ ix os (nth (C fk) i) ≠ -1 then C (fk + 1 + (ix os (nth (C fk) i)).toNat) else [nth (C fk) i]) = ws at *
    have m0 : CMm M1 fk (C fk) := by
      have := hne 0 (by omega)
      rw [Nat.add_zero] at this
      exact hK0.other s5 this
    by_cases q : 100 < (xs ++ ws).length
    · refine ⟨M1, ?_, ⟨fun _ => s2 q, fun h => absurd (by rw [List.length_append]; omega) h⟩, s4, s5⟩
      have l2 := m0.1.2
      rw [M_layLet_38_eq, s4.gM, gd_t, s4.m87, s4.tgS arr_1325 (by omega) (by omega), gd_t, toNat_n, l2]
      by_cases w : ((100 * fk + (i + 1) : Nat) : Int) < wr (wr ((100 : Int) * (fk : Int)) + ((C fk).length : Int))
      · rw [if_pos w, gd_t, if_neg (by rw [s2 q]; decide)]
      · rw [if_neg w]
    · obtain ⟨b1, b2⟩ := s3 q
      obtain ⟨M', c1, c2, c3, c4⟩ := ih (i + 1) M1 (xs ++ ws) d (by omega) (by omega) s4 (hO.fjo s5 (by unfold cmF; omega) (fun j => by unfold cmF; omega)) b1 (fun j hj => (hK j hj).other s5 (hne j hj)) b2
      exact ⟨M', c1, c2, c3, s5.trans c4⟩
end RCOMES

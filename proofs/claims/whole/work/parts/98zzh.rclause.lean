/-! ===== the reference lays a clause ===== -/
def wrI (r : Nat) : Nat → Nat → Prop := fun a j => ((a = 1274 ∨ a = 1275 ∨ a = 1276 ∨ a = 1278) ∧ j = r) ∨ (a = 1277 ∧ 12 * r ≤ j ∧ j < 12 * r + 12) ∨ (a = 1279 ∧ 100 * r ≤ j ∧ j < 100 * r + 100)
theorem ROW.fjr {M M1 : Mem} {S : Nat → Nat → Prop} {r : Nat} {z : Clz} (h : ROW M r z) (h1 : z.2.2.1.length ≤ 12) (h2 : z.2.2.2.length ≤ 100) (f : Fj S M M1) (h0 : ∀ a j, wrI r a j → ¬ S a j) : ROW M1 r z := by
  obtain ⟨⟨a1, a2, a3⟩, a4, a5, a6⟩ := h
  refine ⟨⟨(f.2.2 _ _ (h0 _ _ ?_)).trans a1, (f.2.2 _ _ (h0 _ _ ?_)).trans a2, (f.2.2 _ _ (h0 _ _ ?_)).trans a3⟩, fun j hj => (f.2.2 _ _ (h0 _ _ ?_)).trans (a4 j hj), (f.2.2 _ _ (h0 _ _ ?_)).trans a5, fun j hj => (f.2.2 _ _ (h0 _ _ ?_)).trans (a6 j hj)⟩
  all_goals unfold wrI; omega
theorem ROWP.fjr {M M1 : Mem} {S : Nat → Nat → Prop} {zs : List Clz} (h : ROWP M 0 zs) (f : Fj S M M1) (h0 : ∀ a j r, r < 40 → wrI r a j → ¬ S a j) (h1 : ¬ S 1280 0) : ROWP M1 0 zs := by
  obtain ⟨⟨a1, a2, a3⟩, a4, a5, a6⟩ := h
  refine ⟨⟨(f.2.2 _ _ h1).trans a1, a2, a3⟩, fun i z hz => ?_, a5, a6⟩
  have hi := (List.getElem?_eq_some_iff.mp hz).1
  have hzk := a5 z (List.mem_of_getElem? hz)
  exact (a4.row hz).fjr (by have := hzk.2.2.1.2.1; omega) hzk.2.2.2.1.2.2 f fun a j q => h0 a j _ (by omega) q
section RCLAUSE
variable {k c at0 : Nat}
theorem M_cl98_loop {vs : List Int} (ha : at0 < 80) (hv : ∀ v ∈ vs, vc v ∧ kd v = 0) (d6 d7 : LV) : ∀ (t i : Nat) (M : Mem) (os : List Int), vs.length - i = t → i ≤ vs.length → Good M → SDm M vs → OR M os → os.length + (vs.length - i) ≤ 100 → ∃ M', M_layClauses_98 1269 (k : Int) (vs.length : Int) (c : Int) (at0 : Int) (i : Int) d6 d7 M = M_layClauses_150 1269 (k : Int) (vs.length : Int) (c : Int) (at0 : Int) 0 d6 d7 (stI M' 1276 at0 ((os ++ vs.drop i).length : Int)) ∧ OR M' (os ++ vs.drop i) ∧ Good M' ∧ Fj oS M M' := by
  intro t
  induction t with
  | zero =>
    intro i M os h1 h2 hG hS hO hl
    have e : os ++ vs.drop i = os := by rw [List.drop_eq_nil_of_le (by omega), List.append_nil]
    have n43 := hO.1
    rw [e]
    refine ⟨M, ?_, hO, hG, Fj.refl⟩
    rw [M_layClauses_98_eq, if_neg (by omega), hG.gM, gd_t, gd_t, hG.m13, hG.tgS arr_1276 (by omega) (by omega), gd_t, toNat_n, n43]
  | succ t ih =>
    intro i M os h1 h2 hG hS hO hl
    have hi : i < vs.length := by omega
    have n43 := hO.1
    have hc := hS.2.2 i hi
    have h40 := hS.2.1
    obtain ⟨v1, v2⟩ := hv _ (nth_mem hi)
    have hO1 := hO.push v1 v2 (by omega)
    have f1 : Fj oS M (stI (stI M 1297 os.length (nmo (nth vs i))) 1269 43 ((os.length + 1 : Nat) : Int)) := (Fj.ofI (by unfold oS; omega)).trans (Fj.ofI (by unfold oS; omega))
    have e43 : mI (stI M 1297 os.length (nmo (nth vs i))) 1269 43 = (os.length : Int) := by rw [mI_ne (by omega)]; exact n43
    obtain ⟨M', a1, a2, a3, a4⟩ := ih (i + 1) _ (os ++ [nth vs i]) (by omega) (by omega) (hG.fj f1) (hS.fjo f1 (by unfold oS; omega) (fun j => by unfold oS; omega)) hO1 (by rw [List.length_append, List.length_singleton]; omega)
    have e : os ++ [nth vs i] ++ vs.drop (i + 1) = os ++ vs.drop i := by rw [drop_cons hi, List.append_assoc]; rfl
    rw [e] at a1 a2
    have g27 : gS M 1327 0 (i : Int) = true := hG.tgS arr_1327 (by omega) (by omega)
    have g97 : gS M 1297 0 (os.length : Int) = true := hG.tgS arr_1297 (by omega) (by omega)
    refine ⟨M', ?_, a2, a3, f1.trans a4⟩
    rw [M_layClauses_98_eq, if_pos (by omega), hG.gM, gd_t, gd_t, gd_t, hG.m89, g27, gd_t, hG.m42, n43, g97, gd_t, gd_t, gd_t, toNat_n, toNat_n, hc, e43, wr_s (by omega), wr_s (by omega), a1]
theorem M_cl150_loop {os : List Int} {y : Nat} {cl : Int} {i2 : Int} (hk : k < 120) (ha : at0 < 80) (hl : os.length ≤ 11) (hy : y < 120) (d6 d7 : LV) : ∀ (t i : Nat) (M : Mem), os.length - i = t → i ≤ os.length → Good M → OR M os → mI M 1314 k + (c : Int) = (y : Int) → InR (mI M 1314 k + (c : Int)) → mI M 1325 y = cl → ∃ M', M_layClauses_150 1269 (k : Int) i2 (c : Int) (at0 : Int) (i : Int) d6 d7 M = M_layClauses_210 1269 (k : Int) i2 (c : Int) (at0 : Int) (y : Int) 0 d7 (stI M' 1278 at0 cl) ∧ (∀ j, i ≤ j → j < os.length → mI M' 1277 (12 * at0 + j) = 1213 + (j : Int)) ∧ Good M' ∧ Fj (fun a j => a = 1277 ∧ 12 * at0 + i ≤ j ∧ j < 12 * at0 + os.length) M M' := by
  intro t
  induction t with
  | zero =>
    intro i M h1 h2 hG hO h14 hr h25
    have n43 := hO.1
    refine ⟨M, ?_, fun j h3 h4 => by omega, hG, Fj.refl⟩
    rw [M_layClauses_150_eq, hG.gM, gd_t, n43, if_neg (by omega), gd_t, hG.m68, hG.tgS (arr_nd (by decide)) (by omega) (by omega), gd_t, gd_t, gd_t, toNat_n, wr_id (x := mI M 1314 k + (c : Int)) hr.1 hr.2, h14, hG.m87, hG.tgS arr_1325 (by omega) (by omega), gd_t, hG.m15, hG.tgS arr_1278 (by omega) (by omega), gd_t, toNat_n, toNat_n, h25]
  | succ t ih =>
    intro i M h1 h2 hG hO h14 hr h25
    have n43 := hO.1
    have hi : i < os.length := by omega
    have f1 : Fj (fun a j => a = 1277 ∧ 12 * at0 + i ≤ j ∧ j < 12 * at0 + os.length) M (stI M 1277 (12 * at0 + i) (1213 + (i : Int))) := Fj.ofI (by omega)
    obtain ⟨M', a1, a2, a3, a4⟩ := ih (i + 1) (stI M 1277 (12 * at0 + i) (1213 + (i : Int))) (by omega) (by omega) (hG.fj f1) (hO.fjo f1 (by omega) (by omega)) (by rw [mI_ne (by omega)]; exact h14) (by rw [mI_ne (by omega)]; exact hr) ((f1.2.2 _ _ (by omega)).trans h25)
    have g77 : gS M 1277 0 ((12 * at0 + i : Nat) : Int) = true := hG.tgS arr_1277 (by omega) (by omega)
    refine ⟨M', ?_, fun j h3 h4 => ?_, a3, f1.trans (a4.mono fun a j q => by omega)⟩
    · rw [M_layClauses_150_eq, hG.gM, gd_t, n43, if_pos (by omega), gd_t, M_varAt_eq, cI_s, wr_id (x := (1213 : Int) + (i : Int)) (by omega) (by omega), hG.m14, wr_id (x := (12 : Int) * (at0 : Int)) (by omega) (by omega), wr_id (x := (12 : Int) * (at0 : Int) + (i : Int)) (by omega) (by omega), show (12 : Int) * (at0 : Int) + (i : Int) = ((12 * at0 + i : Nat) : Int) by omega, g77, gd_t, toNat_n, wr_s (by omega), a1]
    · by_cases q : j = i
      · subst q
        rw [a4.2.2 _ _ (by omega), mI_at]
      · exact a2 j (by omega) h4
theorem M_cl210_loop {os ys : List Int} {y n0 : Nat} {i2 : Int} (hc : c < 1000) (ha : at0 < 80) (hy : y < 120) (hn0 : n0 < 1000) (hol : os.length ≤ 11) (hv : av ys) (hin : ∀ v ∈ ys, kd v = 0 → v ∈ os) : ∀ (t i : Nat) (M : Mem) (d7 : LV), ys.length - i = t → i ≤ ys.length → Good M → OR M os → CMm M y ys → mI M 1280 1 = (n0 : Int) → ∃ (M' : Mem) (d4 d5 d6 d7' : LV), M_layClauses_210 1269 (k : Int) i2 (c : Int) (at0 : Int) (y : Int) (i : Int) d7 M = M_layClauses_12 1269 (k : Int) i2 ((c + 1 : Nat) : Int) d4 d5 d6 d7' (stI M' 1280 1 ((n0 + 1 : Nat) : Int)) ∧ (∀ j, i ≤ j → j < ys.length → mI M' 1279 (100 * at0 + j) = cm (rnm os (nth ys j))) ∧ Good M' ∧ Fj (fun a j => a = 1279 ∧ 100 * at0 + i ≤ j ∧ j < 100 * at0 + ys.length) M M' := by
  intro t
  induction t with
  | zero =>
    intro i M d7 h1 h2 hG hO hC h80
    obtain ⟨⟨r1, l1⟩, x1⟩ := hC
    refine ⟨M, some (.inl (at0 : Int)), some (.inl (y : Int)), some (.inl (i : Int)), d7, ?_, fun j h3 h4 => by omega, hG, Fj.refl⟩
    rw [M_layClauses_210_eq, hG.gM, gd_t, hG.m87, hG.tgS arr_1325 (by omega) (by omega), gd_t, toNat_n, l1, if_neg (by omega), gd_t, hG.m17, hG.tgS arr_1280 (by decide) (by decide), gd_t, gd_t, h80, wr_s (by omega), wr_s (by omega)]
  | succ t ih =>
    intro i M d7 h1 h2 hG hO hC h80
    obtain ⟨⟨r1, l1⟩, x1⟩ := hC
    have hi : i < ys.length := by omega
    have hcv := av_nth hv hi
    have hcell := r1 i hi
    have f1 : Fj (fun a j => a = 1279 ∧ 100 * at0 + i ≤ j ∧ j < 100 * at0 + ys.length) M (stI M 1279 (100 * at0 + i) (cm (rnm os (nth ys i)))) := Fj.ofI (by omega)
    obtain ⟨M', d4, d5, d6, d7', a1, a2, a3, a4⟩ := ih (i + 1) (stI M 1279 (100 * at0 + i) (cm (rnm os (nth ys i)))) (some (.inl (cm (nth ys i)))) (by omega) (by omega) (hG.fj f1) (hO.fjo f1 (by omega) (by omega)) ((show CMm M y ys from ⟨⟨r1, l1⟩, x1⟩).fjo f1 (fun j q => by omega) (by omega)) ((f1.2.2 _ _ (by omega)).trans h80)
    have g24 : gS M 1324 0 ((100 * y + i : Nat) : Int) = true := hG.tgS arr_1324 (by omega) (by omega)
    have g79 : gS M 1279 0 ((100 * at0 + i : Nat) : Int) = true := hG.tgS arr_1279 (by omega) (by omega)
    refine ⟨M', d4, d5, d6, d7', ?_, fun j h3 h4 => ?_, a3, f1.trans (a4.mono fun a j q => by omega)⟩
    · rw [M_layClauses_210_eq, hG.gM, gd_t, hG.m87, hG.tgS arr_1325 (by omega) (by omega), gd_t, toNat_n, l1, if_pos (by omega), gd_t, hG.m86, wr_id (x := (100 : Int) * (y : Int)) (by omega) (by omega), wr_id (x := (100 : Int) * (y : Int) + (i : Int)) (by omega) (by omega), show (100 : Int) * (y : Int) + (i : Int) = ((100 * y + i : Nat) : Int) by omega, g24, gd_t, gd_t, toNat_n, hcell, M_sortOf_s hcv, cI_s, hG.m16, wr_id (x := (100 : Int) * (at0 : Int)) (by omega) (by omega), wr_id (x := (100 : Int) * (at0 : Int) + (i : Int)) (by omega) (by omega), show (100 : Int) * (at0 : Int) + (i : Int) = ((100 * at0 + i : Nat) : Int) by omega, wr_s (i := i) (by omega)]
      by_cases k0 : kd (nth ys i) = 0
      · have hm := hin _ (nth_mem hi) k0
        obtain ⟨n1, n2⟩ := ix_nth hm
        have hx := ix_mem.mpr hm
        have hr := ix_rng os (nth ys i)
        have er : rnm os (nth ys i) = 1 + ix os (nth ys i) := if_pos ⟨k0, hx⟩
        obtain ⟨c1, c2⟩ := cm_var (v := 1 + ix os (nth ys i)) (by omega)
        rw [if_pos (by omega)] at c2
        have et : M_thing 0 0 (1213 + ix os (nth ys i)) M = some (some (.inl (cm (rnm os (nth ys i)))), M) := by
          rw [M_thing_s (by decide) (by decide) (by omega), er, c1, c2]
          have : (0 : Int) + 4 * 0 + 64 * (1213 + ix os (nth ys i)) = 64 * (1 + ix os (nth ys i) + 1212) := by omega
          rw [this]
        rw [if_pos k0, M_nameOf_s hcv, cI_s, hG.gM, gd_t, M_orderPlace_s hG hO hcv k0, cI_s, M_varAt_eq, cI_s, wr_id (x := (1213 : Int) + ix os (nth ys i)) (by omega) (by omega), et, cI_s, g79, gd_t, toNat_n, a1]
      · have er : rnm os (nth ys i) = nth ys i := if_neg fun q => k0 q.1
        rw [er] at a1
        rw [if_neg k0, g79, gd_t, toNat_n, a1]
    · by_cases q : j = i
      · subst q
        rw [a4.2.2 _ _ (by omega), mI_at]
      · exact a2 j (by omega) h4
end RCLAUSE

/-! ===== the start: the reference ===== -/
def mX : List Nat := [1269, 1288, 1292, 1293]
def MTo (t : Nat) (M : Mem) : Prop := ∀ j, j < t → mR M 1269 (irM.getD j (0, 0)).1 = 1270 + j
def MS (L : Nat) (xs : Nat → Int) (M0 : Mem) (iv cv : Nat → Int) (t s : Nat) (M : Mem) : Prop := SB L xs mX (1270 + t) s M ∧ MTo t M ∧ (∀ j, mI M 1269 j = iv j) ∧ (24 ≤ t → ∀ j, mI M 1293 j = cv j) ∧ (∀ b, 1270 ≤ b → b < 1270 + t → b ≠ 1293 → ∀ j, mI M b j = 0) ∧ Kp 1269 M0 M
/-- what is asked of a field and its array -/
def alQ (t f k m : Nat) : Prop := HT (1270 + t) = .inr (k, m) ∧ spc (1270 + t) = false ∧ k ≠ 4 ∧ irM.getD t (0, 0) = (f, 1270 + t) ∧ (∀ j, j < t → (irM.getD j (0, 0)).1 ≠ f)
section STARTF
variable {L : Nat} {xs : Nat → Int} {M0 M : Mem} {iv cv : Nat → Int} {t s : Nat}
theorem MS.al0 (h : MS L xs M0 iv cv t s M) {f k m : Nat} (q : alQ t f k m) : SB L xs mX (1270 + (t + 1)) (s + m) (stR (nwC M (.inr (k, m)) m) 1269 f (1270 + t)) ∧ MTo (t + 1) (stR (nwC M (.inr (k, m)) m) 1269 f (1270 + t)) ∧ (∀ j, mI (stR (nwC M (.inr (k, m)) m) 1269 f (1270 + t)) 1269 j = iv j) ∧ (∀ b, 1270 ≤ b → b < 1270 + t → ∀ j, mI (stR (nwC M (.inr (k, m)) m) 1269 f (1270 + t)) b j = mI M b j) ∧ (∀ j, mI (stR (nwC M (.inr (k, m)) m) 1269 f (1270 + t)) (1270 + t) j = 0) ∧ Kp 1269 M0 (stR (nwC M (.inr (k, m)) m) 1269 f (1270 + t)) := by
  obtain ⟨h1, h2, h3, h4, h5, h6⟩ := h
  obtain ⟨q1, q2, q3, q4, q5⟩ := q
  have hN := h1.1.1
  refine ⟨(h1.arr q1 q2 q3).sR (by decide) (by decide), fun j hj => ?_, fun j => ?_, fun b b1 b2 j => ?_, fun j => ?_, ?_⟩
  · by_cases e : j = t
    · rw [e, q4, mR_at]
    · rw [mR_ne (fun g => q5 j (by omega) g.2), mR_n, hN, if_neg (by omega)]
      exact h2 j (by omega)
  · rw [mI_R, mI_n, hN, if_neg (by omega)]; exact h3 j
  · rw [mI_R, mI_n, hN, if_neg (by omega)]
  · rw [mI_R, mI_n, hN, if_pos rfl]
  · exact (h6.trans ((Kp.nw hN).le (by omega)) (Nat.le_refl _)).trans (Kp.sR (n := 1269) (Nat.le_refl _)) (Nat.le_refl _)
theorem MS.al (h : MS L xs M0 iv cv t s M) {f k m : Nat} (q : alQ t f k m) (ht : t ≠ 23) : MS L xs M0 iv cv (t + 1) (s + m) (stR (nwC M (.inr (k, m)) m) 1269 f (1270 + t)) := by
  obtain ⟨a1, a2, a3, a4, a5, a6⟩ := h.al0 q
  obtain ⟨h1, h2, h3, h4, h5, h6⟩ := h
  refine ⟨a1, a2, a3, fun g j => ?_, fun b b1 b2 b3 j => ?_, a6⟩
  · rw [a4 1293 (by omega) (by omega) j]
    exact h4 (by omega) j
  · by_cases e : b = 1270 + t
    · rw [e]; exact a5 j
    · rw [a4 b b1 (by omega) j]
      exact h5 b b1 (by omega) b3 j
theorem MS.sI (h : MS L xs M0 iv cv t s M) {f : Nat} {v : Int} : MS L xs M0 (fun j => if j = f then v else iv j) cv t s (stI M 1269 f v) := by
  obtain ⟨h1, h2, h3, h4, h5, h6⟩ := h
  refine ⟨h1.sI (by decide) (by decide), fun j hj => h2 j hj, fun j => ?_, fun g j => ?_, fun b b1 b2 b3 j => ?_, h6.trans (Kp.sI (n := 1269) (Nat.le_refl _)) (Nat.le_refl _)⟩
  · show mI (stI M 1269 f v) 1269 j = if j = f then v else iv j
    by_cases e : j = f
    · rw [e, mI_at, if_pos rfl]
    · rw [mI_ne (fun g => e g.2), if_neg e]; exact h3 j
  · rw [mI_ne (by omega)]; exact h4 g j
  · rw [mI_ne (by omega)]; exact h5 b b1 b2 b3 j
theorem MS.g (h : MS L xs M0 iv cv t s M) : gO M 1269 12 = true := h.1.gO (by decide) (by omega) (by decide)

theorem M_init_42_s {d1 : LV} (h : MS L xs M0 iv cv 4 s M) : ∃ M', M_init_42 1269 d1 M = M_init_83 1269 d1 M' ∧ MS L xs M0 iv cv 9 (s + 80 + 80 + 80 + 960 + 80) M' := by
  have hN : mN M = 1274 := h.1.1.1
  have g0 := h.g
  refine ⟨_, ?_, (((((h.al (f := 11) (k := 0) (m := 80) (by unfold alQ; decide) (by decide)).al (f := 12) (k := 0) (m := 80) (by unfold alQ; decide) (by decide)).al (f := 13) (k := 0) (m := 80) (by unfold alQ; decide) (by decide)).al (f := 14) (k := 0) (m := 960) (by unfold alQ; decide) (by decide)).al (f := 15) (k := 0) (m := 80) (by unfold alQ; decide) (by decide))⟩
  rw [M_init_42_eq]
  simp only [mN_n, hN, gd_t, Nat.reduceAdd, g0, gO_n g0, gO_n (gO_n g0), gO_n (gO_n (gO_n g0)), gO_n (gO_n (gO_n (gO_n g0))), gO_n (gO_n (gO_n (gO_n (gO_n g0))))]
theorem M_init_83_s {d1 : LV} (h : MS L xs M0 iv cv 9 s M) : ∃ M', M_init_83 1269 d1 M = M_init_123 1269 d1 M' ∧ MS L xs M0 iv cv 14 (s + 8000 + 2 + 12 + 40 + 40) M' := by
  have hN : mN M = 1279 := h.1.1.1
  have g0 := h.g
  refine ⟨_, ?_, (((((h.al (f := 16) (k := 0) (m := 8000) (by unfold alQ; decide) (by decide)).al (f := 17) (k := 0) (m := 2) (by unfold alQ; decide) (by decide)).al (f := 18) (k := 0) (m := 12) (by unfold alQ; decide) (by decide)).al (f := 22) (k := 0) (m := 40) (by unfold alQ; decide) (by decide)).al (f := 23) (k := 0) (m := 40) (by unfold alQ; decide) (by decide))⟩
  rw [M_init_83_eq]
  simp only [mN_n, hN, gd_t, Nat.reduceAdd, g0, gO_n g0, gO_n (gO_n g0), gO_n (gO_n (gO_n g0)), gO_n (gO_n (gO_n (gO_n g0))), gO_n (gO_n (gO_n (gO_n (gO_n g0))))]
theorem M_init_123_s {d1 : LV} (h : MS L xs M0 iv cv 14 s M) : ∃ M', M_init_123 1269 d1 M = M_init_165 1269 d1 M' ∧ MS L xs M0 iv cv 19 (s + 40 + 480 + 40 + 1600 + 100) M' := by
  have hN : mN M = 1284 := h.1.1.1
  have g0 := h.g
  refine ⟨_, ?_, (((((h.al (f := 24) (k := 0) (m := 40) (by unfold alQ; decide) (by decide)).al (f := 25) (k := 0) (m := 480) (by unfold alQ; decide) (by decide)).al (f := 26) (k := 0) (m := 40) (by unfold alQ; decide) (by decide)).al (f := 27) (k := 0) (m := 1600) (by unfold alQ; decide) (by decide)).al (f := 29) (k := 0) (m := 100) (by unfold alQ; decide) (by decide))⟩
  rw [M_init_123_eq]
  simp only [mN_n, hN, gd_t, Nat.reduceAdd, g0, gO_n g0, gO_n (gO_n g0), gO_n (gO_n (gO_n g0)), gO_n (gO_n (gO_n (gO_n g0))), gO_n (gO_n (gO_n (gO_n (gO_n g0))))]
theorem M_init_224_s {d1 : LV} (h : MS L xs M0 iv cv 24 s M) : ∃ M', M_init_224 1269 d1 M = M_init_273 1269 d1 M' ∧ MS L xs M0 (fun j => if j = 35 then 1 else iv j) cv 29 (s + 200 + 200 + 800 + 120 + 13000) M' := by
  have hN : mN M = 1294 := h.1.1.1
  have g0 := h.g
  refine ⟨_, ?_, ((((((h.sI (f := 35) (v := 1)).al (f := 37) (k := 0) (m := 200) (by unfold alQ; decide) (by decide)).al (f := 38) (k := 0) (m := 200) (by unfold alQ; decide) (by decide)).al (f := 39) (k := 0) (m := 800) (by unfold alQ; decide) (by decide)).al (f := 42) (k := 0) (m := 120) (by unfold alQ; decide) (by decide)).al (f := 44) (k := 0) (m := 13000) (by unfold alQ; decide) (by decide))⟩
  rw [M_init_224_eq]
  simp only [mN_n, hN, gd_t, Nat.reduceAdd, g0, gO_n g0, gO_n (gO_n g0), gO_n (gO_n (gO_n g0)), gO_n (gO_n (gO_n (gO_n g0))), gO_n (gO_n (gO_n (gO_n (gO_n g0))))]
theorem M_init_273_s {d1 : LV} (h : MS L xs M0 iv cv 29 s M) : ∃ M', M_init_273 1269 d1 M = M_init_313 1269 d1 M' ∧ MS L xs M0 iv cv 34 (s + 13000 + 12 + 4 + 120 + 120) M' := by
  have hN : mN M = 1299 := h.1.1.1
  have g0 := h.g
  refine ⟨_, ?_, (((((h.al (f := 45) (k := 0) (m := 13000) (by unfold alQ; decide) (by decide)).al (f := 50) (k := 0) (m := 12) (by unfold alQ; decide) (by decide)).al (f := 51) (k := 0) (m := 4) (by unfold alQ; decide) (by decide)).al (f := 53) (k := 0) (m := 120) (by unfold alQ; decide) (by decide)).al (f := 54) (k := 0) (m := 120) (by unfold alQ; decide) (by decide))⟩
  rw [M_init_273_eq]
  simp only [mN_n, hN, gd_t, Nat.reduceAdd, g0, gO_n g0, gO_n (gO_n g0), gO_n (gO_n (gO_n g0)), gO_n (gO_n (gO_n (gO_n g0))), gO_n (gO_n (gO_n (gO_n (gO_n g0))))]
theorem M_init_313_s {d1 : LV} (h : MS L xs M0 iv cv 34 s M) : ∃ M', M_init_313 1269 d1 M = M_init_356 1269 d1 M' ∧ MS L xs M0 iv cv 39 (s + 120 + 1681 + 41 + 80000 + 13000) M' := by
  have hN : mN M = 1304 := h.1.1.1
  have g0 := h.g
  refine ⟨_, ?_, (((((h.al (f := 55) (k := 0) (m := 120) (by unfold alQ; decide) (by decide)).al (f := 57) (k := 2) (m := 1681) (by unfold alQ; decide) (by decide)).al (f := 58) (k := 0) (m := 41) (by unfold alQ; decide) (by decide)).al (f := 60) (k := 1) (m := 80000) (by unfold alQ; decide) (by decide)).al (f := 62) (k := 0) (m := 13000) (by unfold alQ; decide) (by decide))⟩
  rw [M_init_313_eq]
  simp only [mN_n, hN, gd_t, Nat.reduceAdd, g0, gO_n g0, gO_n (gO_n g0), gO_n (gO_n (gO_n g0)), gO_n (gO_n (gO_n (gO_n g0))), gO_n (gO_n (gO_n (gO_n (gO_n g0))))]
theorem M_init_356_s {d1 : LV} (h : MS L xs M0 iv cv 39 s M) : ∃ M', M_init_356 1269 d1 M = M_init_397 1269 d1 M' ∧ MS L xs M0 iv cv 44 (s + 4800 + 120 + 120 + 120 + 120) M' := by
  have hN : mN M = 1309 := h.1.1.1
  have g0 := h.g
  refine ⟨_, ?_, (((((h.al (f := 63) (k := 0) (m := 4800) (by unfold alQ; decide) (by decide)).al (f := 64) (k := 0) (m := 120) (by unfold alQ; decide) (by decide)).al (f := 65) (k := 0) (m := 120) (by unfold alQ; decide) (by decide)).al (f := 66) (k := 0) (m := 120) (by unfold alQ; decide) (by decide)).al (f := 67) (k := 0) (m := 120) (by unfold alQ; decide) (by decide))⟩
  rw [M_init_356_eq]
  simp only [mN_n, hN, gd_t, Nat.reduceAdd, g0, gO_n g0, gO_n (gO_n g0), gO_n (gO_n (gO_n g0)), gO_n (gO_n (gO_n (gO_n g0))), gO_n (gO_n (gO_n (gO_n (gO_n g0))))]
theorem M_init_397_s {d1 : LV} (h : MS L xs M0 iv cv 44 s M) : ∃ M', M_init_397 1269 d1 M = M_init_437 1269 d1 M' ∧ MS L xs M0 iv cv 49 (s + 120 + 120 + 120 + 120 + 41) M' := by
  have hN : mN M = 1314 := h.1.1.1
  have g0 := h.g
  refine ⟨_, ?_, (((((h.al (f := 68) (k := 0) (m := 120) (by unfold alQ; decide) (by decide)).al (f := 69) (k := 0) (m := 120) (by unfold alQ; decide) (by decide)).al (f := 70) (k := 0) (m := 120) (by unfold alQ; decide) (by decide)).al (f := 71) (k := 0) (m := 120) (by unfold alQ; decide) (by decide)).al (f := 78) (k := 0) (m := 41) (by unfold alQ; decide) (by decide))⟩
  rw [M_init_397_eq]
  simp only [mN_n, hN, gd_t, Nat.reduceAdd, g0, gO_n g0, gO_n (gO_n g0), gO_n (gO_n (gO_n g0)), gO_n (gO_n (gO_n (gO_n g0))), gO_n (gO_n (gO_n (gO_n (gO_n g0))))]
theorem M_init_437_s {d1 : LV} (h : MS L xs M0 iv cv 49 s M) : ∃ M', M_init_437 1269 d1 M = M_init_478 1269 d1 M' ∧ MS L xs M0 iv cv 54 (s + 300 + 120 + 120 + 120 + 120) M' := by
  have hN : mN M = 1319 := h.1.1.1
  have g0 := h.g
  refine ⟨_, ?_, (((((h.al (f := 79) (k := 0) (m := 300) (by unfold alQ; decide) (by decide)).al (f := 80) (k := 0) (m := 120) (by unfold alQ; decide) (by decide)).al (f := 81) (k := 0) (m := 120) (by unfold alQ; decide) (by decide)).al (f := 82) (k := 0) (m := 120) (by unfold alQ; decide) (by decide)).al (f := 83) (k := 0) (m := 120) (by unfold alQ; decide) (by decide))⟩
  rw [M_init_437_eq]
  simp only [mN_n, hN, gd_t, Nat.reduceAdd, g0, gO_n g0, gO_n (gO_n g0), gO_n (gO_n (gO_n g0)), gO_n (gO_n (gO_n (gO_n g0))), gO_n (gO_n (gO_n (gO_n (gO_n g0))))]
theorem M_init_478_s {d1 : LV} (h : MS L xs M0 iv cv 54 s M) : ∃ M', M_init_478 1269 d1 M = M_init_519 1269 d1 M' ∧ MS L xs M0 iv cv 59 (s + 12000 + 120 + 100 + 40 + 120) M' := by
  have hN : mN M = 1324 := h.1.1.1
  have g0 := h.g
  refine ⟨_, ?_, (((((h.al (f := 86) (k := 0) (m := 12000) (by unfold alQ; decide) (by decide)).al (f := 87) (k := 0) (m := 120) (by unfold alQ; decide) (by decide)).al (f := 88) (k := 0) (m := 100) (by unfold alQ; decide) (by decide)).al (f := 89) (k := 0) (m := 40) (by unfold alQ; decide) (by decide)).al (f := 92) (k := 0) (m := 120) (by unfold alQ; decide) (by decide))⟩
  rw [M_init_478_eq]
  simp only [mN_n, hN, gd_t, Nat.reduceAdd, g0, gO_n g0, gO_n (gO_n g0), gO_n (gO_n (gO_n g0)), gO_n (gO_n (gO_n (gO_n g0))), gO_n (gO_n (gO_n (gO_n (gO_n g0))))]
end STARTF

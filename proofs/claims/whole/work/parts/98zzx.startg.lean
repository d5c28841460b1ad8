/-! ===== the start: the reference, whole ===== -/
section STARTG
variable {L : Nat} {xs : Nat → Int} {M0 M : Mem} {iv cv : Nat → Int} {t s : Nat}
theorem MS.start (h : SB L xs [] 1269 s M) : MS L xs M (fun _ => 0) (fun _ => 0) 0 (s + 93) (nwC M (.inl 12) 93) := by
  have hN := h.1.1
  have h1 : SB L xs mX 1269 s M := h.only fun a ha => absurd ha List.not_mem_nil
  refine ⟨h1.nw (by decide) (Or.inl (by decide)), fun j hj => absurd hj (Nat.not_lt_zero j), fun j => ?_, fun g => absurd g (by decide), fun b b1 b2 => absurd b2 (by omega), Kp.nw hN⟩
  rw [mI_n, hN, if_pos rfl]
theorem M_init_a (h : MS L xs M0 iv cv 0 s M) : ∃ M', M_init 1269 M = M_init_42 1269 none M' ∧ MS L xs M0 (fun j => if j = 3 then -1 else iv j) cv 4 (s + 800 + 20 + 20 + 41) M' := by
  have hN : mN M = 1270 := h.1.1.1
  have g0 := h.g
  refine ⟨_, ?_, ((((h.al (f := 0) (k := 1) (m := 800) (by unfold alQ; decide) (by decide)).sI (f := 3) (v := -1)).al (f := 4) (k := 0) (m := 20) (by unfold alQ; decide) (by decide)).al (f := 5) (k := 0) (m := 20) (by unfold alQ; decide) (by decide)).al (f := 6) (k := 0) (m := 41) (by unfold alQ; decide) (by decide)⟩
  rw [M_init_eq]
  simp only [mN_n, hN, gd_t, Nat.reduceAdd, g0, gO_n g0, gO_n (gO_n g0), gO_n (gO_n (gO_n g0)), gO_n (gO_n (gO_n (gO_n g0)))]
  rfl
theorem M_init_165_s {d1 : LV} (h : MS L xs M0 iv cv 19 s M) : ∃ M', M_init_165 1269 d1 M = M_init_224 1269 d1 M' ∧ MS L xs M0 iv (fun j => if j < 4 then 1 else 0) 24 (s + 200 + 200 + 800 + 160 + 4) M' := by
  have hN : mN M = 1289 := h.1.1.1
  have g0 := h.g
  have h4 := (((h.al (f := 30) (k := 0) (m := 200) (by unfold alQ; decide) (by decide)).al (f := 31) (k := 0) (m := 200) (by unfold alQ; decide) (by decide)).al (f := 32) (k := 0) (m := 800) (by unfold alQ; decide) (by decide)).al (f := 33) (k := 0) (m := 160) (by unfold alQ; decide) (by decide)
  obtain ⟨a1, a2, a3, a4, a5, a6⟩ := h4.al0 (f := 34) (k := 0) (m := 4) (by unfold alQ; decide)
  have hz := h4.2.2.2.2.1
  have hn : SB L xs mX 1294 (s + 200 + 200 + 800 + 160 + 4) (nwC (nwC (nwC (nwC (nwC M (.inr (0, 200)) 200) (.inr (0, 200)) 200) (.inr (0, 800)) 800) (.inr (0, 160)) 160) (.inr (0, 4)) 4) := ((((h.1.arr (k := 0) (m := 200) (sl := 200) (by decide) (by decide) (by decide)).arr (k := 0) (m := 200) (sl := 200) (by decide) (by decide) (by decide)).arr (k := 0) (m := 800) (sl := 800) (by decide) (by decide) (by decide)).arr (k := 0) (m := 160) (sl := 160) (by decide) (by decide) (by decide)).arr (k := 0) (m := 4) (sl := 4) (by decide) (by decide) (by decide)
  have t0 : gS (nwC (nwC (nwC (nwC (nwC M (.inr (0, 200)) 200) (.inr (0, 200)) 200) (.inr (0, 800)) 800) (.inr (0, 160)) 160) (.inr (0, 4)) 4) 1293 0 0 = true := hn.tS (k := 0) (m := 4) (i := 0) (by decide) (by decide) (by decide) (by decide)
  have t1 : gS (nwC (nwC (nwC (nwC (nwC M (.inr (0, 200)) 200) (.inr (0, 200)) 200) (.inr (0, 800)) 800) (.inr (0, 160)) 160) (.inr (0, 4)) 4) 1293 0 1 = true := hn.tS (k := 0) (m := 4) (i := 1) (by decide) (by decide) (by decide) (by decide)
  have t2 : gS (nwC (nwC (nwC (nwC (nwC M (.inr (0, 200)) 200) (.inr (0, 200)) 200) (.inr (0, 800)) 800) (.inr (0, 160)) 160) (.inr (0, 4)) 4) 1293 0 2 = true := hn.tS (k := 0) (m := 4) (i := 2) (by decide) (by decide) (by decide) (by decide)
  have t3 : gS (nwC (nwC (nwC (nwC (nwC M (.inr (0, 200)) 200) (.inr (0, 200)) 200) (.inr (0, 800)) 800) (.inr (0, 160)) 160) (.inr (0, 4)) 4) 1293 0 3 = true := hn.tS (k := 0) (m := 4) (i := 3) (by decide) (by decide) (by decide) (by decide)
  rw [M_init_165_eq]
  simp only [mN_n, hN, gd_t, Nat.reduceAdd, g0, gO_n g0, gO_n (gO_n g0), gO_n (gO_n (gO_n g0)), gO_n (gO_n (gO_n (gO_n g0))), gO_n (gO_n (gO_n (gO_n (gO_n g0)))), t0, t1, t2, t3]
  have e : ∀ (N : Mem) (b j : Nat), mI (stI (stI (stI (stI N 1293 0 1) 1293 1 1) 1293 2 1) 1293 3 1) b j = if b = 1293 ∧ j < 4 then 1 else mI N b j := fun N b j => by
    simp only [mI_if]
    by_cases q : b = 1293
    · subst q
      by_cases q2 : j < 4
      · rw [if_pos (show 1293 = 1293 ∧ j < 4 from ⟨rfl, q2⟩)]
        have : j = 0 ∨ j = 1 ∨ j = 2 ∨ j = 3 := by omega
        rcases this with rfl | rfl | rfl | rfl <;> rfl
      · rw [if_neg (by omega), if_neg (by omega), if_neg (by omega), if_neg (by omega), if_neg (by omega)]
    · rw [if_neg (by omega), if_neg (by omega), if_neg (by omega), if_neg (by omega), if_neg (by omega)]
  refine ⟨_, rfl, (((a1.sI (a := 1293) (k := 0) (v := 1) (by decide) (by decide)).sI (a := 1293) (k := 1) (v := 1) (by decide) (by decide)).sI (a := 1293) (k := 2) (v := 1) (by decide) (by decide)).sI (a := 1293) (k := 3) (v := 1) (by decide) (by decide), a2, fun j => ?_, fun _ j => ?_, fun b b1 b2 b3 j => ?_, fun b hb j => ⟨?_, (a6 b hb j).2⟩⟩
  · exact (e _ 1269 j).trans ((if_neg (by omega)).trans (a3 j))
  · refine (e _ 1293 j).trans ?_
    by_cases q : j < 4
    · exact (if_pos ⟨rfl, q⟩).trans (if_pos q).symm
    · exact (if_neg (fun g => q g.2)).trans ((a5 j).trans (if_neg q).symm)
  · refine (e _ b j).trans ((if_neg (by omega)).trans ?_)
    exact (a4 b b1 (by omega) j).trans (hz b b1 (by omega) b3 j)
  · exact (e _ b j).trans ((if_neg (by omega)).trans (a6 b hb j).1)
/-- what is known when the reference is made -/
def RSo (M : Mem) : Prop := MTo 59 M ∧ (∀ j, mI M 1269 j = if j = 35 then 1 else if j = 3 then -1 else 0) ∧ (∀ j, j < 4 → mI M 1293 j = 1) ∧ (∀ b, 1270 ≤ b → b < 1329 → b ≠ 1293 → b ≠ 1288 → b ≠ 1292 → ∀ j, mI M b j = 0) ∧ mI M 1288 0 = 3 ∧ ∀ i, i < 4 → mI M 1292 (40 * i) = 3
def slM (s : Nat) : Nat := s + 800 + 20 + 20 + 41 + 80 + 80 + 80 + 960 + 80 + 8000 + 2 + 12 + 40 + 40 + 40 + 480 + 40 + 1600 + 100 + 200 + 200 + 800 + 160 + 4 + 200 + 200 + 800 + 120 + 13000 + 13000 + 12 + 4 + 120 + 120 + 120 + 1681 + 41 + 80000 + 13000 + 4800 + 120 + 120 + 120 + 120 + 120 + 120 + 120 + 120 + 41 + 300 + 120 + 120 + 120 + 120 + 12000 + 120 + 100 + 40 + 120
theorem M_init_s (h : MS L xs M0 (fun _ => 0) (fun _ => 0) 0 s M) : ∃ M', M_init 1269 M = some (none, M') ∧ SB L xs mX 1329 (slM s) M' ∧ RSo M' ∧ Kp 1269 M0 M' := by
  obtain ⟨M1, a1, a2⟩ := M_init_a h
  obtain ⟨M2, b1, b2⟩ := M_init_42_s (d1 := none) a2
  obtain ⟨M3, c1, c2⟩ := M_init_83_s (d1 := none) b2
  obtain ⟨M4, d1, d2⟩ := M_init_123_s (d1 := none) c2
  obtain ⟨M5, e1, e2⟩ := M_init_165_s (d1 := none) d2
  obtain ⟨M6, f1, f2⟩ := M_init_224_s (d1 := none) e2
  obtain ⟨M7, g1, g2⟩ := M_init_273_s (d1 := none) f2
  obtain ⟨M8, h1, h2⟩ := M_init_313_s (d1 := none) g2
  obtain ⟨M9, i1, i2⟩ := M_init_356_s (d1 := none) h2
  obtain ⟨N1, j1, j2⟩ := M_init_397_s (d1 := none) i2
  obtain ⟨N2, k1, k2⟩ := M_init_437_s (d1 := none) j2
  obtain ⟨N3, l1, l2⟩ := M_init_478_s (d1 := none) k2
  obtain ⟨s1, s2, s3, s4, s5, s6⟩ := l2
  have g0 : gO N3 1269 12 = true := s1.gO (by decide) (by decide) (by decide)
  have r29 : mR N3 1269 29 = 1288 := s2 18 (by decide)
  have r33 : mR N3 1269 33 = 1292 := s2 22 (by decide)
  have th : ∀ M : Mem, M_thing 3 0 0 M = some (some (.inl 3), M) := fun M => (M_thing_s (s := 3) (m := 0) (n := 0) (by decide) (by decide) (by decide)).trans rfl
  have t0 : gS N3 1288 0 0 = true := s1.tS (k := 0) (m := 100) (i := 0) (by decide) (by decide) (by decide) (by decide)
  have u0 : gS N3 1292 0 0 = true := s1.tS (k := 0) (m := 160) (i := 0) (by decide) (by decide) (by decide) (by decide)
  have u1 : gS N3 1292 0 40 = true := s1.tS (k := 0) (m := 160) (i := 40) (by decide) (by decide) (by decide) (by decide)
  have u2 : gS N3 1292 0 80 = true := s1.tS (k := 0) (m := 160) (i := 80) (by decide) (by decide) (by decide) (by decide)
  have u3 : gS N3 1292 0 120 = true := s1.tS (k := 0) (m := 160) (i := 120) (by decide) (by decide) (by decide) (by decide)
  have gI : ∀ (N : Mem) (a k b c : Nat) (i v : Int), gS (stI N a k v) b c i = gS N b c i := fun _ _ _ _ _ _ _ => rfl
  have e : ∀ b j, mI (stI (stI (stI (stI (stI N3 1288 0 3) 1292 0 3) 1292 40 3) 1292 80 3) 1292 120 3) b j = if (b = 1288 ∧ j = 0) ∨ (b = 1292 ∧ (j = 0 ∨ j = 40 ∨ j = 80 ∨ j = 120)) then 3 else mI N3 b j := fun b j => by
    simp only [mI_if]
    by_cases q : (b = 1288 ∧ j = 0) ∨ (b = 1292 ∧ (j = 0 ∨ j = 40 ∨ j = 80 ∨ j = 120))
    · rw [if_pos q]
      rcases q with ⟨rfl, rfl⟩ | ⟨rfl, rfl | rfl | rfl | rfl⟩ <;> rfl
    · rw [if_neg q, if_neg (by omega), if_neg (by omega), if_neg (by omega), if_neg (by omega), if_neg (by omega)]
  refine ⟨stI (stI (stI (stI (stI N3 1288 0 3) 1292 0 3) 1292 40 3) 1292 80 3) 1292 120 3, ?_, ((((s1.sI (a := 1288) (k := 0) (v := 3) (by decide) (by decide)).sI (a := 1292) (k := 0) (v := 3) (by decide) (by decide)).sI (a := 1292) (k := 40) (v := 3) (by decide) (by decide)).sI (a := 1292) (k := 80) (v := 3) (by decide) (by decide)).sI (a := 1292) (k := 120) (v := 3) (by decide) (by decide), ⟨s2, fun j => ?_, fun j hj => ?_, fun b b1 b2 b3 b4 b5 j => ?_, ?_, fun i hi => ?_⟩, fun b hb j => ⟨?_, (s6 b hb j).2⟩⟩
  · rw [a1, b1, c1, d1, e1, f1, g1, h1, i1, j1, k1, l1, M_init_519_eq, g0, gd_t, th, cI_s, r29, t0, gd_t]
    rw [M_init_533_eq, if_pos (by decide), gO_I, g0, gd_t, th, cI_s, mR_I, r33, gI, show wr (40 * 0) = 0 from rfl, u0, gd_t, show wr (0 + 1) = 1 from rfl, show Int.toNat 0 = 0 from rfl]
    rw [M_init_533_eq, if_pos (by decide), gO_I, gO_I, g0, gd_t, th, cI_s, mR_I, mR_I, r33, gI, gI, show wr (40 * 1) = 40 from rfl, u1, gd_t, show wr (1 + 1) = 2 from rfl, show Int.toNat 40 = 40 from rfl]
    rw [M_init_533_eq, if_pos (by decide), gO_I, gO_I, gO_I, g0, gd_t, th, cI_s, mR_I, mR_I, mR_I, r33, gI, gI, gI, show wr (40 * 2) = 80 from rfl, u2, gd_t, show wr (2 + 1) = 3 from rfl, show Int.toNat 80 = 80 from rfl]
    rw [M_init_533_eq, if_pos (by decide), gO_I, gO_I, gO_I, gO_I, g0, gd_t, th, cI_s, mR_I, mR_I, mR_I, mR_I, r33, gI, gI, gI, gI, show wr (40 * 3) = 120 from rfl, u3, gd_t, show wr (3 + 1) = 4 from rfl, show Int.toNat 120 = 120 from rfl]
    rw [M_init_533_eq, if_neg (by decide)]
  · rw [e, if_neg (by omega)]; exact s3 j
  · rw [e, if_neg (by omega), s4 (by decide) j]
    exact if_pos hj
  · rw [e, if_neg (by omega)]; exact s5 b b1 (by omega) b3 j
  · rw [e, if_pos (by decide)]
  · rw [e, if_pos (by omega)]
  · rw [e, if_neg (by omega)]; exact (s6 b hb j).1
end STARTG

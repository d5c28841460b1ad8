/-! ===== the start: the objects that are there once ===== -/
theorem OKc_un {M : Mem} {a c : Nat} (hH : HT a = .inl c) (hc : c = 3 ∨ 6 ≤ c) (h28 : a ≠ 28) {rs : List (Nat × Nat × Nat)} {ks : List (Nat × Nat × Int)} (e1 : irS.filter (fun q => q.1 == a) = rs) (e2 : izS.filter (fun q => q.1 == a) = ks) (h1 : ∀ q ∈ rs, mR M a q.2.1 = q.2.2) (h2 : ∀ q ∈ ks, mI M a q.2.1 = q.2.2) : OKc M a := by
  have k : ∀ d : Nat, d < 6 ∧ d ≠ 3 → ¬ (Sum.inl c : HE) = .inl d := fun d hd e => by
    have := Sum.inl.inj e
    omega
  rw [OKc, hH]
  refine ⟨⟨fun q => absurd q (k 2 (by decide)), fun q => absurd q (k 1 (by decide)), fun q => absurd q (k 4 (by decide)), fun q => absurd q (k 5 (by decide)), fun q => (by cases q), fun q => absurd q (k 0 (by decide))⟩, fun q m e => ?_, fun q m e => ?_, fun q => absurd q h28⟩
  · exact h1 q (by rw [← e1]; exact List.mem_filter.mpr ⟨m, by simpa using e⟩)
  · exact h2 q (by rw [← e2]; exact List.mem_filter.mpr ⟨m, by simpa using e⟩)
theorem gO_m {M : Mem} {n c sl : Nat} (h : mN M = n) (h2 : 2 ≤ n) : gO (nwC M (.inl c) sl) n c = true := by
  have := gO_w (M := M) (s := sl) (c := c) (by omega)
  rw [h] at this
  exact this
section STARTC
variable {L : Nat} {xs : Nat → Int} {X : List Nat} {s : Nat} {M : Mem}
theorem newRe (h : SB L xs X 3 s M) : ∃ M', Re_init 3 (nwC M (.inl 6) 8) = some (none, M') ∧ SB L xs X 9 (s + 8 + 800 + 20 + 20 + 2 + 40) M' ∧ Kp 3 M M' := by
  have hN := h.1.1
  have h1 : SB L xs (3 :: X) 4 (s + 8) (nwC M (.inl 6) 8) := h.more.nw (by decide) (Or.inl (by simp))
  have h2 := (((((h1.arr (k := 1) (m := 800) (sl := 800) (by decide) (by decide) (by decide)).sR (a := 3) (k := 0) (v := 4) (by simp) (by decide)).arr (k := 0) (m := 20) (sl := 20) (by decide) (by decide) (by decide)).sR (a := 3) (k := 1) (v := 5) (by simp) (by decide)).arr (k := 0) (m := 20) (sl := 20) (by decide) (by decide) (by decide)).sR (a := 3) (k := 2) (v := 6) (by simp) (by decide)
  obtain ⟨M1, a1, a2, a3⟩ := newE (e := 7) (m := 40) h2 (by decide) (by decide) (by decide) (by decide) (by decide)
  have a1 : Ex_init 7 40 _ = _ := a1
  have g0 : gO (nwC M (.inl 6) 8) 3 6 = true := h1.gO (by decide) (by decide) (by decide)
  have g3 : gO (nwC (nwC (nwC (nwC (nwC M (.inl 6) 8) (.inr (1, 800)) 800) (.inr (0, 20)) 20) (.inr (0, 20)) 20) (.inl 2) 2) 7 2 = true := gO_m (by rw [mN_n, mN_n, mN_n, mN_n, hN]) (by decide)
  have g := a2.gO (a := 3) (c := 6) (by decide) (by decide) (by decide)
  have e : ∀ j, j < 3 → mR M1 3 j = j + 4 := fun j hj => by
    rw [(a3 3 (by decide) j).2]
    simp only [mR_if, mR_n, mN_R, mN_n, hN]
    have : j = 0 ∨ j = 1 ∨ j = 2 := by omega
    rcases this with rfl | rfl | rfl
    · rfl
    · rfl
    · rfl
  refine ⟨stI (stI (stI (stI (stR M1 3 3 7) 3 4 0) 3 5 0) 3 6 0) 3 7 (-1), ?_, (((((a2.sR (by simp) (by decide)).sI (by simp) (by decide)).sI (by simp) (by decide)).sI (by simp) (by decide)).sI (by simp) (by decide)).drop ?_, ?_⟩
  · rw [Re_init_eq]
    simp only [mN_n, hN, g0, gO_n g0, gO_n (gO_n g0), gO_n (gO_n (gO_n g0)), g3, gd_t, Nat.reduceAdd, a1, cV_s, g]
    rfl
  · refine OKc_un (c := 6) (by decide) (by decide) (by decide) (rs := [(3, 0, 4), (3, 1, 5), (3, 2, 6), (3, 3, 7)]) (ks := [(3, 4, 0)]) (by decide) (by decide) (fun q hq => ?_) (fun q hq => ?_)
    · simp only [List.mem_cons, List.not_mem_nil, or_false] at hq
      simp only [mR_I]
      rcases hq with rfl | rfl | rfl | rfl
      · exact (mR_ne (a := 3) (k := 3) (b := 3) (j := 0) (by decide)).trans (e 0 (by decide))
      · exact (mR_ne (a := 3) (k := 3) (b := 3) (j := 1) (by decide)).trans (e 1 (by decide))
      · exact (mR_ne (a := 3) (k := 3) (b := 3) (j := 2) (by decide)).trans (e 2 (by decide))
      · exact mR_at
    · rw [List.mem_singleton.mp hq]
      show mI _ 3 4 = 0
      rw [mI_ne (by decide), mI_ne (by decide), mI_ne (by decide), mI_at]
  · intro b hb j
    have q : ∀ k, ¬ (b = 3 ∧ j = k) := fun k => by omega
    have o := a3 b (by omega) j
    simp only [mI_R, mI_if, mR_I, mR_if, q, if_false, o, mI_n, mR_n, mN_R, mN_n, hN]
    rw [if_neg (by omega), if_neg (by omega), if_neg (by omega), if_neg (by omega), if_neg (by omega), if_neg (by omega), if_neg (by omega), if_neg (by omega)]
    exact ⟨rfl, rfl⟩
theorem newWr (h : SB L xs X 9 s M) : ∃ M', Wr_init 9 (nwC M (.inl 10) 3) = some (none, M') ∧ SB L xs X 12 (s + 3 + 73728 + 512) M' ∧ Kp 9 M M' := by
  have hN := h.1.1
  have h1 : SB L xs (9 :: X) 10 (s + 3) (nwC M (.inl 10) 3) := h.more.nw (by decide) (Or.inl (by simp))
  have h2 := ((((h1.arr (k := 1) (m := 73728) (sl := 73728) (by decide) (by decide) (by decide)).sR (a := 9) (k := 0) (v := 10) (by simp) (by decide)).arr (k := 0) (m := 512) (sl := 512) (by decide) (by decide) (by decide)).sR (a := 9) (k := 1) (v := 11) (by simp) (by decide)).sI (a := 9) (k := 2) (v := 0) (by simp) (by decide)
  have g0 : gO (nwC M (.inl 10) 3) 9 10 = true := h1.gO (by decide) (by decide) (by decide)
  refine ⟨_, ?_, h2.drop ?_, ?_⟩
  · rw [Wr_init_eq]
    simp only [mN_n, hN, g0, gO_n g0, gO_n (gO_n g0), gd_t, Nat.reduceAdd]
    rfl
  · refine OKc_un (c := 10) (by decide) (by decide) (by decide) (rs := [(9, 0, 10), (9, 1, 11)]) (ks := [(9, 2, 0)]) (by decide) (by decide) (fun q hq => ?_) (fun q hq => ?_)
    · simp only [List.mem_cons, List.not_mem_nil, or_false] at hq
      rcases hq with rfl | rfl
      · simp only [mR_I, mR_if, mR_n, mN_R, mN_n, hN]; rfl
      · simp only [mR_I, mR_if, mR_n, mN_R, mN_n, hN]; rfl
    · rw [List.mem_singleton.mp hq]
      exact mI_at
  · intro b hb j
    have q : ∀ k, ¬ (b = 9 ∧ j = k) := fun k => by omega
    simp only [mI_R, mI_if, mR_I, mR_if, q, if_false, mI_n, mR_n, mN_R, mN_n, hN]
    rw [if_neg (by omega), if_neg (by omega), if_neg (by omega), if_neg (by omega), if_neg (by omega), if_neg (by omega)]
    exact ⟨rfl, rfl⟩
theorem newMa (h : SB L xs X 12 s M) : ∃ M', Ma_init 12 (nwC M (.inl 3) 11) = some (none, M') ∧ SB L xs X 21 (s + 11 + 40 + 40 + 40 + 40 + 40 + 40 + 1600 + 1600) M' ∧ Kp 12 M M' := by
  have hN := h.1.1
  have h1 : SB L xs (12 :: X) 13 (s + 11) (nwC M (.inl 3) 11) := h.more.nw (by decide) (Or.inl (by simp))
  have h2 := (((((((((((h1.arr (k := 0) (m := 40) (sl := 40) (by decide) (by decide) (by decide)).sR (a := 12) (k := 0) (v := 13) (by simp) (by decide)).arr (k := 0) (m := 40) (sl := 40) (by decide) (by decide) (by decide)).sR (a := 12) (k := 1) (v := 14) (by simp) (by decide)).arr (k := 0) (m := 40) (sl := 40) (by decide) (by decide) (by decide)).sR (a := 12) (k := 2) (v := 15) (by simp) (by decide)).arr (k := 0) (m := 40) (sl := 40) (by decide) (by decide) (by decide)).sR (a := 12) (k := 3) (v := 16) (by simp) (by decide)).arr (k := 0) (m := 40) (sl := 40) (by decide) (by decide) (by decide)).sR (a := 12) (k := 4) (v := 17) (by simp) (by decide)).arr (k := 0) (m := 40) (sl := 40) (by decide) (by decide) (by decide)).sR (a := 12) (k := 5) (v := 18) (by simp) (by decide)
  have h3 := ((((((h2.arr (k := 2) (m := 1600) (sl := 1600) (by decide) (by decide) (by decide)).sR (a := 12) (k := 6) (v := 19) (by simp) (by decide)).arr (k := 2) (m := 1600) (sl := 1600) (by decide) (by decide) (by decide)).sR (a := 12) (k := 7) (v := 20) (by simp) (by decide)).sI (a := 12) (k := 8) (v := 0) (by simp) (by decide)).sI (a := 12) (k := 9) (v := 0) (by simp) (by decide)).sI (a := 12) (k := 10) (v := 0) (by simp) (by decide)
  have g0 : gO (nwC M (.inl 3) 11) 12 3 = true := h1.gO (by decide) (by decide) (by decide)
  refine ⟨_, ?_, h3.drop ?_, ?_⟩
  · rw [Ma_init_eq]
    simp only [mN_n, hN, g0, gO_n g0, gO_n (gO_n g0), gO_n (gO_n (gO_n g0)), gO_n (gO_n (gO_n (gO_n g0))), gO_n (gO_n (gO_n (gO_n (gO_n g0)))), gO_n (gO_n (gO_n (gO_n (gO_n (gO_n g0))))), gO_n (gO_n (gO_n (gO_n (gO_n (gO_n (gO_n g0)))))), gO_n (gO_n (gO_n (gO_n (gO_n (gO_n (gO_n (gO_n g0))))))), gd_t, Nat.reduceAdd]
    rfl
  · refine OKc_un (c := 3) (by decide) (by decide) (by decide) (rs := [(12, 0, 13), (12, 1, 14), (12, 2, 15), (12, 3, 16), (12, 4, 17), (12, 5, 18), (12, 6, 19), (12, 7, 20)]) (ks := []) (by decide) (by decide) (fun q hq => ?_) (fun q hq => absurd hq List.not_mem_nil)
    simp only [List.mem_cons, List.not_mem_nil, or_false] at hq
    simp only [mR_I, mR_if, mR_n, mN_R, mN_n, hN]
    rcases hq with rfl | rfl | rfl | rfl | rfl | rfl | rfl | rfl <;> rfl
  · intro b hb j
    have q : ∀ k, ¬ (b = 12 ∧ j = k) := fun k => by omega
    have q2 : ∀ k, 12 ≤ k → ¬ b = k := fun k hk => by omega
    simp only [mI_R, mI_if, mR_I, mR_if, q, if_false, mI_n, mR_n, mN_R, mN_n, hN]
    rw [if_neg (q2 _ (by decide)), if_neg (q2 _ (by decide)), if_neg (q2 _ (by decide)), if_neg (q2 _ (by decide)), if_neg (q2 _ (by decide)), if_neg (q2 _ (by decide)), if_neg (q2 _ (by decide)), if_neg (q2 _ (by decide)), if_neg (q2 _ (by decide))]
    rw [if_neg (q2 _ (by decide)), if_neg (q2 _ (by decide)), if_neg (q2 _ (by decide)), if_neg (q2 _ (by decide)), if_neg (q2 _ (by decide)), if_neg (q2 _ (by decide)), if_neg (q2 _ (by decide)), if_neg (q2 _ (by decide)), if_neg (q2 _ (by decide))]
    exact ⟨rfl, rfl⟩
theorem newRu (h : SB L xs X 21 s M) : ∃ M', Ru_init 21 (nwC M (.inl 8) 10) = some (none, M') ∧ SB L xs X 27 (s + 10 + 12 + 2 + 20480 + 2 + 20480) M' ∧ (mR M' 21 1 = 23 ∧ mR M' 21 2 = 25) ∧ Kp 21 M M' := by
  have hN := h.1.1
  have h1 : SB L xs (21 :: X) 22 (s + 10) (nwC M (.inl 8) 10) := h.more.nw (by decide) (Or.inl (by simp))
  have h2 := (h1.arr (k := 0) (m := 12) (sl := 12) (by decide) (by decide) (by decide)).sR (a := 21) (k := 0) (v := 22) (by simp) (by decide)
  obtain ⟨M1, a1, a2, a3⟩ := newE (e := 23) (m := 20480) h2 (by decide) (by decide) (by decide) (by decide) (by decide)
  have a1 : Ex_init 23 20480 _ = _ := a1
  have h3 := a2.sR (a := 21) (k := 1) (v := 23) (by simp) (by decide)
  obtain ⟨M2, b1, b2, b3⟩ := newE (e := 25) (m := 20480) h3 (by decide) (by decide) (by decide) (by decide) (by decide)
  have b1 : Ex_init 25 20480 _ = _ := b1
  have g0 : gO (nwC M (.inl 8) 10) 21 8 = true := h1.gO (by decide) (by decide) (by decide)
  have g3 : gO (nwC (nwC (nwC M (.inl 8) 10) (.inr (0, 12)) 12) (.inl 2) 2) 23 2 = true := gO_m (by rw [mN_n, mN_n, hN]) (by decide)
  have g4 : gO (nwC M1 (.inl 2) 2) 25 2 = true := gO_m a2.1.1 (by decide)
  have gA := a2.gO (a := 21) (c := 8) (by decide) (by decide) (by decide)
  have gB := b2.gO (a := 21) (c := 8) (by decide) (by decide) (by decide)
  have nM1 : mN M1 = 25 := a2.1.1
  have e0 : mR M2 21 0 = 22 := by
    rw [(b3 21 (by decide) 0).2, mR_ne (by decide), (a3 21 (by decide) 0).2]
    rfl
  have e1 : mR M2 21 1 = 23 := by
    rw [(b3 21 (by decide) 1).2, mR_at]
  refine ⟨stI (stI (stI (stI (stI (stR (stI (stR M2 21 2 25) 21 3 0) 21 4 0) 21 5 (-1)) 21 6 0) 21 7 0) 21 8 0) 21 9 0, ?_, ((((((((b2.sR (by simp) (by decide)).sI (by simp) (by decide)).sR (by simp) (by decide)).sI (by simp) (by decide)).sI (by simp) (by decide)).sI (by simp) (by decide)).sI (by simp) (by decide)).sI (by simp) (by decide)).drop ?_, ?_, ?_⟩
  · rw [Ru_init_eq]
    simp only [mN_n, hN, g0, gO_n g0, g3, gd_t, Nat.reduceAdd, a1, cV_s, gA, nM1, g4, b1, gB]
    rfl
  · refine OKc_un (c := 8) (by decide) (by decide) (by decide) (rs := [(21, 0, 22)]) (ks := [(21, 9, 0)]) (by decide) (by decide) (fun q hq => ?_) (fun q hq => ?_)
    · rw [List.mem_singleton.mp hq]
      simp only [mR_I, mR_if]
      exact e0
    · rw [List.mem_singleton.mp hq]
      exact mI_at
  · simp only [mR_I, mR_if]
    exact ⟨e1, rfl⟩
  · intro b hb j
    have q : ∀ k, ¬ (b = 21 ∧ j = k) := fun k => by omega
    have q2 : ∀ k, 21 ≤ k → ¬ b = k := fun k hk => by omega
    have o := a3 b (by omega) j
    have o2 := b3 b (by omega) j
    simp only [mI_R, mI_if, mR_I, mR_if, q, if_false, o, o2, mI_n, mR_n, mN_R, mN_n, hN]
    rw [if_neg (q2 _ (by decide)), if_neg (q2 _ (by decide)), if_neg (q2 _ (by decide)), if_neg (q2 _ (by decide))]
    exact ⟨rfl, rfl⟩
theorem newRs (h : SB L xs X 754 s M) : ∃ M', Rs_init 754 (nwC M (.inl 7) 4) = some (none, M') ∧ SB L xs X 758 (s + 4 + 2 + 10240 + 44) M' ∧ Kp 754 M M' := by
  have hN := h.1.1
  have h1 : SB L xs (754 :: X) 755 (s + 4) (nwC M (.inl 7) 4) := h.more.nw (by decide) (Or.inl (by simp))
  obtain ⟨M1, a1, a2, a3⟩ := newE (e := 755) (m := 10240) h1 (by decide) (by decide) (by decide) (by decide) (by decide)
  have a1 : Ex_init 755 10240 _ = _ := a1
  have h2 := a2.sR (a := 754) (k := 0) (v := 755) (by simp) (by decide)
  have h3 := (((h2.arr (k := 0) (m := 44) (sl := 44) (by decide) (by decide) (by decide)).sR (a := 754) (k := 1) (v := 757) (by simp) (by decide)).sI (a := 754) (k := 2) (v := 0) (by simp) (by decide)).sI (a := 754) (k := 3) (v := 0) (by simp) (by decide)
  have g3 : gO (nwC (nwC M (.inl 7) 4) (.inl 2) 2) 755 2 = true := gO_m (by rw [mN_n, hN]) (by decide)
  have gA := a2.gO (a := 754) (c := 7) (by decide) (by decide) (by decide)
  have nM1 : mN M1 = 757 := a2.1.1
  refine ⟨_, ?_, h3.drop ?_, ?_⟩
  · rw [Rs_init_eq]
    simp only [mN_n, hN, g3, gd_t, Nat.reduceAdd, a1, cV_s, gA, gO_n gA, nM1]
    rfl
  · refine OKc_un (c := 7) (by decide) (by decide) (by decide) (rs := [(754, 0, 755), (754, 1, 757)]) (ks := []) (by decide) (by decide) (fun q hq => ?_) (fun q hq => absurd hq List.not_mem_nil)
    simp only [List.mem_cons, List.not_mem_nil, or_false] at hq
    simp only [mR_I, mR_if, mR_n, mN_R, nM1]
    rcases hq with rfl | rfl <;> rfl
  · intro b hb j
    have q : ∀ k, ¬ (b = 754 ∧ j = k) := fun k => by omega
    have q2 : ∀ k, 754 ≤ k → ¬ b = k := fun k hk => by omega
    have o := a3 b (by omega) j
    simp only [mI_R, mI_if, mR_I, mR_if, q, if_false, o, mI_n, mR_n, mN_R, nM1, mN_n, hN]
    rw [if_neg (q2 _ (by decide)), if_neg (q2 _ (by decide)), if_neg (q2 _ (by decide)), if_neg (q2 _ (by decide))]
    exact ⟨rfl, rfl⟩
theorem newTr (h : SB L xs X 27 s M) : ∃ M', Tr_init 27 21 12 (nwC M (.inl 9) 14) = some (none, M') ∧ SB L xs X 754 (s + 14 + 120 + 120 + 203 * 120 + 2 + 256 + 2 + 20480) M' ∧ Kp 27 M M' := by
  have hN := h.1.1
  have h1 : SB L xs (27 :: 28 :: 29 :: X) 28 (s + 14) (nwC M (.inl 9) 14) := h.more.more.more.nw (by decide) (Or.inl (by simp))
  have h2 := (h1.sR (a := 27) (k := 0) (v := 21) (by simp) (by decide)).sR (a := 27) (k := 1) (v := 12) (by simp) (by decide)
  have h3 := (h2.nw (hh := .inr (5, 120)) (sl := 120) (by decide) (Or.inl (by simp))).sR (a := 27) (k := 2) (v := 28) (by simp) (by decide)
  have h4 := (h3.nw (hh := .inr (5, 120)) (sl := 120) (by decide) (Or.inl (by simp))).sR (a := 27) (k := 3) (v := 29) (by simp) (by decide)
  have g0 : gO (nwC M (.inl 9) 14) 27 9 = true := h1.gO (by decide) (by decide) (by decide)
  obtain ⟨M1, a1, a2, a3, a4, a5⟩ := Tr_nodes (d1 := some (.inr 21)) (d2 := some (.inr 12)) (by simp) 120 0 _ _ rfl (by decide) h4 (by simp only [mR_I, mR_if, mR_n, mN_R, mN_n, hN]; exact ⟨rfl, rfl, rfl, rfl⟩) (fun j hj => absurd hj (Nat.not_lt_zero j))
  have a1 : Tr_init_34 27 0 _ _ _ = _ := a1
  have nM1 : mN M1 = 750 := a2.1.1
  obtain ⟨M2, b1, b2, b3⟩ := newE (e := 750) (m := 256) a2 (by decide) (by decide) (by decide) (by decide) (by decide)
  have b1 : Ex_init 750 256 _ = _ := b1
  have nM2 : mN M2 = 752 := b2.1.1
  have h5 := b2.sR (a := 27) (k := 4) (v := 750) (by simp) (by decide)
  obtain ⟨M3, c1, c2, c3⟩ := newE (e := 752) (m := 20480) h5 (by decide) (by decide) (by decide) (by decide) (by decide)
  have c1 : Ex_init 752 20480 _ = _ := c1
  have gA : gO (nwC M1 (.inl 2) 2) 750 2 = true := gO_m nM1 (by decide)
  have gB : gO (nwC M2 (.inl 2) 2) 752 2 = true := gO_m nM2 (by decide)
  have g2 := b2.gO (a := 27) (c := 9) (by decide) (by decide) (by decide)
  have g3 := c2.gO (a := 27) (c := 9) (by decide) (by decide) (by decide)
  have e : ∀ j, j < 4 → mR M3 27 j = mR M1 27 j := fun j hj => by
    rw [(c3 27 (by decide) j).2, mR_ne (by omega), (b3 27 (by decide) j).2]
  have e4 : mR M3 27 4 = 750 := by
    rw [(c3 27 (by decide) 4).2, mR_at]
  have e28 : ∀ j, mR M3 28 j = mR M1 28 j := fun j => by
    rw [(c3 28 (by decide) j).2, mR_ne (by omega), (b3 28 (by decide) j).2]
  have h6 := ((((((((c2.sR (a := 27) (k := 5) (v := 752) (by simp) (by decide)).sR (a := 27) (k := 6) (v := 0) (by simp) (by decide)).sR (a := 27) (k := 7) (v := 0) (by simp) (by decide)).sI (a := 27) (k := 8) (v := 0) (by simp) (by decide)).sI (a := 27) (k := 9) (v := 0) (by simp) (by decide)).sI (a := 27) (k := 10) (v := 0) (by simp) (by decide)).sI (a := 27) (k := 11) (v := 0) (by simp) (by decide)).sI (a := 27) (k := 12) (v := 0) (by simp) (by decide)).sI (a := 27) (k := 13) (v := 1414) (by simp) (by decide)
  have o27 : OKc (stI (stI (stI (stI (stI (stI (stR (stR (stR M3 27 5 752) 27 6 0) 27 7 0) 27 8 0) 27 9 0) 27 10 0) 27 11 0) 27 12 0) 27 13 1414) 27 := by
    refine OKc_un (c := 9) (by decide) (by decide) (by decide) (rs := [(27, 0, 21), (27, 1, 12), (27, 2, 28), (27, 3, 29), (27, 4, 750), (27, 5, 752)]) (ks := []) (by decide) (by decide) (fun q hq => ?_) (fun q hq => absurd hq List.not_mem_nil)
    simp only [List.mem_cons, List.not_mem_nil, or_false] at hq
    simp only [mR_I, mR_if]
    rcases hq with rfl | rfl | rfl | rfl | rfl | rfl
    · exact (e 0 (by decide)).trans a3.1
    · exact (e 1 (by decide)).trans a3.2.1
    · exact (e 2 (by decide)).trans a3.2.2.1
    · exact (e 3 (by decide)).trans a3.2.2.2
    · exact e4
    · rfl
  have o28 : OKc (stI (stI (stI (stI (stI (stI (stR (stR (stR M3 27 5 752) 27 6 0) 27 7 0) 27 8 0) 27 9 0) 27 10 0) 27 11 0) 27 12 0) 27 13 1414) 28 := by
    have hH : HT 28 = .inr (5, 120) := by decide
    rw [OKc, hH]
    refine ⟨⟨fun q => (by cases q), fun q => (by cases q), fun q => (by cases q), fun q => (by cases q), fun q => (by cases q), fun q => (by cases q)⟩, fun q m e => ?_, fun q m e => ?_, fun _ i hi => ?_⟩
    · exact absurd e ((by decide : ∀ q ∈ irS, q.1 ≠ 28) q m)
    · exact absurd e ((by decide : ∀ q ∈ izS, q.1 ≠ 28) q m)
    · simp only [mR_I]
      rw [mR_ne (by omega), mR_ne (by omega), mR_ne (by omega), e28]
      exact a4 i hi
  refine ⟨_, ?_, ((h6.drop o27).drop o28).drop (OKc_arr (k := 5) (m := 120) (by decide) (by decide) (by decide)), ?_⟩
  · rw [Tr_init_eq]
    simp only [mN_n, hN, g0, gO_n g0, gO_n (gO_n g0), gd_t, Nat.reduceAdd]
    rw [a1, Tr_init_34_eq, if_neg (by decide)]
    simp only [nM1, gA, gd_t, b1, cV_s, g2, nM2, gB, c1, g3]
    rw [Tr_clear_eq]
    simp only [gO_R, gO_I, g3, gd_t, cV_s]
    rfl
  · intro b hb j
    have q : ∀ k, ¬ (b = 27 ∧ j = k) := fun k => by omega
    have q2 : ∀ k, 27 ≤ k → ¬ b = k := fun k hk => by omega
    have o := a5 b (by omega) j
    have o2 := b3 b (by omega) j
    have o3 := c3 b (by omega) j
    simp only [mI_R, mI_if, mR_I, mR_if, q, if_false, o, o2, o3, mI_n, mR_n, mN_R, mN_n, hN]
    rw [if_neg (q2 _ (by decide)), if_neg (q2 _ (by decide)), if_neg (q2 _ (by decide)), if_neg (q2 _ (by decide)), if_neg (q2 _ (by decide)), if_neg (q2 _ (by decide))]
    exact ⟨rfl, rfl⟩
end STARTC

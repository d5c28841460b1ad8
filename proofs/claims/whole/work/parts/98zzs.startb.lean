/-! ===== the start: the tree ===== -/
section STARTB
variable {L : Nat} {xs : Nat → Int} {X : List Nat} {n s : Nat} {M : Mem}
theorem gO_e {a : Nat} (h : SB L xs X n s M) : gO (nwC M (.inl 2) 2) n 2 = true := by
  have := gO_w (M := M) (s := 2) (c := 2) (by rw [h.1.1]; exact h.1.2.2)
  rw [h.1.1] at this
  exact this
theorem No_begin_0 {a : Nat} (h : SB L xs X n s M) (h2 : 2 ≤ a) (han : a < n) (hX : a ∈ X) (hH : HT a = .inl 4) : ∃ M', No_begin a 0 M = some (none, M') ∧ SB L xs X n s M' ∧ (mR M' a 0 = mR M a 0 ∧ mR M' a 1 = mR M a 1 ∧ mR M' a 2 = mR M a 2) ∧ Kp a M M' := by
  refine ⟨stI (stI (stR (stR (stR (stI (stR (stR (stI (stI (stI (stI (stI (stI (stI M a 4 0) a 7 (-1)) a 9 (-1)) a 10 (-1)) a 11 (-1)) a 12 (-1)) a 13 0) a 14 0) a 18 0) a 8 0) a 16 0) a 17 0) a 15 0) a 5 (-1)) a 6 0, ?_, ?_, ?_, ?_⟩
  · have g := h.gO h2 han hH
    rw [No_begin_eq, g, gd_t, gd_t, gd_t, gd_t, gd_t, gd_t, gd_t, gd_t, gd_t, gd_t, No_dropBelow_eq]
    simp only [gO_I, gO_R]
    rw [g, gd_t, gd_t, gd_t, cV_s]
    simp only [gO_I, gO_R]
    rw [g, gd_t, if_pos trivial, No_begin_67_eq]
    simp only [gO_I, gO_R]
    rw [g, gd_t, if_pos trivial, gd_t, if_pos trivial]
  · exact ((((((((((((((h.sI hX h2).sI hX h2).sI hX h2).sI hX h2).sI hX h2).sI hX h2).sI hX h2).sR hX h2).sR hX h2).sI hX h2).sR hX h2).sR hX h2).sR hX h2).sI hX h2).sI hX h2
  · refine ⟨?_, ?_, ?_⟩
    · simp only [mR_I]
      rw [mR_ne (by omega), mR_ne (by omega), mR_ne (by omega), mR_I, mR_ne (by omega), mR_ne (by omega)]
      rfl
    · simp only [mR_I]
      rw [mR_ne (by omega), mR_ne (by omega), mR_ne (by omega), mR_I, mR_ne (by omega), mR_ne (by omega)]
      rfl
    · simp only [mR_I]
      rw [mR_ne (by omega), mR_ne (by omega), mR_ne (by omega), mR_I, mR_ne (by omega), mR_ne (by omega)]
      rfl
  · intro b hb j
    have q : ∀ k, ¬ (b = a ∧ j = k) := fun k => by omega
    refine ⟨?_, ?_⟩
    · simp only [mI_R, mI_if, q, if_false]
    · simp only [mR_I, mR_if, q, if_false]
theorem newN {a : Nat} (h : SB L xs X a s M) (hN : isN a) (hr : 30 ≤ a ∧ a + 6 ≤ 750) : ∃ M', No_init a (nwC M (.inl 4) 19) = some (none, M') ∧ SB L xs X (a + 6) (s + 203) M' ∧ Kp a M M' := by
  have hn := h.1.1
  obtain ⟨⟨-, -, n1⟩, ⟨⟨-, -, n2⟩, ⟨-, -, n3⟩, -⟩, ⟨-, -, n4⟩, ⟨⟨-, -, n5⟩, ⟨-, -, n6⟩, -⟩⟩ := hN
  have h1 : SB L xs (a :: X) (a + 1) (s + 19) (nwC M (.inl 4) 19) := h.more.nw n1 (Or.inl (by simp))
  obtain ⟨M1, a1, a2, a3⟩ := newE (e := a + 1) (m := 40) h1 (by omega) n2 n3 (by decide) ⟨spc_in (by omega), spc_in (by omega)⟩
  have a1 : Ex_init (a + 1) 40 _ = _ := a1
  have h2 : SB L xs (a :: X) (a + 3) (s + 19 + 2 + 40) (stR M1 a 0 (a + 1)) := a2.sR (by simp) (by omega)
  have h3 := h2.arr (sl := 40) n4 (spc_in (by omega)) (by decide)
  have h4 : SB L xs (a :: X) (a + 4) (s + 19 + 2 + 40 + 40) (stR (nwC (stR M1 a 0 (a + 1)) (.inr (0, 40)) 40) a 1 (a + 3)) := h3.sR (by simp) (by omega)
  obtain ⟨M2, b1, b2, b3⟩ := newE (e := a + 4) (m := 100) h4 (by omega) n5 n6 (by decide) ⟨spc_in (by omega), spc_in (by omega)⟩
  have b1 : Ex_init (a + 3 + 1) 100 _ = _ := b1
  have h5 : SB L xs (a :: X) (a + 6) (s + 19 + 2 + 40 + 40 + 2 + 100) (stI (stR M2 a 2 (a + 4)) a 3 0) := (b2.sR (by simp) (by omega)).sI (by simp) (by omega)
  obtain ⟨M3, c1, c2, ⟨c3, c4, c5⟩, c6⟩ := No_begin_0 h5 (by omega) (by omega) (by simp) n1
  have g1 := a2.gO (by omega) (by omega) n1
  have g2 := b2.gO (by omega) (by omega) n1
  have ge := gO_e (a := 0) h1
  have ge2 : gO (nwC (nwC M1 (.inr (0, 40)) 40) (.inl 2) 2) (a + 3 + 1) 2 = true := (show gO (nwC (stR (nwC (stR M1 a 0 (a + 1)) (.inr (0, 40)) 40) a 1 (a + 3)) (.inl 2) 2) (a + 4) 2 = true from gO_e (a := 0) h4)
  have e0 : mR M2 a 0 = a + 1 ∧ mR M2 a 1 = a + 3 := by
    rw [(b3 a (by omega) 0).2, (b3 a (by omega) 1).2, mR_ne (by omega), mR_at, mR_n, mN_R, a2.1.1, if_neg (by omega), mR_at]
    exact ⟨rfl, rfl⟩
  refine ⟨M3, ?_, c2.drop ?_, ?_⟩
  · rw [No_init_eq, mN_n, hn, show Nat.blt 0 a = true from Nat.ble_eq_true_of_le (by omega), gd_t, ge, gd_t, a1, cV_s, g1, gd_t, mN_n, a2.1.1, gO_n g1, gd_t, ge2, gd_t, b1, cV_s, g2, gd_t, gd_t, gd_t, c1, cV_s]
  · obtain ⟨s1, s2, s3⟩ := spc_no (spc_in (a := a) (by omega))
    rw [OKc, n1]
    refine ⟨⟨fun q => (by cases q), fun q => (by cases q), fun _ => ⟨?_, ?_, ?_⟩, fun q => (by cases q), fun q => (by cases q), fun q => (by cases q)⟩, fun q m e => absurd e (s1 q m), fun q m e => absurd e (s2 q m), fun q => absurd q s3⟩
    · rw [c3, mR_I, mR_ne (by omega), e0.1]
    · rw [c4, mR_I, mR_ne (by omega), e0.2]
    · rw [c5, mR_I, mR_at]
  · refine ((((((Kp.nw hn).trans (a3.le (Nat.le_succ a)) (Nat.le_refl _)).trans (Kp.sR (n := a) (Nat.le_refl _)) (Nat.le_refl _)).trans ((Kp.nw (n := a + 3) (by rw [mN_R, a2.1.1])).le (by omega)) (Nat.le_refl _)).trans (Kp.sR (n := a) (Nat.le_refl _)) (Nat.le_refl _)).trans (b3.le (by omega)) (Nat.le_refl _)).trans ?_ (Nat.le_refl _)
    exact ((Kp.sR (n := a) (Nat.le_refl _)).trans (Kp.sI (n := a) (Nat.le_refl _)) (Nat.le_refl _)).trans c6 (Nat.le_refl _)
theorem gS_5 {a : Nat} {i : Nat} (h : SB L xs X n s M) (h2 : 2 ≤ a) (han : a < n) (hH : HT a = .inr (5, 120)) (hi : i < 120) : gS M a 5 (i : Int) = true := by
  have q : mH M a = .inr (5, 120) := by rw [h.2.1 a h2 han]; exact hH
  unfold gS akd alen
  rw [q, h.1.1, Nat.ble_eq_true_of_le h2, show Nat.blt a n = true from Nat.ble_eq_true_of_le han]
  show (true && (true && (Nat.beq 5 5 && decide (0 ≤ (i : Int) ∧ (i : Int) < ((120 : Nat) : Int))))) = true
  rw [decide_eq_true (by omega)]
  rfl
theorem Tr_nodes {d1 d2 : LV} (hX : 27 ∈ X ∧ 28 ∈ X ∧ 29 ∈ X) : ∀ (t i : Nat) (s : Nat) (M : Mem), 120 - i = t → i ≤ 120 → SB L xs X (30 + 6 * i) s M → (mR M 27 0 = 21 ∧ mR M 27 1 = 12 ∧ mR M 27 2 = 28 ∧ mR M 27 3 = 29) → (∀ j, j < i → mR M 28 j = 30 + 6 * j) → ∃ M', Tr_init_34 27 (i : Int) d1 d2 M = Tr_init_34 27 120 d1 d2 M' ∧ SB L xs X 750 (s + 203 * t) M' ∧ (mR M' 27 0 = 21 ∧ mR M' 27 1 = 12 ∧ mR M' 27 2 = 28 ∧ mR M' 27 3 = 29) ∧ (∀ j, j < 120 → mR M' 28 j = 30 + 6 * j) ∧ Kp 27 M M' := by
  intro t
  induction t with
  | zero =>
    intro i s M h1 h2 h e0 e1
    have hi : i = 120 := by omega
    subst hi
    exact ⟨M, rfl, h, e0, e1, Kp.refl⟩
  | succ t ih =>
    intro i s M h1 h2 h e0 e1
    have hn := h.1.1
    have hnd := isN_at (k := i) (by omega)
    obtain ⟨M1, a1, a2, a3⟩ := newN h hnd (by omega)
    have r : ∀ j, mR M1 27 j = mR M 27 j := fun j => (a3 27 (by omega) j).2
    have h3 : SB L xs X (30 + 6 * (i + 1)) (s + 203) (stR (stR M1 28 i (30 + 6 * i)) 29 i (30 + 6 * i)) := (a2.sR hX.2.1 (by omega)).sR hX.2.2 (by omega)
    obtain ⟨M', b1, b2, b3, b4, b5⟩ := ih (i + 1) (s + 203) _ (by omega) (by omega) h3 (by
      simp only [mR_if]
      rw [if_neg (by omega), if_neg (by omega), if_neg (by omega), if_neg (by omega), if_neg (by omega), if_neg (by omega), if_neg (by omega), if_neg (by omega), r, r, r, r]
      exact e0) (fun j hj => by
      rw [mR_ne (by omega)]
      by_cases q : j = i
      · rw [q, mR_at]
      · rw [mR_ne (by omega), (a3 28 (by omega) j).2]
        exact e1 j (by omega))
    refine ⟨M', ?_, by rw [show s + 203 * (t + 1) = s + 203 + 203 * t by omega]; exact b2, b3, b4, (((a3.le (by omega)).trans (Kp.sR (n := 27) (by omega)) (Nat.le_refl _)).trans (Kp.sR (n := 27) (by omega)) (Nat.le_refl _)).trans b5 (Nat.le_refl _)⟩
    have g0 := h.gO (a := 27) (c := 9) (by omega) (by omega) (by decide)
    have g1 := a2.gO (a := 27) (c := 9) (by omega) (by omega) (by decide)
    have g2 : gO M1 (30 + 6 * i) 4 = true := a2.gO (by omega) (by omega) hnd.1.2.2
    have g3 : gO (nwC M (.inl 4) 19) (30 + 6 * i) 4 = true := by
      have := gO_w (M := M) (s := 19) (c := 4) (by omega)
      rw [hn] at this
      exact this
    have s28 := gS_5 (a := 28) (i := i) a2 (by omega) (by omega) (by decide) (by omega)
    have s29 := gS_5 (a := 29) (i := i) a2 (by omega) (by omega) (by decide) (by omega)
    rw [Tr_init_34_eq, if_pos (by omega), g0, gd_t, hn, g3, gd_t, a1, cV_s, e0.2.2.1, toNat_n, mR_ne (b := 27) (j := 2) (by omega), mR_ne (b := 27) (j := 3) (by omega), r, r, e0.2.2.1, e0.2.2.2, mR_at, g2, s28, s29, g1]
    simp only [Bool.true_and, Bool.or_true, gd_t]
    rw [wr_s (by omega), b1]
end STARTB

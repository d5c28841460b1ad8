/-! ===== the start: the class ===== -/
def spX : List Nat := [2, 758, 759, 760, 761, 762, 763, 764, 765, 766, 767, 768]
section STARTD
variable {L : Nat} {xs : Nat → Int} {X : List Nat} {n s : Nat} {M : Mem}
theorem newES {e m : Nat} (h : SB L xs X e s M) (h2 : 2 ≤ e) (hX : e ∈ X ∧ e + 1 ∈ X) (hE : HT e = .inl 2) (hA : HT (e + 1) = .inr (0, m)) (hm : 1 < m ∧ m ≤ 100000) : ∃ M', Ex_init e (m : Int) (nwC M (.inl 2) 2) = some (none, M') ∧ SB L xs X (e + 2) (s + 2 + m) M' ∧ (mR M' e 0 = e + 1 ∧ mI M' e 1 = 0) ∧ Kp e M M' := by
  have h1 : SB L xs X (e + 1) (s + 2) (nwC M (.inl 2) 2) := h.nw hE (Or.inl hX.1)
  obtain ⟨M', a1, a2, a3, a5⟩ := Ex_init_s h1 h2 hX.1 hE hA hm (Or.inl hX.2)
  exact ⟨M', a1, a2, a3, (Kp.nw h.1.1).trans a5 (Nat.le_refl _)⟩
theorem SB.tS (h : SB L xs X n s M) {a k m i : Nat} (h2 : 2 ≤ a) (hn : a < n) (hH : HT a = .inr (k, m)) (hi : i < m) : gS M a k (i : Int) = true := by
  have q : mH M a = .inr (k, m) := by rw [h.2.1 a h2 hn]; exact hH
  unfold gS akd alen
  rw [q, h.1.1, Nat.ble_eq_true_of_le h2, show Nat.blt a n = true from Nat.ble_eq_true_of_le hn]
  show (true && (true && (Nat.beq k k && decide (0 ≤ (i : Int) ∧ (i : Int) < (m : Int))))) = true
  rw [decide_eq_true (by omega), nbeq]
  rfl
theorem Ex_add_1 {e m : Nat} {v : Int} (h : SB L xs X n s M) (h2 : 2 ≤ e) (hn : e + 2 ≤ n) (hX : e ∈ X ∧ e + 1 ∈ X) (hE : HT e = .inl 2) (hA : HT (e + 1) = .inr (0, m)) (hm : 1 < m) (hr : mR M e 0 = e + 1) (hc : mI M e 1 = 0) : ∃ M', Ex_add e v M = some (none, M') ∧ SB L xs X n s M' ∧ (mR M' e 0 = e + 1 ∧ mI M' e 1 = 1 ∧ mI M' (e + 1) 0 = v) ∧ Kp e M M' := by
  have g := h.gO h2 (by omega) hE
  have gs := h.tS (i := 0) (by omega : 2 ≤ e + 1) (by omega) hA (by omega)
  have gs : gS M (e + 1) 0 0 = true := gs
  have q : mH M (e + 1) = .inr (0, m) := by rw [h.2.1 _ (by omega) (by omega)]; exact hA
  have gl : gL 23 M (e + 1) = true := by
    unfold gL akd
    rw [q, h.1.1, Nat.ble_eq_true_of_le (by omega : 2 ≤ e + 1), show Nat.blt (e + 1) n = true from Nat.ble_eq_true_of_le (by omega)]
    rfl
  have al : alen M (e + 1) = m := by unfold alen; rw [q]
  refine ⟨stI (stI M (e + 1) 0 v) e 1 1, ?_, (h.sI hX.2 (by omega)).sI hX.1 h2, ⟨hr, mI_at, by rw [mI_ne (by omega), mI_at]⟩, (Kp.sI (by omega)).trans (Kp.sI (n := e) (Nat.le_refl _)) (Nat.le_refl _)⟩
  rw [Ex_add_eq, g, gd_t, gd_t, hr, gl, gd_t, al, hc, if_pos (by omega), gd_t, gd_t, gs, gd_t, gd_t, gd_t, mI_ne (by omega), hc]
  rfl
theorem HT_es {i : Nat} (hi : i < 4) : HT (759 + 2 * i) = .inl 2 ∧ HT (760 + 2 * i) = .inr (0, 40) ∧ 759 + 2 * i ∈ spX ∧ 760 + 2 * i ∈ spX := by
  have h : i = 0 ∨ i = 1 ∨ i = 2 ∨ i = 3 := by omega
  rcases h with rfl | rfl | rfl | rfl <;> decide
theorem D_88_step {i : Nat} (hi : i < 4) (h : SB L xs spX (759 + 2 * i) s M) (r6 : mR M 2 6 = 758) : ∃ M', D_init_88 2 (i : Int) M = D_init_88 2 ((i + 1 : Nat) : Int) M' ∧ SB L xs spX (759 + 2 * (i + 1)) (s + 2 + 40) M' ∧ mR M' 758 i = 759 + 2 * i ∧ (mR M' (759 + 2 * i) 0 = 760 + 2 * i ∧ mI M' (759 + 2 * i) 1 = 1 ∧ mI M' (760 + 2 * i) 0 = 50331648) ∧ ∀ b, b < 759 + 2 * i → ∀ j, mI M' b j = mI M b j ∧ (¬ (b = 758 ∧ j = i) → mR M' b j = mR M b j) := by
  have hN := h.1.1
  obtain ⟨t1, t2, t3, t4⟩ := HT_es hi
  have t2' : HT (759 + 2 * i + 1) = .inr (0, 40) := by rw [show 759 + 2 * i + 1 = 760 + 2 * i by omega]; exact t2
  have t4' : 759 + 2 * i + 1 ∈ spX := by rw [show 759 + 2 * i + 1 = 760 + 2 * i by omega]; exact t4
  obtain ⟨M1, a1, a2, ⟨a3, a3'⟩, a4⟩ := newES (m := 40) h (by omega) ⟨t3, t4'⟩ t1 t2' (by decide)
  have a1 : Ex_init _ 40 _ = _ := a1
  have h3 := a2.sR (a := 758) (k := i) (v := 759 + 2 * i) (by decide) (by decide)
  obtain ⟨M2, b1, b2, ⟨b3, b4, b5⟩, b6⟩ := Ex_add_1 (e := 759 + 2 * i) (v := 50331648) h3 (by omega) (by omega) ⟨t3, t4'⟩ t1 t2' (by decide) (by rw [mR_ne (by omega)]; exact a3) a3'
  have g0 := h.gO (a := 2) (c := 11) (by decide) (by omega) (by decide)
  have g1 := a2.gO (a := 2) (c := 11) (by decide) (by omega) (by decide)
  have g2 := a2.gO (a := 759 + 2 * i) (c := 2) (by omega) (by omega) t1
  have gn : gO (nwC M (.inl 2) 2) (759 + 2 * i) 2 = true := gO_m hN (by omega)
  have gs := a2.tS (a := 758) (k := 3) (m := 4) (i := i) (by decide) (by omega) (by decide) hi
  have r6' : mR M1 2 6 = 758 := by rw [(a4 2 (by omega) 6).2, r6]
  refine ⟨M2, ?_, b2, ?_, ⟨by rw [b3]; omega, b4, by rw [show 760 + 2 * i = 759 + 2 * i + 1 by omega]; exact b5⟩, fun b hb j => ⟨?_, fun q => ?_⟩⟩
  · rw [D_init_88_eq, if_pos (by omega), g0, gd_t, hN, gn, gd_t, a1, cV_s, r6, gs, g2, Bool.true_and, Bool.true_or, gd_t, g1, gd_t, toNat_n, mR_ne (b := 2) (j := 6) (by omega), r6', gs, Bool.true_or, gd_t, mR_at, g2, gd_t, b1, cV_s, wr_s (by omega)]
  · rw [(b6 758 (by omega) i).2, mR_at]
  · rw [(b6 b (by omega) j).1, mI_R, (a4 b (by omega) j).1]
  · rw [(b6 b (by omega) j).2, mR_ne (by omega), (a4 b (by omega) j).2]
/-- the class's own references -/
def dT : List Nat := [3, 9, 12, 21, 27, 754, 758, 767, 769, 771, 773, 935, 1097, 1259, 1264]
def DTo (t : Nat) (M : Mem) : Prop := ∀ j, j < t → mR M 2 j = dT.getD j 0
theorem DTo.kp {t n : Nat} {M M' : Mem} (h : DTo t M) (k : Kp n M M') (hn : 2 < n) : DTo t M' := fun j hj => by rw [(k 2 hn j).2]; exact h j hj
theorem DTo.set {t v : Nat} {M : Mem} (h : DTo t M) (hv : dT.getD t 0 = v) : DTo (t + 1) (stR M 2 t v) := fun j hj => by
  by_cases q : j = t
  · rw [q, mR_at, hv]
  · rw [mR_ne (by omega)]
    exact h j (by omega)
/-- the expressions that are there from the start -/
def ESo (M : Mem) : Prop := ∀ i, i < 4 → mR M 758 i = 759 + 2 * i ∧ (mR M (759 + 2 * i) 0 = 760 + 2 * i ∧ mI M (759 + 2 * i) 1 = 1 ∧ mI M (760 + 2 * i) 0 = 50331648)
theorem D_tail (h : SB L xs spX 767 s M) (hD : DTo 7 M) (hE : ESo M) (hU : mR M 21 1 = 23 ∧ mR M 21 2 = 25) : ∃ M', D_init_88 2 4 M = some (none, M') ∧ SB L xs spX 1269 (s + 2 + 100 + 2 + 100 + 2 + 100 + 4762 + 4762 + 4762 + 1206 + 1206) M' ∧ DTo 15 M' ∧ ESo M' ∧ (mR M' 767 0 = 768 ∧ mI M' 767 1 = 1 ∧ mI M' 768 0 = 50331648) ∧ (mI M' 2 15 = 0 ∧ mI M' 2 16 = -1) ∧ (mR M' 21 1 = 23 ∧ mR M' 21 2 = 25) := by
  have hN := h.1.1
  obtain ⟨M1, a1, a2, ⟨a3, a4⟩, a5⟩ := newES (e := 767) (m := 100) h (by decide) (by decide) (by decide) (by decide) (by decide)
  have a1 : Ex_init _ 100 _ = _ := a1
  have h1 := a2.sR (a := 2) (k := 7) (v := 767) (by decide) (by decide)
  have d1 := (hD.kp a5 (by decide)).set (v := 767) (by decide)
  obtain ⟨M2, b1, b2, b3, b4⟩ := Ex_add_1 (e := 767) (m := 100) (v := 50331648) h1 (by decide) (by decide) (by decide) (by decide) (by decide) (by decide) (by rw [mR_ne (by decide)]; exact a3) a4
  have d2 := d1.kp b4 (by decide)
  obtain ⟨M3, c1, c2, c3⟩ := newE (e := 769) (m := 100) b2 (by decide) (by decide) (by decide) (by decide) (by decide)
  have c1 : Ex_init _ 100 _ = _ := c1
  have h3 := c2.sR (a := 2) (k := 8) (v := 769) (by decide) (by decide)
  have d3 := (d2.kp c3 (by decide)).set (v := 769) (by decide)
  obtain ⟨M4, e1, e2, e3⟩ := newE (e := 771) (m := 100) h3 (by decide) (by decide) (by decide) (by decide) (by decide)
  have e1 : Ex_init _ 100 _ = _ := e1
  have h4 := e2.sR (a := 2) (k := 9) (v := 771) (by decide) (by decide)
  have d4 := (d3.kp e3 (by decide)).set (v := 771) (by decide)
  obtain ⟨M5, p1, p2, p3⟩ := newP (P := 773) h4 (isP_at (p := 0) (by decide)) (by decide)
  have h5 := p2.sR (a := 2) (k := 10) (v := 773) (by decide) (by decide)
  have d5 := (d4.kp p3 (by decide)).set (v := 773) (by decide)
  obtain ⟨M6, q1, q2, q3⟩ := newP (P := 935) h5 (isP_at (p := 1) (by decide)) (by decide)
  have h6 := q2.sR (a := 2) (k := 11) (v := 935) (by decide) (by decide)
  have d6 := (d5.kp q3 (by decide)).set (v := 935) (by decide)
  obtain ⟨M7, r1, r2, r3⟩ := newP (P := 1097) h6 (isP_at (p := 2) (by decide)) (by decide)
  have h7 := r2.sR (a := 2) (k := 12) (v := 1097) (by decide) (by decide)
  have d7 := (d6.kp r3 (by decide)).set (v := 1097) (by decide)
  obtain ⟨M8, t1, t2, t3⟩ := newB (b := 1259) h7 isB_at0 (by decide)
  have h8 := t2.sR (a := 2) (k := 13) (v := 1259) (by decide) (by decide)
  have d8 := (d7.kp t3 (by decide)).set (v := 1259) (by decide)
  obtain ⟨M9, u1, u2, u3⟩ := newB (b := 1264) h8 isB_at1 (by decide)
  have h9 := ((u2.sR (a := 2) (k := 14) (v := 1264) (by decide) (by decide)).sI (a := 2) (k := 15) (v := 0) (by decide) (by decide)).sI (a := 2) (k := 16) (v := -1) (by decide) (by decide)
  have d9 := (d8.kp u3 (by decide)).set (v := 1264) (by decide)
  -- what was there stays
  have kp : ∀ b, b < 769 → b ≠ 2 → ∀ j, mI M9 b j = mI M2 b j ∧ mR M9 b j = mR M2 b j := fun b hb hb2 j => by
    rw [(u3 b (by omega) j).1, (u3 b (by omega) j).2, mI_R, mR_ne (fun q => hb2 q.1), (t3 b (by omega) j).1, (t3 b (by omega) j).2, mI_R, mR_ne (fun q => hb2 q.1), (r3 b (by omega) j).1, (r3 b (by omega) j).2, mI_R, mR_ne (fun q => hb2 q.1), (q3 b (by omega) j).1, (q3 b (by omega) j).2, mI_R, mR_ne (fun q => hb2 q.1), (p3 b (by omega) j).1, (p3 b (by omega) j).2, mI_R, mR_ne (fun q => hb2 q.1), (e3 b (by omega) j).1, (e3 b (by omega) j).2, mI_R, mR_ne (fun q => hb2 q.1), (c3 b (by omega) j).1, (c3 b (by omega) j).2]
    exact ⟨rfl, rfl⟩
  have kq : ∀ b, b < 767 → b ≠ 2 → ∀ j, mI M9 b j = mI M b j ∧ mR M9 b j = mR M b j := fun b hb hb2 j => by
    rw [(kp b (by omega) hb2 j).1, (kp b (by omega) hb2 j).2, (b4 b hb j).1, (b4 b hb j).2, mI_R, mR_ne (fun q => hb2 q.1)]
    exact a5 b hb j
  have gd0 : ∀ {X : List Nat} {n s : Nat} {M : Mem}, SB L xs X n s M → 2 < n → gO M 2 11 = true := fun h hn => h.gO (by decide) hn (by decide)
  have rN : ∀ {X : List Nat} {n s : Nat} {M : Mem}, SB L xs X n s M → mN M = n := fun h => h.1.1
  refine ⟨stI (stI (stR M9 2 14 1264) 2 15 0) 2 16 (-1), ?_, h9, d9, fun i hi => ?_, ⟨?_, ?_, ?_⟩, ⟨?_, mI_at⟩, ⟨?_, ?_⟩⟩
  · rw [D_init_88_eq, if_neg (by decide), hN, gO_m hN (by decide), gd_t, a1, cV_s, gd0 a2 (by decide), gd_t, gd_t, mR_at, a2.gO (a := 767) (c := 2) (by decide) (by decide) (by decide), gd_t, b1, cV_s, rN b2, gO_m (rN b2) (by decide), gd_t, c1, cV_s, gd0 c2 (by decide), gd_t, rN c2, gO_m (rN c2) (by decide), gd_t, e1, cV_s, gd0 e2 (by decide), gd_t, rN e2, gO_m (rN e2) (by decide), gd_t, p1, cV_s, gd0 p2 (by decide), gd_t, rN p2, gO_m (rN p2) (by decide), gd_t, q1, cV_s, gd0 q2 (by decide), gd_t, rN q2, gO_m (rN q2) (by decide), gd_t, r1, cV_s, gd0 r2 (by decide), gd_t, rN r2, gO_m (rN r2) (by decide), gd_t, t1, cV_s, gd0 t2 (by decide), gd_t, rN t2, gO_m (rN t2) (by decide), gd_t, u1, cV_s, gd0 u2 (by decide), gd_t, gd_t, gd_t]
  · simp only [mR_I, mI_if, mI_R]
    rw [mR_ne (by omega), mR_ne (by omega), if_neg (by omega), if_neg (by omega), if_neg (by omega), if_neg (by omega), (kq _ (by omega) (by omega) _).2, (kq _ (by omega) (by omega) _).2, (kq _ (by omega) (by omega) _).1, (kq _ (by omega) (by omega) _).1]
    exact hE i hi
  · rw [mR_I, mR_I, mR_ne (by decide), (kp 767 (by decide) (by decide) 0).2]; exact b3.1
  · rw [mI_ne (by decide), mI_ne (by decide), mI_R, (kp 767 (by decide) (by decide) 1).1]; exact b3.2.1
  · rw [mI_ne (by decide), mI_ne (by decide), mI_R, (kp 768 (by decide) (by decide) 0).1]; exact b3.2.2
  · rw [mI_ne (by decide), mI_at]
  · rw [mR_I, mR_I, mR_ne (by decide), (kq 21 (by decide) (by decide) 1).2]; exact hU.1
  · rw [mR_I, mR_I, mR_ne (by decide), (kq 21 (by decide) (by decide) 2).2]; exact hU.2
end STARTD

/-! ===== the start: the class, whole ===== -/
section STARTE
variable {L : Nat} {xs : Nat → Int} {X : List Nat} {n s : Nat} {M : Mem}
/-- what is known when the class is made -/
def DSo (M : Mem) : Prop := DTo 15 M ∧ ESo M ∧ (mR M 767 0 = 768 ∧ mI M 767 1 = 1 ∧ mI M 768 0 = 50331648) ∧ (mI M 2 15 = 0 ∧ mI M 2 16 = -1) ∧ (mR M 21 1 = 23 ∧ mR M 21 2 = 25)
def slD (s : Nat) : Nat := s + 8 + 800 + 20 + 20 + 2 + 40 + 3 + 73728 + 512 + 11 + 40 + 40 + 40 + 40 + 40 + 40 + 1600 + 1600 + 10 + 12 + 2 + 20480 + 2 + 20480 + 14 + 120 + 120 + 203 * 120 + 2 + 256 + 2 + 20480 + 4 + 2 + 10240 + 44 + 4 + 2 + 40 + 2 + 40 + 2 + 40 + 2 + 40 + 2 + 100 + 2 + 100 + 2 + 100 + 4762 + 4762 + 4762 + 1206 + 1206
theorem D_init_s (h : SB L xs spX 3 s M) : ∃ M', D_init 2 M = some (none, M') ∧ SB L xs spX 1269 (slD s) M' ∧ DSo M' := by
  have gd0 : ∀ {X : List Nat} {n s : Nat} {M : Mem}, SB L xs X n s M → 2 < n → gO M 2 11 = true := fun h hn => h.gO (by decide) hn (by decide)
  have rN : ∀ {X : List Nat} {n s : Nat} {M : Mem}, SB L xs X n s M → mN M = n := fun h => h.1.1
  have d0 : DTo 0 M := fun j hj => absurd hj (Nat.not_lt_zero j)
  obtain ⟨M1, a1, a2, a3⟩ := newRe h
  have h1 := a2.sR (a := 2) (k := 0) (v := 3) (by decide) (by decide)
  have d1 := (d0.kp a3 (by decide)).set (v := 3) (by decide)
  obtain ⟨M2, b1, b2, b3⟩ := newWr h1
  have h2 := b2.sR (a := 2) (k := 1) (v := 9) (by decide) (by decide)
  have d2 := (d1.kp b3 (by decide)).set (v := 9) (by decide)
  obtain ⟨M3, c1, c2, c3⟩ := newMa h2
  have h3 := c2.sR (a := 2) (k := 2) (v := 12) (by decide) (by decide)
  have d3 := (d2.kp c3 (by decide)).set (v := 12) (by decide)
  obtain ⟨M4, e1, e2, eU, e3⟩ := newRu h3
  have h4 := e2.sR (a := 2) (k := 3) (v := 21) (by decide) (by decide)
  have d4 := (d3.kp e3 (by decide)).set (v := 21) (by decide)
  obtain ⟨M5, f1, f2, f3⟩ := newTr h4
  have h5 := f2.sR (a := 2) (k := 4) (v := 27) (by decide) (by decide)
  have d5 := (d4.kp f3 (by decide)).set (v := 27) (by decide)
  obtain ⟨M6, i1, i2, i3⟩ := newRs h5
  have h6 := i2.sR (a := 2) (k := 5) (v := 754) (by decide) (by decide)
  have d6 := (d5.kp i3 (by decide)).set (v := 754) (by decide)
  have h7 := (h6.nw (hh := .inr (3, 4)) (sl := 4) (by decide) (Or.inl (by decide))).sR (a := 2) (k := 6) (v := 758) (by decide) (by decide)
  have d7 := (d6.kp (Kp.nw (n := 758) (h := .inr (3, 4)) (sl := 4) (by rw [mN_R]; exact i2.1.1)) (by decide)).set (v := 758) (by decide)
  have u6 : mR M6 21 1 = 23 ∧ mR M6 21 2 = 25 := by
    rw [(i3 21 (by decide) 1).2, (i3 21 (by decide) 2).2, mR_ne (by decide), mR_ne (by decide), (f3 21 (by decide) 1).2, (f3 21 (by decide) 2).2, mR_ne (by decide), mR_ne (by decide)]
    exact eU
  have u7 : mR (stR (nwC (stR M6 2 5 754) (.inr (3, 4)) 4) 2 6 758) 21 1 = 23 ∧ mR (stR (nwC (stR M6 2 5 754) (.inr (3, 4)) 4) 2 6 758) 21 2 = 25 := by
    rw [mR_ne (by decide), mR_ne (by decide), mR_n, mR_n, mN_R, rN i2, if_neg (by decide), if_neg (by decide), mR_ne (by decide), mR_ne (by decide)]
    exact u6
  obtain ⟨N1, p1, p2, p3, p4, p5⟩ := D_88_step (i := 0) (by decide) h7 (d7 6 (by decide))
  have r1 : ∀ b j, b < 759 → ¬ (b = 758 ∧ j = 0) → mR N1 b j = _ := fun b j hb hj => (p5 b hb j).2 hj
  obtain ⟨N2, q1, q2, q3, q4, q5⟩ := D_88_step (i := 1) (by decide) p2 (by rw [r1 2 6 (by decide) (by decide)]; exact d7 6 (by decide))
  have r2 : ∀ b j, b < 761 → ¬ (b = 758 ∧ j = 1) → mR N2 b j = mR N1 b j := fun b j hb hj => (q5 b hb j).2 hj
  obtain ⟨N3, k1, k2, k3, k4, k5⟩ := D_88_step (i := 2) (by decide) q2 (by rw [r2 2 6 (by decide) (by decide), r1 2 6 (by decide) (by decide)]; exact d7 6 (by decide))
  have r3 : ∀ b j, b < 763 → ¬ (b = 758 ∧ j = 2) → mR N3 b j = mR N2 b j := fun b j hb hj => (k5 b hb j).2 hj
  obtain ⟨N4, t1, t2, t3, t4, t5⟩ := D_88_step (i := 3) (by decide) k2 (by rw [r3 2 6 (by decide) (by decide), r2 2 6 (by decide) (by decide), r1 2 6 (by decide) (by decide)]; exact d7 6 (by decide))
  have r4 : ∀ b j, b < 765 → ¬ (b = 758 ∧ j = 3) → mR N4 b j = mR N3 b j := fun b j hb hj => (t5 b hb j).2 hj
  have rr : ∀ b j, b < 758 → mR N4 b j = mR (stR (nwC (stR M6 2 5 754) (.inr (3, 4)) 4) 2 6 758) b j := fun b j hb => by
    rw [r4 b j (by omega) (by omega), r3 b j (by omega) (by omega), r2 b j (by omega) (by omega), r1 b j (by omega) (by omega)]
  have hE : ESo N4 := fun i hi => by
    have hh : i = 0 ∨ i = 1 ∨ i = 2 ∨ i = 3 := by omega
    rcases hh with rfl | rfl | rfl | rfl
    · refine ⟨?_, ?_, ?_, ?_⟩
      · rw [r4 _ _ (by decide) (by decide), r3 _ _ (by decide) (by decide), r2 _ _ (by decide) (by decide)]; exact p3
      · rw [r4 _ _ (by decide) (by decide), r3 _ _ (by decide) (by decide), r2 _ _ (by decide) (by decide)]; exact p4.1
      · rw [(t5 _ (by decide) _).1, (k5 _ (by decide) _).1, (q5 _ (by decide) _).1]; exact p4.2.1
      · rw [(t5 _ (by decide) _).1, (k5 _ (by decide) _).1, (q5 _ (by decide) _).1]; exact p4.2.2
    · refine ⟨?_, ?_, ?_, ?_⟩
      · rw [r4 _ _ (by decide) (by decide), r3 _ _ (by decide) (by decide)]; exact q3
      · rw [r4 _ _ (by decide) (by decide), r3 _ _ (by decide) (by decide)]; exact q4.1
      · rw [(t5 _ (by decide) _).1, (k5 _ (by decide) _).1]; exact q4.2.1
      · rw [(t5 _ (by decide) _).1, (k5 _ (by decide) _).1]; exact q4.2.2
    · refine ⟨?_, ?_, ?_, ?_⟩
      · rw [r4 _ _ (by decide) (by decide)]; exact k3
      · rw [r4 _ _ (by decide) (by decide)]; exact k4.1
      · rw [(t5 _ (by decide) _).1]; exact k4.2.1
      · rw [(t5 _ (by decide) _).1]; exact k4.2.2
    · exact ⟨t3, t4⟩
  have hD : DTo 7 N4 := fun j hj => by rw [rr 2 j (by decide)]; exact d7 j hj
  obtain ⟨M', w1, w2, w3⟩ := D_tail t2 hD hE (by rw [rr 21 1 (by decide), rr 21 2 (by decide)]; exact u7)
  refine ⟨M', ?_, w2, w3⟩
  have e30 : mR (nwC (stR M4 2 3 21) (.inl 9) 14) 2 3 = 21 := by rw [mR_n, mN_R, rN e2, if_neg (by decide), mR_at]
  have e31 : mR (nwC (stR M4 2 3 21) (.inl 9) 14) 2 2 = 12 := by rw [mR_n, mN_R, rN e2, if_neg (by decide)]; exact d4 2 (by decide)
  have p1 : D_init_88 2 0 _ = _ := p1
  rw [D_init_eq, rN h, gO_m (rN h) (by decide), show Nat.blt 0 2 = true from rfl, gd_t, gd_t, a1, cV_s, gd0 a2 (by decide), gd_t, rN a2, gO_m (rN a2) (by decide), gd_t, b1, cV_s, gd0 b2 (by decide), gd_t, rN b2, gO_m (rN b2) (by decide), gd_t, c1, cV_s, gd0 c2 (by decide), gd_t, rN c2, gO_m (rN c2) (by decide), gd_t, e1, cV_s, gd0 e2 (by decide), gd_t, rN e2, gO_n (gd0 e2 (by decide)), gd_t, gd_t, gO_m (rN e2) (by decide), gd_t, e30, e31, f1, cV_s, gd0 f2 (by decide), gd_t, rN f2, gO_m (rN f2) (by decide), gd_t, i1, cV_s, gd0 i2 (by decide), gd_t, rN i2, gO_n (gd0 i2 (by decide)), gd_t, p1, q1, k1, t1]
  exact w1
/-- nothing apart is left -/
theorem DSo.ok (h : DSo M) : ∀ a ∈ spX, OKc M a := by
  obtain ⟨hD, hE, ⟨e1, e2, e3⟩, -, -⟩ := h
  have o2 : OKc M 2 := by
    refine OKc_un (c := 11) (by decide) (by decide) (by decide) (rs := [(2, 0, 3), (2, 1, 9), (2, 2, 12), (2, 3, 21), (2, 4, 27), (2, 5, 754), (2, 6, 758), (2, 7, 767), (2, 8, 769), (2, 9, 771)]) (ks := []) (by decide) (by decide) (fun q hq => ?_) (fun q hq => absurd hq List.not_mem_nil)
    simp only [List.mem_cons, List.not_mem_nil, or_false] at hq
    rcases hq with rfl | rfl | rfl | rfl | rfl | rfl | rfl | rfl | rfl | rfl
    · exact hD 0 (by decide)
    · exact hD 1 (by decide)
    · exact hD 2 (by decide)
    · exact hD 3 (by decide)
    · exact hD 4 (by decide)
    · exact hD 5 (by decide)
    · exact hD 6 (by decide)
    · exact hD 7 (by decide)
    · exact hD 8 (by decide)
    · exact hD 9 (by decide)
  have oE : ∀ e m : Nat, HT e = .inl 2 → HT (e + 1) = .inr (0, m) → e ≠ 28 → e + 1 ≠ 28 → irS.filter (fun q => q.1 == e) = [] → irS.filter (fun q => q.1 == e + 1) = [] → izS.filter (fun q => q.1 == e) = [(e, 1, 1)] → izS.filter (fun q => q.1 == e + 1) = [(e + 1, 0, 50331648)] → mR M e 0 = e + 1 → mI M e 1 = 1 → mI M (e + 1) 0 = 50331648 → OKc M e ∧ OKc M (e + 1) := by
    intro e m t1 t2 n1 n2 f1 f2 f3 f4 c1 c2 c3
    have i1 : ∀ q ∈ irS, q.1 ≠ e := fun q hq he => by
      have : q ∈ irS.filter (fun q => q.1 == e) := List.mem_filter.mpr ⟨hq, by simpa using he⟩
      rw [f1] at this; exact absurd this List.not_mem_nil
    have i2 : ∀ q ∈ irS, q.1 ≠ e + 1 := fun q hq he => by
      have : q ∈ irS.filter (fun q => q.1 == e + 1) := List.mem_filter.mpr ⟨hq, by simpa using he⟩
      rw [f2] at this; exact absurd this List.not_mem_nil
    constructor
    · rw [OKc, t1]
      refine ⟨⟨fun _ => ⟨c1, fun h => absurd rfl (h (e, 1, 1) ?_)⟩, fun q => (by cases q), fun q => (by cases q), fun q => (by cases q), fun q => (by cases q), fun q => (by cases q)⟩, fun q m e => absurd e (i1 q m), fun q m e' => ?_, fun q => absurd q n1⟩
      · have : (e, 1, (1 : Int)) ∈ izS.filter (fun q => q.1 == e) := by rw [f3]; simp
        exact (List.mem_filter.mp this).1
      · have : q ∈ izS.filter (fun q => q.1 == e) := List.mem_filter.mpr ⟨m, by simpa using e'⟩
        rw [f3] at this
        rw [List.mem_singleton.mp this]
        exact c2
    · rw [OKc, t2]
      refine ⟨⟨fun q => (by cases q), fun q => (by cases q), fun q => (by cases q), fun q => (by cases q), fun q => (by cases q), fun q => (by cases q)⟩, fun q m e => absurd e (i2 q m), fun q m e' => ?_, fun q => absurd q n2⟩
      have : q ∈ izS.filter (fun q => q.1 == e + 1) := List.mem_filter.mpr ⟨m, by simpa using e'⟩
      rw [f4] at this
      rw [List.mem_singleton.mp this]
      exact c3
  obtain ⟨-, x1, x2, x3⟩ := hE 0 (by decide)
  obtain ⟨y0, y1⟩ := oE 759 40 (by decide) (by decide) (by decide) (by decide) (by decide) (by decide) (by decide) (by decide) x1 x2 x3
  obtain ⟨-, x1, x2, x3⟩ := hE 1 (by decide)
  obtain ⟨y2, y3⟩ := oE 761 40 (by decide) (by decide) (by decide) (by decide) (by decide) (by decide) (by decide) (by decide) x1 x2 x3
  obtain ⟨-, x1, x2, x3⟩ := hE 2 (by decide)
  obtain ⟨y4, y5⟩ := oE 763 40 (by decide) (by decide) (by decide) (by decide) (by decide) (by decide) (by decide) (by decide) x1 x2 x3
  obtain ⟨-, x1, x2, x3⟩ := hE 3 (by decide)
  obtain ⟨y6, y7⟩ := oE 765 40 (by decide) (by decide) (by decide) (by decide) (by decide) (by decide) (by decide) (by decide) x1 x2 x3
  obtain ⟨y8, y9⟩ := oE 767 100 (by decide) (by decide) (by decide) (by decide) (by decide) (by decide) (by decide) (by decide) e1 e2 e3
  have o758 : OKc M 758 := by
    have t : HT 758 = .inr (3, 4) := by decide
    rw [OKc, t]
    refine ⟨⟨fun q => (by cases q), fun q => (by cases q), fun q => (by cases q), fun q => (by cases q), fun q => (by cases q), fun q => (by cases q)⟩, fun q m e => ?_, fun q m e => absurd e ((by decide : ∀ q ∈ izS, q.1 ≠ 758) q m), fun q => absurd q (by decide)⟩
    have h1 : q ∈ irS.filter (fun q => q.1 == 758) := List.mem_filter.mpr ⟨m, by simpa using e⟩
    rw [show irS.filter (fun q => q.1 == 758) = [(758, 0, 759), (758, 1, 761), (758, 2, 763), (758, 3, 765)] by decide] at h1
    simp only [List.mem_cons, List.not_mem_nil, or_false] at h1
    rcases h1 with rfl | rfl | rfl | rfl
    · exact (hE 0 (by decide)).1
    · exact (hE 1 (by decide)).1
    · exact (hE 2 (by decide)).1
    · exact (hE 3 (by decide)).1
  intro a ha
  unfold spX at ha
  simp only [List.mem_cons, List.not_mem_nil, or_false] at ha
  rcases ha with rfl | rfl | rfl | rfl | rfl | rfl | rfl | rfl | rfl | rfl | rfl | rfl
  · exact o2
  · exact o758
  · exact y0
  · exact y1
  · exact y2
  · exact y3
  · exact y4
  · exact y5
  · exact y6
  · exact y7
  · exact y8
  · exact y9
theorem SB.only {Y : List Nat} (h : SB L xs X n s M) (ho : ∀ a ∈ X, a ∈ Y ∨ OKc M a) : SB L xs Y n s M := by
  obtain ⟨h1, h4, h5, h6⟩ := h
  refine ⟨h1, h4, fun b b1 b2 b3 => ?_, h6⟩
  by_cases q : b ∈ X
  · exact (ho b q).resolve_left b3
  · exact h5 b b1 b2 q
end STARTE

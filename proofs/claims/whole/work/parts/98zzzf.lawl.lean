/-! ===== the law's loop ===== -/
def xmS : Nat → Nat → Prop := fun a k => (a = 2 ∧ k = 16) ∨ (a = 3 ∧ k = 4)
def xnS : Nat → Nat → Prop := fun a k => a = 1269 ∧ (k = 1 ∨ k = 3)
section LAWL
variable {L : Nat} {xs : Nat → Int}
theorem OPP_expression (i : Int) : OPP L xs (fun M => D_expression 2 i M) (fun M => M_expression 1269 i M) := by
  by_cases hi : 0 ≤ i ∧ i < 4
  · obtain ⟨a, rfl⟩ := Int.eq_ofNat_of_zero_le hi.1
    exact OPP_expr0 (by omega)
  · refine OPP.of fun M hG T zs nc bs gl gc es f dr ws dp h hR pv => ?_
    obtain ⟨⟨⟨a1, a2, a3, a4⟩, ⟨a5, a6, a7⟩, ⟨a8, a9⟩, b1⟩, b2⟩ := h
    obtain ⟨M1, e1, e2, e3, q0⟩ := D_emptyTape_s hG a1 (r := 1) (Or.inr rfl)
    have q : Fq xmS nor M M1 := q0.fq fun a k g => g
    have g1 := hG.fj q0
    have e3 : mI M1 2 16 = -1 := e3
    have s1 : ∀ a k, xmS a k → 2 ≤ a ∧ a < 1269 := fun a k g => by unfold xmS at g; omega
    have hR1 := hR.lo q fun a k g => (s1 a k g).2
    have h1 : D_expression 2 i M = some (some (.inl (-1)), M1) := by
      rw [D_expression_eq, D_isExpression_s, cI_s, if_neg hi, if_pos rfl, hG.gx, gd_t, e1, cI_s]
    have h2 : M_expression 1269 i M1 = some (some (.inl (-1)), stI (stI M1 1269 1 0) 1269 3 (-1)) := by
      rw [M_expression_eq, M_isIn_s, cI_s, if_neg (show ¬ ((0 : Int) ≤ i ∧ i ≤ 3) by omega), if_pos rfl, g1.gM, gd_t, gd_t]
    have q2 : Fj xnS M1 (stI (stI M1 1269 1 0) 1269 3 (-1)) := (Fj.ofI (Or.inl rfl |> fun g => ⟨rfl, g⟩)).trans (Fj.ofI ⟨rfl, Or.inr rfl⟩)
    have s2 : ∀ a k, xnS a k → 1269 ≤ a := fun a k g => by unfold xnS at g; omega
    have hC1 : CHf M1 [] zs nc bs gl gc es (-1) dr ws dp := ⟨⟨⟨e2, a2.fq q (fun a k g => by unfold xmS; omega) (fun k g => fun g => g), a3.fq q (fun a k g => by unfold xmS; omega) (fun k g => fun g => g), a4.fq q (fun a k g => by unfold xmS; omega)⟩, ⟨a5.fq q (fun a k g => by unfold xmS; omega), ⟨e3, (q.2.2 _ _ (by unfold xmS; omega)).trans a6.2⟩, a7.fq q fun k => ⟨by unfold xmS; omega, by unfold xmS; omega⟩⟩, ⟨a8.fq q (fun a k g => by unfold xmS; omega) ⟨fun g => g, fun g => g⟩, a9.fq q (fun a k g => by unfold xmS; omega)⟩, (q.2.2 _ _ (by unfold xmS; omega)).trans b1⟩, fun hd => ⟨(b2 hd).1.fq pv.1.1 pv.1.2.1 pv.1.2.2 (pv.new hd).2 q (fun a j g => by unfold xmS; omega) (fun a j g => fun g => g), (b2 hd).2⟩⟩
    have hR2 : RHf M1 T zs bs gl es f dr ws dp → RHf (stI (stI M1 1269 1 0) 1269 3 (-1)) [] zs bs gl es (-1) dr ws dp := fun h => by
      obtain ⟨⟨⟨r1, r2, r3⟩, ⟨r4, r5⟩, ⟨r6, r7⟩, r8⟩, s⟩ := h
      have q := q2
      exact ⟨⟨⟨TPm.nil (by rw [mI_ne (by omega), mI_at]), ⟨(q.2.2 _ _ (by unfold xnS; omega)).trans r2.1, r2.2.fj q fun a k g => by unfold xnS; omega⟩, r3.fj q (by unfold xnS; omega) (fun k => by unfold xnS; omega)⟩, ⟨⟨(q.2.2 _ _ (by unfold xnS; omega)).trans r4.1, fun i hi => (q.2.2 _ _ (by unfold xnS; omega)).trans (r4.2 i hi)⟩, r5.fj q fun k => by unfold xnS; omega⟩, ⟨⟨mI_at, (q.2.2 _ _ (by unfold xnS; omega)).trans r6.2⟩, r7.fj q (by unfold xnS; omega) (fun k => by unfold xnS; omega)⟩, (q.2.2 _ _ (by unfold xnS; omega)).trans r8⟩, fun hd => ⟨⟨(s hd).1.1.fjo q fun a j g => by unfold rzS at g; unfold xnS; omega, (q.2.2 _ _ (by unfold xnS; omega)).trans (s hd).1.2.1, (q.2.2 _ _ (by unfold xnS; omega)).trans (s hd).1.2.2⟩, ⟨(q.2.2 _ _ (by unfold xnS; omega)).trans (s hd).2.1.1, (s hd).2.1.2.fj q fun a k g => by unfold xnS; omega⟩, ⟨(q.2.2 _ _ (by unfold xnS; omega)).trans (s hd).2.2.1, fun i hi => (q.2.2 _ _ (by unfold xnS; omega)).trans ((s hd).2.2.2 i hi)⟩⟩⟩
    exact ⟨_, M1, _, xmS, nor, xnS, _, _, _, _, _, _, _, _, _, _, _, ⟨h1, h2⟩, ⟨g1, g1.fj q2⟩, ⟨q, s1⟩, ⟨q2, s2⟩, hC1, hR2, pv⟩
/-- the script is read -/
theorem scr_g {M : Mem} (h : SCR L xs M) {i : Nat} (hi : i < L) : gA 317 M 1 (i : Int) = true := by
  have q : decide (0 ≤ (i : Int) ∧ (i : Int) < (alen M 1 : Int)) = true := by
    have : alen M 1 = L := by unfold alen; rw [h.1]
    rw [this]
    exact decide_eq_true (by omega)
  unfold gA
  rw [q]
  exact Bool.or_true _
theorem scr_l {M : Mem} : gL 317 M 1 = true := by
  unfold gL
  exact Bool.or_true _
theorem scr_v {M : Mem} (h : SCR L xs M) {i : Nat} (hi : i < L) : mI M 1 i = xs i := (h.2 i).trans (if_pos hi)
theorem lop_feed {M : Mem} {i : Nat} (h : LIV L xs M) (hi : i + 6 ≤ L) (hL : L ≤ 3072) : ∃ M2, L_law_160 1 2 1269 (i : Int) M = L_law_884 1 2 1269 (i : Int) M2 ∧ LIV L xs M2 := by
  obtain ⟨v, M1, M2, h1, h2, ⟨g1, c1⟩, h3⟩ := OPP_feed (xs (i + 1)) (xs (i + 2)) (xs (i + 3)) (xs (i + 4)) (xs (i + 5)) M h
  have h1 : D_feed 2 (xs (i + 1)) (xs (i + 2)) (xs (i + 3)) (xs (i + 4)) (xs (i + 5)) M = some (some (.inl v), M1) := h1
  have h2 : M_feed 1269 (xs (i + 1)) (xs (i + 2)) (xs (i + 3)) (xs (i + 4)) (xs (i + 5)) M1 = some (some (.inl v), M2) := h2
  refine ⟨M2, ?_, h3⟩
  rw [L_law_160_eq]
  rw [show wr ((i : Int) + 1) = ((i + 1 : Nat) : Int) by rw [wr_id (by omega) (by omega)]; omega]
  rw [show wr ((i : Int) + 2) = ((i + 2 : Nat) : Int) by rw [wr_id (by omega) (by omega)]; omega]
  rw [show wr ((i : Int) + 3) = ((i + 3 : Nat) : Int) by rw [wr_id (by omega) (by omega)]; omega]
  rw [show wr ((i : Int) + 4) = ((i + 4 : Nat) : Int) by rw [wr_id (by omega) (by omega)]; omega]
  rw [show wr ((i : Int) + 5) = ((i + 5 : Nat) : Int) by rw [wr_id (by omega) (by omega)]; omega]
  simp only [Int.toNat_natCast]
  rw [scr_g h.1.2 (i := i + 1) (by omega), gd_t]
  rw [scr_g h.1.2 (i := i + 2) (by omega), gd_t]
  rw [scr_g h.1.2 (i := i + 3) (by omega), gd_t]
  rw [scr_g h.1.2 (i := i + 4) (by omega), gd_t]
  rw [scr_g h.1.2 (i := i + 5) (by omega), gd_t]
  rw [h.1.1.gx, gd_t, scr_v h.1.2 (i := i + 1) (by omega), scr_v h.1.2 (i := i + 2) (by omega), scr_v h.1.2 (i := i + 3) (by omega), scr_v h.1.2 (i := i + 4) (by omega), scr_v h.1.2 (i := i + 5) (by omega), h1, cI_s]
  rw [scr_g c1 (i := i + 1) (by omega), gd_t]
  rw [scr_g c1 (i := i + 2) (by omega), gd_t]
  rw [scr_g c1 (i := i + 3) (by omega), gd_t]
  rw [scr_g c1 (i := i + 4) (by omega), gd_t]
  rw [scr_g c1 (i := i + 5) (by omega), gd_t]
  rw [g1.gM, gd_t, scr_v c1 (i := i + 1) (by omega), scr_v c1 (i := i + 2) (by omega), scr_v c1 (i := i + 3) (by omega), scr_v c1 (i := i + 4) (by omega), scr_v c1 (i := i + 5) (by omega), h2, cI_s, if_pos rfl]
theorem lop_end {M : Mem} {i : Nat} (h : LIV L xs M) (hi : i + 6 ≤ L) (hL : L ≤ 3072) : ∃ M2, L_law_223 1 2 1269 (i : Int) M = L_law_884 1 2 1269 (i : Int) M2 ∧ LIV L xs M2 := by
  obtain ⟨v, M1, M2, h1, h2, ⟨g1, c1⟩, h3⟩ := OPP_end (xs (i + 1)) M h
  have h1 : D_end 2 (xs (i + 1)) M = some (some (.inl v), M1) := h1
  have h2 : M_end 1269 (xs (i + 1)) M1 = some (some (.inl v), M2) := h2
  refine ⟨M2, ?_, h3⟩
  rw [L_law_223_eq]
  rw [show wr ((i : Int) + 1) = ((i + 1 : Nat) : Int) by rw [wr_id (by omega) (by omega)]; omega]
  simp only [Int.toNat_natCast]
  rw [scr_g h.1.2 (i := i + 1) (by omega), gd_t]
  rw [h.1.1.gx, gd_t, scr_v h.1.2 (i := i + 1) (by omega), h1, cI_s]
  rw [scr_g c1 (i := i + 1) (by omega), gd_t]
  rw [g1.gM, gd_t, scr_v c1 (i := i + 1) (by omega), h2, cI_s, if_pos rfl]
theorem lop_program {M : Mem} {i : Nat} (h : LIV L xs M) (hi : i + 6 ≤ L) (hL : L ≤ 3072) : ∃ M2, L_law_246 1 2 1269 (i : Int) M = L_law_884 1 2 1269 (i : Int) M2 ∧ LIV L xs M2 := by
  obtain ⟨v, M1, M2, h1, h2, ⟨g1, c1⟩, h3⟩ := OPP_program M h
  have h1 : D_program 2 M = some (some (.inl v), M1) := h1
  have h2 : M_program 1269 M1 = some (some (.inl v), M2) := h2
  refine ⟨M2, ?_, h3⟩
  rw [L_law_246_eq, h.1.1.gx, gd_t, h1, cI_s, g1.gM, gd_t, h2, cI_s, if_pos rfl]
theorem lop_goal {M : Mem} {i : Nat} (h : LIV L xs M) (hi : i + 6 ≤ L) (hL : L ≤ 3072) : ∃ M2, L_law_259 1 2 1269 (i : Int) M = L_law_884 1 2 1269 (i : Int) M2 ∧ LIV L xs M2 := by
  obtain ⟨v, M1, M2, h1, h2, ⟨g1, c1⟩, h3⟩ := OPP_goal M h
  have h1 : D_goal 2 M = some (some (.inl v), M1) := h1
  have h2 : M_goal 1269 M1 = some (some (.inl v), M2) := h2
  refine ⟨M2, ?_, h3⟩
  rw [L_law_259_eq, h.1.1.gx, gd_t, h1, cI_s, g1.gM, gd_t, h2, cI_s, if_pos rfl]
theorem lop_bind {M : Mem} {i : Nat} (h : LIV L xs M) (hi : i + 6 ≤ L) (hL : L ≤ 3072) : ∃ M2, L_law_272 1 2 1269 (i : Int) M = L_law_884 1 2 1269 (i : Int) M2 ∧ LIV L xs M2 := by
  obtain ⟨v, M1, M2, h1, h2, ⟨g1, c1⟩, h3⟩ := OPP_bind M h
  have h1 : D_bind 2 M = some (some (.inl v), M1) := h1
  have h2 : M_bind 1269 M1 = some (some (.inl v), M2) := h2
  refine ⟨M2, ?_, h3⟩
  rw [L_law_272_eq, h.1.1.gx, gd_t, h1, cI_s, g1.gM, gd_t, h2, cI_s, if_pos rfl]
theorem lop_expression {M : Mem} {i : Nat} (h : LIV L xs M) (hi : i + 6 ≤ L) (hL : L ≤ 3072) : ∃ M2, L_law_285 1 2 1269 (i : Int) M = L_law_884 1 2 1269 (i : Int) M2 ∧ LIV L xs M2 := by
  obtain ⟨v, M1, M2, h1, h2, ⟨g1, c1⟩, h3⟩ := OPP_expression (xs (i + 1)) M h
  have h1 : D_expression 2 (xs (i + 1)) M = some (some (.inl v), M1) := h1
  have h2 : M_expression 1269 (xs (i + 1)) M1 = some (some (.inl v), M2) := h2
  refine ⟨M2, ?_, h3⟩
  rw [L_law_285_eq]
  rw [show wr ((i : Int) + 1) = ((i + 1 : Nat) : Int) by rw [wr_id (by omega) (by omega)]; omega]
  simp only [Int.toNat_natCast]
  rw [scr_g h.1.2 (i := i + 1) (by omega), gd_t]
  rw [h.1.1.gx, gd_t, scr_v h.1.2 (i := i + 1) (by omega), h1, cI_s]
  rw [scr_g c1 (i := i + 1) (by omega), gd_t]
  rw [g1.gM, gd_t, scr_v c1 (i := i + 1) (by omega), h2, cI_s, if_pos rfl]
theorem lop_fault {M : Mem} {i : Nat} (h : LIV L xs M) (hi : i + 6 ≤ L) (hL : L ≤ 3072) : ∃ M2, L_law_308 1 2 1269 (i : Int) M = L_law_884 1 2 1269 (i : Int) M2 ∧ LIV L xs M2 := by
  obtain ⟨v, M1, M2, h1, h2, ⟨g1, c1⟩, h3⟩ := OPP_fault M h
  have h1 : D_fault 2 M = some (some (.inl v), M1) := h1
  have h2 : M_fault 1269 M1 = some (some (.inl v), M2) := h2
  refine ⟨M2, ?_, h3⟩
  rw [L_law_308_eq, h.1.1.gx, gd_t, h1, cI_s, g1.gM, gd_t, h2, cI_s, if_pos rfl]
theorem lop_is {M : Mem} {i : Nat} (h : LIV L xs M) (hi : i + 6 ≤ L) (hL : L ≤ 3072) : ∃ M2, L_law_321 1 2 1269 (i : Int) M = L_law_884 1 2 1269 (i : Int) M2 ∧ LIV L xs M2 := by
  obtain ⟨v, M1, M2, h1, h2, ⟨g1, c1⟩, h3⟩ := OPP_is (xs (i + 1)) M h
  have h1 : D_is 2 (xs (i + 1)) M = some (some (.inl v), M1) := h1
  have h2 : M_is 1269 (xs (i + 1)) M1 = some (some (.inl v), M2) := h2
  refine ⟨M2, ?_, h3⟩
  rw [L_law_321_eq]
  rw [show wr ((i : Int) + 1) = ((i + 1 : Nat) : Int) by rw [wr_id (by omega) (by omega)]; omega]
  simp only [Int.toNat_natCast]
  rw [scr_g h.1.2 (i := i + 1) (by omega), gd_t]
  rw [h.1.1.gx, gd_t, scr_v h.1.2 (i := i + 1) (by omega), h1, cI_s]
  rw [scr_g c1 (i := i + 1) (by omega), gd_t]
  rw [g1.gM, gd_t, scr_v c1 (i := i + 1) (by omega), h2, cI_s, if_pos rfl]
theorem lop_clause {M : Mem} {i : Nat} (h : LIV L xs M) (hi : i + 6 ≤ L) (hL : L ≤ 3072) : ∃ M2, L_law_344 1 2 1269 (i : Int) M = L_law_884 1 2 1269 (i : Int) M2 ∧ LIV L xs M2 := by
  obtain ⟨v, M1, M2, h1, h2, ⟨g1, c1⟩, h3⟩ := OPP_clause (xs (i + 1)) (xs (i + 2)) M h
  have h1 : D_clause 2 (xs (i + 1)) (xs (i + 2)) M = some (some (.inl v), M1) := h1
  have h2 : M_clause 1269 (xs (i + 1)) (xs (i + 2)) M1 = some (some (.inl v), M2) := h2
  refine ⟨M2, ?_, h3⟩
  rw [L_law_344_eq]
  rw [show wr ((i : Int) + 1) = ((i + 1 : Nat) : Int) by rw [wr_id (by omega) (by omega)]; omega]
  rw [show wr ((i : Int) + 2) = ((i + 2 : Nat) : Int) by rw [wr_id (by omega) (by omega)]; omega]
  simp only [Int.toNat_natCast]
  rw [scr_g h.1.2 (i := i + 1) (by omega), gd_t]
  rw [scr_g h.1.2 (i := i + 2) (by omega), gd_t]
  rw [h.1.1.gx, gd_t, scr_v h.1.2 (i := i + 1) (by omega), scr_v h.1.2 (i := i + 2) (by omega), h1, cI_s]
  rw [scr_g c1 (i := i + 1) (by omega), gd_t]
  rw [scr_g c1 (i := i + 2) (by omega), gd_t]
  rw [g1.gM, gd_t, scr_v c1 (i := i + 1) (by omega), scr_v c1 (i := i + 2) (by omega), h2, cI_s, if_pos rfl]
theorem lop_run {M : Mem} {i : Nat} (h : LIV L xs M) (hi : i + 6 ≤ L) (hL : L ≤ 3072) : ∃ M2, L_law_377 1 2 1269 (i : Int) M = L_law_884 1 2 1269 (i : Int) M2 ∧ LIV L xs M2 := by
  obtain ⟨v, M1, M2, h1, h2, ⟨g1, c1⟩, h3⟩ := OPP_run (xs (i + 1)) (xs (i + 2)) M h
  have h1 : D_run 2 (xs (i + 1)) (xs (i + 2)) M = some (some (.inl v), M1) := h1
  have h2 : M_run 1269 (xs (i + 1)) (xs (i + 2)) M1 = some (some (.inl v), M2) := h2
  refine ⟨M2, ?_, h3⟩
  rw [L_law_377_eq]
  rw [show wr ((i : Int) + 1) = ((i + 1 : Nat) : Int) by rw [wr_id (by omega) (by omega)]; omega]
  rw [show wr ((i : Int) + 2) = ((i + 2 : Nat) : Int) by rw [wr_id (by omega) (by omega)]; omega]
  simp only [Int.toNat_natCast]
  rw [scr_g h.1.2 (i := i + 1) (by omega), gd_t]
  rw [scr_g h.1.2 (i := i + 2) (by omega), gd_t]
  rw [h.1.1.gx, gd_t, scr_v h.1.2 (i := i + 1) (by omega), scr_v h.1.2 (i := i + 2) (by omega), h1, cI_s]
  rw [scr_g c1 (i := i + 1) (by omega), gd_t]
  rw [scr_g c1 (i := i + 2) (by omega), gd_t]
  rw [g1.gM, gd_t, scr_v c1 (i := i + 1) (by omega), scr_v c1 (i := i + 2) (by omega), h2, cI_s, if_pos rfl]
theorem lop_result {M : Mem} {i : Nat} (h : LIV L xs M) (hi : i + 6 ≤ L) (hL : L ≤ 3072) : ∃ M2, L_law_410 1 2 1269 (i : Int) M = L_law_884 1 2 1269 (i : Int) M2 ∧ LIV L xs M2 := by
  obtain ⟨v, M1, M2, h1, h2, ⟨g1, c1⟩, h3⟩ := OPP_result (xs (i + 1)) M h
  have h1 : D_result 2 (xs (i + 1)) M = some (some (.inl v), M1) := h1
  have h2 : M_result 1269 (xs (i + 1)) M1 = some (some (.inl v), M2) := h2
  refine ⟨M2, ?_, h3⟩
  rw [L_law_410_eq]
  rw [show wr ((i : Int) + 1) = ((i + 1 : Nat) : Int) by rw [wr_id (by omega) (by omega)]; omega]
  simp only [Int.toNat_natCast]
  rw [scr_g h.1.2 (i := i + 1) (by omega), gd_t]
  rw [h.1.1.gx, gd_t, scr_v h.1.2 (i := i + 1) (by omega), h1, cI_s]
  rw [scr_g c1 (i := i + 1) (by omega), gd_t]
  rw [g1.gM, gd_t, scr_v c1 (i := i + 1) (by omega), h2, cI_s, if_pos rfl]
theorem lop_runOf {M : Mem} {i : Nat} (h : LIV L xs M) (hi : i + 6 ≤ L) (hL : L ≤ 3072) : ∃ M2, L_law_433 1 2 1269 (i : Int) M = L_law_884 1 2 1269 (i : Int) M2 ∧ LIV L xs M2 := by
  obtain ⟨v, M1, M2, h1, h2, ⟨g1, c1⟩, h3⟩ := OPP_runOf (xs (i + 1)) (xs (i + 2)) M h
  have h1 : D_runOf 2 (xs (i + 1)) (xs (i + 2)) M = some (some (.inl v), M1) := h1
  have h2 : M_runOf 1269 (xs (i + 1)) (xs (i + 2)) M1 = some (some (.inl v), M2) := h2
  refine ⟨M2, ?_, h3⟩
  rw [L_law_433_eq]
  rw [show wr ((i : Int) + 1) = ((i + 1 : Nat) : Int) by rw [wr_id (by omega) (by omega)]; omega]
  rw [show wr ((i : Int) + 2) = ((i + 2 : Nat) : Int) by rw [wr_id (by omega) (by omega)]; omega]
  simp only [Int.toNat_natCast]
  rw [scr_g h.1.2 (i := i + 1) (by omega), gd_t]
  rw [scr_g h.1.2 (i := i + 2) (by omega), gd_t]
  rw [h.1.1.gx, gd_t, scr_v h.1.2 (i := i + 1) (by omega), scr_v h.1.2 (i := i + 2) (by omega), h1, cI_s]
  rw [scr_g c1 (i := i + 1) (by omega), gd_t]
  rw [scr_g c1 (i := i + 2) (by omega), gd_t]
  rw [g1.gM, gd_t, scr_v c1 (i := i + 1) (by omega), scr_v c1 (i := i + 2) (by omega), h2, cI_s, if_pos rfl]
theorem lop_relation {M : Mem} {i : Nat} (h : LIV L xs M) (hi : i + 6 ≤ L) (hL : L ≤ 3072) : ∃ M2, L_law_466 1 2 1269 (i : Int) M = L_law_884 1 2 1269 (i : Int) M2 ∧ LIV L xs M2 := by
  obtain ⟨v, M1, M2, h1, h2, ⟨g1, c1⟩, h3⟩ := OPP_relation (xs (i + 1)) (xs (i + 2)) (xs (i + 3)) M h
  have h1 : D_relation 2 (xs (i + 1)) (xs (i + 2)) (xs (i + 3)) M = some (some (.inl v), M1) := h1
  have h2 : M_relation 1269 (xs (i + 1)) (xs (i + 2)) (xs (i + 3)) M1 = some (some (.inl v), M2) := h2
  refine ⟨M2, ?_, h3⟩
  rw [L_law_466_eq]
  rw [show wr ((i : Int) + 1) = ((i + 1 : Nat) : Int) by rw [wr_id (by omega) (by omega)]; omega]
  rw [show wr ((i : Int) + 2) = ((i + 2 : Nat) : Int) by rw [wr_id (by omega) (by omega)]; omega]
  rw [show wr ((i : Int) + 3) = ((i + 3 : Nat) : Int) by rw [wr_id (by omega) (by omega)]; omega]
  simp only [Int.toNat_natCast]
  rw [scr_g h.1.2 (i := i + 1) (by omega), gd_t]
  rw [scr_g h.1.2 (i := i + 2) (by omega), gd_t]
  rw [scr_g h.1.2 (i := i + 3) (by omega), gd_t]
  rw [h.1.1.gx, gd_t, scr_v h.1.2 (i := i + 1) (by omega), scr_v h.1.2 (i := i + 2) (by omega), scr_v h.1.2 (i := i + 3) (by omega), h1, cI_s]
  rw [scr_g c1 (i := i + 1) (by omega), gd_t]
  rw [scr_g c1 (i := i + 2) (by omega), gd_t]
  rw [scr_g c1 (i := i + 3) (by omega), gd_t]
  rw [g1.gM, gd_t, scr_v c1 (i := i + 1) (by omega), scr_v c1 (i := i + 2) (by omega), scr_v c1 (i := i + 3) (by omega), h2, cI_s, if_pos rfl]
theorem lop_common {M : Mem} {i : Nat} (h : LIV L xs M) (hi : i + 6 ≤ L) (hL : L ≤ 3072) : ∃ M2, L_law_509 1 2 1269 (i : Int) M = L_law_884 1 2 1269 (i : Int) M2 ∧ LIV L xs M2 := by
  obtain ⟨v, M1, M2, h1, h2, ⟨g1, c1⟩, h3⟩ := OPP_common (xs (i + 1)) (xs (i + 2)) M h
  have h1 : D_common 2 (xs (i + 1)) (xs (i + 2)) M = some (some (.inl v), M1) := h1
  have h2 : M_common 1269 (xs (i + 1)) (xs (i + 2)) M1 = some (some (.inl v), M2) := h2
  refine ⟨M2, ?_, h3⟩
  rw [L_law_509_eq]
  rw [show wr ((i : Int) + 1) = ((i + 1 : Nat) : Int) by rw [wr_id (by omega) (by omega)]; omega]
  rw [show wr ((i : Int) + 2) = ((i + 2 : Nat) : Int) by rw [wr_id (by omega) (by omega)]; omega]
  simp only [Int.toNat_natCast]
  rw [scr_g h.1.2 (i := i + 1) (by omega), gd_t]
  rw [scr_g h.1.2 (i := i + 2) (by omega), gd_t]
  rw [h.1.1.gx, gd_t, scr_v h.1.2 (i := i + 1) (by omega), scr_v h.1.2 (i := i + 2) (by omega), h1, cI_s]
  rw [scr_g c1 (i := i + 1) (by omega), gd_t]
  rw [scr_g c1 (i := i + 2) (by omega), gd_t]
  rw [g1.gM, gd_t, scr_v c1 (i := i + 1) (by omega), scr_v c1 (i := i + 2) (by omega), h2, cI_s, if_pos rfl]
theorem lop_commonOf {M : Mem} {i : Nat} (h : LIV L xs M) (hi : i + 6 ≤ L) (hL : L ≤ 3072) : ∃ M2, L_law_542 1 2 1269 (i : Int) M = L_law_884 1 2 1269 (i : Int) M2 ∧ LIV L xs M2 := by
  obtain ⟨v, M1, M2, h1, h2, ⟨g1, c1⟩, h3⟩ := OPP_commonOf (xs (i + 1)) (xs (i + 2)) (xs (i + 3)) M h
  have h1 : D_commonOf 2 (xs (i + 1)) (xs (i + 2)) (xs (i + 3)) M = some (some (.inl v), M1) := h1
  have h2 : M_commonOf 1269 (xs (i + 1)) (xs (i + 2)) (xs (i + 3)) M1 = some (some (.inl v), M2) := h2
  refine ⟨M2, ?_, h3⟩
  rw [L_law_542_eq]
  rw [show wr ((i : Int) + 1) = ((i + 1 : Nat) : Int) by rw [wr_id (by omega) (by omega)]; omega]
  rw [show wr ((i : Int) + 2) = ((i + 2 : Nat) : Int) by rw [wr_id (by omega) (by omega)]; omega]
  rw [show wr ((i : Int) + 3) = ((i + 3 : Nat) : Int) by rw [wr_id (by omega) (by omega)]; omega]
  simp only [Int.toNat_natCast]
  rw [scr_g h.1.2 (i := i + 1) (by omega), gd_t]
  rw [scr_g h.1.2 (i := i + 2) (by omega), gd_t]
  rw [scr_g h.1.2 (i := i + 3) (by omega), gd_t]
  rw [h.1.1.gx, gd_t, scr_v h.1.2 (i := i + 1) (by omega), scr_v h.1.2 (i := i + 2) (by omega), scr_v h.1.2 (i := i + 3) (by omega), h1, cI_s]
  rw [scr_g c1 (i := i + 1) (by omega), gd_t]
  rw [scr_g c1 (i := i + 2) (by omega), gd_t]
  rw [scr_g c1 (i := i + 3) (by omega), gd_t]
  rw [g1.gM, gd_t, scr_v c1 (i := i + 1) (by omega), scr_v c1 (i := i + 2) (by omega), scr_v c1 (i := i + 3) (by omega), h2, cI_s, if_pos rfl]
theorem lop_step {M : Mem} {i : Nat} (h : LIV L xs M) (hi : i + 6 ≤ L) (hL : L ≤ 3072) : ∃ M2, L_law_585 1 2 1269 (i : Int) M = L_law_884 1 2 1269 (i : Int) M2 ∧ LIV L xs M2 := by
  obtain ⟨v, M1, M2, h1, h2, ⟨g1, c1⟩, h3⟩ := OPP_step (xs (i + 1)) (xs (i + 2)) M h
  have h1 : D_step 2 (xs (i + 1)) (xs (i + 2)) M = some (some (.inl v), M1) := h1
  have h2 : M_step 1269 (xs (i + 1)) (xs (i + 2)) M1 = some (some (.inl v), M2) := h2
  refine ⟨M2, ?_, h3⟩
  rw [L_law_585_eq]
  rw [show wr ((i : Int) + 1) = ((i + 1 : Nat) : Int) by rw [wr_id (by omega) (by omega)]; omega]
  rw [show wr ((i : Int) + 2) = ((i + 2 : Nat) : Int) by rw [wr_id (by omega) (by omega)]; omega]
  simp only [Int.toNat_natCast]
  rw [scr_g h.1.2 (i := i + 1) (by omega), gd_t]
  rw [scr_g h.1.2 (i := i + 2) (by omega), gd_t]
  rw [h.1.1.gx, gd_t, scr_v h.1.2 (i := i + 1) (by omega), scr_v h.1.2 (i := i + 2) (by omega), h1, cI_s]
  rw [scr_g c1 (i := i + 1) (by omega), gd_t]
  rw [scr_g c1 (i := i + 2) (by omega), gd_t]
  rw [g1.gM, gd_t, scr_v c1 (i := i + 1) (by omega), scr_v c1 (i := i + 2) (by omega), h2, cI_s, if_pos rfl]
theorem lop_write {M : Mem} {i : Nat} (h : LIV L xs M) (hi : i + 6 ≤ L) (hL : L ≤ 3072) : ∃ M2, L_law_618 1 2 1269 (i : Int) M = L_law_884 1 2 1269 (i : Int) M2 ∧ LIV L xs M2 := by
  obtain ⟨v, M1, M2, h1, h2, ⟨g1, c1⟩, h3⟩ := OPP_write (xs (i + 1)) M h
  have h1 : D_write 2 (xs (i + 1)) M = some (some (.inl v), M1) := h1
  have h2 : M_write 1269 (xs (i + 1)) M1 = some (some (.inl v), M2) := h2
  refine ⟨M2, ?_, h3⟩
  rw [L_law_618_eq]
  rw [show wr ((i : Int) + 1) = ((i + 1 : Nat) : Int) by rw [wr_id (by omega) (by omega)]; omega]
  simp only [Int.toNat_natCast]
  rw [scr_g h.1.2 (i := i + 1) (by omega), gd_t]
  rw [h.1.1.gx, gd_t, scr_v h.1.2 (i := i + 1) (by omega), h1, cI_s]
  rw [scr_g c1 (i := i + 1) (by omega), gd_t]
  rw [g1.gM, gd_t, scr_v c1 (i := i + 1) (by omega), h2, cI_s, if_pos rfl]
theorem lop_of {M : Mem} {i : Nat} (h : LIV L xs M) (hi : i + 6 ≤ L) (hL : L ≤ 3072) : ∃ M2, L_law_641 1 2 1269 (i : Int) M = L_law_884 1 2 1269 (i : Int) M2 ∧ LIV L xs M2 := by
  obtain ⟨v, M1, M2, h1, h2, ⟨g1, c1⟩, h3⟩ := OPP_of (xs (i + 1)) (xs (i + 2)) M h
  have h1 : D_of 2 (xs (i + 1)) (xs (i + 2)) M = some (some (.inl v), M1) := h1
  have h2 : M_of 1269 (xs (i + 1)) (xs (i + 2)) M1 = some (some (.inl v), M2) := h2
  refine ⟨M2, ?_, h3⟩
  rw [L_law_641_eq]
  rw [show wr ((i : Int) + 1) = ((i + 1 : Nat) : Int) by rw [wr_id (by omega) (by omega)]; omega]
  rw [show wr ((i : Int) + 2) = ((i + 2 : Nat) : Int) by rw [wr_id (by omega) (by omega)]; omega]
  simp only [Int.toNat_natCast]
  rw [scr_g h.1.2 (i := i + 1) (by omega), gd_t]
  rw [scr_g h.1.2 (i := i + 2) (by omega), gd_t]
  rw [h.1.1.gx, gd_t, scr_v h.1.2 (i := i + 1) (by omega), scr_v h.1.2 (i := i + 2) (by omega), h1, cI_s]
  rw [scr_g c1 (i := i + 1) (by omega), gd_t]
  rw [scr_g c1 (i := i + 2) (by omega), gd_t]
  rw [g1.gM, gd_t, scr_v c1 (i := i + 1) (by omega), scr_v c1 (i := i + 2) (by omega), h2, cI_s, if_pos rfl]
theorem lop_drive {M : Mem} {i : Nat} (h : LIV L xs M) (hi : i + 6 ≤ L) (hL : L ≤ 3072) : ∃ M2, L_law_674 1 2 1269 (i : Int) M = L_law_884 1 2 1269 (i : Int) M2 ∧ LIV L xs M2 := by
  obtain ⟨v, M1, M2, h1, h2, ⟨g1, c1⟩, h3⟩ := OPP_drive M h
  have h1 : D_drive 2 M = some (some (.inl v), M1) := h1
  have h2 : M_drive 1269 M1 = some (some (.inl v), M2) := h2
  refine ⟨M2, ?_, h3⟩
  rw [L_law_674_eq, h.1.1.gx, gd_t, h1, cI_s, g1.gM, gd_t, h2, cI_s, if_pos rfl]
theorem lop_tree {M : Mem} {i : Nat} (h : LIV L xs M) (hi : i + 6 ≤ L) (hL : L ≤ 3072) : ∃ M2, L_law_687 1 2 1269 (i : Int) M = L_law_884 1 2 1269 (i : Int) M2 ∧ LIV L xs M2 := by
  obtain ⟨v, M1, M2, h1, h2, ⟨g1, c1⟩, h3⟩ := OPP_tree (xs (i + 1)) M h
  have h1 : D_tree 2 (xs (i + 1)) M = some (some (.inl v), M1) := h1
  have h2 : M_tree 1269 (xs (i + 1)) M1 = some (some (.inl v), M2) := h2
  refine ⟨M2, ?_, h3⟩
  rw [L_law_687_eq]
  rw [show wr ((i : Int) + 1) = ((i + 1 : Nat) : Int) by rw [wr_id (by omega) (by omega)]; omega]
  simp only [Int.toNat_natCast]
  rw [scr_g h.1.2 (i := i + 1) (by omega), gd_t]
  rw [h.1.1.gx, gd_t, scr_v h.1.2 (i := i + 1) (by omega), h1, cI_s]
  rw [scr_g c1 (i := i + 1) (by omega), gd_t]
  rw [g1.gM, gd_t, scr_v c1 (i := i + 1) (by omega), h2, cI_s, if_pos rfl]
theorem lop_node {M : Mem} {i : Nat} (h : LIV L xs M) (hi : i + 6 ≤ L) (hL : L ≤ 3072) : ∃ M2, L_law_710 1 2 1269 (i : Int) M = L_law_884 1 2 1269 (i : Int) M2 ∧ LIV L xs M2 := by
  obtain ⟨v, M1, M2, h1, h2, ⟨g1, c1⟩, h3⟩ := OPP_node (xs (i + 1)) (xs (i + 2)) M h
  have h1 : D_node 2 (xs (i + 1)) (xs (i + 2)) M = some (some (.inl v), M1) := h1
  have h2 : M_node 1269 (xs (i + 1)) (xs (i + 2)) M1 = some (some (.inl v), M2) := h2
  refine ⟨M2, ?_, h3⟩
  rw [L_law_710_eq]
  rw [show wr ((i : Int) + 1) = ((i + 1 : Nat) : Int) by rw [wr_id (by omega) (by omega)]; omega]
  rw [show wr ((i : Int) + 2) = ((i + 2 : Nat) : Int) by rw [wr_id (by omega) (by omega)]; omega]
  simp only [Int.toNat_natCast]
  rw [scr_g h.1.2 (i := i + 1) (by omega), gd_t]
  rw [scr_g h.1.2 (i := i + 2) (by omega), gd_t]
  rw [h.1.1.gx, gd_t, scr_v h.1.2 (i := i + 1) (by omega), scr_v h.1.2 (i := i + 2) (by omega), h1, cI_s]
  rw [scr_g c1 (i := i + 1) (by omega), gd_t]
  rw [scr_g c1 (i := i + 2) (by omega), gd_t]
  rw [g1.gM, gd_t, scr_v c1 (i := i + 1) (by omega), scr_v c1 (i := i + 2) (by omega), h2, cI_s, if_pos rfl]
theorem lop_writeNode {M : Mem} {i : Nat} (h : LIV L xs M) (hi : i + 6 ≤ L) (hL : L ≤ 3072) : ∃ M2, L_law_743 1 2 1269 (i : Int) M = L_law_884 1 2 1269 (i : Int) M2 ∧ LIV L xs M2 := by
  obtain ⟨v, M1, M2, h1, h2, ⟨g1, c1⟩, h3⟩ := OPP_writeNode (xs (i + 1)) M h
  have h1 : D_writeNode 2 (xs (i + 1)) M = some (some (.inl v), M1) := h1
  have h2 : M_writeNode 1269 (xs (i + 1)) M1 = some (some (.inl v), M2) := h2
  refine ⟨M2, ?_, h3⟩
  rw [L_law_743_eq]
  rw [show wr ((i : Int) + 1) = ((i + 1 : Nat) : Int) by rw [wr_id (by omega) (by omega)]; omega]
  simp only [Int.toNat_natCast]
  rw [scr_g h.1.2 (i := i + 1) (by omega), gd_t]
  rw [h.1.1.gx, gd_t, scr_v h.1.2 (i := i + 1) (by omega), h1, cI_s]
  rw [scr_g c1 (i := i + 1) (by omega), gd_t]
  rw [g1.gM, gd_t, scr_v c1 (i := i + 1) (by omega), h2, cI_s, if_pos rfl]
theorem lop_ranked {M : Mem} {i : Nat} (h : LIV L xs M) (hi : i + 6 ≤ L) (hL : L ≤ 3072) : ∃ M2, L_law_766 1 2 1269 (i : Int) M = L_law_884 1 2 1269 (i : Int) M2 ∧ LIV L xs M2 := by
  obtain ⟨v, M1, M2, h1, h2, ⟨g1, c1⟩, h3⟩ := OPP_ranked (xs (i + 1)) (xs (i + 2)) M h
  have h1 : D_ranked 2 (xs (i + 1)) (xs (i + 2)) M = some (some (.inl v), M1) := h1
  have h2 : M_ranked 1269 (xs (i + 1)) (xs (i + 2)) M1 = some (some (.inl v), M2) := h2
  refine ⟨M2, ?_, h3⟩
  rw [L_law_766_eq]
  rw [show wr ((i : Int) + 1) = ((i + 1 : Nat) : Int) by rw [wr_id (by omega) (by omega)]; omega]
  rw [show wr ((i : Int) + 2) = ((i + 2 : Nat) : Int) by rw [wr_id (by omega) (by omega)]; omega]
  simp only [Int.toNat_natCast]
  rw [scr_g h.1.2 (i := i + 1) (by omega), gd_t]
  rw [scr_g h.1.2 (i := i + 2) (by omega), gd_t]
  rw [h.1.1.gx, gd_t, scr_v h.1.2 (i := i + 1) (by omega), scr_v h.1.2 (i := i + 2) (by omega), h1, cI_s]
  rw [scr_g c1 (i := i + 1) (by omega), gd_t]
  rw [scr_g c1 (i := i + 2) (by omega), gd_t]
  rw [g1.gM, gd_t, scr_v c1 (i := i + 1) (by omega), scr_v c1 (i := i + 2) (by omega), h2, cI_s, if_pos rfl]
theorem lop_text {M : Mem} {i : Nat} (h : LIV L xs M) (hi : i + 6 ≤ L) (hL : L ≤ 3072) : ∃ M2, L_law_799 1 2 1269 (i : Int) M = L_law_884 1 2 1269 (i : Int) M2 ∧ LIV L xs M2 := by
  obtain ⟨v, M1, M2, h1, h2, ⟨g1, c1⟩, h3⟩ := OPP_text (xs (i + 1)) M h
  have h1 : D_text 2 (xs (i + 1)) M = some (some (.inl v), M1) := h1
  have h2 : M_text 1269 (xs (i + 1)) M1 = some (some (.inl v), M2) := h2
  refine ⟨M2, ?_, h3⟩
  rw [L_law_799_eq]
  rw [show wr ((i : Int) + 1) = ((i + 1 : Nat) : Int) by rw [wr_id (by omega) (by omega)]; omega]
  simp only [Int.toNat_natCast]
  rw [scr_g h.1.2 (i := i + 1) (by omega), gd_t]
  rw [h.1.1.gx, gd_t, scr_v h.1.2 (i := i + 1) (by omega), h1, cI_s]
  rw [scr_g c1 (i := i + 1) (by omega), gd_t]
  rw [g1.gM, gd_t, scr_v c1 (i := i + 1) (by omega), h2, cI_s, if_pos rfl]
theorem lop_octet {M : Mem} {i : Nat} (h : LIV L xs M) (hi : i + 6 ≤ L) (hL : L ≤ 3072) : ∃ M2, L_law_822 1 2 1269 (i : Int) M = L_law_884 1 2 1269 (i : Int) M2 ∧ LIV L xs M2 := by
  obtain ⟨v, M1, M2, h1, h2, ⟨g1, c1⟩, h3⟩ := OPP_octet (xs (i + 1)) M h
  have h1 : D_octet 2 (xs (i + 1)) M = some (some (.inl v), M1) := h1
  have h2 : M_octet 1269 (xs (i + 1)) M1 = some (some (.inl v), M2) := h2
  refine ⟨M2, ?_, h3⟩
  rw [L_law_822_eq]
  rw [show wr ((i : Int) + 1) = ((i + 1 : Nat) : Int) by rw [wr_id (by omega) (by omega)]; omega]
  simp only [Int.toNat_natCast]
  rw [scr_g h.1.2 (i := i + 1) (by omega), gd_t]
  rw [h.1.1.gx, gd_t, scr_v h.1.2 (i := i + 1) (by omega), h1, cI_s]
  rw [scr_g c1 (i := i + 1) (by omega), gd_t]
  rw [g1.gM, gd_t, scr_v c1 (i := i + 1) (by omega), h2, cI_s, if_pos rfl]
theorem lop_take {M : Mem} {i : Nat} (h : LIV L xs M) (hi : i + 6 ≤ L) (hL : L ≤ 3072) : ∃ M2, L_law_845 1 2 1269 (i : Int) M = L_law_884 1 2 1269 (i : Int) M2 ∧ LIV L xs M2 := by
  obtain ⟨v, M1, M2, h1, h2, ⟨g1, c1⟩, h3⟩ := OPP_take M h
  have h1 : D_take 2 M = some (some (.inl v), M1) := h1
  have h2 : M_take 1269 M1 = some (some (.inl v), M2) := h2
  refine ⟨M2, ?_, h3⟩
  rw [L_law_845_eq, h.1.1.gx, gd_t, h1, cI_s, g1.gM, gd_t, h2, cI_s, if_pos rfl]
theorem lop_saved {M : Mem} {i : Nat} (h : LIV L xs M) (hi : i + 6 ≤ L) (hL : L ≤ 3072) : ∃ M2, L_law_858 1 2 1269 (i : Int) M = L_law_884 1 2 1269 (i : Int) M2 ∧ LIV L xs M2 := by
  obtain ⟨v, M1, M2, h1, h2, ⟨g1, c1⟩, h3⟩ := OPP_saved M h
  have h1 : D_saved 2 M = some (some (.inl v), M1) := h1
  have h2 : M_saved 1269 M1 = some (some (.inl v), M2) := h2
  refine ⟨M2, ?_, h3⟩
  rw [L_law_858_eq, h.1.1.gx, gd_t, h1, cI_s, g1.gM, gd_t, h2, cI_s, if_pos rfl]
theorem lop_deepest {M : Mem} {i : Nat} (h : LIV L xs M) (hi : i + 6 ≤ L) (hL : L ≤ 3072) : ∃ M2, L_law_871 1 2 1269 (i : Int) M = L_law_884 1 2 1269 (i : Int) M2 ∧ LIV L xs M2 := by
  obtain ⟨v, M1, M2, h1, h2, ⟨g1, c1⟩, h3⟩ := OPP_deepest M h
  have h1 : D_deepest 2 M = some (some (.inl v), M1) := h1
  have h2 : M_deepest 1269 M1 = some (some (.inl v), M2) := h2
  refine ⟨M2, ?_, h3⟩
  rw [L_law_871_eq, h.1.1.gx, gd_t, h1, cI_s, g1.gM, gd_t, h2, cI_s, if_pos rfl]
theorem law_turn {M : Mem} {i : Nat} (h : LIV L xs M) (hi : i + 6 ≤ L) (hL : L ≤ 3072) : ∃ M2, L_law_18 1 2 1269 (i : Int) M = L_law_18 1 2 1269 ((i + 6 : Nat) : Int) M2 ∧ LIV L xs M2 := by
  have al : alen M 1 = L := by unfold alen; rw [h.1.2.1]
  have w6 : wr ((i : Int) + 6) = ((i + 6 : Nat) : Int) := by rw [wr_id (by omega) (by omega)]; omega
  have nx : ∀ M2, L_law_884 1 2 1269 (i : Int) M2 = L_law_18 1 2 1269 ((i + 6 : Nat) : Int) M2 := fun M2 => by rw [L_law_884_eq, w6]
  have go : ∀ (p : Res), (∃ M2, p = L_law_884 1 2 1269 (i : Int) M2 ∧ LIV L xs M2) → ∃ M2, p = L_law_18 1 2 1269 ((i + 6 : Nat) : Int) M2 ∧ LIV L xs M2 := fun p h => by
    obtain ⟨M2, h1, h2⟩ := h
    exact ⟨M2, h1.trans (nx M2), h2⟩
  rw [L_law_18_eq, scr_l, gd_t, al, if_neg (by rw [wr_id (by omega) (by omega)]; omega), scr_g h.1.2 (by omega : i < L), gd_t]
  generalize pand (mI M 1 (Int.toNat (i : Int))) 31 = c
  apply go
  by_cases q0 : c = 0
  · rw [if_pos q0]; exact lop_feed h hi hL
  rw [if_neg q0]
  by_cases q1 : c = 1
  · rw [if_pos q1]; exact lop_end h hi hL
  rw [if_neg q1]
  by_cases q2 : c = 2
  · rw [if_pos q2]; exact lop_program h hi hL
  rw [if_neg q2]
  by_cases q3 : c = 3
  · rw [if_pos q3]; exact lop_goal h hi hL
  rw [if_neg q3]
  by_cases q4 : c = 4
  · rw [if_pos q4]; exact lop_bind h hi hL
  rw [if_neg q4]
  by_cases q5 : c = 5
  · rw [if_pos q5]; exact lop_expression h hi hL
  rw [if_neg q5]
  by_cases q6 : c = 6
  · rw [if_pos q6]; exact lop_fault h hi hL
  rw [if_neg q6]
  by_cases q7 : c = 7
  · rw [if_pos q7]; exact lop_is h hi hL
  rw [if_neg q7]
  by_cases q8 : c = 8
  · rw [if_pos q8]; exact lop_clause h hi hL
  rw [if_neg q8]
  by_cases q9 : c = 9
  · rw [if_pos q9]; exact lop_run h hi hL
  rw [if_neg q9]
  by_cases q10 : c = 10
  · rw [if_pos q10]; exact lop_result h hi hL
  rw [if_neg q10]
  by_cases q11 : c = 11
  · rw [if_pos q11]; exact lop_runOf h hi hL
  rw [if_neg q11]
  by_cases q12 : c = 12
  · rw [if_pos q12]; exact lop_relation h hi hL
  rw [if_neg q12]
  by_cases q13 : c = 13
  · rw [if_pos q13]; exact lop_common h hi hL
  rw [if_neg q13]
  by_cases q14 : c = 14
  · rw [if_pos q14]; exact lop_commonOf h hi hL
  rw [if_neg q14]
  by_cases q15 : c = 15
  · rw [if_pos q15]; exact lop_step h hi hL
  rw [if_neg q15]
  by_cases q16 : c = 16
  · rw [if_pos q16]; exact lop_write h hi hL
  rw [if_neg q16]
  by_cases q17 : c = 17
  · rw [if_pos q17]; exact lop_of h hi hL
  rw [if_neg q17]
  by_cases q18 : c = 18
  · rw [if_pos q18]; exact lop_drive h hi hL
  rw [if_neg q18]
  by_cases q19 : c = 19
  · rw [if_pos q19]; exact lop_tree h hi hL
  rw [if_neg q19]
  by_cases q20 : c = 20
  · rw [if_pos q20]; exact lop_node h hi hL
  rw [if_neg q20]
  by_cases q21 : c = 21
  · rw [if_pos q21]; exact lop_writeNode h hi hL
  rw [if_neg q21]
  by_cases q22 : c = 22
  · rw [if_pos q22]; exact lop_ranked h hi hL
  rw [if_neg q22]
  by_cases q23 : c = 23
  · rw [if_pos q23]; exact lop_text h hi hL
  rw [if_neg q23]
  by_cases q24 : c = 24
  · rw [if_pos q24]; exact lop_octet h hi hL
  rw [if_neg q24]
  by_cases q25 : c = 25
  · rw [if_pos q25]; exact lop_take h hi hL
  rw [if_neg q25]
  by_cases q26 : c = 26
  · rw [if_pos q26]; exact lop_saved h hi hL
  rw [if_neg q26]
  by_cases q27 : c = 27
  · rw [if_pos q27]; exact lop_deepest h hi hL
  rw [if_neg q27]
  exact ⟨M, rfl, h⟩
theorem law_loop (hL : L ≤ 3072) : ∀ (t i : Nat) (M : Mem), L - i = t → i ≤ L + 6 → LIV L xs M → ∃ M2, L_law_18 1 2 1269 (i : Int) M = some (some (.inl 1), M2) ∧ LIV L xs M2 := by
  intro t
  induction t using Nat.strongRecOn with
  | _ t ih =>
    intro i M ht hi h
    by_cases q : i + 6 ≤ L
    · obtain ⟨M1, h1, h2⟩ := law_turn h q hL
      obtain ⟨M2, h3, h4⟩ := ih (L - (i + 6)) (by omega) (i + 6) M1 rfl (by omega) h2
      exact ⟨M2, h1.trans h3, h4⟩
    · have al : alen M 1 = L := by unfold alen; rw [h.1.2.1]
      refine ⟨M, ?_, h⟩
      rw [L_law_18_eq, scr_l, gd_t, al, if_pos (by rw [wr_id (by omega) (by omega)]; omega)]
theorem law_all (hL : L ≤ 3072) : ∃ M2, L_law 1 (M00 L xs) = some (some (.inl 1), M2) ∧ mN M2 ≤ 600002 ∧ mS M2 ≤ 7302249 := by
  obtain ⟨M1, h1, hG, hS, hC, hR⟩ := law_start (L := L) (xs := xs)
  have v50 : xok [50331648] := ⟨⟨wf_one (by decide), fun c hc => by rw [List.mem_singleton.mp hc]; exact vc_stuck, by decide⟩, fun c hc hk => by
    rw [List.mem_singleton.mp hc] at hk
    exact absurd hk (by decide)⟩
  have pv : PVL [] [] [50331648] (fun _ => [50331648]) 0 := by
    refine ⟨⟨fun z hz => absurd hz List.not_mem_nil, fun i j y z _ hy => (by cases hy), Nat.zero_le _⟩, ⟨⟨fun q hq => absurd hq List.not_mem_nil, by decide, by decide⟩, ⟨⟨v50.1.1, v50.1.2.1, by decide⟩, v50.2⟩, fun i hi => v50⟩, Or.inl rfl⟩
  have hI : LIV L xs M1 := by
    refine ⟨⟨hG, hS⟩, [], [], [], [], [50331648], [], fun _ => [50331648], -1, 0, [], 0, ⟨hC, fun hd => absurd rfl hd⟩, ?_, pv⟩
    obtain ⟨⟨a1, a2, a3, a4⟩, ⟨a5, a6, a7⟩, ⟨a8, a9⟩, b1⟩ := hR
    exact ⟨⟨⟨a1, a2, a4⟩, ⟨a5, a7⟩, ⟨a8, a9⟩, b1⟩, fun hd => absurd rfl hd⟩
  obtain ⟨M2, h2, h3⟩ := law_loop hL L 0 M1 rfl (by omega) hI
  refine ⟨M2, h1.trans h2, ?_, ?_⟩
  · rw [h3.1.1.1.1.1]; decide
  · rw [h3.1.1.1.1.2]; decide
end LAWL

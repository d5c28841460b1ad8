/-! ===== texts of programs ===== -/
def cvB : List Int → List Int
  | [] => []
  | v :: vs => 44 :: (nmB 109 v ++ cvB vs)
def vsB : List Int → List Int
  | [] => []
  | v :: vs => nmB 109 v ++ cvB vs
def lfB (z : Clz) : List Int := nmB 97 (sy z.1) ++ (40 :: ((if z.2.1 = -1 then vsB z.2.2.1 else (65 + sy z.2.1) :: ((if 0 < arN z.2.1 then 40 :: (vsB (z.2.2.1.take (arN z.2.1)) ++ [41]) else []) ++ cvB (z.2.2.1.drop (arN z.2.1)))) ++ [41]))
def clsB (z : Clz) : List Int := lfB z ++ (61 :: (wtx z.2.2.2 [] ++ [59]))
def pgB : List Clz → List Int
  | [] => []
  | z :: zs => clsB z ++ pgB zs
theorem cvB_len : ∀ vs : List Int, (cvB vs).length ≤ 4 * vs.length := by
  intro vs
  induction vs with
  | nil => decide
  | cons v vs ih =>
    unfold cvB
    have := @nmB_len 109 v
    simp only [List.length_cons, List.length_append]
    omega
theorem vsB_len (vs : List Int) : (vsB vs).length ≤ 4 * vs.length := by
  cases vs with
  | nil => decide
  | cons v vs =>
    unfold vsB
    have := @nmB_len 109 v
    have := cvB_len vs
    simp only [List.length_cons, List.length_append]
    omega
theorem lfB_len {n : Nat} {z : Clz} (h : zok n z) : (lfB z).length ≤ 60 := by
  have h1 := h.2.2.1.2.1
  have h2 := @nmB_len 97 (sy z.1)
  unfold lfB
  simp only [List.length_cons, List.length_append, List.length_nil]
  split
  · have := vsB_len z.2.2.1
    omega
  · have h3 := cvB_len (z.2.2.1.drop (arN z.2.1))
    have h4 := vsB_len (z.2.2.1.take (arN z.2.1))
    have h5 : (z.2.2.1.drop (arN z.2.1)).length = z.2.2.1.length - arN z.2.1 := List.length_drop
    have h6 : (z.2.2.1.take (arN z.2.1)).length = min (arN z.2.1) z.2.2.1.length := List.length_take
    simp only [List.length_cons, List.length_append]
    split
    · simp only [List.length_cons, List.length_append, List.length_nil]
      omega
    · simp only [List.length_nil]
      omega
theorem clsB_len {n : Nat} (hn : n ≤ 100) {z : Clz} (h : zok n z) : (clsB z).length ≤ 662 := by
  have h1 := lfB_len h
  have h2 := wtx_len z.2.2.2 []
  have h3 := h.2.2.2.1.2.2
  unfold clsB
  simp only [List.length_cons, List.length_append, List.length_nil] at *
  omega
section WPROGC
variable {M : Mem} {ws : List Int} {c : Nat} {z : Clz} {zs ns : List Clz}
theorem lvs_n {vs : List Int} (h : lvs vs) {i : Nat} (hi : i < vs.length) : 0 ≤ nth vs i ∧ nth vs i < 1414 := h _ (nth_mem hi)
theorem CLc.wc (h : CLc M c z) (hc : 11 < c) {M1 : Mem} (f : Fj wcL M M1) : CLc M1 c z := h.fj f fun a k q => by unfold cS at q; unfold wcL wcS; omega
/-- VARS behind the first of a list -/
theorem Wr_putVars_tail (hc : 11 < c) (hz : lvs z.2.2.1) {s t : Nat} (ht : t ≤ z.2.2.1.length) : ∀ (k i : Nat) (M : Mem) (ws : List Int), t - i = k → i ≤ t → s < i → Good M → CLc M c z → TXc M ws → ws.length + 4 * k ≤ 73728 → ∃ M', Wr_putVars_3 9 c (s : Int) (t : Int) (i : Int) M = some (none, M') ∧ TXc M' (ws ++ cvB ((z.2.2.1.take t).drop i)) ∧ Fj wcS M M' := by
  intro k
  induction k with
  | zero =>
    intro i M ws h1 h2 h3 hG hC hT hl
    rw [Wr_putVars_3_eq, if_neg (by omega), List.drop_eq_nil_of_le (by rw [List.length_take]; omega)]
    refine ⟨M, rfl, ?_, Fj.refl⟩
    show TXc M (ws ++ [])
    rw [List.append_nil]; exact hT
  | succ k ih =>
    intro i M ws h1 h2 h3 hG hC hT hl
    have hvl := hC.2.1.2.2
    have hi : i < z.2.2.1.length := by omega
    have hv := lvs_n hz hi
    have hlt : i < (z.2.2.1.take t).length := by rw [List.length_take]; omega
    obtain ⟨M1, a1, a2, a3⟩ := Wr_put_s hG hT (v := 44) (by omega) (by decide)
    have hG1 := hG.fj a3
    have hC1 := hC.wc hc (a3.mono fun a k q => Or.inl q)
    obtain ⟨M2, b1, b2, b3⟩ := Wr_putName_s hG1 a2 (f := 109) (n := nth z.2.2.1 i) (by rw [List.length_append, List.length_singleton]; omega) (by decide) (by omega)
    have hG2 := hG1.fj b3
    have hC2 := hC1.wc hc (b3.mono fun a k q => Or.inl q)
    have hn3 := @nmB_len 109 (nth z.2.2.1 i)
    obtain ⟨M3, c1, c2, c3⟩ := ih (i + 1) M2 _ (by omega) (by omega) (by omega) hG2 hC2 b2 (by simp only [List.length_append, List.length_cons, List.length_nil]; omega)
    have hcell : mI M1 (c + 1) i = nth z.2.2.1 i := by have := hC1.2.1.2.1 i hi; rwa [Nat.zero_add] at this
    rw [Wr_putVars_3_eq, if_pos (by omega), hC.g hG, gd_t, (hC.r hG).1, hG.tgL hC.1.1.2.1 (by decide), gd_t, hG.len hC.1.1.2.1, if_pos (by omega), if_pos (by omega), hG.gW, gd_t, a1, cV_s, hC1.g hG1, gd_t, (hC1.r hG1).1, hG1.tgS hC.1.1.2.1 (by omega) (by omega), gd_t, hG1.gW, gd_t, toNat_n, hcell, b1, cV_s, wr_s (by omega), drop_cons hlt, nth_take (by omega)]
    refine ⟨M3, c1, ?_, (a3.trans b3).trans c3⟩
    rw [List.append_assoc, List.append_assoc] at c2
    exact c2
theorem Wr_putVars_s (hc : 11 < c) (hz : lvs z.2.2.1) {s t : Nat} (hst : s ≤ t) (ht : t ≤ z.2.2.1.length) (hG : Good M) (hC : CLc M c z) (hT : TXc M ws) (hl : ws.length + 48 ≤ 73728) : ∃ M', Wr_putVars 9 c (s : Int) (t : Int) M = some (none, M') ∧ TXc M' (ws ++ vsB ((z.2.2.1.take t).drop s)) ∧ Fj wcS M M' := by
  have hvl := hC.2.1.2.2
  rw [Wr_putVars_eq]
  by_cases h : s < t
  · have hi : s < z.2.2.1.length := by omega
    have hv := lvs_n hz hi
    have hlt : s < (z.2.2.1.take t).length := by rw [List.length_take]; omega
    obtain ⟨M2, b1, b2, b3⟩ := Wr_putName_s hG hT (f := 109) (n := nth z.2.2.1 s) (by omega) (by decide) (by omega)
    have hG2 := hG.fj b3
    have hC2 := hC.wc hc (b3.mono fun a k q => Or.inl q)
    have hn3 := @nmB_len 109 (nth z.2.2.1 s)
    obtain ⟨M3, c1, c2, c3⟩ := Wr_putVars_tail hc hz ht (s := s) _ (s + 1) M2 _ rfl (by omega) (by omega) hG2 hC2 b2 (by simp only [List.length_append]; omega)
    have hcell : mI M (c + 1) s = nth z.2.2.1 s := by have := hC.2.1.2.1 s hi; rwa [Nat.zero_add] at this
    rw [Wr_putVars_3_eq, if_pos (by omega), hC.g hG, gd_t, (hC.r hG).1, hG.tgL hC.1.1.2.1 (by decide), gd_t, hG.len hC.1.1.2.1, if_pos (by omega), if_neg (by omega), gd_t, hG.tgS hC.1.1.2.1 (by omega) (by omega), gd_t, hG.gW, gd_t, toNat_n, hcell, b1, cV_s, wr_s (by omega), drop_cons hlt, nth_take (by omega)]
    refine ⟨M3, c1, ?_, b3.trans c3⟩
    rw [List.append_assoc] at c2
    exact c2
  · rw [Wr_putVars_3_eq, if_neg (by omega), List.drop_eq_nil_of_le (by rw [List.length_take]; omega)]
    refine ⟨M, rfl, ?_, Fj.refl⟩
    show TXc M (ws ++ [])
    rw [List.append_nil]; exact hT
theorem vs_take (vs : List Int) : vs.take vs.length = vs := List.take_length
theorem cvB_vs {vs : List Int} (h : vs ≠ []) : cvB vs = 44 :: vsB vs := by
  cases vs with
  | nil => exact absurd rfl h
  | cons v vs => rfl
theorem Wr_putLeft_s (hc : 11 < c) (hG : Good M) (hC : CLc M c z) {n : Nat} (hz : zok n z) (hT : TXc M ws) (hl : ws.length + 200 ≤ 73728) : ∃ M', Wr_putLeft 9 c M = some (none, M') ∧ TXc M' (ws ++ lfB z) ∧ Fj wcS M M' := by
  obtain ⟨⟨z1, z2⟩, z3, ⟨z4, z5, z6, z7⟩, -⟩ := hz
  have h12 := (z1.2.2.2.1 z2).2
  have hsy : 0 ≤ sy z.1 := by unfold sy; omega
  -- the end of a left side
  have fin : ∀ (M1 : Mem) (w1 : List Int) (s : Nat), Good M1 → CLc M1 c z → TXc M1 w1 → w1.length + 60 ≤ 73728 → s ≤ z.2.2.1.length → ∃ M', Wr_putLeft_96 9 c (s : Int) M1 = some (none, M') ∧ TXc M' (w1 ++ (vsB (z.2.2.1.drop s) ++ [41])) ∧ Fj wcS M1 M' := by
    intro M1 w1 s hG1 hC1 hT1 hl1 hs
    obtain ⟨M2, b1, b2, b3⟩ := Wr_putVars_s hc z4 hs (Nat.le_refl _) hG1 hC1 hT1 (by omega)
    have hG2 := hG1.fj b3
    rw [vs_take] at b2
    have hvb := vsB_len (z.2.2.1.drop s)
    have hdl : (z.2.2.1.drop s).length = z.2.2.1.length - s := List.length_drop
    obtain ⟨M3, c1, c2, c3⟩ := Wr_put_s hG2 b2 (v := 41) (by rw [List.length_append]; omega) (by decide)
    rw [Wr_putLeft_96_eq, hC1.g hG1, gd_t, hG1.gW, gd_t, hC1.2.1.1, b1, cV_s, hG2.gW, gd_t, c1, cV_s]
    refine ⟨M3, rfl, ?_, b3.trans c3⟩
    rw [List.append_assoc] at c2
    exact c2
  obtain ⟨M1, a1, a2, a3⟩ := Wr_putName_s hG hT (f := 97) (n := sy z.1) (by omega) (by decide) (by omega)
  have hG1 := hG.fj a3
  have hn3 := @nmB_len 97 (sy z.1)
  obtain ⟨M2, b1, b2, b3⟩ := Wr_put_s hG1 a2 (v := 40) (by rw [List.length_append]; omega) (by decide)
  have hG2 := hG1.fj b3
  have hC2 : CLc M2 c z := hC.wc hc ((a3.trans b3).mono fun a k q => Or.inl q)
  have hl2 : ((ws ++ nmB 97 (sy z.1)) ++ [40]).length ≤ ws.length + 4 := by simp only [List.length_append, List.length_cons, List.length_nil]; omega
  have p18 : ∀ (is0 : Int) (d : LV), Wr_putLeft_18 9 c is0 d M = gd (gO M2 c 1) (cI (Cl_isCase c M2) fun r6 M5 => if r6 = 0 then (Wr_putLeft_96 9 c is0 M5) else (gd (gO M5 c 1) (cI (Ex_symbol (mI M5 c 4) M5) fun r8 M7 => gd (gO M7 9 10) (cV (Wr_put 9 (wr (65 + r8)) M7) fun M9 => if 0 < is0 then (gd (gO M9 9 10) (cV (Wr_put 9 40 M9) fun M10 => gd (gO M10 9 10) (cV (Wr_putVars 9 c 0 is0 M10) fun M11 => gd (gO M11 9 10) (cV (Wr_put 9 41 M11) fun M12 => gd (gO M12 c 1) (if is0 < (mI M12 c 2) then (gd (gO M12 9 10) (cV (Wr_put 9 44 M12) fun M13 => Wr_putLeft_96 9 c is0 M13)) else (Wr_putLeft_96 9 c is0 M12)))))) else (gd (gO M9 c 1) (if is0 < (mI M9 c 2) then (gd (gO M9 9 10) (cV (Wr_put 9 44 M9) fun M14 => Wr_putLeft_96 9 c is0 M14)) else (Wr_putLeft_96 9 c is0 M9))))))) := by
    intro is0 d
    rw [Wr_putLeft_18_eq, hC.g hG, gd_t, hC.1.2.1, Ex_symbol_s, cI_s, hG.gW, gd_t, a1, cV_s, hG1.gW, gd_t, b1, cV_s]
  unfold lfB
  rw [Wr_putLeft_eq, hC.g hG, gd_t, Cl_isCase_s hG hC, cI_s]
  by_cases hcon : z.2.1 = -1
  · obtain ⟨M3, c1, c2, c3⟩ := fin M2 _ 0 hG2 hC2 b2 (by omega) (Nat.zero_le _)
    rw [if_pos hcon, if_pos rfl, if_pos hcon, p18, hC2.g hG2, gd_t, Cl_isCase_s hG2 hC2, cI_s, if_pos hcon, if_pos rfl]
    refine ⟨M3, c1, ?_, (a3.trans b3).trans c3⟩
    rw [List.append_assoc, List.append_assoc, List.drop_zero] at c2
    exact c2
  · obtain ⟨c1, c2⟩ := z3.resolve_left hcon
    obtain ⟨z8, z9⟩ := z7 hcon
    have h26 := (c1.2.2.1 c2)
    have hal := arN_ar z.2.1
    have hcs : 0 ≤ sy z.2.1 := by unfold sy; omega
    obtain ⟨M3, d1, d2, d3⟩ := Wr_put_s hG2 b2 (v := 65 + sy z.2.1) (by omega) (by omega)
    have hG3 := hG2.fj d3
    have hC3 : CLc M3 c z := hC2.wc hc (d3.mono fun a k q => Or.inl q)
    have hl3 : ((ws ++ nmB 97 (sy z.1)) ++ [40] ++ [65 + sy z.2.1]).length ≤ ws.length + 5 := by rw [List.length_append, List.length_singleton]; omega
    -- a comma and what is left
    have comma : ∀ (M4 : Mem) (w4 : List Int), Good M4 → CLc M4 c z → TXc M4 w4 → w4.length + 61 ≤ 73728 → ∃ M', gd (gO M4 c 1) (if (arN z.2.1 : Int) < (mI M4 c 2) then (gd (gO M4 9 10) (cV (Wr_put 9 44 M4) fun M13 => Wr_putLeft_96 9 c (arN z.2.1 : Int) M13)) else (Wr_putLeft_96 9 c (arN z.2.1 : Int) M4)) = some (none, M') ∧ TXc M' (w4 ++ (cvB (z.2.2.1.drop (arN z.2.1)) ++ [41])) ∧ Fj wcS M4 M' := by
      intro M4 w4 hG4 hC4 hT4 hl4
      rw [hC4.g hG4, gd_t, hC4.2.1.1]
      by_cases h : arN z.2.1 < z.2.2.1.length
      · obtain ⟨M5, e1, e2, e3⟩ := Wr_put_s hG4 hT4 (v := 44) (by omega) (by decide)
        have hG5 := hG4.fj e3
        obtain ⟨M6, f1, f2, f3⟩ := fin M5 _ (arN z.2.1) hG5 (hC4.wc hc (e3.mono fun a k q => Or.inl q)) e2 (by rw [List.length_append, List.length_singleton]; omega) (by omega)
        rw [if_pos (by omega), hG4.gW, gd_t, e1, cV_s, cvB_vs (fun q => by have := congrArg List.length q; rw [List.length_drop, List.length_nil] at this; omega)]
        refine ⟨M6, f1, ?_, e3.trans f3⟩
        rw [List.append_assoc] at f2
        exact f2
      · obtain ⟨M6, f1, f2, f3⟩ := fin M4 w4 (arN z.2.1) hG4 hC4 hT4 (by omega) (by omega)
        rw [List.drop_eq_nil_of_le (by omega)] at f2
        rw [if_neg (by omega), List.drop_eq_nil_of_le (by omega)]
        exact ⟨M6, f1, f2, f3⟩
    rw [if_neg hcon, if_neg (by decide), if_neg hcon, hC.g hG, gd_t, hC.1.2.2, Ex_arity_s (vc_inR c1), cI_s, p18, hC2.g hG2, gd_t, Cl_isCase_s hG2 hC2, cI_s, if_neg hcon, if_neg (by decide), hC2.g hG2, gd_t, hC2.1.2.2, Ex_symbol_s, cI_s, hG2.gW, gd_t, wr_id (x := 65 + sy z.2.1) (by omega) (by omega), d1, cV_s, ← hal]
    by_cases h0 : 0 < arN z.2.1
    · obtain ⟨M4, e1, e2, e3⟩ := Wr_put_s hG3 d2 (v := 40) (by omega) (by decide)
      have hG4 := hG3.fj e3
      have hC4 : CLc M4 c z := hC3.wc hc (e3.mono fun a k q => Or.inl q)
      obtain ⟨M5, f1, f2, f3⟩ := Wr_putVars_s hc z4 (s := 0) (t := arN z.2.1) (Nat.zero_le _) (by omega) hG4 hC4 e2 (by rw [List.length_append, List.length_singleton]; omega)
      have hG5 := hG4.fj f3
      have hC5 : CLc M5 c z := hC4.wc hc (f3.mono fun a k q => Or.inl q)
      rw [List.drop_zero] at f2
      have hvl := vsB_len (z.2.2.1.take (arN z.2.1))
      have htl : (z.2.2.1.take (arN z.2.1)).length = min (arN z.2.1) z.2.2.1.length := List.length_take
      obtain ⟨M6, g1, g2, g3⟩ := Wr_put_s hG5 f2 (v := 41) (by rw [List.length_append, List.length_append, List.length_singleton]; omega) (by decide)
      have hG6 := hG5.fj g3
      have hC6 : CLc M6 c z := hC5.wc hc (g3.mono fun a k q => Or.inl q)
      obtain ⟨M7, k1, k2, k3⟩ := comma M6 _ hG6 hC6 g2 (by rw [List.length_append, List.length_append, List.length_append, List.length_singleton, List.length_singleton]; omega)
      have f1 : Wr_putVars 9 c 0 (arN z.2.1 : Int) M4 = some (none, M5) := f1
      rw [if_pos (by omega), if_pos h0, hG3.gW, gd_t, e1, cV_s, hG4.gW, gd_t, f1, cV_s, hG5.gW, gd_t, g1, cV_s]
      refine ⟨M7, k1, ?_, (((((a3.trans b3).trans d3).trans e3).trans f3).trans g3).trans k3⟩
      simp only [List.append_assoc, List.cons_append, List.nil_append] at k2 ⊢
      exact k2
    · obtain ⟨M7, k1, k2, k3⟩ := comma M3 _ hG3 hC3 d2 (by omega)
      rw [if_neg (by omega), if_neg h0]
      refine ⟨M7, k1, ?_, ((a3.trans b3).trans d3).trans k3⟩
      simp only [List.append_assoc, List.cons_append, List.nil_append] at k2 ⊢
      exact k2
theorem pgB_app : ∀ (as bs : List Clz), pgB (as ++ bs) = pgB as ++ pgB bs := by
  intro as
  induction as with
  | nil => intro bs; rfl
  | cons a as ih => intro bs; show clsB a ++ pgB (as ++ bs) = (clsB a ++ pgB as) ++ pgB bs; rw [ih, List.append_assoc]
theorem PRc.fj {P : Nat} {M1 : Mem} {S : Nat → Nat → Prop} (h : PRc M P zs) (f : Fj S M M1) (h0 : ∀ a k, pS P a → ¬ S a k) : PRc M1 P zs := h.fi (f.fi (T := fun a => ∃ k, S a k) fun a k q => ⟨k, q⟩) fun a ha q => by obtain ⟨k, q⟩ := q; exact h0 a k ha q
/-- right sides hold VARS of the left -/
theorem zok_lo {n : Nat} (h : zok n z) : vlo z.2.2.2 := fun c hc hk => ((h.2.2.2.2 c hc).1 hk).1.2
theorem Wr_putProgram_s {P : Nat} (hP : 11 < P) {n : Nat} (hn : n ≤ 100) (hz : zsk n zs) : ∀ (k i : Nat) (M : Mem) (ws : List Int) (d : LV), zs.length - i = k → i ≤ zs.length → Good M → PRc M P zs → TXc M ws → ws.length + 1000 * k ≤ 73000 → ∃ M', Wr_putProgram_2 9 P (i : Int) d M = some (none, M') ∧ TXc M' (ws ++ pgB (zs.drop i)) ∧ Fj wcL M M' := by
  intro k
  induction k with
  | zero =>
    intro i M ws d h1 h2 hG hp hT hl
    rw [Wr_putProgram_2_eq, hp.g hG, gd_t, hp.1.2.1, if_neg (by omega), List.drop_eq_nil_of_le (by omega)]
    refine ⟨M, rfl, ?_, Fj.refl⟩
    show TXc M (ws ++ [])
    rw [List.append_nil]; exact hT
  | succ k ih =>
    intro i M ws d h1 h2 hG hp hT hl
    have hl40 := hp.1.2.2
    obtain ⟨z, hzi, hc⟩ := hp.get (i := i) (by omega)
    have hzk := hz z (List.mem_of_getElem? hzi)
    have hrl := hzk.2.2.2.1.2.2
    obtain ⟨M1, a1, a2, a3⟩ := Wr_putLeft_s (c := P + 2 + 4 * i) (by omega) hG hc hzk hT (by omega)
    have hG1 := hG.fj a3
    have hlf := lfB_len hzk
    obtain ⟨M2, b1, b2, b3⟩ := Wr_put_s hG1 a2 (v := 61) (by rw [List.length_append]; omega) (by decide)
    have hG2 := hG1.fj b3
    have hC2 : CLc M2 (P + 2 + 4 * i) z := hc.wc (by omega) ((a3.trans b3).mono fun a k q => Or.inl q)
    obtain ⟨M3, c1, c2, c3⟩ := Wr_putExpr_s hG2 (by omega) hC2.2.2 b2 hzk.2.2.2.1.2.1 (zok_lo hzk) (wok_len _ [] (by simp; omega)) (by rw [List.length_append, List.length_append, List.length_singleton]; omega)
    have hG3 := hG2.fj c3
    have hwl := wtx_len z.2.2.2 []
    rw [List.length_nil] at hwl
    obtain ⟨M4, d1, d2, d3⟩ := Wr_put_s hG3 c2 (v := 59) (by rw [List.length_append, List.length_append, List.length_append, List.length_singleton]; omega) (by decide)
    have hG4 := hG3.fj d3
    have F4 : Fj wcL M M4 := (((a3.mono fun a k q => Or.inl q).trans (b3.mono fun a k q => Or.inl q)).trans c3).trans (d3.mono fun a k q => Or.inl q)
    have hp4 : PRc M4 P zs := hp.fj F4 fun a k q => by unfold pS at q; unfold wcL wcS; omega
    obtain ⟨M5, e1, e2, e3⟩ := ih (i + 1) M4 _ (some (.inr (P + 2 + 4 * i))) (by omega) (by omega) hG4 hp4 d2 (by simp only [List.length_append, List.length_cons, List.length_nil]; omega)
    rw [Wr_putProgram_2_eq, hp.g hG, gd_t, hp.1.2.1, if_pos (by omega), gd_t, Pr_clauseAt_s hG hp, cR_s, if_pos (show (0 : Int) ≤ (i : Int) ∧ (i : Int) < (zs.length : Int) by omega), toNat_n, if_neg (by omega), hG.gW, gd_t, a1, cV_s, hG1.gW, gd_t, b1, cV_s, hC2.g hG2, gd_t, hG2.gW, gd_t, (hC2.r hG2).2, c1, cV_s, hG3.gW, gd_t, d1, cV_s, wr_s (i := i) (by omega), drop_get hzi]
    refine ⟨M5, e1, ?_, F4.trans e3⟩
    unfold pgB clsB
    simp only [List.append_assoc, List.cons_append, List.nil_append] at e2 ⊢
    exact e2
end WPROGC

/-! ===== the class: node 0; what is below a node goes ===== -/
def WKc (M : Mem) : Prop := ∀ x, x < 120 → (∃ ys, XE M (31 + 6 * x) 40 ys) ∧ ∃ ys, XE M (34 + 6 * x) 100 ys
def rtF : FT := fun _ f => if f = 6 ∨ f = 8 ∨ f = 13 then 0 else -1
theorem rtF_ln : lnF rtF = [0] := pre_leaf rfl 120
theorem rtF_TI : TI rtF 1 := by
  unfold TI
  rw [rtF_ln]
  refine ⟨⟨by simp, fun x hx => by rw [List.mem_singleton.mp hx]; decide, by decide⟩, fun x hx => ?_, ⟨rfl, rfl⟩, rfl⟩
  rw [List.mem_singleton.mp hx]
  exact ⟨by decide, fun q => absurd q (by decide), fun j hj => absurd hj (Nat.not_lt_zero j)⟩
section REMOVE
variable {M : Mem} {X : Nat → List Int} {F : FT} {mk g e n : Nat} {xs : List Int}
theorem Tr_clear_s (hG : Good M) : ∃ M', Tr_clear 27 M = some (none, M') ∧ ((mI M' 27 8 = 0 ∧ mI M' 27 9 = 0) ∧ (mI M' 27 10 = 0 ∧ mI M' 27 11 = 0) ∧ mI M' 27 12 = 0 ∧ mI M' 27 13 = 1414) ∧ Fj (fun a j => a = 27 ∧ 8 ≤ j) M M' := by
  rw [Tr_clear_eq, hG.gT, gd_t, gd_t, gd_t, gd_t, gd_t, gd_t]
  refine ⟨_, rfl, ⟨⟨?_, ?_⟩, ⟨?_, ?_⟩, ?_, mI_at⟩, (((((Fj.ofI (by omega)).trans (Fj.ofI (by omega))).trans (Fj.ofI (by omega))).trans (Fj.ofI (by omega))).trans (Fj.ofI (by omega))).trans (Fj.ofI (by omega))⟩
  · rw [mI_ne (by omega), mI_ne (by omega), mI_ne (by omega), mI_ne (by omega), mI_ne (by omega), mI_at]
  · rw [mI_ne (by omega), mI_ne (by omega), mI_ne (by omega), mI_ne (by omega), mI_at]
  · rw [mI_ne (by omega), mI_ne (by omega), mI_ne (by omega), mI_at]
  · rw [mI_ne (by omega), mI_ne (by omega), mI_at]
  · rw [mI_ne (by omega), mI_at]
theorem Tr_addRoot_s (hG : Good M) (h8 : mI M 27 8 = 0) (h9 : mI M 27 9 = 0) (hwk : WKc M) (hX : XE M e n xs) (hv : av xs) (he : 749 < e) : (40 < xs.length → Tr_addNode 27 0 e M = some (some (.inl (-3)), M)) ∧ (¬ 40 < xs.length → ∃ M', Tr_addNode 27 0 e M = some (some (.inl 0), M') ∧ TRc M' (upX X 0 xs) rtF 1 ∧ Good M' ∧ Fq anS anR M M') := by
  have hxl := hX.lt
  refine ⟨fun q => ?_, fun q => ?_⟩
  · rw [Tr_addNode_eq, hX.g hG, gd_t, hX.s, if_pos (by omega)]
  have hpool : mR M 28 0 = 30 := hG.2.2.2.2 0 (by decide)
  have hndr := hG.ndr (x := 0) (by decide)
  have f0 : Fj (fun a j => a = 27 ∧ j = 9) M (stI M 27 9 1) := Fj.ofI ⟨rfl, rfl⟩
  have hG0 := hG.fj f0
  obtain ⟨⟨ys, hY⟩, -⟩ := hwk 0 (by decide)
  have hX0 := hX.fj f0 (by omega) (by omega)
  have hY0 : XE (stI M 27 9 1) 31 40 ys := hY.fj f0 (by omega) (by omega)
  obtain ⟨M1, a1, a2, a3⟩ := Ex_become_s hG0 hY0 hX0 (by omega) (by omega) (by omega) (by omega)
  have hG1 := hG0.fi a3
  obtain ⟨M2, b1, b2, b3⟩ := Ex_listVars_s hG1 a2 hv (r := 33) (rm := 40) (arr_of _ _ _ (by decide)) (by decide) (by omega) (by omega) (by omega)
  have hG2 := hG1.fi b3
  have hX2 : XE M2 31 40 xs := a2.fi b3 (by omega) (by omega)
  have f3 : Fj (fun a j => a = 30 ∧ j = 3) M2 (stI M2 30 3 ((ord xs).length : Nat)) := Fj.ofI ⟨rfl, rfl⟩
  have hG3 := hG2.fj f3
  have F13 : Fq (fun a j => (31 ≤ a ∧ a ≤ 33) ∨ (a = 30 ∧ j = 3) ∨ (a = 27 ∧ j = 9)) nor M (stI M2 30 3 ((ord xs).length : Nat)) := (((f0.mono (T := fun a j => (31 ≤ a ∧ a ≤ 33) ∨ (a = 30 ∧ j = 3) ∨ (a = 27 ∧ j = 9)) fun a j q => Or.inr (Or.inr q)).trans (a3.fj fun a j q => by unfold eS at q; omega)).trans (b3.fj fun a j q => by omega)).trans (f3.mono fun a j q => Or.inr (Or.inl q)) |>.fq fun a k q => q
  have hX3 : XE (stI M2 30 3 ((ord xs).length : Nat)) 31 40 xs := hX2.fj f3 (by omega) (by omega)
  have hW3 : RW (stI M2 30 3 ((ord xs).length : Nat)) 33 0 (ord xs) := b2.fj f3 (by omega)
  have h33 : mI (stI M2 30 3 ((ord xs).length : Nat)) 30 3 = ((ord xs).length : Nat) := mI_at
  have r3 : mR M1 30 0 = 31 ∧ mR M1 30 1 = 33 ∧ mR M1 30 2 = 34 := hG1.ndr (x := 0) (by decide)
  generalize hM3 : stI M2 30 3 ((ord xs).length : Nat) = M3 at *
  have hA := bgA_good hG3 (m := 0) (by decide)
  have bI := fun a j => bgA_I (M := M3) 0 a j
  have bR := fun a j => bgA_R (M := M3) 0 a j
  have b1' := bgA_1 M3 0
  have gn : ∀ {M : Mem}, Good M → gO M 30 4 = true := fun h => h.nd (x := 0) (by decide)
  have e0 : No_begin 30 0 M3 = some (none, stI (stI (stR (bgA M3 0) 30 15 0) 30 5 (-1)) 30 6 0) := by
    have e1 : No_begin 30 0 M3 = gd (gO (bgA M3 0) 30 4) (No_begin_67 30 0 (-1) 30 (stR (bgA M3 0) 30 15 0)) := by
      rw [No_begin_eq, gn hG3, gd_t, gd_t, gd_t, gd_t, gd_t, gd_t, gd_t, gd_t, gd_t, gd_t, No_dropBelow_eq]
      have gB : gO (stR (stR (stI (stI (stI (stI (stI (stI (stI M3 30 4 0) 30 7 (-1)) 30 9 (-1)) 30 10 (-1)) 30 11 (-1)) 30 12 (-1)) 30 13 0) 30 14 0) 30 18 0) 30 4 = true := hG3.nd (x := 0) (by decide)
      rw [gB, gd_t, gd_t, gd_t, cV_s, if_pos rfl]
      rfl
    have hG5 : Good (stR (bgA M3 0) 30 15 0) := hA.ofR (nd_mtb (x := 0) (by decide) (by decide))
    rw [e1, gn hA, gd_t, No_begin_67_eq, gn hG5, gd_t, if_pos rfl, gd_t, if_pos rfl]
  have hG4 : Good (stI (stI (stR (bgA M3 0) 30 15 0) 30 5 (-1)) 30 6 0) := (hA.ofR (nd_mtb (x := 0) (by decide) (by decide))).fj ((Fj.ofI (S := fun _ _ => True) trivial).trans (Fj.ofI trivial))
  have rI : ∀ a j, mI (stI (stI (stR (bgA M3 0) 30 15 0) 30 5 (-1)) 30 6 0) a j = if a = 30 ∧ (4 ≤ j ∧ j ≤ 13) then (if j = 6 ∨ j = 4 ∨ j = 8 ∨ j = 13 then 0 else -1) else mI M3 a j := by
    intro a j
    rw [mI_if, mI_if, mI_R, bI, Nat.mul_zero, Nat.add_zero]
    by_cases h : a = 30
    · subst h
      simp only [true_and]
      by_cases h6 : j = 6
      · subst h6; rfl
      by_cases h5 : j = 5
      · subst h5; rfl
      rw [if_neg h6, if_neg h5]
      by_cases q : 4 ≤ j ∧ j ≤ 13
      · rw [if_pos q, if_pos (by omega)]
        by_cases q4 : j = 4 ∨ j = 8 ∨ j = 13
        · rw [if_pos q4, if_pos (by omega)]
        · rw [if_neg q4, if_neg (by omega)]
      · rw [if_neg q, if_neg (by omega)]
    · simp only [h, false_and, if_false]
  have rR : ∀ a j, mR (stI (stI (stR (bgA M3 0) 30 15 0) 30 5 (-1)) 30 6 0) a j = if a = 30 ∧ (14 ≤ j ∧ j ≤ 18) then 0 else mR M3 a j := by
    intro a j
    rw [mR_I, mR_I, mR_if, bR, Nat.mul_zero, Nat.add_zero]
    by_cases h : a = 30
    · subst h
      simp only [true_and]
      by_cases h5 : j = 15
      · subst h5; rfl
      rw [if_neg h5]
      by_cases q : 14 ≤ j ∧ j ≤ 18
      · rw [if_pos q, if_pos (by omega)]
      · rw [if_neg q, if_neg (by omega)]
    · simp only [h, false_and, if_false]
  have r1 : (stI (stI (stR (bgA M3 0) 30 15 0) 30 5 (-1)) 30 6 0).1 = M3.1 ∧ (stI (stI (stR (bgA M3 0) 30 15 0) 30 5 (-1)) 30 6 0).2.1 = M3.2.1 := b1'
  clear bI bR b1' hA
  generalize stI (stI (stR (bgA M3 0) 30 15 0) 30 5 (-1)) 30 6 0 = M4 at *
  have i8 : mI M4 27 8 = 0 := by rw [rI, if_neg (by omega)]; exact (F13.2.2 _ _ (by omega)).trans h8
  obtain ⟨M5, d1, d2, d3, d4⟩ := Tr_insert_s (A := []) (B := []) (m := 0) (M := M4) (by decide) (by decide) (fun x hx => by cases hx) (some (.inr 0)) (some (.inr e)) 0 (Nat.le_refl _) hG4 i8 (fun i x hx => by rw [List.getElem?_nil] at hx; cases hx) (fun i x hi hx => by omega) (fun i x hi hx => by rw [List.getElem?_nil] at hx; cases hx)
  have d1 : Tr_addNode_109 27 30 0 0 (some (.inr 0)) (some (.inr e)) M4 = some (some (.inl 0), M5) := d1
  have F34 : Fq (fun a j => a = 30 ∧ 4 ≤ j) (fun a j => a = 30 ∧ 14 ≤ j) M3 M4 := ⟨r1, fun a j q => by rw [rR, if_neg (by omega)], fun a j q => by rw [rI, if_neg (by omega)]⟩
  have F5 : Fq (fun a j => (30 ≤ a ∧ a ≤ 33) ∨ (a = 27 ∧ (j = 8 ∨ j = 9))) (fun a j => (a = 30 ∧ 14 ≤ j) ∨ a = 29) M M5 := ((F13.mono (T := fun a j => (30 ≤ a ∧ a ≤ 33) ∨ (a = 27 ∧ (j = 8 ∨ j = 9))) (U := fun a j => (a = 30 ∧ 14 ≤ j) ∨ a = 29) (fun a j q => by omega) fun a j q => q.elim).trans (F34.mono (fun a j q => by omega) fun a j q => by omega)).trans (d4.mono (fun a j q => by omega) fun a j q => by omega)
  have h95 : mI M5 27 9 = 1 := by
    rw [d4.2.2 _ _ (by omega), rI, if_neg (by omega), ← hM3, mI_ne (by omega), b3.2.2 _ (by omega), a3.2.2 _ (by unfold eS; omega), mI_at]
  have hI : ∀ j, mI M5 30 j = mI M4 30 j := fun j => d4.2.2 _ _ (by omega)
  have hR5 : ∀ j, mR M5 30 j = mR M4 30 j := fun j => d4.2.1 _ _ (by omega)
  have hx5 : NDx M5 xs 0 := by
    refine ⟨hX3.ext fun a j q => ?_, fun i hi => ?_, ?_⟩
    · exact (d4.2.2 a j (by omega)).trans (F34.2.2 a j (by omega))
    · exact ((d4.2.2 _ _ (by omega)).trans (F34.2.2 _ _ (by omega))).trans (hW3 i hi)
    · exact ((hI 3).trans (F34.2.2 _ _ (by omega))).trans h33
  refine ⟨M5, ?_, ⟨⟨by rw [rtF_ln]; exact d2, h95⟩, fun x hx => ?_, fun x hx => ?_⟩, d3, F5.mono (fun a j q => by unfold anS; omega) fun a j q => by unfold anR; omega⟩
  · rw [Tr_addNode_eq, hX.g hG, gd_t, hX.s, if_neg (by omega), hG.gT, gd_t, h9, if_pos (by omega), gd_t, h8, if_pos (by omega), gd_t, gd_t, hG.r27_2]
    have g28 := hG.a28 (i := 0) (by decide)
    have g28 : (gS M 28 3 0 || (gS M 28 4 0 || gS M 28 5 0)) = true := g28
    have hp' : mR M 28 (Int.toNat 0) = 30 := hpool
    have hr0 : mR M 30 0 = 31 := hndr.1
    rw [g28, gd_t, gd_t, gd_t, hp', gn hG, gd_t, hr0, hY.g hG, gd_t, wr_id (x := (0 : Int) + 1) (by decide) (by decide), show (0 : Int) + 1 = 1 from rfl, a1, cV_s, gn hG1, gd_t, gd_t, r3.1, a2.g hG1, gd_t, r3.2.1, b1, cI_s, gn hG2, gd_t, gd_t, hM3, e0, cV_s, if_pos rfl, hG4.gT, gd_t, i8, d1]
  · rw [rtF_ln] at hx
    have := List.mem_singleton.mp hx
    subst this
    refine ⟨by rw [upX_at]; exact hx5, ⟨fun f hf => ?_, ?_⟩, ⟨?_, ?_⟩, ⟨?_, ?_⟩, ?_⟩
    · unfold nf at hf
      show mI M5 30 f = _
      rw [hI, rI]
      rcases hf with e | e | e | e | e | e | e | e <;> subst e <;> rfl
    · show mI M5 30 4 = _
      rw [hI, rI]; rfl
    · show mR M5 30 14 = _
      rw [hR5, rR]; rfl
    · show mR M5 30 15 = _
      rw [hR5, rR]; rfl
    · show mR M5 30 16 = _
      rw [hR5, rR]; rfl
    · show mR M5 30 17 = _
      rw [hR5, rR]; rfl
    · show mR M5 30 18 = _
      rw [hR5, rR]; rfl
  · obtain ⟨⟨zs, w1⟩, us, w2⟩ := hwk x hx
    refine ⟨?_, us, w2.ext fun a j q => F5.2.2 a j (by omega)⟩
    by_cases g : x = 0
    · subst g
      exact ⟨_, hx5.1⟩
    · exact ⟨zs, w1.ext fun a j q => F5.2.2 a j (by omega)⟩
/-- the line's end comes up -/
theorem Tr_moveup_s {A S B : List Nat} (hl : A.length + S.length + B.length ≤ 120) (hB : ∀ x ∈ B, x < 120) (hg : g < 120) : ∀ (t i : Nat) (M : Mem), B.length - i = t → i ≤ B.length → Good M → mI M 27 8 = ((A.length + S.length + B.length : Nat) : Int) → (∀ j x, A[j]? = some x → mR M 29 j = 30 + 6 * x) → (∀ j x, j < i → B[j]? = some x → mR M 29 (A.length + j) = 30 + 6 * x) → (∀ j x, i ≤ j → B[j]? = some x → mR M 29 (A.length + S.length + j) = 30 + 6 * x) → ∃ M', Tr_removeBelow_53 27 (30 + 6 * g) (A.length : Int) ((A.length + S.length : Nat) : Int) ((A.length + S.length + i : Nat) : Int) M = some (none, M') ∧ LN M' (A ++ B) ∧ mI M' 27 12 = (A.length : Int) ∧ (mI M' (30 + 6 * g) 8 = 0 ∧ mR M' (30 + 6 * g) 16 = 0 ∧ mR M' (30 + 6 * g) 17 = 0) ∧ Good M' ∧ Fq (fun a j => (a = 27 ∧ (j = 8 ∨ j = 12)) ∨ (a = 30 + 6 * g ∧ j = 8)) (fun a j => a = 29 ∨ (a = 30 + 6 * g ∧ (j = 16 ∨ j = 17))) M M' := by
  intro t
  induction t with
  | zero =>
    intro i M e1 e2 hG h8 hA h1 h2
    have hG2 : Good (stI (stI M 27 8 ((A.length + B.length : Nat) : Int)) 27 12 (A.length : Int)) := hG.fj ((Fj.ofI (S := fun _ _ => True) trivial).trans (Fj.ofI trivial))
    rw [Tr_removeBelow_53_eq, hG.gT, gd_t, h8, if_neg (by omega), gd_t, gd_t, gd_t, hG.nd hg, gd_t, wr_id (x := ((A.length + S.length : Nat) : Int) - (A.length : Int)) (by omega) (by omega), wr_id (x := ((A.length + S.length + B.length : Nat) : Int) - (((A.length + S.length : Nat) : Int) - (A.length : Int))) (by omega) (by omega), show ((A.length + S.length + B.length : Nat) : Int) - (((A.length + S.length : Nat) : Int) - (A.length : Int)) = ((A.length + B.length : Nat) : Int) by omega, No_dropBelow_eq, hG2.nd hg, gd_t, gd_t, gd_t, cV_s]
    refine ⟨_, rfl, ⟨?_, fun j x hx => ?_⟩, ?_, ⟨?_, ?_, ?_⟩, ?_, ⟨⟨rfl, rfl⟩, fun a j q => ?_, fun a j q => ?_⟩⟩
    · rw [mI_R, mI_R, mI_ne (by omega), mI_ne (by omega), mI_at, List.length_append]
    · rw [mR_ne (by omega), mR_ne (by omega), mR_I, mR_I, mR_I]
      by_cases q : j < A.length
      · rw [List.getElem?_append_left q] at hx
        exact hA j x hx
      · rw [List.getElem?_append_right (by omega)] at hx
        have := (List.getElem?_eq_some_iff.mp hx).1
        have := h1 (j - A.length) x (by omega) hx
        rw [show A.length + (j - A.length) = j by omega] at this
        exact this
    · rw [mI_R, mI_R, mI_ne (by omega), mI_at]
    · rw [mI_R, mI_R, mI_at]
    · rw [mR_ne (by omega), mR_at]
    · rw [mR_at]
    · exact ((hG2.fj (Fj.ofI (S := fun _ _ => True) trivial)).ofR (nd_mtb hg (by decide))).ofR (nd_mtb hg (by decide))
    · rw [mR_ne (by omega), mR_ne (by omega), mR_I, mR_I, mR_I]
    · rw [mI_R, mI_R, mI_ne (by omega), mI_ne (by omega), mI_ne (by omega)]
  | succ t ih =>
    intro i M e1 e2 hG h8 hA h1 h2
    have hi : i < B.length := by omega
    have hxt := h2 i B[i] (Nat.le_refl _) (List.getElem?_eq_getElem hi)
    have hb := hB B[i] (List.getElem_mem hi)
    have hG1 : Good (stR M 29 (A.length + i) (30 + 6 * B[i])) := hG.ofR (by unfold mtb; omega)
    obtain ⟨M', a1, a2, a3, a4, a5, a6⟩ := ih (i + 1) (stR M 29 (A.length + i) (30 + 6 * B[i])) (by omega) (by omega) hG1 h8 (fun j x hx => by
      have := (List.getElem?_eq_some_iff.mp hx).1
      rw [mR_ne (by omega)]; exact hA j x hx) (fun j x hj hx => by
      by_cases q : j = i
      · subst q
        rw [List.getElem?_eq_getElem hi] at hx
        have hx2 := Option.some.inj hx
        rw [mR_at, hx2]
      · rw [mR_ne (by omega)]; exact h1 j x (by omega) hx) (fun j x hj hx => by rw [mR_ne (by omega)]; exact h2 j x (by omega) hx)
    rw [Tr_removeBelow_53_eq, hG.gT, gd_t, h8, if_pos (by omega), gd_t, gd_t, hG.r27_3, hG.a29 (by omega), gd_t, wr_id (x := ((A.length + S.length + i : Nat) : Int) - ((A.length + S.length : Nat) : Int)) (by omega) (by omega), wr_id (x := ((A.length + S.length + i : Nat) : Int) - ((A.length + S.length : Nat) : Int) + (A.length : Int)) (by omega) (by omega), show ((A.length + S.length + i : Nat) : Int) - ((A.length + S.length : Nat) : Int) + (A.length : Int) = ((A.length + i : Nat) : Int) by omega, toNat_n, toNat_n, hxt, hG.w29 (by omega) hb, gd_t, wr_s (by omega), Nat.add_assoc (A.length + S.length), a1]
    exact ⟨M', rfl, a2, a3, a4, a5, (Fq.ofR (S := fun a j => (a = 27 ∧ (j = 8 ∨ j = 12)) ∨ (a = 30 + 6 * g ∧ j = 8)) (R := fun a j => a = 29 ∨ (a = 30 + 6 * g ∧ (j = 16 ∨ j = 17))) (Or.inl rfl)).trans a6⟩
theorem Tr_skip_s {A S B : List Nat} (hl : A.length + S.length + B.length ≤ 120) (hall : ∀ x ∈ S ++ B, x < 120) (hg : g < 120) {d : Int} (hS : ∀ x ∈ S, d < F x 6) (hB : ∀ b ∈ B.head?, F b 6 ≤ d) : ∀ (t i : Nat) (M : Mem) (d4 : LV), S.length - i = t → i ≤ S.length → Good M → LN M (A ++ (S ++ B)) → mI M (30 + 6 * g) 6 = d → (∀ x ∈ S ++ B, mI M (30 + 6 * x) 6 = F x 6) → ∃ M', Tr_removeBelow_10 27 (30 + 6 * g) (A.length : Int) ((A.length + i : Nat) : Int) d4 M = Tr_removeBelow_53 27 (30 + 6 * g) (A.length : Int) ((A.length + S.length : Nat) : Int) ((A.length + S.length : Nat) : Int) M' ∧ Good M' ∧ Fj (fun a j => (a % 6 = 0 ∧ 30 ≤ a ∧ a < 750) ∧ j = 7) M M' := by
  intro t
  induction t with
  | zero =>
    intro i M d4 e1 e2 hG hL hd hx
    have : i = S.length := by omega
    subst this
    have hc : mI M 27 8 = ((A.length + S.length + B.length : Nat) : Int) := by rw [hL.1, List.length_append, List.length_append, Nat.add_assoc]
    rw [Tr_removeBelow_10_eq, hG.gT, gd_t, hc]
    by_cases q : B.length = 0
    · rw [if_neg (by omega)]
      exact ⟨M, rfl, hG, Fj.refl⟩
    · have hb0 : 0 < B.length := by omega
      have hbx : (A ++ (S ++ B))[A.length + S.length]? = some B[0] := by
        rw [List.getElem?_append_right (by omega), List.getElem?_append_right (by omega), show A.length + S.length - A.length - S.length = 0 by omega, List.getElem?_eq_getElem hb0]
      have hr := hL.2 _ _ hbx
      have hbm : B[0] ∈ S ++ B := List.mem_append_right _ (List.getElem_mem hb0)
      have hb120 := hall _ hbm
      have hdb := hB B[0] (by rw [List.head?_eq_getElem?, List.getElem?_eq_getElem hb0]; simp)
      rw [if_pos (by omega), gd_t, hG.r27_3, hG.a29 (by omega), gd_t, toNat_n, hr, hG.nd hb120, gd_t, hG.nd hg, gd_t, hd, hx _ hbm, if_neg (by omega)]
      exact ⟨M, rfl, hG, Fj.refl⟩
  | succ t ih =>
    intro i M d4 e1 e2 hG hL hd hx
    have hi : i < S.length := by omega
    have hc : mI M 27 8 = ((A.length + S.length + B.length : Nat) : Int) := by rw [hL.1, List.length_append, List.length_append, Nat.add_assoc]
    have hbx : (A ++ (S ++ B))[A.length + i]? = some S[i] := by
      rw [List.getElem?_append_right (by omega), List.getElem?_append_left (by omega), show A.length + i - A.length = i by omega, List.getElem?_eq_getElem hi]
    have hr := hL.2 _ _ hbx
    have hsm : S[i] ∈ S := List.getElem_mem hi
    have hbm : S[i] ∈ S ++ B := List.mem_append_left _ hsm
    have hb120 := hall _ hbm
    have hdb := hS _ hsm
    have f1 : Fj (fun a j => (a % 6 = 0 ∧ 30 ≤ a ∧ a < 750) ∧ j = 7) M (stI M (30 + 6 * S[i]) 7 (-1)) := Fj.ofI ⟨by omega, rfl⟩
    have hG1 := hG.fj f1
    obtain ⟨M', a1, a2, a3⟩ := ih (i + 1) (stI M (30 + 6 * S[i]) 7 (-1)) d4 (by omega) (by omega) hG1 ⟨(f1.2.2 _ _ (by omega)).trans hL.1, hL.2⟩ ((f1.2.2 _ _ (by omega)).trans hd) (fun x hx2 => (f1.2.2 _ _ (by omega)).trans (hx x hx2))
    rw [Tr_removeBelow_10_eq, hG.gT, gd_t, hc, if_pos (by omega), gd_t, hG.r27_3, hG.a29 (by omega), gd_t, toNat_n, hr, hG.nd hb120, gd_t, hG.nd hg, gd_t, hd, hx _ hbm, if_pos hdb, gd_t, gd_t, gd_t, wr_s (by omega), Nat.add_assoc, a1]
    exact ⟨M', rfl, a2, f1.trans a3⟩
theorem Tr_removeBelow_s (hG : Good M) (hT : TI F mk) (hR : TRc M X F mk) (hg : g ∈ lnF F) : ∃ M', Tr_removeBelow 27 (30 + 6 * g) M = some (none, M') ∧ TRc M' X (upF F g 8 0) mk ∧ (∃ A R, lnF F = A ++ (g :: R) ∧ mI M' 27 12 = ((A.length + 1 : Nat) : Int)) ∧ Good M' ∧ Fq (fun a j => (30 ≤ a ∧ a < 750) ∨ (a = 27 ∧ (j = 8 ∨ j = 12))) anR M M' := by
  obtain ⟨hT1, A, S, B, eF, eG, hS, hB⟩ := hT.rem hg
  obtain ⟨⟨hLN, h9⟩, hnd, hwk⟩ := hR
  have hlen := hT.len
  have hmk := hT.1.2.2
  have hg120 := hT.1.2.1 g hg
  have hlenF : (lnF F).length = A.length + 1 + (S.length + B.length) := by rw [eF]; simp only [List.length_append, List.length_cons]; omega
  have hall : ∀ x ∈ S ++ B, x ∈ lnF F := fun x hx => by rw [eF]; simp only [List.mem_append, List.mem_cons] at hx ⊢; rcases hx with q | q; exact Or.inr (Or.inr (Or.inl q)); exact Or.inr (Or.inr (Or.inr q))
  have hndF := hT.1.1
  have hgA : g ∉ A := by
    rw [eF] at hndF
    intro q
    exact (List.nodup_append.mp hndF).2.2 g q g (by simp) rfl
  have hLN1 : LN M (A ++ (g :: (S ++ B))) := by rw [← eF]; exact hLN
  have hidx := Tr_indexOf_s hG hLN1 hgA (by rw [← eF]; omega)
  have hLN2 : LN M ((A ++ [g]) ++ (S ++ B)) := by rw [show (A ++ [g]) ++ (S ++ B) = A ++ (g :: (S ++ B)) by simp]; exact hLN1
  have hl1 : (A ++ [g]).length = A.length + 1 := by simp
  obtain ⟨M1, a1, a2, a3⟩ := Tr_skip_s (A := A ++ [g]) (S := S) (B := B) (g := g) (F := F) (d := F g 6) (by rw [hl1]; omega) (fun x hx => by have := hT.1.2.1 x (hall x hx); omega) (by omega) hS hB _ 0 M none rfl (Nat.zero_le _) hG hLN2 ((hnd g hg).2.1.1 6 (by unfold nf; omega)) (fun x hx => (hnd x (hall x hx)).2.1.1 6 (by unfold nf; omega))
  have hLN3 : LN M1 ((A ++ [g]) ++ (S ++ B)) := ⟨(a3.2.2 _ _ (by omega)).trans hLN2.1, fun i x hx => (a3.2.1 _ _).trans (hLN2.2 i x hx)⟩
  obtain ⟨M2, b1, b2, b3, ⟨b4, b5, b6⟩, b7, b8⟩ := Tr_moveup_s (A := A ++ [g]) (S := S) (B := B) (g := g) (by rw [hl1]; omega) (fun x hx => by have := hT.1.2.1 x (hall x (List.mem_append_right _ hx)); omega) (by omega) _ 0 M1 rfl (Nat.zero_le _) a2 (by rw [hLN3.1]; simp only [List.length_append, List.length_cons, List.length_nil]; omega) (fun j x hx => hLN3.2 j x (by rw [List.getElem?_append_left (List.getElem?_eq_some_iff.mp hx).1]; exact hx)) (fun j x hj hx => absurd hj (Nat.not_lt_zero j)) (fun j x hj hx => hLN3.2 _ x (by rw [List.getElem?_append_right (by omega), List.getElem?_append_right (by omega), show (A ++ [g]).length + S.length + j - (A ++ [g]).length - S.length = j by omega]; exact hx))
  rw [Nat.add_zero, hl1] at b1
  rw [hl1] at a1 b3
  have F12 : Fq (fun a j => ((a % 6 = 0 ∧ 30 ≤ a ∧ a < 750) ∧ j = 7) ∨ (a = 27 ∧ (j = 8 ∨ j = 12)) ∨ (a = 30 + 6 * g ∧ j = 8)) (fun a j => a = 29 ∨ (a = 30 + 6 * g ∧ (j = 16 ∨ j = 17))) M M2 := (a3.fq (T := fun a j => ((a % 6 = 0 ∧ 30 ≤ a ∧ a < 750) ∧ j = 7) ∨ (a = 27 ∧ (j = 8 ∨ j = 12)) ∨ (a = 30 + 6 * g ∧ j = 8)) fun a j q => Or.inl q).trans (b8.mono (fun a j q => Or.inr (by omega)) fun a j q => q)
  have a1 : Tr_removeBelow_10 27 (30 + 6 * g) ((A.length + 1 : Nat) : Int) ((A.length + 1 : Nat) : Int) none M = _ := a1
  refine ⟨M2, ?_, ⟨⟨by rw [eG, show A ++ (g :: B) = (A ++ [g]) ++ B by simp]; exact b2, (F12.2.2 _ _ (by omega)).trans h9⟩, fun x hx => ?_, fun x hx => ?_⟩, ⟨A, S ++ B, eF, b3⟩, b7, F12.mono (fun a j q => by omega) fun a j q => by unfold anR; omega⟩
  · rw [Tr_removeBelow_eq, hG.gT, gd_t, hidx, cI_s, wr_s (by omega), a1, b1]
  · have hxF : x ∈ lnF F := by
      rw [eG] at hx
      rw [eF]
      simp only [List.mem_append, List.mem_cons] at hx ⊢
      rcases hx with q | q | q
      · exact Or.inl q
      · exact Or.inr (Or.inl q)
      · exact Or.inr (Or.inr (Or.inr q))
    have hxm := hT.1.2.1 x hxF
    obtain ⟨p1, ⟨p2, p3⟩, ⟨p4, p5⟩, ⟨p6, p7⟩, p8⟩ := hnd x hxF
    have o : ∀ f, ¬ (x = g ∧ f = 8) → upF F g 8 0 x f = F x f := fun f h => upF_ne h
    have iI : ∀ j, j ≠ 7 → ¬ (x = g ∧ j = 8) → mI M2 (30 + 6 * x) j = mI M (30 + 6 * x) j := fun j h1 h2 => F12.2.2 _ _ (by omega)
    have iR : ∀ j, ¬ (x = g ∧ (j = 16 ∨ j = 17)) → mR M2 (30 + 6 * x) j = mR M (30 + 6 * x) j := fun j h1 => F12.2.1 _ _ (by omega)
    refine ⟨p1.fq F12 (by omega), ⟨fun f hf => ?_, ?_⟩, ⟨?_, ?_⟩, ⟨?_, ?_⟩, ?_⟩
    · by_cases q : x = g ∧ f = 8
      · obtain ⟨rfl, rfl⟩ := q
        rw [upF_at]; exact b4
      · rw [o f q, iI f (by unfold nf at hf; omega) q]
        exact p2 f hf
    · rw [o 4 (by omega), iI 4 (by omega) (by omega)]; exact p3
    · rw [o _ (by omega), iR _ (by omega)]; exact p4
    · rw [o _ (by omega), iR _ (by omega)]; exact p5
    · by_cases q : x = g
      · subst q
        rw [upF_at, if_pos rfl]; exact b5
      · have : nfk (upF F g 8 0) x = nfk F x := by unfold nfk; rw [o 16 (by omega)]
        rw [o _ (by omega), iR _ (by omega), this]; exact p6
    · by_cases q : x = g
      · subst q
        rw [upF_at, if_pos rfl]; exact b6
      · have h1 : nfk (upF F g 8 0) x = nfk F x := by unfold nfk; rw [o 16 (by omega)]
        have h2 : nkc (upF F g 8 0) x = nkc F x := by unfold nkc; rw [o 8 (by omega)]
        rw [o _ (by omega), iR _ (by omega), h1, h2]; exact p7
    · rw [iR _ (by omega), p8]
      unfold ndx
      rw [o _ (by omega), o _ (by omega)]
      by_cases x0 : x = 0
      · subst x0
        rw [if_neg (fun q => q.1 hT.2.2.1.1), if_neg (fun q => q.1 hT.2.2.1.1)]
      · obtain ⟨p, j, t1, t2, t3, t4, t5, t6⟩ := hT1.ndx hx x0
        have hpg : p ≠ g := by
          intro q
          subst q
          unfold nkc at t2
          rw [upF_at] at t2
          exact absurd t2 (Nat.not_lt_zero j)
        rw [o _ (by omega)] at t4
        rw [t4, toNat_n, upF_ne (by omega)]
  · obtain ⟨⟨zs, w1⟩, us, w2⟩ := hwk x hx
    exact ⟨⟨zs, w1.ext fun a j q => F12.2.2 a j (by omega)⟩, us, w2.ext fun a j q => F12.2.2 a j (by omega)⟩
end REMOVE

/-! ===== the class's nodes ===== -/
theorem mI_if {M : Mem} {a k b j : Nat} {v : Int} : mI (stI M a k v) b j = if b = a ∧ j = k then v else mI M b j := rfl
theorem mI_R {M : Mem} {a k v b j : Nat} : mI (stR M a k v) b j = mI M b j := rfl
theorem mR_if {M : Mem} {a k v b j : Nat} : mR (stR M a k v) b j = if b = a ∧ j = k then v else mR M b j := rfl
theorem mR_I {M : Mem} {a k b j : Nat} {v : Int} : mR (stI M a k v) b j = mR M b j := rfl
theorem mR_ne {M : Mem} {a k v b j : Nat} (h : ¬ (b = a ∧ j = k)) : mR (stR M a k v) b j = mR M b j := if_neg h
theorem mR_at {M : Mem} {a k v : Nat} : mR (stR M a k v) a k = v := if_pos ⟨rfl, rfl⟩
theorem HT_nd : ∀ x, x < 120 → (HT (30 + 6 * x) = .inl 4 ∧ HT (30 + 6 * x + 1) = .inl 2) ∧ (HT (30 + 6 * x + 2) = .inr (0, 40) ∧ HT (30 + 6 * x + 3) = .inr (0, 40)) ∧ HT (30 + 6 * x + 4) = .inl 2 ∧ HT (30 + 6 * x + 5) = .inr (0, 100) := by
  have h : (List.range 120).all (fun x => decide ((HT (30 + 6 * x) = .inl 4 ∧ HT (30 + 6 * x + 1) = .inl 2) ∧ (HT (30 + 6 * x + 2) = .inr (0, 40) ∧ HT (30 + 6 * x + 3) = .inr (0, 40)) ∧ HT (30 + 6 * x + 4) = .inl 2 ∧ HT (30 + 6 * x + 5) = .inr (0, 100))) = true := by decide +kernel
  intro x hx
  exact of_decide_eq_true (List.all_eq_true.mp h x (List.mem_range.mpr hx))
theorem nd_isN {x : Nat} (h : x < 120) : isN (30 + 6 * x) := by
  obtain ⟨⟨h1, h2⟩, ⟨h3, h4⟩, h5, h6⟩ := HT_nd x h
  exact ⟨⟨by omega, by omega, h1⟩, ⟨⟨by omega, by omega, h2⟩, ⟨by omega, by omega, h3⟩, by decide⟩, ⟨by omega, by omega, h4⟩, ⟨⟨by omega, by omega, h5⟩, ⟨by omega, by omega, h6⟩, by decide⟩⟩
section NODE
variable {M : Mem}
theorem Good.nd (hG : Good M) {x : Nat} (h : x < 120) : gO M (30 + 6 * x) 4 = true := hG.tgO (nd_isN h).1
theorem Good.ndr (hG : Good M) {x : Nat} (h : x < 120) : mR M (30 + 6 * x) 0 = 31 + 6 * x ∧ mR M (30 + 6 * x) 1 = 33 + 6 * x ∧ mR M (30 + 6 * x) 2 = 34 + 6 * x := by
  obtain ⟨h1, h2, h3⟩ := hG.2.1.2.2.1 (30 + 6 * x) (nd_isN h).1
  exact ⟨by omega, by omega, by omega⟩
theorem nd_mtb {x k : Nat} (h : x < 120) (hk : 3 ≤ k) : mtb (30 + 6 * x) k := by
  unfold mtb
  exact Or.inr (Or.inr (Or.inr (Or.inr ⟨(nd_isN h).1, hk⟩)))
theorem obj_T : obj 27 9 := obj_of _ _ (by decide)
theorem Good.gT (h : Good M) : gO M 27 9 = true := h.tgO obj_T
theorem arr_28 : arr 28 5 120 := arr_of _ _ _ (by decide)
theorem arr_29 : arr 29 5 120 := arr_of _ _ _ (by decide)
theorem Good.a29 (h : Good M) {i : Nat} (hi : i < 120) : (gS M 29 3 (i : Int) || (gS M 29 4 (i : Int) || gS M 29 5 (i : Int))) = true := g345 (Or.inr (Or.inr (h.tgS arr_29 (by omega) (by omega))))
theorem Good.a28 (h : Good M) {i : Nat} (hi : i < 120) : (gS M 28 3 (i : Int) || (gS M 28 4 (i : Int) || gS M 28 5 (i : Int))) = true := g345 (Or.inr (Or.inr (h.tgS arr_28 (by omega) (by omega))))
theorem Good.w29 (h : Good M) {i x : Nat} (hi : i < 120) (hx : x < 120) : ((gS M 29 3 (i : Int) && gO M (30 + 6 * x) 2) || ((gS M 29 4 (i : Int) && gO M (30 + 6 * x) 1) || (gS M 29 5 (i : Int) && gO M (30 + 6 * x) 4))) = true := by
  rw [h.tgS arr_29 (show (0 : Int) ≤ (i : Int) by omega) (show (i : Int) < ((120 : Nat) : Int) by omega), h.nd hx]
  simp
/-- a node's reference: null, or the node -/
def ndf (v : Int) : Nat := if v = -1 then 0 else 30 + 6 * v.toNat
def nf (f : Nat) : Prop := f = 5 ∨ f = 6 ∨ f = 8 ∨ f = 10 ∨ f = 11 ∨ f = 12 ∨ f = 9 ∨ f = 13
/-- the next one of the same above -/
def ndx (F : FT) (y : Nat) : Nat := if F y 15 ≠ -1 ∧ F y 5 + 1 < F (F y 15).toNat 8 then 30 + 6 * (y + 1) else 0
def NDr (M : Mem) (F : FT) (x : Nat) : Prop := (mR M (30 + 6 * x) 14 = ndf (F x 14) ∧ mR M (30 + 6 * x) 15 = ndf (F x 15)) ∧ (mR M (30 + 6 * x) 16 = (if F x 8 = 0 then 0 else 30 + 6 * nfk F x) ∧ mR M (30 + 6 * x) 17 = (if F x 8 = 0 then 0 else 30 + 6 * (nfk F x + nkc F x - 1))) ∧ mR M (30 + 6 * x) 18 = ndx F x
def NDi (M : Mem) (F : FT) (x : Nat) : Prop := (∀ f, nf f → mI M (30 + 6 * x) f = F x f) ∧ mI M (30 + 6 * x) 4 = (if F x 4 = -1 then 0 else F x 4)
def NDx (M : Mem) (xs : List Int) (x : Nat) : Prop := XE M (31 + 6 * x) 40 xs ∧ RW M (33 + 6 * x) 0 (ord xs) ∧ mI M (30 + 6 * x) 3 = ((ord xs).length : Int)
def LN (M : Mem) (L : List Nat) : Prop := mI M 27 8 = (L.length : Int) ∧ ∀ i x, L[i]? = some x → mR M 29 i = 30 + 6 * x
/-- what is the class's of a tree -/
def TRc (M : Mem) (X : Nat → List Int) (F : FT) (mk : Nat) : Prop := (LN M (lnF F) ∧ mI M 27 9 = (mk : Int)) ∧ (∀ x ∈ lnF F, NDx M (X x) x ∧ NDi M F x ∧ NDr M F x) ∧ ∀ x, x < 120 → (∃ ys, XE M (31 + 6 * x) 40 ys) ∧ ∃ ys, XE M (34 + 6 * x) 100 ys
theorem Tr_indexOf_s (hG : Good M) {A R : List Nat} {k : Nat} (hL : LN M (A ++ (k :: R))) (hA : k ∉ A) (hl : (A ++ (k :: R)).length ≤ 120) : Tr_indexOf 27 (30 + 6 * k) M = some (some (.inl (A.length : Int)), M) := by
  rw [List.length_append, List.length_cons] at hl
  have key : ∀ (t i : Nat), A.length - i = t → i ≤ A.length → Tr_indexOf_2 27 (30 + 6 * k) (i : Int) M = some (some (.inl (A.length : Int)), M) := by
    intro t
    induction t with
    | zero =>
      intro i e1 e2
      have : i = A.length := by omega
      subst this
      have hx := hL.2 A.length k (by rw [List.getElem?_append_right (Nat.le_refl _), Nat.sub_self]; rfl)
      rw [Tr_indexOf_2_eq, hG.gT, gd_t, hL.1, List.length_append, List.length_cons, if_pos (by omega), gd_t, hG.r27_3, hG.a29 (by omega), gd_t, toNat_n, hx, if_pos rfl]
    | succ t ih =>
      intro i e1 e2
      have hi : i < A.length := by omega
      have hx := hL.2 i A[i] (by rw [List.getElem?_append_left hi, List.getElem?_eq_getElem hi])
      have hne : A[i] ≠ k := fun q => hA (q ▸ List.getElem_mem hi)
      rw [Tr_indexOf_2_eq, hG.gT, gd_t, hL.1, List.length_append, List.length_cons, if_pos (by omega), gd_t, hG.r27_3, hG.a29 (by omega), gd_t, toNat_n, hx, if_neg (by omega), wr_s (by omega)]
      exact ih (i + 1) (by omega) (by omega)
  rw [Tr_indexOf_eq]
  exact key _ 0 rfl (Nat.zero_le _)
/-- a node comes into the line -/
theorem Tr_insert_s {A B : List Nat} {m : Nat} (hl : A.length + B.length < 120) (hm : m < 120) (hB : ∀ x ∈ B, x < 120) (d1 d2 : LV) : ∀ (t : Nat) (M : Mem), t ≤ B.length → Good M → mI M 27 8 = ((A.length + B.length : Nat) : Int) → (∀ i x, A[i]? = some x → mR M 29 i = 30 + 6 * x) → (∀ i x, i < t → B[i]? = some x → mR M 29 (A.length + i) = 30 + 6 * x) → (∀ i x, t ≤ i → B[i]? = some x → mR M 29 (A.length + i + 1) = 30 + 6 * x) → ∃ M', Tr_addNode_109 27 (30 + 6 * m) (A.length : Int) ((A.length + t : Nat) : Int) d1 d2 M = some (some (.inl 0), M') ∧ LN M' (A ++ (m :: B)) ∧ Good M' ∧ Fq (fun a k => a = 27 ∧ k = 8) (fun a _ => a = 29) M M' := by
  intro t
  induction t with
  | zero =>
    intro M ht hG h8 hA h1 h2
    have e8 : mI (stR M 29 A.length (30 + 6 * m)) 27 8 = ((A.length + B.length : Nat) : Int) := h8
    rw [Nat.add_zero, Tr_addNode_109_eq, if_neg (by omega), hG.gT, gd_t, hG.r27_3, hG.w29 (by omega) hm, gd_t, gd_t, gd_t, toNat_n, h8, wr_s (by omega)]
    refine ⟨_, rfl, ⟨by rw [mI_at, List.length_append, List.length_cons]; rfl, fun i x hx => ?_⟩, (hG.ofR (by unfold mtb; omega)).fj (Fj.ofI (S := fun a k => a = 27 ∧ k = 8) ⟨rfl, rfl⟩), (Fq.ofR (S := fun a k => a = 27 ∧ k = 8) (R := fun a _ => a = 29) rfl).trans ((Fj.ofI (S := fun a k => a = 27 ∧ k = 8) ⟨rfl, rfl⟩).fq fun a k q => q)⟩
    rw [mR_I, mR_if]
    by_cases q : i < A.length
    · rw [if_neg (by omega)]
      rw [List.getElem?_append_left q] at hx
      exact hA i x hx
    · rw [List.getElem?_append_right (by omega)] at hx
      by_cases q2 : i = A.length
      · subst q2
        rw [Nat.sub_self] at hx
        cases hx
        rw [if_pos ⟨rfl, rfl⟩]
      · rw [if_neg (by omega)]
        obtain ⟨j, hj⟩ : ∃ j, i - A.length = j + 1 := ⟨i - A.length - 1, by omega⟩
        rw [hj, List.getElem?_cons_succ] at hx
        have := h2 j x (Nat.zero_le _) hx
        rw [show A.length + j + 1 = i by omega] at this
        exact this
  | succ t ih =>
    intro M ht hG h8 hA h1 h2
    have htB : t < B.length := by omega
    have hxt := h1 t B[t] (by omega) (List.getElem?_eq_getElem htB)
    have hb := hB B[t] (List.getElem_mem htB)
    have ei : (((A.length + (t + 1) : Nat) : Int) - 1) = ((A.length + t : Nat) : Int) := by omega
    have hG1 : Good (stR M 29 (A.length + (t + 1)) (30 + 6 * B[t])) := hG.ofR (by unfold mtb; omega)
    obtain ⟨M', a1, a2, a3, a4⟩ := ih (stR M 29 (A.length + (t + 1)) (30 + 6 * B[t])) (by omega) hG1 h8 (fun i x hx => by
      have := (List.getElem?_eq_some_iff.mp hx).1
      rw [mR_ne (by omega)]; exact hA i x hx) (fun i x hi hx => by rw [mR_ne (by omega)]; exact h1 i x (by omega) hx) (fun i x hi hx => by
      by_cases q : i = t
      · subst q
        rw [List.getElem?_eq_getElem htB] at hx
        cases hx
        rw [show A.length + i + 1 = A.length + (i + 1) by omega, mR_at]
      · rw [mR_ne (by omega)]
        exact h2 i x (by omega) hx)
    rw [Tr_addNode_109_eq, if_pos (by omega), hG.gT, gd_t, gd_t, hG.r27_3, wr_id (x := ((A.length + (t + 1) : Nat) : Int) - 1) (by omega) (by omega), ei, hG.a29 (by omega), gd_t, toNat_n, hxt, hG.w29 (by omega) hb, gd_t, wr_id (x := ((A.length + (t + 1) : Nat) : Int) + -1) (by omega) (by omega), show ((A.length + (t + 1) : Nat) : Int) + -1 = ((A.length + t : Nat) : Int) by omega, toNat_n, a1]
    exact ⟨M', rfl, a2, a3, (Fq.ofR (S := fun a k => a = 27 ∧ k = 8) (R := fun a _ => a = 29) rfl).trans a4⟩
end NODE

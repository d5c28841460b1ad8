/-! ===== the class: what a call calls with ===== -/
def oth (xs : List Int) (b : Int) : List Int := (ord xs).filter fun v => decide (v ≠ b)
def sid (xs : List Int) (b : Int) : List Int := (if b = -1 then [] else [b]) ++ oth xs b
def lfs (cv n : Nat) (xs : List Int) (b : Int) : List Int := vsq cv n ++ oth xs b
def AR (M : Mem) (vs : List Int) : Prop := mI M 754 2 = (vs.length : Int) ∧ RW M 757 0 vs
def arS : Nat → Nat → Prop := fun a j => a = 757 ∨ (a = 754 ∧ j = 2)
theorem arr_757 : arr 757 0 44 := arr_of _ _ _ (by decide)
theorem oth_len (xs : List Int) (b : Int) : (oth xs b).length ≤ (ord xs).length := List.length_filter_le _ _
section LISTS
variable {M : Mem} {X : Nat → List Int} {F : FT} {mk x : Nat} {vs : List Int}
theorem AR.fj {M1 : Mem} {S : Nat → Nat → Prop} (h : AR M vs) (f : Fj S M M1) (h0 : ∀ j, ¬ S 757 j) (h1 : ¬ S 754 2) : AR M1 vs := ⟨(f.2.2 _ _ h1).trans h.1, h.2.fj f h0⟩
theorem Rs_addArgument_s (hG : Good M) (h : AR M vs) (v : Int) (hl : vs.length < 44) : ∃ M', Rs_addArgument 754 v M = some (none, M') ∧ AR M' (vs ++ [v]) ∧ Good M' ∧ Fj arS M M' := by
  have hF : Fj arS M (stI (stI M 757 vs.length v) 754 2 ((vs.length + 1 : Nat) : Int)) := (Fj.ofI (Or.inl rfl)).trans (Fj.ofI (Or.inr ⟨rfl, rfl⟩))
  refine ⟨_, ?_, ⟨?_, fun i hi => ?_⟩, hG.fj hF, hF⟩
  · rw [Rs_addArgument_eq]
    simp only [hG.gRs, gd_t, h.1, hG.r754_1]
    rw [hG.tgL arr_757 (by decide), gd_t, hG.len arr_757, if_pos (by omega), hG.tgS arr_757 (by omega) (by omega), gd_t, toNat_n, mI_ne (by omega), h.1, wr_s (by omega)]
  · rw [mI_at, List.length_append]; rfl
  · rw [List.length_append, List.length_singleton] at hi
    rw [Nat.zero_add, mI_ne (by omega)]
    by_cases q : i = vs.length
    · subst q; rw [mI_at, nth_app2 (Nat.le_refl _), Nat.sub_self]; rfl
    · rw [mI_ne (by omega), nth_app1 (by omega)]
      have := h.2 i (by omega)
      rwa [Nat.zero_add] at this
theorem Rs_others_loop {os : List Int} {b : Int} (hx : x < 120) (hos : os.length ≤ 40) : ∀ (t i : Nat) (M : Mem) (vs : List Int), os.length - i = t → i ≤ os.length → Good M → RW M (33 + 6 * x) 0 os → mI M (30 + 6 * x) 3 = (os.length : Int) → mI M (30 + 6 * x) 10 = b → AR M vs → vs.length + (os.length - i) ≤ 44 → ∃ M', Rs_listOthers_2 754 (30 + 6 * x) (i : Int) M = some (none, M') ∧ AR M' (vs ++ (os.drop i).filter fun v => decide (v ≠ b)) ∧ Good M' ∧ Fj arS M M' := by
  intro t
  induction t with
  | zero =>
    intro i M vs h1 h2 hG hR h3 h10 hA hl
    refine ⟨M, ?_, ?_, hG, Fj.refl⟩
    · rw [Rs_listOthers_2_eq, hG.nd hx, gd_t, h3, if_neg (by omega)]
    · rw [List.drop_eq_nil_of_le (by omega), List.filter_nil, List.append_nil]; exact hA
  | succ t ih =>
    intro i M vs h1 h2 hG hR h3 h10 hA hl
    have hi : i < os.length := by omega
    have hq := (hG.ndr hx).2.1
    have o33 := (isN_at hx).2.2.1
    have hc := hR i hi
    rw [Nat.zero_add] at hc
    have hd : os.drop i = nth os i :: os.drop (i + 1) := by rw [nth_lt hi]; exact List.drop_eq_getElem_cons hi
    have o33 : arr (33 + 6 * x) 0 40 := by rw [show 33 + 6 * x = 30 + 6 * x + 3 by omega]; exact o33
    have head : Rs_listOthers_2 754 (30 + 6 * x) (i : Int) M = if nth os i = b then Rs_listOthers_2 754 (30 + 6 * x) ((i + 1 : Nat) : Int) M else cV (Rs_addArgument 754 (nth os i) M) fun M1 => Rs_listOthers_2 754 (30 + 6 * x) ((i + 1 : Nat) : Int) M1 := by
      rw [Rs_listOthers_2_eq, hG.nd hx, gd_t, h3, if_pos (by omega), gd_t, hq, hG.tgL o33 (by decide), gd_t, hG.len o33, if_pos (by omega), gd_t, hG.tgS o33 (by omega) (by omega), gd_t, gd_t, toNat_n, hc, h10, gd_t, gd_t, hG.gRs, gd_t, wr_s (by omega)]
    rw [head, hd]
    by_cases q : nth os i = b
    · rw [if_pos q]
      obtain ⟨M', a1, a2, a3, a4⟩ := ih (i + 1) M vs (by omega) (by omega) hG hR h3 h10 hA (by omega)
      rw [a1, List.filter_cons_of_neg (by rw [decide_eq_true_eq]; exact fun h => h q)]
      exact ⟨M', rfl, a2, a3, a4⟩
    · rw [if_neg q]
      obtain ⟨M1, b1, b2, b3, b4⟩ := Rs_addArgument_s hG hA (nth os i) (by omega)
      obtain ⟨M', a1, a2, a3, a4⟩ := ih (i + 1) M1 (vs ++ [nth os i]) (by omega) (by omega) b3 (hR.fj b4 (fun k => by unfold arS; omega)) ((b4.2.2 _ _ (by unfold arS; omega)).trans h3) ((b4.2.2 _ _ (by unfold arS; omega)).trans h10) b2 (by rw [List.length_append, List.length_singleton]; omega)
      rw [b1, cV_s, a1, List.filter_cons_of_pos (by rw [decide_eq_true_eq]; exact q)]
      rw [List.append_assoc] at a2
      exact ⟨M', rfl, a2, a3, b4.trans a4⟩
theorem Rs_others_s (hG : Good M) (hR : TRc M X F mk) (hT : TI F mk) (hx : x ∈ lnF F) (hl : (X x).length ≤ 40) (hA : AR M vs) (hv : vs.length + (ord (X x)).length ≤ 44) : ∃ M', Rs_listOthers 754 (30 + 6 * x) M = some (none, M') ∧ AR M' (vs ++ oth (X x) (F x 10)) ∧ Good M' ∧ Fj arS M M' := by
  have hxm := hT.1.2.1 x hx
  have hm := hT.1.2.2
  obtain ⟨⟨-, p2, p3⟩, ⟨p4, -⟩, -⟩ := hR.2.1 x hx
  have := ord_len (X x)
  obtain ⟨M', a1, a2⟩ := Rs_others_loop (os := ord (X x)) (x := x) (by omega) (by omega) _ 0 M vs rfl (Nat.zero_le _) hG p2 p3 (p4 10 (by unfold nf; omega)) hA (by omega)
  rw [List.drop_zero] at a2
  exact ⟨M', by rw [Rs_listOthers_eq]; exact a1, a2⟩
theorem AR.nil (hG : Good M) : AR (stI M 754 2 0) [] ∧ Good (stI M 754 2 0) ∧ Fj arS M (stI M 754 2 0) := by
  have f : Fj arS M (stI M 754 2 0) := Fj.ofI (Or.inr ⟨rfl, rfl⟩)
  exact ⟨⟨mI_at, fun i hi => absurd hi (Nat.not_lt_zero i)⟩, hG.fj f, f⟩
theorem TRc.fjo {M1 : Mem} {A : Nat → Nat → Prop} (h : TRc M X F mk) (hT : TI F mk) (f : Fj A M M1) (h0 : ∀ a j, (30 ≤ a ∧ a < 750) ∨ (a = 27 ∧ (j = 8 ∨ j = 9)) → ¬ A a j) : TRc M1 X F mk := h.fq hT (f.fq (R := nor) fun a j q => q) h0 fun a j _ q => q
theorem Rs_listArguments_s (hG : Good M) (hR : TRc M X F mk) (hT : TI F mk) (hx : x ∈ lnF F) (hl : (X x).length ≤ 40) : ∃ M', Rs_listArguments 754 (30 + 6 * x) M = some (none, M') ∧ AR M' (sid (X x) (F x 10)) ∧ Good M' ∧ Fj arS M M' := by
  have hxm := hT.1.2.1 x hx
  have hm := hT.1.2.2
  have ho := ord_len (X x)
  obtain ⟨n1, n2, n3⟩ := AR.nil hG
  have hR1 := hR.fjo hT n3 fun a j q => by unfold arS; omega
  have i10 : mI (stI M 754 2 0) (30 + 6 * x) 10 = F x 10 := (hR1.2.1 x hx).2.1.1 10 (by unfold nf; omega)
  have head : Rs_listArguments 754 (30 + 6 * x) M = if F x 10 = -1 then cV (Rs_listOthers 754 (30 + 6 * x) (stI M 754 2 0)) fun M1 => some (none, M1) else cV (Rs_addArgument 754 (F x 10) (stI M 754 2 0)) fun M2 => gd (gO M2 754 7) (cV (Rs_listOthers 754 (30 + 6 * x) M2) fun M3 => some (none, M3)) := by
    rw [Rs_listArguments_eq, hG.gRs, gd_t, hG.nd (by omega), gd_t, i10, gd_t, gd_t, gd_t]
  rw [head]
  unfold sid
  by_cases q : F x 10 = -1
  · obtain ⟨M', a1, a2, a3, a4⟩ := Rs_others_s n2 hR1 hT hx hl n1 (by rw [List.length_nil]; omega)
    rw [if_pos q, if_pos q, a1, cV_s]
    exact ⟨M', rfl, a2, a3, n3.trans a4⟩
  · obtain ⟨M1, b1, b2, b3, b4⟩ := Rs_addArgument_s n2 n1 (F x 10) (by rw [List.length_nil]; omega)
    have hR2 := hR1.fjo hT b4 fun a j q => by unfold arS; omega
    obtain ⟨M', a1, a2, a3, a4⟩ := Rs_others_s b3 hR2 hT hx hl b2 (by rw [List.length_append, List.length_nil, List.length_singleton]; omega)
    rw [if_neg q, if_neg q, b1, cV_s, b3.gRs, gd_t, a1, cV_s]
    exact ⟨M', rfl, a2, a3, (n3.trans b4).trans a4⟩
theorem Rs_left_loop {n cv y : Nat} {con : Int} (hT : TI F mk) (hx : x ∈ lnF F) (hy : y ∈ lnF F) (hl : (X x).length ≤ 40) (hn : n ≤ 4) (hcv : cv < 65536) (hcon : InR con) (han : ar con = (n : Int)) (h11 : F y 11 = con) (h12 : F y 12 = (cv : Int)) : ∀ (t i : Nat) (M : Mem), n - i = t → i ≤ n → Good M → TRc M X F mk → AR M (vsq cv i) → ∃ M', Rs_listLeftVars_7 754 (30 + 6 * x) (30 + 6 * y) (i : Int) M = some (none, M') ∧ AR M' (lfs cv n (X x) (F x 10)) ∧ Good M' ∧ Fj arS M M' := by
  have hym := hT.1.2.1 y hy
  have hm := hT.1.2.2
  intro t
  induction t with
  | zero =>
    intro i M h1 h2 hG hR hA
    have : i = n := by omega
    subst this
    have i11 : mI M (30 + 6 * y) 11 = con := ((hR.2.1 y hy).2.1.1 11 (by unfold nf; omega)).trans h11
    have ho := ord_len (X x)
    obtain ⟨M', a1, a2, a3, a4⟩ := Rs_others_s hG hR hT hx hl hA (by rw [vsq_len]; omega)
    refine ⟨M', ?_, a2, a3, a4⟩
    rw [Rs_listLeftVars_7_eq, hG.nd (by omega), gd_t, i11, Ex_arity_s hcon, cI_s, han, if_neg (by omega), hG.gRs, gd_t, a1, cV_s]
  | succ t ih =>
    intro i M h1 h2 hG hR hA
    have i11 : mI M (30 + 6 * y) 11 = con := ((hR.2.1 y hy).2.1.1 11 (by unfold nf; omega)).trans h11
    have i12 : mI M (30 + 6 * y) 12 = (cv : Int) := ((hR.2.1 y hy).2.1.1 12 (by unfold nf; omega)).trans h12
    obtain ⟨M1, b1, b2, b3, b4⟩ := Rs_addArgument_s hG hA ((cv : Int) + (i : Int)) (by rw [vsq_len]; omega)
    rw [← vsq_s] at b2
    obtain ⟨M', a1, a2, a3, a4⟩ := ih (i + 1) M1 (by omega) (by omega) b3 (hR.fjo hT b4 fun a j q => by unfold arS; omega) b2
    refine ⟨M', ?_, a2, a3, b4.trans a4⟩
    rw [Rs_listLeftVars_7_eq, hG.nd (by omega), gd_t, i11, Ex_arity_s hcon, cI_s, han, if_pos (by omega), hG.nd (by omega), gd_t, hG.gRs, gd_t, i12, wr_id (x := (cv : Int) + (i : Int)) (by omega) (by omega), b1, cV_s, wr_s (by omega), a1]
theorem Rs_left_s {n cv y : Nat} {con : Int} (hG : Good M) (hR : TRc M X F mk) (hT : TI F mk) (hx : x ∈ lnF F) (hy : y ∈ lnF F) (hl : (X x).length ≤ 40) (hn : n ≤ 4) (hcv : cv < 65536) (hcon : InR con) (han : ar con = (n : Int)) (h11 : F y 11 = con) (h12 : F y 12 = (cv : Int)) : ∃ M', Rs_listLeftVars 754 (30 + 6 * x) (30 + 6 * y) M = some (none, M') ∧ AR M' (lfs cv n (X x) (F x 10)) ∧ Good M' ∧ Fj arS M M' := by
  obtain ⟨n1, n2, n3⟩ := AR.nil hG
  obtain ⟨M', a1, a2, a3, a4⟩ := Rs_left_loop hT hx hy hl hn hcv hcon han h11 h12 _ 0 _ rfl (Nat.zero_le _) n2 (hR.fjo hT n3 fun a j q => by unfold arS; omega) n1
  refine ⟨M', ?_, a2, a3, n3.trans a4⟩
  have a1 : Rs_listLeftVars_7 754 (30 + 6 * x) (30 + 6 * y) 0 (stI M 754 2 0) = some (none, M') := a1
  rw [Rs_listLeftVars_eq, hG.gRs, gd_t, a1]
end LISTS

/-! ===== the class: the nodes that become functions ===== -/
abbrev isFn (F : FT) (x : Nat) : Prop := F x 4 = 3 ∨ (F x 4 = 2 ∧ ¬ F x 13 = 0)
def fnF : FT → List Nat → Nat → FT
  | F, [], _ => F
  | F, x :: R, n => if isFn F x then fnF (upF F x 9 (n : Int)) R (n + 1) else fnF F R n
/-- how many, how many clauses, the most VARS -/
def nmf (X : Nat → List Int) (F : FT) : List Nat → Nat → Nat → Nat → Nat × Nat × Nat
  | [], f, c, m => (f, c, m)
  | x :: R, f, c, m => if isFn F x then nmf X F R (f + 1) (c + nkc F x) (if m < (ord (X x)).length then (ord (X x)).length else m) else nmf X F R f c m
theorem fnF_ne (L : List Nat) : ∀ (F : FT) (n x f : Nat), f ≠ 9 → fnF F L n x f = F x f := by
  induction L with
  | nil => intro F n x f _; rfl
  | cons a L ih =>
    intro F n x f h
    unfold fnF
    split
    · rw [ih _ _ _ _ h]; exact upF_ne (by omega)
    · exact ih _ _ _ _ h
theorem fnF_out (L : List Nat) : ∀ (F : FT) (n x f : Nat), x ∉ L → fnF F L n x f = F x f := by
  induction L with
  | nil => intro F n x f _; rfl
  | cons a L ih =>
    intro F n x f h
    have h1 : x ≠ a := fun q => h (by rw [q]; simp)
    have h2 : x ∉ L := fun q => h (List.mem_cons_of_mem _ q)
    unfold fnF
    split
    · rw [ih _ _ _ _ h2]; exact upF_ne (by omega)
    · exact ih _ _ _ _ h2
theorem isFn_up {F : FT} {y m : Nat} {v : Int} : isFn (upF F m 9 v) y ↔ isFn F y := by
  unfold isFn
  rw [upF_ne (by omega), upF_ne (by omega)]
theorem nmf_up {X : Nat → List Int} {F : FT} {m : Nat} {v : Int} (L : List Nat) : ∀ (f c k : Nat), nmf X (upF F m 9 v) L f c k = nmf X F L f c k := by
  induction L with
  | nil => intro f c k; rfl
  | cons a L ih =>
    intro f c k
    unfold nmf
    have e : nkc (upF F m 9 v) a = nkc F a := by unfold nkc; rw [upF_ne (by omega)]
    by_cases q : isFn F a
    · rw [if_pos q, if_pos (isFn_up.mpr q), ih, e]
    · rw [if_neg q, if_neg (fun h => q (isFn_up.mp h)), ih]
/-- what 9 is: none, or the function's number -/
theorem fnF_9 (L : List Nat) : ∀ (F : FT) (n x : Nat), L.Nodup → x ∈ L → (isFn F x → ∃ k, n ≤ k ∧ k < n + L.length ∧ fnF F L n x 9 = (k : Int)) ∧ (¬ isFn F x → fnF F L n x 9 = F x 9) := by
  induction L with
  | nil => intro F n x _ h; cases h
  | cons a L ih =>
    intro F n x hn hx
    obtain ⟨n1, n2⟩ := List.nodup_cons.mp hn
    unfold fnF
    by_cases e : x = a
    · subst e
      constructor
      · intro q
        rw [if_pos q, fnF_out _ _ _ _ _ n1, upF_at]
        exact ⟨n, Nat.le_refl _, by rw [List.length_cons]; omega, rfl⟩
      · intro q
        rw [if_neg q, fnF_out _ _ _ _ _ n1]
    · have hx2 : x ∈ L := (List.mem_cons.mp hx).resolve_left e
      by_cases q : isFn F a
      · rw [if_pos q]
        obtain ⟨i1, i2⟩ := ih (upF F a 9 (n : Int)) (n + 1) x n2 hx2
        refine ⟨fun h => ?_, fun h => ?_⟩
        · obtain ⟨k, k1, k2, k3⟩ := i1 (isFn_up.mpr h)
          exact ⟨k, by omega, by rw [List.length_cons]; omega, k3⟩
        · rw [i2 (fun g => h (isFn_up.mp g))]
          exact upF_ne (fun q => e q.1)
      · rw [if_neg q]
        obtain ⟨i1, i2⟩ := ih F n x n2 hx2
        refine ⟨fun h => ?_, i2⟩
        obtain ⟨k, k1, k2, k3⟩ := i1 h
        exact ⟨k, k1, by rw [List.length_cons]; omega, k3⟩
def nst (c m : Nat) : Int := if 8 < m then -4 else if 40 < c then -5 else 0
theorem obj_Rs : obj 754 7 := obj_of _ _ (by decide)
theorem Good.gRs {M : Mem} (h : Good M) : gO M 754 7 = true := h.tgO obj_Rs
theorem Good.l29 {M : Mem} {m : Nat} (h : Good M) : gL m M 29 = true ∧ alen M 29 = 120 := ⟨h.tgL arr_29 (by decide), h.len arr_29⟩
section NAMES
variable {M : Mem} {X : Nat → List Int} {F : FT} {mk : Nat}
theorem Tr_nodeAt_s (hG : Good M) (hT : TI F mk) (hR : TRc M X F mk) {i x : Nat} (hx : (lnF F)[i]? = some x) : Tr_nodeAt 27 (i : Int) M = some (some (.inr (30 + 6 * x)), M) := by
  have hi := (List.getElem?_eq_some_iff.mp hx).1
  have hlen := hT.len
  have hm := hT.1.2.2
  have h8 := hR.1.1.1
  have hr := hR.1.1.2 i x hx
  rw [Tr_nodeAt_eq, if_neg (by omega), hG.gT, gd_t, h8, if_pos (by omega), gd_t, hG.r27_3, hG.l29.1, gd_t, (hG.l29 (m := 117)).2, if_pos (by omega), gd_t, hG.a29 (by omega), gd_t, toNat_n, hr]
theorem Rs_name_loop : ∀ (B A : List Nat) (M : Mem) (F : FT) (f c m : Nat) (d5 : LV), Good M → TI F mk → TRc M X F mk → lnF F = A ++ B → (∀ x ∈ B, 0 ≤ F x 4 ∧ (ord (X x)).length ≤ 40 ∧ F x 8 ≤ 120 ∧ 0 ≤ F x 8) → mI M 754 3 = (f : Int) → f ≤ A.length ∧ c ≤ 120 * A.length → m ≤ 40 → ∃ M', Rs_nameFunctions_12 754 27 (c : Int) (m : Int) (A.length : Int) d5 M = some (some (.inl (nst (nmf X F B f c m).2.1 (nmf X F B f c m).2.2)), M') ∧ TRc M' X (fnF F B f) mk ∧ mI M' 754 3 = ((nmf X F B f c m).1 : Int) ∧ Good M' ∧ Fj (fun a j => (30 ≤ a ∧ a < 750 ∧ j = 9) ∨ (a = 754 ∧ j = 3)) M M' := by
  intro B
  induction B with
  | nil =>
    intro A M F f c m d5 hG hT hR hL hV h3 hf hm
    have h8 := hR.1.1.1
    rw [hL, List.append_nil] at h8
    refine ⟨M, ?_, hR, h3, hG, Fj.refl⟩
    rw [Rs_nameFunctions_12_eq, hG.gT, gd_t, h8, if_neg (by omega)]
    unfold nmf nst
    by_cases q : 8 < m
    · rw [if_pos (by omega), if_pos q]
    · rw [if_neg (by omega), if_neg q]
      by_cases q2 : 40 < c
      · rw [if_pos (by omega), if_pos q2]
      · rw [if_neg (by omega), if_neg q2]
  | cons x B ih =>
    intro A M F f c m d5 hG hT hR hL hV h3 hf hm
    have hlen := hT.len
    have hll : (lnF F).length = A.length + (B.length + 1) := by rw [hL]; simp
    have hm120 := hT.1.2.2
    have hxL : x ∈ lnF F := by rw [hL]; simp
    have hxm := hT.1.2.1 x hxL
    have h8 := hR.1.1.1
    obtain ⟨v1, v2, v3, v4⟩ := hV x (by simp)
    obtain ⟨⟨-, -, p1⟩, ⟨p2, p3⟩, -⟩ := hR.2.1 x hxL
    have i4 : mI M (30 + 6 * x) 4 = F x 4 := by rw [p3, if_neg (by omega)]
    have i13 : mI M (30 + 6 * x) 13 = F x 13 := p2 13 (by unfold nf; omega)
    have i8 : mI M (30 + 6 * x) 8 = F x 8 := p2 8 (by unfold nf; omega)
    have gn := hG.nd (x := x) (by omega)
    have isf : Rs_isFunction (30 + 6 * x) M = some (some (.inl (if isFn F x then 1 else 0)), M) := by
      rw [Rs_isFunction_eq, gn, gd_t, i4, gd_t, gd_t, i13]
      unfold isFn
      by_cases q : F x 4 = 3
      · rw [if_pos q, if_pos (show F x 4 = 3 ∨ (F x 4 = 2 ∧ ¬ F x 13 = 0) from Or.inl q)]
      · rw [if_neg q]
        by_cases q2 : F x 4 = 2
        · rw [if_pos q2]
          by_cases q3 : F x 13 = 0
          · rw [if_pos q3, if_neg (show ¬ (F x 4 = 3 ∨ (F x 4 = 2 ∧ ¬ F x 13 = 0)) by omega)]
          · rw [if_neg q3, if_pos (show F x 4 = 3 ∨ (F x 4 = 2 ∧ ¬ F x 13 = 0) by omega)]
        · rw [if_neg q2, if_neg (show ¬ (F x 4 = 3 ∨ (F x 4 = 2 ∧ ¬ F x 13 = 0)) by omega)]
    have hna := Tr_nodeAt_s hG hT hR (i := A.length) (x := x) (by rw [hL]; simp)
    have hl1 : (A ++ [x]).length = A.length + 1 := by simp
    have hb := hf.1
    have hc := hf.2
    unfold nmf fnF
    by_cases q : isFn F x
    · rw [if_pos q, if_pos q]
      rw [if_pos q] at isf
      have f1 : Fj (fun a j => (30 ≤ a ∧ a < 750 ∧ j = 9) ∨ (a = 754 ∧ j = 3)) M (stI M (30 + 6 * x) 9 (f : Int)) := Fj.ofI (by omega)
      have f2 : Fj (fun a j => (30 ≤ a ∧ a < 750 ∧ j = 9) ∨ (a = 754 ∧ j = 3)) (stI M (30 + 6 * x) 9 (f : Int)) (stI (stI M (30 + 6 * x) 9 (f : Int)) 754 3 ((f + 1 : Nat) : Int)) := Fj.ofI (by omega)
      have f3 : Fq (fun a j => a = 754 ∧ j = 3) nor (stI M (30 + 6 * x) 9 (f : Int)) (stI (stI M (30 + 6 * x) 9 (f : Int)) 754 3 ((f + 1 : Nat) : Int)) := (Fj.ofI (S := fun a j => a = 754 ∧ j = 3) ⟨rfl, rfl⟩).fq fun a j q => q
      have hG2 := (hG.fj f1).fj f2
      obtain ⟨hT2, hl2⟩ := hT.up1 (m := x) (f := 9) (v := (f : Int)) (by omega)
      have hR2 := (hR.setI hT (m := x) (f := 9) (v := (f : Int)) (by omega) (by omega)).fq hT2 f3 (by omega) (fun a j _ q => q)
      have e8 : mI (stI (stI M (30 + 6 * x) 9 (f : Int)) 754 3 ((f + 1 : Nat) : Int)) (30 + 6 * x) 8 = (nkc F x : Int) := by
        rw [mI_ne (by omega), mI_ne (by omega), i8]; unfold nkc; omega
      have e3 : mI (stI (stI M (30 + 6 * x) 9 (f : Int)) 754 3 ((f + 1 : Nat) : Int)) (30 + 6 * x) 3 = ((ord (X x)).length : Int) := by
        rw [mI_ne (by omega), mI_ne (by omega), p1]
      have hkc : nkc F x ≤ 120 := by unfold nkc; omega
      have em : (if (m : Int) < ((ord (X x)).length : Int) then ((ord (X x)).length : Int) else (m : Int)) = ((if m < (ord (X x)).length then (ord (X x)).length else m : Nat) : Int) := by
        by_cases z : m < (ord (X x)).length
        · rw [if_pos (by omega), if_pos z]
        · rw [if_neg (by omega), if_neg z]
      have hm2 : (if m < (ord (X x)).length then (ord (X x)).length else m) ≤ 40 := by split <;> omega
      generalize hmm : (if m < (ord (X x)).length then (ord (X x)).length else m) = m2 at *
      obtain ⟨M', a1, a2, a3, a4, a5⟩ := ih (A ++ [x]) _ (upF F x 9 (f : Int)) (f + 1) (c + nkc F x) m2 (some (.inr (30 + 6 * x))) hG2 hT2 hR2 (by rw [hl2, hL]; simp) (fun y hy => by rw [upF_ne (by omega), upF_ne (by omega)]; exact hV y (List.mem_cons_of_mem _ hy)) mI_at ⟨by rw [hl1]; omega, by rw [hl1]; omega⟩ hm2
      rw [hl1, nmf_up] at a1
      rw [nmf_up] at a3
      have e9 : wr (mI (stI M (30 + 6 * x) 9 (f : Int)) 754 3 + 1) = ((f + 1 : Nat) : Int) := by rw [mI_ne (by omega), h3, wr_s (by omega)]
      rw [Rs_nameFunctions_12_eq, hG.gT, gd_t, h8, if_pos (by omega), gd_t, hna, cR_s, if_neg (by omega), isf, cI_s, if_neg (by decide), hG.gRs, gd_t, gn, gd_t, gd_t, gd_t, gd_t, gd_t, h3, e9, e8, e3, em, wr_s (by omega), wr_id (x := (c : Int) + (nkc F x : Int)) (by omega) (by omega), show (c : Int) + (nkc F x : Int) = ((c + nkc F x : Nat) : Int) by omega, a1]
      exact ⟨M', rfl, a2, a3, a4, (f1.trans f2).trans a5⟩
    · rw [if_neg q, if_neg q]
      rw [if_neg q] at isf
      obtain ⟨M', a1, a2, a3, a4, a5⟩ := ih (A ++ [x]) M F f c m (some (.inr (30 + 6 * x))) hG hT hR (by rw [hL]; simp) (fun y hy => hV y (List.mem_cons_of_mem _ hy)) h3 ⟨by rw [hl1]; omega, by rw [hl1]; omega⟩ hm
      rw [hl1] at a1
      rw [Rs_nameFunctions_12_eq, hG.gT, gd_t, h8, if_pos (by omega), gd_t, hna, cR_s, if_neg (by omega), isf, cI_s, if_pos rfl, wr_s (by omega), a1]
      exact ⟨M', rfl, a2, a3, a4, a5⟩
end NAMES

/-! ===== the class: the new program ===== -/
def mcx (X : Nat → List Int) (F : FT) (C : Nat → List Int) (x : Nat) : List Clz := if F x 9 = -1 then [] else (List.range (nkc F x)).map fun j => mkz X F C x (nfk F x + j)
section NEWPROG
variable {X : Nat → List Int} {F : FT} {mk P : Nat} {C : Nat → List Int}
/-- what every node needs -/
def MQx (X : Nat → List Int) (F : FT) (C : Nat → List Int) (x : Nat) : Prop := ((X x).length ≤ 40 ∧ (0 ≤ F x 4 ∧ F x 4 ≤ 6) ∧ (-1 ≤ F x 9 ∧ F x 9 < 120)) ∧ (F x 9 ≠ -1 → ∀ j, j < nkc F x → MK X F x (nfk F x + j)) ∧ av (C x)
theorem Rs_clauses_kids {x : Nat} (hP : 772 < P) (hT : TI F mk) (hx : x ∈ lnF F) (hQ : ∀ y ∈ lnF F, MQx X F C y) (h9 : F x 9 ≠ -1) {i3 : Int} : ∀ (t j : Nat) (M : Mem) (zs : List Clz), nkc F x - j = t → j < nkc F x → Good M → TRc M X F mk → PRx M P zs → zs.length + t ≤ 40 → (∀ y ∈ lnF F, XE M (34 + 6 * y) 100 (C y)) → ∃ M' d5, Rs_makeClauses_42 754 27 P i3 (30 + 6 * x) (30 + 6 * (nfk F x + j)) M = Rs_makeClauses_6 754 27 P (wr (i3 + 1)) (some (.inr (30 + 6 * x))) d5 M' ∧ PRx M' P (zs ++ (List.range' j t).map fun j => mkz X F C x (nfk F x + j)) ∧ Good M' ∧ Fj (mzS P) M M' := by
  have hm := hT.1.2.2
  obtain ⟨⟨q1, q2, q3⟩, q4, -⟩ := hQ x hx
  intro t
  induction t with
  | zero => intro j M zs h1 h2; omega
  | succ t ih =>
    intro j M zs h1 h2 hG hR hp hl hC
    have hk := hT.kid hx h2
    have hkm := hT.1.2.1 _ hk
    obtain ⟨M1, a1, a2, a3, a4⟩ := Rs_clause_s (C := C) hP hG hR hT hx hk q1 q2 q3 (q4 h9 j h2) hp (by omega) ⟨hC _ hk, (hQ _ hk).2.2⟩
    have hR1 := hR.fjo hT a4 fun a j q => by unfold mzS arS pS; omega
    have hn := kid_next hT hR1 hx h2
    have hC1 : ∀ y ∈ lnF F, XE M1 (34 + 6 * y) 100 (C y) := fun y hy => (hC y hy).ext fun a k q => a4.2.2 a k (by have := hT.1.2.1 y hy; unfold mzS arS pS; omega)
    have head : Rs_makeClauses_42 754 27 P i3 (30 + 6 * x) (30 + 6 * (nfk F x + j)) M = Rs_makeClauses_42 754 27 P i3 (30 + 6 * x) (if j + 1 < nkc F x then 30 + 6 * (nfk F x + (j + 1)) else 0) M1 := by
      rw [Rs_makeClauses_42_eq, if_neg (by omega), hG.gRs, gd_t, a1, cV_s, a3.nd (by omega), gd_t, hn]
    rw [head, List.range'_succ, List.map_cons]
    by_cases q : j + 1 < nkc F x
    · obtain ⟨M', d5, b1, b2, b3, b4⟩ := ih (j + 1) M1 (zs ++ [mkz X F C x (nfk F x + j)]) (by omega) q a3 hR1 a2 (by rw [List.length_append, List.length_singleton]; omega) hC1
      rw [if_pos q, b1]
      rw [List.append_assoc] at b2
      exact ⟨M', d5, rfl, b2, b3, a4.trans b4⟩
    · have : t = 0 := by omega
      subst this
      rw [if_neg q, Rs_makeClauses_42_eq, if_pos rfl]
      exact ⟨M1, _, rfl, a2, a3, a4⟩
theorem Rs_clauses_loop (hP : 772 < P) (hT : TI F mk) (hQ : ∀ y ∈ lnF F, MQx X F C y) : ∀ (B A : List Nat) (M : Mem) (zs : List Clz) (d4 d5 : LV), lnF F = A ++ B → Good M → TRc M X F mk → PRx M P zs → zs.length + (B.flatMap (mcx X F C)).length ≤ 40 → (∀ y ∈ lnF F, XE M (34 + 6 * y) 100 (C y)) → ∃ M', Rs_makeClauses_6 754 27 P (A.length : Int) d4 d5 M = some (none, M') ∧ PRx M' P (zs ++ B.flatMap (mcx X F C)) ∧ Good M' ∧ Fj (mzS P) M M' := by
  have hm := hT.1.2.2
  have hlen := hT.len
  intro B
  induction B with
  | nil =>
    intro A M zs d4 d5 hL hG hR hp hl hC
    have h8 := hR.1.1.1
    rw [hL, List.append_nil] at h8
    refine ⟨M, ?_, by rw [List.flatMap_nil, List.append_nil]; exact hp, hG, Fj.refl⟩
    rw [Rs_makeClauses_6_eq, hG.gT, gd_t, h8, if_neg (by omega)]
  | cons x B ih =>
    intro A M zs d4 d5 hL hG hR hp hl hC
    have hx : x ∈ lnF F := by rw [hL]; simp
    have hxm := hT.1.2.1 x hx
    have hll : (lnF F).length = A.length + (B.length + 1) := by rw [hL]; simp
    have h8 := hR.1.1.1
    obtain ⟨⟨q1, q2, q3⟩, q4, -⟩ := hQ x hx
    have hna := Tr_nodeAt_s hG hT hR (i := A.length) (x := x) (by rw [hL]; simp)
    obtain ⟨-, ⟨p4, -⟩, -, ⟨p8, -⟩, -⟩ := hR.2.1 x hx
    have i9 : mI M (30 + 6 * x) 9 = F x 9 := p4 9 (by unfold nf; omega)
    have h08 := (hT.2.1 x hx).1
    have hl1 : (A ++ [x]).length = A.length + 1 := by simp
    rw [List.flatMap_cons, List.length_append] at hl
    have head : Rs_makeClauses_6 754 27 P (A.length : Int) d4 d5 M = if F x 9 = -1 then Rs_makeClauses_6 754 27 P ((A.length + 1 : Nat) : Int) (some (.inr (30 + 6 * x))) d5 M else Rs_makeClauses_42 754 27 P (A.length : Int) (30 + 6 * x) (if F x 8 = 0 then 0 else 30 + 6 * nfk F x) M := by
      rw [Rs_makeClauses_6_eq, hG.gT, gd_t, h8, if_pos (by omega), gd_t, hna, cR_s, if_neg (by omega), hG.nd (by omega), gd_t, gd_t, i9, p8, wr_s (by omega)]
    rw [head]
    by_cases q : F x 9 = -1
    · have e : mcx X F C x = [] := if_pos q
      rw [e, List.length_nil] at hl
      obtain ⟨M', a1, a2, a3, a4⟩ := ih (A ++ [x]) M zs (some (.inr (30 + 6 * x))) d5 (by rw [hL]; simp) hG hR hp (by omega) hC
      rw [hl1] at a1
      rw [if_pos q, a1, List.flatMap_cons, e, List.nil_append]
      exact ⟨M', rfl, a2, a3, a4⟩
    · have e : mcx X F C x = (List.range (nkc F x)).map fun j => mkz X F C x (nfk F x + j) := if_neg q
      have el : (mcx X F C x).length = nkc F x := by rw [e, List.length_map, List.length_range]
      rw [if_neg q]
      by_cases g : F x 8 = 0
      · have en := (nkc_0 g).1
        have e0 : mcx X F C x = [] := by rw [e, en]; rfl
        rw [e0, List.length_nil] at hl
        obtain ⟨M', a1, a2, a3, a4⟩ := ih (A ++ [x]) M zs (some (.inr (30 + 6 * x))) (some (.inr 0)) (by rw [hL]; simp) hG hR hp (by omega) hC
        rw [hl1] at a1
        rw [if_pos g, Rs_makeClauses_42_eq, if_pos rfl, wr_s (by omega), a1, List.flatMap_cons, e0, List.nil_append]
        exact ⟨M', rfl, a2, a3, a4⟩
      · have hk : 0 < nkc F x := by unfold nkc; omega
        obtain ⟨M1, d5', b1, b2, b3, b4⟩ := Rs_clauses_kids (i3 := (A.length : Int)) hP hT hx hQ q _ 0 M zs rfl hk hG hR hp (by omega) hC
        rw [Nat.sub_zero, ← List.range_eq_range', ← e] at b2
        have hR1 := hR.fjo hT b4 fun a j q => by unfold mzS arS pS; omega
        obtain ⟨M', a1, a2, a3, a4⟩ := ih (A ++ [x]) M1 (zs ++ mcx X F C x) (some (.inr (30 + 6 * x))) d5' (by rw [hL]; simp) b3 hR1 b2 (by rw [List.length_append]; omega) fun y hy => (hC y hy).ext fun a k q => b4.2.2 a k (by have := hT.1.2.1 y hy; unfold mzS arS pS; omega)
        rw [hl1] at a1
        rw [Nat.add_zero] at b1
        rw [if_neg g, b1, wr_s (by omega), a1, List.flatMap_cons, ← List.append_assoc]
        exact ⟨M', rfl, a2, a3, b4.trans a4⟩
theorem Rs_makeClauses_s {M : Mem} {ws : List Clz} (hP : 772 < P) (hG : Good M) (hR : TRc M X F mk) (hT : TI F mk) (hQ : ∀ y ∈ lnF F, MQx X F C y) (hp : PRx M P ws) (hl : ((lnF F).flatMap (mcx X F C)).length ≤ 40) (hC : ∀ y ∈ lnF F, XE M (34 + 6 * y) 100 (C y)) : ∃ M', Rs_makeClauses 754 27 P M = some (none, M') ∧ PRx M' P ((lnF F).flatMap (mcx X F C)) ∧ Good M' ∧ Fj (mzS P) M M' := by
  have hm := hT.1.2.2
  obtain ⟨M1, a1, a2, a3⟩ := Pr_clear_s hG hp.1
  have f1 : Fj (fun a _ => a = P) M M1 := a3.fj fun a j q => q
  have hG1 := hG.fi a3
  have hp1 : PRx M1 P [] := ⟨a2, fun i hi => by
    obtain ⟨z, hz⟩ := hp.2 i hi
    exact ⟨z, hz.fjo f1 fun a k q => by omega⟩⟩
  obtain ⟨M', b1, b2, b3, b4⟩ := Rs_clauses_loop (C := C) hP hT hQ (lnF F) [] M1 [] none none rfl hG1 (hR.fjo hT f1 fun a j q => by omega) hp1 (by rw [List.length_nil]; omega) fun y hy => (hC y hy).ext fun a k q => f1.2.2 a k (by have := hT.1.2.1 y hy; omega)
  have b1 : Rs_makeClauses_6 754 27 P 0 none none M1 = some (none, M') := b1
  refine ⟨M', by rw [Rs_makeClauses_eq, hp.1.g hG, gd_t, a1, cV_s, b1], b2, b3, (f1.mono fun a j q => Or.inr (by unfold pS; omega)).trans b4⟩
end NEWPROG

/-! ===== of ===== -/
def ofA (es : Nat → List Int) (i w : Int) : Int := if 0 ≤ i ∧ i < 4 then (if w = 0 then ((es i.toNat).length : Int) else if w = 1 then ((ord (es i.toNat)).length : Int) else if w = 2 then cno (es i.toNat) (es i.toNat) 0 0 else if w = 3 then kd (nth (es i.toNat) 0) else if w = 4 then cco (es i.toNat) 0 else -1) else -1
section OF
variable {M : Mem} {gl ng : List Int} {es : Nat → List Int}
theorem D_of_s (hG : Good M) (hE : CE M gl ng es) (hx : ∀ i, i < 4 → xok (es i)) (i w : Int) : D_of 2 i w M = some (some (.inl (ofA es i w)), M) := by
  unfold ofA
  rw [D_of_eq, D_isExpression_s, cI_s]
  by_cases hi : 0 ≤ i ∧ i < 4
  · obtain ⟨m, rfl⟩ := Int.eq_ofNat_of_zero_le hi.1
    have hm : m < 4 := by omega
    have h1 := hE.2.2 m hm
    obtain ⟨⟨x1, x2, x3⟩, x4⟩ := hx m hm
    have hl := wf_len _ _ x1
    rw [if_pos hi, if_neg (by decide), if_pos hi, hG.gx, gd_t, hG.r2_6, hG.aX hm, gd_t, toNat_n, hG.rX hm, h1.g hG]
    by_cases q0 : w = 0
    · rw [if_pos q0, if_pos q0, gd_t, h1.s]
    rw [if_neg q0, if_neg q0]
    by_cases q1 : w = 1
    · rw [if_pos q1, if_pos q1, gd_t, Ex_countVars_s hG h1 x2, cI_s]
    rw [if_neg q1, if_neg q1]
    by_cases q2 : w = 2
    · rw [if_pos q2, if_pos q2, gd_t, Ex_countNested_s hG h1 x2, cI_s]
    rw [if_neg q2, if_neg q2]
    by_cases q3 : w = 3
    · have := Ex_kindAt_s hG h1 x2 ((0 : Nat) : Int)
      rw [cA_n (by omega)] at this
      have this : Ex_kindAt (759 + 2 * m) 0 M = _ := this
      rw [if_pos q3, if_pos q3, gd_t, this, cI_s]
    rw [if_neg q3, if_neg q3]
    by_cases q4 : w = 4
    · rw [if_pos q4, if_pos q4, gd_t, Ex_countCalls_s hG h1 x2, cI_s]
    rw [if_neg q4, if_neg q4]
  · rw [if_neg hi, if_pos rfl, if_neg hi]
theorem ord_le40 {xs : List Int} (hl : xs.length ≤ 40) : (ord xs).length ≤ 40 := by have := ord_len xs; omega
theorem M_of_s (hG : Good M) (hX : MX M es) (hx : ∀ i, i < 4 → xok (es i)) (i w : Int) : ∃ M', M_of 1269 i w M = some (some (.inl (ofA es i w)), M') ∧ Fj oS M M' := by
  unfold ofA
  rw [M_of_eq, hG.gM, gd_t, M_isTold_s hG, cI_s]
  by_cases hi : 0 ≤ i ∧ i < 4
  · obtain ⟨m, rfl⟩ := Int.eq_ofNat_of_zero_le hi.1
    have hm : m < 4 := by omega
    have h1 := hX.rx hx hm
    obtain ⟨⟨x1, x2, x3⟩, x4⟩ := hx m hm
    have hl := wf_len _ _ x1
    have e40 : wr (40 * (m : Int)) = ((40 * m : Nat) : Int) := by rw [wr_id (by omega) (by omega)]; omega
    rw [if_pos hi, if_neg (by decide), if_pos hi, toNat_n, hG.gM, hG.m34, hG.m33, hG.tgS arr_1293 (by omega) (by omega), (hX m hm).1, e40]
    by_cases q0 : w = 0
    · rw [if_pos q0, if_pos q0, gd_t, gd_t]
      exact ⟨M, rfl, Fj.refl⟩
    rw [if_neg q0, if_neg q0]
    by_cases q1 : w = 1
    · obtain ⟨M', a1, a2, a3⟩ := M_layOrder_s hG h1 (by decide) (by have := ord_le40 x3; omega)
      rw [if_pos q1, if_pos q1, gd_t, gd_t, gd_t, gd_t, a1, cI_s]
      exact ⟨M', rfl, a3⟩
    rw [if_neg q1, if_neg q1]
    by_cases q2 : w = 2
    · rw [if_pos q2, if_pos q2, gd_t, gd_t, gd_t, M_deepIn_s hG h1 x1, cI_s]
      exact ⟨M, rfl, Fj.refl⟩
    rw [if_neg q2, if_neg q2]
    by_cases q3 : w = 3
    · have hc := h1.2.1 0 (by omega)
      have hg := h1.gs hG (i := 0) (by omega)
      rw [Nat.add_zero] at hc hg
      rw [if_pos q3, if_pos q3, gd_t, hg, gd_t, toNat_n, hc, M_sortOf_s (h1.v (by omega)), cI_s]
      exact ⟨M, rfl, Fj.refl⟩
    rw [if_neg q3, if_neg q3]
    by_cases q4 : w = 4
    · rw [if_pos q4, if_pos q4, gd_t, gd_t, gd_t, M_callsIn_s hG h1, cI_s]
      exact ⟨M, rfl, Fj.refl⟩
    rw [if_neg q4, if_neg q4]
    exact ⟨M, rfl, Fj.refl⟩
  · rw [if_neg hi, if_pos rfl, if_neg hi]
    exact ⟨M, rfl, Fj.refl⟩
end OF

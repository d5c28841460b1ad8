/-! ===== the reference's run ===== -/
section RUNM
variable {M : Mem} {zs : List Clz} {p : Nat} {xs : List Int}
theorem arr_1298 : arr 1298 0 13000 := arr_of _ _ _ (by decide)
theorem arr_1299 : arr 1299 0 13000 := arr_of _ _ _ (by decide)
theorem arr_1301 : arr 1301 0 4 := arr_of _ _ _ (by decide)
/-- what is run -/
def RUm (M : Mem) (xs : List Int) (st gr dp : Nat) : Prop := (mI M 1269 46 = (xs.length : Int) ∧ RX M 1298 13000 0 xs) ∧ (mI M 1301 1 = (st : Int) ∧ mI M 1301 3 = (gr : Int)) ∧ mI M 1269 52 = (dp : Int)
def RNm (M : Mem) (r : List Int × Nat × Nat × Nat × Nat) : Prop := RUm M r.1 r.2.2.1 r.2.2.2.1 r.2.2.2.2 ∧ mI M 1301 0 = (r.2.1 : Int) ∧ mI M 1301 2 = (r.1.length : Int)
def rmS : Nat → Nat → Prop := fun a k => (1298 ≤ a ∧ a ≤ 1301) ∨ (a = 1269 ∧ (k = 46 ∨ k = 47 ∨ k = 48 ∨ k = 49 ∨ k = 52))
theorem RUm.fj {M1 : Mem} {A : Nat → Nat → Prop} {st gr dp : Nat} (h : RUm M xs st gr dp) (f : Fj A M M1) (h0 : ¬ A 1269 46 ∧ ¬ A 1269 52 ∧ ¬ A 1301 1 ∧ ¬ A 1301 3) (h1 : ∀ k, ¬ A 1298 k) : RUm M1 xs st gr dp := ⟨⟨(f.2.2 _ _ h0.1).trans h.1.1, h.1.2.fj f h1⟩, ⟨(f.2.2 _ _ h0.2.2.1).trans h.2.1.1, (f.2.2 _ _ h0.2.2.2).trans h.2.1.2⟩, (f.2.2 _ _ h0.2.1).trans h.2.2⟩
theorem M_run_end (hG : Good M) {st gr dp : Nat} (h : RUm M xs st gr dp) {e : Nat} (d2 d3 d4 d6 d7 : LV) (i1 : Int) : ∃ M', M_runNow_41 1269 i1 (e : Int) d2 d3 d4 d6 d7 M = some (none, M') ∧ RNm M' (xs, e, st, gr, dp) ∧ Fj rmS M M' := by
  have f : Fj (fun a k => a = 1301 ∧ (k = 0 ∨ k = 2)) M (stI (stI M 1301 0 (e : Int)) 1301 2 (xs.length : Int)) := (Fj.ofI (by omega)).trans (Fj.ofI (by omega))
  have e46 : mI (stI M 1301 0 (e : Int)) 1269 46 = (xs.length : Int) := by rw [mI_ne (by omega)]; exact h.1.1
  rw [M_runNow_41_eq, if_neg (by omega), hG.gM, gd_t, hG.m51, hG.tgS arr_1301 (by decide) (by decide), gd_t, gd_t, gd_t, hG.tgS arr_1301 (by decide) (by decide), gd_t, e46]
  exact ⟨_, rfl, ⟨h.fj f (by omega) (by omega), by rw [mI_ne (by omega), mI_at], mI_at⟩, f.mono fun a k q => by unfold rmS; omega⟩
theorem M_run_top (hG : Good M) {st gr dp : Nat} (hst : st ≤ 200) (hU : RUm M xs st gr dp) (hR : ROWP M p zs) (hv : av xs) (hw : wf 1 xs) (d2 d3 d4 d6 d7 : LV) : (stO zs xs ≠ 4 → ∃ M', M_runNow_41 1269 (p : Int) (-1) d2 d3 d4 d6 d7 M = some (none, M') ∧ RNm M' (xs, stO zs xs, st, gr, dp) ∧ Fj rmS M M') ∧ (stO zs xs = 4 → st = 200 → ∃ M', M_runNow_41 1269 (p : Int) (-1) d2 d3 d4 d6 d7 M = some (none, M') ∧ RNm M' (xs, 2, st, gr, dp) ∧ Fj rmS M M') ∧ (stO zs xs = 4 → st < 200 → ∃ M1 d5 d8, M_runNow_41 1269 (p : Int) (-1) d2 d3 d4 d6 d7 M = M_runNow_117 1269 (p : Int) (-1) d2 d3 d4 d5 d8 d7 M1 ∧ (mI M1 1269 47 = ((nxt zs xs).2.1 : Nat) ∧ mI M1 1269 48 = ((1 + dep xs (nxt zs xs).2.1 : Nat) : Int) ∧ mI M1 1269 49 = ((40 * p + (nxt zs xs).2.2 : Nat) : Int)) ∧ RUm M1 xs st gr dp ∧ Fj lkS M M1) := by
  have ends : ∀ {M1 : Mem} {e : Nat} (d5 d6 d7 : LV), Good M1 → RUm M1 xs st gr dp → Fj rmS M M1 → ∃ M', M_runNow_117 1269 (p : Int) (e : Int) d2 d3 d4 d5 d6 d7 M1 = some (none, M') ∧ RNm M' (xs, e, st, gr, dp) ∧ Fj rmS M M' := by
    intro M1 e d5 d6 d7 hG1 hU1 hF
    rw [M_runNow_117_eq, if_neg (by omega)]
    obtain ⟨M', b1, b2, b3⟩ := M_run_end (e := e) hG1 hU1 d2 d3 d4 d6 d7 (p : Int)
    exact ⟨M', b1, b2, hF.trans b3⟩
  rw [M_runNow_41_eq, if_pos rfl, hG.gM, gd_t, hU.1.1]
  by_cases hl : 120 < xs.length
  · have e : stO zs xs = 3 := if_pos hl
    refine ⟨fun _ => ?_, fun q => (by rw [e] at q; cases q), fun q => by rw [e] at q; cases q⟩
    rw [if_pos (by omega), e, M_runNow_69_eq, if_pos rfl]
    exact ends (e := 3) _ _ _ hG hU Fj.refl
  · obtain ⟨M1, a1, a2, a3⟩ := M_look_s (p := p) (a := 1298) (by decide) hv (by omega) hw hG hU.1.2 hR
    have hG1 := hG.fj a3
    have hU1 : RUm M1 xs st gr dp := hU.fj a3 (by unfold lkS; omega) (by unfold lkS; omega)
    have F1 : Fj rmS M M1 := a3.mono fun a k q => by unfold lkS at q; unfold rmS; omega
    have e : stO zs xs = if (nxt zs xs).1 = 0 then 0 else if (nxt zs xs).1 = 4 then 4 else 1 := if_neg hl
    rw [if_neg (by omega), gd_t, gd_t, hG.m44, a1, cI_s]
    by_cases q0 : (nxt zs xs).1 = 0
    · rw [if_pos q0] at e ⊢
      refine ⟨fun _ => ?_, fun q => (by rw [e] at q; cases q), fun q => by rw [e] at q; cases q⟩
      rw [e, M_runNow_69_eq, if_neg (by decide), if_pos rfl]
      exact ends (e := 0) _ _ _ hG1 hU1 F1
    · rw [if_neg q0] at e ⊢
      by_cases q4 : (nxt zs xs).1 = 4
      · rw [if_pos q4] at e
        have el : lkR (nxt zs xs).1 = 2 := by rw [q4]; rfl
        obtain ⟨b1, b2, b3, -⟩ := a2 q4
        rw [el, M_runNow_69_eq, if_neg (by decide), if_neg (by decide), if_pos rfl, hG1.gM, gd_t, hG1.m51, hG1.tgS arr_1301 (by decide) (by decide), gd_t, hU1.2.1.1]
        refine ⟨fun q => absurd e q, fun _ h2 => ?_, fun _ h2 => ?_⟩
        · rw [if_pos (by omega)]
          exact ends (e := 2) _ _ _ hG1 hU1 F1
        · rw [if_neg (by omega)]
          exact ⟨M1, _, _, rfl, ⟨b1, b2, b3⟩, hU1, a3⟩
      · rw [if_neg q4] at e
        have el : lkR (nxt zs xs).1 = 1 ∨ lkR (nxt zs xs).1 = 3 := by unfold lkR; rw [if_neg q4]; split <;> simp
        refine ⟨fun _ => ?_, fun q => (by rw [e] at q; cases q), fun q => by rw [e] at q; cases q⟩
        rw [e, M_runNow_69_eq, if_neg (by omega), if_neg (by omega), if_neg (by omega)]
        exact ends (e := 1) _ _ _ hG1 hU1 F1
end RUNM

/-! ===== the reference's run: a STEP, and all of them ===== -/
section RUNM2
variable {M : Mem} {zs : List Clz} {p : Nat} {xs : List Int}
theorem M_run_step (hG : Good M) {st gr dp : Nat} (hst : st < 200) (hU : RUm M xs st gr dp) (hR : ROWP M p zs) (hv : av xs) (hw : wf 1 xs) (h4 : stO zs xs = 4) (h47 : mI M 1269 47 = ((nxt zs xs).2.1 : Nat)) (h48 : mI M 1269 48 = ((1 + dep xs (nxt zs xs).2.1 : Nat) : Int)) (h49 : mI M 1269 49 = ((40 * p + (nxt zs xs).2.2 : Nat) : Int)) (d2 d3 d4 d5 d6 d7 : LV) : ∃ M' d8 d9, M_runNow_117 1269 (p : Int) (-1) d2 d3 d4 d5 d6 d7 M = M_runNow_41 1269 (p : Int) (-1) d2 d3 d4 d8 d9 M' ∧ Good M' ∧ RUm M' (stepZ zs xs) (st + 1) (max gr (stepZ zs xs).length) (max dp (1 + dep xs (nxt zs xs).2.1)) ∧ ROWP M' p zs ∧ Fj rmS M M' := by
  obtain ⟨hl, hn4⟩ := stO_4 h4
  obtain ⟨z, z1, hf⟩ := nxt_clf hw hn4
  have hzk := hR.2.2.1 z (List.mem_of_getElem? z1)
  have hki := (List.getElem?_eq_some_iff.mp z1).1
  have hsz := stepZ_of z1
  have hzl := hR.1.2.2
  have hp2 := hR.1.2.1
  have hlen := stx_len (at0 := (nxt zs xs).2.1) hl (Nat.le_refl _) hzk
  rw [← hsz] at hlen
  generalize hD : max dp (1 + dep xs (nxt zs xs).2.1) = D at *
  have f1 : Fj (fun a k => a = 1269 ∧ k = 52) M (stI M 1269 52 (D : Int)) := Fj.ofI ⟨rfl, rfl⟩
  have hG1 := hG.fj f1
  have hX1 : RX (stI M 1269 52 (D : Int)) 1298 13000 0 xs := hU.1.2.fj f1 (by omega)
  have hR1 : ROWP (stI M 1269 52 (D : Int)) p zs := hR.fj f1 (by omega)
  obtain ⟨M2, a1, a2, a3⟩ := M_stepOf_s (a := 1298) (y := 1299) (m2 := 13000) (k := 40 * p + (nxt zs xs).2.2) (by decide) (by decide) ⟨arr_1299, by decide⟩ (by omega) (Nat.le_refl _) hzk hf hv hG1 hX1 (hR1.2.1.row z1) (by rw [mI_ne (by omega)]; exact h47) (by rw [mI_ne (by omega)]; exact h49) (by rw [← hsz]; omega)
  rw [← hsz] at a1 a2
  have hG2 := hG1.fi a3
  obtain ⟨M3, b1, b2, b3⟩ := M_copy_s hG2 (s := 1299) (d := 1298) (p := 0) (q := 0) (k := (stepZ zs xs).length) arr_1299 arr_1298 (by omega) (by omega) (by decide) (Or.inl (by decide))
  have b1 : M_copy 1299 0 ((stepZ zs xs).length : Int) 1298 0 M2 = some (none, M3) := b1
  have hG3 := hG2.fi b2
  have F23 : Fi (fun b => b = 1298 ∨ b = 1299 ∨ b = 1300) (stI M 1269 52 (D : Int)) M3 := (a3.mono fun b q => by omega).trans (b2.mono fun b q => by omega)
  have hx3 : RM M3 1298 0 (stepZ zs xs) := fun j hj => by
    rw [Nat.zero_add, b3, if_pos (by omega)]
    have := a2 j hj
    rw [Nat.zero_add] at this
    rw [show 0 + (j - 0) = j by omega]
    exact this
  have g1 : mI M3 1301 1 = (st : Int) := (F23.2.2 _ (by omega) _).trans (by rw [mI_ne (by omega)]; exact hU.2.1.1)
  have g3 : mI M3 1301 3 = (gr : Int) := (F23.2.2 _ (by omega) _).trans (by rw [mI_ne (by omega)]; exact hU.2.1.2)
  have g52 : mI M3 1269 52 = (D : Int) := (F23.2.2 _ (by omega) _).trans mI_at
  have e46 : mI (stI M 1269 52 (D : Int)) 1269 46 = (xs.length : Int) := by rw [mI_ne (by omega)]; exact hU.1.1
  have e1 : mI (stI M3 1269 46 ((stepZ zs xs).length : Int)) 1301 1 = (st : Int) := by rw [mI_ne (by omega)]; exact g1
  have e3 : mI (stI (stI M3 1269 46 ((stepZ zs xs).length : Int)) 1301 1 ((st + 1 : Nat) : Int)) 1301 3 = (gr : Int) := by rw [mI_ne (by omega), mI_ne (by omega)]; exact g3
  have f4 : ∀ v : Int, Fj (fun a k => (a = 1269 ∧ k = 46) ∨ (a = 1301 ∧ (k = 1 ∨ k = 3))) M3 (stI (stI (stI M3 1269 46 ((stepZ zs xs).length : Int)) 1301 1 ((st + 1 : Nat) : Int)) 1301 3 v) := fun v => ((Fj.ofI (by omega)).trans (Fj.ofI (by omega))).trans (Fj.ofI (by omega))
  have F3 : Fj rmS M M3 := (f1.mono fun a k q => by unfold rmS; omega).trans (F23.fj fun a k q => by unfold rmS; omega)
  have last : ∀ v : Int, v = ((max gr (stepZ zs xs).length : Nat) : Int) → Good (stI (stI (stI M3 1269 46 ((stepZ zs xs).length : Int)) 1301 1 ((st + 1 : Nat) : Int)) 1301 3 v) ∧ RUm (stI (stI (stI M3 1269 46 ((stepZ zs xs).length : Int)) 1301 1 ((st + 1 : Nat) : Int)) 1301 3 v) (stepZ zs xs) (st + 1) (max gr (stepZ zs xs).length) D ∧ ROWP (stI (stI (stI M3 1269 46 ((stepZ zs xs).length : Int)) 1301 1 ((st + 1 : Nat) : Int)) 1301 3 v) p zs ∧ Fj rmS M (stI (stI (stI M3 1269 46 ((stepZ zs xs).length : Int)) 1301 1 ((st + 1 : Nat) : Int)) 1301 3 v) := by
    intro v hv0
    have hx4 : RX M3 1298 13000 0 (stepZ zs xs) := ⟨⟨arr_1298, by decide⟩, hx3, by omega, by rw [hsz]; exact stx_av hv hzk⟩
    refine ⟨hG3.fj (f4 v), ⟨⟨by rw [mI_ne (by omega), mI_ne (by omega), mI_at], hx4.fj (f4 v) (by omega)⟩, ⟨by rw [mI_ne (by omega), mI_at], by rw [mI_at]; exact hv0⟩, ((f4 v).2.2 _ _ (by omega)).trans g52⟩, hR.fj (F3.trans ((f4 v).mono fun a k q => by unfold rmS; omega)) (by unfold rmS; omega), F3.trans ((f4 v).mono fun a k q => by unfold rmS; omega)⟩
  have e151 : M_runNow_151 1269 (p : Int) (-1) (D : Int) 1269 d2 d3 d4 d6 d7 M = (if (gr : Int) < ((stepZ zs xs).length : Int) then M_runNow_41 1269 (p : Int) (-1) d2 d3 d4 d6 (some (.inl ((stepZ zs xs).length : Int))) (stI (stI (stI M3 1269 46 ((stepZ zs xs).length : Int)) 1301 1 ((st + 1 : Nat) : Int)) 1301 3 ((stepZ zs xs).length : Int)) else M_runNow_41 1269 (p : Int) (-1) d2 d3 d4 d6 (some (.inl ((stepZ zs xs).length : Int))) (stI (stI (stI M3 1269 46 ((stepZ zs xs).length : Int)) 1301 1 ((st + 1 : Nat) : Int)) 1301 3 (gr : Int))) := by
    rw [M_runNow_151_eq, hG.gM, gd_t, gd_t, gd_t, gd_t, gd_t, hG.m44, hG.m45, e46, a1, cI_s, hG2.gM, gd_t, gd_t, hG2.m45, hG2.m44, b1, cV_s, hG3.gM, gd_t, gd_t, hG3.m51, hG3.tgS arr_1301 (i := 1) (by decide) (by decide), gd_t, gd_t, gd_t, gd_t, hG3.tgS arr_1301 (i := 3) (by decide) (by decide), gd_t, e1, wr_s (by omega), e3]
    by_cases h : (gr : Int) < ((stepZ zs xs).length : Int)
    · rw [if_pos h, if_pos h, gd_t]
    · rw [if_neg h, if_neg h, gd_t, gd_t, gd_t]
  have e117 : M_runNow_117 1269 (p : Int) (-1) d2 d3 d4 d5 d6 d7 M = M_runNow_151 1269 (p : Int) (-1) (D : Int) 1269 d2 d3 d4 d6 d7 M := by
    rw [M_runNow_117_eq, if_pos rfl, hG.gM, gd_t, gd_t, hU.2.2, h48]
    by_cases h : (dp : Int) < ((1 + dep xs (nxt zs xs).2.1 : Nat) : Int)
    · rw [if_pos h, gd_t, show ((1 + dep xs (nxt zs xs).2.1 : Nat) : Int) = (D : Int) by omega]
    · rw [if_neg h, gd_t, show (dp : Int) = (D : Int) by omega]
  rw [e117, e151]
  by_cases h : (gr : Int) < ((stepZ zs xs).length : Int)
  · obtain ⟨l1, l2, l3, l4⟩ := last ((stepZ zs xs).length : Int) (by omega)
    rw [if_pos h]
    exact ⟨_, _, _, rfl, l1, l2, l3, l4⟩
  · obtain ⟨l1, l2, l3, l4⟩ := last (gr : Int) (by omega)
    rw [if_neg h]
    exact ⟨_, _, _, rfl, l1, l2, l3, l4⟩
theorem M_run_loop : ∀ (n : Nat) (M : Mem) (xs : List Int) (st gr dp : Nat) (d2 d3 d4 d6 d7 : LV), st + n = 200 → Good M → RUm M xs st gr dp → ROWP M p zs → av xs → wf 1 xs → ∃ M', M_runNow_41 1269 (p : Int) (-1) d2 d3 d4 d6 d7 M = some (none, M') ∧ RNm M' (rnl zs n xs st gr dp) ∧ Fj rmS M M' := by
  intro n
  induction n with
  | zero =>
    intro M xs st gr dp d2 d3 d4 d6 d7 hn hG hU hR hv hw
    obtain ⟨t1, t2, -⟩ := M_run_top hG (by omega) hU hR hv hw d2 d3 d4 d6 d7
    unfold rnl
    by_cases h : stO zs xs = 4
    · rw [if_pos h]; exact t2 h (by omega)
    · rw [if_neg h]; exact t1 h
  | succ n ih =>
    intro M xs st gr dp d2 d3 d4 d6 d7 hn hG hU hR hv hw
    obtain ⟨t1, -, t3⟩ := M_run_top hG (by omega) hU hR hv hw d2 d3 d4 d6 d7
    unfold rnl
    by_cases h : stO zs xs = 4
    · obtain ⟨M1, d5, d8, a1, ⟨a2, a3, a4⟩, a5, a6⟩ := t3 h (by omega)
      have hG1 := hG.fj a6
      have hR1 : ROWP M1 p zs := hR.fj a6 (by unfold lkS; omega)
      obtain ⟨M2, d9, d10, b1, b2, b3, b4, b5⟩ := M_run_step hG1 (by omega) a5 hR1 hv hw h a2 a3 a4 d2 d3 d4 d5 d8 d7
      obtain ⟨hl, hn4⟩ := stO_4 h
      obtain ⟨z, z1, hf⟩ := nxt_clf hw hn4
      have hzk := hR.2.2.1 z (List.mem_of_getElem? z1)
      have hsz := stepZ_of z1
      obtain ⟨M3, c1, c2, c3⟩ := ih M2 (stepZ zs xs) (st + 1) _ _ d2 d3 d4 d9 d10 (by omega) b2 b3 b4 (by rw [hsz]; exact stx_av hv hzk) (by rw [hsz]; exact stx_wf hw hf hzk)
      rw [if_pos h, a1, b1]
      exact ⟨M3, c1, c2, ((a6.mono fun a k q => by unfold lkS at q; unfold rmS; omega).trans b5).trans c3⟩
    · rw [if_neg h]; exact t1 h
end RUNM2

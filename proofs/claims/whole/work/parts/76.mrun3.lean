/-! ===== the reference's run from its start ===== -/
section RUNM3
variable {M : Mem} {zs : List Clz} {p a n o : Nat} {xs : List Int} {bs : Bnd}
theorem M_runNow_s (hG : Good M) (hR : ROWP M p zs) (hB : MB M bs) (hb : bok bs) (hX : RX M a n o xs) (ha : ¬ (1298 ≤ a ∧ a ≤ 1301)) (hv : av xs) (hw : wf 1 xs) (hl : xs.length ≤ 100) : ∃ M', M_runNow 1269 (p : Int) a (o : Int) (xs.length : Int) M = some (none, M') ∧ RNm M' (run0 zs bs xs) ∧ Fj rmS M M' := by
  have hlen := fll_len hb hv
  obtain ⟨M1, a1, a2, a3⟩ := M_layBound_s (y := 1298) (m2 := 13000) (by omega) (by omega) ⟨arr_1298, by decide⟩ hb hv hG hX hB (by omega)
  have hG1 := hG.fi a3
  have f2 : Fj (fun a k => (a = 1269 ∧ (k = 46 ∨ k = 52)) ∨ (a = 1301 ∧ (k = 1 ∨ k = 3))) M1 (stI (stI (stI (stI M1 1269 46 ((fll bs xs).length : Int)) 1301 1 0) 1301 3 ((fll bs xs).length : Int)) 1269 52 0) := (((Fj.ofI (by omega)).trans (Fj.ofI (by omega))).trans (Fj.ofI (by omega))).trans (Fj.ofI (by omega))
  have hG2 := hG1.fj f2
  have hx : RX M1 1298 13000 0 (fll bs xs) := ⟨⟨arr_1298, by decide⟩, a2, by omega, fll_av hb hv⟩
  have hU : RUm (stI (stI (stI (stI M1 1269 46 ((fll bs xs).length : Int)) 1301 1 0) 1301 3 ((fll bs xs).length : Int)) 1269 52 0) (fll bs xs) 0 (fll bs xs).length 0 := ⟨⟨by rw [mI_ne (by omega), mI_ne (by omega), mI_ne (by omega), mI_at], hx.fj f2 (by omega)⟩, ⟨by rw [mI_ne (by omega), mI_ne (by omega), mI_at]; rfl, by rw [mI_ne (by omega), mI_at]⟩, mI_at⟩
  have F1 : Fj rmS M M1 := a3.fj fun a k q => by unfold rmS; omega
  have F2 : Fj rmS M (stI (stI (stI (stI M1 1269 46 ((fll bs xs).length : Int)) 1301 1 0) 1301 3 ((fll bs xs).length : Int)) 1269 52 0) := F1.trans (f2.mono fun a k q => by unfold rmS; omega)
  obtain ⟨M3, b1, b2, b3⟩ := M_run_loop 200 _ (fll bs xs) 0 (fll bs xs).length 0 (some (.inr a)) (some (.inl (o : Int))) (some (.inl (xs.length : Int))) none none rfl hG2 hU (hR.fj F2 (by unfold rmS; omega)) (fll_av hb hv) (fll_wf hb hw hv)
  have e46 : mI (stI (stI M1 1269 46 ((fll bs xs).length : Int)) 1301 1 0) 1269 46 = ((fll bs xs).length : Int) := by rw [mI_ne (by omega), mI_at]
  rw [M_runNow_eq, hG.gM, gd_t, gd_t, hG.m44, a1, cI_s, hG1.gM, gd_t, gd_t, hG1.m51, hG1.tgS arr_1301 (i := 1) (by decide) (by decide), gd_t, gd_t, gd_t, hG1.tgS arr_1301 (i := 3) (by decide) (by decide), gd_t, gd_t, e46, b1]
  exact ⟨M3, rfl, b2, F2.trans b3⟩
end RUNM3

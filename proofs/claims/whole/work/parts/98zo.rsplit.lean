/-! ===== the reference: new VARS in place of what blocked ===== -/
section RSPLIT
variable {M : Mem}
theorem arr_1319 : arr 1319 0 300 := arr_of _ _ _ (by decide)
theorem vc_new {fr i : Nat} (h : 1414 ≤ fr ∧ fr + i < 65536) : vc ((fr : Int) + (i : Int)) ∧ cm ((fr : Int) + (i : Int)) = 64 * ((fr : Int) + 98586 + (i : Int)) := by
  have hk : kd ((fr : Int) + (i : Int)) = 0 := by unfold kd; omega
  have ha : ar ((fr : Int) + (i : Int)) = 0 := by unfold ar; omega
  refine ⟨vc_var (by omega), ?_⟩
  unfold cm nmo
  rw [hk, ha, if_pos rfl, if_neg (by omega)]
  omega
/-- the new VARS of a CASE's CON are laid -/
theorem M_split_new {con : Int} {fr i5 o : Nat} (hcon : vc con) (hn : arN con ≤ 4) (hfr : 1414 ≤ fr ∧ fr + 400 < 65536) (hi5 : i5 < 1000) (ho : o + 4 < 300) {i1 : Int} (d2 d6 : LV) : ∀ (t j : Nat) (M : Mem), j + t = arN con → Good M → mI M 1269 75 = (fr : Int) + 98586 → ∃ M', M_splitBelow_86 1269 i1 (cm con) ((o + j : Nat) : Int) (i5 : Int) 1 (j : Int) d2 d6 M = M_splitBelow_13 1269 i1 (cm con) ((o + arN con : Nat) : Int) ((i5 + 1 : Nat) : Int) d2 d6 (some (.inl 1)) (some (.inl (arN con : Int))) M' ∧ (∀ q, j ≤ q → q < arN con → mI M' 1319 (o + q) = cm ((fr : Int) + (q : Int))) ∧ Good M' ∧ Fj (fun a k => a = 1319 ∧ o + j ≤ k ∧ k < o + arN con) M M' := by
  have har := arN_ar con
  intro t
  induction t with
  | zero =>
    intro j M h hG h75
    have : j = arN con := by omega
    refine ⟨M, ?_, fun q h1 h2 => by omega, hG, Fj.refl⟩
    rw [M_splitBelow_86_eq, M_manyOf_s hcon, cI_s, if_neg (by omega), wr_s (by omega), this]
  | succ t ih =>
    intro j M h hG h75
    obtain ⟨n1, n2⟩ := vc_new (fr := fr) (i := j) (by omega)
    have g9 : gS M 1319 0 ((o + j : Nat) : Int) = true := hG.tgS arr_1319 (by omega) (by omega)
    have f1 : Fj (fun a k => a = 1319 ∧ k = o + j) M (stI M 1319 (o + j) (cm ((fr : Int) + (j : Int)))) := Fj.ofI ⟨rfl, rfl⟩
    obtain ⟨M', a1, a2, a3, a4⟩ := ih (j + 1) (stI M 1319 (o + j) (cm ((fr : Int) + (j : Int)))) (by omega) (hG.fj f1) ((f1.2.2 _ _ (by omega)).trans h75)
    have et : M_thing 0 0 ((fr : Int) + 98586 + (j : Int)) M = some (some (.inl (cm ((fr : Int) + (j : Int)))), M) := by
      rw [M_thing_s (by decide) (by decide) (by omega), n2]
      have : (0 : Int) + 4 * 0 + 64 * ((fr : Int) + 98586 + (j : Int)) = 64 * ((fr : Int) + 98586 + (j : Int)) := by omega
      rw [this]
    refine ⟨M', ?_, fun q h1 h2 => ?_, a3, (f1.mono fun a k q => by omega).trans (a4.mono fun a k q => by omega)⟩
    · rw [M_splitBelow_86_eq, M_manyOf_s hcon, cI_s, if_pos (by omega), if_neg (by decide), hG.gM, gd_t, gd_t, h75, wr_id (x := (fr : Int) + 98586 + (j : Int)) (by omega) (by omega), et, cI_s, hG.m79, g9, gd_t, toNat_n, wr_s (by omega), wr_s (by omega)]
      exact a1
    · by_cases e : q = j
      · subst e
        rw [a4.2.2 _ _ (by omega), mI_at]
      · exact a2 q (by omega) h2
end RSPLIT

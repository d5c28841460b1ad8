/-! ===== the reference: the nearest one above ===== -/
def nrS : Nat → Nat → Prop := fun a j => mimS a j ∨ leS a j
section RNEAR
variable {M : Mem} {T : TS} {k : Nat}
theorem RNd.rx {x : Nat} (h : RNd M T x) (hx : x < 120) (he : eok (T.1 x)) : RX M 1309 4800 (40 * x) (T.1 x) := ⟨⟨arr_1309, by decide⟩, h.1.1, by have := he.2.2; omega, he.2.1⟩
theorem RT.fjo {M1 : Mem} {S : Nat → Nat → Prop} (h : RT M T) (f : Fj S M M1) (h0 : ∀ a j, (1309 ≤ a ∧ a ≤ 1316) ∨ (a = 1269 ∧ j = 72) → ¬ S a j) : RT M1 T := ⟨(f.2.2 _ _ (h0 _ _ (Or.inr ⟨rfl, rfl⟩))).trans h.1, fun x hx => (h.2 x hx).fjo f fun a j q => h0 a j (Or.inl (by omega))⟩
theorem b2i_0 {b : Bool} : b2i b = 0 ↔ b = false := by cases b <;> decide
theorem M_nearest_loop (hT : TI T.2.1 T.2.2) (hX : XOK T.1 T.2.1) (hk : k ∈ lnF T.2.1) {its : Int} (fl : Bool) : ∀ (n : Nat) (u : Int) (M : Mem), (u = -1 ∨ (0 ≤ u ∧ u.toNat ∈ lnF T.2.1)) → u < (n : Int) → Good M → RT M T → ∃ M', M_nearest_8 1269 (k : Int) its (b2i fl) u M = some (some (.inl (nrs (if fl = true then pRen T.1 T.2.1 (T.1 k) its else pCpl T.1 T.2.1 (T.1 k) its) T.2.1 n u)), M') ∧ RT M' T ∧ Good M' ∧ Fj nrS M M' := by
  have hm := hT.1.2.2
  have hkm := hT.1.2.1 k hk
  have hek := hX k hk
  intro n
  induction n with
  | zero =>
    intro u M h1 h2 hG hR
    have : u = -1 := by omega
    subst this
    exact ⟨M, by rw [M_nearest_8_eq, if_pos rfl]; rfl, hR, hG, Fj.refl⟩
  | succ n ih =>
    intro u M h1 h2 hG hR
    unfold nrs
    rcases h1 with e | ⟨e1, e2⟩
    · subst e
      exact ⟨M, by rw [M_nearest_8_eq, if_pos rfl, if_pos rfl], hR, hG, Fj.refl⟩
    · obtain ⟨p, rfl⟩ := Int.eq_ofNat_of_zero_le e1
      rw [toNat_n] at e2 ⊢
      have hpm := hT.1.2.1 p e2
      have hep := hX p e2
      have hup : T.2.1 p 15 = -1 ∨ (0 ≤ T.2.1 p 15 ∧ (T.2.1 p 15).toNat ∈ lnF T.2.1) := (hT.uok p e2).imp_right fun q => ⟨q.1, q.2.2⟩
      have hul : T.2.1 p 15 < (n : Int) := by
        rcases hT.uok p e2 with q | ⟨q1, q2, q3⟩ <;> omega
      have g5 : gS M 1315 0 (p : Int) = true := hG.tgS (arr_nd (by decide)) (by omega) (by omega)
      have r7 : mI M 1315 p = T.2.1 p 4 := (hR.2 p e2).2.2.2.1
      have next : ∀ M1 : Mem, Good M1 → RT M1 T → ∃ M', (gd (gO M1 1269 12) (gd (gS M1 (mR M1 1269 65) 0 (p : Int)) (M_nearest_8 1269 (k : Int) its (b2i fl) (mI M1 (mR M1 1269 65) (Int.toNat (p : Int))) M1))) = some (some (.inl (nrs (if fl = true then pRen T.1 T.2.1 (T.1 k) its else pCpl T.1 T.2.1 (T.1 k) its) T.2.1 n (T.2.1 p 15))), M') ∧ RT M' T ∧ Good M' ∧ Fj nrS M1 M' := by
        intro M1 hG1 hR1
        have r3 : mI M1 1311 p = T.2.1 p 15 := (hR1.2 p e2).2.1.1
        obtain ⟨M', a1, a2⟩ := ih (T.2.1 p 15) M1 hup hul hG1 hR1
        refine ⟨M', ?_, a2⟩
        rw [hG1.gM, gd_t, hG1.m65, hG1.tgS (arr_nd (by decide)) (by omega) (by omega), gd_t, toNat_n, r3, a1]
      rw [if_neg (show ¬ (p : Int) = -1 by omega), M_nearest_8_eq, if_neg (by omega), hG.gM, gd_t, hG.m69, g5, gd_t, toNat_n, r7]
      by_cases q : T.2.1 p 4 = its
      · have hXk := (hR.2 k hk).rx (by omega) hek
        have hXp := (hR.2 p e2).rx (by omega) hep
        rw [if_pos q]
        cases fl with
        | false =>
          obtain ⟨M1, a1, a2⟩ := M_isCoupled_s (by decide) (by decide) hep.1 hek.1 hep.2.2 hek.2.2 hG hXp hXk
          have hG1 := hG.fj a2
          have hR1 := hR.fjo a2 fun a j q => by unfold leS; omega
          have hP : (if (false : Bool) = true then pRen T.1 T.2.1 (T.1 k) its else pCpl T.1 T.2.1 (T.1 k) its) p = cpl (T.1 p) (T.1 k) 0 0 := by
            show (decide (T.2.1 p 4 = its) && cpl (T.1 p) (T.1 k) 0 0) = _
            rw [decide_eq_true q]; rfl
          rw [hP, if_pos (show b2i false = 0 from rfl), gd_t, gd_t, gd_t, hG.m63, wr_id (x := (40 : Int) * (p : Int)) (by omega) (by omega), wr_id (x := (40 : Int) * (k : Int)) (by omega) (by omega), show (40 : Int) * (p : Int) = ((40 * p : Nat) : Int) by omega, show (40 : Int) * (k : Int) = ((40 * k : Nat) : Int) by omega, a1, cI_s]
          by_cases c : cpl (T.1 p) (T.1 k) 0 0 = true
          · rw [if_pos c, c, if_neg (by decide)]
            exact ⟨M1, rfl, hR1, hG1, a2.mono fun a j q => Or.inr q⟩
          · rw [if_neg c, if_pos (b2i_0.mpr (by simpa using c))]
            obtain ⟨M', b1, b2, b3, b4⟩ := next M1 hG1 hR1
            exact ⟨M', b1, b2, b3, (a2.mono fun a j q => Or.inr q).trans b4⟩
        | true =>
          obtain ⟨M1, a1, a2⟩ := M_isRenaming_s ⟨by decide, by decide, by decide⟩ ⟨by decide, by decide, by decide⟩ hek.1 hep.1 hep.2.2 hG hXk hXp
          have hG1 := hG.fj a2
          have hR1 := hR.fjo a2 fun a j q => by unfold mimS; omega
          have hP : (if (true : Bool) = true then pRen T.1 T.2.1 (T.1 k) its else pCpl T.1 T.2.1 (T.1 k) its) p = rnc (T.1 k) (T.1 p) [] [] := by
            show (decide (T.2.1 p 4 = its) && rnc (T.1 k) (T.1 p) [] []) = _
            rw [decide_eq_true q]; rfl
          rw [hP, if_neg (show ¬ b2i true = 0 by decide), gd_t, gd_t, gd_t, hG.m63, wr_id (x := (40 : Int) * (p : Int)) (by omega) (by omega), wr_id (x := (40 : Int) * (k : Int)) (by omega) (by omega), show (40 : Int) * (p : Int) = ((40 * p : Nat) : Int) by omega, show (40 : Int) * (k : Int) = ((40 * k : Nat) : Int) by omega, a1, cI_s]
          by_cases c : rnc (T.1 k) (T.1 p) [] [] = true
          · rw [if_pos c, c, if_neg (by decide)]
            exact ⟨M1, rfl, hR1, hG1, a2.mono fun a j q => Or.inl q⟩
          · rw [if_neg c, if_pos (b2i_0.mpr (by simpa using c))]
            obtain ⟨M', b1, b2, b3, b4⟩ := next M1 hG1 hR1
            exact ⟨M', b1, b2, b3, (a2.mono fun a j q => Or.inl q).trans b4⟩
      · have hP : ¬ (if fl = true then pRen T.1 T.2.1 (T.1 k) its else pCpl T.1 T.2.1 (T.1 k) its) p = true := by
          cases fl with
          | false =>
            show ¬ (decide (T.2.1 p 4 = its) && cpl (T.1 p) (T.1 k) 0 0) = true
            rw [decide_eq_false q, Bool.false_and]; exact Bool.false_ne_true
          | true =>
            show ¬ (decide (T.2.1 p 4 = its) && rnc (T.1 k) (T.1 p) [] []) = true
            rw [decide_eq_false q, Bool.false_and]; exact Bool.false_ne_true
        rw [if_neg q, if_neg hP]
        obtain ⟨M', b1, b2⟩ := next M hG hR
        rw [toNat_n, hG.gM] at b1
        exact ⟨M', b1, b2⟩
theorem M_nearest_s (hG : Good M) (hT : TI T.2.1 T.2.2) (hX : XOK T.1 T.2.1) (hR : RT M T) (hk : k ∈ lnF T.2.1) {its : Int} (fl : Bool) : ∃ M', M_nearest 1269 (k : Int) its (b2i fl) M = some (some (.inl (if fl = true then foS T k (T.1 k) its else cpS T k (T.1 k) its)), M') ∧ RT M' T ∧ Good M' ∧ Fj nrS M M' := by
  have hm := hT.1.2.2
  have hkm := hT.1.2.1 k hk
  have hup : T.2.1 k 15 = -1 ∨ (0 ≤ T.2.1 k 15 ∧ (T.2.1 k 15).toNat ∈ lnF T.2.1) := (hT.uok k hk).imp_right fun q => ⟨q.1, q.2.2⟩
  have hul : T.2.1 k 15 < ((121 : Nat) : Int) := by
    rcases hT.uok k hk with q | ⟨q1, q2, q3⟩ <;> omega
  have r3 : mI M 1311 k = T.2.1 k 15 := (hR.2 k hk).2.1.1
  obtain ⟨M', a1, a2⟩ := M_nearest_loop hT hX hk (its := its) fl 121 (T.2.1 k 15) M hup hul hG hR
  refine ⟨M', ?_, a2⟩
  rw [M_nearest_eq, hG.gM, gd_t, hG.m65, hG.tgS (arr_nd (by decide)) (by omega) (by omega), gd_t, toNat_n, r3, a1]
  cases fl <;> rfl
end RNEAR

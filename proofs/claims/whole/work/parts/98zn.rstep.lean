/-! ===== the reference: a step below one ===== -/
def rsS2 (m0 : Nat) : Nat → Nat → Prop := fun a j => rbS m0 a j ∨ a = 1299 ∨ a = 1300
section RSTEP
variable {M : Mem} {T : TS} {k a n c p : Nat} {xs : List Int} {z : Clz}
theorem M_stepBelow_s (cn cv : Int) (ha : a ≠ 1300 ∧ a ≠ 1269 ∧ a ≠ 1299) (hc : c < 80) (hz : zok 100 z) (hf : CLf xs p z) (hw : wf 1 xs) (hav : av xs) (hG : Good M) (hX : RX M a n 0 xs) (hR : ROW M c z) (h47 : mI M 1269 47 = (p : Int)) (h49 : mI M 1269 49 = (c : Int)) (hT : TOK T k) (hRT : RT M T) (h76 : mI M 1269 76 = 0) : ∃ M', M_stepBelow 1269 (k : Int) a (xs.length : Int) M = some (some (.inl (if ad1 (stx z xs p).length T.2.2 = 0 then 1 else 0)), M') ∧ (ad1 (stx z xs p).length T.2.2 ≠ 0 → mI M' 1269 76 = ad1 (stx z xs p).length T.2.2) ∧ (ad1 (stx z xs p).length T.2.2 = 0 → RT M' (adT k T (stx z xs p, cn, cv)) ∧ mI M' 1269 76 = 0) ∧ Good M' ∧ Fj (rsS2 T.2.2) M M' := by
  have hd1 : decide ((1 : Int) = 0 ∨ (1 : Int) = 1) = true := by decide
  have hd0 : decide ((0 : Int) = 0 ∨ (0 : Int) = 1) = true := by decide
  obtain ⟨M1, a1, a2⟩ := M_stepLong_s ⟨ha.1, ha.2.1⟩ hc (Nat.le_refl 100) hz hf hG hX hR h47 h49
  have hG1 := hG.fj a2
  have a2' : Fj (rsS2 T.2.2) M M1 := a2.mono fun a j q => Or.inr (Or.inr q)
  have i76 : mI M1 1269 76 = 0 := (a2.2.2 _ _ (by unfold s1300; omega)).trans h76
  by_cases q : 40 < (stx z xs p).length
  · have e : ad1 (stx z xs p).length T.2.2 = -3 := if_pos q
    rw [e, M_stepBelow_eq, hG.gM, gd_t, a1, cI_s, if_pos (by omega), hG1.gM, gd_t, M_breaks_s hG1 i76, cI_s, hd0, gd_t, if_neg (by decide)]
    exact ⟨_, rfl, fun _ => mI_at, fun h => absurd h (by decide), hG1.fj (Fj.ofI (S := fun _ _ => True) trivial), a2'.trans (Fj.ofI (Or.inl (Or.inr (Or.inr ⟨rfl, Or.inr rfl⟩))))⟩
  · have h1299 : arr 1299 0 13000 := arr_of _ _ _ (by decide)
    have hX1 : RX M1 a n 0 xs := hX.fj a2 fun j => by unfold s1300; omega
    have hR1 : ROW M1 c z := hR.fj a2 fun a j q => by unfold s1300; omega
    obtain ⟨M2, b1, b2, b3⟩ := M_stepOf_s (y := 1299) (m2 := 13000) ⟨ha.2.2, ha.2.1, by decide, by decide, by decide⟩ ha.1 ⟨h1299, by decide⟩ hc (Nat.le_refl 100) hz hf hav hG1 hX1 hR1 ((a2.2.2 _ _ (by unfold s1300; omega)).trans h47) ((a2.2.2 _ _ (by unfold s1300; omega)).trans h49) (by omega)
    have hG2 := hG1.fi b3
    have b3' : Fj (rsS2 T.2.2) M1 M2 := b3.fj fun a j q => Or.inr q
    have F2 : Fj (fun a _ => a = 1299 ∨ a = 1300) M M2 := (a2.mono fun a j q => Or.inr q).trans (b3.fj fun a j q => q)
    have hRT2 := hRT.fjo F2 fun a j q => by omega
    have hX2 : RX M2 1299 13000 0 (stx z xs p) := ⟨⟨h1299, by decide⟩, b2, by omega, stx_av hav hz⟩
    obtain ⟨M3, c1, c2, c3, c4, c5⟩ := M_makeBelow_s (x := (stx z xs p, cn, cv)) hG2 hT hRT2 hX2 (stx_wf hw hf hz) ⟨Or.inl (by decide), by decide, by decide⟩ ((F2.2.2 _ _ (by omega)).trans h76)
    have c1 : M_makeBelow 1269 (k : Int) 1299 0 ((stx z xs p).length : Int) M2 = some (some (.inl (if ad1 (stx z xs p).length T.2.2 = 0 then 1 else 0)), M3) := c1
    refine ⟨M3, ?_, c2, c3, c4, (a2'.trans b3').trans (c5.mono fun a j q => Or.inl (mb_rb (Nat.le_refl T.2.2) q))⟩
    rw [M_stepBelow_eq, hG.gM, gd_t, a1, cI_s, if_neg (by omega), hG1.gM, gd_t, gd_t, hG1.m45, b1, cI_s, hG2.gM, gd_t, gd_t, hG2.m45, c1, cI_s]
    by_cases w : ad1 (stx z xs p).length T.2.2 = 0
    · rw [if_pos w, hd1, gd_t]
    · rw [if_neg w, hd0, gd_t]
end RSTEP

/-! ===== the reference drives ===== -/
/-- the reference's driven tree -/
def DRm (M : Mem) (zs : List Clz) (gl : List Int) : Prop := RZm M (tof zs gl) ∧ mI M 1269 73 = ((80 - (grw zs gl).2.2.1 : Nat) : Int) ∧ mI M 1269 74 = ((grw zs gl).2.2.2.2 : Int)
def mvS : Nat → Nat → Prop := fun a j => dkS a j ∨ nbS a j ∨ lrS a j ∨ (a = 1269 ∧ j = 77)
section RDRIVE
variable {zs ns : List Clz} {gl ng : List Int}
theorem drl_ok (hzs : zsk 100 zs) (hok : okP zs) (hzl : zs.length ≤ 40) : ∀ (n : Nat) (st : Int) (T : TS) (nl fr tu : Nat), n ≤ 80 → (TI T.2.1 T.2.2 ∧ XOK T.1 T.2.1 ∧ FVL T.2.1) → (st = 0 → (∃ L1 N, LKD zs T L1 N ∧ L1.length = nl)) → (st = 0 → fr ≤ 1414 + 160 * (80 - n)) → GRW zs (drl zs n st T nl fr tu) := by
  have len : ∀ {T : TS} {nl : Nat}, (∃ L1 N, LKD zs T L1 N ∧ L1.length = nl) → nl ≤ (lnF T.2.1).length := fun ⟨L1, N, hL, hl⟩ => by rw [hL.1, List.length_append]; omega
  intro n
  induction n with
  | zero =>
    intro st T nl fr tu hn hI hS hF
    exact ⟨hI, fun q => ⟨hS q, len (hS q), Or.inl rfl⟩, Nat.zero_le _⟩
  | succ n ih =>
    intro st T nl fr tu hn hI hS hF
    unfold drl
    by_cases q : st = 0 ∧ nl < (lnF T.2.1).length
    · rw [if_pos q]
      obtain ⟨q1, q2⟩ := q
      obtain ⟨L1, N, hL, hl⟩ := hS q1
      have hF1 := hF q1
      obtain ⟨k, R, rfl⟩ : ∃ k R, N = k :: R := by
        cases N with
        | nil => rw [hL.1, List.append_nil] at q2; omega
        | cons k R => exact ⟨k, R, rfl⟩
      have hget : (lnF T.2.1).getD nl 0 = k := by
        rw [List.getD_eq_getElem?_getD, hL.1, List.getElem?_append_right (by omega), show nl - L1.length = 0 by omega]; rfl
      rw [hget]
      obtain ⟨c1, c2⟩ := lok_ok (fr := fr) (tu := tu) hzs hok hzl hI.1 hI.2.1 hL hI.2.2 hl (by omega)
      refine ih _ _ _ _ _ (by omega) c1 (fun z => (c2 z).1) fun z => ?_
      have := (c2 z).2.1.2
      omega
    · rw [if_neg q]
      refine ⟨hI, fun z => ⟨hS z, len (hS z), Or.inr ?_⟩, hn⟩
      have h1 := len (hS z)
      show nl = (lnF T.2.1).length
      by_cases w : nl < (lnF T.2.1).length
      · exact absurd ⟨z, w⟩ q
      · omega
theorem GRW_of (hzs : zsk 100 zs) (hok : okP zs) (hzl : zs.length ≤ 40) (hw : wf 1 gl) (hv : av gl) (h0 : gst (grw zs gl) = 0) : GRW zs (grw zs gl) := by
  unfold grw at h0 ⊢
  by_cases q : 40 < gl.length
  · rw [if_pos q] at h0
    exact absurd h0 (by decide)
  · rw [if_neg q]
    obtain ⟨t1, t2⟩ := TS0_ok (zs := zs) hw hv (by omega : gl.length ≤ 40)
    exact drl_ok hzs hok hzl 80 0 (TS0 gl) 0 1414 0 (Nat.le_refl _) t1 (fun _ => ⟨[], [0], t2, rfl⟩) (fun _ => by omega)
theorem M_drive_s {M : Mem} (hG : Good M) (hP : ROWP M 0 zs) (hX : RX M 1288 100 0 gl) (h35 : mI M 1269 35 = (gl.length : Int)) (hw : wf 1 gl) : ∃ M', M_drive 1269 M = some (some (.inl (drv zs gl)), M') ∧ (isd zs gl → DRm M' zs gl ∧ MQn M' (nwP zs gl) ∧ MG M' (nwG zs gl) ∧ mI M' 1269 77 = 1) ∧ (¬ isd zs gl → mI M' 1269 77 = 0) ∧ ROWP M' 0 zs ∧ Good M' ∧ Fj mvS M M' := by
  have hzs := hP.2.2.1
  have hok := hP.2.2.2
  have hzl := hP.1.2.2
  have f1 : Fj mvS M (stI M 1269 77 0) := Fj.ofI (Or.inr (Or.inr (Or.inr ⟨rfl, rfl⟩)))
  have f1' : Fj (fun a j => a = 1269 ∧ j = 77) M (stI M 1269 77 0) := Fj.ofI ⟨rfl, rfl⟩
  have hG1 := hG.fj f1
  have hP1 := hP.fj f1' (by omega)
  obtain ⟨M2, a1, a2, a3, a4, a5⟩ := M_driveTree_s hG1 hP1 (hX.fj f1' (by omega)) ((f1'.2.2 _ _ (by omega)).trans h35) hw
  have i77 : mI M2 1269 77 = 0 := (a5.2.2 _ _ (by unfold dkS dtS; omega)).trans mI_at
  have hP2 : ROWP M2 0 zs := hP1.fj a5 fun a j q => dk_q (Or.inl q)
  have F2 : Fj mvS M M2 := f1.trans (a5.mono fun a j q => Or.inl q)
  -- how it ends
  have fin1 : ∀ M' : Mem, Good M' → mI M' 1269 76 = 0 → M_drive_31 1269 M' = some (some (.inl (mI M' 1269 84)), stI M' 1269 77 1) := by
    intro M' g h
    have e77 : mI (stI M' 1269 77 1) 1269 77 = 1 := mI_at
    have e84 : mI (stI M' 1269 77 1) 1269 84 = mI M' 1269 84 := mI_ne (by omega)
    rw [M_drive_31_eq, g.gM, gd_t, if_pos h, gd_t, gd_t, e77, if_neg (by decide), gd_t, e84]
  have fin0 : ∀ M' : Mem, Good M' → ¬ mI M' 1269 76 = 0 → M_drive_31 1269 M' = some (some (.inl (mI M' 1269 76)), stI M' 1269 77 0) := by
    intro M' g h
    have e77 : mI (stI M' 1269 77 0) 1269 77 = 0 := mI_at
    have e76 : mI (stI M' 1269 77 0) 1269 76 = mI M' 1269 76 := mI_ne (by omega)
    rw [M_drive_31_eq, g.gM, gd_t, if_neg h, gd_t, gd_t, e77, if_pos rfl, gd_t, e76]
  have fS : ∀ (M' : Mem) (v : Int), Fj (fun a j => a = 1269 ∧ j = 77) M' (stI M' 1269 77 v) := fun M' v => Fj.ofI ⟨rfl, rfl⟩
  have fE : ∀ (M' : Mem) (v : Int), Fj mvS M' (stI M' 1269 77 v) := fun M' v => Fj.ofI (Or.inr (Or.inr (Or.inr ⟨rfl, rfl⟩)))
  have hd : M_drive 1269 M = (if mI M2 1269 76 = 0 then cV (M_number 1269 M2) fun M3 => gd (gO M3 1269 12) (if mI M3 1269 76 = 0 then gd (gO M3 1269 12) (cV (M_layResidue 1269 M3) fun M4 => M_drive_31 1269 M4) else M_drive_31 1269 M3) else M_drive_31 1269 M2) := by
    rw [M_drive_eq, hG.gM, gd_t, gd_t, a1, cV_s, a4.gM, gd_t]
    by_cases q : mI M2 1269 76 = 0
    · rw [if_pos q, if_pos q, gd_t]
    · rw [if_neg q, if_neg q, gd_t, if_neg q]
  rw [hd]
  unfold drv isd
  by_cases q : gst (grw zs gl) = 0
  · obtain ⟨⟨b1, b2⟩, b3, b4⟩ := a3 q
    have hGR := GRW_of hzs hok hzl hw hX.2.2.2 q
    have hN := hGR.all q
    obtain ⟨⟨hT, hXo, hV⟩, -⟩ := hGR
    have q76 : mI M2 1269 76 = 0 := a2.trans q
    obtain ⟨M3, c1, ⟨c2, c3⟩, ⟨c4, c5, c6⟩, c7, c8⟩ := M_number_s a4 hT hV b1
    have hZ3 : RZm M3 (tof zs gl) := ⟨⟨b1.nb c8, b2.fjo c8 (fun a j q => by unfold nbS; omega)⟩, ⟨c2, c3⟩, c4, c5, c6⟩
    have q763 : mI M3 1269 76 = 0 := (c8.2.2 _ _ (by unfold nbS; omega)).trans q76
    have hP3 : ROWP M3 0 zs := hP2.fj c8 fun a j q => by unfold nbS; omega
    obtain ⟨M4, d1, d2, d3, d4, d5, d6, d7, d8⟩ := M_layResidue_s hzs hok hzl c7 hT hXo hV hN hZ3 hP3 q763
    have F4 : Fj mvS M M4 := (F2.trans (c8.mono fun a j q => Or.inr (Or.inl q))).trans (d8.mono fun a j q => Or.inr (Or.inr (Or.inl q)))
    have k73 : ∀ j, (j = 73 ∨ j = 74) → mI M4 1269 j = mI M2 1269 j := fun j q => (d8.2.2 _ _ (by unfold lrS ncS rvS; omega)).trans (c8.2.2 _ _ (by unfold nbS; omega))
    rw [if_pos q76, c1, cV_s, c7.gM, gd_t, if_pos q763, gd_t, d1, cV_s, if_pos q]
    by_cases z : (rsd (tof zs gl).1 (tof zs gl).2.1).1 = 0
    · have z76 : mI M4 1269 76 = 0 := d2.trans z
      obtain ⟨e1, e2⟩ := d3 z
      have e84 : mI M4 1269 84 = ((lnF (tof zs gl).2.1).length : Int) := d5.2.1.1
      rw [fin1 M4 d7 z76, e84, if_pos z]
      refine ⟨_, rfl, fun _ => ⟨⟨d5.fjo (fS M4 1) (by unfold rzS; omega), ?_, ?_⟩, ⟨((fS M4 1).2.2 _ _ (by omega)).trans e1.1, e1.2.fj (fS M4 1) (by omega)⟩, ⟨((fS M4 1).2.2 _ _ (by omega)).trans e2.1, e2.2.fj (fS M4 1) (by omega)⟩, mI_at⟩, fun h => absurd ⟨q, z⟩ h, d6.fj (fS M4 1) (by omega), d7.fj (fS M4 1), F4.trans (fE M4 1)⟩
      · rw [mI_ne (by omega), k73 _ (by omega)]; exact b3
      · rw [mI_ne (by omega), k73 _ (by omega)]; exact b4
    · have z76 : ¬ mI M4 1269 76 = 0 := by rw [d2]; exact z
      have d4 := d4 z
      rw [fin0 M4 d7 z76, d2, if_neg z]
      exact ⟨_, rfl, fun h => absurd h.2 z, fun _ => mI_at, d6.fj (fS M4 0) (by omega), d7.fj (fS M4 0), F4.trans (fE M4 0)⟩
  · have q76 : ¬ mI M2 1269 76 = 0 := by rw [a2]; exact q
    rw [if_neg q76, fin0 M2 a4 q76, a2, if_neg q]
    exact ⟨_, rfl, fun h => absurd h.1 q, fun _ => mI_at, hP2.fj (fS M2 0) (by omega), a4.fj (fS M2 0), F2.trans (fE M2 0)⟩
end RDRIVE

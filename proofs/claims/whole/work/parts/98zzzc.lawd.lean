/-! ===== the law's loop: what is driven ===== -/
section LAWD
variable {L : Nat} {xs : Nat → Int} {M M1 : Mem} {T ws gl gc : List Int} {zs nc : List Clz} {bs : Bnd} {es : Nat → List Int} {f dr dp : Int}
def noS : Nat → Nat → Prop := fun _ _ => False
theorem noS_fq {R : Nat → Nat → Prop} : Fq noS R M M := Fq.refl
theorem Lc_drive (hG : Good M) (h : CHf M T zs nc bs gl gc es f dr ws dp) (pv : PVL zs bs gl es dr) : ∃ M1, D_drive 2 M = some (some (.inl (drv zs gl)), M1) ∧ Good M1 ∧ (isd zs gl → CHf M1 T zs (nwP zs gl) bs gl (nwG zs gl) es f 1 ws dp) ∧ (¬ isd zs gl → CHf M1 T zs nc bs gl gc es f 0 ws dp) ∧ Fq ddS grR M M1 := by
  obtain ⟨⟨⟨a1, a2, a3, a4⟩, ⟨a5, a6, a7⟩, ⟨a8, a9⟩, b1⟩, b2⟩ := h
  obtain ⟨M1, h1, h2, h3, h4, h5, q⟩ := D_drive_s hG a2 a4 a9 pv.1.1 pv.1.2.1 pv.2.1.2.1.1.1 pv.2.1.2.1.1.2.1
  have k1 : TPc M1 T := a1.fq q fun k => ⟨by unfold ddS dvS; omega, by unfold ddS dvS; omega⟩
  have k3 : CB M1 bs := a3.fq q (fun a k g => by unfold ddS dvS; omega) (fun k g => by unfold grR dvR; omega)
  have k5 : CS M1 := a5.fq q (fun a k g => by unfold ddS dvS; omega)
  have k6 : mI M1 2 16 = f := (q.2.2 _ _ (by unfold ddS dvS; omega)).trans a6.1
  have k7 : TXc M1 ws := a7.fq q fun k => ⟨by unfold ddS dvS; omega, by unfold ddS dvS; omega⟩
  have k8 : RUx M1 := a8.fq q (fun a k g => by unfold ddS dvS; omega) ⟨by unfold grR dvR; omega, by unfold grR dvR; omega⟩
  have kd : mI M1 21 9 = dp := (q.2.2 _ _ (by unfold ddS dvS; omega)).trans b1
  refine ⟨M1, h1, h5, fun hi => ?_, fun hi => ?_, q⟩
  · obtain ⟨c1, c2, c3, c4⟩ := h2 hi
    exact ⟨⟨⟨k1, c2, k3, c3⟩, ⟨k5, ⟨k6, c4⟩, k7⟩, ⟨k8, h4⟩, kd⟩, fun _ => ⟨c1, rfl, rfl⟩⟩
  · obtain ⟨c2, c3, c4⟩ := h3 hi
    exact ⟨⟨⟨k1, c2, k3, c3⟩, ⟨k5, ⟨k6, c4⟩, k7⟩, ⟨k8, h4⟩, kd⟩, fun hd => absurd rfl hd⟩
theorem Lm_drive (hG : Good M) (h : RHf M T zs bs gl es f dr ws dp) (pv : PVL zs bs gl es dr) : ∃ M1, M_drive 1269 M = some (some (.inl (drv zs gl)), M1) ∧ Good M1 ∧ (isd zs gl → RHf M1 T zs bs gl es f 1 ws dp) ∧ (¬ isd zs gl → RHf M1 T zs bs gl es f 0 ws dp) ∧ Fj mvS M M1 := by
  obtain ⟨⟨⟨r1, r2, r3⟩, ⟨r4, r5⟩, ⟨r6, r7⟩, r8⟩, s⟩ := h
  obtain ⟨M1, h1, h2, h3, h4, h5, q⟩ := M_drive_s hG (r2.rwp pv.1.2.2 pv.1.1 pv.1.2.1) (r4.rx pv.2.1.2.1) r4.1 pv.2.1.2.1.1.1
  have kT : TPm M1 T := r1.fj q (by unfold mvS dkS dtS nbS lrS ncS rvS; omega) (fun k => by unfold mvS dkS dtS nbS lrS ncS rvS; omega)
  have kP : MP M1 zs := ⟨h4.1.1, h4.2.1⟩
  have kB : MB M1 bs := r3.fj q (by unfold mvS dkS dtS nbS lrS ncS rvS; omega) (fun k => by unfold mvS dkS dtS nbS lrS ncS rvS; omega)
  have kO : MO M1 gl := ⟨(q.2.2 _ _ (by unfold mvS dkS dtS nbS lrS ncS rvS; omega)).trans r4.1, fun i hi => (q.2.2 _ _ (by unfold mvS dkS dtS nbS lrS ncS rvS; omega)).trans (r4.2 i hi)⟩
  have kE : MX M1 es := r5.fj q fun k => by unfold mvS dkS dtS nbS lrS ncS rvS; omega
  have kF : mI M1 1269 3 = f := (q.2.2 _ _ (by unfold mvS dkS dtS nbS lrS ncS rvS; omega)).trans r6.1
  have kX : TXm M1 ws := r7.fj q (by unfold mvS dkS dtS nbS lrS ncS rvS; omega) (fun k => by unfold mvS dkS dtS nbS lrS ncS rvS; omega)
  have kd : mI M1 1269 52 = dp := (q.2.2 _ _ (by unfold mvS dkS dtS nbS lrS ncS rvS; omega)).trans r8
  refine ⟨M1, h1, h5, fun hi => ?_, fun hi => ?_, q⟩
  · obtain ⟨c1, c2, c3, c4⟩ := h2 hi
    exact ⟨⟨⟨kT, kP, kB⟩, ⟨kO, kE⟩, ⟨⟨kF, c4⟩, kX⟩, kd⟩, fun _ => ⟨c1, c2, c3⟩⟩
  · exact ⟨⟨⟨kT, kP, kB⟩, ⟨kO, kE⟩, ⟨⟨kF, h3 hi⟩, kX⟩, kd⟩, fun hd => absurd rfl hd⟩
def tcS : Nat → Nat → Prop := fun a j => (a = 2 ∧ j = 15) ∨ a = 767 ∨ a = 768
def tcR : Nat → Nat → Prop := fun a j => a = 2 ∧ (j = 10 ∨ j = 11)
theorem Lc_take (hG : Good M) (h : CHf M T zs nc bs gl gc es f dr ws dp) (hd : dr = 1) : ∃ M1, D_take 2 M = some (some (.inl (nc.length : Int)), M1) ∧ Good M1 ∧ CHf M1 T nc zs bs gc gc es f 0 ws dp ∧ Fq tcS tcR M M1 := by
  obtain ⟨⟨⟨a1, a2, a3, a4⟩, ⟨a5, a6, a7⟩, ⟨a8, a9⟩, b1⟩, b2⟩ := h
  obtain ⟨M1, h1, h2, h3, h4, h5, q⟩ := D_take_1 hG a2 a4 (a6.2.trans hd)
  have q : Fq tcS tcR M M1 := q
  refine ⟨M1, h1, h5, ⟨⟨⟨a1.fq q fun k => ⟨by unfold tcS; omega, by unfold tcS; omega⟩, h2, a3.fq q (fun a k g => by unfold tcS; omega) (fun k g => by unfold tcR; omega), h3⟩, ⟨a5.fq q (fun a k g => by unfold tcS; omega), ⟨(q.2.2 _ _ (by unfold tcS; omega)).trans a6.1, h4⟩, a7.fq q fun k => ⟨by unfold tcS; omega, by unfold tcS; omega⟩⟩, ⟨a8.fq q (fun a k g => by unfold tcS; omega) ⟨by unfold tcR; omega, by unfold tcR; omega⟩, a9.fq q (fun a k g => by unfold tcS; omega)⟩, (q.2.2 _ _ (by unfold tcS; omega)).trans b1⟩, fun hd => absurd rfl hd⟩, q⟩
theorem Lm_take (hG : Good M) (h : RHf M T zs bs gl es f dr ws dp) (pv : PVL zs bs gl es dr) (hd : dr = 1) : ∃ M1, M_take 1269 M = some (some (.inl ((nwP zs gl).length : Int)), M1) ∧ Good M1 ∧ RHf M1 T (nwP zs gl) bs (nwG zs gl) es f 0 ws dp ∧ Fj tkS M M1 := by
  obtain ⟨⟨⟨r1, r2, r3⟩, ⟨r4, r5⟩, ⟨r6, r7⟩, r8⟩, s⟩ := h
  have hn : dr ≠ 0 := by omega
  obtain ⟨⟨n1, n2, n3, n4⟩, -⟩ := pv.new hn
  obtain ⟨-, s1, s2⟩ := s hn
  obtain ⟨M1, h1, h2, h3, h4, h5, h6, h7, q⟩ := M_take_1 hG (r6.2.trans hd) s1 n1 (fun z hz => by
    obtain ⟨-, -, ⟨-, z1, -⟩, ⟨-, -, z2⟩, -⟩ := n2 z hz
    omega) s2 n4.1.2.2
  refine ⟨M1, h1, h7, ⟨⟨⟨r1.fj q (by unfold tkS; omega) (fun k => by unfold tkS; omega), h2, r3.fj q (by unfold tkS; omega) (fun k => by unfold tkS; omega)⟩, ⟨h3, r5.fj q fun k => by unfold tkS; omega⟩, ⟨⟨(q.2.2 _ _ (by unfold tkS; omega)).trans r6.1, h6⟩, r7.fj q (by unfold tkS; omega) (fun k => by unfold tkS; omega)⟩, (q.2.2 _ _ (by unfold tkS; omega)).trans r8⟩, fun hd => absurd rfl hd⟩, q⟩
theorem PVL.take (h : PVL zs bs gl es dr) (hd : dr = 1) : PVL (nwP zs gl) bs (nwG zs gl) es 0 := by
  obtain ⟨⟨n1, n2, n3, n4⟩, -⟩ := h.new (by omega)
  exact ⟨⟨n2, n3, n1⟩, ⟨h.2.1.1, n4, h.2.1.2.2⟩, Or.inl rfl⟩
theorem PVL.drive (h : PVL zs bs gl es dr) : (isd zs gl → PVL zs bs gl es 1) ∧ PVL zs bs gl es 0 := ⟨fun hi => ⟨h.1, h.2.1, Or.inr ⟨rfl, hi⟩⟩, h.1, h.2.1, Or.inl rfl⟩
/-- of a tree that was driven -/
theorem DRc.has (h : DRc M zs gl) (pv : PVL zs bs gl es dr) (hd : dr ≠ 0) : (TI (tof zs gl).2.1 (tof zs gl).2.2 ∧ XOK (tof zs gl).1 (tof zs gl).2.1) ∧ ∀ x ∈ lnF (tof zs gl).2.1, (tof zs gl).2.1 x 14 = -1 ∨ (0 ≤ (tof zs gl).2.1 x 14 ∧ ((tof zs gl).2.1 x 14).toNat ∈ lnF (tof zs gl).2.1) := by
  obtain ⟨⟨t1, t2⟩, t3, t4⟩ := h.all pv.1.1 pv.1.2.1 pv.1.2.2 (pv.new hd).2
  obtain ⟨-, -, -, g⟩ := h
  refine ⟨⟨g.1.1, g.1.2.1⟩, fun x hx => ?_⟩
  have := (t4 x (by rw [t2]; exact hx)).1.2
  rw [F2_eq _ _ _ (by decide) (by decide), t2] at this
  exact this
end LAWD

/-! ===== the class drives ===== -/
def nmR (X : Nat → List Int) (F : FT) : Nat × Nat × Nat := nmf X (nuF F (lnF F)) (lnF F) 0 0 0
def rsd (X : Nat → List Int) (F : FT) : Int × (Nat → List Int) := if nst (nmR X F).2.1 (nmR X F).2.2 = 0 then cmg X (F2of F) (lnF F).reverse (fun _ => []) else (nst (nmR X F).2.1 (nmR X F).2.2, fun _ => [])
def rsP (X : Nat → List Int) (F : FT) : List Clz := (lnF F).flatMap (mcx X (F2of F) (rsd X F).2)
def rsS (P : Nat) : Nat → Nat → Prop := fun a _ => (30 ≤ a ∧ a < 750) ∨ (754 ≤ a ∧ a ≤ 757) ∨ pS P a
section MAKER
variable {zs : List Clz} {X : Nat → List Int} {F0 : FT} {mk P : Nat}
theorem Rs_make_s {M : Mem} {ws : List Clz} (hP : 772 < P) (hzs : zsk 100 zs) (hok : okP zs) (hzl : zs.length ≤ 40) (hT : TI F0 mk) (hX : XOK X F0) (hV : FVL F0) (hN : ∀ x ∈ lnF F0, NS zs X F0 x) (hG : Good M) (hR : TRc M X (nuF F0 (lnF F0)) mk) (hB : NBc M (lnF F0)) (hp : PRx M P ws) (h755 : ∃ cs, XE M 755 10240 cs) : ∃ M', Rs_make 754 27 P M = some (some (.inl (rsd X F0).1), M') ∧ ((rsd X F0).1 = 0 → (TRc M' X (F2of F0) mk ∧ NBc M' (lnF F0)) ∧ (∀ y ∈ lnF F0, XE M' (34 + 6 * y) 100 ((rsd X F0).2 y) ∧ cok X (rsd X F0).2 y) ∧ PRx M' P (rsP X F0) ∧ mI M' 754 3 = ((nmR X F0).1 : Int)) ∧ ((rsd X F0).1 ≠ 0 → PRx M' P ws) ∧ (WKc M' ∧ ∃ cs, XE M' 755 10240 cs) ∧ Good M' ∧ Fj (rsS P) M M' := by
  obtain ⟨⟨t1, t2⟩, hN2, hfin⟩ := fin_ok hzs hok hzl hT hX hV hN
  obtain ⟨cs, h755⟩ := h755
  have hm := hT.1.2.2
  have hlen := hT.len
  have e1 : ∀ a f, f ≠ 13 → nuF F0 (lnF F0) a f = F0 a f := fun a f h => nuF_ne _ _ _ _ h
  obtain ⟨u1, u2⟩ : TI (nuF F0 (lnF F0)) mk ∧ lnF (nuF F0 (lnF F0)) = lnF F0 := hT.upd fun x f hf => e1 x f (by omega)
  have f0 : Fj (fun a j => a = 754 ∧ j = 3) M (stI M 754 3 0) := Fj.ofI ⟨rfl, rfl⟩
  have hG0 := hG.fj f0
  have hR0 : TRc (stI M 754 3 0) X (nuF F0 (lnF F0)) mk := hR.fjo u1 f0 fun a j q => by omega
  have kc : ∀ x ∈ lnF F0, nkc F0 x ≤ 120 ∧ 0 ≤ F0 x 8 := fun x hx => by
    refine ⟨?_, (hT.2.1 x hx).1⟩
    by_cases q : nkc F0 x = 0
    · omega
    · have := hT.1.2.1 _ (hT.kid hx (j := nkc F0 x - 1) (by omega))
      omega
  obtain ⟨M1, a1, a2, a3, a4, a5⟩ := Rs_name_loop (X := X) (mk := mk) (lnF F0) [] (stI M 754 3 0) (nuF F0 (lnF F0)) 0 0 0 none hG0 u1 hR0 u2 (fun x hx => by
    have := (hN x hx).k.1
    have h2 := kc x hx
    have h3 := (hX x hx).2.2
    have h4 := ord_len (X x)
    rw [e1 x 4 (by decide), e1 x 8 (by decide)]
    unfold nkc at h2
    omega) mI_at ⟨Nat.le_refl _, Nat.le_refl _⟩ (by omega)
  have a1 : Rs_nameFunctions_12 754 27 0 0 0 none (stI M 754 3 0) = some (some (.inl (nst (nmR X F0).2.1 (nmR X F0).2.2)), M1) := a1
  have a2 : TRc M1 X (F2of F0) mk := a2
  have a3 : mI M1 754 3 = ((nmR X F0).1 : Int) := a3
  have F1 : Fj (rsS P) M M1 := (f0.mono fun a j q => by unfold rsS; omega).trans (a5.mono fun a j q => by unfold rsS; omega)
  have hB1 : NBc M1 (lnF F0) := fun i x hx => by
    rw [a5.2.2 _ _ (by omega), f0.2.2 _ _ (by have := hT.1.2.1 x (List.mem_of_getElem? hx); omega)]
    exact hB i x hx
  have h7551 : XE M1 755 10240 cs := (h755.fj f0 (by omega) (by omega)).ext fun a j q => a5.2.2 a j (by omega)
  have hp1 : PRx M1 P ws := (hp.fj f0 fun a j q => by unfold pS at q; omega).fj a5 fun a j q => by unfold pS at q; omega
  have h8 := a2.1.1.1
  rw [t2] at h8
  have hl0 : 0 < (lnF F0).length := List.length_pos_of_mem (pre_self F0 120 0)
  have head : Rs_make 754 27 P M = Rs_make_14 754 27 P (nst (nmR X F0).2.1 (nmR X F0).2.2) (((lnF F0).reverse.length : Int) - 1) M1 := by
    rw [Rs_make_eq, hG.gRs, gd_t, Rs_nameFunctions_eq, hG.gRs, gd_t, a1, cI_s, a4.gT, gd_t, h8, wr_id (x := ((lnF F0).length : Int) - 1) (by omega) (by omega), List.length_reverse]
  rw [head]
  have hms := nmf_most (X := X) (F := nuF F0 (lnF F0)) (lnF F0) 0 0 0
  by_cases q : nst (nmR X F0).2.1 (nmR X F0).2.2 = 0
  · have hr : rsd X F0 = cmg X (F2of F0) (lnF F0).reverse (fun _ => []) := if_pos q
    have hq : ¬ 8 < (nmR X F0).2.2 ∧ ¬ 40 < (nmR X F0).2.1 := by
      unfold nst at q
      by_cases z : 8 < (nmR X F0).2.2
      · rw [if_pos z] at q; exact absurd q (by decide)
      · rw [if_neg z] at q
        by_cases z2 : 40 < (nmR X F0).2.1
        · rw [if_pos z2] at q; exact absurd q (by decide)
        · exact ⟨z, z2⟩
    have hall := hfin fun x hx hf => Nat.le_trans (hms.2 x hx hf) (by have := hq.1; unfold nmR at this; omega)
    have hal := nmf_all (X := X) (F := nuF F0 (lnF F0)) (G := F2of F0) (C := (rsd X F0).2) (lnF F0) 0 0 0 fun x hx => ⟨(hall x hx).2, by unfold nkc; rw [F2_eq F0 x 8 (by decide) (by decide), e1 x 8 (by decide)]⟩
    obtain ⟨M2, b1, b2, ⟨b3, cs2, b4⟩, b5, b6⟩ := Rs_make_loop (a2 := P) hzs t1 (fun x hx => hX x (by rw [t2] at hx; exact hx)) (fun x hx => hN2 x (by rw [t2] at hx; exact hx)) (fun x hx => (hall x (by rw [t2] at hx; exact hx)).1.1) (lnF F0).reverse [] M1 (fun _ => []) cs (by rw [t2, List.reverse_reverse, List.append_nil]) a4 a2 (fun y hy => by cases hy) h7551
    rw [← hr] at b1 b2
    have F2 : Fj (rsS P) M M2 := F1.trans (b6.mono fun a j q => by unfold fcS cgS at q; unfold rsS; omega)
    have hp2 : PRx M2 P ws := hp1.fj b6 fun a j q => by unfold pS at q; unfold fcS cgS; omega
    rw [q]
    by_cases z : (rsd X F0).1 = 0
    · obtain ⟨c1, c2⟩ := b1 z
      have c3 : ∀ y ∈ lnF F0, XE M2 (34 + 6 * y) 100 ((rsd X F0).2 y) ∧ cok X (rsd X F0).2 y := fun y hy => c2 y (by rw [t2]; exact hy)
      have hQ : ∀ y ∈ lnF (F2of F0), MQx X (F2of F0) (rsd X F0).2 y := fun y hy => by
        rw [t2] at hy
        obtain ⟨⟨⟨⟨g1, -, -⟩, -, ⟨g2, -⟩, -⟩, g3⟩, -⟩ := hall y hy
        exact ⟨⟨(hX y hy).2.2, g1, g2⟩, g3, (c3 y hy).2.1.2⟩
      obtain ⟨M3, d1, d2, d3, d4⟩ := Rs_makeClauses_s (C := (rsd X F0).2) hP b5 b3 t1 hQ hp2 (by rw [t2]; have := hq.2; unfold nmR at this; omega) (fun y hy => (c3 y (by rw [t2] at hy; exact hy)).1)
      rw [t2] at d2
      have o4 : ∀ a j, (30 ≤ a ∧ a < 750) ∨ a = 755 ∨ a = 756 ∨ (a = 754 ∧ j ≠ 2) → mI M3 a j = mI M2 a j := fun a j h => d4.2.2 a j (by unfold mzS arS pS; omega)
      have hR3 : TRc M3 X (F2of F0) mk := b3.fjo t1 d4 fun a j q => by unfold mzS arS pS; omega
      rw [c1, d1, cV_s, z]
      refine ⟨M3, rfl, fun _ => ⟨⟨hR3, fun i x hx => ?_⟩, fun y hy => ⟨(c3 y hy).1.ext fun a j q => o4 a j (by have := hT.1.2.1 y hy; omega), (c3 y hy).2⟩, d2, ?_⟩, fun h => absurd rfl h, ⟨hR3.2.2, cs2, b4.ext fun a j q => o4 a j (by omega)⟩, d3, F2.trans (d4.mono fun a j q => by unfold mzS arS pS at q; unfold rsS pS; omega)⟩
      · have := hT.1.2.1 x (List.mem_of_getElem? hx)
        rw [o4 _ _ (by omega), b6.2.2 _ _ (by unfold fcS cgS; omega)]
        exact hB1 i x hx
      · rw [o4 _ _ (by omega), b6.2.2 _ _ (by unfold fcS cgS; omega)]
        exact a3
    · rw [b2 z]
      exact ⟨M2, rfl, fun h => absurd h z, fun _ => hp2, ⟨b3.2.2, cs2, b4⟩, b5, F2⟩
  · have hr : rsd X F0 = (nst (nmR X F0).2.1 (nmR X F0).2.2, fun _ => []) := if_neg q
    refine ⟨M1, ?_, fun h => absurd (by rw [hr] at h; exact h) q, fun _ => hp1, ⟨a2.2.2, cs, h7551⟩, a4, F1⟩
    rw [hr, Rs_make_14_eq, List.length_reverse, if_neg (by omega), if_neg q, if_neg q]
end MAKER

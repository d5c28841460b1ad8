/-! ===== the class: what comes of all nodes ===== -/
theorem pre_sub {F : FT} {x j : Nat} : ∀ (n a : Nat), x ∈ pre F n a → (∀ y ∈ pre F n a, Tok F y ∧ y < n + a) → j < nkc F x → List.Sublist [x, nfk F x + j] (pre F n a) := by
  intro n
  induction n with
  | zero =>
    intro a hx h _
    have := (h a (pre_self F 0 a)).2
    omega
  | succ n ih =>
    intro a hx h hj
    obtain ⟨ha, -⟩ := h a (pre_self F (n + 1) a)
    rcases List.mem_cons.mp hx with e | e
    · subst e
      exact List.Sublist.cons_cons x (List.singleton_sublist.mpr (List.mem_flatMap.mpr ⟨j, List.mem_range.mpr hj, pre_self F n _⟩))
    · obtain ⟨i, hi, hx2⟩ := List.mem_flatMap.mp e
      have hi2 := List.mem_range.mp hi
      have hlt : a < nfk F a := ha.lt (by omega)
      have hp : ∀ y, y ∈ pre F n (nfk F a + i) → y ∈ pre F (n + 1) a := fun y hy => List.mem_cons_of_mem _ (List.mem_flatMap.mpr ⟨i, hi, hy⟩)
      have h1 := ih (nfk F a + i) hx2 (fun y hy => ⟨(h y (hp y hy)).1, by have := (h y (hp y hy)).2; omega⟩) hj
      obtain ⟨s, t, hst⟩ := List.append_of_mem hi
      have h2 : List.Sublist (pre F n (nfk F a + i)) ((List.range (nkc F a)).flatMap fun j => pre F n (nfk F a + j)) := by
        rw [hst, List.flatMap_append, List.flatMap_cons]
        exact (List.sublist_append_left _ _).trans (List.sublist_append_right _ _)
      exact (h1.trans h2).trans (List.sublist_cons_self _ _)
theorem TI.after {F : FT} {mk x j : Nat} {A D : List Nat} (h : TI F mk) (hL : lnF F = A ++ x :: D) (hj : j < nkc F x) : nfk F x + j ∈ D := by
  have hx : x ∈ lnF F := by rw [hL]; simp
  have hs : List.Sublist [x, nfk F x + j] (lnF F) := pre_sub 120 0 hx (fun y hy => ⟨h.2.1 y hy, by have := h.1.2.1 y hy; have := h.1.2.2; omega⟩) hj
  have hn := h.1.1
  rw [hL] at hs hn
  have hxA : x ∉ A := fun q => (List.nodup_append.mp hn).2.2 x q x (by simp) rfl
  obtain ⟨l1, l2, e, s1, s2⟩ := List.sublist_append_iff.mp hs
  cases l1 with
  | nil =>
    rw [List.nil_append] at e
    subst e
    have := List.cons_sublist_cons.mp s2
    exact List.singleton_sublist.mp this
  | cons b l1 =>
    have hb : b = x := by
      have := congrArg List.head? e
      simp only [List.head?_cons, List.cons_append] at this
      exact (Option.some.inj this).symm
    subst hb
    exact absurd (s1.subset (by simp)) hxA
section MAKE
variable {M : Mem} {X : Nat → List Int} {F : FT} {mk x : Nat} {C : Nat → List Int} {ys : List Int}
/-- what holds of a node when what comes of it is made -/
def RK (X : Nat → List Int) (F : FT) (x : Nat) : Prop := ((0 ≤ F x 4 ∧ F x 4 ≤ 6) ∧ (F x 4 = 1 → nkc F x ≤ 15) ∧ (F x 4 = 2 → nkc F x ≤ 1)) ∧ ((F x 4 = 3 → F x 9 ≠ -1) ∧ (F x 4 = 5 → nkc F x = 1 + (ord (X (nfk F x))).length)) ∧ ((-1 ≤ F x 9 ∧ F x 9 < 120) ∧ (F x 4 = 4 → 0 ≤ F x 14 ∧ (F x 14).toNat ∈ lnF F ∧ -1 ≤ F (F x 14).toNat 9 ∧ F (F x 14).toNat 9 < 120)) ∧ ((F x 4 = 4 ∨ F x 9 ≠ -1) → (sid (X x) (F x 10)).length ≤ 8)
theorem TRc.cm {M1 : Mem} (h : TRc M X F mk) (hx : x < 120) (f : Fi (eS (34 + 6 * x)) M M1) (hy : XE M1 (34 + 6 * x) 100 ys) : TRc M1 X F mk := by
  obtain ⟨⟨hLN, h9⟩, hnd, hwk⟩ := h
  have o : ∀ a j, a ≠ 34 + 6 * x → a ≠ 35 + 6 * x → mI M1 a j = mI M a j := fun a j h1 h2 => f.2.2 a (by unfold eS; omega) j
  have r : ∀ a j, mR M1 a j = mR M a j := fun a j => f.2.1 a j
  refine ⟨⟨⟨(o _ _ (by omega) (by omega)).trans hLN.1, fun i y hy => (r _ _).trans (hLN.2 i y hy)⟩, (o _ _ (by omega) (by omega)).trans h9⟩, fun y hy => ?_, fun y hy2 => ?_⟩
  · obtain ⟨⟨p1, p2, p3⟩, ⟨p4, p5⟩, ⟨p6, p7⟩, ⟨p8, p9⟩, p10⟩ := hnd y hy
    refine ⟨⟨p1.ext fun a j q => o a j (by omega) (by omega), fun i hi => (o _ _ (by omega) (by omega)).trans (p2 i hi), (o _ _ (by omega) (by omega)).trans p3⟩, ⟨fun g hg => (o _ _ (by omega) (by omega)).trans (p4 g hg), (o _ _ (by omega) (by omega)).trans p5⟩, ⟨(r _ _).trans p6, (r _ _).trans p7⟩, ⟨(r _ _).trans p8, (r _ _).trans p9⟩, (r _ _).trans p10⟩
  · obtain ⟨⟨zs, w1⟩, us, w2⟩ := hwk y hy2
    refine ⟨⟨zs, w1.ext fun a j q => o a j (by omega) (by omega)⟩, ?_⟩
    by_cases q : y = x
    · subst q; exact ⟨_, hy⟩
    · exact ⟨us, w2.ext fun a j q => o a j (by omega) (by omega)⟩
theorem Rs_fill_s (hG : Good M) (hR : TRc M X F mk) (hT : TI F mk) (hx : x ∈ lnF F) (hX : eok (X x)) (hk : RK X F x) (hK : ∀ i, i < nkc F x → XE M (34 + 6 * (nfk F x + i)) 100 (C (nfk F x + i)) ∧ av (C (nfk F x + i)) ∧ (X (nfk F x + i)).length ≤ 40) (h755 : XE M 755 10240 []) : ∃ M', Rs_fillComing 754 (30 + 6 * x) M = some (none, M') ∧ XE M' 755 10240 (cmo X F C x) ∧ Good M' ∧ Fj cgS M M' := by
  obtain ⟨e1, e2, e3⟩ := hX
  obtain ⟨⟨⟨k1, k2⟩, k3, k4⟩, ⟨k5, k6⟩, ⟨⟨k7, k8⟩, k9⟩, k10⟩ := hk
  have hxm := hT.1.2.1 x hx
  have hm := hT.1.2.2
  have hgn := hG.nd (x := x) (by omega)
  have hlen := wf_len _ _ e1
  obtain ⟨⟨p1, -⟩, ⟨p4, p5⟩, ⟨p6, -⟩, ⟨p8, -⟩, -⟩ := hR.2.1 x hx
  have i4 : mI M (30 + 6 * x) 4 = F x 4 := by rw [p5, if_neg (by omega)]
  have i9 : mI M (30 + 6 * x) 9 = F x 9 := p4 9 (by unfold nf; omega)
  have r0 := (hG.ndr (x := x) (by omega)).1
  have cc : Ex_cellAt (31 + 6 * x) 0 M = some (some (.inl (nth (X x) 0)), M) := by
    have := Ex_cellAt_s hG p1 ((0 : Nat) : Int)
    rw [cA_n (by omega)] at this
    exact this
  have K := fun i hi => (hK i hi).1
  have fe : ∀ {M1 : Mem}, Fi (eS 755) M M1 → Fj cgS M M1 := fun f => f.fj fun a j q => by unfold eS at q; unfold cgS; omega
  rw [Rs_fillComing_eq, hgn, gd_t, i4]
  unfold cmo
  by_cases q0 : F x 4 = 0
  · obtain ⟨M1, b1, b2, b3⟩ := Ex_add_s hG h755 (nth (X x) 0) (by rw [List.length_nil]; omega)
    rw [if_pos q0, if_pos q0, hG.gRs, gd_t, gd_t, r0, p1.g hG, gd_t, cc, cI_s, hG.r754_0, h755.g hG, gd_t, b1, cV_s]
    exact ⟨M1, rfl, b2, hG.fi b3, fe b3⟩
  rw [if_neg q0, if_neg q0]
  by_cases q1 : F x 4 = 1
  · obtain ⟨M1, b1, b2, b3⟩ := Ex_add_s hG h755 (nth (X x) 0) (by rw [List.length_nil]; omega)
    have hG1 := hG.fi b3
    have hR1 : TRc M1 X F mk := hR.fjo hT (b3.fj (T := fun a _ => eS 755 a) fun a j q => q) fun a j q => by unfold eS; omega
    obtain ⟨M', c1, c2, c3, c4⟩ := Rs_kcat_s hG1 hR1 hT hx (by have := k3 q1; omega) (fun i hi => (K i hi).fi b3 (by have := hT.1.2.1 _ (hT.kid hx hi); unfold eS; omega) (by have := hT.1.2.1 _ (hT.kid hx hi); unfold eS; omega)) b2 (by rw [List.length_append, List.length_nil, List.length_singleton]; omega)
    rw [if_pos q1, if_pos q1, hG.gRs, gd_t, gd_t, r0, p1.g hG, gd_t, cc, cI_s, hG.r754_0, h755.g hG, gd_t, b1, cV_s, hG1.gRs, gd_t, c1, cV_s]
    exact ⟨M', rfl, c2, c3, fe (b3.trans c4)⟩
  rw [if_neg q1, if_neg q1]
  -- a STEP or a SPLIT one
  have f85 : nkc F x ≤ 16 ∨ F x 9 ≠ -1 → ((F x 9 ≠ -1) → (sid (X x) (F x 10)).length ≤ 8) → ∃ M', Rs_fillComing_85 754 (30 + 6 * x) M = some (none, M') ∧ XE M' 755 10240 (if F x 9 = -1 then kcat F C x else cmC (F x 9) (sid (X x) (F x 10))) ∧ Good M' ∧ Fj cgS M M' := by
    intro h1 h2
    rw [Rs_fillComing_85_eq, hgn, gd_t, i9]
    by_cases q9 : F x 9 = -1
    · obtain ⟨M', c1, c2, c3, c4⟩ := Rs_kcat_s hG hR hT hx (h1.resolve_right (fun h => h q9)) K h755 (by rw [List.length_nil]; omega)
      rw [if_pos q9, if_pos q9, hG.gRs, gd_t, c1, cV_s]
      exact ⟨M', rfl, c2, c3, fe c4⟩
    · obtain ⟨M', c1, c2, c3, c4⟩ := Rs_addCall_s hG hR hT hx e3 ⟨k7, k8⟩ (by have := h2 q9; omega) h755 (by rw [List.length_nil]; omega)
      rw [if_neg q9, if_neg q9, gd_t, hG.gRs, gd_t, c1, cV_s]
      exact ⟨M', rfl, c2, c3, c4⟩
  by_cases q23 : F x 4 = 2 ∨ F x 4 = 3
  · rw [if_pos q23]
    obtain ⟨M', c1, c2⟩ := f85 (by rcases q23 with q | q; exact Or.inl (by have := k4 q; omega); exact Or.inr (k5 q)) (fun h => k10 (Or.inr h))
    by_cases q2 : F x 4 = 2
    · rw [if_pos q2]
      exact ⟨M', c1, c2⟩
    · rw [if_neg q2, if_pos (by omega)]
      exact ⟨M', c1, c2⟩
  rw [if_neg q23, if_neg (by omega), if_neg (by omega)]
  by_cases q4 : F x 4 = 4
  · obtain ⟨y0, y1, y2, y3⟩ := k9 q4
    have en : ndf (F x 14) = 30 + 6 * (F x 14).toNat := if_neg (by omega)
    have hym := hT.1.2.1 _ y1
    have j9 : mI M (30 + 6 * (F x 14).toNat) 9 = F (F x 14).toNat 9 := (hR.2.1 _ y1).2.1.1 9 (by unfold nf; omega)
    generalize (F x 14).toNat = y at *
    obtain ⟨M', c1, c2, c3, c4⟩ := Rs_addCall_s hG hR hT hx e3 (fn := F y 9) ⟨y2, y3⟩ (by have := k10 (Or.inl q4); omega) h755 (by rw [List.length_nil]; omega)
    rw [if_pos q4, if_pos q4, gd_t, p6, en, if_neg (by omega), gd_t, hG.nd (by omega), gd_t, hG.gRs, gd_t, j9, c1, cV_s]
    exact ⟨M', rfl, c2, c3, c4⟩
  rw [if_neg q4, if_neg q4]
  by_cases q5 : F x 4 = 5
  · have hn := k6 q5
    have h8 : ¬ F x 8 = 0 := fun e => by rw [(nkc_0 e).1] at hn; omega
    obtain ⟨-, b2, b3⟩ := hK 0 (by omega)
    rw [Nat.add_zero] at b2 b3
    have h100 : (C (nfk F x)).length ≤ 100 := (K 0 (by omega)).2.2
    obtain ⟨M', c1, c2, c3, c4⟩ := Rs_let_loop hT hx hn b3 b2 (some (.inr (30 + 6 * x))) _ 0 M [] none none none none rfl (Nat.zero_le _) hG hR K h755 (by rw [List.length_nil]; omega)
    have c1 : Rs_addLet_12 754 (30 + 6 * nfk F x) 0 (some (.inr (30 + 6 * x))) none none none none M = some (none, M') := c1
    rw [if_pos q5, if_pos q5, hG.gRs, gd_t, Rs_addLet_eq, hgn, gd_t, p8, if_neg h8, if_neg (by omega), c1, cV_s]
    exact ⟨M', rfl, c2, c3, fe c4⟩
  · obtain ⟨M1, b1, b2, b3⟩ := Ex_add_s hG h755 50331648 (by rw [List.length_nil]; omega)
    rw [if_neg q5, if_neg q5, hG.gRs, gd_t, hG.r754_0, h755.g hG, gd_t, b1, cV_s]
    exact ⟨M1, rfl, b2, hG.fi b3, fe b3⟩
end MAKE

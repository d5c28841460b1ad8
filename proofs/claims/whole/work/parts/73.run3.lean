/-! ===== the class's run from its start ===== -/
def run0 (zs : List Clz) (bs : Bnd) (xs : List Int) : List Int × Nat × Nat × Nat × Nat := rnl zs 200 (fll bs xs) 0 (fll bs xs).length 0
theorem fil_cases {bs : Bnd} (hb : bok bs) {c : Int} (hc : vc c) : fil bs c = [c] ∨ (arN c = 0 ∧ ∃ q ∈ bs, fil bs c = q.2) := by
  by_cases h : kd c = 0 ∧ ix (bvs bs) c ≠ -1
  · have har := hc.2.1 h.1
    have hal := arN_ar c
    have hrg := ix_rng (bvs bs) c
    rw [bvs_len] at hrg
    obtain ⟨j, hj⟩ := Int.eq_ofNat_of_zero_le (show 0 ≤ ix (bvs bs) c by have := h.2; omega)
    obtain ⟨q, hq⟩ : ∃ q, bs[j]? = some q := ⟨bs[j], List.getElem?_eq_getElem (by omega)⟩
    exact Or.inr ⟨by omega, q, List.mem_of_getElem? hq, fil_at h.1 hj hq⟩
  · unfold fil
    rw [if_neg h]
    exact Or.inl rfl
theorem fll_wf {bs : Bnd} (hb : bok bs) {xs : List Int} {w : Nat} (hw : wf w xs) (hv : av xs) : wf w (fll bs xs) := wf_flat _ _ hw fun c hc => by
  rcases fil_cases hb (hv c hc) with e | ⟨e, q, hq, e2⟩
  · exact Or.inl e
  · exact Or.inr ⟨e, by rw [e2]; exact (hb.1 q hq).2.1.1⟩
theorem fll_av {bs : Bnd} (hb : bok bs) {xs : List Int} (hv : av xs) : av (fll bs xs) := fun d hd => by
  obtain ⟨c, hc, h2⟩ := List.mem_flatMap.mp hd
  rcases fil_cases hb (hv c hc) with e | ⟨-, q, hq, e2⟩
  · rw [e] at h2
    rw [List.mem_singleton.mp h2]
    exact hv c hc
  · rw [e2] at h2
    exact (hb.1 q hq).2.1.2.1 d h2
theorem fll_len {bs : Bnd} (hb : bok bs) {xs : List Int} (hv : av xs) : (fll bs xs).length ≤ 40 * xs.length := flat_len xs fun c hc => by
  rcases fil_cases hb (hv c hc) with e | ⟨-, q, hq, e2⟩
  · rw [e]; simp
  · rw [e2]; exact (hb.1 q hq).2.1.2.2
section RUNC3
variable {M : Mem} {zs : List Clz} {P N S e n B : Nat} {xs : List Int} {bs : Bnd}
theorem Ru_perform_s (hP : 772 < P ∧ P < 1259) (hz : zsk 100 zs) (hG : Good M) {ys : List Int} (hU : RUc M N S ys) (hp : PRc M P zs) (he : 26 < e) (hx : XE M e n xs) (hv : av xs) (hw : wf 1 xs) (hl : xs.length ≤ 100) (hB0 : 1258 < B) (hB : BDc M B bs) (hb : bok bs) : ∃ M', Ru_perform 21 P e B M = some (none, M') ∧ RNc M' (run0 zs bs xs) ∧ Good M' ∧ Fq rpS ruR M M' := by
  obtain ⟨hn, ⟨r1, r2⟩, x1, us, x2⟩ := hU
  have hlen := fll_len hb hv
  obtain ⟨M1, a1, a2, a3⟩ := Bo_fill_s hG hB hx hv x1 (by omega) (by omega) (by omega) (fun a q => by unfold eS at q; unfold bS; omega) (by omega)
  have hG1 := hG.fi a3
  have s1 : mR M1 21 1 = N := (a3.2.1 _ _).trans r1
  have s2 : mR M1 21 2 = S := (a3.2.1 _ _).trans r2
  have y2 : XE M1 S 20480 us := x2.fi a3 (by unfold eS; omega) (by unfold eS; omega)
  have hp1 : PRc M1 P zs := hp.fi a3 fun a q => by unfold pS at q; unfold eS; omega
  have f2 : Fj (fun a k => a = 21 ∧ (k = 7 ∨ k = 8 ∨ k = 9)) M1 (stI (stI (stI M1 21 7 0) 21 9 0) 21 8 ((fll bs xs).length : Int)) := ((Fj.ofI (by omega)).trans (Fj.ofI (by omega))).trans (Fj.ofI (by omega))
  have hG2 := hG1.fj f2
  have hU2 : RUc (stI (stI (stI M1 21 7 0) 21 9 0) 21 8 ((fll bs xs).length : Int)) N S (fll bs xs) := ⟨hn, ⟨s1, s2⟩, a2.fj f2 (by omega) (by omega), us, y2.fj f2 (by omega) (by omega)⟩
  have hp2 : PRc (stI (stI (stI M1 21 7 0) 21 9 0) 21 8 ((fll bs xs).length : Int)) P zs := hp1.fj f2 fun a k q => by unfold pS at q; omega
  have hv2 := fll_av hb hv
  have hw2 := fll_wf hb hw hv
  obtain ⟨M3, b1, b2, b3, b4, b5⟩ := Ru_stateOf_s hP.1 hG2 hU2 hp2 hv2
  have f4 : Fj (fun a k => a = 21 ∧ k = 6) M3 (stI M3 21 6 (stO zs (fll bs xs) : Nat)) := Fj.ofI ⟨rfl, rfl⟩
  have hG4 := b4.fj f4
  have hU4 : RUc (stI M3 21 6 (stO zs (fll bs xs) : Nat)) N S (fll bs xs) := b3.fq (f4.fq (R := nor) fun a k q => q) (by omega) ⟨fun q => q, fun q => q⟩
  have hp3 : PRc M3 P zs := hp2.ext fun a k q => b5.2.2 a k (by unfold pS at q; unfold nxS; omega)
  have hp4 : PRc (stI M3 21 6 (stO zs (fll bs xs) : Nat)) P zs := hp3.fj f4 fun a k q => by unfold pS at q; omega
  have k7 : mI M3 21 7 = ((0 : Nat) : Int) := (b5.2.2 _ _ (by unfold nxS; omega)).trans (by rw [mI_ne (by omega), mI_ne (by omega), mI_at]; rfl)
  have k8 : mI M3 21 8 = ((fll bs xs).length : Int) := (b5.2.2 _ _ (by unfold nxS; omega)).trans mI_at
  have k9 : mI M3 21 9 = ((0 : Nat) : Int) := (b5.2.2 _ _ (by unfold nxS; omega)).trans (by rw [mI_ne (by omega), mI_at]; rfl)
  obtain ⟨M5, c1, c2, c3, c4⟩ := Ru_perform_loop hP.1 hz 200 0 (stI M3 21 6 (stO zs (fll bs xs) : Nat)) N S (fll bs xs) 0 (fll bs xs).length 0 (some (.inr e)) (some (.inr B)) rfl hG4 hU4 hp4 hv2 hw2 mI_at (fun q => by obtain ⟨w1, w2⟩ := b2 q; exact ⟨by rw [mI_ne (by omega)]; exact w1, w2⟩) (by rw [mI_ne (by omega)]; exact k7) (by rw [mI_ne (by omega)]; exact k8) (by rw [mI_ne (by omega)]; exact k9) (Nat.zero_le _)
  have c1 : Ru_perform_42 21 P 0 (some (.inr e)) (some (.inr B)) (stI M3 21 6 (stO zs (fll bs xs) : Nat)) = some (none, M5) := c1
  have e1 : mI (stI (stI M1 21 7 0) 21 9 0) N 1 = ((fll bs xs).length : Int) := by rw [mI_ne (by omega), mI_ne (by omega)]; exact a2.s
  rw [Ru_perform_eq, hG.gRu, gd_t, hB.g hG, gd_t, r1, a1, cV_s, hG1.gRu, gd_t, gd_t, gd_t, s1, a2.g hG1, gd_t, gd_t, gd_t, e1, b1, cI_s, b4.gRu, gd_t, c1]
  have F1 : Fq rpS ruR M M1 := (a3.fj (T := rpS) fun a k q => by unfold eS at q; unfold rpS; omega).fq fun a k q => q
  have F2 : Fq rpS ruR M1 (stI (stI (stI M1 21 7 0) 21 9 0) 21 8 ((fll bs xs).length : Int)) := f2.fq fun a k q => by unfold rpS; omega
  have F3 : Fq rpS ruR (stI (stI (stI M1 21 7 0) 21 9 0) 21 8 ((fll bs xs).length : Int)) M3 := b5.mono (fun a k q => by unfold nxS at q; unfold rpS; omega) fun a k q => by unfold nxR at q; unfold ruR; omega
  have F4 : Fq rpS ruR M3 (stI M3 21 6 (stO zs (fll bs xs) : Nat)) := f4.fq fun a k q => by unfold rpS; omega
  exact ⟨M5, rfl, c2, c3, (((F1.trans F2).trans F3).trans F4).trans c4⟩
theorem Ru_answer_s (hG : Good M) {r : List Int × Nat × Nat × Nat × Nat} (h : RNc M r) (w : Int) : Ru_answer 21 w M = some (some (.inl (if w = 0 then (r.2.1 : Int) else if w = 1 then (r.2.2.1 : Int) else if w = 2 then (r.1.length : Int) else if w = 3 then (r.2.2.2.1 : Int) else -1)), M) := by
  obtain ⟨⟨N, S, hU⟩, ⟨h6, h7⟩, h8, h9⟩ := h
  obtain ⟨-, ⟨r1, -⟩, x1, -⟩ := hU
  rw [Ru_answer_eq, hG.gRu, r1, x1.g hG, x1.s, h6, h7, h8]
  by_cases q0 : w = 0
  · rw [if_pos q0, if_pos q0, gd_t]
  rw [if_neg q0, if_neg q0]
  by_cases q1 : w = 1
  · rw [if_pos q1, if_pos q1, gd_t]
  rw [if_neg q1, if_neg q1]
  by_cases q2 : w = 2
  · rw [if_pos q2, if_pos q2, gd_t, gd_t]
  rw [if_neg q2, if_neg q2]
  by_cases q3 : w = 3
  · rw [if_pos q3, if_pos q3, gd_t]
  rw [if_neg q3, if_neg q3]
end RUNC3

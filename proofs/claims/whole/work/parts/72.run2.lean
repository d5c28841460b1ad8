/-! ===== the class's run ===== -/
section RUNC2
variable {M : Mem} {zs : List Clz} {P N S : Nat} {xs : List Int}
theorem RUc.fq {M1 : Mem} {A R : Nat → Nat → Prop} (h : RUc M N S xs) (f : Fq A R M M1) (h0 : ∀ a k, 23 ≤ a ∧ a ≤ 26 → ¬ A a k) (h1 : ¬ R 21 1 ∧ ¬ R 21 2) : RUc M1 N S xs := by
  obtain ⟨hn, ⟨r1, r2⟩, x1, ys, x2⟩ := h
  exact ⟨hn, ⟨(f.2.1 _ _ h1.1).trans r1, (f.2.1 _ _ h1.2).trans r2⟩, x1.ext fun a k q => f.2.2 a k (h0 a k (by omega)), ys, x2.ext fun a k q => f.2.2 a k (h0 a k (by omega))⟩
theorem stO_4 (h : stO zs xs = 4) : xs.length ≤ 120 ∧ (nxt zs xs).1 = 4 := by
  unfold stO at h
  split at h
  · cases h
  · rename_i h1
    split at h
    · cases h
    · split at h
      · rename_i h2
        exact ⟨by omega, h2⟩
      · cases h
/-- READY: where and by what -/
def RDc (M : Mem) (P : Nat) (zs : List Clz) (xs : List Int) : Prop := stO zs xs = 4 → mI M 21 3 = ((nxt zs xs).2.1 : Nat) ∧ mR M 21 4 = P + 2 + 4 * (nxt zs xs).2.2
theorem Ru_stateOf_s (hP : 772 < P) (hG : Good M) (hU : RUc M N S xs) (hp : PRc M P zs) (hv : av xs) : ∃ M', Ru_stateOf 21 P M = some (some (.inl (stO zs xs : Nat)), M') ∧ RDc M' P zs xs ∧ RUc M' N S xs ∧ Good M' ∧ Fq nxS nxR M M' := by
  obtain ⟨hn, ⟨r1, r2⟩, x1, x2⟩ := hU
  have hU : RUc M N S xs := ⟨hn, ⟨r1, r2⟩, x1, x2⟩
  rw [Ru_stateOf_eq, hG.gRu, gd_t, r1, x1.g hG, gd_t, x1.s]
  by_cases hl : 120 < xs.length
  · have e : stO zs xs = 3 := if_pos hl
    rw [if_pos (by omega), e]
    exact ⟨M, rfl, fun q => (by rw [e] at q; cases q), hU, hG, Fq.refl⟩
  · obtain ⟨M', a1, a2, a3, a4⟩ := Ru_undoneState_s (e := N) (by omega) (by omega) hv hG x1 hp r1
    have e : stO zs xs = if (nxt zs xs).1 = 0 then 0 else if (nxt zs xs).1 = 4 then 4 else 1 := if_neg hl
    rw [if_neg (by omega), gd_t, a1, cI_s]
    refine ⟨M', ?_, fun q => ?_, hU.fq a4 (by unfold nxS; omega) (by unfold nxR; omega), a3, a4⟩
    · rw [e]
      by_cases q0 : (nxt zs xs).1 = 0
      · rw [if_pos q0, if_pos q0]; rfl
      · rw [if_neg q0, if_neg q0]
        by_cases q4 : (nxt zs xs).1 = 4
        · rw [if_pos q4, if_pos q4]; rfl
        · rw [if_neg q4, if_neg q4]; rfl
    · obtain ⟨b1, b2, -⟩ := a2 (stO_4 q).2
      exact ⟨b1, b2⟩
/-- what a run of the class leaves -/
def RNc (M : Mem) (r : List Int × Nat × Nat × Nat × Nat) : Prop := (∃ N S, RUc M N S r.1) ∧ (mI M 21 6 = (r.2.1 : Int) ∧ mI M 21 7 = (r.2.2.1 : Int)) ∧ mI M 21 8 = (r.2.2.2.1 : Int) ∧ mI M 21 9 = (r.2.2.2.2 : Int)
theorem max_if (a b : Nat) : (if (a : Int) < (b : Int) then (b : Int) else (a : Int)) = ((max a b : Nat) : Int) := by
  by_cases h : (a : Int) < (b : Int)
  · rw [if_pos h]; omega
  · rw [if_neg h]; omega
def rpS : Nat → Nat → Prop := fun a k => (22 ≤ a ∧ a ≤ 26) ∨ (a = 21 ∧ 3 ≤ k)
theorem Ru_perform_loop (hP : 772 < P) (hz : zsk 100 zs) : ∀ (n i : Nat) (M : Mem) (N S : Nat) (xs : List Int) (st gr dp : Nat) (d2 d3 : LV), i + n = 200 → Good M → RUc M N S xs → PRc M P zs → av xs → wf 1 xs → mI M 21 6 = (stO zs xs : Nat) → RDc M P zs xs → mI M 21 7 = (st : Int) → mI M 21 8 = (gr : Int) → mI M 21 9 = (dp : Int) → st ≤ i → ∃ M', Ru_perform_42 21 P (i : Int) d2 d3 M = some (none, M') ∧ RNc M' (rnl zs n xs st gr dp) ∧ Good M' ∧ Fq rpS ruR M M' := by
  intro n
  have fin : ∀ (i : Nat) (M : Mem) (N S : Nat) (xs : List Int) (st gr dp : Nat) (e : Nat), Good M → RUc M N S xs → mI M 21 7 = (st : Int) → mI M 21 8 = (gr : Int) → mI M 21 9 = (dp : Int) → RNc (stI M 21 6 (e : Int)) (xs, e, st, gr, dp) ∧ Good (stI M 21 6 (e : Int)) ∧ Fq rpS ruR M (stI M 21 6 (e : Int)) := by
    intro i M N S xs st gr dp e hG hU h7 h8 h9
    have f : Fj (fun a k => a = 21 ∧ k = 6) M (stI M 21 6 (e : Int)) := Fj.ofI ⟨rfl, rfl⟩
    exact ⟨⟨⟨N, S, hU.fq (f.fq (R := nor) fun a k q => q) (by omega) ⟨fun q => q, fun q => q⟩⟩, ⟨mI_at, by rw [mI_ne (by omega)]; exact h7⟩, by rw [mI_ne (by omega)]; exact h8, by rw [mI_ne (by omega)]; exact h9⟩, hG.fj f, f.fq fun a k q => by unfold rpS; omega⟩
  induction n with
  | zero =>
    intro i M N S xs st gr dp d2 d3 hi hG hU hp hv hw h6 hR h7 h8 h9 hst
    unfold rnl
    rw [Ru_perform_42_eq, if_neg (by omega), hG.gRu, gd_t, h6]
    by_cases q : stO zs xs = 4
    · rw [if_pos (by omega), if_pos q, gd_t]
      exact ⟨_, rfl, fin i M N S xs st gr dp 2 hG hU h7 h8 h9⟩
    · rw [if_neg (by omega), if_neg q]
      exact ⟨M, rfl, ⟨⟨N, S, hU⟩, ⟨h6, h7⟩, h8, h9⟩, hG, Fq.refl⟩
  | succ n ih =>
    intro i M N S xs st gr dp d2 d3 hi hG hU hp hv hw h6 hR h7 h8 h9 hst
    unfold rnl
    rw [Ru_perform_42_eq, if_pos (by omega), hG.gRu, gd_t, h6]
    by_cases q : stO zs xs = 4
    · obtain ⟨hl, h4⟩ := stO_4 q
      obtain ⟨r3, r4⟩ := hR q
      obtain ⟨z, z1, hf⟩ := nxt_clf hw h4
      have hzk := hz z (List.mem_of_getElem? z1)
      have hat := hf.1.1
      have hsz := stepZ_of z1
      have hdq := dq_dep hat
      have u1 := hU.2.1.1
      have ux := hU.2.2.1
      have f1 : Fj (fun a k => a = 21 ∧ k = 9) M (stI M 21 9 ((max dp (1 + dep xs (nxt zs xs).2.1) : Nat) : Int)) := Fj.ofI ⟨rfl, rfl⟩
      have hG1 := hG.fj f1
      have hU1 : RUc (stI M 21 9 ((max dp (1 + dep xs (nxt zs xs).2.1) : Nat) : Int)) N S xs := hU.fq (f1.fq (R := nor) fun a k q => q) (by omega) ⟨fun q => q, fun q => q⟩
      have hp1 : PRc (stI M 21 9 ((max dp (1 + dep xs (nxt zs xs).2.1) : Nat) : Int)) P zs := hp.fj f1 fun a k q => by unfold pS at q; omega
      obtain ⟨M2, a1, a2, a3, a4⟩ := Ru_replaceNext_s hP hG1 hU1 hp1 hz hv hw hl h4 (by rw [mI_ne (by omega)]; exact r3) r4
      have hp2 : PRc M2 P zs := hp1.ext fun a k q => a4.2.2 a k (by unfold pS at q; omega)
      have g7 : mI M2 21 7 = (st : Int) := (a4.2.2 _ _ (by omega)).trans (by rw [mI_ne (by omega)]; exact h7)
      have g8 : mI M2 21 8 = (gr : Int) := (a4.2.2 _ _ (by omega)).trans (by rw [mI_ne (by omega)]; exact h8)
      have g9 : mI M2 21 9 = ((max dp (1 + dep xs (nxt zs xs).2.1) : Nat) : Int) := (a4.2.2 _ _ (by omega)).trans mI_at
      have v1 := a2.2.1.1
      have vx := a2.2.2.1
      have f3 : Fj (fun a k => a = 21 ∧ (k = 7 ∨ k = 8)) M2 (stI (stI M2 21 7 ((st + 1 : Nat) : Int)) 21 8 ((max gr (stepZ zs xs).length : Nat) : Int)) := (Fj.ofI (by omega)).trans (Fj.ofI (by omega))
      have hG3 := a3.fj f3
      have hU3 : RUc (stI (stI M2 21 7 ((st + 1 : Nat) : Int)) 21 8 ((max gr (stepZ zs xs).length : Nat) : Int)) S N (stepZ zs xs) := a2.fq (f3.fq (R := nor) fun a k q => q) (by omega) ⟨fun q => q, fun q => q⟩
      have hp3 : PRc (stI (stI M2 21 7 ((st + 1 : Nat) : Int)) 21 8 ((max gr (stepZ zs xs).length : Nat) : Int)) P zs := hp2.fj f3 fun a k q => by unfold pS at q; omega
      have hv3 : av (stepZ zs xs) := by rw [hsz]; exact stx_av hv hzk
      have hw3 : wf 1 (stepZ zs xs) := by rw [hsz]; exact stx_wf hw hf hzk
      obtain ⟨M4, b1, b2, b3, b4, b5⟩ := Ru_stateOf_s hP hG3 hU3 hp3 hv3
      have f5 : Fj (fun a k => a = 21 ∧ k = 6) M4 (stI M4 21 6 (stO zs (stepZ zs xs) : Nat)) := Fj.ofI ⟨rfl, rfl⟩
      have hG5 := b4.fj f5
      have hU5 : RUc (stI M4 21 6 (stO zs (stepZ zs xs) : Nat)) S N (stepZ zs xs) := b3.fq (f5.fq (R := nor) fun a k q => q) (by omega) ⟨fun q => q, fun q => q⟩
      have hp4 : PRc M4 P zs := hp3.ext fun a k q => b5.2.2 a k (by unfold pS at q; unfold nxS; omega)
      have hp5 : PRc (stI M4 21 6 (stO zs (stepZ zs xs) : Nat)) P zs := hp4.fj f5 fun a k q => by unfold pS at q; omega
      have k7 : mI M4 21 7 = ((st + 1 : Nat) : Int) := (b5.2.2 _ _ (by unfold nxS; omega)).trans (by rw [mI_ne (by omega), mI_at])
      have k8 : mI M4 21 8 = ((max gr (stepZ zs xs).length : Nat) : Int) := (b5.2.2 _ _ (by unfold nxS; omega)).trans mI_at
      have k9 : mI M4 21 9 = ((max dp (1 + dep xs (nxt zs xs).2.1) : Nat) : Int) := (b5.2.2 _ _ (by unfold nxS; omega)).trans ((f3.2.2 _ _ (by omega)).trans g9)
      obtain ⟨M6, c1, c2, c3, c4⟩ := ih (i + 1) (stI M4 21 6 (stO zs (stepZ zs xs) : Nat)) S N (stepZ zs xs) (st + 1) (max gr (stepZ zs xs).length) (max dp (1 + dep xs (nxt zs xs).2.1)) d2 d3 (by omega) hG5 hU5 hp5 hv3 hw3 mI_at (fun q => by obtain ⟨w1, w2⟩ := b2 q; exact ⟨by rw [mI_ne (by omega)]; exact w1, w2⟩) (by rw [mI_ne (by omega)]; exact k7) (by rw [mI_ne (by omega)]; exact k8) (by rw [mI_ne (by omega)]; exact k9) (by omega)
      have e8 : mI (stI M2 21 7 ((st + 1 : Nat) : Int)) 21 8 = (gr : Int) := by rw [mI_ne (by omega)]; exact g8
      have hN2 := hU.1
      have e1 : mI (stI M2 21 7 ((st + 1 : Nat) : Int)) S 1 = ((stepZ zs xs).length : Int) := by rw [mI_ne (by omega)]; exact vx.s
      rw [if_pos (by omega), if_pos q, gd_t, gd_t, gd_t, u1, ux.g hG, gd_t, r3, Ex_deepAt_s hG ux hv (by omega), cI_s, hdq, hG.gRu, gd_t, gd_t, h9, show (1 : Int) + ((dep xs (nxt zs xs).2.1 : Nat) : Int) = ((1 + dep xs (nxt zs xs).2.1 : Nat) : Int) by omega, max_if, a1, cV_s, a3.gRu, gd_t, gd_t, gd_t, gd_t, v1, vx.g a3, gd_t, gd_t, gd_t, g7, wr_s (by omega), e8, e1, max_if, b1, cI_s, b4.gRu, gd_t, wr_s (by omega), c1]
      have F1 : Fq rpS ruR M (stI M 21 9 ((max dp (1 + dep xs (nxt zs xs).2.1) : Nat) : Int)) := f1.fq fun a k q => by unfold rpS; omega
      have F2 : Fq rpS ruR (stI M 21 9 ((max dp (1 + dep xs (nxt zs xs).2.1) : Nat) : Int)) M2 := a4.mono (fun a k q => Or.inl q) fun a k q => q
      have F3 : Fq rpS ruR M2 (stI (stI M2 21 7 ((st + 1 : Nat) : Int)) 21 8 ((max gr (stepZ zs xs).length : Nat) : Int)) := f3.fq fun a k q => by unfold rpS; omega
      have F4 : Fq rpS ruR (stI (stI M2 21 7 ((st + 1 : Nat) : Int)) 21 8 ((max gr (stepZ zs xs).length : Nat) : Int)) M4 := b5.mono (fun a k q => by unfold nxS at q; unfold rpS; omega) fun a k q => by unfold nxR at q; unfold ruR; omega
      have F5 : Fq rpS ruR M4 (stI M4 21 6 (stO zs (stepZ zs xs) : Nat)) := f5.fq fun a k q => by unfold rpS; omega
      exact ⟨M6, rfl, c2, c3, ((((F1.trans F2).trans F3).trans F4).trans F5).trans c4⟩
    · rw [if_neg (by omega), if_neg q, gd_t, if_neg (by omega)]
      exact ⟨M, rfl, ⟨⟨N, S, hU⟩, ⟨h6, h7⟩, h8, h9⟩, hG, Fq.refl⟩
end RUNC2

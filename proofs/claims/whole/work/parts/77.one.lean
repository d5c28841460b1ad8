/-! ===== one STEP, also where it doesn't fit: the class ===== -/
/-- a row that is what it should be, or too large, as that is -/
def LPz (ys tru : List Int) : Prop := ys = tru ∨ (40 < ys.length ∧ 40 < tru.length)
theorem LPz.app {ys tru : List Int} (h : LPz ys tru) (us : List Int) : LPz (ys ++ us) (tru ++ us) := by
  rcases h with rfl | ⟨h1, h2⟩
  · exact Or.inl rfl
  · exact Or.inr (by simp only [List.length_append]; omega)
theorem LPz.skip {ys tru : List Int} (h : LPz ys tru) (us : List Int) (hl : 40 < ys.length) : LPz ys (tru ++ us) := by
  rcases h with rfl | ⟨h1, h2⟩
  · exact Or.inr (by simp only [List.length_append]; omega)
  · exact Or.inr (by simp only [List.length_append]; omega)
section ONE
variable {M : Mem} {e n : Nat} {xs : List Int}
theorem Ex_add_l (hG : Good M) (h : XE M e n xs) (c : Int) {tru : List Int} (hn : 40 < n) (hL : LPz xs tru) : ∃ M' xs', Ex_add e c M = some (none, M') ∧ XE M' e n xs' ∧ LPz xs' (tru ++ [c]) ∧ Fi (eS e) M M' := by
  by_cases hl : xs.length < n
  · obtain ⟨M', a1, a2, a3⟩ := Ex_add_s hG h c hl
    exact ⟨M', _, a1, a2, hL.app _, a3⟩
  · have h2 := h.2.2
    refine ⟨M, xs, ?_, h, hL.skip _ (by omega), Fi.refl⟩
    have g := h.g hG
    rw [Ex_add_eq]
    simp only [g, h.r hG, h.s, gd_t]
    rw [hG.tgL h.1.2.1 (by decide), gd_t, hG.len h.1.2.1, if_neg (by omega)]
theorem Ex_addPart_l (hG : Good M) (h : XE M e n xs) {f m : Nat} {ys : List Int} (k : XE M f m ys) (hne : f ≠ e) (hne2 : f + 1 ≠ e) (hne3 : f ≠ e + 1) {a b : Nat} (hab : a ≤ b) (hb : b ≤ ys.length) {tru : List Int} (hn : ys.length + 40 < n) (hL : LPz xs tru) : ∃ M' xs', Ex_addPart e f (a : Int) (b : Int) M = some (none, M') ∧ XE M' e n xs' ∧ LPz xs' (tru ++ (ys.drop a).take (b - a)) ∧ Fi (eS e) M M' := by
  by_cases hl : xs.length + (b - a) ≤ n
  · obtain ⟨M', a1, a2, a3⟩ := Ex_addPart_s hG h k hne hne2 hne3 hab hb hl
    exact ⟨M', _, a1, a2, hL.app _, a3⟩
  · have h1 := h.lt
    have h2 := k.lt
    have hn2 := h.1.2.2
    have h3 := h.2.2
    refine ⟨M, xs, ?_, h, hL.skip _ (by omega), Fi.refl⟩
    rw [Ex_addPart_eq, if_neg (by omega), wr_id (x := (b : Int) - (a : Int)) (by omega) (by omega), if_neg (by omega), k.g hG, gd_t, k.s, if_neg (by omega)]
    simp only [h.g hG, h.r hG, h.s, k.r hG, gd_t]
    rw [hG.tgL h.1.2.1 (by decide), gd_t, hG.len h.1.2.1, wr_id (x := (n : Int) - (xs.length : Int)) (by omega) (by omega), if_pos (by omega)]
end ONE
section ONE2
variable {M : Mem} {z : Clz} {c e1 e2 n1 n2 : Nat} {xs : List Int}
theorem Ru_addRight_l (h1 : 22 < e1) (h2 : 22 < e2) (hc : 26 < c) (hne : e1 + 1 < e2 ∨ e2 + 1 < e1) (he2 : e2 + 1 < c) (hv : av xs) {s : Nat} (hs : s ≤ xs.length) {n : Nat} (hz : zok n z) (hn2 : xs.length + 40 < n2) : ∀ (t i : Nat) (M : Mem) (ys tru : List Int) (d1 d2 : LV), z.2.2.2.length - i = t → i ≤ z.2.2.2.length → Good M → XE M e1 n1 xs → XE M e2 n2 ys → LPz ys tru → CLc M c z → (∀ j, j ≤ z.2.2.1.length → mI M 22 j = (sts xs s j : Nat)) → ∃ M' ys', Ru_addRight_9 21 e1 c e2 (c + 2) (i : Int) d1 d2 M = some (none, M') ∧ XE M' e2 n2 ys' ∧ LPz ys' (tru ++ (z.2.2.2.drop i).flatMap (put1 xs s z.2.2.1)) ∧ Fi (eS e2) M M' := by
  have hvl := hz.2.2.1.2.1
  have hav := hz.2.2.2.1.2.1
  intro t
  induction t with
  | zero =>
    intro i M ys tru d1 d2 e3 e4 hG hX hY hL hC hS
    rw [Ru_addRight_9_eq, hC.2.2.g hG, gd_t, hC.2.2.s, if_neg (by omega), List.drop_eq_nil_of_le (by omega)]
    refine ⟨M, ys, rfl, hY, ?_, Fi.refl⟩
    show LPz ys (tru ++ [])
    rw [List.append_nil]; exact hL
  | succ t ih =>
    intro i M ys tru d1 d2 e3 e4 hG hX hY hL hC hS
    have hi : i < z.2.2.2.length := by omega
    have hxl := hX.lt
    have hrl := hC.2.2.lt
    have hcv := av_nth hav hi
    rw [drop_cons hi, List.flatMap_cons]
    -- behind a cell
    have go : ∀ (M1 : Mem) (us ys1 : List Int) (d3 d4 : LV), us = put1 xs s z.2.2.1 (nth z.2.2.2 i) → XE M1 e2 n2 ys1 → LPz ys1 (tru ++ us) → Fi (eS e2) M M1 → ∃ M' ys', Ru_addRight_9 21 e1 c e2 (c + 2) ((i + 1 : Nat) : Int) d3 d4 M1 = some (none, M') ∧ XE M' e2 n2 ys' ∧ LPz ys' (tru ++ (put1 xs s z.2.2.1 (nth z.2.2.2 i) ++ (z.2.2.2.drop (i + 1)).flatMap (put1 xs s z.2.2.1))) ∧ Fi (eS e2) M M' := by
      intro M1 us ys1 d3 d4 hu hY1 hL1 hF
      subst hu
      obtain ⟨M2, ys2, a1, a2, a3, a4⟩ := ih (i + 1) M1 ys1 _ d3 d4 (by omega) (by omega) (hG.fi hF) (hX.fi hF (by unfold eS; omega) (by unfold eS; omega)) hY1 hL1 (hC.fi hF fun a q => by unfold cS at q; unfold eS; omega) (fun j hj => (hF.2.2 22 (by unfold eS; omega) j).trans (hS j hj))
      rw [List.append_assoc] at a3
      exact ⟨M2, ys2, a1, a2, a3, hF.trans a4⟩
    have add : put1 xs s z.2.2.1 (nth z.2.2.2 i) = [nth z.2.2.2 i] → ∀ d, ∃ M' ys', Ru_addRight_46 21 e1 c e2 (c + 2) (i : Int) (nth z.2.2.2 i) (-1) d M = some (none, M') ∧ XE M' e2 n2 ys' ∧ LPz ys' (tru ++ (put1 xs s z.2.2.1 (nth z.2.2.2 i) ++ (z.2.2.2.drop (i + 1)).flatMap (put1 xs s z.2.2.1))) ∧ Fi (eS e2) M M' := by
      intro hp d
      obtain ⟨M1, ys1, a1, a2, a3, a4⟩ := Ex_add_l hG hY (nth z.2.2.2 i) (by omega) hL
      rw [Ru_addRight_46_eq, if_pos rfl, hY.g hG, gd_t, a1, cV_s, wr_s (by omega)]
      exact go M1 _ ys1 _ _ hp.symm a2 a3 a4
    rw [Ru_addRight_9_eq, hC.2.2.g hG, gd_t, hC.2.2.s, if_pos (by omega), gd_t, Ex_cellAt_s hG hC.2.2, cI_s, cA_n hi, Ex_kind_s (vc_inR hcv), cI_s]
    by_cases hk : kd (nth z.2.2.2 i) = 0
    · rw [if_pos hk, hC.g hG, gd_t, Cl_indexOfVar_s hG hC, cI_s]
      by_cases hix : ix z.2.2.1 (nth z.2.2.2 i) = -1
      · rw [hix]
        exact add (by unfold put1; rw [if_neg (fun q => q.2 hix)]) _
      · have hrg := ix_rng z.2.2.1 (nth z.2.2.2 i)
        obtain ⟨m, hm⟩ := Int.eq_ofNat_of_zero_le (show 0 ≤ ix z.2.2.1 (nth z.2.2.2 i) by omega)
        have hp : put1 xs s z.2.2.1 (nth z.2.2.2 i) = sub xs (sts xs s m) := by unfold put1; rw [if_pos ⟨hk, hix⟩, hm, toNat_n]
        rw [hm] at hrg hix ⊢
        have hmono := sts_mono (xs := xs) (s := s) (k := m) (j := m + 1) (by omega)
        have hle2 := sts_le hs (m + 1)
        have hsub : (xs.drop (sts xs s m)).take (sts xs s (m + 1) - sts xs s m) = sub xs (sts xs s m) := by
          unfold sub
          rw [sts_s]
          unfold beh
          rw [Nat.add_sub_cancel_left]
        obtain ⟨M1, ys1, a1, a2, a3, a4⟩ := Ex_addPart_l hG hY hX (by omega) (by omega) (by omega) hmono hle2 hn2 hL
        rw [hsub] at a3
        rw [Ru_addRight_46_eq, if_neg (by omega), hG.gRu, gd_t, hG.r21_0, hG.tgL arr_22 (by decide), gd_t, hG.len arr_22, wr_s (by omega), if_pos (by omega), gd_t, hG.tgS arr_22 (by omega) (by omega), gd_t, gd_t, hG.tgS arr_22 (by omega) (by omega), gd_t, hY.g hG, gd_t, toNat_n, toNat_n, hS m (by omega), hS (m + 1) (by omega), a1, cV_s, wr_s (by omega)]
        exact go M1 _ ys1 _ _ hp.symm a2 a3 a4
    · rw [if_neg hk]
      exact add (by unfold put1; rw [if_neg (fun q => hk q.1)]) _
theorem Ru_makeStep_l (h1 : 22 < e1) (h2 : 22 < e2) (hc : 26 < c) (hne : e1 + 1 < e2 ∨ e2 + 1 < e1) (he1 : e1 + 1 < c) (he2 : e2 + 1 < c) (hv : av xs) {n at0 : Nat} (hz : zok n z) (hs : st0 z at0 ≤ xs.length) (hG : Good M) (hX : XE M e1 n1 xs) {ys : List Int} (hY : XE M e2 n2 ys) (hC : CLc M c z) (hn2 : xs.length + 40 < n2) : ∃ M' ys', Ru_makeStep 21 e1 (at0 : Int) c e2 M = some (none, M') ∧ XE M' e1 n1 xs ∧ XE M' e2 n2 ys' ∧ LPz ys' (stx z xs at0) ∧ CLc M' c z ∧ Fj (fun a _ => a = 22 ∨ a = e2 ∨ a = e2 + 1) M M' := by
  have hxl := hX.lt
  have hat : at0 ≤ xs.length := by unfold st0 at hs; omega
  obtain ⟨M1, a1, a2, a3⟩ := Ex_clear_s hG hY
  have hG1 := hG.fi a3
  have hX1 : XE M1 e1 n1 xs := hX.fi a3 (by unfold eS; omega) (by unfold eS; omega)
  have hC1 : CLc M1 c z := hC.fi a3 fun a q => by unfold cS at q; unfold eS; omega
  obtain ⟨M2, b1, b2, b3⟩ := Ex_addPart_s hG1 a2 hX1 (by omega) (by omega) (by omega) (Nat.zero_le at0) hat (by simp; omega)
  have b1 : Ex_addPart e2 e1 0 (at0 : Int) M1 = some (none, M2) := b1
  have b2 : XE M2 e2 n2 (xs.take at0) := by rw [List.drop_zero, Nat.sub_zero, List.nil_append] at b2; exact b2
  have hG2 := hG1.fi b3
  have hX2 : XE M2 e1 n1 xs := hX1.fi b3 (by unfold eS; omega) (by unfold eS; omega)
  have hC2 : CLc M2 c z := hC1.fi b3 fun a q => by unfold cS at q; unfold eS; omega
  have f3 : Fj s22 M2 (stI M2 22 0 (st0 z at0 : Nat)) := Fj.ofI rfl
  have hG3 := hG2.fj f3
  have hX3 : XE (stI M2 22 0 (st0 z at0 : Nat)) e1 n1 xs := hX2.fj f3 (by unfold s22; omega) (by unfold s22; omega)
  have hC3 : CLc (stI M2 22 0 (st0 z at0 : Nat)) c z := hC2.fj f3 fun a k q => by unfold cS at q; unfold s22; omega
  obtain ⟨M4, d', c1, c2, c3⟩ := Ru_starts (e2 := e2) h1 (by omega) hv hs hz.2.2.1.2.1 _ 0 (stI M2 22 0 (st0 z at0 : Nat)) (some (.inl (at0 : Int))) rfl (Nat.zero_le _) hG3 hX3 hC3 (fun j hj => by rw [show j = 0 by omega, sts_z]; exact mI_at)
  have hG4 := hG3.fj c3
  have F4 := f3.trans c3
  have hX4 : XE M4 e1 n1 xs := hX2.fj F4 (by unfold s22; omega) (by unfold s22; omega)
  have hY4 : XE M4 e2 n2 (xs.take at0) := b2.fj F4 (by unfold s22; omega) (by unfold s22; omega)
  have hC4 : CLc M4 c z := hC2.fj F4 fun a k q => by unfold cS at q; unfold s22; omega
  obtain ⟨M5, ys5, g1, g2, g2L, g3⟩ := Ru_addRight_l h1 h2 hc hne he2 hv hs hz hn2 _ 0 M4 _ _ none none rfl (Nat.zero_le _) hG4 hX4 hY4 (Or.inl rfl) hC4 c2
  rw [List.drop_zero] at g2L
  have g1 : Ru_addRight_9 21 e1 c e2 (c + 2) 0 none none M4 = some (none, M5) := g1
  have hG5 := hG4.fi g3
  have hX5 : XE M5 e1 n1 xs := hX4.fi g3 (by unfold eS; omega) (by unfold eS; omega)
  have hC5 : CLc M5 c z := hC4.fi g3 fun a q => by unfold cS at q; unfold eS; omega
  have hend := sts_le hs z.2.2.1.length
  obtain ⟨M6, ys6, k1, k2, k2L, k3⟩ := Ex_addPart_l hG5 g2 hX5 (by omega) (by omega) (by omega) hend (Nat.le_refl _) hn2 g2L
  have hX6 : XE M6 e1 n1 xs := hX5.fi k3 (by unfold eS; omega) (by unfold eS; omega)
  have hC6 : CLc M6 c z := hC5.fi k3 fun a q => by unfold cS at q; unfold eS; omega
  have e40 : Ru_makeStep 21 e1 (at0 : Int) c e2 M = Ru_makeStep_40 21 e1 c e2 (st0 z at0 : Nat) 0 (some (.inl (at0 : Int))) (stI M2 22 0 (st0 z at0 : Nat)) := by
    rw [Ru_makeStep_eq, hY.g hG, gd_t, a1, cV_s, a2.g hG1, gd_t, b1, cV_s, hC2.g hG2, gd_t, Cl_isCase_s hG2 hC2, cI_s, hG2.gRu, hG2.r21_0, hG2.tgS arr_22 (by decide) (by decide)]
    unfold st0
    by_cases q : z.2.1 = -1
    · rw [if_pos q, if_pos rfl, gd_t, gd_t, wr_s (by omega), if_pos q]
    · rw [if_neg q, if_neg (by decide), gd_t, gd_t, wr_id (x := (at0 : Int) + 2) (by omega) (by omega), if_neg q, show (at0 : Int) + 2 = ((at0 + 2 : Nat) : Int) by omega]
  have e41 : Ru_makeStep_40 21 e1 c e2 (st0 z at0 : Nat) 0 (some (.inl (at0 : Int))) (stI M2 22 0 (st0 z at0 : Nat)) = Ru_makeStep_86 21 e1 c e2 (sts xs (st0 z at0) z.2.2.1.length : Nat) (some (.inl (at0 : Int))) d' M4 := by
    have := c1
    rw [sts_z] at this
    exact this
  refine ⟨M6, ys6, ?_, hX6, k2, ?_, hC6, ?_⟩
  · rw [e40, e41, Ru_makeStep_86_eq, hG4.gRu, gd_t, Ru_addRight_eq, hC4.g hG4, gd_t, (hC4.r hG4).2, g1, cV_s, hX5.g hG5, gd_t, g2.g hG5, gd_t, hX5.s, k1, cV_s]
  · unfold stx
    rw [← List.append_assoc]
    have : (xs.drop (sts xs (st0 z at0) z.2.2.1.length)).take (xs.length - sts xs (st0 z at0) z.2.2.1.length) = xs.drop (sts xs (st0 z at0) z.2.2.1.length) := by
      apply List.take_of_length_le
      rw [List.length_drop]
      exact Nat.le_refl _
    rw [this] at k2L
    exact k2L
  · have s1 : ∀ a (k : Nat), eS e2 a → (a = 22 ∨ a = e2 ∨ a = e2 + 1) := fun a k q => by unfold eS at q; omega
    exact ((((a3.fj s1).trans (b3.fj s1)).trans (F4.mono fun a k q => Or.inl q)).trans (g3.fj s1)).trans (k3.fj s1)
end ONE2
section ONE3
variable {M : Mem} {zs : List Clz} {P N S e n B : Nat} {xs : List Int} {bs : Bnd}
/-- how far one STEP comes: 0 done, 4 a STEP, 1 stuck -/
def onO (zs : List Clz) (xs : List Int) : Nat := if (nxt zs xs).1 = 0 then 0 else if (nxt zs xs).1 = 4 then 4 else 1
def onX (zs : List Clz) (xs : List Int) : List Int := if (nxt zs xs).1 = 4 then stepZ zs xs else xs
theorem Ru_performOne_s (hP : 772 < P ∧ P < 1259) (hz : zsk 100 zs) (hG : Good M) {ys : List Int} (hU : RUc M N S ys) (hp : PRc M P zs) (he : 26 < e) (hx : XE M e n xs) (hv : av xs) (hw : wf 1 xs) (hl : xs.length ≤ 100) (hB0 : 1258 < B) (hB : BDc M B bs) (hb : bok bs) : ∃ M' N' S' us, Ru_performOne 21 P e B M = some (some (.inl (onO zs (fll bs xs) : Nat)), M') ∧ RUc M' N' S' us ∧ LPz us (onX zs (fll bs xs)) ∧ Good M' ∧ Fq ruS ruR M M' ∧ mI M' 21 9 = mI M 21 9 := by
  obtain ⟨hn, ⟨r1, r2⟩, x1, us, x2⟩ := hU
  have hlen := fll_len hb hv
  obtain ⟨M1, a1, a2, a3⟩ := Bo_fill_s hG hB hx hv x1 (by omega) (by omega) (by omega) (fun a q => by unfold eS at q; unfold bS; omega) (by omega)
  have hG1 := hG.fi a3
  have s1 : mR M1 21 1 = N := (a3.2.1 _ _).trans r1
  have s2 : mR M1 21 2 = S := (a3.2.1 _ _).trans r2
  have y2 : XE M1 S 20480 us := x2.fi a3 (by unfold eS; omega) (by unfold eS; omega)
  have hp1 : PRc M1 P zs := hp.fi a3 fun a q => by unfold pS at q; unfold eS; omega
  have hv2 := fll_av hb hv
  have hw2 := fll_wf hb hw hv
  have d1 : mI M1 21 9 = mI M 21 9 := a3.2.2 _ (by unfold eS; omega) _
  have F1 : Fq ruS ruR M M1 := (a3.fj (T := ruS) fun a k q => by unfold eS at q; unfold ruS; omega).fq fun a k q => q
  obtain ⟨M2, b1, b2, b3, b4⟩ := Ru_undoneState_s (e := N) (by omega) (by omega) hv2 hG1 a2 hp1 s1
  have F2 : Fq ruS ruR M1 M2 := b4.mono (fun a k q => by unfold nxS at q; unfold ruS; omega) fun a k q => by unfold nxR at q; unfold ruR; omega
  have x12 : XE M2 N 20480 (fll bs xs) := a2.ext fun a k q => b4.2.2 a k (by unfold nxS; omega)
  have x22 : XE M2 S 20480 us := y2.ext fun a k q => b4.2.2 a k (by unfold nxS; omega)
  have q1 : mR M2 21 1 = N := (b4.2.1 _ _ (by unfold nxR; omega)).trans s1
  have q2 : mR M2 21 2 = S := (b4.2.1 _ _ (by unfold nxR; omega)).trans s2
  have d2 : mI M2 21 9 = mI M 21 9 := (b4.2.2 _ _ (by unfold nxS; omega)).trans d1
  have hst : (if (nxt zs (fll bs xs)).1 = 0 then (0 : Int) else if (nxt zs (fll bs xs)).1 = 4 then 4 else 1) = (onO zs (fll bs xs) : Nat) := by
    unfold onO
    by_cases g0 : (nxt zs (fll bs xs)).1 = 0
    · rw [if_pos g0, if_pos g0]; rfl
    · rw [if_neg g0, if_neg g0]
      by_cases g4 : (nxt zs (fll bs xs)).1 = 4
      · rw [if_pos g4, if_pos g4]; rfl
      · rw [if_neg g4, if_neg g4]; rfl
  rw [hst] at b1
  rw [Ru_performOne_eq, hG.gRu, gd_t, hB.g hG, gd_t, r1, a1, cV_s, hG1.gRu, gd_t, b1, cI_s]
  by_cases g4 : (nxt zs (fll bs xs)).1 = 4
  · obtain ⟨c1, c2, -⟩ := b2 g4
    have e4 : onO zs (fll bs xs) = 4 := by unfold onO; rw [if_neg (by omega), if_pos g4]
    have eX : onX zs (fll bs xs) = stepZ zs (fll bs xs) := if_pos g4
    obtain ⟨z, z1, hf⟩ := nxt_clf hw2 g4
    have hzk := hz z (List.mem_of_getElem? z1)
    have hp2 : PRc M2 P zs := hp1.ext fun a k q => b4.2.2 a k (by unfold pS at q; unfold nxS; omega)
    have hC := hp2.2 _ z z1
    have hki := (List.getElem?_eq_some_iff.mp z1).1
    have hsz := stepZ_of z1
    obtain ⟨-, hst2, -⟩ := hf.all hzk
    obtain ⟨M3, us3, g1, g2, g3, gL, g5, g6⟩ := Ru_makeStep_l (e1 := N) (e2 := S) (n1 := 20480) (n2 := 20480) (c := P + 2 + 4 * (nxt zs (fll bs xs)).2.2) (by omega) (by omega) (by omega) (by omega) (by omega) (by omega) hv2 hzk hst2 b3 x12 x22 hC (by omega)
    rw [← hsz] at gL
    have hG3 := b3.fj g6
    have t1 : mR M3 21 1 = N := (g6.2.1 _ _).trans q1
    have t2 : mR M3 21 2 = S := (g6.2.1 _ _).trans q2
    have d3 : mI M3 21 9 = mI M 21 9 := (g6.2.2 _ _ (by omega)).trans d2
    have hG4 : Good (stR (stR M3 21 2 N) 21 1 S) := (hG3.ofR (by unfold mtb; omega)).ofR (by unfold mtb; omega)
    have F3 : Fq ruS ruR M2 (stR (stR M3 21 2 N) 21 1 S) := ((g6.fq (T := ruS) fun a k q => by unfold ruS; omega).trans (Fq.ofR (by unfold ruR; omega))).trans (Fq.ofR (by unfold ruR; omega))
    have eR : Ru_replaceNext 21 M2 = some (none, stR (stR M3 21 2 N) 21 1 S) := by
      rw [Ru_replaceNext_eq, b3.gRu, gd_t, c2, if_neg (by omega), gd_t, gd_t, gd_t, gd_t, gd_t, q1, q2, c1, g1, cV_s, hG3.gRu, gd_t, gd_t, gd_t, gd_t, t1, t2]
    rw [e4, if_pos (show ((4 : Nat) : Int) = 4 from rfl), b3.gRu, gd_t, eR, cV_s, eX]
    refine ⟨_, S, N, us3, rfl, ⟨by omega, ⟨?_, ?_⟩, g3, fll bs xs, g2⟩, gL, hG4, (F1.trans F2).trans F3, d3⟩
    · show (if (21 : Nat) = 21 ∧ (1 : Nat) = 1 then S else mR (stR M3 21 2 N) 21 1) = S
      exact if_pos ⟨rfl, rfl⟩
    · show (if (21 : Nat) = 21 ∧ (2 : Nat) = 1 then S else if (21 : Nat) = 21 ∧ (2 : Nat) = 2 then N else mR M3 21 2) = N
      rw [if_neg (by decide), if_pos ⟨rfl, rfl⟩]
  · have e4 : onO zs (fll bs xs) ≠ 4 := by
      unfold onO
      split
      · decide
      · decide
    have eX : onX zs (fll bs xs) = fll bs xs := if_neg g4
    rw [if_neg (by omega), eX]
    exact ⟨M2, N, S, _, rfl, ⟨hn, ⟨q1, q2⟩, x12, us, x22⟩, Or.inl rfl, b3, F1.trans F2, d2⟩
end ONE3

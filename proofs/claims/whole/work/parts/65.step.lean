/-! ===== a STEP: the class ===== -/
/-- where the k-th of parts that follow one another begins -/
def sts (xs : List Int) (s k : Nat) : Nat := s + sk k (xs.drop s)
theorem sts_z (xs : List Int) (s : Nat) : sts xs s 0 = s := by unfold sts; rw [sk_zero]; rfl
theorem sts_s (xs : List Int) (s k : Nat) : sts xs s (k + 1) = beh xs (sts xs s k) := by
  unfold sts beh
  rw [sk_add, List.drop_drop]
  omega
theorem sts_le {xs : List Int} {s : Nat} (h : s ≤ xs.length) (k : Nat) : sts xs s k ≤ xs.length := by
  unfold sts
  have := sk_le (xs.drop s) k
  rw [List.length_drop] at this
  omega
theorem sts_mono {xs : List Int} {s k j : Nat} (h : k ≤ j) : sts xs s k ≤ sts xs s j := by
  unfold sts
  have := sk_mono (xs.drop s) k j h
  omega
def st0 (z : Clz) (at0 : Nat) : Nat := at0 + (if z.2.1 = -1 then 1 else 2)
/-- what comes in place of a cell of a right side -/
def put1 (xs : List Int) (s : Nat) (vs : List Int) (c : Int) : List Int := if kd c = 0 ∧ ix vs c ≠ -1 then sub xs (sts xs s (ix vs c).toNat) else [c]
def stx (z : Clz) (xs : List Int) (at0 : Nat) : List Int := xs.take at0 ++ (z.2.2.2.flatMap (put1 xs (st0 z at0) z.2.2.1) ++ xs.drop (sts xs (st0 z at0) z.2.2.1.length))
section STEPC
variable {M : Mem} {z : Clz} {c e1 e2 n1 n2 : Nat} {xs : List Int}
theorem arr_22 : arr 22 0 12 := arr_of _ _ _ (by decide)
def s22 : Nat → Nat → Prop := fun a _ => a = 22
theorem Ru_starts (h1 : 22 < e1) (hc : 22 < c) (hv : av xs) {s : Nat} (hs : s ≤ xs.length) (hvl : z.2.2.1.length ≤ 11) : ∀ (t i : Nat) (M : Mem) (d : LV), z.2.2.1.length - i = t → i ≤ z.2.2.1.length → Good M → XE M e1 n1 xs → CLc M c z → (∀ j, j ≤ i → mI M 22 j = (sts xs s j : Nat)) → ∃ M' d', Ru_makeStep_40 21 e1 c e2 (sts xs s i : Nat) (i : Int) d M = Ru_makeStep_86 21 e1 c e2 (sts xs s z.2.2.1.length : Nat) d d' M' ∧ (∀ j, j ≤ z.2.2.1.length → mI M' 22 j = (sts xs s j : Nat)) ∧ Fj s22 M M' := by
  intro t
  induction t with
  | zero =>
    intro i M d e3 e4 hG hX hC hS
    have : i = z.2.2.1.length := by omega
    subst this
    rw [Ru_makeStep_40_eq, hC.g hG, gd_t, hC.2.1.1, if_neg (by omega)]
    exact ⟨M, _, rfl, hS, Fj.refl⟩
  | succ t ih =>
    intro i M d e3 e4 hG hX hC hS
    have hxl := hX.lt
    have hle := sts_le hs i
    have hle2 := sts_le hs (i + 1)
    have f1 : Fj s22 M (stI M 22 (i + 1) (sts xs s (i + 1) : Nat)) := Fj.ofI rfl
    obtain ⟨M', d', a1, a2, a3⟩ := ih (i + 1) (stI M 22 (i + 1) (sts xs s (i + 1) : Nat)) d (by omega) (by omega) (hG.fj f1) (hX.fj f1 (by unfold s22; omega) (by unfold s22; omega)) (hC.fj f1 fun a k q => by unfold cS at q; unfold s22; omega) (fun j hj => by
      by_cases q : j = i + 1
      · subst q; exact mI_at
      · rw [mI_ne (by omega)]; exact hS j (by omega))
    rw [Ru_makeStep_40_eq, hC.g hG, gd_t, hC.2.1.1, if_pos (by omega), hG.gRu, gd_t, hG.r21_0, hG.tgL arr_22 (by decide), gd_t, hG.len arr_22, wr_s (by omega), if_pos (by omega), hX.g hG, gd_t, Ex_behind_s hG hX hv hle, cI_s, hG.gRu, gd_t, hG.r21_0, hG.tgS arr_22 (by omega) (by omega), gd_t, toNat_n, ← sts_s]
    exact ⟨M', d', a1, a2, f1.trans a3⟩
theorem Ru_addRight_s (h1 : 22 < e1) (h2 : 22 < e2) (hc : 26 < c) (hne : e1 + 1 < e2 ∨ e2 + 1 < e1) (he2 : e2 + 1 < c) (hv : av xs) {s : Nat} (hs : s ≤ xs.length) {n : Nat} (hz : zok n z) : ∀ (t i : Nat) (M : Mem) (ys : List Int) (d1 d2 : LV), z.2.2.2.length - i = t → i ≤ z.2.2.2.length → Good M → XE M e1 n1 xs → XE M e2 n2 ys → CLc M c z → (∀ j, j ≤ z.2.2.1.length → mI M 22 j = (sts xs s j : Nat)) → ys.length + ((z.2.2.2.drop i).flatMap (put1 xs s z.2.2.1)).length ≤ n2 → ∃ M', Ru_addRight_9 21 e1 c e2 (c + 2) (i : Int) d1 d2 M = some (none, M') ∧ XE M' e2 n2 (ys ++ (z.2.2.2.drop i).flatMap (put1 xs s z.2.2.1)) ∧ Fi (eS e2) M M' := by
  have hvl := hz.2.2.1.2.1
  have hav := hz.2.2.2.1.2.1
  intro t
  induction t with
  | zero =>
    intro i M ys d1 d2 e3 e4 hG hX hY hC hS hl
    rw [Ru_addRight_9_eq, hC.2.2.g hG, gd_t, hC.2.2.s, if_neg (by omega), List.drop_eq_nil_of_le (by omega)]
    refine ⟨M, rfl, ?_, Fi.refl⟩
    show XE M e2 n2 (ys ++ [])
    rw [List.append_nil]; exact hY
  | succ t ih =>
    intro i M ys d1 d2 e3 e4 hG hX hY hC hS hl
    have hi : i < z.2.2.2.length := by omega
    have hxl := hX.lt
    have hrl := hC.2.2.lt
    have hcv := av_nth hav hi
    rw [drop_cons hi, List.flatMap_cons] at hl ⊢
    rw [List.length_append] at hl
    -- behind a cell
    have go : ∀ (M1 : Mem) (us : List Int) (d3 d4 : LV), us = put1 xs s z.2.2.1 (nth z.2.2.2 i) → XE M1 e2 n2 (ys ++ us) → Fi (eS e2) M M1 → ∃ M', Ru_addRight_9 21 e1 c e2 (c + 2) ((i + 1 : Nat) : Int) d3 d4 M1 = some (none, M') ∧ XE M' e2 n2 (ys ++ (put1 xs s z.2.2.1 (nth z.2.2.2 i) ++ (z.2.2.2.drop (i + 1)).flatMap (put1 xs s z.2.2.1))) ∧ Fi (eS e2) M M' := by
      intro M1 us d3 d4 hu hY1 hF
      subst hu
      obtain ⟨M2, a1, a2, a3⟩ := ih (i + 1) M1 _ d3 d4 (by omega) (by omega) (hG.fi hF) (hX.fi hF (by unfold eS; omega) (by unfold eS; omega)) hY1 (hC.fi hF fun a q => by unfold cS at q; unfold eS; omega) (fun j hj => (hF.2.2 22 (by unfold eS; omega) j).trans (hS j hj)) (by rw [List.length_append]; omega)
      rw [List.append_assoc] at a2
      exact ⟨M2, a1, a2, hF.trans a3⟩
    have add : put1 xs s z.2.2.1 (nth z.2.2.2 i) = [nth z.2.2.2 i] → ∀ d, ∃ M', Ru_addRight_46 21 e1 c e2 (c + 2) (i : Int) (nth z.2.2.2 i) (-1) d M = some (none, M') ∧ XE M' e2 n2 (ys ++ (put1 xs s z.2.2.1 (nth z.2.2.2 i) ++ (z.2.2.2.drop (i + 1)).flatMap (put1 xs s z.2.2.1))) ∧ Fi (eS e2) M M' := by
      intro hp d
      have hl1 : (put1 xs s z.2.2.1 (nth z.2.2.2 i)).length = 1 := by rw [hp]; rfl
      obtain ⟨M1, a1, a2, a3⟩ := Ex_add_s hG hY (nth z.2.2.2 i) (by omega)
      rw [Ru_addRight_46_eq, if_pos rfl, hY.g hG, gd_t, a1, cV_s, wr_s (by omega)]
      exact go M1 _ _ _ hp.symm a2 a3
    rw [Ru_addRight_9_eq, hC.2.2.g hG, gd_t, hC.2.2.s, if_pos (by omega), gd_t, Ex_cellAt_s hG hC.2.2, cI_s, cA_n hi, Ex_kind_s (vc_inR hcv), cI_s]
    by_cases hk : kd (nth z.2.2.2 i) = 0
    · rw [if_pos hk, hC.g hG, gd_t, Cl_indexOfVar_s hG hC, cI_s]
      by_cases hix : ix z.2.2.1 (nth z.2.2.2 i) = -1
      · rw [hix]
        exact add (by unfold put1; rw [if_neg (fun q => q.2 hix)]) _
      · have hrg := ix_rng z.2.2.1 (nth z.2.2.2 i)
        obtain ⟨m, hm⟩ := Int.eq_ofNat_of_zero_le (show 0 ≤ ix z.2.2.1 (nth z.2.2.2 i) by omega)
        have hp : put1 xs s z.2.2.1 (nth z.2.2.2 i) = sub xs (sts xs s m) := by unfold put1; rw [if_pos ⟨hk, hix⟩, hm, toNat_n]
        rw [hm] at hrg hix ⊢
        have hmono := sts_mono (xs := xs) (s := s) (k := m) (j := m + 1) (by omega)
        have hle2 := sts_le hs (m + 1)
        have hsub : (xs.drop (sts xs s m)).take (sts xs s (m + 1) - sts xs s m) = sub xs (sts xs s m) := by
          unfold sub
          rw [sts_s]
          unfold beh
          rw [Nat.add_sub_cancel_left]
        have hlen : (sub xs (sts xs s m)).length = sts xs s (m + 1) - sts xs s m := by rw [sts_s]; exact sub_len
        obtain ⟨M1, a1, a2, a3⟩ := Ex_addPart_s hG hY hX (by omega) (by omega) (by omega) hmono hle2 (by rw [hp, hlen] at hl; omega)
        rw [hsub] at a2
        rw [Ru_addRight_46_eq, if_neg (by omega), hG.gRu, gd_t, hG.r21_0, hG.tgL arr_22 (by decide), gd_t, hG.len arr_22, wr_s (by omega), if_pos (by omega), gd_t, hG.tgS arr_22 (by omega) (by omega), gd_t, gd_t, hG.tgS arr_22 (by omega) (by omega), gd_t, hY.g hG, gd_t, toNat_n, toNat_n, hS m (by omega), hS (m + 1) (by omega), a1, cV_s, wr_s (by omega)]
        exact go M1 _ _ _ hp.symm a2 a3
    · rw [if_neg hk]
      exact add (by unfold put1; rw [if_neg (fun q => hk q.1)]) _
theorem Ru_makeStep_s (h1 : 22 < e1) (h2 : 22 < e2) (hc : 26 < c) (hne : e1 + 1 < e2 ∨ e2 + 1 < e1) (he1 : e1 + 1 < c) (he2 : e2 + 1 < c) (hv : av xs) {n at0 : Nat} (hz : zok n z) (hs : st0 z at0 ≤ xs.length) (hG : Good M) (hX : XE M e1 n1 xs) {ys : List Int} (hY : XE M e2 n2 ys) (hC : CLc M c z) (hl : (stx z xs at0).length ≤ n2) : ∃ M', Ru_makeStep 21 e1 (at0 : Int) c e2 M = some (none, M') ∧ XE M' e1 n1 xs ∧ XE M' e2 n2 (stx z xs at0) ∧ CLc M' c z ∧ Fj (fun a _ => a = 22 ∨ a = e2 ∨ a = e2 + 1) M M' := by
  have hxl := hX.lt
  have hat : at0 ≤ xs.length := by unfold st0 at hs; omega
  unfold stx at hl
  simp only [List.length_append, List.length_drop, List.length_take] at hl
  obtain ⟨M1, a1, a2, a3⟩ := Ex_clear_s hG hY
  have hG1 := hG.fi a3
  have hX1 : XE M1 e1 n1 xs := hX.fi a3 (by unfold eS; omega) (by unfold eS; omega)
  have hC1 : CLc M1 c z := hC.fi a3 fun a q => by unfold cS at q; unfold eS; omega
  obtain ⟨M2, b1, b2, b3⟩ := Ex_addPart_s hG1 a2 hX1 (by omega) (by omega) (by omega) (Nat.zero_le at0) hat (by simp; omega)
  have b1 : Ex_addPart e2 e1 0 (at0 : Int) M1 = some (none, M2) := b1
  have b2 : XE M2 e2 n2 (xs.take at0) := by rw [List.drop_zero, Nat.sub_zero, List.nil_append] at b2; exact b2
  have hG2 := hG1.fi b3
  have hX2 : XE M2 e1 n1 xs := hX1.fi b3 (by unfold eS; omega) (by unfold eS; omega)
  have hC2 : CLc M2 c z := hC1.fi b3 fun a q => by unfold cS at q; unfold eS; omega
  have f3 : Fj s22 M2 (stI M2 22 0 (st0 z at0 : Nat)) := Fj.ofI rfl
  have hG3 := hG2.fj f3
  have hX3 : XE (stI M2 22 0 (st0 z at0 : Nat)) e1 n1 xs := hX2.fj f3 (by unfold s22; omega) (by unfold s22; omega)
  have hC3 : CLc (stI M2 22 0 (st0 z at0 : Nat)) c z := hC2.fj f3 fun a k q => by unfold cS at q; unfold s22; omega
  obtain ⟨M4, d', c1, c2, c3⟩ := Ru_starts (e2 := e2) h1 (by omega) hv hs hz.2.2.1.2.1 _ 0 (stI M2 22 0 (st0 z at0 : Nat)) (some (.inl (at0 : Int))) rfl (Nat.zero_le _) hG3 hX3 hC3 (fun j hj => by rw [show j = 0 by omega, sts_z]; exact mI_at)
  have hG4 := hG3.fj c3
  have F4 := f3.trans c3
  have hX4 : XE M4 e1 n1 xs := hX2.fj F4 (by unfold s22; omega) (by unfold s22; omega)
  have hY4 : XE M4 e2 n2 (xs.take at0) := b2.fj F4 (by unfold s22; omega) (by unfold s22; omega)
  have hC4 : CLc M4 c z := hC2.fj F4 fun a k q => by unfold cS at q; unfold s22; omega
  obtain ⟨M5, g1, g2, g3⟩ := Ru_addRight_s h1 h2 hc hne he2 hv hs hz _ 0 M4 _ none none rfl (Nat.zero_le _) hG4 hX4 hY4 hC4 c2 (by rw [List.drop_zero, List.length_take]; omega)
  rw [List.drop_zero] at g2
  have g1 : Ru_addRight_9 21 e1 c e2 (c + 2) 0 none none M4 = some (none, M5) := g1
  have hG5 := hG4.fi g3
  have hX5 : XE M5 e1 n1 xs := hX4.fi g3 (by unfold eS; omega) (by unfold eS; omega)
  have hC5 : CLc M5 c z := hC4.fi g3 fun a q => by unfold cS at q; unfold eS; omega
  have hend := sts_le hs z.2.2.1.length
  obtain ⟨M6, k1, k2, k3⟩ := Ex_addPart_s hG5 g2 hX5 (by omega) (by omega) (by omega) hend (Nat.le_refl _) (by rw [List.length_append, List.length_take]; omega)
  have hX6 : XE M6 e1 n1 xs := hX5.fi k3 (by unfold eS; omega) (by unfold eS; omega)
  have hC6 : CLc M6 c z := hC5.fi k3 fun a q => by unfold cS at q; unfold eS; omega
  have e40 : Ru_makeStep 21 e1 (at0 : Int) c e2 M = Ru_makeStep_40 21 e1 c e2 (st0 z at0 : Nat) 0 (some (.inl (at0 : Int))) (stI M2 22 0 (st0 z at0 : Nat)) := by
    rw [Ru_makeStep_eq, hY.g hG, gd_t, a1, cV_s, a2.g hG1, gd_t, b1, cV_s, hC2.g hG2, gd_t, Cl_isCase_s hG2 hC2, cI_s, hG2.gRu, hG2.r21_0, hG2.tgS arr_22 (by decide) (by decide)]
    unfold st0
    by_cases q : z.2.1 = -1
    · rw [if_pos q, if_pos rfl, gd_t, gd_t, wr_s (by omega), if_pos q]
    · rw [if_neg q, if_neg (by decide), gd_t, gd_t, wr_id (x := (at0 : Int) + 2) (by omega) (by omega), if_neg q, show (at0 : Int) + 2 = ((at0 + 2 : Nat) : Int) by omega]
  have e41 : Ru_makeStep_40 21 e1 c e2 (st0 z at0 : Nat) 0 (some (.inl (at0 : Int))) (stI M2 22 0 (st0 z at0 : Nat)) = Ru_makeStep_86 21 e1 c e2 (sts xs (st0 z at0) z.2.2.1.length : Nat) (some (.inl (at0 : Int))) d' M4 := by
    have := c1
    rw [sts_z] at this
    exact this
  refine ⟨M6, ?_, hX6, ?_, hC6, ?_⟩
  · rw [e40, e41, Ru_makeStep_86_eq, hG4.gRu, gd_t, Ru_addRight_eq, hC4.g hG4, gd_t, (hC4.r hG4).2, g1, cV_s, hX5.g hG5, gd_t, g2.g hG5, gd_t, hX5.s, k1, cV_s]
  · unfold stx
    rw [← List.append_assoc]
    have : (xs.drop (sts xs (st0 z at0) z.2.2.1.length)).take (xs.length - sts xs (st0 z at0) z.2.2.1.length) = xs.drop (sts xs (st0 z at0) z.2.2.1.length) := by
      apply List.take_of_length_le
      rw [List.length_drop]
      exact Nat.le_refl _
    rw [this] at k2
    exact k2
  · have s1 : ∀ a (k : Nat), eS e2 a → (a = 22 ∨ a = e2 ∨ a = e2 + 1) := fun a k q => by unfold eS at q; omega
    exact ((((a3.fj s1).trans (b3.fj s1)).trans (F4.mono fun a k q => Or.inl q)).trans (g3.fj s1)).trans (k3.fj s1)
end STEPC

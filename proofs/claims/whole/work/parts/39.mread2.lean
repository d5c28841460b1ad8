/-! ===== the reference's closing, things, rounds ===== -/
theorem RM.push {M : Mem} {a o : Nat} {xs : List Int} {c : Int} (h : RM M a o xs) : RM (stI M a (o + xs.length) (cm c)) a o (xs ++ [c]) := by
  intro i hi
  rw [List.length_append, List.length_singleton] at hi
  by_cases q : i = xs.length
  · subst q; rw [mI_at, nth_app2 (Nat.le_refl _), Nat.sub_self]; rfl
  · rw [mI_ne (by omega), nth_app1 (by omega)]
    exact h i (by omega)
theorem RM.set {M : Mem} {a o : Nat} {xs : List Int} {j : Nat} {c : Int} (h : RM M a o xs) (hj : j < xs.length) : RM (stI M a (o + j) (cm c)) a o (xs.set j c) := by
  intro i hi
  rw [List.length_set] at hi
  rw [nth_set hj]
  by_cases q : i = j
  · subst q; rw [mI_at, if_pos rfl]
  · rw [mI_ne (by omega), if_neg q]
    exact h i hi
theorem IV_len : ∀ (st : List (Nat × Nat)) (ys : List Int), IV st ys → st.length ≤ ys.length := by
  intro st
  induction st with
  | nil => intro ys _; exact Nat.zero_le _
  | cons q st ih =>
    intro ys h
    have h1 := ih _ h.2.2
    have h2 := h.1.1
    rw [List.length_take] at h1
    rw [List.length_cons]
    omega
section MCLOSE
variable {T : List Int}
def CLm (M' : Mem) (T : List Int) (q : Nat × Nat × List Int × List (Nat × Nat)) : Prop := match q with
  | (0, p1, _, _) => mI M' 1269 3 = (p1 : Int)
  | (_, p1, xs1, st1) => REm M' T p1 xs1 st1 ∧ mI M' 1269 3 = -1
theorem M_close_s : ∀ (st : List (Nat × Nat)) (p : Nat) (ys t : List Int) (M : Mem) (d1 d2 d3 : LV), Good M → REm M T p (ys ++ t) st → mI M 1269 3 = -1 → IV st ys → wf 1 t → av (ys ++ t) → ∃ M', M_hasMore_125 1269 d1 d2 d3 M = some (some (.inl (if (cls T st p (ys ++ t)).1 = 1 then 1 else 0)), M') ∧ CLm M' T (cls T st p (ys ++ t)) ∧ Fj mrS M M' := by
  intro st
  induction st with
  | nil =>
    intro p ys t M d1 d2 d3 hG h hf hI hw hv
    have h0 : mI M 1269 8 = 0 := h.2.2.1.1
    refine ⟨M, ?_, ⟨h, hf⟩, Fj.refl⟩
    rw [M_hasMore_125_eq, hG.gM, gd_t, h0, if_neg (by decide), M_hasMore_192_eq, hG.gM, gd_t, h0, if_pos rfl]
    rfl
  | cons q st ih =>
    intro p ys t M d1 d2 d3 hG h hf hI hw hv
    obtain ⟨hd, c⟩ := q
    obtain ⟨⟨i1, i2⟩, ⟨i3, i4, i5⟩, i6⟩ := hI
    have i1 : hd < ys.length := i1
    have i2 : wf c (ys.drop (hd + 1)) := i2
    have i3 : arN (nth ys hd) = 0 := i3
    have i4 : kd (nth ys hd) = 1 ∨ kd (nth ys hd) = 2 := i4
    have i5 : c < mst (nth ys hd) := i5
    have e0 : nth (ys ++ t) hd = nth ys hd := nth_app1 i1
    have hlen : hd < (ys ++ t).length := by rw [List.length_append]; omega
    have hvc : vc (nth ys hd) := av_nth (fun d hd => hv d (List.mem_append_left _ hd)) i1
    have hm := mst_rng (nth ys hd)
    have hT := h.1.1.2.1
    have hp := h.1.2.2
    have hso : mI M 1269 8 = ((st.length + 1 : Nat) : Int) := h.2.2.1.1
    have hsl : st.length + 1 ≤ 20 := h.2.2.1.2
    have hst : mI M 1271 st.length = (hd : Int) ∧ mI M 1272 st.length = (c : Int) + 1 ∧ STKm M st := h.2.2.2
    have hxl := h.2.1.2.2
    have hcell : mI M 1273 hd = cm (nth ys hd) := by have := h.2.1.2.1 hd hlen; rwa [Nat.zero_add, e0] at this
    rw [M_hasMore_125_eq, hG.gM, gd_t, hso, if_pos (by omega), gd_t, M_here_s hG h.1, cI_s]
    by_cases h2 : pek T p = 41
    · have hlt := pek_lt (T := T) (p := p) (by omega)
      have hcl : cls T ((hd, c) :: st) p (ys ++ t) = cls T st (p + 1) (sar (ys ++ t) hd (c + 1)) := by rw [cls_cons, if_neg (by omega), if_pos h2]
      have hFF : Fj (fun a k => (a = 1273 ∧ k = hd) ∨ (a = 1269 ∧ (k = 2 ∨ k = 8))) M (stI (stI (stI M 1269 8 (st.length : Int)) 1273 hd (cm (cl1 (nth ys hd) (c + 1)))) 1269 2 ((p + 1 : Nat) : Int)) := ((Fj.ofI (by omega)).trans (Fj.ofI (by omega))).trans (Fj.ofI (by omega))
      obtain ⟨c1, c2, c3, c4⟩ := cl1_ok hvc i4 (a := c + 1) (by omega)
      have hw2 : wf 1 (cl1 (nth ys hd) (c + 1) :: (ys.drop (hd + 1) ++ t)) := by
        show wf (0 + 1) _
        rw [wf_cons, c3, Nat.zero_add]
        exact wf_app _ _ _ _ i2 hw
      have hsar : (ys ++ t).set hd (cl1 (nth ys hd) (c + 1)) = ys.take hd ++ (cl1 (nth ys hd) (c + 1) :: (ys.drop (hd + 1) ++ t)) := by
        have := sar_app (t := t) (c := c + 1) i1
        unfold sar at this
        rw [e0] at this
        exact this
      have hRE : REm (stI (stI (stI M 1269 8 (st.length : Int)) 1273 hd (cm (cl1 (nth ys hd) (c + 1)))) 1269 2 ((p + 1 : Nat) : Int)) T (p + 1) (ys.take hd ++ (cl1 (nth ys hd) (c + 1) :: (ys.drop (hd + 1) ++ t))) st := by
        refine ⟨⟨h.1.1.fj hFF (by omega) (by omega), mI_at, by omega⟩, ⟨?_, ?_, ?_⟩, ⟨?_, by omega⟩, hst.2.2.fj hFF fun k hk => by omega⟩
        · rw [mI_ne (by omega), mI_ne (by omega), mI_ne (by omega), h.2.1.1, ← hsar, List.length_set]
        · rw [← hsar]
          have h8 : RM (stI M 1269 8 (st.length : Int)) 1273 0 (ys ++ t) := h.2.1.2.1.fj (Fj.ofI (S := fun a k => a = 1269 ∧ k = 8) ⟨rfl, rfl⟩) (by omega)
          have h9 := h8.set (c := cl1 (nth ys hd) (c + 1)) hlen
          rw [Nat.zero_add] at h9
          exact h9.fj (Fj.ofI (S := fun a k => a = 1269 ∧ k = 2) ⟨rfl, rfl⟩) (by omega)
        · rw [← hsar, List.length_set]; exact hxl
        · rw [mI_ne (by omega), mI_ne (by omega), mI_at]
      obtain ⟨M5, b1, b2, b3⟩ := ih (p + 1) _ _ _ d1 d2 d3 (hG.fj hFF) hRE (by rw [mI_ne (by omega), mI_ne (by omega), mI_ne (by omega)]; exact hf) i6 hw2 (av_cut hv c1)
      rw [hcl, sar_app i1]
      refine ⟨M5, ?_, b2, (hFF.mono fun a k q => by unfold mrS; omega).trans b3⟩
      rw [if_pos h2, hG.gM]
      simp only [gd_t, hG.m4, hG.m5, hG.m6]
      rw [hso, wr_id (x := ((st.length + 1 : Nat) : Int) - 1) (by omega) (by omega), show ((st.length + 1 : Nat) : Int) - 1 = (st.length : Int) by omega]
      simp only [mI_at, toNat_n]
      rw [hG.tgS arr_1271 (by omega) (by omega), gd_t, mI_ne (a := 1269) (b := 1271) (by omega), hst.1, hG.tgS arr_1273 (by omega) (by omega), gd_t, hG.tgS arr_1272 (by omega) (by omega), gd_t, gd_t, toNat_n, mI_ne (a := 1269) (b := 1273) (by omega), hcell, mI_ne (a := 1269) (b := 1272) (by omega), hst.2.1, show (c : Int) + 1 = ((c + 1 : Nat) : Int) by omega, cm_cl1 hvc i4 i3 (by omega), mI_ne (by omega), mI_ne (by omega), h.1.2.1, wr_s (by omega)]
      exact b1
    · rw [if_neg h2, M_hasMore_192_eq, hG.gM, gd_t, hso, if_neg (by omega)]
      simp only [gd_t, hG.m4, hG.m6]
      have h230 : ∀ (ms : Nat) (d1 d2 d3 : LV), ms = mst (nth ys hd) → ∃ M', M_hasMore_230 1269 (ms : Int) d1 d2 d3 M = some (some (.inl (if (cls T ((hd, c) :: st) p (ys ++ t)).1 = 1 then 1 else 0)), M') ∧ CLm M' T (cls T ((hd, c) :: st) p (ys ++ t)) ∧ Fj mrS M M' := by
        intro ms d1 d2 d3 hms
        have hfail : ∀ q : Nat × Nat × List Int × List (Nat × Nat), q = (0, p, ys ++ t, (hd, c + 1) :: st) → ∃ M', (cI (M_fails 1269 (mI M 1269 2) M) fun r6 M5 => gd (decide (r6 = 0 ∨ r6 = 1)) (some (some (.inl r6), M5))) = some (some (.inl (if q.1 = 1 then 1 else 0)), M') ∧ CLm M' T q ∧ Fj mrS M M' := by
          intro q hq
          subst hq
          rw [M_fails_s hG, cI_s, h.1.2.1]
          exact ⟨_, rfl, mI_at, Fj.ofI (by unfold mrS; omega)⟩
        rw [M_hasMore_230_eq, hG.gM, gd_t, M_here_s hG h.1, cI_s]
        by_cases h1 : pek T p = 44
        · rw [if_pos h1, hG.gM, gd_t, gd_t, hG.m5, hso, wr_id (x := ((st.length + 1 : Nat) : Int) - 1) (by omega) (by omega), show ((st.length + 1 : Nat) : Int) - 1 = (st.length : Int) by omega, hG.tgS arr_1272 (by omega) (by omega), gd_t, toNat_n, hst.2.1]
          by_cases h3 : (c : Int) + 1 = (ms : Int)
          · rw [if_pos h3, gd_t, gd_t]
            exact hfail _ (by rw [cls_cons, if_neg (by rw [e0]; omega), if_neg h2])
          · have hlt := pek_lt (T := T) (p := p) (by omega)
            have hcl : cls T ((hd, c) :: st) p (ys ++ t) = (1, p + 1, ys ++ t, (hd, c + 1) :: st) := by rw [cls_cons, if_pos (by rw [e0]; omega)]
            have hF : Fj (fun a k => (a = 1272 ∧ k = st.length) ∨ (a = 1269 ∧ k = 2)) M (stI (stI M 1272 st.length ((c + 1 : Nat) + 1 : Int)) 1269 2 ((p + 1 : Nat) : Int)) := (Fj.ofI (by omega)).trans (Fj.ofI (by omega))
            rw [if_neg h3, hcl]
            simp only [gd_t]
            rw [wr_id (x := (c : Int) + 1 + 1) (by omega) (by omega), mI_ne (by omega), h.1.2.1, wr_s (by omega), show (c : Int) + 1 + 1 = ((c + 1 : Nat) : Int) + 1 by omega]
            exact ⟨_, rfl, ⟨⟨⟨h.1.1.fj hF (by omega) (by omega), mI_at, by omega⟩, ⟨by rw [mI_ne (by omega), mI_ne (by omega)]; exact h.2.1.1, h.2.1.2.1.fj hF (by omega), hxl⟩, ⟨by rw [mI_ne (by omega), mI_ne (by omega)]; exact hso, hsl⟩, ⟨by rw [mI_ne (by omega), mI_ne (by omega)]; exact hst.1, by rw [mI_ne (by omega), mI_at], hst.2.2.fj hF fun k hk => by omega⟩⟩, by rw [mI_ne (by omega), mI_ne (by omega)]; exact hf⟩, hF.mono fun a k q => by unfold mrS; omega⟩
        · rw [if_neg h1, hG.gM, gd_t, gd_t]
          exact hfail _ (by rw [cls_cons, if_neg (by omega), if_neg h2])
      rw [wr_id (x := ((st.length + 1 : Nat) : Int) - 1) (by omega) (by omega), show ((st.length + 1 : Nat) : Int) - 1 = (st.length : Int) by omega, hG.tgS arr_1271 (by omega) (by omega), gd_t, toNat_n, hst.1, hG.tgS arr_1273 (by omega) (by omega), gd_t, toNat_n, hcell, M_sortOf_s hvc, cI_s]
      by_cases hk : kd (nth ys hd) = 1
      · rw [if_pos hk]
        exact h230 4 _ _ _ (by unfold mst; rw [if_pos hk])
      · rw [if_neg hk]
        exact h230 8 _ _ _ (by unfold mst; rw [if_neg hk])
end MCLOSE

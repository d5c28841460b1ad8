/-! ===== what is read is whole; the class's closing and rounds ===== -/
/-- things begun and not ended yet: each one's arguments so far are whole -/
def IV : List (Nat × Nat) → List Int → Prop
  | [], ys => ys = []
  | q :: st, ys => (q.1 < ys.length ∧ wf q.2 (ys.drop (q.1 + 1))) ∧ (arN (nth ys q.1) = 0 ∧ (kd (nth ys q.1) = 1 ∨ kd (nth ys q.1) = 2) ∧ q.2 < mst (nth ys q.1)) ∧ IV st (ys.take q.1)
theorem kd_mk {k a s : Int} (hk : 0 ≤ k ∧ k < 4) (ha : 0 ≤ a ∧ a < 16) (hs : 0 ≤ s ∧ s < 65536) : kd (k * 16777216 + a * 65536 + s) = k ∧ ar (k * 16777216 + a * 65536 + s) = a ∧ sy (k * 16777216 + a * 65536 + s) = s := by
  unfold kd ar sy
  omega
theorem mst_rng (c : Int) : mst c = 4 ∨ mst c = 8 := by unfold mst; split <;> omega
/-- a cell with its arguments counted -/
def cl1 (c : Int) (a : Nat) : Int := kd c * 16777216 + (a : Int) * 65536 + sy c
theorem cl1_ok {c : Int} (h : vc c) (hk : kd c = 1 ∨ kd c = 2) {a : Nat} (ha : a ≤ mst c) : vc (cl1 c a) ∧ kd (cl1 c a) = kd c ∧ arN (cl1 c a) = a ∧ sy (cl1 c a) = sy c := by
  have h1 := kd_nn c
  have h2 := sy_nn c
  have h3 : a ≤ 8 := by have := mst_rng c; omega
  obtain ⟨e1, e2, e3⟩ := kd_mk (k := kd c) (a := (a : Int)) (s := sy c) h1 (by omega) h2
  have hv := h.2
  refine ⟨⟨⟨?_, ?_, ?_⟩, ?_, ?_, ?_, ?_⟩, e1, ?_, e3⟩
  · unfold cl1; omega
  · unfold cl1; omega
  · unfold cl1; rw [e1, e2, e3]
  · unfold cl1; rw [e1]; omega
  · unfold cl1; rw [e1, e2, e3]
    intro k1
    unfold mst at ha
    rw [if_pos k1] at ha
    have := hv.2.1 k1
    omega
  · unfold cl1; rw [e1, e2, e3]
    intro k2
    have := hv.2.2.1 k2
    omega
  · unfold cl1; rw [e1]; omega
  · have := arN_ar (cl1 c a)
    unfold cl1 at this ⊢
    rw [e2] at this
    omega
theorem sar_app {ys t : List Int} {h c : Nat} (hl : h < ys.length) : sar (ys ++ t) h c = ys.take h ++ (cl1 (nth ys h) c :: (ys.drop (h + 1) ++ t)) := by
  unfold sar
  rw [nth_app1 hl, List.set_append_left _ _ hl]
  have : ys.set h (cl1 (nth ys h) c) = ys.take h ++ cl1 (nth ys h) c :: ys.drop (h + 1) := by
    rw [List.set_eq_take_append_cons_drop, if_pos hl]
  show ys.set h (cl1 (nth ys h) c) ++ t = _
  rw [this, List.append_assoc, List.cons_append]
theorem av_cut {ys t : List Int} {h : Nat} {c : Int} (hv : av (ys ++ t)) (hc : vc c) : av (ys.take h ++ (c :: (ys.drop (h + 1) ++ t))) := by
  intro d hd
  rcases List.mem_append.mp hd with q | q
  · exact hv d (List.mem_append_left _ (List.mem_of_mem_take q))
  · rcases List.mem_cons.mp q with q | q
    · rw [q]; exact hc
    · rcases List.mem_append.mp q with q | q
      · exact hv d (List.mem_append_left _ (List.mem_of_mem_drop q))
      · exact hv d (List.mem_append_right _ q)
/-- what closing gives -/
theorem cls_cons {T : List Int} {h c p : Nat} {st : List (Nat × Nat)} {xs : List Int} : cls T ((h, c) :: st) p xs = if pek T p = 44 ∧ c + 1 < mst (nth xs h) then (1, p + 1, xs, (h, c + 1) :: st) else if pek T p = 41 then cls T st (p + 1) (sar xs h (c + 1)) else (0, p, xs, (h, c + 1) :: st) := rfl
theorem cls_inv (T : List Int) : ∀ (st : List (Nat × Nat)) (p : Nat) (ys t : List Int), IV st ys → wf 1 t → av (ys ++ t) → p ≤ T.length → ((cls T st p (ys ++ t)).1 = 1 ∧ IV (cls T st p (ys ++ t)).2.2.2 (cls T st p (ys ++ t)).2.2.1 ∧ (cls T st p (ys ++ t)).2.2.2 ≠ [] ∨ (cls T st p (ys ++ t)).1 = 2 ∧ wf 1 (cls T st p (ys ++ t)).2.2.1 ∧ (cls T st p (ys ++ t)).2.2.2 = [] ∨ (cls T st p (ys ++ t)).1 = 0) ∧ (av (cls T st p (ys ++ t)).2.2.1 ∧ (cls T st p (ys ++ t)).2.2.1.length = (ys ++ t).length ∧ (cls T st p (ys ++ t)).2.1 ≤ T.length ∧ (cls T st p (ys ++ t)).2.2.2.length ≤ st.length) ∧ ∀ c ∈ (cls T st p (ys ++ t)).2.2.1, (kd c = 0 → c ∈ ys ++ t) ∧ ∃ d ∈ ys ++ t, kd c = kd d := by
  intro st
  induction st with
  | nil =>
    intro p ys t hI hw hv hp
    have hI : ys = [] := hI
    subst hI
    refine ⟨Or.inr (Or.inl ⟨rfl, hw, rfl⟩), ⟨hv, rfl, hp, Nat.le_refl _⟩, fun c hc => ⟨fun _ => hc, c, hc, rfl⟩⟩
  | cons q st ih =>
    intro p ys t hI hw hv hp
    obtain ⟨h, c⟩ := q
    obtain ⟨⟨i1, i2⟩, ⟨i3, i4, i5⟩, i6⟩ := hI
    have i1 : h < ys.length := i1
    have i2 : wf c (ys.drop (h + 1)) := i2
    have i4 : kd (nth ys h) = 1 ∨ kd (nth ys h) = 2 := i4
    have e0 : nth (ys ++ t) h = nth ys h := nth_app1 i1
    have hvc : vc (nth ys h) := av_nth (fun d hd => hv d (List.mem_append_left _ hd)) i1
    unfold cls
    rw [e0]
    by_cases h1 : pek T p = 44 ∧ c + 1 < mst (nth ys h)
    · rw [if_pos h1]
      have hlt := pek_lt (T := T) (p := p) (by omega)
      refine ⟨Or.inl ⟨rfl, ⟨⟨by show h < (ys ++ t).length; rw [List.length_append]; omega, ?_⟩, ⟨?_, ?_, ?_⟩, ?_⟩, by simp⟩, ⟨hv, rfl, hlt, Nat.le_refl _⟩, fun d hd => ⟨fun _ => hd, d, hd, rfl⟩⟩
      · show wf (c + 1) ((ys ++ t).drop (h + 1))
        rw [List.drop_append_of_le_length (by omega)]
        exact wf_app _ _ _ _ i2 hw
      · show arN (nth (ys ++ t) h) = 0; rw [e0]; exact i3
      · show kd (nth (ys ++ t) h) = 1 ∨ kd (nth (ys ++ t) h) = 2; rw [e0]; exact i4
      · show c + 1 < mst (nth (ys ++ t) h); rw [e0]; exact h1.2
      · show IV st ((ys ++ t).take h); rw [List.take_append_of_le_length (by omega)]; exact i6
    · rw [if_neg h1]
      by_cases h2 : pek T p = 41
      · rw [if_pos h2]
        have hlt := pek_lt (T := T) (p := p) (by omega)
        obtain ⟨c1, c2, c3, c4⟩ := cl1_ok hvc i4 (a := c + 1) (by have : c < mst (nth ys h) := i5; omega)
        rw [sar_app i1]
        have hw2 : wf 1 (cl1 (nth ys h) (c + 1) :: (ys.drop (h + 1) ++ t)) := by
          show wf (0 + 1) _
          rw [wf_cons, c3, Nat.zero_add]
          exact wf_app _ _ _ _ i2 hw
        obtain ⟨r1, ⟨r2, r3, r4, r5⟩, r6⟩ := ih (p + 1) (ys.take h) _ i6 hw2 (av_cut hv c1) hlt
        refine ⟨r1, ⟨r2, ?_, r4, by rw [List.length_cons]; omega⟩, fun d hd => ?_⟩
        · rw [r3]
          simp only [List.length_append, List.length_cons, List.length_take, List.length_drop]
          omega
        · obtain ⟨r7, d2, r8, r9⟩ := r6 d hd
          have conv : ∀ d2 ∈ ys.take h ++ (cl1 (nth ys h) (c + 1) :: (ys.drop (h + 1) ++ t)), d2 ∈ ys ++ t ∨ d2 = cl1 (nth ys h) (c + 1) := by
            intro d2 r8
            rcases List.mem_append.mp r8 with q | q
            · exact Or.inl (List.mem_append_left _ (List.mem_of_mem_take q))
            · rcases List.mem_cons.mp q with q | q
              · exact Or.inr q
              · rcases List.mem_append.mp q with q | q
                · exact Or.inl (List.mem_append_left _ (List.mem_of_mem_drop q))
                · exact Or.inl (List.mem_append_right _ q)
          refine ⟨fun k0 => ?_, ?_⟩
          · rcases conv d (r7 k0) with q | q
            · exact q
            · rw [q, c2] at k0; omega
          · rcases conv d2 r8 with q | q
            · exact ⟨d2, q, r9⟩
            · exact ⟨nth ys h, List.mem_append_left _ (nth_mem i1), by rw [r9, q, c2]⟩
      · rw [if_neg h2]
        exact ⟨Or.inr (Or.inr rfl), ⟨hv, rfl, hp, Nat.le_refl _⟩, fun d hd => ⟨fun _ => hd, d, hd, rfl⟩⟩
section CLOSE
variable {M : Mem} {T : List Int} {e n : Nat}
/-- how a closing ends -/
def CL (M' : Mem) (T : List Int) (e n : Nat) (q : Nat × Nat × List Int × List (Nat × Nat)) : Prop := match q with
  | (0, p1, _, _) => mI M' 3 7 = (p1 : Int) ∧ ∃ ys, XE M' e n ys
  | (_, p1, xs1, st1) => RE M' T p1 e n xs1 st1
theorem Re_closeThings_s (hG : Good M) (he : 6 < e) : ∀ (st : List (Nat × Nat)) (p : Nat) (ys t : List Int) (M : Mem) (d2 d3 : LV), Good M → RE M T p e n (ys ++ t) st → IV st ys → wf 1 t → av (ys ++ t) → ∃ M', Re_closeThings_0 3 e d2 d3 M = some (some (.inl ((cls T st p (ys ++ t)).1 : Nat)), M') ∧ CL M' T e n (cls T st p (ys ++ t)) ∧ Fj (exS e) M M' := by
  intro st
  induction st with
  | nil =>
    intro p ys t M d2 d3 hG h hI hw hv
    refine ⟨M, ?_, h, Fj.refl⟩
    rw [Re_closeThings_0_eq, hG.gR, gd_t, h.2.2.1.1, if_neg (by decide)]
    rfl
  | cons q st ih =>
    intro p ys t M d2 d3 hG h hI hw hv
    obtain ⟨hd, c⟩ := q
    obtain ⟨⟨i1, i2⟩, ⟨i3, i4, i5⟩, i6⟩ := hI
    have i1 : hd < ys.length := i1
    have i2 : wf c (ys.drop (hd + 1)) := i2
    have i5 : c < mst (nth ys hd) := i5
    have e0 : nth (ys ++ t) hd = nth ys hd := nth_app1 i1
    have hlen : hd < (ys ++ t).length := by rw [List.length_append]; omega
    have hvc : vc (nth ys hd) := av_nth (fun d hd => hv d (List.mem_append_left _ hd)) i1
    have hm := mst_rng (nth ys hd)
    have hT := h.1.1.2.1
    have hp := h.1.2.2
    have hso : mI M 3 6 = ((st.length + 1 : Nat) : Int) := h.2.2.1.1
    have hsl : st.length + 1 ≤ 20 := h.2.2.1.2
    have hst : mI M 5 st.length = (hd : Int) ∧ mI M 6 st.length = (c : Int) ∧ STK M st := h.2.2.2
    have hxl := h.2.1.lt
    -- the count of arguments goes up
    have hF1 : Fj (fun a k => a = 6 ∧ k = st.length) M (stI M 6 st.length ((c + 1 : Nat) : Int)) := Fj.ofI ⟨rfl, rfl⟩
    have hG1 := hG.fj hF1
    have hR1 : RSc (stI M 6 st.length ((c + 1 : Nat) : Int)) T p := h.1.fj hF1 (by omega) (by omega) (by omega)
    have h86 : ∀ d, (cls T ((hd, c) :: st) p (ys ++ t)) = (if pek T p = 41 then cls T st (p + 1) (sar (ys ++ t) hd (c + 1)) else (0, p, ys ++ t, (hd, c + 1) :: st)) → ∃ M', Re_closeThings_86 3 e (hd : Int) d (stI M 6 st.length ((c + 1 : Nat) : Int)) = some (some (.inl ((cls T ((hd, c) :: st) p (ys ++ t)).1 : Nat)), M') ∧ CL M' T e n (cls T ((hd, c) :: st) p (ys ++ t)) ∧ Fj (exS e) M M' := by
      intro d hcl
      rw [hcl, Re_closeThings_86_eq, hG1.gR, gd_t, Re_expect_s hG1 hR1 41 (by decide)]
      by_cases h2 : pek T p = 41
      · have hlt := pek_lt (T := T) (p := p) (by omega)
        rw [if_pos h2, if_pos h2, cI_s, if_neg (by decide)]
        have hF2 : Fj (fun a k => (a = 6 ∧ k = st.length) ∨ (a = 3 ∧ k = 5)) M (stI (stI M 6 st.length ((c + 1 : Nat) : Int)) 3 5 ((p + 1 : Nat) : Int)) := (Fj.ofI (by omega)).trans (Fj.ofI (by omega))
        have hG2 := hG.fj hF2
        have hX2 : XE (stI (stI M 6 st.length ((c + 1 : Nat) : Int)) 3 5 ((p + 1 : Nat) : Int)) e n (ys ++ t) := h.2.1.fj hF2 (by omega) (by omega)
        obtain ⟨M3, a1, a2, a3⟩ := Ex_setArity_s hG2 hX2 (i := hd) (a := ((c + 1 : Nat) : Int)) hlen (by rw [e0]; exact hvc) (by omega)
        have hF3 : Fj (fun a _ => a = e ∨ a = e + 1) _ M3 := a3.fj fun a k q => q
        have hG3 := hG2.fj hF3
        have hF4 : Fj (fun a k => a = 3 ∧ k = 6) M3 (stI M3 3 6 (st.length : Int)) := Fj.ofI ⟨rfl, rfl⟩
        have hFF : Fj (fun a k => (a = 6 ∧ k = st.length) ∨ (a = 3 ∧ (k = 5 ∨ k = 6)) ∨ a = e ∨ a = e + 1) M (stI M3 3 6 (st.length : Int)) := ((hF2.mono fun a k q => by omega).trans (hF3.mono fun a k q => by omega)).trans (hF4.mono fun a k q => by omega)
        obtain ⟨c1, c2, c3, c4⟩ := cl1_ok hvc i4 (a := c + 1) (by omega)
        have hw2 : wf 1 (cl1 (nth ys hd) (c + 1) :: (ys.drop (hd + 1) ++ t)) := by
          show wf (0 + 1) _
          rw [wf_cons, c3, Nat.zero_add]
          exact wf_app _ _ _ _ i2 hw
        have hsar : (ys ++ t).set hd (kd (nth (ys ++ t) hd) * 16777216 + ((c + 1 : Nat) : Int) * 65536 + sy (nth (ys ++ t) hd)) = ys.take hd ++ (cl1 (nth ys hd) (c + 1) :: (ys.drop (hd + 1) ++ t)) := sar_app i1
        rw [hsar] at a2
        have hRE : RE (stI M3 3 6 (st.length : Int)) T (p + 1) e n (ys.take hd ++ (cl1 (nth ys hd) (c + 1) :: (ys.drop (hd + 1) ++ t))) st := by
          refine ⟨⟨h.1.1.fj hFF (by omega) (by omega), ?_, by omega⟩, a2.fj hF4 (by omega) (by omega), ⟨mI_at, by omega⟩, hst.2.2.fj hFF fun k hk => by omega⟩
          rw [mI_ne (by omega), hF3.2.2 _ _ (by omega), mI_at]
        obtain ⟨M5, b1, b2, b3⟩ := ih (p + 1) _ _ _ (some (.inl (hd : Int))) d (hG3.fj hF4) hRE i6 hw2 (av_cut hv c1)
        rw [hG2.gR, gd_t, gd_t, hG2.r3_2, mI_ne (by omega), mI_ne (by omega), hso, wr_id (x := ((st.length + 1 : Nat) : Int) - 1) (by omega) (by omega), show ((st.length + 1 : Nat) : Int) - 1 = (st.length : Int) by omega, hG2.tgS arr_6 (by omega) (by omega), gd_t, hX2.g hG2, gd_t, toNat_n, mI_ne (by omega), mI_at, a1, cV_s, hG3.gR, gd_t, gd_t, hF3.2.2 _ _ (by omega), mI_ne (by omega), mI_ne (by omega), hso, wr_id (x := ((st.length + 1 : Nat) : Int) - 1) (by omega) (by omega), show ((st.length + 1 : Nat) : Int) - 1 = (st.length : Int) by omega, b1]
        rw [show sar (ys ++ t) hd (c + 1) = ys.take hd ++ (cl1 (nth ys hd) (c + 1) :: (ys.drop (hd + 1) ++ t)) from sar_app i1]
        exact ⟨M5, rfl, b2, (hFF.mono fun a k q => by unfold exS rS; omega).trans b3⟩
      · rw [if_neg h2, if_neg h2, cI_s, if_pos rfl]
        exact ⟨_, rfl, ⟨mI_at, _, (h.2.1.fj hF1 (by omega) (by omega)).o7 he⟩, (Fj.ofI (by unfold exS rS; omega)).trans (Fj.ofI (by unfold exS rS; omega))⟩
    have h34 : ∀ (ms : Nat) (d : LV), ms = mst (nth ys hd) → ∃ M', Re_closeThings_34 3 e (hd : Int) (ms : Int) d M = some (some (.inl ((cls T ((hd, c) :: st) p (ys ++ t)).1 : Nat)), M') ∧ CL M' T e n (cls T ((hd, c) :: st) p (ys ++ t)) ∧ Fj (exS e) M M' := by
      intro ms d hms
      rw [Re_closeThings_34_eq, hG.gR, gd_t, gd_t, hG.r3_2, hso, wr_id (x := ((st.length + 1 : Nat) : Int) - 1) (by omega) (by omega), show ((st.length + 1 : Nat) : Int) - 1 = (st.length : Int) by omega, hG.tgS arr_6 (by omega) (by omega), gd_t, gd_t, gd_t, toNat_n, hst.2.1, wr_s (by omega), Re_peek_s hG1 hR1, cI_s]
      by_cases h1 : pek T p = 44
      · rw [if_pos h1, hG1.gR, gd_t, gd_t, hG1.r3_2, mI_ne (by omega), hso, wr_id (x := ((st.length + 1 : Nat) : Int) - 1) (by omega) (by omega), show ((st.length + 1 : Nat) : Int) - 1 = (st.length : Int) by omega, hG1.tgS arr_6 (by omega) (by omega), gd_t, toNat_n, mI_at]
        by_cases h2 : c + 1 < ms
        · have hlt := pek_lt (T := T) (p := p) (by omega)
          have hcl : cls T ((hd, c) :: st) p (ys ++ t) = (1, p + 1, ys ++ t, (hd, c + 1) :: st) := by
            unfold cls
            rw [if_pos ⟨h1, by rw [e0, ← hms]; exact h2⟩]
          rw [if_pos (by omega), gd_t, gd_t, mI_ne (by omega), h.1.2.1, wr_s (by omega), hcl]
          have hF2 : Fj (fun a k => (a = 6 ∧ k = st.length) ∨ (a = 3 ∧ k = 5)) M (stI (stI M 6 st.length ((c + 1 : Nat) : Int)) 3 5 ((p + 1 : Nat) : Int)) := (Fj.ofI (by omega)).trans (Fj.ofI (by omega))
          exact ⟨_, rfl, ⟨⟨h.1.1.fj hF2 (by omega) (by omega), mI_at, by omega⟩, h.2.1.fj hF2 (by omega) (by omega), ⟨by rw [mI_ne (by omega), mI_ne (by omega), hso]; rfl, hsl⟩, ⟨by rw [mI_ne (by omega), mI_ne (by omega)]; exact hst.1, by rw [mI_ne (by omega), mI_at], hst.2.2.fj hF2 fun k hk => by omega⟩⟩, hF2.mono fun a k q => by unfold exS rS; omega⟩
        · rw [if_neg (by omega)]
          exact h86 _ (cls_cons.trans (if_neg (fun q => h2 (by rw [e0, ← hms] at q; exact q.2))))
      · rw [if_neg h1]
        exact h86 _ (cls_cons.trans (if_neg (fun q => h1 q.1)))
    rw [Re_closeThings_0_eq, hG.gR, gd_t, hso, if_pos (by omega), gd_t, gd_t, hG.r3_1, wr_id (x := ((st.length + 1 : Nat) : Int) - 1) (by omega) (by omega), show ((st.length + 1 : Nat) : Int) - 1 = (st.length : Int) by omega, hG.tgS arr_5 (by omega) (by omega), gd_t, h.g hG, gd_t, toNat_n, hst.1, Ex_kindAt_s hG h.2.1 hv, cI_s, cA_n hlen, e0]
    by_cases hk : kd (nth ys hd) = 1
    · rw [if_pos hk]
      exact h34 4 _ (by unfold mst; rw [if_pos hk])
    · rw [if_neg hk]
      exact h34 8 _ (by unfold mst; rw [if_neg hk])
end CLOSE

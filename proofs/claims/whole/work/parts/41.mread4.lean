/-! ===== the reference reads an expression: the rounds ===== -/
section MMORE
variable {M : Mem} {T : List Int} {pa : Nat} {xs : List Int} {st : List (Nat × Nat)} {c : Int}
def HMm (M' : Mem) (T : List Int) (st : List (Nat × Nat)) (r : Int) (q : Nat × Nat × List Int) : Prop := match q with
  | (0, p1, _) => mI M' 1269 3 = (p1 : Int)
  | (1, p1, xs1) => r = 1 ∧ REm M' T p1 xs1 ((xs1.length - 1, 0) :: st) ∧ mI M' 1269 3 = -1
  | (_, p1, xs1) => r = (if (cls T st p1 xs1).1 = 1 then 1 else 0) ∧ CLm M' T (cls T st p1 xs1)
theorem REm.at (h : REm M T pa xs st) {q : Nat} (hq : q ≤ T.length) : REm (stI M 1269 2 (q : Int)) T q xs st ∧ Fj mrS M (stI M 1269 2 (q : Int)) := by
  have hF : Fj (fun a k => a = 1269 ∧ k = 2) M (stI M 1269 2 (q : Int)) := Fj.ofI ⟨rfl, rfl⟩
  exact ⟨⟨h.1.at hq, ⟨(hF.2.2 _ _ (by omega)).trans h.2.1.1, h.2.1.2.1.fj hF (by omega), h.2.1.2.2⟩, ⟨(hF.2.2 _ _ (by omega)).trans h.2.2.1.1, h.2.2.1.2⟩, h.2.2.2.fj hF fun k _ => by omega⟩, hF.mono fun a k z => by unfold mrS; omega⟩
theorem M_push_s (hG : Good M) (h : REm M T pa xs st) (hs : st.length < 20) {i : Nat} (d2 d3 : LV) : ∃ M', M_hasMore_83 1269 (i : Int) d2 d3 M = some (some (.inl 1), M') ∧ REm M' T pa xs ((i, 0) :: st) ∧ mI M' 1269 3 = mI M 1269 3 ∧ Fj mrS M M' := by
  have hF : Fj (fun a k => ((a = 1271 ∨ a = 1272) ∧ k = st.length) ∨ (a = 1269 ∧ k = 8)) M (stI (stI (stI M 1271 st.length (i : Int)) 1272 st.length 1) 1269 8 ((st.length + 1 : Nat) : Int)) := ((Fj.ofI (by omega)).trans (Fj.ofI (by omega))).trans (Fj.ofI (by omega))
  refine ⟨_, ?_, ⟨h.1.fj hF (by omega) (by omega) (by omega), ⟨(hF.2.2 _ _ (by omega)).trans h.2.1.1, h.2.1.2.1.fj hF (by omega), h.2.1.2.2⟩, ⟨by rw [mI_at]; rfl, hs⟩, ⟨by rw [mI_ne (by omega), mI_ne (by omega), mI_at], by rw [mI_ne (by omega), mI_at]; rfl, h.2.2.2.fj hF fun k hk => by omega⟩⟩, hF.2.2 _ _ (by omega), hF.mono fun a k q => by unfold mrS; omega⟩
  rw [M_hasMore_83_eq, hG.gM]
  simp only [gd_t, hG.m4, hG.m5]
  rw [h.2.2.1.1, hG.tgS arr_1271 (by omega) (by omega), gd_t, toNat_n, mI_ne (by omega), h.2.2.1.1, hG.tgS arr_1272 (by omega) (by omega), gd_t, toNat_n, mI_ne (by omega), mI_ne (by omega), h.2.2.1.1, wr_s (by omega)]
theorem M_hasMore_s (hG : Good M) (h : REm M T pa (xs ++ [c]) st) (hf : mI M 1269 3 = -1) (hc : vc c ∧ arN c = 0) (hI : IV st xs) (hv : av xs) (hs : st.length < 20) : ∃ r M', M_hasMore 1269 M = some (some (.inl r), M') ∧ HMm M' T st r (tg1 T c pa xs) ∧ Fj mrS M M' := by
  have hT := h.1.1.2.1
  have hp := h.1.2.2
  have hxl := h.2.1.2.2
  have hlen : (xs ++ [c]).length = xs.length + 1 := by simp
  have hcell : mI M 1273 xs.length = cm c := by
    have := h.2.1.2.1 xs.length (by rw [hlen]; omega)
    rwa [Nat.zero_add, nth_app2 (Nat.le_refl _), Nat.sub_self] at this
  have hv2 : av (xs ++ [c]) := av_app hv (fun d hd => by rw [List.mem_singleton.mp hd]; exact hc.1)
  have hkn := kd_nn c
  rw [hlen] at hxl
  -- the end of a whole thing
  have close : ∀ (q : Nat) (M1 : Mem) (d1 d2 d3 : LV), Good M1 → REm M1 T q (xs ++ [c]) st → mI M1 1269 3 = -1 → Fj mrS M M1 → tg1 T c pa xs = (2, q, xs ++ [c]) → ∃ r M', M_hasMore_125 1269 d1 d2 d3 M1 = some (some (.inl r), M') ∧ HMm M' T st r (tg1 T c pa xs) ∧ Fj mrS M M' := by
    intro q M1 d1 d2 d3 hG1 h1 hf1 hF1 hq
    obtain ⟨M2, a1, a2, a3⟩ := M_close_s st q xs [c] M1 d1 d2 d3 hG1 h1 hf1 hI (wf_one hc.2) hv2
    exact ⟨_, M2, a1, by rw [hq]; exact ⟨rfl, a2⟩, hF1.trans a3⟩
  have push : ∀ (q : Nat) (M1 : Mem) (d2 d3 : LV), Good M1 → REm M1 T q (xs ++ [c]) st → mI M1 1269 3 = -1 → Fj mrS M M1 → tg1 T c pa xs = (1, q, xs ++ [c]) → ∃ r M', M_hasMore_83 1269 (xs.length : Int) d2 d3 M1 = some (some (.inl r), M') ∧ HMm M' T st r (tg1 T c pa xs) ∧ Fj mrS M M' := by
    intro q M1 d2 d3 hG1 h1 hf1 hF1 hq
    obtain ⟨M2, a1, a2, a3, a4⟩ := M_push_s hG1 h1 hs (i := xs.length) d2 d3
    refine ⟨_, M2, a1, ?_, hF1.trans a4⟩
    rw [hq]
    exact ⟨rfl, by rw [hlen, Nat.add_sub_cancel]; exact a2, a3.trans hf1⟩
  rw [M_hasMore_eq, hG.gM, gd_t, gd_t, hG.m6, h.2.1.1, hlen, wr_id (x := ((xs.length + 1 : Nat) : Int) - 1) (by omega) (by omega), show ((xs.length + 1 : Nat) : Int) - 1 = (xs.length : Int) by omega, hG.tgS arr_1273 (by omega) (by omega), gd_t, toNat_n, hcell, M_sortOf_s hc.1, cI_s]
  have h50 : ∀ (d3 : LV), (kd c = 2 ∨ kd c = 1) → (kd c = 2 → pek T pa = 40) → ∃ r M', M_hasMore_50 1269 (xs.length : Int) (kd c) d3 M = some (some (.inl r), M') ∧ HMm M' T st r (tg1 T c pa xs) ∧ Fj mrS M M' := by
    intro d3 hk h40
    rw [M_hasMore_50_eq, hG.gM, gd_t, M_here_s hG h.1, cI_s]
    by_cases ho : pek T pa = 40
    · have hlt := pek_lt (T := T) (p := pa) (by omega)
      obtain ⟨b1, b2⟩ := h.at (q := pa + 1) (by omega)
      have hG1 := hG.fj b2
      have hf1 : mI (stI M 1269 2 ((pa + 1 : Nat) : Int)) 1269 3 = -1 := by rw [mI_ne (by omega)]; exact hf
      rw [if_pos ho, hG.gM, gd_t, gd_t, h.1.2.1, wr_s (by omega)]
      by_cases hk2 : kd c = 2
      · rw [if_pos hk2, gd_t, M_here_s hG1 b1.1, cI_s]
        by_cases h41 : pek T (pa + 1) = 41
        · have hlt2 := pek_lt (T := T) (p := pa + 1) (by omega)
          obtain ⟨c1, c2⟩ := b1.at (q := pa + 2) (by omega)
          rw [if_pos h41, hG1.gM, gd_t, gd_t, mI_at, wr_s (by omega)]
          exact close (pa + 2) _ _ _ _ (hG1.fj c2) c1 (by rw [mI_ne (by omega)]; exact hf1) (b2.trans c2) (by unfold tg1; rw [if_pos hk2, if_pos ho, if_pos h41])
        · rw [if_neg h41]
          exact push (pa + 1) _ _ _ hG1 b1 hf1 b2 (by unfold tg1; rw [if_pos hk2, if_pos ho, if_neg h41])
      · rw [if_neg hk2]
        exact push (pa + 1) _ _ _ hG1 b1 hf1 b2 (by unfold tg1; rw [if_neg hk2, if_pos ⟨by omega, ho⟩])
    · have hk2 : ¬ kd c = 2 := fun q => ho (h40 q)
      rw [if_neg ho]
      exact close pa M _ _ _ hG h hf Fj.refl (by unfold tg1; rw [if_neg hk2, if_neg (fun q => ho q.2)])
  by_cases hk2 : kd c = 2
  · rw [if_pos hk2, hG.gM, gd_t, M_here_s hG h.1, cI_s]
    by_cases ho : pek T pa = 40
    · rw [if_pos ho, if_pos hk2]
      exact h50 _ (Or.inl hk2) (fun _ => ho)
    · rw [if_neg ho, hG.gM, gd_t, gd_t, M_fails_s hG, cI_s, h.1.2.1]
      refine ⟨0, _, rfl, ?_, Fj.ofI (by unfold mrS; omega)⟩
      have e : tg1 T c pa xs = (0, pa, xs ++ [c]) := by unfold tg1; rw [if_pos hk2, if_neg ho]
      rw [e]
      exact mI_at
  · rw [if_neg hk2, if_neg hk2]
    by_cases hk1 : kd c = 1
    · rw [if_pos hk1]
      exact h50 _ (Or.inr hk1) (fun q => absurd q hk2)
    · rw [if_neg hk1]
      exact close pa M _ _ _ hG h hf Fj.refl (by unfold tg1; rw [if_neg hk2, if_neg (fun q => hk1 q.1)])
end MMORE
section MROUNDS
variable {T : List Int} {left : Option (List Int)} {cons : Bool}
/-- how the reference's reading ends -/
def EX3m (M' : Mem) (T : List Int) (q : Bool × Nat × List Int) : Prop := match q with
  | (true, p1, xs1) => RSm M' T p1 ∧ (mI M' 1269 7 = (xs1.length : Int) ∧ RM M' 1273 0 xs1 ∧ xs1.length ≤ 41) ∧ mI M' 1269 3 = -1
  | (false, p1, _) => mI M' 1269 3 = (p1 : Int)
theorem M_readExpression_loop : ∀ (n p : Nat) (xs : List Int) (st : List (Nat × Nat)) (M : Mem), Good M → LFm M left cons → REm M T p xs st → mI M 1269 3 = -1 → IV st xs → av xs → xs.length + n = 41 → 0 < n → ∃ M', M_readExpression_12 1269 1 M = some (some (.inl (if (rex T left cons n p xs st).1 = true then 1 else 0)), M') ∧ EX3m M' T (rex T left cons n p xs st) ∧ Fj mrS M M' := by
  intro n
  induction n with
  | zero => intro p xs st M hG hL h hf hI hv hn h0; omega
  | succ n ih =>
    intro p xs st M hG hL h hf hI hv hn h0
    have hp := h.1.2.2
    obtain ⟨M1, a1, ⟨a2, a3⟩, a4⟩ := M_readThing_s hG h hf hL (by omega)
    have hG1 := hG.fj a4
    rw [M_readExpression_12_eq, if_neg (by decide), hG.gM, gd_t, a1, cI_s, rex_s]
    by_cases hlim : xs.length < 40 ∧ st.length < 20
    · have a2 := a2 hlim
      rw [if_pos hlim]
      rcases tg0_ok (T := T) (left := left) (cons := cons) hp with ⟨t1, t2⟩ | ⟨c, pa, t1, t2, t3, t4⟩
      · rw [t1] at a2 ⊢
        have e1 : (if xs.length < 40 ∧ st.length < 20 ∧ (none : Option (Int × Nat)).isSome = true then (1 : Int) else 0) = 0 := if_neg (fun q => by cases q.2.2)
        rw [t2 xs, rx1_0, e1, if_pos rfl]
        exact ⟨M1, rfl, a2, a4⟩
      · rw [t1] at a2 ⊢
        obtain ⟨b1, b2⟩ : REm M1 T pa (xs ++ [c]) st ∧ mI M1 1269 3 = -1 := a2
        have hv2 : av (xs ++ [c]) := av_app hv (fun d hd => by rw [List.mem_singleton.mp hd]; exact t3.1)
        obtain ⟨r, M2, c1, c2, c3⟩ := M_hasMore_s hG1 b1 b2 t3 hI hv hlim.2
        have hG2 := hG1.fj c3
        have hF2 := a4.trans c3
        have hL2 : LFm M2 left cons := hL.fj hF2 (by unfold mrS; omega) (by unfold mrS; omega)
        have e1 : (if xs.length < 40 ∧ st.length < 20 ∧ (some (c, pa) : Option (Int × Nat)).isSome = true then (1 : Int) else 0) = 1 := if_pos ⟨hlim.1, hlim.2, rfl⟩
        rw [e1, if_neg (show ¬ (1 : Int) = 0 by decide), hG1.gM, gd_t, c1, cI_s, hG2.gM, gd_t, t4 xs]
        rcases thg_ok (T := T) (left := left) (cons := cons) (xs := xs) hp with u1 | ⟨w, p1, u2, ⟨u3, u4, u5⟩, u6⟩
        · obtain ⟨a, b, u1⟩ : ∃ a b, thg T left cons p xs = (0, a, b) := ⟨_, _, Prod.ext u1 rfl⟩
          rw [← t4 xs, u1] at c2 ⊢
          have c2 : mI M2 1269 3 = (a : Int) := c2
          rw [rx1_0, if_neg (by rw [c2]; omega)]
          exact ⟨M2, rfl, c2, hF2⟩
        · have hvw : av (xs ++ [w]) := av_app hv (fun d hd => by rw [List.mem_singleton.mp hd]; exact u3)
          rcases u6 with ⟨u6, u7⟩ | u6
          · rw [← t4 xs, u6] at c2 ⊢
            obtain ⟨c4, c5, c6⟩ : r = 1 ∧ REm M2 T p1 (xs ++ [w]) (((xs ++ [w]).length - 1, 0) :: st) ∧ mI M2 1269 3 = -1 := c2
            subst c4
            by_cases hn0 : n = 0
            · have : xs.length = 40 := by omega
              omega
            · obtain ⟨M3, d1, d2, d3⟩ := ih p1 (xs ++ [w]) (((xs ++ [w]).length - 1, 0) :: st) M2 hG2 hL2 c5 c6 (IV_push hI u4 u7) hvw (by rw [List.length_append, List.length_singleton]; omega) (by omega)
              rw [rx1_1, if_pos c6]
              exact ⟨M3, d1, d2, hF2.trans d3⟩
          · rw [← t4 xs, u6] at c2 ⊢
            obtain ⟨c4, c5⟩ : r = (if (cls T st p1 (xs ++ [w])).1 = 1 then 1 else 0) ∧ CLm M2 T (cls T st p1 (xs ++ [w])) := c2
            obtain ⟨s1, ⟨s2, s3, s4, s5⟩, s6⟩ := cls_inv T st p1 xs [w] hI (wf_one u4) hvw u2.2
            rw [rx1_2]
            generalize cls T st p1 (xs ++ [w]) = R at *
            obtain ⟨r1, r2, r3, r4⟩ := R
            rcases s1 with ⟨v1, v2, v3⟩ | ⟨v1, v2, v3⟩ | v1
            · have v1 : r1 = 1 := v1
              subst v1
              cases r4 with
              | nil => exact absurd rfl v3
              | cons q r4 =>
                obtain ⟨c6, c7⟩ : REm M2 T r2 r3 (q :: r4) ∧ mI M2 1269 3 = -1 := c5
                have c4 : r = 1 := c4
                subst c4
                have s3 : r3.length = (xs ++ [w]).length := s3
                rw [List.length_append, List.length_singleton] at s3
                by_cases hn0 : n = 0
                · omega
                · obtain ⟨M3, d1, d2, d3⟩ := ih r2 r3 (q :: r4) M2 hG2 hL2 c6 c7 v2 s2 (by omega) (by omega)
                  rw [rx2_1, if_pos c7]
                  exact ⟨M3, d1, d2, hF2.trans d3⟩
            · have v1 : r1 = 2 := v1
              have v3 : r4 = [] := v3
              subst v1
              subst v3
              obtain ⟨c6, c7⟩ : REm M2 T r2 r3 [] ∧ mI M2 1269 3 = -1 := c5
              have c4 : r = 0 := c4
              subst c4
              rw [rx2_2, if_pos c7, M_readExpression_12_eq, if_pos rfl]
              exact ⟨M2, rfl, ⟨c6.1, c6.2.1, c7⟩, hF2⟩
            · have v1 : r1 = 0 := v1
              subst v1
              have c5 : mI M2 1269 3 = (r2 : Int) := c5
              rw [rx2_0, if_neg (by rw [c5]; omega)]
              exact ⟨M2, rfl, c5, hF2⟩
    · have e1 : ∀ o : Option (Int × Nat), (if xs.length < 40 ∧ st.length < 20 ∧ o.isSome = true then (1 : Int) else 0) = 0 := fun o => if_neg (fun q => hlim ⟨q.1, q.2.1⟩)
      rw [if_neg hlim, e1, if_pos rfl]
      exact ⟨M1, rfl, a3 hlim, a4⟩
theorem M_readExpression_s {M : Mem} (hG : Good M) (hL : LFm M left cons) {p : Nat} (hR : RSm M T p) (hf : mI M 1269 3 = -1) : ∃ M', M_readExpression 1269 M = some (some (.inl (if (rex T left cons 41 p [] []).1 = true then 1 else 0)), M') ∧ EX3m M' T (rex T left cons 41 p [] []) ∧ Fj mrS M M' := by
  have hF : Fj (fun a k => a = 1269 ∧ (k = 7 ∨ k = 8)) M (stI (stI M 1269 7 0) 1269 8 0) := (Fj.ofI (by omega)).trans (Fj.ofI (by omega))
  have hRE : REm (stI (stI M 1269 7 0) 1269 8 0) T p [] [] := ⟨hR.fj hF (by omega) (by omega) (by omega), ⟨by rw [mI_ne (by omega), mI_at]; rfl, fun i hi => absurd hi (Nat.not_lt_zero i), Nat.zero_le _⟩, ⟨mI_at, Nat.zero_le _⟩, trivial⟩
  obtain ⟨M2, b1, b2, b3⟩ := M_readExpression_loop 41 p [] [] _ (hG.fj hF) (hL.fj hF (by omega) (by omega)) hRE ((hF.2.2 _ _ (by omega)).trans hf) rfl (fun c hc => by cases hc) rfl (by omega)
  refine ⟨M2, ?_, b2, (hF.mono fun a k q => by unfold mrS; omega).trans b3⟩
  rw [M_readExpression_eq, hG.gM, gd_t, gd_t]
  exact b1
end MROUNDS

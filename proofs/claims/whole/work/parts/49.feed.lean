/-! ===== feed, end, fault ===== -/
def byv (v s : Int) : Int := wb (wb (pshr v s)) % 256
section FEED
variable {M : Mem} {T : List Int}
theorem obj_x : obj 2 11 := obj_of _ _ (by decide)
theorem Good.gx (h : Good M) : gO M 2 11 = true := h.tgO obj_x
theorem TPc.add (h : TPc M T) (hl : T.length < 800) {v : Int} : TPc (stI (stI M 4 T.length v) 3 4 ((T.length + 1 : Nat) : Int)) (T ++ [v % 256]) ∧ Fj (fun a k => a = 4 ∨ (a = 3 ∧ k = 4)) M (stI (stI M 4 T.length v) 3 4 ((T.length + 1 : Nat) : Int)) := by
  refine ⟨⟨by rw [mI_at, List.length_append]; rfl, by rw [List.length_append, List.length_singleton]; omega, fun i hi => ?_⟩, (Fj.ofI (by omega)).trans (Fj.ofI (by omega))⟩
  rw [List.length_append, List.length_singleton] at hi
  rw [mI_ne (by omega)]
  by_cases q : i = T.length
  · subst q; rw [mI_at, nth_app2 (Nat.le_refl _), Nat.sub_self]; rfl
  · rw [mI_ne (by omega), nth_app1 (by omega)]; exact h.2.2 i (by omega)
theorem TPm.add (h : TPm M T) (hl : T.length < 800) {v : Int} : TPm (stI (stI M 1270 T.length v) 1269 1 ((T.length + 1 : Nat) : Int)) (T ++ [v % 256]) ∧ Fj (fun a k => a = 1270 ∨ (a = 1269 ∧ k = 1)) M (stI (stI M 1270 T.length v) 1269 1 ((T.length + 1 : Nat) : Int)) := by
  refine ⟨⟨by rw [mI_at, List.length_append]; rfl, by rw [List.length_append, List.length_singleton]; omega, fun i hi => ?_⟩, (Fj.ofI (by omega)).trans (Fj.ofI (by omega))⟩
  rw [List.length_append, List.length_singleton] at hi
  rw [mI_ne (by omega)]
  by_cases q : i = T.length
  · subst q; rw [mI_at, nth_app2 (Nat.le_refl _), Nat.sub_self]; rfl
  · rw [mI_ne (by omega), nth_app1 (by omega)]; exact h.2.2 i (by omega)
theorem Re_addWord_1 (hG : Good M) (h : TPc M T) (hl : T.length < 800) (v s : Int) (hs : 0 ≤ s ∧ s < 32) : ∃ M', Re_addWord_3 3 v s M = Re_addWord_3 3 v (s - 8) M' ∧ TPc M' (T ++ [byv v s]) ∧ Fj (fun a k => a = 4 ∨ (a = 3 ∧ k = 4)) M M' := by
  obtain ⟨h1, h2⟩ := h.add hl (v := wb (wb (pshr v s)))
  refine ⟨_, ?_, h1, h2⟩
  rw [Re_addWord_3_eq, if_neg (by omega), hG.gR, gd_t, h.1, if_pos (by omega), gd_t, gd_t, hG.r3_0, if_pos (hG.tgS arr_4 (by omega) (by omega)), gd_t, gd_t, toNat_n, mI_ne (by omega), h.1, wr_s (by omega), wr_id (x := s + -8) (by omega) (by omega)]
  rfl
theorem M_four_1 (hG : Good M) (h : TPm M T) (hl : T.length < 800) (v s : Int) (hs : 0 ≤ s ∧ s < 32) : ∃ M', M_four_3 1269 v s M = M_four_3 1269 v (s - 8) M' ∧ TPm M' (T ++ [byv v s]) ∧ Fj (fun a k => a = 1270 ∨ (a = 1269 ∧ k = 1)) M M' := by
  obtain ⟨h1, h2⟩ := h.add hl (v := wb (wb (pshr v s)))
  refine ⟨_, ?_, h1, h2⟩
  rw [M_four_3_eq, if_neg (by omega), hG.gM, gd_t, gd_t, hG.m0, h.1, if_pos (hG.tgS arr_1270 (by omega) (by omega)), gd_t, gd_t, toNat_n, mI_ne (by omega), h.1, wr_s (by omega), wr_id (x := s + -8) (by omega) (by omega)]
  rfl
def b4 (v : Int) : List Int := [byv v 24, byv v 16, byv v 8, byv v 0]
theorem Re_addWord_s (hG : Good M) (h : TPc M T) (hl : T.length + 4 ≤ 800) (v : Int) : ∃ M', Re_addWord 3 v M = some (none, M') ∧ TPc M' (T ++ b4 v) ∧ Fj (fun a k => a = 4 ∨ (a = 3 ∧ k = 4)) M M' := by
  obtain ⟨M1, a1, a2, a3⟩ := Re_addWord_1 hG h (by omega) v 24 (by decide)
  obtain ⟨M2, b1, b2, b3⟩ := Re_addWord_1 (hG.fj a3) a2 (by simp; omega) v 16 (by decide)
  obtain ⟨M3, c1, c2, c3⟩ := Re_addWord_1 ((hG.fj a3).fj b3) b2 (by simp; omega) v 8 (by decide)
  obtain ⟨M4, d1, d2, d3⟩ := Re_addWord_1 (((hG.fj a3).fj b3).fj c3) c2 (by simp; omega) v 0 (by decide)
  refine ⟨M4, ?_, ?_, ((a3.trans b3).trans c3).trans d3⟩
  · have a1 : Re_addWord_3 3 v 24 M = Re_addWord_3 3 v 16 M1 := a1
    have b1 : Re_addWord_3 3 v 16 M1 = Re_addWord_3 3 v 8 M2 := b1
    have c1 : Re_addWord_3 3 v 8 M2 = Re_addWord_3 3 v 0 M3 := c1
    have d1 : Re_addWord_3 3 v 0 M3 = Re_addWord_3 3 v (-8) M4 := d1
    rw [Re_addWord_eq, a1, b1, c1, d1, Re_addWord_3_eq, if_pos (by decide)]
  · have e : T ++ b4 v = (((T ++ [byv v 24]) ++ [byv v 16]) ++ [byv v 8]) ++ [byv v 0] := by unfold b4; simp
    rw [e]
    exact d2
theorem M_four_s (hG : Good M) (h : TPm M T) (hl : T.length + 4 ≤ 800) (v : Int) : ∃ M', M_four 1269 v M = some (none, M') ∧ TPm M' (T ++ b4 v) ∧ Fj (fun a k => a = 1270 ∨ (a = 1269 ∧ k = 1)) M M' := by
  obtain ⟨M1, a1, a2, a3⟩ := M_four_1 hG h (by omega) v 24 (by decide)
  obtain ⟨M2, b1, b2, b3⟩ := M_four_1 (hG.fj a3) a2 (by simp; omega) v 16 (by decide)
  obtain ⟨M3, c1, c2, c3⟩ := M_four_1 ((hG.fj a3).fj b3) b2 (by simp; omega) v 8 (by decide)
  obtain ⟨M4, d1, d2, d3⟩ := M_four_1 (((hG.fj a3).fj b3).fj c3) c2 (by simp; omega) v 0 (by decide)
  refine ⟨M4, ?_, ?_, ((a3.trans b3).trans c3).trans d3⟩
  · have a1 : M_four_3 1269 v 24 M = M_four_3 1269 v 16 M1 := a1
    have b1 : M_four_3 1269 v 16 M1 = M_four_3 1269 v 8 M2 := b1
    have c1 : M_four_3 1269 v 8 M2 = M_four_3 1269 v 0 M3 := c1
    have d1 : M_four_3 1269 v 0 M3 = M_four_3 1269 v (-8) M4 := d1
    rw [M_four_eq, a1, b1, c1, d1, M_four_3_eq, if_pos (by decide)]
  · have e : T ++ b4 v = (((T ++ [byv v 24]) ++ [byv v 16]) ++ [byv v 8]) ++ [byv v 0] := by unfold b4; simp
    rw [e]
    exact d2
theorem b4_len (v : Int) : (b4 v).length = 4 := rfl
def fed (T : List Int) (a b c d e : Int) : List Int := if 780 < T.length then T else ((((T ++ b4 a) ++ b4 b) ++ b4 c) ++ b4 d) ++ b4 e
def fedR (T : List Int) : Int := if 780 < T.length then -1 else (T.length : Int) + 20
theorem D_feed_s (hG : Good M) (h : TPc M T) (a b c d e : Int) : ∃ M', D_feed 2 a b c d e M = some (some (.inl (fedR T)), M') ∧ TPc M' (fed T a b c d e) ∧ Fj (fun a k => a = 4 ∨ (a = 3 ∧ k = 4)) M M' := by
  have hT := h.2.1
  unfold fed fedR
  rw [D_feed_eq, hG.gx, gd_t, hG.r2_0, hG.gR, gd_t, h.1, wr_id (x := (T.length : Int) + 20) (by omega) (by omega)]
  by_cases q : 780 < T.length
  · rw [if_pos (by omega), if_pos q, if_pos q]
    exact ⟨M, rfl, h, Fj.refl⟩
  · obtain ⟨M1, a1, a2, a3⟩ := Re_addWord_s hG h (by omega) a
    have g1 := hG.fj a3
    obtain ⟨M2, b1, b2, b3⟩ := Re_addWord_s g1 a2 (by rw [List.length_append, b4_len]; omega) b
    have g2 := g1.fj b3
    obtain ⟨M3, c1, c2, c3⟩ := Re_addWord_s g2 b2 (by rw [List.length_append, List.length_append, b4_len, b4_len]; omega) c
    have g3 := g2.fj c3
    obtain ⟨M4, d1, d2, d3⟩ := Re_addWord_s g3 c2 (by rw [List.length_append, List.length_append, List.length_append, b4_len, b4_len, b4_len]; omega) d
    have g4 := g3.fj d3
    obtain ⟨M5, e1, e2, e3⟩ := Re_addWord_s g4 d2 (by rw [List.length_append, List.length_append, List.length_append, List.length_append, b4_len, b4_len, b4_len, b4_len]; omega) e
    have g5 := g4.fj e3
    rw [if_neg (by omega), if_neg q, if_neg q, gd_t, gd_t, a1, cV_s, g1.gx, gd_t, g1.r2_0, g1.gR, gd_t, b1, cV_s, g2.gx, gd_t, g2.r2_0, g2.gR, gd_t, c1, cV_s, g3.gx, gd_t, g3.r2_0, g3.gR, gd_t, d1, cV_s, g4.gx, gd_t, g4.r2_0, g4.gR, gd_t, e1, cV_s, g5.gx, gd_t, g5.r2_0, g5.gR, gd_t, e2.1]
    refine ⟨M5, ?_, e2, (((a3.trans b3).trans c3).trans d3).trans e3⟩
    rw [List.length_append, List.length_append, List.length_append, List.length_append, List.length_append, b4_len, b4_len, b4_len, b4_len, b4_len]
    rw [show ((T.length + 4 + 4 + 4 + 4 + 4 : Nat) : Int) = (T.length : Int) + 20 by omega]
theorem M_feed_s (hG : Good M) (h : TPm M T) (a b c d e : Int) : ∃ M', M_feed 1269 a b c d e M = some (some (.inl (fedR T)), M') ∧ TPm M' (fed T a b c d e) ∧ Fj (fun a k => a = 1270 ∨ (a = 1269 ∧ k = 1)) M M' := by
  have hT := h.2.1
  unfold fed fedR
  rw [M_feed_eq, hG.gM, gd_t, h.1, wr_id (x := (T.length : Int) + 20) (by omega) (by omega)]
  by_cases q : 780 < T.length
  · rw [if_pos (by omega), if_pos q, if_pos q]
    exact ⟨M, rfl, h, Fj.refl⟩
  · obtain ⟨M1, a1, a2, a3⟩ := M_four_s hG h (by omega) a
    have g1 := hG.fj a3
    obtain ⟨M2, b1, b2, b3⟩ := M_four_s g1 a2 (by rw [List.length_append, b4_len]; omega) b
    have g2 := g1.fj b3
    obtain ⟨M3, c1, c2, c3⟩ := M_four_s g2 b2 (by rw [List.length_append, List.length_append, b4_len, b4_len]; omega) c
    have g3 := g2.fj c3
    obtain ⟨M4, d1, d2, d3⟩ := M_four_s g3 c2 (by rw [List.length_append, List.length_append, List.length_append, b4_len, b4_len, b4_len]; omega) d
    have g4 := g3.fj d3
    obtain ⟨M5, e1, e2, e3⟩ := M_four_s g4 d2 (by rw [List.length_append, List.length_append, List.length_append, List.length_append, b4_len, b4_len, b4_len, b4_len]; omega) e
    have g5 := g4.fj e3
    rw [if_neg (by omega), if_neg q, if_neg q, gd_t, a1, cV_s, g1.gM, gd_t, b1, cV_s, g2.gM, gd_t, c1, cV_s, g3.gM, gd_t, d1, cV_s, g4.gM, gd_t, e1, cV_s, g5.gM, gd_t, e2.1]
    refine ⟨M5, ?_, e2, (((a3.trans b3).trans c3).trans d3).trans e3⟩
    rw [List.length_append, List.length_append, List.length_append, List.length_append, List.length_append, b4_len, b4_len, b4_len, b4_len, b4_len]
    rw [show ((T.length + 4 + 4 + 4 + 4 + 4 : Nat) : Int) = (T.length : Int) + 20 by omega]
def cutR (T : List Int) (n : Int) : Int := if 0 ≤ n ∧ n ≤ (T.length : Int) then n else -1
def cutT (T : List Int) (n : Int) : List Int := if 0 ≤ n ∧ n ≤ (T.length : Int) then T.take n.toNat else T
theorem TPc.cut (h : TPc M T) {n : Nat} (hn : n ≤ T.length) : TPc (stI M 3 4 (n : Int)) (T.take n) := by
  have hT := h.2.1
  refine ⟨by rw [mI_at, List.length_take, Nat.min_eq_left hn], by rw [List.length_take]; omega, fun i hi => ?_⟩
  rw [List.length_take] at hi
  rw [mI_ne (by omega), nth_take (by omega)]
  exact h.2.2 i (by omega)
theorem TPm.cut (h : TPm M T) {n : Nat} (hn : n ≤ T.length) : TPm (stI M 1269 1 (n : Int)) (T.take n) := by
  have hT := h.2.1
  refine ⟨by rw [mI_at, List.length_take, Nat.min_eq_left hn], by rw [List.length_take]; omega, fun i hi => ?_⟩
  rw [List.length_take] at hi
  rw [mI_ne (by omega), nth_take (by omega)]
  exact h.2.2 i (by omega)
theorem D_end_s (hG : Good M) (h : TPc M T) (n : Int) : ∃ M', D_end 2 n M = some (some (.inl (cutR T n)), M') ∧ TPc M' (cutT T n) ∧ Fj (fun a k => a = 3 ∧ k = 4) M M' := by
  unfold cutR cutT
  rw [D_end_eq, hG.gx, gd_t, hG.r2_0, hG.gR, gd_t, Re_cut_eq]
  by_cases q1 : n < 0
  · rw [if_pos q1, cI_s, if_pos rfl, if_neg (by omega), if_neg (by omega)]
    exact ⟨M, rfl, h, Fj.refl⟩
  · rw [if_neg q1, hG.gR, gd_t, h.1]
    by_cases q2 : (T.length : Int) < n
    · rw [if_pos q2, cI_s, if_pos rfl, if_neg (by omega), if_neg (by omega)]
      exact ⟨M, rfl, h, Fj.refl⟩
    · rw [if_neg q2, gd_t, cI_s, if_neg (by decide), if_pos (by omega), if_pos (by omega)]
      obtain ⟨m, rfl⟩ := Int.eq_ofNat_of_zero_le (show 0 ≤ n by omega)
      exact ⟨_, rfl, h.cut (by omega), Fj.ofI ⟨rfl, rfl⟩⟩
theorem M_end_s (hG : Good M) (h : TPm M T) (n : Int) : ∃ M', M_end 1269 n M = some (some (.inl (cutR T n)), M') ∧ TPm M' (cutT T n) ∧ Fj (fun a k => a = 1269 ∧ k = 1) M M' := by
  unfold cutR cutT
  rw [M_end_eq, hG.gM, gd_t, h.1, M_isIn_s, cI_s]
  by_cases q : 0 ≤ n ∧ n ≤ (T.length : Int)
  · rw [if_pos q, if_neg (by decide), if_pos q, if_pos q, hG.gM, gd_t]
    obtain ⟨m, rfl⟩ := Int.eq_ofNat_of_zero_le q.1
    exact ⟨_, rfl, h.cut (by omega), Fj.ofI ⟨rfl, rfl⟩⟩
  · rw [if_neg q, if_pos rfl, if_neg q, if_neg q]
    exact ⟨M, rfl, h, Fj.refl⟩
theorem D_emptyTape_s (hG : Good M) (h : TPc M T) {r : Int} (hr : r = 0 ∨ r = 1) : ∃ M', D_emptyTape 2 r M = some (some (.inl r), M') ∧ TPc M' [] ∧ mI M' 2 16 = (if r = 0 then mI M 3 7 else -1) ∧ Fj (fun a k => (a = 2 ∧ k = 16) ∨ (a = 3 ∧ k = 4)) M M' := by
  have main : ∀ v : Int, ∃ M', Re_cut 3 0 (stI M 2 16 v) = some (some (.inl 1), M') ∧ TPc M' [] ∧ mI M' 2 16 = v ∧ Fj (fun a k => (a = 2 ∧ k = 16) ∨ (a = 3 ∧ k = 4)) M M' := by
    intro v
    have f1 : Fj (fun a k => a = 2 ∧ k = 16) M (stI M 2 16 v) := Fj.ofI ⟨rfl, rfl⟩
    have h1 : TPc (stI M 2 16 v) T := h.fj f1 (by omega) (by omega)
    refine ⟨stI (stI M 2 16 v) 3 4 0, ?_, h1.cut (n := 0) (Nat.zero_le _), by rw [mI_ne (by omega), mI_at], (f1.mono fun a k q => by omega).trans (Fj.ofI (by omega))⟩
    rw [Re_cut_eq, if_neg (by decide), (hG.fj f1).gR, gd_t, h1.1, if_neg (by omega), gd_t]
  rw [D_emptyTape_eq]
  by_cases q : r = 0
  · obtain ⟨M', a1, a2, a3, a4⟩ := main (mI M 3 7)
    rw [if_pos q, if_pos q, hG.gx, gd_t, hG.r2_0, hG.gR, gd_t, gd_t, gd_t, gd_t, a1, cI_s, decide_eq_true hr, gd_t]
    exact ⟨M', rfl, a2, a3, a4⟩
  · obtain ⟨M', a1, a2, a3, a4⟩ := main (-1)
    rw [if_neg q, if_neg q, hG.gx, gd_t, gd_t, hG.r2_0, hG.gR, gd_t, a1, cI_s, decide_eq_true hr, gd_t]
    exact ⟨M', rfl, a2, a3, a4⟩
end FEED

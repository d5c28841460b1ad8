/-! ===== the reference: a node more below another ===== -/
def mbF (k mk : Nat) : Nat → Nat → Prop := fun a j => mkF mk a j ∨ ((a = 1313 ∨ a = 1314) ∧ j = k)
/-- what adding one comes to -/
def ad1 (n mk : Nat) : Int := if 40 < n then -3 else if 120 ≤ mk then -2 else 0
section RBELOW
variable {M : Mem} {a n o k : Nat} {T : TS} {x : Kd3}
theorem RNd.fjo {M1 : Mem} {S : Nat → Nat → Prop} {y : Nat} (h : RNd M T y) (f : Fj S M M1) (h0 : ∀ a j, (a = 1309 ∧ 40 * y ≤ j ∧ j < 40 * y + (T.1 y).length) ∨ (1310 ≤ a ∧ a ≤ 1316 ∧ j = y) → ¬ S a j) : RNd M1 T y := by
  obtain ⟨⟨h1, h2⟩, ⟨h3, h4⟩, ⟨h5, h6⟩, h7, h8⟩ := h
  have o : ∀ a, 1310 ≤ a → a ≤ 1316 → mI M1 a y = mI M a y := fun a q1 q2 => f.2.2 _ _ (h0 a y (Or.inr ⟨q1, q2, rfl⟩))
  refine ⟨⟨fun i hi => (f.2.2 _ _ (h0 _ _ (Or.inl ⟨rfl, by omega, by omega⟩))).trans (h1 i hi), (o 1310 (by decide) (by decide)).trans h2⟩, ⟨(o 1311 (by decide) (by decide)).trans h3, (o 1312 (by decide) (by decide)).trans h4⟩, ⟨(o 1313 (by decide) (by decide)).trans h5, fun q => (o 1314 (by decide) (by decide)).trans (h6 q)⟩, (o 1315 (by decide) (by decide)).trans h7, (o 1316 (by decide) (by decide)).trans h8⟩
theorem M_makeBelow_s (hG : Good M) (hT : TOK T k) (hR : RT M T) (hX : RX M a n o x.1) (hx : wf 1 x.1) (ha : (a ≠ 1309 ∨ o + x.1.length ≤ 40 * T.2.2) ∧ ¬ (1310 ≤ a ∧ a ≤ 1317) ∧ a ≠ 1269) (h76 : mI M 1269 76 = 0) : ∃ M', M_makeBelow 1269 (k : Int) a (o : Int) (x.1.length : Int) M = some (some (.inl (if ad1 x.1.length T.2.2 = 0 then 1 else 0)), M') ∧ (ad1 x.1.length T.2.2 ≠ 0 → mI M' 1269 76 = ad1 x.1.length T.2.2) ∧ (ad1 x.1.length T.2.2 = 0 → RT M' (adT k T x) ∧ mI M' 1269 76 = 0) ∧ Good M' ∧ Fj (mbF k T.2.2) M M' := by
  obtain ⟨hk1, hk2, hk3⟩ := hT.k
  obtain ⟨h72, hnd⟩ := hR
  have hT1 := hT.1
  have hmk := hT1.1.2.2
  obtain ⟨-, ⟨r3, r4⟩, ⟨r5, r6⟩, -⟩ := hnd k hk1
  have h0 := (hT1.2.1 k hk1).1
  have hkc : T.2.1 k 8 ≤ 120 := by
    by_cases q : 0 < nkc T.2.1 k
    · have := hT1.1.2.1 _ (hT1.kid hk1 (j := nkc T.2.1 k - 1) (by omega))
      unfold nkc at this q
      omega
    · unfold nkc at q; omega
  -- the first one below
  have first : ∃ M1, M_makeBelow 1269 (k : Int) a (o : Int) (x.1.length : Int) M = M_makeBelow_19 1269 (k : Int) a (o : Int) (x.1.length : Int) M1 ∧ (mI M1 1314 k = (if T.2.1 k 8 = 0 then (T.2.2 : Int) else T.2.1 k 16)) ∧ Good M1 ∧ Fj (fun a j => a = 1314 ∧ j = k) M M1 := by
    have head : M_makeBelow 1269 (k : Int) a (o : Int) (x.1.length : Int) M = if T.2.1 k 8 = 0 then M_makeBelow_19 1269 (k : Int) a (o : Int) (x.1.length : Int) (stI M 1314 k (T.2.2 : Int)) else M_makeBelow_19 1269 (k : Int) a (o : Int) (x.1.length : Int) M := by
      rw [M_makeBelow_eq, hG.gM, gd_t, gd_t, gd_t, hG.m67, hG.m68, hG.tgS (arr_nd (by decide)) (by omega) (by omega), gd_t, toNat_n, r5, hG.tgS (arr_nd (by decide)) (by omega) (by omega), gd_t, h72]
    rw [head]
    by_cases q : T.2.1 k 8 = 0
    · rw [if_pos q, if_pos q]
      exact ⟨_, rfl, mI_at, hG.fj (Fj.ofI (S := fun _ _ => True) trivial), Fj.ofI ⟨rfl, rfl⟩⟩
    · rw [if_neg q, if_neg q]
      exact ⟨M, rfl, r6 q, hG, Fj.refl⟩
  obtain ⟨M1, e1, e2, e3, e4⟩ := first
  have s5 : mI M1 1313 k = T.2.1 k 8 := (e4.2.2 _ _ (by omega)).trans r5
  have f5 : Fj (fun a j => (a = 1313 ∨ a = 1314) ∧ j = k) M (stI M1 1313 k (T.2.1 k 8 + 1)) := (e4.mono fun a j q => ⟨Or.inr q.1, q.2⟩).trans (Fj.ofI ⟨Or.inl rfl, rfl⟩)
  have hG5 := hG.fj f5
  have hX5 : RX (stI M1 1313 k (T.2.1 k 8 + 1)) a n o x.1 := hX.fj f5 fun j => by omega
  have h725 : mI (stI M1 1313 k (T.2.1 k 8 + 1)) 1269 72 = (T.2.2 : Int) := (f5.2.2 _ _ (by omega)).trans h72
  have h765 : mI (stI M1 1313 k (T.2.1 k 8 + 1)) 1269 76 = 0 := (f5.2.2 _ _ (by omega)).trans h76
  have head : M_makeBelow 1269 (k : Int) a (o : Int) (x.1.length : Int) M = cI (M_make 1269 a (o : Int) (x.1.length : Int) (k : Int) (T.2.1 k 8) (stI M1 1313 k (T.2.1 k 8 + 1))) fun r2 M1 => gd (decide (r2 = 0 ∨ r2 = 1)) (some (some (.inl r2), M1)) := by
    rw [e1, M_makeBelow_19_eq, e3.gM, gd_t, e3.m67, e3.tgS (arr_nd (by decide)) (by omega) (by omega), gd_t, gd_t, toNat_n, s5, wr_id (x := T.2.1 k 8 + 1) (by omega) (by omega), mI_at, wr_id (x := T.2.1 k 8 + 1 - 1) (by omega) (by omega), show T.2.1 k 8 + 1 - 1 = T.2.1 k 8 by omega]
    simp only [gd_t]
  obtain ⟨c1, c2, c3⟩ := M_make_s hG5 hX5 ha h725 hmk h765 (k : Int) (T.2.1 k 8)
  have F5 : Fj (mbF k T.2.2) M (stI M1 1313 k (T.2.1 k 8 + 1)) := f5.mono fun a j q => Or.inr q
  rw [head]
  unfold ad1
  by_cases q1 : 40 < x.1.length
  · rw [if_pos q1, c1 q1, cI_s, if_neg (by decide)]
    exact ⟨_, rfl, fun _ => mI_at, fun h => absurd h (by decide), hG5.fj (Fj.ofI (S := fun _ _ => True) trivial), F5.trans (Fj.ofI (Or.inl (Or.inr (Or.inr ⟨rfl, Or.inr rfl⟩))))⟩
  rw [if_neg q1]
  by_cases q2 : 120 ≤ T.2.2
  · rw [if_pos q2, c2 q1 (by omega), cI_s, if_neg (by decide)]
    exact ⟨_, rfl, fun _ => mI_at, fun h => absurd h (by decide), hG5.fj (Fj.ofI (S := fun _ _ => True) trivial), F5.trans (Fj.ofI (Or.inl (Or.inr (Or.inr ⟨rfl, Or.inr rfl⟩))))⟩
  rw [if_neg q2, if_pos rfl]
  obtain ⟨M', d1, ⟨⟨d2, d3⟩, ⟨d4, d5⟩, d6, d7, d8⟩, d9, d10, d11, d12⟩ := c3 q1 (by omega)
  rw [d1, cI_s]
  refine ⟨M', rfl, fun h => absurd rfl h, fun _ => ⟨⟨d9, fun y hy => ?_⟩, d10⟩, d11, F5.trans (d12.mono fun a j q => Or.inl q)⟩
  obtain ⟨-, ⟨A, B, l1, l2⟩, -⟩ := hT1.add hT.2.1 (by omega) x.2.1 x.2.2
  have hy : y ∈ lnF (adF T.2.1 k T.2.2 x.2.1 x.2.2) := hy
  have hk120 : k ≠ T.2.2 := by omega
  by_cases g : y = T.2.2
  · subst g
    refine ⟨⟨?_, ?_⟩, ⟨?_, ?_⟩, ⟨?_, fun h => ?_⟩, ?_, ?_⟩
    · show RM M' 1309 _ (upX T.1 T.2.2 x.1 T.2.2)
      rw [upX_at]; exact d2
    · show mI M' 1310 _ = ((upX T.1 T.2.2 x.1 T.2.2).length : Int)
      rw [upX_at]; exact d3
    · show _ = adF T.2.1 k T.2.2 x.2.1 x.2.2 T.2.2 15
      rw [adF_new]; exact d4
    · show _ = adF T.2.1 k T.2.2 x.2.1 x.2.2 T.2.2 5
      rw [adF_new]; exact d5
    · show _ = adF T.2.1 k T.2.2 x.2.1 x.2.2 T.2.2 8
      rw [adF_new]; exact d6
    · exact absurd (show adF T.2.1 k T.2.2 x.2.1 x.2.2 T.2.2 8 = 0 by rw [adF_new]; rfl) h
    · show _ = adF T.2.1 k T.2.2 x.2.1 x.2.2 T.2.2 4
      rw [adF_new]; exact d7
    · show _ = adF T.2.1 k T.2.2 x.2.1 x.2.2 T.2.2 14
      rw [adF_new]; exact d8
  · have hyo : y ∈ lnF T.2.1 := by
      rw [l2] at hy
      rw [l1]
      simp only [List.mem_append, List.mem_cons] at hy ⊢
      rcases hy with r | r | r | r | r
      · exact Or.inl r
      · exact Or.inr (Or.inl r)
      · exact Or.inr (Or.inr (Or.inl r))
      · exact absurd r g
      · exact Or.inr (Or.inr (Or.inr r))
    have hym := hT1.1.2.1 y hyo
    have hy40 := (hT.2.2 y hyo).2.2
    obtain ⟨⟨w1, w2⟩, ⟨w3, w4⟩, ⟨w5, w6⟩, w7, w8⟩ := hnd y hyo
    have ox : ∀ a j, ¬ mkF T.2.2 a j → ¬ ((a = 1313 ∨ a = 1314) ∧ j = k) → mI M' a j = mI M a j := fun a j h1 h2 => (d12.2.2 a j h1).trans (f5.2.2 a j h2)
    have eX : (adT k T x).1 y = T.1 y := upX_ne g
    have eF : ∀ f, ¬ (y = k ∧ (f = 8 ∨ f = 16)) → (adT k T x).2.1 y f = T.2.1 y f := fun f h => adF_old g h
    refine ⟨⟨fun i hi => ?_, ?_⟩, ⟨?_, ?_⟩, ⟨?_, fun h => ?_⟩, ?_, ?_⟩
    · rw [eX] at hi ⊢
      rw [ox _ _ (by unfold mkF; omega) (by omega)]
      exact w1 i hi
    · rw [eX, ox _ _ (by unfold mkF; omega) (by omega)]; exact w2
    · rw [eF 15 (by omega), ox _ _ (by unfold mkF; omega) (by omega)]; exact w3
    · rw [eF 5 (by omega), ox _ _ (by unfold mkF; omega) (by omega)]; exact w4
    · by_cases e : y = k
      · subst e
        show _ = adF T.2.1 y T.2.2 x.2.1 x.2.2 y 8
        rw [adF_k8 hk120, d12.2.2 _ _ (by unfold mkF; omega)]
        exact mI_at
      · rw [eF 8 (by omega), ox _ _ (by unfold mkF; omega) (by omega)]; exact w5
    · by_cases e : y = k
      · subst e
        show _ = adF T.2.1 y T.2.2 x.2.1 x.2.2 y 16
        rw [adF_k16 hk120, d12.2.2 _ _ (by unfold mkF; omega), mI_ne (by omega)]
        exact e2
      · rw [eF 8 (by omega)] at h
        rw [eF 16 (by omega), ox _ _ (by unfold mkF; omega) (by omega)]; exact w6 h
    · rw [eF 4 (by omega), ox _ _ (by unfold mkF; omega) (by omega)]; exact w7
    · rw [eF 14 (by omega), ox _ _ (by unfold mkF; omega) (by omega)]; exact w8
end RBELOW

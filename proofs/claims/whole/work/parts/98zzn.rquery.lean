/-! ===== the reference: tree, node ===== -/
section RQUERY
variable {M : Mem} {T : TS}
theorem F2_ln {F : FT} {mk : Nat} (hT : TI F mk) : lnF (F2of F) = lnF F := (hT.upd fun x f hf => F2_eq F x f (by omega) (by omega)).2
theorem RZm.os {M1 : Mem} (h : RZm M T) (f : Fj oS M M1) : RZm M1 T := h.fjo f fun a j q => by unfold rzS at q; unfold oS; omega
theorem rnode_at (hG : Good M) (hT : TI T.2.1 T.2.2) (hZ : RZm M T) {A B : List Nat} {x : Nat} (hL : lnF T.2.1 = A ++ x :: B) : (A.length < (lnF T.2.1).length ∧ (lnF T.2.1).length ≤ 120 ∧ x < 120) ∧ mI M 1269 84 = ((lnF T.2.1).length : Int) ∧ gS M 1320 0 (A.length : Int) = true ∧ mI M 1320 A.length = (x : Int) := by
  have hlen := hT.len
  have hm := hT.1.2.2
  have hll : (lnF T.2.1).length = A.length + (B.length + 1) := by rw [hL]; simp
  have hxm := hT.1.2.1 x (by rw [hL]; simp)
  exact ⟨⟨by omega, by omega, by omega⟩, hZ.2.1.1, hG.tgS (arr_nb (by decide)) (by omega) (by omega), (hZ.2.2.1 A.length x (by rw [hL]; simp)).1⟩
theorem rline_end (hZ : RZm M T) {A : List Nat} (hL : lnF T.2.1 = A ++ []) : mI M 1269 84 = (A.length : Int) := by
  have := hZ.2.1.1
  rw [hL, List.append_nil] at this
  exact this
theorem M_count_loop (hG : Good M) (hT : TI T.2.1 T.2.2) (hZ : RZm M T) {its : Int} : ∀ (B A : List Nat) (c : Nat), lnF T.2.1 = A ++ B → c ≤ A.length → M_countKind_4 1269 its (c : Int) (A.length : Int) M = some (some (.inl (ctk (F2of T.2.1) its B c : Int)), M) := by
  intro B
  induction B with
  | nil =>
    intro A c hL hc
    rw [M_countKind_4_eq, hG.gM, gd_t, rline_end hZ hL, if_neg (by omega)]
    rfl
  | cons x B ih =>
    intro A c hL hc
    obtain ⟨⟨n1, n2, n3⟩, n4, n5, n6⟩ := rnode_at hG hT hZ hL
    have i4 : mI M 1315 x = T.2.1 x 4 := (hZ.1.1.2 x (by rw [hL]; simp)).2.2.2.1
    have hl1 : (A ++ [x]).length = A.length + 1 := by simp
    have h2 : lnF T.2.1 = (A ++ [x]) ++ B := by rw [hL]; simp
    rw [M_countKind_4_eq, hG.gM, gd_t, n4, if_pos (by omega), gd_t, gd_t, hG.m80, n5, gd_t, toNat_n, n6, hG.m69, hG.tgS (arr_nd (by decide)) (by omega) (by omega), gd_t, toNat_n, i4]
    unfold ctk
    rw [F2_eq _ x 4 (by decide) (by decide)]
    by_cases q : T.2.1 x 4 = its
    · have := ih (A ++ [x]) (c + 1) h2 (by omega)
      rw [hl1] at this
      rw [if_pos q, if_pos q, wr_s (by omega), wr_s (by omega), this]
    · have := ih (A ++ [x]) c h2 (by omega)
      rw [hl1] at this
      rw [if_neg q, if_neg q, wr_id (x := (c : Int) + 0) (by omega) (by omega), show (c : Int) + 0 = (c : Int) by omega, wr_s (by omega), this]
theorem M_greatest_loop (hG : Good M) (hT : TI T.2.1 T.2.2) (hZ : RZm M T) {w : Int} (hw : w = 0 ∨ w = 1) : ∀ (B A : List Nat) (m : Int) (d4 : LV), lnF T.2.1 = A ++ B → M_greatest_4 1269 w m (A.length : Int) d4 M = some (some (.inl (grt T.1 (F2of T.2.1) w B m)), M) := by
  intro B
  induction B with
  | nil =>
    intro A m d4 hL
    rw [M_greatest_4_eq, hG.gM, gd_t, rline_end hZ hL, if_neg (by omega)]
    rfl
  | cons x B ih =>
    intro A m d4 hL
    obtain ⟨⟨n1, n2, n3⟩, n4, n5, n6⟩ := rnode_at hG hT hZ hL
    have hxL : x ∈ lnF T.2.1 := by rw [hL]; simp
    have hl1 : (A ++ [x]).length = A.length + 1 := by simp
    have h2 : lnF T.2.1 = (A ++ [x]) ++ B := by rw [hL]; simp
    have r2 := (hZ.1.1.2 x hxL).1.2
    have r6 := hZ.2.2.2.1 x hxL
    have em : mea T.1 (F2of T.2.1) w x = if w = 0 then ((T.1 x).length : Int) else T.2.1 x 6 := by
      unfold mea
      rw [F2_eq _ x 6 (by decide) (by decide)]
      rcases hw with e | e
      · rw [if_pos e, if_pos e]
      · rw [if_neg (show ¬ w = 0 by omega), if_pos e, if_neg (show ¬ w = 0 by omega)]
    have s : M_greatest_4 1269 w m (A.length : Int) d4 M = M_greatest_41 1269 w m (A.length : Int) (mea T.1 (F2of T.2.1) w x) d4 M := by
      rw [em, M_greatest_4_eq, hG.gM, gd_t, n4, if_pos (by omega)]
      by_cases q : w = 0
      · rw [if_pos q, if_pos q, gd_t, gd_t, hG.m80, n5, gd_t, toNat_n, n6, hG.m64, hG.tgS (arr_nd (by decide)) (by omega) (by omega), gd_t, toNat_n, r2]
      · rw [if_neg q, if_neg q, gd_t, gd_t, hG.m80, n5, gd_t, toNat_n, n6, hG.m82, hG.tgS (arr_nb (by decide)) (by omega) (by omega), gd_t, toNat_n, r6]
    have e : grt T.1 (F2of T.2.1) w (x :: B) m = grt T.1 (F2of T.2.1) w B (if m < mea T.1 (F2of T.2.1) w x then mea T.1 (F2of T.2.1) w x else m) := rfl
    have up := ih (A ++ [x]) (mea T.1 (F2of T.2.1) w x) (some (.inl (mea T.1 (F2of T.2.1) w x))) h2
    have st := ih (A ++ [x]) m (some (.inl (mea T.1 (F2of T.2.1) w x))) h2
    rw [hl1] at up st
    rw [s, e, M_greatest_41_eq, wr_s (by omega), up, st]
    by_cases q : m < mea T.1 (F2of T.2.1) w x
    · rw [if_pos q, if_pos q]
    · rw [if_neg q, if_neg q]
theorem M_tree_0 (hG : Good M) (h77 : mI M 1269 77 = 0) (w : Int) : M_tree 1269 w M = some (some (.inl (-1)), M) := by
  rw [M_tree_eq, hG.gM, gd_t, if_pos h77]
theorem M_tree_1 {lk tu : Nat} {ns : List Clz} {ng : List Int} (hG : Good M) (hT : TI T.2.1 T.2.2) (hZ : RZm M T) (h77 : mI M 1269 77 = 1) (h73 : mI M 1269 73 = (lk : Int)) (h74 : mI M 1269 74 = (tu : Int)) (hQ : MQn M ns) (hg : MG M ng) (w : Int) : M_tree 1269 w M = some (some (.inl (trA T.1 (F2of T.2.1) lk tu (nmR T.1 T.2.1).1 ns.length ng.length w)), M) := by
  have ck : ∀ k : Int, M_countKind 1269 k M = some (some (.inl (ctk (F2of T.2.1) k (lnF T.2.1) 0 : Int)), M) := fun k => by
    rw [M_countKind_eq]
    exact M_count_loop hG hT hZ (lnF T.2.1) [] 0 rfl (Nat.zero_le _)
  have gr : ∀ k : Int, k = 0 ∨ k = 1 → M_greatest 1269 k M = some (some (.inl (grt T.1 (F2of T.2.1) k (lnF T.2.1) 0)), M) := fun k hk => by
    rw [M_greatest_eq]
    exact M_greatest_loop hG hT hZ hk (lnF T.2.1) [] 0 none rfl
  have g0 := gr 0 (Or.inl rfl)
  have g1 := gr 1 (Or.inr rfl)
  have l2 := F2_ln hT
  rw [M_tree_eq]
  simp only [hG.gM, gd_t, h77, hZ.2.1.1, h73, h74, ck, g0, g1, cI_s, hZ.2.1.2, hG.m17, hG.tgS arr_1280 (by decide : (0 : Int) ≤ 1) (by decide), hQ.1, hg.1]
  rw [if_neg (by decide)]
  simp only [ite_out]
  unfold trA
  rw [l2]
theorem NRm.num {L : List Nat} (h : NRm M L) {y : Nat} (hy : y ∈ L) : mI M 1321 y = (L.idxOf y : Int) := by
  have hl := List.idxOf_lt_length_iff.mpr hy
  refine (h (L.idxOf y) y ?_).2
  rw [List.getElem?_eq_getElem hl, List.getElem_idxOf hl]
theorem M_isNumber_0 (hG : Good M) (h77 : mI M 1269 77 = 0) (k : Int) : M_isNumber 1269 k M = some (some (.inl 0), M) := by
  rw [M_isNumber_eq, hG.gM, gd_t, if_pos h77]
theorem M_isNumber_1 (hG : Good M) (hT : TI T.2.1 T.2.2) (hZ : RZm M T) (h77 : mI M 1269 77 = 1) (k : Int) : M_isNumber 1269 k M = some (some (.inl (if 0 ≤ k ∧ k < ((lnF T.2.1).length : Int) then 1 else 0)), M) := by
  have hlen := hT.len
  have hm := hT.1.2.2
  rw [M_isNumber_eq, hG.gM, gd_t, h77, if_neg (by decide), gd_t, hZ.2.1.1, wr_id (x := ((lnF T.2.1).length : Int) - 1) (by omega) (by omega), M_isIn_s, cI_s]
  by_cases q : 0 ≤ k ∧ k < ((lnF T.2.1).length : Int)
  · rw [if_pos (show 0 ≤ k ∧ k ≤ ((lnF T.2.1).length : Int) - 1 by omega), if_neg (by decide), if_pos q]
  · rw [if_neg (show ¬ (0 ≤ k ∧ k ≤ ((lnF T.2.1).length : Int) - 1) by omega), if_pos rfl, if_neg q]
theorem M_varsOf_s (hG : Good M) (hT : TI T.2.1 T.2.2) (hX : XOK T.1 T.2.1) (hZ : RZm M T) {x : Nat} (hx : x ∈ lnF T.2.1) : ∃ M', M_varsOf 1269 (x : Int) M = some (some (.inl ((ord (T.1 x)).length : Int)), M') ∧ Good M' ∧ Fj oS M M' := by
  have hm := hT.1.2.2
  have hxm := hT.1.2.1 x hx
  have hek := hX x hx
  have hXk := (hZ.1.1.2 x hx).rx (by omega) hek
  have r2 := (hZ.1.1.2 x hx).1.2
  have ho := ord_le40 hek.2.2
  obtain ⟨M1, a1, a2, a3⟩ := M_layOrder_s hG hXk ⟨by decide, by decide⟩ (by omega)
  refine ⟨M1, ?_, hG.fj a3, a3⟩
  rw [M_varsOf_eq, hG.gM, gd_t, gd_t, hG.m64, hG.tgS (arr_nd (by decide)) (by omega) (by omega), gd_t, gd_t, hG.m63, toNat_n, r2, wr_id (x := (40 : Int) * (x : Int)) (by omega) (by omega), show (40 : Int) * (x : Int) = ((40 * x : Nat) : Int) by omega, a1, cI_s]
theorem M_node_0 (hG : Good M) (h77 : mI M 1269 77 = 0) (k w : Int) : M_node 1269 k w M = some (some (.inl (-2)), M) := by
  rw [M_node_eq, hG.gM, gd_t, M_isNumber_0 hG h77, cI_s, if_pos rfl]
theorem M_node_1 (hG : Good M) (hT : TI T.2.1 T.2.2) (hX : XOK T.1 T.2.1) (hZ : RZm M T) (hk : ∀ x ∈ lnF T.2.1, T.2.1 x 14 = -1 ∨ (0 ≤ T.2.1 x 14 ∧ (T.2.1 x 14).toNat ∈ lnF T.2.1)) (h77 : mI M 1269 77 = 1) (k w : Int) : ∃ M', M_node 1269 k w M = some (some (.inl (noA T.1 (F2of T.2.1) k w)), M') ∧ Good M' ∧ Fj oS M M' := by
  have hlen := hT.len
  have hm := hT.1.2.2
  have l2 := F2_ln hT
  rw [M_node_eq, hG.gM, gd_t, M_isNumber_1 hG hT hZ h77, cI_s]
  unfold noA
  rw [l2]
  by_cases q : 0 ≤ k ∧ k < ((lnF T.2.1).length : Int)
  · rw [if_pos q, if_neg (by decide), if_pos q]
    obtain ⟨i, hi⟩ := Int.eq_ofNat_of_zero_le q.1
    subst hi
    have hil : i < (lnF T.2.1).length := by omega
    have hx := List.getElem?_eq_getElem hil
    have hgd : (lnF T.2.1).getD i 0 = (lnF T.2.1)[i] := by rw [List.getD_eq_getElem?_getD, hx]; rfl
    have hxL := List.getElem_mem hil
    have i20 := (hZ.2.2.1 i _ hx).1
    rw [toNat_n, hgd]
    generalize (lnF T.2.1)[i] = x at *
    have hxm := hT.1.2.1 x hxL
    obtain ⟨⟨r1, r2⟩, ⟨r3, r4⟩, ⟨r5, r6⟩, r7, r8⟩ := hZ.1.1.2 x hxL
    have r9 := hZ.2.2.2.1 x hxL
    have r10 := hZ.2.2.2.2 x hxL
    have e : ∀ f, f ≠ 9 → f ≠ 13 → F2of T.2.1 x f = T.2.1 x f := fun f h1 h2 => F2_eq _ _ _ h1 h2
    have num : ∀ v : Int, (v = -1 ∨ (0 ≤ v ∧ v.toNat ∈ lnF T.2.1)) → (if v = -1 then some (some (Sum.inl (-1)), M) else gd (gS M 1321 0 v) (some (some (Sum.inl (mI M 1321 v.toNat)), M)) : Option (LV × Mem)) = some (some (.inl (numF (F2of T.2.1) v)), M) := by
      intro v hv
      unfold numF
      rw [l2]
      by_cases z : v = -1
      · rw [if_pos z, if_pos z]
      · obtain ⟨z1, z2⟩ := hv.resolve_left z
        have := hT.1.2.1 _ z2
        rw [if_neg z, if_neg z, hG.tgS (arr_nb (by decide)) z1 (by omega), gd_t, hZ.2.2.1.num z2]
    have u1 := num (T.2.1 x 15) ((hT.uok x hxL).imp_right fun z => ⟨z.1, z.2.2⟩)
    have u2 := num (T.2.1 x 14) (hk x hxL)
    obtain ⟨M1, v1, v2, v3⟩ := M_varsOf_s hG hT hX hZ hxL
    have g : ∀ b, 1310 ≤ b ∧ b ≤ 1317 → gS M b 0 (x : Int) = true := fun b hb => hG.tgS (arr_nd hb) (by omega) (by omega)
    have gn : ∀ b, 1320 ≤ b ∧ b ≤ 1323 → gS M b 0 (x : Int) = true := fun b hb => hG.tgS (arr_nb hb) (by omega) (by omega)
    have gi : gS M 1320 0 (i : Int) = true := hG.tgS (arr_nb (by decide)) (by omega) (by omega)
    have stay : ∀ v : Int, ∃ M', (some (some (Sum.inl v), M) : Option (LV × Mem)) = some (some (.inl v), M') ∧ Good M' ∧ Fj oS M M' := fun v => ⟨M, rfl, hG, Fj.refl⟩
    unfold ndA
    rw [e 4 (by decide) (by decide), e 15 (by decide) (by decide), e 5 (by decide) (by decide), e 6 (by decide) (by decide), e 8 (by decide) (by decide), e 14 (by decide) (by decide), hG.gM, gd_t, hG.m80, gi, gd_t, i20]
    by_cases w0 : w = 0
    · rw [if_pos w0, if_pos w0, gd_t, hG.m69, g 1315 (by decide), gd_t, toNat_n, r7]; exact stay _
    rw [if_neg w0, if_neg w0]
    by_cases w1 : w = 1
    · rw [if_pos w1, if_pos w1, gd_t, hG.m65, g 1311 (by decide), gd_t, toNat_n, r3, gd_t, gd_t, gd_t, hG.m81, u1]; exact stay _
    rw [if_neg w1, if_neg w1]
    by_cases w2 : w = 2
    · rw [if_pos w2, if_pos w2, gd_t, hG.m66, g 1312 (by decide), gd_t, toNat_n, r4]; exact stay _
    rw [if_neg w2, if_neg w2]
    by_cases w3 : w = 3
    · rw [if_pos w3, if_pos w3, gd_t, hG.m82, gn 1322 (by decide), gd_t, toNat_n, r9]; exact stay _
    rw [if_neg w3, if_neg w3]
    by_cases w4 : w = 4
    · rw [if_pos w4, if_pos w4, gd_t, hG.m64, g 1310 (by decide), gd_t, toNat_n, r2]; exact stay _
    rw [if_neg w4, if_neg w4]
    by_cases w5 : w = 5
    · rw [if_pos w5, if_pos w5, gd_t, v1, cI_s]; exact ⟨M1, rfl, v2, v3⟩
    rw [if_neg w5, if_neg w5]
    by_cases w6 : w = 6
    · rw [if_pos w6, if_pos w6, gd_t, hG.m67, g 1313 (by decide), gd_t, toNat_n, r5]; exact stay _
    rw [if_neg w6, if_neg w6]
    by_cases w7 : w = 7
    · rw [if_pos w7, if_pos w7, gd_t, hG.m70, g 1316 (by decide), gd_t, toNat_n, r8, gd_t, gd_t, gd_t, hG.m81, u2]; exact stay _
    rw [if_neg w7, if_neg w7]
    by_cases w8 : w = 8
    · rw [if_pos w8, if_pos w8, gd_t, hG.m83, gn 1323 (by decide), gd_t, toNat_n, r10]; exact stay _
    rw [if_neg w8, if_neg w8]
    exact stay _
  · rw [if_neg q, if_pos rfl, if_neg q]
    exact ⟨M, rfl, hG, Fj.refl⟩
end RQUERY

/-! ===== texts: the reference's rows, and both sides' calls ===== -/
section WRITEM2
variable {M : Mem} {ws : List Int} {a n o : Nat} {xs : List Int} {b : Int} {g : Int → Int}
theorem MD.gk (h : MD M xs b g) {c : Int} (hc : c ∈ xs) (hv : vc c) : (kd c ≠ 0 → g c = c) ∧ (kd c = 0 → kd (g c) = 0 ∧ arN (g c) = 0) := by
  rcases h with ⟨h1, h2, h3⟩ | ⟨h1, vs, h2, h3, h4, h5⟩
  · rw [h3]
    refine ⟨fun _ => rfl, fun q => ⟨q, ?_⟩⟩
    have := hv.2.1 q
    have := arN_ar c
    omega
  · rw [h5]
    unfold rno
    refine ⟨fun q => if_neg q, fun q => ?_⟩
    rw [if_pos q]
    have h6 := ix_rng vs c
    obtain ⟨e1, e2, -⟩ := kd_var (c := ix vs c + 1) (by omega)
    refine ⟨e1, ?_⟩
    have := arN_ar (ix vs c + 1)
    omega
theorem M_wtTail (hG : Good M) (hX : RX M a n o xs) (ha : a ≠ 1307 ∧ a ≠ 1308 ∧ a ≠ 1269) (hT : TXm M ws) {st : List Nat} (hK : LKm M st) (hs : st.length ≤ 512) (hp : ∀ l ∈ st, 1 ≤ l) {i : Nat} (hi : i < xs.length) (hw : 0 < arN (nth xs i) → st.length < 512) (hl : ws.length + st.length + 3 ≤ 80000) : ∃ M' d, M_writeThings_95 1269 a (o : Int) (xs.length : Int) b (st.length : Int) ((o + i : Nat) : Int) (kd (nth xs i)) M = M_writeThings_6 1269 a (o : Int) (xs.length : Int) b (((if 0 < arN (nth xs i) then arN (nth xs i) :: st else clU st).length : Nat) : Int) ((o + (i + 1) : Nat) : Int) d M' ∧ TXm M' (ws ++ (if 0 < arN (nth xs i) then [40] else (if kd (nth xs i) = 2 then [40, 41] else []) ++ clB st)) ∧ LKm M' (if 0 < arN (nth xs i) then arN (nth xs i) :: st else clU st) ∧ Fj wmL M M' := by
  have hc := hX.v hi
  have hal := arN_ar (nth xs i)
  have ha8 := arN_8 hc
  have hoi := hX.2.2.1
  have hn := hX.1.2
  have hcell : mI M a (o + i) = cm (nth xs i) := hX.2.1 i hi
  have tail : ∀ (M1 : Mem) (ws1 : List Int), Good M1 → RX M1 a n o xs → TXm M1 ws1 → LKm M1 st → ws1.length + st.length + 2 ≤ 80000 → ¬ 0 < arN (nth xs i) → ∀ bs, (kd (nth xs i) = 2 → bs = [41]) → (kd (nth xs i) ≠ 2 → bs = []) → ∃ M' d, M_writeThings_117 1269 a (o : Int) (xs.length : Int) b (st.length : Int) ((o + i : Nat) : Int) (kd (nth xs i)) M1 = M_writeThings_6 1269 a (o : Int) (xs.length : Int) b ((clU st).length : Int) ((o + (i + 1) : Nat) : Int) d M' ∧ TXm M' (ws1 ++ bs ++ clB st) ∧ LKm M' (clU st) ∧ Fj wmL M1 M' := by
    intro M1 ws1 hG1 hX1 hT1 hK1 hl1 h0 bs hb2 hb0
    have hcell1 : mI M1 a (o + i) = cm (nth xs i) := hX1.2.1 i hi
    rw [M_writeThings_117_eq, hX1.gs hG1 hi, gd_t, toNat_n, hcell1, M_manyOf_s hc, cI_s, if_neg (by omega)]
    by_cases h2 : kd (nth xs i) = 2
    · obtain ⟨M2, b1, b2, b3⟩ := M_put_s hG1 hT1 (v := 41) (by omega) (by decide)
      have hG2 := hG1.fj b3
      obtain ⟨M3, c1, c2, c3, c4⟩ := M_closeAll_s st M2 (ws1 ++ [41]) (some (.inl (st.length : Int))) hG2 b2 (hK1.fj b3 (by unfold wmS; omega)) (by omega) hp (by rw [List.length_append, List.length_singleton]; omega)
      rw [if_pos h2, hG1.gM, gd_t, b1, cV_s, hG2.gM, gd_t, M_closeAll_eq, c1, cI_s, hb2 h2, show ((o + i : Nat) : Int) + 1 = ((o + (i + 1) : Nat) : Int) by omega, wr_id (by omega) (by omega)]
      exact ⟨M3, _, rfl, c2, c3, (b3.mono fun a k q => Or.inl q).trans c4⟩
    · obtain ⟨M3, c1, c2, c3, c4⟩ := M_closeAll_s st M1 ws1 (some (.inl (st.length : Int))) hG1 hT1 hK1 (by omega) hp (by omega)
      rw [if_neg h2, hG1.gM, gd_t, M_closeAll_eq, c1, cI_s, hb0 h2, List.append_nil, show ((o + i : Nat) : Int) + 1 = ((o + (i + 1) : Nat) : Int) by omega, wr_id (by omega) (by omega)]
      exact ⟨M3, _, rfl, c2, c3, c4⟩
  by_cases h0 : 0 < arN (nth xs i)
  · -- it opens
    have hw := hw h0
    obtain ⟨M2, b1, b2, b3⟩ := M_put_s hG hT (v := 40) (by omega) (by decide)
    have hG2 := hG.fj b3
    have hX2 : RX M2 a n o xs := hX.fj b3 (by unfold wmS; omega)
    have hcell2 : mI M2 a (o + i) = cm (nth xs i) := hX2.2.1 i hi
    have f3 : Fj (fun z k => z = 1308 ∧ k = st.length) M2 (stI M2 1308 st.length (ar (nth xs i))) := Fj.ofI ⟨rfl, rfl⟩
    have push : ∃ M' d, M_writeThings_117 1269 a (o : Int) (xs.length : Int) b (st.length : Int) ((o + i : Nat) : Int) (kd (nth xs i)) M2 = M_writeThings_6 1269 a (o : Int) (xs.length : Int) b (((arN (nth xs i) :: st).length : Nat) : Int) ((o + (i + 1) : Nat) : Int) d M' ∧ TXm M' (ws ++ [40]) ∧ LKm M' (arN (nth xs i) :: st) ∧ Fj wmL M M' := by
      rw [M_writeThings_117_eq, hX2.gs hG2 hi, gd_t, toNat_n, hcell2, M_manyOf_s hc, cI_s, if_pos (by omega), hG2.gM, gd_t, hX2.gs hG2 hi, gd_t, hcell2, M_manyOf_s hc, cI_s, hG2.m62, hG2.tgS arr_1308 (by omega) (by omega), gd_t, toNat_n, show ((o + i : Nat) : Int) + 1 = ((o + (i + 1) : Nat) : Int) by omega, wr_s (i := st.length) (by omega), wr_id (by omega) (by omega)]
      exact ⟨_, _, rfl, b2.fj f3 (by omega) (by omega), ⟨⟨by rw [mI_at, hal], ha8⟩, (hK.fj b3 (by unfold wmS; omega)).fj f3 (by omega)⟩, (b3.mono fun a k q => Or.inl q).trans (f3.mono fun a k q => Or.inr q.1)⟩
    rw [if_pos h0, if_pos h0]
    rw [M_writeThings_95_eq]
    by_cases h2 : kd (nth xs i) = 2
    · rw [if_pos h2, hG.gM, gd_t, b1, cV_s]
      exact push
    · rw [if_neg h2, hX.gs hG hi, gd_t, toNat_n, hcell, M_manyOf_s hc, cI_s, if_pos (by omega), hG.gM, gd_t, b1, cV_s]
      exact push
  · rw [if_neg h0, if_neg h0]
    rw [M_writeThings_95_eq]
    by_cases h2 : kd (nth xs i) = 2
    · obtain ⟨M2, b1, b2, b3⟩ := M_put_s hG hT (v := 40) (by omega) (by decide)
      obtain ⟨M3, d, c1, c2, c3, c4⟩ := tail M2 (ws ++ [40]) (hG.fj b3) (hX.fj b3 (by unfold wmS; omega)) b2 (hK.fj b3 (by unfold wmS; omega)) (by rw [List.length_append, List.length_singleton]; omega) h0 [41] (fun _ => rfl) (fun q => absurd h2 q)
      rw [if_pos h2, if_pos h2, hG.gM, gd_t, b1, cV_s]
      refine ⟨M3, d, c1, ?_, c3, (b3.mono fun a k q => Or.inl q).trans c4⟩
      rw [List.append_assoc, List.append_assoc] at c2
      exact c2
    · obtain ⟨M3, d, c1, c2, c3, c4⟩ := tail M ws hG hX hT hK (by omega) h0 [] (fun q => absurd q h2) (fun _ => rfl)
      rw [if_neg h2, if_neg h2, hX.gs hG hi, gd_t, toNat_n, hcell, M_manyOf_s hc, cI_s, if_neg (by omega)]
      refine ⟨M3, d, c1, ?_, c3, c4⟩
      rw [List.append_assoc] at c2
      exact c2
theorem M_writeThings_loop (ha : a ≠ 1307 ∧ a ≠ 1308 ∧ a ≠ 1269) : ∀ (k i : Nat) (st : List Nat) (M : Mem) (ws : List Int) (d : LV), xs.length - i = k → i ≤ xs.length → Good M → RX M a n o xs → TXm M ws → LKm M st → MD M xs b g → st.length ≤ 512 → (∀ l ∈ st, 1 ≤ l) → wok (xs.drop i) st → ws.length + 6 * (xs.length - i) + st.length ≤ 79000 → ∃ M', M_writeThings_6 1269 a (o : Int) (xs.length : Int) b (st.length : Int) ((o + i : Nat) : Int) d M = some (none, M') ∧ TXm M' (ws ++ wtx ((xs.drop i).map g) st) ∧ Fj wmL M M' := by
  intro k
  induction k with
  | zero =>
    intro i st M ws d h1 h2 hG hX hT hK hm hs hp hw hl
    have hoi := hX.2.2.1
    have hn := hX.1.2
    rw [M_writeThings_6_eq, wr_id (x := (o : Int) + (xs.length : Int)) (by omega) (by omega), if_neg (by omega), List.drop_eq_nil_of_le (by omega)]
    refine ⟨M, rfl, ?_, Fj.refl⟩
    show TXm M (ws ++ [])
    rw [List.append_nil]; exact hT
  | succ k ih =>
    intro i st M ws d h1 h2 hG hX hT hK hm hs hp hw hl
    have hi : i < xs.length := by omega
    have hoi := hX.2.2.1
    have hn := hX.1.2
    have hc := hX.v hi
    have hcm := nth_mem hi
    have hcell : mI M a (o + i) = cm (nth xs i) := hX.2.1 i hi
    obtain ⟨g1, g2⟩ := hm.gk hcm hc
    have hk4 := kd_nn (nth xs i)
    rw [drop_cons hi] at hw ⊢
    unfold wok at hw
    -- behind the name
    have rest : ∀ (M1 : Mem) (nm : List Int), Good M1 → RX M1 a n o xs → TXm M1 (ws ++ nm) → LKm M1 st → MD M1 xs b g → Fj wmL M M1 → nm.length ≤ 3 → tnB (g (nth xs i)) = nm ++ (if 0 < arN (nth xs i) then [] else if kd (nth xs i) = 2 then [40, 41] else []) → arN (g (nth xs i)) = arN (nth xs i) → ∃ M', M_writeThings_95 1269 a (o : Int) (xs.length : Int) b (st.length : Int) ((o + i : Nat) : Int) (kd (nth xs i)) M1 = some (none, M') ∧ TXm M' (ws ++ wtx ((nth xs i :: xs.drop (i + 1)).map g) st) ∧ Fj wmL M M' := by
      intro M1 nm hG1 hX1 hT1 hK1 hm1 hF1 hnl htn har
      obtain ⟨M2, d2, b1, b2, b3, b4⟩ := M_wtTail (b := b) hG1 hX1 ha hT1 hK1 hs hp hi (fun q => by rw [if_pos q] at hw; exact hw.1) (by rw [List.length_append]; omega)
      have hG2 := hG1.fj b4
      rw [b1, List.map_cons]
      unfold wtx
      rw [htn, har]
      by_cases h0 : 0 < arN (nth xs i)
      · rw [if_pos h0] at b2 b3 hw ⊢
        obtain ⟨M3, c1, c2, c3⟩ := ih (i + 1) (arN (nth xs i) :: st) M2 ((ws ++ nm) ++ [40]) d2 (by omega) (by omega) hG2 (hX1.fj b4 (by unfold wmL wmS; omega)) b2 b3 (hm1.fj b4 (by unfold wmL wmS; omega) (by unfold wmL wmS; omega)) (by simp only [List.length_cons]; omega) (fun l hl => by rcases List.mem_cons.mp hl with hl | hl; (rw [hl]; exact h0); exact hp l hl) hw.2 (by simp only [List.length_append, List.length_cons, List.length_nil]; omega)
        refine ⟨M3, c1, ?_, (hF1.trans b4).trans c3⟩
        simp only [if_pos h0, List.append_nil]
        rw [List.append_assoc, List.append_assoc] at c2
        exact c2
      · rw [if_neg h0] at b2 b3 hw ⊢
        have h5 := clU_len st
        obtain ⟨M3, c1, c2, c3⟩ := ih (i + 1) (clU st) M2 ((ws ++ nm) ++ ((if kd (nth xs i) = 2 then [40, 41] else []) ++ clB st)) d2 (by omega) (by omega) hG2 (hX1.fj b4 (by unfold wmL wmS; omega)) b2 b3 (hm1.fj b4 (by unfold wmL wmS; omega) (by unfold wmL wmS; omega)) (by have := clU_le st; omega) (clU_pos st hp) hw (by
          have : (if kd (nth xs i) = 2 then [40, 41] else ([] : List Int)).length ≤ 2 := by split <;> simp
          simp only [List.length_append]; omega)
        refine ⟨M3, c1, ?_, (hF1.trans b4).trans c3⟩
        simp only [if_neg h0]
        rw [List.append_assoc, List.append_assoc, List.append_assoc] at c2
        rw [List.append_assoc]
        exact c2
    rw [M_writeThings_6_eq, wr_id (x := (o : Int) + (xs.length : Int)) (by omega) (by omega), if_pos (by omega), hX.gs hG hi, gd_t, toNat_n, hcell, M_sortOf_s hc, cI_s]
    by_cases k0 : kd (nth xs i) = 0
    · obtain ⟨g3, g4⟩ := g2 k0
      have ar0 := hc.2.1 k0
      have hal := arN_ar (nth xs i)
      obtain ⟨M1, a1, a2, a3⟩ := M_putVar_s hG hT (by omega) hm hcm hc k0
      rw [if_pos k0, hX.gs hG hi, gd_t, hcell, M_nameOf_s hc, cI_s, hG.gM, gd_t, a1, cV_s]
      refine rest M1 _ (hG.fj a3) (hX.fj a3 (by unfold wmS; omega)) a2 (hK.fj a3 (by unfold wmS; omega)) (hm.fj a3 (by unfold wmS; omega) (by unfold wmS; omega)) (a3.mono fun a k q => Or.inl q) nmB_len ?_ (by omega)
      rw [if_neg (by omega), if_neg (by omega), List.append_nil]
      unfold tnB
      rw [if_pos g3]
    rw [if_neg k0]
    have eg := g1 k0
    by_cases k1 : kd (nth xs i) = 1
    · have h26 := (hc.2.2.1 k1).2
      have hsy : 0 ≤ sy (nth xs i) := by unfold sy; omega
      have enm : nmo (nth xs i) = sy (nth xs i) + 1 := by unfold nmo; rw [if_neg k0, if_pos k1]
      obtain ⟨M1, a1, a2, a3⟩ := M_put_s hG hT (v := 65 + sy (nth xs i)) (by omega) (by omega)
      rw [if_pos k1, hX.gs hG hi, gd_t, hcell, M_nameOf_s hc, cI_s, enm, hG.gM, gd_t, wr_id (x := 65 + (sy (nth xs i) + 1)) (by omega) (by omega), show 65 + (sy (nth xs i) + 1) - 1 = 65 + sy (nth xs i) by omega, wr_id (by omega) (by omega), a1, cV_s]
      refine rest M1 _ (hG.fj a3) (hX.fj a3 (by unfold wmS; omega)) a2 (hK.fj a3 (by unfold wmS; omega)) (hm.fj a3 (by unfold wmS; omega) (by unfold wmS; omega)) (a3.mono fun a k q => Or.inl q) (by simp) ?_ (by rw [eg])
      rw [eg]
      unfold tnB
      rw [if_neg k0, if_pos k1, if_neg (show ¬ kd (nth xs i) = 2 by omega)]
      split <;> rfl
    rw [if_neg k1]
    by_cases k3 : kd (nth xs i) = 3
    · obtain ⟨M1, a1, a2, a3⟩ := M_put_s hG hT (v := 33) (by omega) (by decide)
      rw [if_pos k3, hG.gM, gd_t, a1, cV_s]
      refine rest M1 _ (hG.fj a3) (hX.fj a3 (by unfold wmS; omega)) a2 (hK.fj a3 (by unfold wmS; omega)) (hm.fj a3 (by unfold wmS; omega) (by unfold wmS; omega)) (a3.mono fun a k q => Or.inl q) (by simp) ?_ (by rw [eg])
      rw [eg]
      unfold tnB
      rw [if_neg k0, if_neg k1, if_pos k3, if_neg (show ¬ kd (nth xs i) = 2 by omega)]
      split <;> rfl
    rw [if_neg k3]
    have k2 : kd (nth xs i) = 2 := by omega
    have h12 := (hc.2.2.2.1 k2).2
    have hsy : 0 ≤ sy (nth xs i) := by unfold sy; omega
    have enm : nmo (nth xs i) = sy (nth xs i) := by unfold nmo; rw [if_neg k0, if_neg k1, if_pos k2]
    obtain ⟨M1, a1, a2, a3⟩ := M_putName_s hG hT (n := sy (nth xs i)) (by omega) (by omega)
    rw [hX.gs hG hi, gd_t, hcell, M_nameOf_s hc, cI_s, enm, hG.gM, gd_t, a1, cV_s]
    refine rest M1 _ (hG.fj a3) (hX.fj a3 (by unfold wmS; omega)) a2 (hK.fj a3 (by unfold wmS; omega)) (hm.fj a3 (by unfold wmS; omega) (by unfold wmS; omega)) (a3.mono fun a k q => Or.inl q) nmB_len ?_ (by rw [eg])
    rw [eg]
    unfold tnB
    rw [if_neg k0, if_neg k1, if_neg k3, if_pos k2]
    by_cases h0 : 0 < arN (nth xs i)
    · rw [if_neg (by omega), if_pos h0]
    · rw [if_pos (by omega), if_neg h0]
end WRITEM2

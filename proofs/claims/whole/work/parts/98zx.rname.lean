/-! ===== the reference names the functions ===== -/
section RNAME
variable {T : TS}
theorem nmf_1 {X Y : Nat → List Int} {F : FT} : ∀ (L : List Nat) (f c m c2 m2 : Nat), (nmf X F L f c m).1 = (nmf Y F L f c2 m2).1 := by
  intro L
  induction L with
  | nil => intro f c m c2 m2; rfl
  | cons x L ih =>
    intro f c m c2 m2
    unfold nmf
    by_cases q : isFn F x
    · rw [if_pos q, if_pos q]; exact ih _ _ _ _ _
    · rw [if_neg q, if_neg q]; exact ih _ _ _ _ _
theorem M_name_loop {G0 : FT} (hT : TI T.2.1 T.2.2) (h4 : ∀ x ∈ lnF T.2.1, G0 x 4 = T.2.1 x 4) (h13 : ∀ x ∈ lnF T.2.1, G0 x 13 = if ∃ y ∈ lnF T.2.1, T.2.1 y 14 = (x : Int) then 1 else 0) : ∀ (B A : List Nat) (M : Mem) (G : FT) (f c m : Nat) (d2 d3 : LV), lnF T.2.1 = A ++ B → (∀ x y, y ≠ 9 → G x y = G0 x y) → Good M → RT M T → mI M 1269 84 = ((lnF T.2.1).length : Int) → NRm M (lnF T.2.1) → mI M 1269 85 = (f : Int) → f ≤ A.length → FNm M G A → (∀ x ∈ B, G x 9 = -1) → ∃ M', M_number_91 1269 (A.length : Int) d2 d3 M = some (none, M') ∧ FNm M' (fnF G B f) (lnF T.2.1) ∧ mI M' 1269 85 = ((nmf T.1 G B f c m).1 : Int) ∧ Good M' ∧ Fj (fun a j => a = 1323 ∨ (a = 1269 ∧ j = 85)) M M' := by
  have hm := hT.1.2.2
  have hlen := hT.len
  intro B
  induction B with
  | nil =>
    intro A M G f c m d2 d3 hL hG0 hG hR h84 hN h85 hf hF hB
    rw [List.append_nil] at hL
    refine ⟨M, ?_, by rw [hL]; exact hF, h85, hG, Fj.refl⟩
    rw [M_number_91_eq, hG.gM, gd_t, h84, hL, if_neg (by omega)]
  | cons x B ih =>
    intro A M G f c m d2 d3 hL hG0 hG hR h84 hN h85 hf hF hB
    have hll : (lnF T.2.1).length = A.length + (B.length + 1) := by rw [hL]; simp
    have hxL : x ∈ lnF T.2.1 := by rw [hL]; simp
    have hxm := hT.1.2.1 x hxL
    have hnd := hT.1.1
    rw [hL] at hnd
    have hxA : x ∉ A := fun q => (List.nodup_append.mp hnd).2.2 x q x (by simp) rfl
    have hxB : x ∉ B := (List.nodup_cons.mp (List.nodup_append.mp hnd).2.1).1
    have i20 := (hN A.length x (by rw [hL]; simp)).1
    have i15 : mI M 1315 x = T.2.1 x 4 := (hR.2 x hxL).2.2.2.1
    have g23 : gS M 1323 0 (x : Int) = true := hG.tgS (arr_nb (by decide)) (by omega) (by omega)
    have g20 : gS M 1320 0 (A.length : Int) = true := hG.tgS (arr_nb (by decide)) (by omega) (by omega)
    have g15 : gS M 1315 0 (x : Int) = true := hG.tgS (arr_nd (by decide)) (by omega) (by omega)
    have efn : isFn G x ↔ (T.2.1 x 4 = 3 ∨ (T.2.1 x 4 = 2 ∧ ∃ y ∈ lnF T.2.1, T.2.1 y 14 = (x : Int))) := by
      unfold isFn
      rw [hG0 x 4 (by decide), hG0 x 13 (by decide), h4 x hxL, h13 x hxL]
      by_cases q : ∃ y ∈ lnF T.2.1, T.2.1 y 14 = (x : Int)
      · rw [if_pos q]
        exact ⟨fun h => h.elim Or.inl fun h => Or.inr ⟨h.1, q⟩, fun h => h.elim Or.inl fun h => Or.inr ⟨h.1, by decide⟩⟩
      · rw [if_neg q]
        exact ⟨fun h => h.elim Or.inl fun h => absurd rfl h.2, fun h => h.elim Or.inl fun h => absurd h.2 q⟩
    have head : M_number_91 1269 (A.length : Int) d2 d3 M = if isFn G x then M_number_157 1269 (A.length : Int) 1 (f : Int) (x : Int) 1323 (some (.inl (x : Int))) M else M_number_157 1269 (A.length : Int) 0 (-1) (x : Int) 1323 (some (.inl (x : Int))) M := by
      rw [M_number_91_eq, hG.gM, gd_t, h84, if_pos (by omega), gd_t, hG.m80, g20, gd_t, gd_t, toNat_n, i20, hG.m69, g15, gd_t, toNat_n, i15, hG.m83, h85]
      by_cases q3 : T.2.1 x 4 = 3
      · rw [if_pos q3, if_pos (efn.mpr (Or.inl q3)), gd_t, gd_t]
      · rw [if_neg q3]
        by_cases q2 : T.2.1 x 4 = 2
        · rw [if_pos q2, gd_t, gd_t, gd_t, M_isFoldedTo_s hG hT hR h84 hN, cI_s]
          by_cases q : ∃ y ∈ lnF T.2.1, T.2.1 y 14 = (x : Int)
          · rw [if_pos q, if_neg (by decide), if_pos (efn.mpr (Or.inr ⟨q2, q⟩)), hG.gM, gd_t, gd_t, hG.m83, h85]
          · rw [if_neg q, if_pos rfl, if_neg (fun h => q (((efn.mp h).resolve_left q3).2)), hG.gM, gd_t, hG.m83]
        · rw [if_neg q2, if_neg (fun h => q2 (((efn.mp h).resolve_left q3).1)), gd_t, gd_t, gd_t]
    rw [head]
    have hl1 : (A ++ [x]).length = A.length + 1 := by simp
    unfold fnF nmf
    by_cases q : isFn G x
    · have F1 : Fj (fun a j => a = 1323 ∨ (a = 1269 ∧ j = 85)) M (stI (stI M 1323 x (f : Int)) 1269 85 ((f + 1 : Nat) : Int)) := (Fj.ofI (by omega)).trans (Fj.ofI (by omega))
      have hG1 := hG.fj F1
      have hF1 : FNm (stI (stI M 1323 x (f : Int)) 1269 85 ((f + 1 : Nat) : Int)) (upF G x 9 (f : Int)) (A ++ [x]) := fun y hy => by
        rw [mI_ne (by omega)]
        rcases List.mem_append.mp hy with h | h
        · have hyx : y ≠ x := fun e => hxA (e ▸ h)
          rw [mI_ne (by omega), upF_ne (by omega)]
          exact hF y h
        · rw [List.mem_singleton.mp h, mI_at, upF_at]
      obtain ⟨M', a1, a2, a3, a4, a5⟩ := ih (A ++ [x]) (stI (stI M 1323 x (f : Int)) 1269 85 ((f + 1 : Nat) : Int)) (upF G x 9 (f : Int)) (f + 1) (c + nkc G x) (if m < (ord (T.1 x)).length then (ord (T.1 x)).length else m) (some (.inl (x : Int))) (some (.inl 1)) (by rw [hL]; simp) (fun a b hb => by rw [upF_ne (by omega)]; exact hG0 a b hb) hG1 (hR.fjo F1 (by omega)) ((F1.2.2 _ _ (by omega)).trans h84) (hN.fjo F1 (by omega)) mI_at (by rw [hl1]; omega) hF1 (fun y hy => by
        have hyx : y ≠ x := fun e => hxB (e ▸ hy)
        rw [upF_ne (fun e => hyx e.1)]
        exact hB y (List.mem_cons_of_mem _ hy))
      rw [hl1] at a1
      have e85 : mI (stI M 1323 x (f : Int)) 1269 85 = (f : Int) := by rw [mI_ne (by omega)]; exact h85
      rw [if_pos q, if_pos q, if_pos q, M_number_157_eq, g23, gd_t, if_neg (by decide), hG.gM, gd_t, gd_t, toNat_n, e85, wr_s (by omega), wr_s (by omega), a1]
      rw [nmf_up] at a3
      exact ⟨M', rfl, a2, a3, a4, F1.trans a5⟩
    · have F1 : Fj (fun a j => a = 1323 ∨ (a = 1269 ∧ j = 85)) M (stI M 1323 x (-1)) := Fj.ofI (by omega)
      have hG1 := hG.fj F1
      have hF1 : FNm (stI M 1323 x (-1)) G (A ++ [x]) := fun y hy => by
        rcases List.mem_append.mp hy with h | h
        · have hyx : y ≠ x := fun e => hxA (e ▸ h)
          rw [mI_ne (by omega)]
          exact hF y h
        · rw [List.mem_singleton.mp h, mI_at]
          exact (hB x (by simp)).symm
      obtain ⟨M', a1, a2, a3, a4, a5⟩ := ih (A ++ [x]) (stI M 1323 x (-1)) G f c m (some (.inl (x : Int))) (some (.inl 0)) (by rw [hL]; simp) hG0 hG1 (hR.fjo F1 (by omega)) ((F1.2.2 _ _ (by omega)).trans h84) (hN.fjo F1 (by omega)) (by rw [mI_ne (by omega)]; exact h85) (by rw [hl1]; omega) hF1 (fun y hy => hB y (List.mem_cons_of_mem _ hy))
      rw [hl1] at a1
      rw [if_neg q, if_neg q, if_neg q, M_number_157_eq, g23, gd_t, if_pos rfl, toNat_n, wr_s (by omega), a1]
      exact ⟨M', rfl, a2, a3, a4, F1.trans a5⟩
theorem M_number_s {M : Mem} (hG : Good M) (hT : TI T.2.1 T.2.2) (hV : FVL T.2.1) (hR : RT M T) : ∃ M', M_number 1269 M = some (none, M') ∧ (mI M' 1269 84 = ((lnF T.2.1).length : Int) ∧ mI M' 1269 85 = ((nmR T.1 T.2.1).1 : Int)) ∧ (NRm M' (lnF T.2.1) ∧ DPm M' T.2.1 (lnF T.2.1) ∧ FNm M' (F2of T.2.1) (lnF T.2.1)) ∧ Good M' ∧ Fj nbS M M' := by
  have f1 : Fj nbS M (stI M 1269 84 0) := Fj.ofI (by unfold nbS; omega)
  obtain ⟨M1, a1, a2, a3, a4, a5, a6⟩ := M_number_loop hT none none (lnF T.2.1) [] (stI M 1269 84 0) rfl hT.walk (hG.fj f1) (hR.nb f1) mI_at (fun i x h => by rw [List.getElem?_nil] at h; cases h) (fun x h => by cases h)
  have h0 : hdi (lnF T.2.1) = 0 := by
    obtain ⟨r, hr⟩ := lnF_head T.2.1
    rw [hr]; rfl
  rw [h0] at a1
  have f2 : Fj nbS M1 (stI M1 1269 85 0) := Fj.ofI (by unfold nbS; omega)
  have F2 := (f1.trans a6).trans f2
  obtain ⟨M2, b1, b2, b3, b4, b5⟩ := M_name_loop (G0 := nuF T.2.1 (lnF T.2.1)) hT (fun x _ => nuF_ne _ _ _ _ (by decide)) (fun x hx => by
    rw [nuF_13 _ _ _ fun y hy => (hV y hy).1.1, (hV x hx).2.2.1]) (lnF T.2.1) [] (stI M1 1269 85 0) (nuF T.2.1 (lnF T.2.1)) 0 0 0 none none rfl (fun _ _ _ => rfl) (a5.fj f2) (hR.nb F2) (by rw [mI_ne (by omega)]; exact a2) (a3.fjo (Fj.ofI (S := fun a j => a = 1269 ∧ j = 85) ⟨rfl, rfl⟩) (by omega)) mI_at (Nat.le_refl _) (fun x h => by cases h) (fun x hx => by
    rw [nuF_ne _ _ _ _ (by decide)]
    exact (hV x hx).2.1)
  have b1 : M_number_91 1269 0 none none (stI M1 1269 85 0) = _ := b1
  refine ⟨M2, ?_, ⟨?_, b3⟩, ⟨?_, ?_, b2⟩, b4, F2.trans (b5.mono fun a j q => by unfold nbS; omega)⟩
  · rw [M_number_eq, hG.gM, gd_t, a1, b1]
  · exact ((b5.2.2 _ _ (by omega)).trans (mI_ne (by omega))).trans a2
  · exact (a3.fjo (Fj.ofI (S := fun a j => a = 1269 ∧ j = 85) ⟨rfl, rfl⟩) (by omega)).fjo b5 (by omega)
  · exact (a4.fjo (Fj.ofI (S := fun a j => a = 1269 ∧ j = 85) ⟨rfl, rfl⟩) (by omega)).fjo b5 (by omega)
end RNAME

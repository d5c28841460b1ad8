/-! ===== texts: rows by order, write, octet ===== -/
section WRITE3
variable {M : Mem} {ws : List Int} {a n o : Nat} {xs : List Int}
theorem M_writeThings_s (hG : Good M) (hX : RX M a n o xs) (ha : a ≠ 1307 ∧ a ≠ 1308 ∧ a ≠ 1269) (hT : TXm M ws) (hlo : vlo xs) (hw : wok xs []) (hl : ws.length + 6 * xs.length ≤ 79000) : ∃ M', M_writeThings 1269 a (o : Int) (xs.length : Int) 0 M = some (none, M') ∧ TXm M' (ws ++ wtx xs []) ∧ Fj wmL M M' := by
  obtain ⟨M', h1, h2, h3⟩ := M_writeThings_loop (b := 0) (g := fun c => c) ha xs.length 0 [] M ws none rfl (Nat.zero_le _) hG hX hT trivial (Or.inl ⟨rfl, hlo, fun _ => rfl⟩) (Nat.zero_le _) (fun l hl => by cases hl) hw (by simpa using hl)
  rw [M_writeThings_eq]
  refine ⟨M', h1, ?_, h3⟩
  rw [List.drop_zero, List.map_id'] at h2
  exact h2
theorem M_writeRow_0 (hG : Good M) (hX : RX M a n o xs) (ha : a ≠ 1307 ∧ a ≠ 1308 ∧ a ≠ 1269) (hT : TXm M ws) (hlo : vlo xs) (hw : wok xs []) (hl : ws.length + 6 * xs.length ≤ 79000) : ∃ M', M_writeRow 1269 a (o : Int) (xs.length : Int) 0 M = some (none, M') ∧ TXm M' (ws ++ wtx xs []) ∧ Fj wmL M M' := by
  obtain ⟨M', h1, h2, h3⟩ := M_writeThings_s hG hX ha hT hlo hw hl
  rw [M_writeRow_eq, if_pos rfl, hG.gM, gd_t, h1, cV_s]
  exact ⟨M', rfl, h2, h3⟩
def woS : Nat → Nat → Prop := fun a k => wmL a k ∨ oS a k
theorem M_writeRow_1 (hG : Good M) (hX : RX M a n o xs) (ha : a ≠ 1307 ∧ a ≠ 1308 ∧ a ≠ 1269 ∧ a ≠ 1297) (hT : TXm M ws) (hvl : (ord xs).length ≤ 100) (hw : wok xs []) (hl : ws.length + 6 * xs.length ≤ 79000) : ∃ M', M_writeRow 1269 a (o : Int) (xs.length : Int) 1 M = some (none, M') ∧ TXm M' (ws ++ wtx (xs.map (rno (ord xs))) []) ∧ Fj woS M M' := by
  obtain ⟨M1, a1, a2, a3⟩ := M_layOrder_s hG hX ⟨ha.2.2.2, ha.2.2.1⟩ (by omega)
  have hG1 := hG.fj a3
  obtain ⟨M', h1, h2, h3⟩ := M_writeThings_loop (b := 1) (g := rno (ord xs)) ⟨ha.1, ha.2.1, ha.2.2.1⟩ xs.length 0 [] M1 ws none rfl (Nat.zero_le _) hG1 (hX.fj a3 (by unfold oS; omega)) (hT.fj a3 (by unfold oS; omega) (by unfold oS; omega)) trivial (Or.inr ⟨rfl, ord xs, a2, hvl, fun c hc hk => ord_mem.mpr ⟨hc, hk⟩, fun _ => rfl⟩) (Nat.zero_le _) (fun l hl => by cases hl) hw (by simpa using hl)
  rw [M_writeRow_eq, if_neg (by decide), hG.gM, gd_t, a1, cI_s, hG1.gM, gd_t, M_writeThings_eq]
  have h1 : M_writeThings_6 1269 a (o : Int) (xs.length : Int) 1 0 (o : Int) none M1 = some (none, M') := h1
  rw [h1, cV_s]
  exact ⟨M', rfl, h2, (a3.mono fun a k q => Or.inr q).trans (h3.mono fun a k q => Or.inl q)⟩
theorem rno_rnm {xs : List Int} : xs.map (rno (ord xs)) = xs.map (rnm (ord xs)) := by
  apply List.map_congr_left
  intro c hc
  unfold rno rnm
  by_cases h : kd c = 0
  · have := ix_mem.mpr (ord_mem.mpr ⟨hc, h⟩)
    rw [if_pos h, if_pos ⟨h, this⟩, Int.add_comm]
  · rw [if_neg h, if_neg fun q => h q.1]
theorem M_begin_s (hG : Good M) : M_beginWriting 1269 M = some (none, stI M 1269 61 0) ∧ TXm (stI M 1269 61 0) [] := ⟨by rw [M_beginWriting_eq, hG.gM, gd_t], mI_at, by decide, fun i hi => absurd hi (Nat.not_lt_zero i)⟩
theorem wok_len : ∀ (xs : List Int) (st : List Nat), st.length + xs.length ≤ 512 → wok xs st := by
  intro xs
  induction xs with
  | nil => intro st _; trivial
  | cons c xs ih =>
    intro st h
    simp only [List.length_cons] at h
    unfold wok
    split
    · exact ⟨by omega, ih _ (by simp only [List.length_cons]; omega)⟩
    · exact ih _ (by have := clU_le st; omega)
def wrA (es : Nat → List Int) (i : Int) : Int := if 0 ≤ i ∧ i < 4 then ((wtx (es i.toNat) []).length : Int) else -1
def wrT (es : Nat → List Int) (ws : List Int) (i : Int) : List Int := if 0 ≤ i ∧ i < 4 then wtx (es i.toNat) [] else ws
/-- a told expression -/
def xok (xs : List Int) : Prop := (wf 1 xs ∧ av xs ∧ xs.length ≤ 40) ∧ vlo xs
theorem D_write_s (hG : Good M) {gl ng : List Int} {es : Nat → List Int} (hE : CE M gl ng es) (hx : ∀ i, i < 4 → xok (es i)) (hT : TXc M ws) (i : Int) : ∃ M', D_write 2 i M = some (some (.inl (wrA es i)), M') ∧ TXc M' (wrT es ws i) ∧ Fj wcL M M' := by
  unfold wrA wrT
  rw [D_write_eq, D_isExpression_s, cI_s]
  by_cases hi : 0 ≤ i ∧ i < 4
  · obtain ⟨m, rfl⟩ := Int.eq_ofNat_of_zero_le hi.1
    have hm : m < 4 := by omega
    have h1 := hE.2.2 m hm
    obtain ⟨⟨x1, x2, x3⟩, x4⟩ := hx m hm
    obtain ⟨M', a1, a2, a3⟩ := D_writeExpr_s hG (by omega) h1 hT x2 x4 (wok_len _ [] (by simp; omega)) (by omega)
    rw [if_pos hi, if_neg (by decide), if_pos hi, if_pos hi, toNat_n, hG.gx, gd_t, hG.r2_6, hG.aX hm, gd_t, gd_t, hG.rX hm, a1, cI_s]
    exact ⟨M', rfl, a2, a3⟩
  · rw [if_neg hi, if_pos rfl, if_neg hi, if_neg hi]
    exact ⟨M, rfl, hT, Fj.refl⟩
theorem M_isTold_s (hG : Good M) (i : Int) : M_isTold 1269 i M = some (some (.inl (if 0 ≤ i ∧ i < 4 then 1 else 0)), M) := by
  rw [M_isTold_eq, M_isIn_s, cI_s]
  by_cases hi : 0 ≤ i ∧ i < 4
  · rw [if_pos (show 0 ≤ i ∧ i ≤ 3 by omega), if_pos hi]
    rfl
  · rw [if_neg (show ¬ (0 ≤ i ∧ i ≤ 3) by omega), if_neg hi]
    rfl
theorem MX.row {es : Nat → List Int} (h : MX M es) (hx : ∀ i, i < 4 → xok (es i)) {i : Nat} (hi : i < 4) : RX M 1292 160 (40 * i) (es i) := ⟨⟨arr_1292, by decide⟩, (h i hi).2, by have := (hx i hi).1.2.2; omega, (hx i hi).1.2.1⟩
theorem M_write_s (hG : Good M) {es : Nat → List Int} (hX : MX M es) (hx : ∀ i, i < 4 → xok (es i)) (hT : TXm M ws) (i : Int) : ∃ M', M_write 1269 i M = some (some (.inl (wrA es i)), M') ∧ TXm M' (wrT es ws i) ∧ Fj wmL M M' := by
  unfold wrA wrT
  rw [M_write_eq, hG.gM, gd_t, M_isTold_s hG, cI_s]
  by_cases hi : 0 ≤ i ∧ i < 4
  · obtain ⟨m, rfl⟩ := Int.eq_ofNat_of_zero_le hi.1
    have hm : m < 4 := by omega
    obtain ⟨⟨x1, x2, x3⟩, x4⟩ := hx m hm
    have f1 : Fj (fun a k => a = 1269 ∧ k = 61) M (stI M 1269 61 0) := Fj.ofI ⟨rfl, rfl⟩
    have hG1 := hG.fj f1
    have hr := (hX.row hx hm).fj f1 (by omega)
    have hl : mI (stI M 1269 61 0) 1293 m = ((es m).length : Int) := by rw [mI_ne (by omega)]; exact (hX m hm).1
    obtain ⟨M', a1, a2, a3⟩ := M_writeRow_0 hG1 hr (by decide) (M_begin_s hG).2 x4 (wok_len _ [] (by simp; omega)) (by simp; omega)
    have hG2 := hG1.fj a3
    have a2 : TXm M' (wtx (es m) []) := a2
    rw [if_pos hi, if_neg (by decide), if_pos hi, if_pos hi, toNat_n, hG.gM, gd_t, (M_begin_s hG).1, cV_s, hG1.gM, gd_t, gd_t, hG1.m34, hG1.tgS arr_1293 (by omega) (by omega), gd_t, gd_t, hG1.m33, hl, wr_id (x := 40 * (m : Int)) (by omega) (by omega), show 40 * (m : Int) = ((40 * m : Nat) : Int) by omega, a1, cV_s, hG2.gM, gd_t, a2.1]
    exact ⟨M', rfl, a2, (f1.mono fun a k q => Or.inl (Or.inr q)).trans a3⟩
  · rw [if_neg hi, if_pos rfl, if_neg hi, if_neg hi]
    exact ⟨M, rfl, hT, Fj.refl⟩
theorem M_octet_s (hG : Good M) (hT : TXm M ws) (i : Int) : M_octet 1269 i M = some (some (.inl (if 0 ≤ i ∧ i < (ws.length : Int) then nth ws i.toNat else -1)), M) := by
  have hl := hT.2.1
  rw [M_octet_eq, hG.gM, gd_t, hT.1, wr_id (x := (ws.length : Int) - 1) (by omega) (by omega), M_isIn_s, cI_s]
  by_cases h : 0 ≤ i ∧ i < (ws.length : Int)
  · obtain ⟨m, rfl⟩ := Int.eq_ofNat_of_zero_le h.1
    rw [if_pos (show (0 : Int) ≤ (m : Int) ∧ (m : Int) ≤ (ws.length : Int) - 1 by omega), if_neg (by decide), if_pos h, hG.gM, gd_t, hG.m60, hG.tgS arr_1307 (by omega) (by omega), Bool.true_or, gd_t, toNat_n, hT.2.2 m (by omega)]
  · rw [if_neg (show ¬ (0 ≤ i ∧ i ≤ (ws.length : Int) - 1) by omega), if_pos rfl, if_neg h]
end WRITE3

/-! ===== nodes below a node, one behind another ===== -/
abbrev TS : Type := (Nat → List Int) × FT × Nat
abbrev Kd3 : Type := List Int × Int × Int
def adT (k : Nat) (T : TS) (x : Kd3) : TS := (upX T.1 T.2.2 x.1, adF T.2.1 k T.2.2 x.2.1 x.2.2, T.2.2 + 1)
def adL (k : Nat) : List Kd3 → TS → Int × TS
  | [], T => (0, T)
  | x :: es, T => if 40 < x.1.length then (-3, T) else if 120 ≤ T.2.2 then (-2, T) else adL k es (adT k T x)
def argL (xs : List Int) : Nat → Nat → List Kd3
  | 0, _ => []
  | t + 1, j => (sub xs (agp xs 0 j), -1, -1) :: argL xs t (j + 1)
def prtL (xs : List Int) (ss : List Nat) : List Kd3 := ss.map fun s => (sub xs s, -1, -1)
/-- what is kept while nodes are added below one -/
def TOK (T : TS) (k : Nat) : Prop := TI T.2.1 T.2.2 ∧ AKp T.2.1 k T.2.2 ∧ XOK T.1 T.2.1
theorem TOK.add {T : TS} {k : Nat} (h : TOK T k) (x : Kd3) (hx : wf 1 x.1 ∧ av x.1) (h1 : ¬ 40 < x.1.length) (h2 : T.2.2 < 120) : TOK (adT k T x) k := by
  obtain ⟨t1, t2, t3⟩ := h
  obtain ⟨⟨a1, a2⟩, ⟨A, B, a3, a4⟩, -⟩ := t1.add t2 h2 x.2.1 x.2.2
  refine ⟨a1, a2, fun y hy => ?_⟩
  show eok (upX T.1 T.2.2 x.1 y)
  by_cases q : y = T.2.2
  · subst q
    rw [upX_at]
    exact ⟨hx.1, hx.2, by omega⟩
  · rw [upX_ne q]
    refine t3 y ?_
    have hy : y ∈ lnF (adF T.2.1 k T.2.2 x.2.1 x.2.2) := hy
    rw [a4] at hy
    rw [a3]
    simp only [List.mem_append, List.mem_cons] at hy ⊢
    rcases hy with g | g | g | g | g
    · exact Or.inl g
    · exact Or.inr (Or.inl g)
    · exact Or.inr (Or.inr (Or.inl g))
    · exact absurd g q
    · exact Or.inr (Or.inr (Or.inr g))
theorem TOK.addL {k : Nat} : ∀ (es : List Kd3) (T : TS), TOK T k → (∀ x ∈ es, wf 1 x.1 ∧ av x.1) → TOK (adL k es T).2 k := by
  intro es
  induction es with
  | nil => intro T h _; exact h
  | cons x es ih =>
    intro T h hx
    unfold adL
    by_cases h1 : 40 < x.1.length
    · rw [if_pos h1]; exact h
    rw [if_neg h1]
    by_cases h2 : 120 ≤ T.2.2
    · rw [if_pos h2]; exact h
    rw [if_neg h2]
    exact ih _ (h.add x (hx x (by simp)) h1 (by omega)) fun y hy => hx y (List.mem_cons_of_mem _ hy)
theorem TOK.k {T : TS} {k : Nat} (h : TOK T k) : k ∈ lnF T.2.1 ∧ k < T.2.2 ∧ T.2.2 ≤ 120 := ⟨h.2.1.1.1, h.1.1.2.1 k h.2.1.1.1, h.1.1.2.2⟩
theorem adT_X {T : TS} {k y : Nat} {x : Kd3} (h : y < T.2.2) : (adT k T x).1 y = T.1 y := upX_ne (by omega)
theorem adT_ln {T : TS} {k y : Nat} {x : Kd3} (h : TOK T k) (hy : y ∈ lnF T.2.1) (h2 : T.2.2 < 120) : y ∈ lnF (adT k T x).2.1 := by
  obtain ⟨-, ⟨A, B, a3, a4⟩, -⟩ := h.1.add h.2.1 h2 x.2.1 x.2.2
  show y ∈ lnF (adF T.2.1 k T.2.2 x.2.1 x.2.2)
  rw [a3] at hy
  rw [a4]
  simp only [List.mem_append, List.mem_cons] at hy ⊢
  rcases hy with g | g | g | g
  · exact Or.inl g
  · exact Or.inr (Or.inl g)
  · exact Or.inr (Or.inr (Or.inl g))
  · exact Or.inr (Or.inr (Or.inr (Or.inr g)))
def daS : Nat → Nat → Prop := fun a j => (12 ≤ a ∧ a ≤ 20) ∨ a = 22 ∨ (a = 27 ∧ (j = 8 ∨ j = 9)) ∨ (30 ≤ a ∧ a < 754)
/-- the class's tree, with its rows to work in -/
def CTs (M : Mem) (T : TS) : Prop := TRc M T.1 T.2.1 T.2.2 ∧ (∃ ys, XE M 752 20480 ys) ∧ ∃ ys, XE M 750 256 ys
section ADDS
variable {M : Mem} {T : TS} {k : Nat}
theorem CTs.fq {M1 : Mem} {A R : Nat → Nat → Prop} (h : CTs M T) (hT : TI T.2.1 T.2.2) (f : Fq A R M M1) (h0 : ∀ a j, (30 ≤ a ∧ a < 754) ∨ (a = 27 ∧ (j = 8 ∨ j = 9)) → ¬ A a j) (h1 : ∀ a j, (30 ≤ a ∧ a < 750) ∨ a = 29 → ¬ R a j) : CTs M1 T := by
  obtain ⟨a, ⟨ys, b⟩, zs, c⟩ := h
  exact ⟨a.fq hT f (fun a j q => h0 a j (by omega)) h1, ⟨ys, b.ext fun a j q => f.2.2 a j (h0 a j (by omega))⟩, zs, c.ext fun a j q => f.2.2 a j (h0 a j (by omega))⟩
/-- a node more, out of the row to make in -/
theorem Tr_addMade_s (hG : Good M) (hT : TOK T k) (hC : CTs M T) {x : Kd3} (h11 : x.2.1 = -1 ∧ x.2.2 = -1) (hv : av x.1) (hX : XE M 752 20480 x.1) : ∃ M', Tr_addNode 27 (30 + 6 * k) 752 M = some (some (.inl (if 40 < x.1.length then -3 else if 120 ≤ T.2.2 then -2 else 0)), M') ∧ CTs M' (if 40 < x.1.length then T else if 120 ≤ T.2.2 then T else adT k T x) ∧ XE M' 752 20480 x.1 ∧ Good M' ∧ Fq anS anR M M' := by
  obtain ⟨a1, a2, a3⟩ := Tr_addNode_s hG hT.1 hT.2.1 hC.1 hX hv (by decide)
  by_cases h1 : 40 < x.1.length
  · rw [if_pos h1, if_pos h1, a1 h1]
    exact ⟨M, rfl, hC, hX, hG, Fq.refl⟩
  rw [if_neg h1, if_neg h1]
  by_cases h2 : 120 ≤ T.2.2
  · rw [if_pos h2, if_pos h2, a2 h1 h2]
    exact ⟨M, rfl, hC, hX, hG, Fq.refl⟩
  rw [if_neg h2, if_neg h2]
  obtain ⟨M', b1, b2, b3, b4⟩ := a3 h1 (by omega)
  obtain ⟨-, -, zs, c⟩ := hC
  have hX' : XE M' 752 20480 x.1 := hX.ext fun a j q => b4.2.2 a j (by unfold anS; omega)
  refine ⟨M', b1, ⟨?_, ⟨_, hX'⟩, zs, c.ext fun a j q => b4.2.2 a j (by unfold anS; omega)⟩, hX', b3, b4⟩
  unfold adT
  rw [h11.1, h11.2]
  exact b2
theorem Tr_addArguments_s : ∀ (t j : Nat) (T : TS) (M : Mem) (xs : List Int) (b : Nat) (d6 : LV), Good M → TOK T k → CTs M T → T.1 k = xs → wf (1 + b) (xs.drop 0) → arN (nth xs 0) - j = t → j ≤ arN (nth xs 0) → av xs → ∃ M', Tr_addArguments_20 27 (30 + 6 * k) 0 ((agp xs 0 j : Nat) : Int) ((arN (nth xs 0) : Nat) : Int) (j : Int) d6 M = some (some (.inl (adL k (argL xs t j) T).1), M') ∧ CTs M' (adL k (argL xs t j) T).2 ∧ Good M' ∧ Fq daS anR M M' := by
  intro t
  induction t with
  | zero =>
    intro j T M xs b d6 hG hT hC hxs hw h1 h2 hv
    rw [Tr_addArguments_20_eq, if_neg (by omega)]
    exact ⟨M, rfl, hC, hG, Fq.refl⟩
  | succ t ih =>
    intro j T M xs b d6 hG hT hC hxs hw h1 h2 hv
    obtain ⟨hk1, hk2, hk3⟩ := hT.k
    obtain ⟨x1, c, x2⟩ := agp_lt hw (k := j) (by omega)
    have hND := (hC.1.2.1 k hk1).1.1
    rw [hxs] at hND
    have h40 := hND.2.2
    have hal := arN_lt (nth xs 0)
    have hC' := hC
    obtain ⟨-, ⟨us, hm⟩, hp⟩ := hC'
    obtain ⟨M1, a1, a2, a3⟩ := Ex_clear_s hG hm
    have hG1 := hG.fi a3
    have hND1 : XE M1 (31 + 6 * k) 40 xs := hND.fi a3 (by unfold eS; omega) (by unfold eS; omega)
    have hbl := beh_le (xs := xs) (p := agp xs 0 j) (Nat.le_of_lt x1)
    have hbg := beh_gt x1
    obtain ⟨M2, b1, b2, b3⟩ := Ex_addPart_s hG1 a2 hND1 (by omega) (by omega) (by omega) (Nat.le_of_lt hbg) hbl (by simp only [List.length_nil]; omega)
    have hsub : (xs.drop (agp xs 0 j)).take (beh xs (agp xs 0 j) - agp xs 0 j) = sub xs (agp xs 0 j) := by
      unfold sub beh
      rw [Nat.add_sub_cancel_left]
    rw [hsub, List.nil_append] at b2
    have hG2 := hG1.fi b3
    have F2 : Fi (eS 752) M M2 := a3.trans b3
    have F2q : Fq (fun a _ => eS 752 a) nor M M2 := (F2.fj (T := fun a _ => eS 752 a) fun a j q => q).fq fun a j q => q
    have hC2 : CTs M2 T := ⟨hC.1.fq hT.1 F2q (by unfold eS; omega) (fun a j _ q => q), ⟨_, b2⟩, by
      obtain ⟨zs, hz⟩ := hp
      exact ⟨zs, hz.fi F2 (by unfold eS; omega) (by unfold eS; omega)⟩⟩
    have hsv : av (sub xs (agp xs 0 j)) := fun c hc => hv c (sub_mem hc)
    have hsw : wf 1 (sub xs (agp xs 0 j)) := (wf_sk _ _ _ x2).1
    obtain ⟨M3, c1, c2, -, c3, c4⟩ := Tr_addMade_s hG2 hT hC2 (x := (sub xs (agp xs 0 j), -1, -1)) ⟨rfl, rfl⟩ hsv b2
    have F3 : Fq daS anR M M3 := (F2q.mono (fun a j q => by unfold eS at q; unfold daS; omega) fun a j q => q.elim).trans (c4.mono (fun a j q => by unfold anS at q; unfold daS; omega) fun a j q => q)
    have hgp : (1 : Nat) ≤ agp xs 0 j := agp_gt xs 0 j
    rw [Tr_addArguments_20_eq, if_pos (by omega), if_pos rfl, hG.nd (by omega), gd_t, (hG.ndr (x := k) (by omega)).1, hND.g hG, gd_t, Ex_behind_s hG hND hv (Nat.le_of_lt x1), cI_s, hG.gT, gd_t, hG.r27_5, hm.g hG, gd_t, a1, cV_s, hG1.gT, gd_t, hG1.nd (by omega), gd_t, hG1.r27_5, a2.g hG1, gd_t, (hG1.ndr (x := k) (by omega)).1, b1, cV_s, hG2.gT, gd_t, gd_t, hG2.r27_5, c1, cI_s, ← agp_s, wr_s (by omega)]
    unfold argL adL
    by_cases h1' : 40 < (sub xs (agp xs 0 j)).length
    · simp only [if_pos h1'] at c2 ⊢
      rw [Tr_addArguments_20_eq]
      refine ⟨M3, ?_, c2, c3, F3⟩
      rw [if_neg (show ¬ (-3 : Int) = 0 by decide)]
      split <;> rfl
    · simp only [if_neg h1'] at c2 ⊢
      by_cases h2' : 120 ≤ T.2.2
      · simp only [if_pos h2'] at c2 ⊢
        rw [Tr_addArguments_20_eq]
        refine ⟨M3, ?_, c2, c3, F3⟩
        rw [if_neg (show ¬ (-2 : Int) = 0 by decide)]
        split <;> rfl
      · simp only [if_neg h2'] at c2 ⊢
        obtain ⟨M4, d1, d2, d3, d4⟩ := ih (j + 1) (adT k T (sub xs (agp xs 0 j), -1, -1)) M3 xs b (some (.inl ((agp xs 0 (j + 1) : Nat) : Int))) c3 (hT.add _ ⟨hsw, hsv⟩ h1' (by omega)) c2 (by rw [adT_X hk2]; exact hxs) hw (by omega) (by omega) hv
        exact ⟨M4, d1, d2, d3, F3.trans d4⟩
/-- the parts that the matcher kept -/
def MPt (M : Mem) (xs : List Int) (ss : List Nat) : Prop := mI M 12 10 = (ss.length : Int) ∧ ∀ (i s : Nat), ss[i]? = some s → mI M 15 i = (s : Int) ∧ mI M 16 i = (beh xs s : Int)
theorem Tr_addParts_loop {ss : List Nat} (hss : ss.length ≤ 40) {q : Nat} : ∀ (t i : Nat) (T : TS) (M : Mem) (xs : List Int), Good M → TOK T k → CTs M T → T.1 q = xs → q ∈ lnF T.2.1 → wf 1 xs → av xs → MPt M xs ss → (∀ s ∈ ss, s < xs.length) → ss.length - i = t → i ≤ ss.length → ∃ M', Tr_addParts_13 27 (30 + 6 * k) (31 + 6 * q) 0 (i : Int) M = some (some (.inl (adL k (prtL xs (ss.drop i)) T).1), M') ∧ CTs M' (adL k (prtL xs (ss.drop i)) T).2 ∧ Good M' ∧ Fq daS anR M M' := by
  intro t
  induction t with
  | zero =>
    intro i T M xs hG hT hC hxs hqL hw hv hM hsl h1 h2
    rw [List.drop_eq_nil_of_le (by omega), Tr_addParts_13_eq, hG.gT, gd_t, hG.r27_1, hG.gMa, gd_t, hM.1, if_neg (by omega)]
    exact ⟨M, rfl, hC, hG, Fq.refl⟩
  | succ t ih =>
    intro i T M xs hG hT hC hxs hqL hw hv hM hsl h1 h2
    obtain ⟨hk1, hk2, hk3⟩ := hT.k
    have hqm := hT.1.1.2.1 q hqL
    have hi : i < ss.length := by omega
    have hg : ss[i]? = some ss[i] := List.getElem?_eq_getElem hi
    have hsi := hsl _ (List.mem_of_getElem? hg)
    obtain ⟨m1, m2⟩ := hM.2 i _ hg
    obtain ⟨b, hb⟩ := wf_at hw hsi
    rw [List.drop_eq_getElem_cons hi]
    generalize ss[i] = s at *
    have hND := (hC.1.2.1 q hqL).1.1
    rw [hxs] at hND
    have h40 := hND.2.2
    have hC' := hC
    obtain ⟨-, ⟨us, hm⟩, hp⟩ := hC'
    obtain ⟨M1, a1, a2, a3⟩ := Ex_clear_s hG hm
    have hG1 := hG.fi a3
    have hND1 : XE M1 (31 + 6 * q) 40 xs := hND.fi a3 (by unfold eS; omega) (by unfold eS; omega)
    have hbl := beh_le (xs := xs) (p := s) (Nat.le_of_lt hsi)
    have hbg := beh_gt hsi
    obtain ⟨M2, b1, b2, b3⟩ := Ex_addPart_s hG1 a2 hND1 (by omega) (by omega) (by omega) (Nat.le_of_lt hbg) hbl (by simp only [List.length_nil]; omega)
    have hsub : (xs.drop s).take (beh xs s - s) = sub xs s := by
      unfold sub beh
      rw [Nat.add_sub_cancel_left]
    rw [hsub, List.nil_append] at b2
    have hG2 := hG1.fi b3
    have F2 : Fi (eS 752) M M2 := a3.trans b3
    have F2q : Fq (fun a _ => eS 752 a) nor M M2 := (F2.fj (T := fun a _ => eS 752 a) fun a j q => q).fq fun a j q => q
    have hC2 : CTs M2 T := ⟨hC.1.fq hT.1 F2q (by unfold eS; omega) (fun a j _ q => q), ⟨_, b2⟩, by
      obtain ⟨zs, hz⟩ := hp
      exact ⟨zs, hz.fi F2 (by unfold eS; omega) (by unfold eS; omega)⟩⟩
    have hsv : av (sub xs s) := fun c hc => hv c (sub_mem hc)
    have hsw : wf 1 (sub xs s) := (wf_sk _ _ _ hb).1
    obtain ⟨M3, c1, c2, -, c3, c4⟩ := Tr_addMade_s hG2 hT hC2 (x := (sub xs s, -1, -1)) ⟨rfl, rfl⟩ hsv b2
    have F3 : Fq daS anR M M3 := (F2q.mono (fun a j q => by unfold eS at q; unfold daS; omega) fun a j q => q.elim).trans (c4.mono (fun a j q => by unfold anS at q; unfold daS; omega) fun a j q => q)
    have g12' : ∀ a j, (a = 12 ∨ a = 15 ∨ a = 16) → mI M3 a j = mI M a j := fun a j q => (c4.2.2 _ _ (by unfold anS; omega)).trans (F2.2.2 _ (by unfold eS; omega) _)
    have e1 : mI M1 15 i = (s : Int) := (a3.2.2 _ (by unfold eS; omega) _).trans m1
    have e2 : mI M1 16 i = (beh xs s : Int) := (a3.2.2 _ (by unfold eS; omega) _).trans m2
    rw [Tr_addParts_13_eq, hG.gT, gd_t, hG.r27_1, hG.gMa, gd_t, hM.1, if_pos (by omega), if_pos rfl, gd_t, hG.r27_5, hm.g hG, gd_t, a1, cV_s, hG1.gT, gd_t, gd_t, hG1.r27_1, hG1.gMa, gd_t, hG1.r12_2, hG1.tgS arr_15 (by omega) (by omega), gd_t, gd_t, gd_t, hG1.r12_3, hG1.tgS arr_16 (by omega) (by omega), gd_t, hG1.r27_5, a2.g hG1, gd_t, toNat_n, e1, e2, b1, cV_s, hG2.gT, gd_t, gd_t, hG2.r27_5, c1, cI_s, wr_s (by omega)]
    rw [show prtL xs (s :: ss.drop (i + 1)) = (sub xs s, -1, -1) :: prtL xs (ss.drop (i + 1)) from rfl]
    unfold adL
    have ends : ∀ v : Int, ¬ v = 0 → Tr_addParts_13 27 (30 + 6 * k) (31 + 6 * q) v ((i + 1 : Nat) : Int) M3 = some (some (.inl v), M3) := by
      intro v hv0
      rw [Tr_addParts_13_eq, c3.gT, gd_t, c3.r27_1, c3.gMa, gd_t, if_neg hv0]
      split <;> rfl
    by_cases h1' : 40 < (sub xs s).length
    · simp only [if_pos h1'] at c2 ⊢
      exact ⟨M3, ends _ (by decide), c2, c3, F3⟩
    · simp only [if_neg h1'] at c2 ⊢
      by_cases h2' : 120 ≤ T.2.2
      · simp only [if_pos h2'] at c2 ⊢
        exact ⟨M3, ends _ (by decide), c2, c3, F3⟩
      · simp only [if_neg h2'] at c2 ⊢
        have hT' := hT.add (sub xs s, -1, -1) ⟨hsw, hsv⟩ h1' (by omega)
        have hqL' : q ∈ lnF (adT k T (sub xs s, -1, -1)).2.1 := adT_ln hT hqL (by omega)
        obtain ⟨M4, d1, d2, d3, d4⟩ := ih (i + 1) (adT k T (sub xs s, -1, -1)) M3 xs c3 hT' c2 (by rw [adT_X hqm]; exact hxs) hqL' hw hv ⟨(g12' _ _ (by omega)).trans hM.1, fun i s hs => ⟨(g12' _ _ (by omega)).trans (hM.2 i s hs).1, (g12' _ _ (by omega)).trans (hM.2 i s hs).2⟩⟩ hsl (by omega) (by omega)
        exact ⟨M4, d1, d2, d3, F3.trans d4⟩
theorem Tr_addParts_s {ss : List Nat} (hss : ss.length ≤ 40) {q : Nat} {xs r : List Int} (hG : Good M) (hT : TOK T k) (hC : CTs M T) (hxs : T.1 q = xs) (hqL : q ∈ lnF T.2.1) (hw : wf 1 xs) (hv : av xs) (hM : MPt M xs ss) (hsl : ∀ s ∈ ss, s < xs.length) (hr : XE M 752 20480 r) (hrw : wf 1 r) (hrv : av r) : ∃ M', Tr_addParts 27 (30 + 6 * k) (31 + 6 * q) M = some (some (.inl (adL k ((r, -1, -1) :: prtL xs ss) T).1), M') ∧ CTs M' (adL k ((r, -1, -1) :: prtL xs ss) T).2 ∧ Good M' ∧ Fq daS anR M M' := by
  have hqm := hT.1.1.2.1 q hqL
  obtain ⟨M3, c1, c2, -, c3, c4⟩ := Tr_addMade_s hG hT hC (x := (r, -1, -1)) ⟨rfl, rfl⟩ hrv hr
  have F3 : Fq daS anR M M3 := c4.mono (fun a j q => by unfold anS at q; unfold daS; omega) fun a j q => q
  have g12' : ∀ a j, (a = 12 ∨ a = 15 ∨ a = 16) → mI M3 a j = mI M a j := fun a j q => c4.2.2 _ _ (by unfold anS; omega)
  rw [Tr_addParts_eq, hG.gT, gd_t, gd_t, hG.r27_5, c1, cI_s]
  unfold adL
  have ends : ∀ v : Int, ¬ v = 0 → Tr_addParts_13 27 (30 + 6 * k) (31 + 6 * q) v 0 M3 = some (some (.inl v), M3) := by
    intro v hv0
    rw [Tr_addParts_13_eq, c3.gT, gd_t, c3.r27_1, c3.gMa, gd_t, if_neg hv0]
    split <;> rfl
  by_cases h1' : 40 < r.length
  · simp only [if_pos h1'] at c2 ⊢
    exact ⟨M3, ends _ (by decide), c2, c3, F3⟩
  · simp only [if_neg h1'] at c2 ⊢
    by_cases h2' : 120 ≤ T.2.2
    · simp only [if_pos h2'] at c2 ⊢
      exact ⟨M3, ends _ (by decide), c2, c3, F3⟩
    · simp only [if_neg h2'] at c2 ⊢
      have hT' := hT.add (r, -1, -1) ⟨hrw, hrv⟩ h1' (by omega)
      have hqL' : q ∈ lnF (adT k T (r, -1, -1)).2.1 := adT_ln hT hqL (by omega)
      obtain ⟨M4, d1, d2, d3, d4⟩ := Tr_addParts_loop hss _ 0 (adT k T (r, -1, -1)) M3 xs c3 hT' c2 (by rw [adT_X hqm]; exact hxs) hqL' hw hv ⟨(g12' _ _ (by omega)).trans hM.1, fun i s hs => ⟨(g12' _ _ (by omega)).trans (hM.2 i s hs).1, (g12' _ _ (by omega)).trans (hM.2 i s hs).2⟩⟩ hsl rfl (Nat.zero_le _)
      rw [List.drop_zero] at d1 d2
      exact ⟨M4, d1, d2, d3, F3.trans d4⟩
end ADDS

/-! ===== instances ===== -/
abbrev Prs : Type := List (Int × Nat)
def pvx (ps : Prs) : List Int := ps.map fun q => q.1
def pst (ps : Prs) (k : Int) : Nat := (ps.getD k.toNat (0, 0)).2
/-- whether a row is one with parts in place of VARS: those parts -/
def insg (xs : List Int) : List Int → Nat → Prs → Option Prs
  | [], _, ps => some ps
  | c :: ys, p, ps => if kd c = 0 then (if ix (pvx ps) c = -1 then insg xs ys (beh xs p) (ps ++ [(c, p)]) else if same xs (pst ps (ix (pvx ps) c)) xs p = true then insg xs ys (beh xs p) ps else none) else if c = nth xs p then insg xs ys (p + 1) ps else none
def okO {α : Type} (x : Option α) : Int := match x with
  | some _ => 1
  | none => 0
theorem pvx_len (ps : Prs) : (pvx ps).length = ps.length := List.length_map ..
theorem pvx_app (ps : Prs) (q : Int × Nat) : pvx (ps ++ [q]) = pvx ps ++ [q.1] := by unfold pvx; rw [List.map_append]; rfl
theorem pst_get {ps : Prs} {k : Nat} {q : Int × Nat} (h : ps[k]? = some q) : pst ps (k : Int) = q.2 := by
  unfold pst
  rw [toNat_n, List.getD_eq_getElem?_getD, h]
  rfl
theorem wf_at {xs : List Int} {w p : Nat} (hw : wf w xs) (hp : p < xs.length) : ∃ b, wf (1 + b) (xs.drop p) := by
  obtain ⟨b, hb⟩ := wf_drop xs w p hw (by omega)
  rw [drop_cons hp] at hb ⊢
  obtain ⟨v, rfl, hv⟩ := wf_pos hb
  exact ⟨v, by rw [Nat.add_comm]; exact hv⟩
theorem wf_beh {xs : List Int} {v p : Nat} (h : wf (v + 1) (xs.drop p)) : wf v (xs.drop (beh xs p)) := by
  rw [Nat.add_comm] at h
  have := (wf_sk _ _ _ h).2
  rw [List.drop_drop] at this
  exact this
theorem wf_next {xs : List Int} {v p : Nat} (hp : p < xs.length) (h : wf (v + 1) (xs.drop p)) : wf (v + arN (nth xs p)) (xs.drop (p + 1)) := by
  rw [drop_cons hp] at h
  exact h
theorem wf_some {xs : List Int} {v p : Nat} (h : wf (v + 1) (xs.drop p)) : p < xs.length := by
  by_cases q : p < xs.length
  · exact q
  · rw [List.drop_eq_nil_of_le (by omega), wf_nil] at h
    omega
/-- all begin in it -/
def psl (xs : List Int) (ps : Prs) : Prop := ∀ q ∈ ps, q.2 < xs.length
theorem psl.app {xs : List Int} {ps : Prs} (h : psl xs ps) {c : Int} {p : Nat} (hp : p < xs.length) : psl xs (ps ++ [(c, p)]) := fun q hq => (List.mem_append.mp hq).elim (h q) fun e => by rw [List.mem_singleton.mp e]; exact hp
/-- parts of the class's matcher -/
def MIc (M : Mem) (xs : List Int) (ps : Prs) : Prop := (mI M 12 10 = (ps.length : Int) ∧ RW M 13 0 (pvx ps)) ∧ ∀ k q, ps[k]? = some q → mI M 15 k = (q.2 : Int) ∧ mI M 16 k = (beh xs q.2 : Int)
def miS : Nat → Nat → Prop := fun a k => a = 13 ∨ a = 15 ∨ a = 16 ∨ (a = 12 ∧ k = 10)
theorem obj_Ma : obj 12 3 := obj_of _ _ (by decide)
theorem Good.gMa {M : Mem} (h : Good M) : gO M 12 3 = true := h.tgO obj_Ma
theorem arr_13 : arr 13 0 40 := arr_of _ _ _ (by decide)
theorem arr_14 : arr 14 0 40 := arr_of _ _ _ (by decide)
theorem arr_15 : arr 15 0 40 := arr_of _ _ _ (by decide)
theorem arr_16 : arr 16 0 40 := arr_of _ _ _ (by decide)
section INST
variable {M : Mem} {e f n m : Nat} {xs ys : List Int} {ps : Prs}
theorem Ma_standFor_s (hG : Good M) (hX : XE M e n xs) (hv : av xs) (hw : wf 1 xs) (h1 : MIc M xs ps) (hps : psl xs ps) (hl : ps.length < 40) {p : Nat} (hp : p < xs.length) (he : 16 < e) (c : Int) : (ix (pvx ps) c = -1 → ∃ M', Ma_standFor 12 c e (p : Int) M = some (some (.inl 1), M') ∧ MIc M' xs (ps ++ [(c, p)]) ∧ Fj miS M M') ∧ (ix (pvx ps) c ≠ -1 → Ma_standFor 12 c e (p : Int) M = some (some (.inl (if same xs (pst ps (ix (pvx ps) c)) xs p = true then 1 else 0)), M)) := by
  have hxl := hX.lt
  have hi := Ex_indexOf_s hG arr_13 h1.1.2 (by rw [pvx_len]; omega) (by decide) c
  rw [pvx_len] at hi
  rw [Ma_standFor_eq, hG.gMa, gd_t, gd_t, hG.r12_0, h1.1.1, hi, cI_s]
  by_cases hm : ix (pvx ps) c = -1
  · refine ⟨fun _ => ?_, fun q => absurd hm q⟩
    have f1 : Fj miS M (stI (stI M 13 ps.length c) 15 ps.length (p : Int)) := (Fj.ofI (by unfold miS; omega)).trans (Fj.ofI (by unfold miS; omega))
    have hG1 := hG.fj f1
    have hX1 : XE (stI (stI M 13 ps.length c) 15 ps.length (p : Int)) e n xs := hX.fj f1 (by unfold miS; omega) (by unfold miS; omega)
    have hbl := beh_le (xs := xs) (p := p) (by omega)
    have e10 : mI (stI M 13 ps.length c) 12 10 = (ps.length : Int) := by rw [mI_ne (by omega)]; exact h1.1.1
    have e10b : mI (stI (stI M 13 ps.length c) 15 ps.length (p : Int)) 12 10 = (ps.length : Int) := by rw [mI_ne (by omega)]; exact e10
    have e10c : mI (stI (stI (stI M 13 ps.length c) 15 ps.length (p : Int)) 16 ps.length (beh xs p : Int)) 12 10 = (ps.length : Int) := by rw [mI_ne (by omega)]; exact e10b
    rw [if_pos hm, hG.gMa, gd_t, h1.1.1, if_pos (by omega), gd_t, gd_t, hG.r12_0, hG.tgS arr_13 (by omega) (by omega), gd_t, gd_t, gd_t, toNat_n, e10, hG.r12_2, hG.tgS arr_15 (by omega) (by omega), gd_t, gd_t, gd_t, hX.g hG, gd_t, toNat_n, Ex_behind_s hG1 hX1 hv (by omega), cI_s, hG.r12_3, e10b, hG1.tgS arr_16 (by omega) (by omega), gd_t, hG1.gMa, gd_t, gd_t, toNat_n, e10c, wr_s (by omega)]
    refine ⟨_, rfl, ⟨⟨by rw [mI_at, List.length_append]; rfl, fun i hi => ?_⟩, fun k q hq => ?_⟩, (f1.trans (Fj.ofI (by unfold miS; omega))).trans (Fj.ofI (by unfold miS; omega))⟩
    · rw [pvx_len, List.length_append, List.length_singleton] at hi
      rw [Nat.zero_add, mI_ne (by omega), mI_ne (by omega), mI_ne (by omega), pvx_app]
      by_cases q : i = ps.length
      · subst q; rw [mI_at, nth_app2 (by rw [pvx_len]; exact Nat.le_refl _), pvx_len, Nat.sub_self]; rfl
      · rw [mI_ne (by omega), nth_app1 (by rw [pvx_len]; omega)]
        have := h1.1.2 i (by rw [pvx_len]; omega)
        rwa [Nat.zero_add] at this
    · by_cases g : k = ps.length
      · subst g
        rw [List.getElem?_append_right (Nat.le_refl _), Nat.sub_self] at hq
        cases hq
        refine ⟨?_, ?_⟩
        · rw [mI_ne (by omega), mI_ne (by omega), mI_at]
        · rw [mI_ne (by omega), mI_at]
      · have hk : k < ps.length := by
          have := (List.getElem?_eq_some_iff.mp hq).1
          rw [List.length_append, List.length_singleton] at this
          omega
        rw [List.getElem?_append_left hk] at hq
        refine ⟨?_, ?_⟩
        · rw [mI_ne (by omega), mI_ne (by omega), mI_ne (by omega), mI_ne (by omega)]
          exact (h1.2 k q hq).1
        · rw [mI_ne (by omega), mI_ne (by omega), mI_ne (by omega), mI_ne (by omega)]
          exact (h1.2 k q hq).2
  · refine ⟨fun q => absurd q hm, fun _ => ?_⟩
    have hrg := ix_rng (pvx ps) c
    rw [pvx_len] at hrg
    obtain ⟨k, hk⟩ := Int.eq_ofNat_of_zero_le (show 0 ≤ ix (pvx ps) c by omega)
    rw [hk] at hm hrg ⊢
    have hg : ps[k]? = some ps[k] := List.getElem?_eq_getElem (by omega)
    obtain ⟨a, ha⟩ := wf_at hw (hps _ (List.mem_of_getElem? hg))
    obtain ⟨b, hb⟩ := wf_at hw hp
    rw [if_neg hm, hG.gMa, gd_t, hG.r12_2, hG.tgS arr_15 (by omega) (by omega), gd_t, hX.g hG, gd_t, toNat_n, (h1.2 k _ hg).1, Ex_samePart_s hG hX hv hX ha hb, cI_s, pst_get hg]
    split <;> rfl
theorem Ma_isInstance_loop (he : 16 < e) (hf : 16 < f) (hv : av xs) (hw : wf 1 xs) (hvy : av ys) (hl : ys.length ≤ 40) : ∀ (t i p w : Nat) (ps : Prs) (M : Mem) (d : LV), ys.length - i = t → i ≤ ys.length → p ≤ xs.length → wf w (xs.drop p) → wf w (ys.drop i) → Good M → XE M e n xs → XE M f m ys → MIc M xs ps → psl xs ps → ps.length ≤ i → ∃ M', Ma_isInstance_10 12 e f (p : Int) (i : Int) d M = some (some (.inl (okO (insg xs (ys.drop i) p ps))), M') ∧ (∀ qs, insg xs (ys.drop i) p ps = some qs → MIc M' xs qs ∧ psl xs qs ∧ qs.length ≤ ys.length) ∧ Fj miS M M' := by
  intro t
  induction t with
  | zero =>
    intro i p w ps M d e1 e2 e3 hwx hwy hG hX hY hI hps hpl
    have hi : ys.drop i = [] := List.drop_eq_nil_of_le (by omega)
    rw [hi, wf_nil] at hwy
    subst hwy
    have hp : p = xs.length := by
      by_cases q : p < xs.length
      · rw [drop_cons q] at hwx; exact hwx.elim
      · omega
    rw [hi, Ma_isInstance_10_eq, hY.g hG, gd_t, hY.s, if_neg (by omega), hX.g hG, gd_t, hX.s, if_pos (by omega)]
    exact ⟨M, rfl, fun qs h => by cases h; exact ⟨hI, hps, by omega⟩, Fj.refl⟩
  | succ t ih =>
    intro i p w ps M d e1 e2 e3 hwx hwy hG hX hY hI hps hpl
    have hi : i < ys.length := by omega
    have hxl := hX.lt
    rw [drop_cons hi] at hwy ⊢
    obtain ⟨v, rfl, hwy2⟩ := wf_pos hwy
    have hp := wf_some hwx
    have hc := av_nth hvy hi
    have hcell : Ex_cellAt f (i : Int) M = some (some (.inl (nth ys i)), M) := by rw [Ex_cellAt_s hG hY, cA_n hi]
    rw [Ma_isInstance_10_eq, hY.g hG, gd_t, hY.s, if_pos (by omega), gd_t, hcell, cI_s, hX.g hG, gd_t, hX.s, if_pos (by omega), Ex_kind_s hc.inR, cI_s]
    unfold insg
    by_cases hk : kd (nth ys i) = 0
    · have ha0 : arN (nth ys i) = 0 := by have := hc.2.1 hk; have := arN_ar (nth ys i); omega
      rw [ha0, Nat.add_zero] at hwy2
      obtain ⟨s1, s2⟩ := Ma_standFor_s hG hX hv hw hI hps (by omega) hp he (nth ys i)
      rw [if_pos hk, if_pos hk, hG.gMa, gd_t]
      by_cases hm : ix (pvx ps) (nth ys i) = -1
      · obtain ⟨M1, a1, a2, a3⟩ := s1 hm
        have hG1 := hG.fj a3
        have hX1 := hX.fj a3 (by unfold miS; omega) (by unfold miS; omega)
        have hY1 := hY.fj a3 (by unfold miS; omega) (by unfold miS; omega)
        obtain ⟨M2, b1, b2, b3⟩ := ih (i + 1) (beh xs p) v (ps ++ [(nth ys i, p)]) M1 (some (.inl (nth ys i))) (by omega) (by omega) (beh_le (by omega)) (wf_beh hwx) hwy2 hG1 hX1 hY1 a2 (hps.app hp) (by rw [List.length_append, List.length_singleton]; omega)
        rw [if_pos hm, a1, cI_s, if_neg (by decide), hX1.g hG1, gd_t, Ex_behind_s hG1 hX1 hv (by omega), cI_s, wr_s (by omega), b1]
        exact ⟨M2, rfl, b2, a3.trans b3⟩
      · rw [if_neg hm, s2 hm, cI_s]
        by_cases hs : same xs (pst ps (ix (pvx ps) (nth ys i))) xs p = true
        · obtain ⟨M2, b1, b2, b3⟩ := ih (i + 1) (beh xs p) v ps M (some (.inl (nth ys i))) (by omega) (by omega) (beh_le (by omega)) (wf_beh hwx) hwy2 hG hX hY hI hps (by omega)
          rw [if_pos hs, if_pos hs, if_neg (by decide), hX.g hG, gd_t, Ex_behind_s hG hX hv (by omega), cI_s, wr_s (by omega), b1]
          exact ⟨M2, rfl, b2, b3⟩
        · rw [if_neg hs, if_neg hs, if_pos rfl]
          exact ⟨M, rfl, fun qs h => (by cases h), Fj.refl⟩
    · rw [if_neg hk, if_neg hk, hX.g hG, gd_t, Ex_cellAt_s hG hX, cA_n hp, cI_s]
      by_cases hq : nth ys i = nth xs p
      · have hwx2 := wf_next hp hwx
        obtain ⟨M2, b1, b2, b3⟩ := ih (i + 1) (p + 1) (v + arN (nth ys i)) ps M (some (.inl (nth ys i))) (by omega) (by omega) (by omega) (by rw [hq]; exact hwx2) hwy2 hG hX hY hI hps (by omega)
        rw [if_pos hq, if_pos hq, wr_s (by omega), wr_s (by omega), b1]
        exact ⟨M2, rfl, b2, b3⟩
      · rw [if_neg hq, if_neg hq]
        exact ⟨M, rfl, fun qs h => (by cases h), Fj.refl⟩
theorem Ma_isInstance_s (he : 16 < e) (hf : 16 < f) (hv : av xs) (hw : wf 1 xs) (hvy : av ys) (hwy : wf 1 ys) (hl : ys.length ≤ 40) (hG : Good M) (hX : XE M e n xs) (hY : XE M f m ys) : ∃ M', Ma_isInstance 12 e f M = some (some (.inl (okO (insg xs ys 0 []))), M') ∧ (∀ qs, insg xs ys 0 [] = some qs → MIc M' xs qs ∧ psl xs qs ∧ qs.length ≤ ys.length) ∧ Fj miS M M' := by
  have f1 : Fj miS M (stI M 12 10 0) := Fj.ofI (by unfold miS; omega)
  obtain ⟨M', a1, a2, a3⟩ := Ma_isInstance_loop (e := e) (f := f) he hf hv hw hvy hl _ 0 0 1 [] (stI M 12 10 0) none rfl (Nat.zero_le _) (Nat.zero_le _) hw hwy (hG.fj f1) (hX.fj f1 (by unfold miS; omega) (by unfold miS; omega)) (hY.fj f1 (by unfold miS; omega) (by unfold miS; omega)) ⟨⟨mI_at, fun i hi => absurd hi (Nat.not_lt_zero i)⟩, fun k q hq => by rw [List.getElem?_nil] at hq; cases hq⟩ (fun q hq => by cases hq) (Nat.zero_le _)
  rw [List.drop_zero] at a1 a2
  have a1 : Ma_isInstance_10 12 e f 0 0 none (stI M 12 10 0) = _ := a1
  rw [Ma_isInstance_eq, hG.gMa, gd_t, a1]
  exact ⟨M', rfl, a2, f1.trans a3⟩
end INST

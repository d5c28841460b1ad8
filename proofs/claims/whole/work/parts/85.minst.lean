/-! ===== instances: the reference ===== -/
/-- the names of pairs are VARS -/
def pvk (ps : Prs) : Prop := ∀ q ∈ ps, vc q.1 ∧ kd q.1 = 0
def MIm (M : Mem) (o : Nat) (ps : Prs) : Prop := mI M 1269 56 = (ps.length : Int) ∧ ∀ k q, ps[k]? = some q → mI M 1302 k = nmo q.1 ∧ mI M 1303 k = ((o + q.2 : Nat) : Int)
def mimS : Nat → Nat → Prop := fun a k => a = 1302 ∨ a = 1303 ∨ (a = 1269 ∧ k = 56)
theorem arr_1302 : arr 1302 0 120 := arr_of _ _ _ (by decide)
theorem arr_1303 : arr 1303 0 120 := arr_of _ _ _ (by decide)
theorem arr_1304 : arr 1304 0 120 := arr_of _ _ _ (by decide)
theorem pvk.app {ps : Prs} (h : pvk ps) {c : Int} {p : Nat} (hc : vc c) (h0 : kd c = 0) : pvk (ps ++ [(c, p)]) := fun q hq => (List.mem_append.mp hq).elim (h q) fun e => by rw [List.mem_singleton.mp e]; exact ⟨hc, h0⟩
section MINST
variable {M : Mem} {A B n m o o2 : Nat} {xs ys : List Int} {ps : Prs}
theorem nth_pvx {ps : Prs} {k : Nat} {q : Int × Nat} (h : ps[k]? = some q) : nth (pvx ps) k = q.1 := by
  unfold nth pvx
  rw [List.getD_eq_getElem?_getD, List.getElem?_map, h]
  rfl
theorem M_inst_find (hG : Good M) (hY : RX M B m o2 ys) (hI : MIm M o ps) (hk : pvk ps) (hpl : ps.length ≤ 100) {i : Nat} (hi : i < ys.length) (h0 : kd (nth ys i) = 0) (i5 i6 : Int) (d2 d4 : LV) : ∀ (t k : Nat), ps.length - k = t → k ≤ ps.length → M_isInstance_59 1269 A B i5 i6 ((o2 + i : Nat) : Int) (k : Int) d2 d4 M = M_isInstance_91 1269 A B i5 i6 ((o2 + i : Nat) : Int) (if ixo (nth ys i) ((pvx ps).drop k) k = -1 then (ps.length : Int) else ixo (nth ys i) ((pvx ps).drop k) k) d2 d4 M := by
  have hc := hY.v hi
  have hcell : mI M B (o2 + i) = cm (nth ys i) := hY.2.1 i hi
  intro t
  induction t with
  | zero =>
    intro k e1 e2
    have hd : (pvx ps).drop k = [] := List.drop_eq_nil_of_le (by rw [pvx_len]; omega)
    rw [hd, M_isInstance_59_eq, hG.gM, gd_t, hI.1, if_neg (by omega)]
    rw [show ixo (nth ys i) [] k = -1 from rfl, if_pos rfl, show (k : Int) = (ps.length : Int) by omega]
  | succ t ih =>
    intro k e1 e2
    have hkl : k < ps.length := by omega
    have hg : ps[k]? = some ps[k] := List.getElem?_eq_getElem hkl
    obtain ⟨g1, -⟩ := hI.2 k _ hg
    obtain ⟨v1, v2⟩ := hk _ (List.mem_of_getElem? hg)
    rw [drop_cons (xs := pvx ps) (by rw [pvx_len]; exact hkl), nth_pvx hg, M_isInstance_59_eq, hG.gM, gd_t, hI.1, if_pos (by omega), gd_t, hG.m53, hG.tgS arr_1302 (by omega) (by omega), gd_t, hY.gs hG hi, gd_t, toNat_n, toNat_n, hcell, M_nameOf_s hc, cI_s, g1, wr_s (by omega), ih (k + 1) (by omega) (by omega)]
    rw [show ixo (nth ys i) (ps[k].1 :: (pvx ps).drop (k + 1)) k = if ps[k].1 = nth ys i then (k : Int) else ixo (nth ys i) ((pvx ps).drop (k + 1)) (k + 1) from rfl]
    by_cases he : ps[k].1 = nth ys i
    · rw [if_pos ((nmo_var v1 hc v2 h0).mpr he), if_pos he, if_neg (by omega)]
    · rw [if_neg (fun q => he ((nmo_var v1 hc v2 h0).mp q)), if_neg he]
theorem MIm.push (h : MIm M o ps) {c : Int} {p : Nat} : MIm (stI (stI (stI M 1302 ps.length (nmo c)) 1303 ps.length ((o + p : Nat) : Int)) 1269 56 ((ps.length + 1 : Nat) : Int)) o (ps ++ [(c, p)]) := by
  refine ⟨by rw [mI_at, List.length_append]; rfl, fun k q hq => ?_⟩
  by_cases g : k = ps.length
  · subst g
    rw [List.getElem?_append_right (Nat.le_refl _), Nat.sub_self] at hq
    cases hq
    refine ⟨?_, ?_⟩
    · rw [mI_ne (by omega), mI_ne (by omega), mI_at]
    · rw [mI_ne (by omega), mI_at]
  · have hk : k < ps.length := by
      have := (List.getElem?_eq_some_iff.mp hq).1
      rw [List.length_append, List.length_singleton] at this
      omega
    rw [List.getElem?_append_left hk] at hq
    refine ⟨?_, ?_⟩
    · rw [mI_ne (by omega), mI_ne (by omega), mI_ne (by omega)]
      exact (h.2 k q hq).1
    · rw [mI_ne (by omega), mI_ne (by omega), mI_ne (by omega)]
      exact (h.2 k q hq).2
theorem M_isInstance_loop (hA : A ≠ 1302 ∧ A ≠ 1303 ∧ A ≠ 1269) (hB : B ≠ 1302 ∧ B ≠ 1303 ∧ B ≠ 1269) (hw : wf 1 xs) (hl : ys.length ≤ 40) (d2 d4 : LV) : ∀ (t i p w : Nat) (ps : Prs) (M : Mem) (d : LV), ys.length - i = t → i ≤ ys.length → p ≤ xs.length → wf w (xs.drop p) → wf w (ys.drop i) → Good M → RX M A n o xs → RX M B m o2 ys → MIm M o ps → psl xs ps → pvk ps → ps.length ≤ i → ∃ M', M_isInstance_20 1269 A B ((o + p : Nat) : Int) ((o2 + ys.length : Nat) : Int) ((o2 + i : Nat) : Int) d2 d4 d M = some (some (.inl (okO (insg xs (ys.drop i) p ps))), M') ∧ (∀ qs, insg xs (ys.drop i) p ps = some qs → MIm M' o qs ∧ psl xs qs ∧ pvk qs ∧ qs.length ≤ ys.length) ∧ Fj mimS M M' := by
  intro t
  induction t with
  | zero =>
    intro i p w ps M d e1 e2 e3 hwx hwy hG hX hY hI hps hpk hpl
    have hi : ys.drop i = [] := List.drop_eq_nil_of_le (by omega)
    rw [hi, M_isInstance_20_eq, if_neg (by omega)]
    exact ⟨M, rfl, fun qs h => by cases h; exact ⟨hI, hps, hpk, by omega⟩, Fj.refl⟩
  | succ t ih =>
    intro i p w ps M d e1 e2 e3 hwx hwy hG hX hY hI hps hpk hpl
    have hi : i < ys.length := by omega
    rw [drop_cons hi] at hwy ⊢
    obtain ⟨v, rfl, hwy2⟩ := wf_pos hwy
    have hp := wf_some hwx
    have hc := hY.v hi
    have hcx := hX.v hp
    have hcell : mI M B (o2 + i) = cm (nth ys i) := hY.2.1 i hi
    have hcelx : mI M A (o + p) = cm (nth xs p) := hX.2.1 p hp
    have hxb := hX.2.2.1
    have hyb := hY.2.2.1
    have hn1 := hX.1.2
    have hn2 := hY.1.2
    have hbh : ∀ {M1 : Mem}, Good M1 → RX M1 A n o xs → M_behind A ((o + p : Nat) : Int) M1 = some (some (.inl ((o + beh xs p : Nat) : Int)), M1) := fun g x => M_behind_s g x (b := v) (by rw [Nat.add_comm]; exact hwx)
    rw [M_isInstance_20_eq, if_pos (by omega), hY.gs hG hi, gd_t, toNat_n, toNat_n, hcell, M_sortOf_s hc, cI_s]
    unfold insg
    by_cases hk : kd (nth ys i) = 0
    · have ha0 : arN (nth ys i) = 0 := by have := hc.2.1 hk; have := arN_ar (nth ys i); omega
      rw [ha0, Nat.add_zero] at hwy2
      have hfind := M_inst_find (A := A) hG hY hI hpk (by omega) hi hk ((o + p : Nat) : Int) ((o2 + ys.length : Nat) : Int) d2 d4 _ 0 rfl (Nat.zero_le _)
      rw [List.drop_zero, show ixo (nth ys i) (pvx ps) 0 = ix (pvx ps) (nth ys i) from rfl] at hfind
      have hfind : M_isInstance_59 1269 A B ((o + p : Nat) : Int) ((o2 + ys.length : Nat) : Int) ((o2 + i : Nat) : Int) 0 d2 d4 M = _ := hfind
      rw [if_pos hk, if_pos hk, hfind]
      by_cases hm : ix (pvx ps) (nth ys i) = -1
      · have f1 : Fj mimS M (stI (stI (stI M 1302 ps.length (nmo (nth ys i))) 1303 ps.length ((o + p : Nat) : Int)) 1269 56 ((ps.length + 1 : Nat) : Int)) := ((Fj.ofI (by unfold mimS; omega)).trans (Fj.ofI (by unfold mimS; omega))).trans (Fj.ofI (by unfold mimS; omega))
        have hG1 := hG.fj f1
        have hX1 := hX.fj f1 (by unfold mimS; omega)
        have hY1 := hY.fj f1 (by unfold mimS; omega)
        have e56 : mI (stI (stI M 1302 ps.length (nmo (nth ys i))) 1303 ps.length ((o + p : Nat) : Int)) 1269 56 = (ps.length : Int) := by rw [mI_ne (by omega), mI_ne (by omega)]; exact hI.1
        obtain ⟨M2, b1, b2, b3⟩ := ih (i + 1) (beh xs p) v (ps ++ [(nth ys i, p)]) _ (some (.inl (ps.length : Int))) (by omega) (by omega) (beh_le (by omega)) (wf_beh hwx) hwy2 hG1 hX1 hY1 hI.push (hps.app hp) (hpk.app hc hk) (by rw [List.length_append, List.length_singleton]; omega)
        rw [if_pos hm, if_pos hm, M_isInstance_91_eq, hG.gM, gd_t, hI.1, if_neg (by omega), M_isInstance_119_eq, hG.gM, gd_t, hI.1, if_pos rfl, gd_t, hY.gs hG hi, gd_t, toNat_n, hcell, M_nameOf_s hc, cI_s, hG.m53, hG.tgS arr_1302 (by omega) (by omega), gd_t, hG.gM, gd_t, hG.m54, hG.tgS arr_1303 (by omega) (by omega), gd_t, gd_t, gd_t, toNat_n, e56, wr_s (by omega), hbh hG1 hX1, cI_s, wr_s (by omega), show ((o2 + i + 1 : Nat) : Int) = ((o2 + (i + 1) : Nat) : Int) by omega, b1]
        exact ⟨M2, rfl, b2, f1.trans b3⟩
      · have hrg := ix_rng (pvx ps) (nth ys i)
        rw [pvx_len] at hrg
        obtain ⟨k, hk2⟩ := Int.eq_ofNat_of_zero_le (show 0 ≤ ix (pvx ps) (nth ys i) by omega)
        rw [if_neg hm, if_neg hm]
        rw [hk2] at hm hrg ⊢
        have hg : ps[k]? = some ps[k] := List.getElem?_eq_getElem (by omega)
        obtain ⟨a, ha⟩ := wf_at hw (hps _ (List.mem_of_getElem? hg))
        have e119 : ∀ {M1 : Mem}, M1 = M → M_isInstance_119 1269 A B ((o + p : Nat) : Int) ((o2 + ys.length : Nat) : Int) ((o2 + i : Nat) : Int) (k : Int) d2 d4 M1 = M_isInstance_20 1269 A B ((o + beh xs p : Nat) : Int) ((o2 + ys.length : Nat) : Int) ((o2 + (i + 1) : Nat) : Int) d2 d4 (some (.inl (k : Int))) M := by
          intro M1 e
          subst e
          rw [M_isInstance_119_eq, hG.gM, gd_t, hI.1, if_neg (by omega), hbh hG hX, cI_s, wr_s (by omega), Nat.add_assoc]
        rw [M_isInstance_91_eq, hG.gM, gd_t, hI.1, if_pos (by omega), gd_t, hG.m54, hG.tgS arr_1303 (by omega) (by omega), gd_t, toNat_n, (hI.2 k _ hg).2, M_areLike_s hG hX hX ha (b := v) (by rw [Nat.add_comm]; exact hwx), cI_s, pst_get hg]
        by_cases hs : same xs ps[k].2 xs p = true
        · obtain ⟨M2, b1, b2, b3⟩ := ih (i + 1) (beh xs p) v ps M (some (.inl (k : Int))) (by omega) (by omega) (beh_le (by omega)) (wf_beh hwx) hwy2 hG hX hY hI hps hpk (by omega)
          rw [if_pos hs, if_pos hs, if_neg (by decide), e119 rfl, b1]
          exact ⟨M2, rfl, b2, b3⟩
        · rw [if_neg hs, if_neg hs, if_pos rfl]
          exact ⟨M, rfl, fun qs h => (by cases h), Fj.refl⟩
    · rw [if_neg hk, if_neg hk, hX.gs hG hp, gd_t, hY.gs hG hi, gd_t, hcelx, hcell]
      by_cases hq : nth ys i = nth xs p
      · have hwx2 := wf_next hp hwx
        obtain ⟨M2, b1, b2, b3⟩ := ih (i + 1) (p + 1) (v + arN (nth ys i)) ps M d (by omega) (by omega) (by omega) (by rw [hq]; exact hwx2) hwy2 hG hX hY hI hps hpk (by omega)
        rw [if_pos (by rw [hq]), if_pos hq, wr_s (by omega), wr_s (by omega), Nat.add_assoc, Nat.add_assoc, b1]
        exact ⟨M2, rfl, b2, b3⟩
      · rw [if_neg (fun q => hq ((cm_inj hcx hc).mp q).symm), if_neg hq]
        exact ⟨M, rfl, fun qs h => (by cases h), Fj.refl⟩
theorem M_isInstance_s (hA : A ≠ 1302 ∧ A ≠ 1303 ∧ A ≠ 1269) (hB : B ≠ 1302 ∧ B ≠ 1303 ∧ B ≠ 1269) (hw : wf 1 xs) (hwy : wf 1 ys) (hl : ys.length ≤ 40) (hG : Good M) (hX : RX M A n o xs) (hY : RX M B m o2 ys) : ∃ M', M_isInstance 1269 A (o : Int) B (o2 : Int) M = some (some (.inl (okO (insg xs ys 0 []))), M') ∧ (∀ qs, insg xs ys 0 [] = some qs → MIm M' o qs ∧ psl xs qs ∧ pvk qs ∧ qs.length ≤ ys.length) ∧ Fj mimS M M' := by
  have f1 : Fj mimS M (stI M 1269 56 0) := Fj.ofI (by unfold mimS; omega)
  have hG1 := hG.fj f1
  have hY1 := hY.fj f1 (by unfold mimS; omega)
  obtain ⟨M', a1, a2, a3⟩ := M_isInstance_loop hA hB hw hl (some (.inl (o : Int))) (some (.inl (o2 : Int))) _ 0 0 1 [] (stI M 1269 56 0) none rfl (Nat.zero_le _) (Nat.zero_le _) hw hwy hG1 (hX.fj f1 (by unfold mimS; omega)) hY1 ⟨mI_at, fun k q hq => by rw [List.getElem?_nil] at hq; cases hq⟩ (fun q hq => by cases hq) (fun q hq => by cases hq) (Nat.zero_le _)
  rw [List.drop_zero] at a1 a2
  have hb := M_behind_s hG1 hY1 (p := 0) (b := 0) hwy
  have e : beh ys 0 = ys.length := by unfold beh; rw [List.drop_zero, sk_self hwy, Nat.zero_add]
  rw [e] at hb
  have hb : M_behind B (o2 : Int) (stI M 1269 56 0) = _ := hb
  have a1 : M_isInstance_20 1269 A B (o : Int) ((o2 + ys.length : Nat) : Int) (o2 : Int) (some (.inl (o : Int))) (some (.inl (o2 : Int))) none (stI M 1269 56 0) = _ := a1
  rw [M_isInstance_eq, hG.gM, gd_t, hb, cI_s, a1]
  exact ⟨M', rfl, a2, f1.trans a3⟩
end MINST

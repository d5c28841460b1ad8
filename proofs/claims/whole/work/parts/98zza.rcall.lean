/-! ===== the reference: a call comes of a node ===== -/
def CMm (M : Mem) (x : Nat) (ys : List Int) : Prop := (RM M 1324 (100 * x) ys ∧ mI M 1325 x = (ys.length : Int)) ∧ ys.length ≤ 100
def caS (k : Nat) : Nat → Nat → Prop := fun a j => a = 1297 ∨ a = 1302 ∨ a = 1303 ∨ a = 1327 ∨ (a = 1269 ∧ (j = 43 ∨ j = 56 ∨ j = 91)) ∨ (a = 1324 ∧ 100 * k ≤ j ∧ j < 100 * k + 100) ∨ (a = 1325 ∧ j = k)
def cvS (k : Nat) : Nat → Nat → Prop := fun a j => a = 1297 ∨ a = 1302 ∨ a = 1303 ∨ a = 1327 ∨ (a = 1269 ∧ (j = 43 ∨ j = 56 ∨ j = 76 ∨ j = 91)) ∨ (a = 1324 ∧ 100 * k ≤ j ∧ j < 100 * k + 100) ∨ (a = 1325 ∧ j = k)
theorem ca_co {k a j : Nat} (q : caS k a j) : cvS k a j := by unfold caS at q; unfold cvS; omega
theorem arr_1324 : arr 1324 0 12000 := arr_of _ _ _ (by decide)
theorem arr_1325 : arr 1325 0 120 := arr_of _ _ _ (by decide)
section RCALL
variable {T : TS} {k y : Nat}
theorem CMm.fjo {M M1 : Mem} {S : Nat → Nat → Prop} {x : Nat} {ys : List Int} (h : CMm M x ys) (f : Fj S M M1) (h0 : ∀ j, 100 * x ≤ j ∧ j < 100 * x + 100 → ¬ S 1324 j) (h1 : ¬ S 1325 x) : CMm M1 x ys := ⟨⟨fun i hi => (f.2.2 _ _ (h0 _ (by have := h.2; omega))).trans (h.1.1 i hi), (f.2.2 _ _ h1).trans h.1.2⟩, h.2⟩
theorem var_rng {v : Int} (h : vc v) (h0 : kd v = 0) : 0 ≤ v ∧ v < 65536 := by
  have h1 := h.1
  have h2 := h.2.1 h0
  unfold sy at h1
  omega
theorem M_own_loop {vs : List Int} (hk : k < 120) (hv : ∀ v ∈ vs, vc v ∧ kd v = 0) (hl : vs.length ≤ 40) : ∀ (t i : Nat) (M : Mem) (d5 : LV), vs.length - i = t → i ≤ vs.length → Good M → SDm M vs → ∃ M', M_layCall_70 1269 (k : Int) (k : Int) ((100 * k : Nat) : Int) (i : Int) d5 M = some (none, M') ∧ (∀ j, i ≤ j → j < vs.length → mI M' 1324 (100 * k + 1 + j) = cm (nth vs j)) ∧ Good M' ∧ Fj (fun a j => a = 1324 ∧ 100 * k + 1 + i ≤ j ∧ j < 100 * k + 1 + vs.length) M M' := by
  intro t
  induction t with
  | zero =>
    intro i M d5 h1 h2 hG hS
    have n91 := hS.1
    refine ⟨M, ?_, fun j h3 h4 => by omega, hG, Fj.refl⟩
    rw [M_layCall_70_eq, hG.gM, gd_t, n91, if_neg (by omega)]
  | succ t ih =>
    intro i M d5 h1 h2 hG hS
    have n91 := hS.1
    have hi : i < vs.length := by omega
    have hc := hS.2.2 i hi
    obtain ⟨v1, v2⟩ := hv _ (nth_mem hi)
    have hr := var_rng v1 v2
    obtain ⟨w1, w2⟩ := cm_var hr
    have hn := nmo_rng v1
    have f1 : Fj (fun a j => a = 1324 ∧ 100 * k + 1 + i ≤ j ∧ j < 100 * k + 1 + vs.length) M (stI M 1324 (100 * k + 1 + i) (cm (nth vs i))) := Fj.ofI (by omega)
    obtain ⟨M', a1, a2, a3, a4⟩ := ih (i + 1) (stI M 1324 (100 * k + 1 + i) (cm (nth vs i))) (some (.inl 0)) (by omega) (by omega) (hG.fj f1) (hS.fjo f1 (by omega) (by omega))
    have g27 : gS M 1327 0 (i : Int) = true := hG.tgS arr_1327 (by omega) (by omega)
    have g24 : gS M 1324 0 ((100 * k + 1 + i : Nat) : Int) = true := hG.tgS arr_1324 (by omega) (by omega)
    refine ⟨M', ?_, fun j h3 h4 => ?_, a3, f1.trans (a4.mono fun a j q => by omega)⟩
    · have et : M_thing 0 0 (nmo (nth vs i)) M = some (some (.inl (cm (nth vs i))), M) := by
        rw [M_thing_s (by decide) (by decide) (by omega), w1]
        have : (0 : Int) + 4 * 0 + 64 * nmo (nth vs i) = 64 * nmo (nth vs i) := by omega
        rw [this]
      rw [M_layCall_70_eq, hG.gM, gd_t, n91, if_pos (by omega), M_layCall_82_eq, if_pos rfl, M_layCall_110_eq, if_pos rfl, hG.gM, gd_t, gd_t, hG.m89, g27, gd_t, toNat_n, hc, et, cI_s, hG.m86, wr_s (by omega), wr_id (x := ((100 * k + 1 : Nat) : Int) + (i : Int)) (by omega) (by omega), show ((100 * k + 1 : Nat) : Int) + (i : Int) = ((100 * k + 1 + i : Nat) : Int) by omega, g24, gd_t, toNat_n, wr_s (by omega), a1]
    · by_cases q : j = i
      · subst q
        rw [a4.2.2 _ _ (by omega), mI_at]
      · exact a2 j (by omega) h4
theorem M_find_pair {os : List Int} {v w : Int} {r : Nat} {d : Int} (hk : k ≠ y) (hr : r < 1000) (hv : v ∈ os) (hvc : vc v ∧ kd v = 0) (hos : ∀ c ∈ os, vc c ∧ kd c = 0) (hol : os.length ≤ 120) {M : Mem} (hG : Good M) (h02 : ∀ i, i < os.length → mI M 1302 i = nmo (nth os i)) (hw : mI M 1327 r = w) (hwv : w = nmo v) (g27 : gS M 1327 0 (r : Int) = true) : ∀ (t i : Nat), (ix os v).toNat - i = t → i ≤ (ix os v).toNat → M_layCall_82 1269 (k : Int) (y : Int) d (r : Int) (i : Int) M = M_layCall_110 1269 (k : Int) (y : Int) d (r : Int) (((ix os v).toNat : Nat) : Int) M := by
  obtain ⟨x1, x2⟩ := ix_nth hv
  have hmin : ∀ j, j < (ix os v).toNat → nth os j ≠ v := by
    rcases ix_spec os v with ⟨-, q⟩ | ⟨z, -, z2, -, z4⟩
    · exact absurd hv q
    · rw [z2, toNat_n]; exact z4
  generalize (ix os v).toNat = n at *
  intro t
  induction t with
  | zero =>
    intro i h1 h2
    have e : i = n := by omega
    subst e
    rw [M_layCall_82_eq, if_neg (by omega), hG.gM, gd_t, hG.m53, hG.tgS arr_1302 (by omega) (by omega), gd_t, gd_t, hG.m89, g27, gd_t, toNat_n, toNat_n, h02 i x2, hw, hwv, x1, if_pos rfl]
  | succ t ih =>
    intro i h1 h2
    have hi : i < os.length := by omega
    obtain ⟨c1, c2⟩ := hos _ (nth_mem hi)
    rw [M_layCall_82_eq, if_neg (by omega), hG.gM, gd_t, hG.m53, hG.tgS arr_1302 (by omega) (by omega), gd_t, gd_t, hG.m89, g27, gd_t, toNat_n, toNat_n, h02 i hi, hw, hwv, if_neg (fun e => hmin i (by omega) ((nmo_var c1 hvc.1 c2 hvc.2).mp e)), wr_s (by omega)]
    exact ih (i + 1) (by omega) (by omega)
theorem M_fold_loop {vs xs : List Int} {qs : Prs} {sg : Int → Int} (hk : k < 120) (hky : k ≠ y) (hv : ∀ v ∈ vs, vc v ∧ kd v = 0) (hl : vs.length ≤ 40) (hin : ∀ v ∈ vs, v ∈ pvx qs) (hqv : pvk qs) (hql : qs.length ≤ 120) (hq : ∀ q ∈ qs, q.2 < xs.length ∧ nth xs q.2 = sg q.1) (hxl : xs.length ≤ 40) : ∀ (t i : Nat) (M : Mem) (d5 : LV), vs.length - i = t → i ≤ vs.length → Good M → SDm M vs → MIm M (40 * k) qs → RM M 1309 (40 * k) xs → ∃ M', M_layCall_70 1269 (k : Int) (y : Int) ((100 * k : Nat) : Int) (i : Int) d5 M = some (none, M') ∧ (∀ j, i ≤ j → j < vs.length → mI M' 1324 (100 * k + 1 + j) = cm (sg (nth vs j))) ∧ Good M' ∧ Fj (fun a j => a = 1324 ∧ 100 * k + 1 + i ≤ j ∧ j < 100 * k + 1 + vs.length) M M' := by
  intro t
  induction t with
  | zero =>
    intro i M d5 h1 h2 hG hS hM hR
    have n91 := hS.1
    refine ⟨M, ?_, fun j h3 h4 => by omega, hG, Fj.refl⟩
    rw [M_layCall_70_eq, hG.gM, gd_t, n91, if_neg (by omega)]
  | succ t ih =>
    intro i M d5 h1 h2 hG hS hM hR
    have n91 := hS.1
    have hi : i < vs.length := by omega
    have hc := hS.2.2 i hi
    have hvm := nth_mem hi
    have g27 : gS M 1327 0 (i : Int) = true := hG.tgS arr_1327 (by omega) (by omega)
    have hpl := pvx_len qs
    have hget : ∀ j, j < qs.length → ∃ q, qs[j]? = some q ∧ nth (pvx qs) j = q.1 := fun j hj => ⟨qs[j], List.getElem?_eq_getElem hj, by
      rw [nth_lt (by omega)]
      unfold pvx
      rw [List.getElem_map]⟩
    have hf := M_find_pair (d := ((100 * k : Nat) : Int)) (r := i) (k := k) (y := y) hky (by omega) (hin _ hvm) (hv _ hvm) (fun c hcm => by
      obtain ⟨q, hq1, hq2⟩ := List.mem_map.mp hcm
      rw [← hq2]; exact hqv q hq1) (by omega) hG (fun j hj => by
      obtain ⟨q, q1, q2⟩ := hget j (by omega)
      rw [q2]; exact (hM.2 j q q1).1) hc rfl g27 _ 0 rfl (Nat.zero_le _)
    obtain ⟨n1, n2⟩ := ix_nth (hin _ hvm)
    obtain ⟨q, q1, q2⟩ := hget (ix (pvx qs) (nth vs i)).toNat (by omega)
    have qp := (hM.2 _ q q1).2
    obtain ⟨p1, p2⟩ := hq q (List.mem_of_getElem? q1)
    have qv : q.1 = nth vs i := q2.symm.trans n1
    rw [qv] at p2
    have hcell := hR q.2 p1
    rw [p2] at hcell
    generalize (ix (pvx qs) (nth vs i)).toNat = n at *
    have f1 : Fj (fun a j => a = 1324 ∧ 100 * k + 1 + i ≤ j ∧ j < 100 * k + 1 + vs.length) M (stI M 1324 (100 * k + 1 + i) (cm (sg (nth vs i)))) := Fj.ofI (by omega)
    obtain ⟨M', a1, a2, a3, a4⟩ := ih (i + 1) (stI M 1324 (100 * k + 1 + i) (cm (sg (nth vs i)))) (some (.inl (n : Int))) (by omega) (by omega) (hG.fj f1) (hS.fjo f1 (by omega) (by omega)) ⟨(f1.2.2 _ _ (by omega)).trans hM.1, fun j q hj => ⟨(f1.2.2 _ _ (by omega)).trans (hM.2 j q hj).1, (f1.2.2 _ _ (by omega)).trans (hM.2 j q hj).2⟩⟩ (fun j hj => (f1.2.2 _ _ (by omega)).trans (hR j hj))
    have g03 : gS M 1303 0 (n : Int) = true := hG.tgS arr_1303 (by omega) (by omega)
    have g24 : gS M 1324 0 ((100 * k + 1 + i : Nat) : Int) = true := hG.tgS arr_1324 (by omega) (by omega)
    have g09 : gS M 1309 0 ((40 * k + q.2 : Nat) : Int) = true := hG.tgS arr_1309 (by omega) (by omega)
    refine ⟨M', ?_, fun j h3 h4 => ?_, a3, f1.trans (a4.mono fun a j q => by omega)⟩
    · have hf : M_layCall_82 1269 (k : Int) (y : Int) ((100 * k : Nat) : Int) (i : Int) 0 M = _ := hf
      rw [M_layCall_70_eq, hG.gM, gd_t, n91, if_pos (by omega), hf, M_layCall_110_eq, if_neg (by omega), hG.gM, gd_t, gd_t, gd_t, hG.m54, g03, gd_t, hG.m63, toNat_n, qp, g09, gd_t, hG.m86, wr_s (by omega), wr_id (x := ((100 * k + 1 : Nat) : Int) + (i : Int)) (by omega) (by omega), show ((100 * k + 1 : Nat) : Int) + (i : Int) = ((100 * k + 1 + i : Nat) : Int) by omega, g24, gd_t, toNat_n, toNat_n, hcell, wr_s (by omega), a1]
    · by_cases z : j = i
      · subst z
        rw [a4.2.2 _ _ (by omega), mI_at]
      · exact a2 j (by omega) h4
end RCALL

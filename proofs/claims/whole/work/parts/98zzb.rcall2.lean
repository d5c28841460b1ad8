/-! ===== the reference: a node's call, its own or that of another one ===== -/
/-- the numbered tree of the reference -/
def RZm (M : Mem) (T : TS) : Prop := (RT M T ∧ RQ M T) ∧ (mI M 1269 84 = ((lnF T.2.1).length : Int) ∧ mI M 1269 85 = ((nmR T.1 T.2.1).1 : Int)) ∧ NRm M (lnF T.2.1) ∧ DPm M T.2.1 (lnF T.2.1) ∧ FNm M (F2of T.2.1) (lnF T.2.1)
def rzS : Nat → Nat → Prop := fun a j => (1309 ≤ a ∧ a ≤ 1317) ∨ (1320 ≤ a ∧ a ≤ 1323) ∨ a = 1328 ∨ (a = 1269 ∧ (j = 72 ∨ j = 84 ∨ j = 85))
section RCALL2
variable {M : Mem} {T : TS} {k y : Nat}
theorem RZm.fjo {M1 : Mem} {S : Nat → Nat → Prop} (h : RZm M T) (f : Fj S M M1) (h0 : ∀ a j, rzS a j → ¬ S a j) : RZm M1 T := by
  obtain ⟨⟨h1, h2⟩, ⟨h3, h4⟩, h5, h6, h7⟩ := h
  refine ⟨⟨h1.fjo f fun a j q => h0 a j ?_, h2.fjo f fun a j q => h0 a j ?_⟩, ⟨(f.2.2 _ _ (h0 _ _ ?_)).trans h3, (f.2.2 _ _ (h0 _ _ ?_)).trans h4⟩, h5.fjo f fun a j q => h0 a j ?_, h6.fjo f fun j => h0 _ _ ?_, h7.fjo f fun j => h0 _ _ ?_⟩
  all_goals unfold rzS; omega
theorem co_rz {k a j : Nat} (q : rzS a j) : ¬ cvS k a j := by unfold rzS at q; unfold cvS; omega
theorem call_cell {n : Nat} {fn : Int} (hn : n ≤ 8) (hf : 0 ≤ fn ∧ fn < 120) : vc (33554432 + (n : Int) * 65536 + (1 + fn)) ∧ cm (33554432 + (n : Int) * 65536 + (1 + fn)) = 2 + 4 * (n : Int) + 64 * (1 + fn) := by
  obtain ⟨c1, -, c3⟩ := vc_mk (k := 2) (a := (n : Int)) (s := 1 + fn) (Or.inr ⟨rfl, by omega, by omega⟩) (by omega) (by omega)
  rw [if_neg (by decide)] at c3
  exact ⟨c1, c3⟩
theorem M_callHead_s (hG : Good M) (hT : TI T.2.1 T.2.2) (hX : XOK T.1 T.2.1) (hZ : RZm M T) (hk : k ∈ lnF T.2.1) (hy : y ∈ lnF T.2.1) (hB : BLm M T y) {fn : Int} (h9 : F2of T.2.1 y 9 = fn) (hf : 0 ≤ fn ∧ fn < 120) (hs : (sid (T.1 y) (T.2.1 y 10)).length ≤ 8) : ∃ M2, M_layCall 1269 (k : Int) (y : Int) M = (if k = y then M_layCall_70 1269 (k : Int) (y : Int) ((100 * k : Nat) : Int) 0 none M2 else cI (M_isInstance 1269 1309 ((40 * k : Nat) : Int) 1309 ((40 * y : Nat) : Int) M2) fun _ M6 => M_layCall_70 1269 (k : Int) (y : Int) ((100 * k : Nat) : Int) 0 none M6) ∧ SDm M2 (sid (T.1 y) (T.2.1 y 10)) ∧ RT M2 T ∧ (mI M2 1324 (100 * k) = cm (33554432 + ((sid (T.1 y) (T.2.1 y 10)).length : Int) * 65536 + (1 + fn)) ∧ mI M2 1325 k = (((sid (T.1 y) (T.2.1 y 10)).length + 1 : Nat) : Int)) ∧ Good M2 ∧ Fj (caS k) M M2 := by
  have hm := hT.1.2.2
  have hkm := hT.1.2.1 k hk
  have hym := hT.1.2.1 y hy
  obtain ⟨⟨hR, hQ⟩, -, -, -, hN⟩ := hZ
  obtain ⟨M1, a1, a2, a3, a4⟩ := M_laySides_s hG hT hX hR hy hB
  generalize sid (T.1 y) (T.2.1 y 10) = vs at *
  obtain ⟨-, c2⟩ := call_cell (n := vs.length) hs hf
  have i23 : mI M1 1323 y = fn := ((a4.2.2 _ _ (by unfold sdS; omega)).trans (hN y hy)).trans h9
  have n91 := a2.1
  have F2 : Fj (fun a j => (a = 1324 ∧ j = 100 * k) ∨ (a = 1325 ∧ j = k)) M1 (stI (stI M1 1324 (100 * k) (cm (33554432 + (vs.length : Int) * 65536 + (1 + fn)))) 1325 k ((vs.length + 1 : Nat) : Int)) := (Fj.ofI (by omega)).trans (Fj.ofI (by omega))
  have n91' : mI (stI M1 1324 (100 * k) (cm (33554432 + (vs.length : Int) * 65536 + (1 + fn)))) 1269 91 = (vs.length : Int) := by rw [mI_ne (by omega)]; exact n91
  have hG2 := a3.fj F2
  refine ⟨stI (stI M1 1324 (100 * k) (cm (33554432 + (vs.length : Int) * 65536 + (1 + fn)))) 1325 k ((vs.length + 1 : Nat) : Int), ?_, a2.fjo F2 (by omega) (by omega), (hR.fjo a4 (fun a j q => by unfold sdS; omega)).fjo F2 (by omega), ⟨by rw [mI_ne (by omega), mI_at], mI_at⟩, hG2, (a4.mono fun a j q => by unfold sdS at q; unfold caS; omega).trans (F2.mono fun a j q => by unfold caS; omega)⟩
  have en : M_nameOfFunction 1269 (y : Int) M1 = some (some (.inl (1 + fn)), M1) := by
    rw [M_nameOfFunction_eq, a3.gM, gd_t, a3.m83, a3.tgS (arr_nb (by decide)) (by omega) (by omega), gd_t, toNat_n, i23, wr_id (x := 1 + fn) (by omega) (by omega)]
  have et : M_thing 2 (vs.length : Int) (1 + fn) M1 = some (some (.inl (cm (33554432 + (vs.length : Int) * 65536 + (1 + fn)))), M1) := by rw [M_thing_s (by decide) (by omega) (by omega), c2]
  have g24 : gS M1 1324 0 ((100 * k : Nat) : Int) = true := a3.tgS arr_1324 (by omega) (by omega)
  have g25 : gS M1 1325 0 (k : Int) = true := a3.tgS arr_1325 (by omega) (by omega)
  rw [M_layCall_eq, hG.gM, gd_t, a1, cV_s, a3.gM, gd_t, gd_t, gd_t, en, cI_s, n91, et, cI_s, a3.m86, wr_id (x := (100 : Int) * (k : Int)) (by omega) (by omega), show (100 : Int) * (k : Int) = ((100 * k : Nat) : Int) by omega, g24, gd_t, a3.gM, gd_t, gd_t, a3.m87, g25, gd_t, toNat_n, toNat_n, n91', wr_id (x := 1 + (vs.length : Int)) (by omega) (by omega), show 1 + (vs.length : Int) = ((vs.length + 1 : Nat) : Int) by omega]
  by_cases q : k = y
  · rw [if_pos q, if_pos (by omega)]
  · rw [if_neg q, if_neg (by omega), gd_t, gd_t, gd_t, a3.m63, wr_id (x := (40 : Int) * (k : Int)) (by omega) (by omega), wr_id (x := (40 : Int) * (y : Int)) (by omega) (by omega), show (40 : Int) * (k : Int) = ((40 * k : Nat) : Int) by omega, show (40 : Int) * (y : Int) = ((40 * y : Nat) : Int) by omega]
theorem cmC_len (fn : Int) (vs : List Int) : (cmC fn vs).length = vs.length + 1 := rfl
theorem M_callOwn_s (hG : Good M) (hT : TI T.2.1 T.2.2) (hX : XOK T.1 T.2.1) (hZ : RZm M T) (hk : k ∈ lnF T.2.1) (hB : BLm M T k) {fn : Int} (h9 : F2of T.2.1 k 9 = fn) (hf : 0 ≤ fn ∧ fn < 120) (hs : (sid (T.1 k) (T.2.1 k 10)).length ≤ 8) (hsv : ∀ v ∈ sid (T.1 k) (T.2.1 k 10), vc v ∧ kd v = 0) : ∃ M', M_layCall 1269 (k : Int) (k : Int) M = some (none, M') ∧ CMm M' k (cmC fn (sid (T.1 k) (T.2.1 k 10))) ∧ Good M' ∧ Fj (caS k) M M' := by
  have hm := hT.1.2.2
  have hkm := hT.1.2.1 k hk
  obtain ⟨M2, a1, a2, a3, ⟨a4, a5⟩, a6, a7⟩ := M_callHead_s hG hT hX hZ hk hk hB h9 hf hs
  rw [if_pos rfl] at a1
  generalize sid (T.1 k) (T.2.1 k 10) = vs at *
  obtain ⟨M', b1, b2, b3, b4⟩ := M_own_loop (k := k) (by omega) hsv (by omega) vs.length 0 M2 none rfl (Nat.zero_le _) a6 a2
  have b1 : M_layCall_70 1269 (k : Int) (k : Int) ((100 * k : Nat) : Int) 0 none M2 = _ := b1
  refine ⟨M', by rw [a1, b1], ⟨⟨fun i hi => ?_, ?_⟩, by rw [cmC_len]; omega⟩, b3, a7.trans (b4.mono fun a j q => by unfold caS; omega)⟩
  · rw [cmC_len] at hi
    cases i with
    | zero => exact (b4.2.2 _ _ (by omega)).trans a4
    | succ i =>
      have := b2 i (Nat.zero_le _) (by omega)
      rw [show 100 * k + (i + 1) = 100 * k + 1 + i by omega]
      exact this
  · rw [cmC_len]
    exact (b4.2.2 _ _ (by omega)).trans a5
theorem M_callFold_s (hG : Good M) (hT : TI T.2.1 T.2.2) (hX : XOK T.1 T.2.1) (hZ : RZm M T) (hk : k ∈ lnF T.2.1) (hy : y ∈ lnF T.2.1) (hky : k ≠ y) (hB : BLm M T y) {fn : Int} (h9 : F2of T.2.1 y 9 = fn) (hf : 0 ≤ fn ∧ fn < 120) (hs : (sid (T.1 y) (T.2.1 y 10)).length ≤ 8) (hsv : ∀ v ∈ sid (T.1 y) (T.2.1 y 10), (vc v ∧ kd v = 0) ∧ v ∈ T.1 y) (hr : rnc (T.1 k) (T.1 y) [] [] = true) : ∃ M', M_layCall 1269 (k : Int) (y : Int) M = some (none, M') ∧ CMm M' k (cmC fn ((sid (T.1 y) (T.2.1 y 10)).map (sgm (T.1 k) (T.1 y)))) ∧ Good M' ∧ Fj (caS k) M M' := by
  have hm := hT.1.2.2
  have hkm := hT.1.2.1 k hk
  have hym := hT.1.2.1 y hy
  obtain ⟨e1, e2, e3⟩ := hX k hk
  obtain ⟨f1, f2, f3⟩ := hX y hy
  obtain ⟨M2, a1, a2, a3, ⟨a4, a5⟩, a6, a7⟩ := M_callHead_s hG hT hX hZ hk hy hB h9 hf hs
  rw [if_neg hky] at a1
  have hXk := (a3.2 k hk).rx (by omega) ⟨e1, e2, e3⟩
  have hXy := (a3.2 y hy).rx (by omega) ⟨f1, f2, f3⟩
  obtain ⟨M3, c1, c2, c3⟩ := M_isInstance_s ⟨by decide, by decide, by decide⟩ ⟨by decide, by decide, by decide⟩ e1 f1 f3 a6 hXk hXy
  have hc := chk_rnc e2 (T.1 y) 0 1 [] f2 (by rw [List.drop_zero]; exact e1) f1 (fun q hq => by cases hq) rfl
  have hc : chk (T.1 k) (insg (T.1 k) (T.1 y) 0 []) = rnc (T.1 k) (T.1 y) [] [] := hc
  rw [hr] at hc
  cases hi : insg (T.1 k) (T.1 y) 0 [] with
  | none => rw [hi] at hc; cases hc
  | some qs =>
    obtain ⟨m1, m2, m3, m4⟩ := c2 qs hi
    obtain ⟨q1, q2⟩ := rnc_parts hr e2 hi
    have hG3 := a6.fj c3
    have hS3 := a2.fjo c3 (by unfold mimS; omega) (fun j => by unfold mimS; omega)
    generalize hvs : sid (T.1 y) (T.2.1 y 10) = vs at *
    obtain ⟨M', b1, b2, b3, b4⟩ := M_fold_loop (k := k) (y := y) (vs := vs) (xs := T.1 k) (qs := qs) (sg := sgm (T.1 k) (T.1 y)) (by omega) hky (fun v hv => (hsv v hv).1) (by omega) (fun v hv => by rw [q1]; exact ord_mem.mpr ⟨(hsv v hv).2, (hsv v hv).1.2⟩) m3 (by omega) q2 e3 vs.length 0 M3 none rfl (Nat.zero_le _) hG3 hS3 m1 (fun j hj => (c3.2.2 _ _ (by unfold mimS; omega)).trans (hXk.2.1 j hj))
    have b1 : M_layCall_70 1269 (k : Int) (y : Int) ((100 * k : Nat) : Int) 0 none M3 = _ := b1
    refine ⟨M', by rw [a1, c1, cI_s, b1], ⟨⟨fun i hi => ?_, ?_⟩, by rw [cmC_len, List.length_map]; omega⟩, b3, (a7.trans (c3.mono fun a j q => by unfold mimS at q; unfold caS; omega)).trans (b4.mono fun a j q => by unfold caS; omega)⟩
    · rw [cmC_len, List.length_map] at hi
      cases i with
      | zero =>
        rw [show 100 * k + 0 = 100 * k from rfl]
        have : nth (cmC fn (vs.map (sgm (T.1 k) (T.1 y)))) 0 = 33554432 + (vs.length : Int) * 65536 + (1 + fn) := by
          show 33554432 + ((vs.map (sgm (T.1 k) (T.1 y))).length : Int) * 65536 + (1 + fn) = _
          rw [List.length_map]
        rw [this]
        exact ((b4.2.2 _ _ (by omega)).trans (c3.2.2 _ _ (by unfold mimS; omega))).trans a4
      | succ i =>
        have := b2 i (Nat.zero_le _) (by omega)
        rw [show 100 * k + (i + 1) = 100 * k + 1 + i by omega]
        have e : nth (cmC fn (vs.map (sgm (T.1 k) (T.1 y)))) (i + 1) = sgm (T.1 k) (T.1 y) (nth vs i) := by
          show nth (vs.map (sgm (T.1 k) (T.1 y))) i = _
          rw [nth_lt (show i < (vs.map (sgm (T.1 k) (T.1 y))).length by rw [List.length_map]; omega), nth_lt (show i < vs.length by omega), List.getElem_map]
        rw [e]
        exact this
    · rw [cmC_len, List.length_map]
      exact ((b4.2.2 _ _ (by omega)).trans (c3.2.2 _ _ (by unfold mimS; omega))).trans a5
end RCALL2

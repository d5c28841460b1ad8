/-! ===== the reference: all clauses ===== -/
def ncS : Nat → Nat → Prop := fun a j => ((a = 1274 ∨ a = 1275 ∨ a = 1276 ∨ a = 1278) ∧ 40 ≤ j) ∨ (a = 1277 ∧ 480 ≤ j) ∨ (a = 1279 ∧ 4000 ≤ j) ∨ (a = 1280 ∧ j = 1) ∨ a = 1297 ∨ a = 1318 ∨ a = 1327 ∨ (a = 1269 ∧ (j = 43 ∨ (47 ≤ j ∧ j ≤ 49) ∨ j = 91))
theorem cl_nc {n0 a j : Nat} (q : clF n0 a j) : ncS a j := by unfold clF wrI at q; unfold ncS; omega
theorem nc_rz {a j : Nat} (q : rzS a j) : ¬ ncS a j := by unfold rzS at q; unfold ncS; omega
theorem nc_wr {a j r : Nat} (h : r < 40) (q : wrI r a j) : ¬ ncS a j := by unfold wrI at q; unfold ncS; omega
theorem nc_cm {a j : Nat} (q : a = 1324 ∨ a = 1325) : ¬ ncS a j := by unfold ncS; omega
section RCLAUSES
variable {T : TS} {k : Nat} {zs : List Clz} {C : Nat → List Int}
theorem RZm.nc {M M1 : Mem} (h : RZm M T) (f : Fj ncS M M1) : RZm M1 T := h.fjo f fun a j q => nc_rz q
theorem ROWP.nc {M M1 : Mem} (h : ROWP M 0 zs) (f : Fj ncS M M1) : ROWP M1 0 zs := h.fjr f (fun a j r h1 h2 => nc_wr h1 h2) (by unfold ncS; omega)
theorem CMm.nc {M M1 : Mem} {y : Nat} {ys : List Int} (h : CMm M y ys) (f : Fj ncS M M1) : CMm M1 y ys := h.fjo f (fun j _ => nc_cm (Or.inl rfl)) (nc_cm (Or.inr rfl))
theorem M_nodeClauses_loop {fn : Int} (hzl : zs.length ≤ 40) (hT : TI T.2.1 T.2.2) (hX : XOK T.1 T.2.1) (hk : k ∈ lnF T.2.1) (hN : NS zs T.1 (F2of T.2.1) k) (h23 : T.2.1 k 4 = 2 ∨ T.2.1 k 4 = 3) (h9 : F2of T.2.1 k 9 = fn) (hf : 0 ≤ fn ∧ fn < 120) (hs : (sid (T.1 k) (T.2.1 k 10)).length ≤ 8) (hsv : ∀ v ∈ sid (T.1 k) (T.2.1 k 10), vc v ∧ kd v = 0) (hml : ∀ j, j < nkc T.2.1 k → (mka T.1 (F2of T.2.1) k (nfk T.2.1 k + j)).length ≤ 11) (hCo : ∀ j, j < nkc T.2.1 k → av (C (nfk T.2.1 k + j)) ∧ ∀ v ∈ C (nfk T.2.1 k + j), kd v = 0 → v ∈ mka T.1 (F2of T.2.1) k (nfk T.2.1 k + j)) : ∀ (t c : Nat) (M : Mem) (ws : List Clz) (d4 d5 d6 d7 : LV), nkc T.2.1 k - c = t → c ≤ nkc T.2.1 k → Good M → RZm M T → ROWP M 0 zs → SDm M (sid (T.1 k) (T.2.1 k 10)) → MQw M ws → ws.length + t ≤ 40 → (∀ j, j < nkc T.2.1 k → CMm M (nfk T.2.1 k + j) (C (nfk T.2.1 k + j))) → ∃ M', M_layClauses_12 1269 (k : Int) ((sid (T.1 k) (T.2.1 k 10)).length : Int) (c : Int) d4 d5 d6 d7 M = some (none, M') ∧ MQw M' (ws ++ (List.range' c t).map fun j => mkz T.1 (F2of T.2.1) C k (nfk T.2.1 k + j)) ∧ Good M' ∧ Fj ncS M M' := by
  intro t
  induction t with
  | zero =>
    intro c M ws d4 d5 d6 d7 h1 h2 hG hZ hP hS hQ hl hC
    have e : ws ++ (List.range' c 0).map (fun j => mkz T.1 (F2of T.2.1) C k (nfk T.2.1 k + j)) = ws := List.append_nil ws
    rw [e]
    refine ⟨M, ?_, hQ, hG, Fj.refl⟩
    rw [M_layClauses_12_eq, hG.gM, gd_t, M_clausesOf_s hG hT hZ.1.1 hk hN h23, cI_s, if_neg (by omega)]
  | succ t ih =>
    intro c M ws d4 d5 d6 d7 h1 h2 hG hZ hP hS hQ hl hC
    have hc : c < nkc T.2.1 k := by omega
    obtain ⟨M1, e4, e5, e6, e7, a1, a2, a3, a4, a5⟩ := M_oneClause_s (C := C) (n0 := ws.length) d4 d5 d6 d7 hzl hG hT hX hZ hP hk hN h23 h9 hf hs hsv hS hc hQ.1.1 (by omega) (hml c hc) (hC c hc) (hCo c hc).1 (hCo c hc).2
    have F1 : Fj ncS M M1 := a5.mono fun a j q => cl_nc q
    have hQ1 : MQw M1 (ws ++ [mkz T.1 (F2of T.2.1) C k (nfk T.2.1 k + c)]) := hQ.push a5 (fun a j r h1 h2 h3 => by unfold wrI at h3; unfold clF wrI; omega) a2 a3 (by
      rw [mkz_eq]
      have x1 := hml c hc
      have x2 := (hC c hc).2
      refine ⟨?_, ?_⟩
      · show (vsq 1 (mka T.1 (F2of T.2.1) k (nfk T.2.1 k + c)).length).length ≤ 12
        rw [vsq_len]; omega
      · show ((C (nfk T.2.1 k + c)).map (rnm (mka T.1 (F2of T.2.1) k (nfk T.2.1 k + c)))).length ≤ 100
        rw [List.length_map]; exact x2)
    obtain ⟨M', b1, b2, b3, b4⟩ := ih (c + 1) M1 _ e4 e5 e6 e7 (by omega) (by omega) a4 (hZ.nc F1) (hP.nc F1) (hS.fjo a5 (by unfold clF wrI; omega) (fun j => by unfold clF wrI; omega)) hQ1 (by rw [List.length_append, List.length_singleton]; omega) (fun j hj => (hC j hj).nc F1)
    have e : (List.range' c (t + 1)).map (fun j => mkz T.1 (F2of T.2.1) C k (nfk T.2.1 k + j)) = mkz T.1 (F2of T.2.1) C k (nfk T.2.1 k + c) :: (List.range' (c + 1) t).map fun j => mkz T.1 (F2of T.2.1) C k (nfk T.2.1 k + j) := rfl
    rw [a1, b1, e]
    rw [List.append_assoc] at b2
    exact ⟨M', rfl, b2, b3, F1.trans b4⟩
theorem M_layClauses_s {M : Mem} {ws : List Clz} (hzs : zsk 100 zs) (hok : okP zs) (hzl : zs.length ≤ 40) (hG : Good M) (hT : TI T.2.1 T.2.2) (hX : XOK T.1 T.2.1) (hZ : RZm M T) (hP : ROWP M 0 zs) (hk : k ∈ lnF T.2.1) (hN : NS zs T.1 (F2of T.2.1) k) (hK : RK T.1 (F2of T.2.1) k ∧ (F2of T.2.1 k 9 ≠ -1 ↔ isFn (nuF T.2.1 (lnF T.2.1)) k)) (hM : F2of T.2.1 k 9 ≠ -1 → ∀ j, j < nkc (F2of T.2.1) k → MK T.1 (F2of T.2.1) k (nfk (F2of T.2.1) k + j)) (h9 : F2of T.2.1 k 9 ≠ -1) (hQ : MQw M ws) (hl : ws.length + nkc T.2.1 k ≤ 40) (hC : ∀ j, j < nkc T.2.1 k → CMm M (nfk T.2.1 k + j) (C (nfk T.2.1 k + j)) ∧ cok T.1 C (nfk T.2.1 k + j)) : ∃ M', M_layClauses 1269 (k : Int) M = some (none, M') ∧ MQw M' (ws ++ mcx T.1 (F2of T.2.1) C k) ∧ Good M' ∧ Fj ncS M M' := by
  have hkm := hT.1.2.1 k hk
  obtain ⟨e1, e2, e3⟩ := hX k hk
  obtain ⟨⟨-, -, ⟨⟨k9, k9'⟩, -⟩, k8⟩, kf⟩ := hK
  have k8 := k8 (Or.inr h9)
  rw [F2_eq _ k 10 (by decide) (by decide)] at k8
  have hfn := kf.mp h9
  have h23 : T.2.1 k 4 = 2 ∨ T.2.1 k 4 = 3 := by
    unfold isFn at hfn
    rw [nuF_ne _ _ _ _ (by decide)] at hfn
    rcases hfn with q | q
    · exact Or.inr q
    · exact Or.inl q.1
  have hB := BLm_of hN hZ.1.2 hkm h23
  have hsv := sid_var e2 hB
  obtain ⟨M1, a1, a2, a3, a4⟩ := M_laySides_s hG hT hX hZ.1.1 hk hB
  have F1 : Fj ncS M M1 := a4.mono fun a j q => by unfold sdS at q; unfold ncS; omega
  have hQ1 : MQw M1 ws := hQ.fjr a4 fun a j q => by unfold sdS; omega
  obtain ⟨M', b1, b2, b3, b4⟩ := M_nodeClauses_loop (C := C) hzl hT hX hk hN h23 rfl (by omega) k8 (fun v hv => (hsv v hv).1) (fun j hj => by
    have := hM h9 j (by rw [F2_nkc]; exact hj)
    rw [F2_nfk] at this
    exact this.1.2) (fun j hj => ⟨(hC j hj).2.1.2, by
    have := mka_in (C := C) (F := F2of T.2.1) (j := j) hzs hok hzl e2 hN (by rw [F2_eq _ k 4 (by decide) (by decide)]; exact h23) (by rw [F2_nkc]; exact hj) (by rw [F2_nfk]; exact (hC j hj).2.2)
    rw [F2_nfk] at this
    exact this⟩) (nkc T.2.1 k) 0 M1 ws none none none none (Nat.sub_zero _) (Nat.zero_le _) a3 (hZ.nc F1) (hP.nc F1) a2 hQ1 hl (fun j hj => (hC j hj).1.nc F1)
  have b1 : M_layClauses_12 1269 (k : Int) ((sid (T.1 k) (T.2.1 k 10)).length : Int) 0 none none none none M1 = _ := b1
  refine ⟨M', ?_, ?_, b3, F1.trans b4⟩
  · rw [M_layClauses_eq, hG.gM, gd_t, a1, cV_s, a3.gM, gd_t, a2.1, b1]
  · have e : mcx T.1 (F2of T.2.1) C k = (List.range' 0 (nkc T.2.1 k)).map fun j => mkz T.1 (F2of T.2.1) C k (nfk T.2.1 k + j) := by
      unfold mcx
      rw [if_neg h9, F2_nkc, F2_nfk, List.range_eq_range']
    rw [e]; exact b2
theorem M_allClauses_loop (hzs : zsk 100 zs) (hok : okP zs) (hzl : zs.length ≤ 40) (hT : TI T.2.1 T.2.2) (hX : XOK T.1 T.2.1) (hN : ∀ y ∈ lnF T.2.1, NS zs T.1 (F2of T.2.1) y) (hK : ∀ y ∈ lnF T.2.1, RK T.1 (F2of T.2.1) y ∧ (F2of T.2.1 y 9 ≠ -1 ↔ isFn (nuF T.2.1 (lnF T.2.1)) y)) (hM : ∀ y ∈ lnF T.2.1, F2of T.2.1 y 9 ≠ -1 → ∀ j, j < nkc (F2of T.2.1) y → MK T.1 (F2of T.2.1) y (nfk (F2of T.2.1) y + j)) (d1 d3 : LV) : ∀ (B A : List Nat) (M : Mem) (ws : List Clz), lnF T.2.1 = A ++ B → Good M → RZm M T → ROWP M 0 zs → MQw M ws → ws.length + (B.flatMap (mcx T.1 (F2of T.2.1) C)).length ≤ 40 → (∀ y ∈ lnF T.2.1, CMm M y (C y) ∧ cok T.1 C y) → ∃ M', M_layResidue_131 1269 (A.length : Int) d1 d3 M = M_layResidue_131 1269 ((lnF T.2.1).length : Int) d1 d3 M' ∧ MQw M' (ws ++ B.flatMap (mcx T.1 (F2of T.2.1) C)) ∧ Good M' ∧ Fj ncS M M' := by
  have hm := hT.1.2.2
  have hlen := hT.len
  intro B
  induction B with
  | nil =>
    intro A M ws hL hG hZ hP hQ hl hC
    rw [List.append_nil] at hL
    have e : ws ++ ([] : List Nat).flatMap (mcx T.1 (F2of T.2.1) C) = ws := List.append_nil ws
    rw [e, hL]
    exact ⟨M, rfl, hQ, hG, Fj.refl⟩
  | cons x B ih =>
    intro A M ws hL hG hZ hP hQ hl hC
    have hll : (lnF T.2.1).length = A.length + (B.length + 1) := by rw [hL]; simp
    have hxL : x ∈ lnF T.2.1 := by rw [hL]; simp
    have hxm := hT.1.2.1 x hxL
    have h84 := hZ.2.1.1
    have i20 := (hZ.2.2.1 A.length x (by rw [hL]; simp)).1
    have i23 : mI M 1323 x = F2of T.2.1 x 9 := hZ.2.2.2.2 x hxL
    have g20 : gS M 1320 0 (A.length : Int) = true := hG.tgS (arr_nb (by decide)) (by omega) (by omega)
    have g23 : gS M 1323 0 (x : Int) = true := hG.tgS (arr_nb (by decide)) (by omega) (by omega)
    have hl1 : (A ++ [x]).length = A.length + 1 := by simp
    have efm : (x :: B).flatMap (mcx T.1 (F2of T.2.1) C) = mcx T.1 (F2of T.2.1) C x ++ B.flatMap (mcx T.1 (F2of T.2.1) C) := rfl
    rw [efm, List.length_append] at hl
    rw [efm, ← List.append_assoc]
    by_cases q9 : F2of T.2.1 x 9 = -1
    · have e0 : mcx T.1 (F2of T.2.1) C x = [] := if_pos q9
      rw [e0, List.length_nil] at hl
      obtain ⟨M', a1, a2, a3, a4⟩ := ih (A ++ [x]) M ws (by rw [hL]; simp) hG hZ hP hQ (by omega) hC
      rw [hl1] at a1
      rw [e0, List.append_nil, M_layResidue_131_eq, hG.gM, gd_t, h84, if_pos (by omega), gd_t, gd_t, hG.m80, g20, gd_t, toNat_n, i20, hG.m83, g23, gd_t, toNat_n, i23, if_pos q9, wr_s (by omega), a1]
      exact ⟨M', rfl, a2, a3, a4⟩
    · have hml : (mcx T.1 (F2of T.2.1) C x).length = nkc T.2.1 x := by
        unfold mcx
        rw [if_neg q9, List.length_map, List.length_range, F2_nkc]
      obtain ⟨M1, b1, b2, b3, b4⟩ := M_layClauses_s (C := C) hzs hok hzl hG hT hX hZ hP hxL (hN x hxL) (hK x hxL) (hM x hxL) q9 hQ (by omega) (fun j hj => hC _ (hT.kid hxL hj))
      obtain ⟨M', a1, a2, a3, a4⟩ := ih (A ++ [x]) M1 (ws ++ mcx T.1 (F2of T.2.1) C x) (by rw [hL]; simp) b3 (hZ.nc b4) (hP.nc b4) b2 (by rw [List.length_append]; omega) (fun y hy => ⟨(hC y hy).1.nc b4, (hC y hy).2⟩)
      rw [hl1] at a1
      rw [M_layResidue_131_eq, hG.gM, gd_t, h84, if_pos (by omega), gd_t, gd_t, hG.m80, g20, gd_t, toNat_n, i20, hG.m83, g23, gd_t, toNat_n, i23, if_neg q9, gd_t, gd_t, gd_t, b1, cV_s, wr_s (by omega), a1]
      exact ⟨M', rfl, a2, a3, b4.trans a4⟩
end RCLAUSES

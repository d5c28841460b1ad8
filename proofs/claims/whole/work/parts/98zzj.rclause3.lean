/-! ===== the reference: one clause whole; the clauses of a node ===== -/
/-- the clauses laid so far -/
def MQw (M : Mem) (ws : List Clz) : Prop := (mI M 1280 1 = (ws.length : Int) ∧ PMr M 1274 40 100 ws) ∧ ∀ z ∈ ws, z.2.2.1.length ≤ 12 ∧ z.2.2.2.length ≤ 100
section RCLAUSE3
variable {T : TS} {k : Nat} {zs : List Clz} {C : Nat → List Int}
theorem wrI_dj {r s a j : Nat} (h : wrI r a j) (h2 : wrI s a j) : r = s := by unfold wrI at h h2; omega
theorem MQw.push {M M1 : Mem} {ws : List Clz} {z : Clz} {S : Nat → Nat → Prop} (h : MQw M ws) (f : Fj S M M1) (h0 : ∀ a j r, r ≠ 40 + ws.length → 40 ≤ r → wrI r a j → ¬ S a j) (h1 : ROW M1 (40 + ws.length) z) (h2 : mI M1 1280 1 = ((ws.length + 1 : Nat) : Int)) (h3 : z.2.2.1.length ≤ 12 ∧ z.2.2.2.length ≤ 100) : MQw M1 (ws ++ [z]) := by
  obtain ⟨⟨a1, a2⟩, a3⟩ := h
  refine ⟨⟨by rw [h2, List.length_append]; rfl, fun i w hw => ?_⟩, fun w hw => ?_⟩
  · by_cases q : i < ws.length
    · rw [List.getElem?_append_left q] at hw
      have := a3 w (List.mem_of_getElem? hw)
      exact (a2.row hw).fjr this.1 this.2 f fun a j r => h0 a j _ (by omega) (by omega) r
    · have hi := (List.getElem?_eq_some_iff.mp hw).1
      rw [List.length_append, List.length_singleton] at hi
      have : i = ws.length := by omega
      subst this
      rw [List.getElem?_append_right (Nat.le_refl _), Nat.sub_self] at hw
      have := Option.some.inj hw
      subst this
      exact h1
  · rcases List.mem_append.mp hw with q | q
    · exact a3 w q
    · rw [List.mem_singleton.mp q]; exact h3
theorem MQw.fjr {M M1 : Mem} {ws : List Clz} {S : Nat → Nat → Prop} (h : MQw M ws) (f : Fj S M M1) (h0 : ∀ a j, 1274 ≤ a ∧ a ≤ 1280 → ¬ S a j) : MQw M1 ws := ⟨⟨(f.2.2 _ _ (h0 _ _ (by omega))).trans h.1.1, h.1.2.fj f fun a j q => h0 a j (by omega)⟩, h.2⟩
theorem mkz_eq {y : Nat} : mkz T.1 (F2of T.2.1) C k y = (33554432 + ((sid (T.1 k) (T.2.1 k 10)).length : Int) * 65536 + (1 + F2of T.2.1 k 9), if T.2.1 k 4 = 3 then T.2.1 y 11 else -1, vsq 1 (mka T.1 (F2of T.2.1) k y).length, (C y).map (rnm (mka T.1 (F2of T.2.1) k y))) := by
  unfold mkz
  rw [F2_eq _ k 10 (by decide) (by decide), F2_eq _ k 4 (by decide) (by decide), F2_eq _ y 11 (by decide) (by decide)]
theorem M_oneClause_s {M : Mem} {c n0 : Nat} {fn : Int} (d4 d5 d6 d7 : LV) (hzl : zs.length ≤ 40) (hG : Good M) (hT : TI T.2.1 T.2.2) (hX : XOK T.1 T.2.1) (hZ : RZm M T) (hP : ROWP M 0 zs) (hk : k ∈ lnF T.2.1) (hN : NS zs T.1 (F2of T.2.1) k) (h23 : T.2.1 k 4 = 2 ∨ T.2.1 k 4 = 3) (h9 : F2of T.2.1 k 9 = fn) (hf : 0 ≤ fn ∧ fn < 120) (hs : (sid (T.1 k) (T.2.1 k 10)).length ≤ 8) (hsv : ∀ v ∈ sid (T.1 k) (T.2.1 k 10), vc v ∧ kd v = 0) (hS : SDm M (sid (T.1 k) (T.2.1 k 10))) (hc : c < nkc T.2.1 k) (h80 : mI M 1280 1 = (n0 : Int)) (hn0 : n0 < 40) (hml : (mka T.1 (F2of T.2.1) k (nfk T.2.1 k + c)).length ≤ 11) (hC : CMm M (nfk T.2.1 k + c) (C (nfk T.2.1 k + c))) (hav : av (C (nfk T.2.1 k + c))) (hin : ∀ v ∈ C (nfk T.2.1 k + c), kd v = 0 → v ∈ mka T.1 (F2of T.2.1) k (nfk T.2.1 k + c)) : ∃ (M' : Mem) (e4 e5 e6 e7 : LV), M_layClauses_12 1269 (k : Int) ((sid (T.1 k) (T.2.1 k 10)).length : Int) (c : Int) d4 d5 d6 d7 M = M_layClauses_12 1269 (k : Int) ((sid (T.1 k) (T.2.1 k 10)).length : Int) ((c + 1 : Nat) : Int) e4 e5 e6 e7 M' ∧ ROW M' (40 + n0) (mkz T.1 (F2of T.2.1) C k (nfk T.2.1 k + c)) ∧ mI M' 1280 1 = ((n0 + 1 : Nat) : Int) ∧ Good M' ∧ Fj (clF n0) M M' := by
  have hm := hT.1.2.2
  have hkm := hT.1.2.1 k hk
  have hkid := hT.1.2.1 _ (hT.kid hk hc)
  have hTk := hT.2.1 k hk
  have hT3 := hTk.2.1 (by unfold nkc at hc; omega)
  have i14 : mI M 1314 k = (nfk T.2.1 k : Int) := by
    have := (hZ.1.1.2 k hk).2.2.1.2 (by unfold nkc at hc; omega)
    rw [this]; unfold nfk; omega
  obtain ⟨M3, s, os, b1, ⟨b2, b3, b4, b5⟩, ⟨b6, b7⟩, b8, b9⟩ := M_clauseFront_s d4 d5 d6 d7 hzl hG hT hX hZ hP hk hN h23 h9 hf hs hS hc h80 hn0
  have hcnt : c < 1000 := by omega
  rw [mkz_eq, h9]
  generalize hvs : sid (T.1 k) (T.2.1 k 10) = vs at *
  generalize hyy : nfk T.2.1 k + c = y at *
  generalize mka T.1 (F2of T.2.1) k y = ws at *
  generalize C y = ys at *
  have hS3 : SDm M3 vs := hS.fjo b9 (by omega) (by omega)
  obtain ⟨M4, c1, c2, c3, c4⟩ := M_cl98_loop (k := k) (c := c) (at0 := 40 + n0) (vs := vs) (by omega) hsv d6 d7 (vs.length - s) s M3 os rfl b4 b8 hS3 b2 (by omega)
  rw [b3] at c1 c2
  have f5 : Fj (fun a j => a = 1276 ∧ j = 40 + n0) M4 (stI M4 1276 (40 + n0) (ws.length : Int)) := Fj.ofI ⟨rfl, rfl⟩
  have hG5 := c3.fj f5
  have x5 : ∀ a j, (a = 1314 ∨ a = 1325 ∨ a = 1280 ∨ a = 1324) → mI (stI M4 1276 (40 + n0) (ws.length : Int)) a j = mI M a j := fun a j q => ((f5.2.2 _ _ (by omega)).trans (c4.2.2 _ _ (by unfold oS; omega))).trans (b9.2.2 _ _ (by omega))
  have F5 : Fj (fun a j => a = 1297 ∨ (a = 1269 ∧ j = 43) ∨ (a = 1276 ∧ j = 40 + n0)) M3 (stI M4 1276 (40 + n0) (ws.length : Int)) := (c4.mono fun a j q => by unfold oS at q; omega).trans (f5.mono fun a j q => by omega)
  have e14 : mI (stI M4 1276 (40 + n0) (ws.length : Int)) 1314 k + (c : Int) = (y : Int) := by rw [x5 _ _ (by omega), i14]; omega
  have e76 : mI (stI M4 1276 (40 + n0) (ws.length : Int)) 1276 (40 + n0) = (ws.length : Int) := mI_at
  have hO5 := c2.fjo f5 (by omega) (by omega)
  have hC5 : CMm (stI M4 1276 (40 + n0) (ws.length : Int)) y ys := ⟨⟨fun i hi => (x5 _ _ (by omega)).trans (hC.1.1 i hi), (x5 _ _ (by omega)).trans hC.1.2⟩, hC.2⟩
  have e80 : mI (stI M4 1276 (40 + n0) (ws.length : Int)) 1280 1 = (n0 : Int) := (x5 _ _ (by omega)).trans h80
  generalize stI M4 1276 (40 + n0) (ws.length : Int) = M5 at *
  obtain ⟨M6, g1, g2, g3, g4⟩ := M_cl150_loop (k := k) (c := c) (at0 := 40 + n0) (os := ws) (y := y) (cl := (ys.length : Int)) (i2 := (vs.length : Int)) (by omega) (by omega) hml (by omega) d6 d7 ws.length 0 M5 (Nat.sub_zero _) (Nat.zero_le _) hG5 hO5 e14 (by rw [e14]; unfold InR; omega) hC5.1.2
  have g1 : M_layClauses_150 1269 (k : Int) (vs.length : Int) (c : Int) ((40 + n0 : Nat) : Int) 0 d6 d7 M5 = _ := g1
  have f7 : Fj (fun a j => a = 1278 ∧ j = 40 + n0) M6 (stI M6 1278 (40 + n0) (ys.length : Int)) := Fj.ofI ⟨rfl, rfl⟩
  have hG7 := g3.fj f7
  have F7 : Fj (fun a j => (a = 1277 ∧ 12 * (40 + n0) ≤ j ∧ j < 12 * (40 + n0) + 12) ∨ (a = 1278 ∧ j = 40 + n0)) M5 (stI M6 1278 (40 + n0) (ys.length : Int)) := (g4.mono fun a j q => by omega).trans (f7.mono fun a j q => by omega)
  have hO7 := hO5.fjo F7 (by omega) (by omega)
  have hC7 := hC5.fjo F7 (by omega) (by omega)
  have e78 : mI (stI M6 1278 (40 + n0) (ys.length : Int)) 1278 (40 + n0) = (ys.length : Int) := mI_at
  have e77 : ∀ j, j < ws.length → mI (stI M6 1278 (40 + n0) (ys.length : Int)) 1277 (12 * (40 + n0) + j) = 1213 + (j : Int) := fun j hj => (f7.2.2 _ _ (by omega)).trans (g2 j (Nat.zero_le _) hj)
  generalize stI M6 1278 (40 + n0) (ys.length : Int) = M7 at *
  obtain ⟨M8, e4, e5, e6, e7, k1, k2, k3, k4⟩ := M_cl210_loop (k := k) (c := c) (at0 := 40 + n0) (os := ws) (ys := ys) (y := y) (n0 := n0) (i2 := (vs.length : Int)) hcnt (by omega) (by omega) (by omega) hml hav hin ys.length 0 M7 d7 (Nat.sub_zero _) (Nat.zero_le _) hG7 hO7 hC7 ((F7.2.2 _ _ (by omega)).trans e80)
  have k1 : M_layClauses_210 1269 (k : Int) (vs.length : Int) (c : Int) ((40 + n0 : Nat) : Int) (y : Int) 0 d7 M7 = _ := k1
  have f9 : Fj (fun a j => a = 1280 ∧ j = 1) M8 (stI M8 1280 1 ((n0 + 1 : Nat) : Int)) := Fj.ofI ⟨rfl, rfl⟩
  have hyl := hC.2
  refine ⟨stI M8 1280 1 ((n0 + 1 : Nat) : Int), e4, e5, e6, e7, ?_, ⟨⟨?_, ?_, ?_⟩, fun j hj => ?_, ?_, fun j hj => ?_⟩, mI_at, k3.fj f9, ?_⟩
  · rw [b1, c1, g1, k1]
  · exact (((f9.2.2 _ _ (by omega)).trans (k4.2.2 _ _ (by omega))).trans ((F7.2.2 _ _ (by omega)).trans (F5.2.2 _ _ (by omega)))).trans b6
  · exact (((f9.2.2 _ _ (by omega)).trans (k4.2.2 _ _ (by omega))).trans ((F7.2.2 _ _ (by omega)).trans (F5.2.2 _ _ (by omega)))).trans b7
  · have hl : (vsq 1 ws.length).length = ws.length := vsq_len _ _
    show _ = ((vsq 1 ws.length).length : Int)
    rw [hl]
    exact ((f9.2.2 _ _ (by omega)).trans (k4.2.2 _ _ (by omega))).trans ((F7.2.2 _ _ (by omega)).trans e76)
  · have hl : (vsq 1 ws.length).length = ws.length := vsq_len _ _
    have hj : j < (vsq 1 ws.length).length := hj
    show _ = nmo (nth (vsq 1 ws.length) j)
    rw [hl] at hj
    rw [vsq_nth hj, (cm_var (v := ((1 : Nat) : Int) + (j : Int)) (by omega)).2, if_pos (by omega)]
    refine (((f9.2.2 _ _ (by omega)).trans (k4.2.2 _ _ (by omega))).trans (e77 j hj)).trans ?_
    omega
  · show _ = ((ys.map (rnm ws)).length : Int)
    rw [List.length_map]
    exact ((f9.2.2 _ _ (by omega)).trans (k4.2.2 _ _ (by omega))).trans e78
  · have hj : j < (ys.map (rnm ws)).length := hj
    rw [List.length_map] at hj
    have e : nth (ys.map (rnm ws)) j = rnm ws (nth ys j) := by
      rw [nth_lt (show j < (ys.map (rnm ws)).length by rw [List.length_map]; omega), nth_lt hj, List.getElem_map]
    show _ = cm (nth (ys.map (rnm ws)) j)
    rw [e]
    exact (f9.2.2 _ _ (by omega)).trans (k2 j (Nat.zero_le _) hj)
  · exact ((((b9.mono fun a j q => by unfold clF wrI; omega).trans (F5.mono fun a j q => by unfold clF wrI; omega)).trans (F7.mono fun a j q => by unfold clF wrI; omega)).trans (k4.mono fun a j q => by unfold clF wrI; omega)).trans (f9.mono fun a j q => by unfold clF wrI; omega)
end RCLAUSE3

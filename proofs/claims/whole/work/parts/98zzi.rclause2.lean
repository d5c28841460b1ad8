/-! ===== the reference: one clause of a node's function ===== -/
def clF (n0 : Nat) : Nat → Nat → Prop := fun a j => wrI (40 + n0) a j ∨ (a = 1280 ∧ j = 1) ∨ a = 1297 ∨ a = 1318 ∨ (a = 1269 ∧ (j = 43 ∨ (47 ≤ j ∧ j ≤ 49)))
section RCLAUSE2
variable {T : TS} {k : Nat} {zs : List Clz} {C : Nat → List Int}
theorem cl_no {n0 a j : Nat} (q : a < 1274 ∧ a ≠ 1269 ∨ (1280 < a ∧ a ≠ 1297 ∧ a ≠ 1318) ∨ (a = 1269 ∧ j ≠ 43 ∧ ¬ (47 ≤ j ∧ j ≤ 49))) : ¬ clF n0 a j := by unfold clF wrI; omega
theorem M_clausesOf_s {M : Mem} (hG : Good M) (hT : TI T.2.1 T.2.2) (hR : RT M T) (hk : k ∈ lnF T.2.1) (hN : NS zs T.1 (F2of T.2.1) k) (h23 : T.2.1 k 4 = 2 ∨ T.2.1 k 4 = 3) : M_clausesOf 1269 (k : Int) M = some (some (.inl (nkc T.2.1 k : Int)), M) := by
  have hm := hT.1.2.2
  have hkm := hT.1.2.1 k hk
  have hT8 := (hT.2.1 k hk).1
  have h8 : T.2.1 k 8 = (nkc T.2.1 k : Int) := by unfold nkc; omega
  obtain ⟨-, -, ⟨s5, -⟩, s7, -⟩ := hR.2 k hk
  rw [M_clausesOf_eq, hG.gM, gd_t, hG.m69, hG.tgS (arr_nd (by decide)) (by omega) (by omega), gd_t, toNat_n, s7]
  by_cases z : T.2.1 k 4 = 3
  · rw [if_pos z, gd_t, hG.m67, hG.tgS (arr_nd (by decide)) (by omega) (by omega), gd_t, s5, h8]
  · have h1k : nkc T.2.1 k = 1 := by
      unfold NS at hN
      rw [F2_eq _ _ _ (by decide) (by decide)] at hN
      rcases hN with h | h | h | h | h | h | h
      · omega
      · omega
      · have := h.2.2.nkc
        rw [F2_nkc] at this
        exact this
      · omega
      · omega
      · omega
      · omega
    rw [if_neg z, h1k]
    rfl
theorem M_clauseFront_s {M : Mem} {c n0 : Nat} {fn : Int} (d4 d5 d6 d7 : LV) (hzl : zs.length ≤ 40) (hG : Good M) (hT : TI T.2.1 T.2.2) (hX : XOK T.1 T.2.1) (hZ : RZm M T) (hP : ROWP M 0 zs) (hk : k ∈ lnF T.2.1) (hN : NS zs T.1 (F2of T.2.1) k) (h23 : T.2.1 k 4 = 2 ∨ T.2.1 k 4 = 3) (h9 : F2of T.2.1 k 9 = fn) (hf : 0 ≤ fn ∧ fn < 120) (hs : (sid (T.1 k) (T.2.1 k 10)).length ≤ 8) (hS : SDm M (sid (T.1 k) (T.2.1 k 10))) (hc : c < nkc T.2.1 k) (h80 : mI M 1280 1 = (n0 : Int)) (hn0 : n0 < 40) : ∃ (M3 : Mem) (s : Nat) (os : List Int), M_layClauses_12 1269 (k : Int) ((sid (T.1 k) (T.2.1 k 10)).length : Int) (c : Int) d4 d5 d6 d7 M = M_layClauses_98 1269 (k : Int) ((sid (T.1 k) (T.2.1 k 10)).length : Int) (c : Int) ((40 + n0 : Nat) : Int) (s : Int) d6 d7 M3 ∧ (OR M3 os ∧ os ++ (sid (T.1 k) (T.2.1 k 10)).drop s = mka T.1 (F2of T.2.1) k (nfk T.2.1 k + c) ∧ s ≤ (sid (T.1 k) (T.2.1 k 10)).length ∧ os.length ≤ 8) ∧ (mI M3 1274 (40 + n0) = cm (33554432 + ((sid (T.1 k) (T.2.1 k 10)).length : Int) * 65536 + (1 + fn)) ∧ mI M3 1275 (40 + n0) = cc (if T.2.1 k 4 = 3 then T.2.1 (nfk T.2.1 k + c) 11 else -1)) ∧ Good M3 ∧ Fj (fun a j => ((a = 1274 ∨ a = 1275) ∧ j = 40 + n0) ∨ a = 1297 ∨ a = 1318 ∨ (a = 1269 ∧ (j = 43 ∨ (47 ≤ j ∧ j ≤ 49)))) M M3 := by
  have hm := hT.1.2.2
  have hkm := hT.1.2.1 k hk
  obtain ⟨e1, e2, e3⟩ := hX k hk
  obtain ⟨⟨hR, hQ⟩, ⟨h84, h85⟩, hNB, hDP, hFN⟩ := hZ
  have i15 : mI M 1315 k = T.2.1 k 4 := (hR.2 k hk).2.2.2.1
  have i23 : mI M 1323 k = fn := (hFN k hk).trans h9
  obtain ⟨-, cc2⟩ := call_cell (n := (sid (T.1 k) (T.2.1 k 10)).length) hs hf
  have hfe : ∀ y f, f ≠ 9 → f ≠ 13 → F2of T.2.1 y f = T.2.1 y f := fun y f h1 h2 => F2_eq _ _ _ h1 h2
  have en : M_nameOfFunction 1269 (k : Int) M = some (some (.inl (1 + fn)), M) := by
    rw [M_nameOfFunction_eq, hG.gM, gd_t, hG.m83, hG.tgS (arr_nb (by decide)) (by omega) (by omega), gd_t, toNat_n, i23, wr_id (x := 1 + fn) (by omega) (by omega)]
  have et : M_thing 2 ((sid (T.1 k) (T.2.1 k 10)).length : Int) (1 + fn) M = some (some (.inl (cm (33554432 + ((sid (T.1 k) (T.2.1 k 10)).length : Int) * 65536 + (1 + fn)))), M) := by rw [M_thing_s (by decide) (by omega) (by omega), cc2]
  have hcl := M_clausesOf_s hG hT hR hk hN h23
  have g74 : gS M 1274 0 ((40 + n0 : Nat) : Int) = true := hG.tgS arr_1274 (by omega) (by omega)
  have g75 : ∀ M2 : Mem, Good M2 → gS M2 1275 0 ((40 + n0 : Nat) : Int) = true := fun M2 g => g.tgS arr_1275 (by omega) (by omega)
  have g15 : gS M 1315 0 (k : Int) = true := hG.tgS (arr_nd (by decide)) (by omega) (by omega)
  -- the name is laid
  have f1 : Fj (fun a j => ((a = 1274 ∨ a = 1275) ∧ j = 40 + n0) ∨ a = 1297 ∨ a = 1318 ∨ (a = 1269 ∧ (j = 43 ∨ (47 ≤ j ∧ j ≤ 49)))) M (stI (stI M 1274 (40 + n0) (cm (33554432 + ((sid (T.1 k) (T.2.1 k 10)).length : Int) * 65536 + (1 + fn)))) 1269 43 0) := (Fj.ofI (by omega)).trans (Fj.ofI (by omega))
  have hG1 := hG.fj f1
  have j15 : mI (stI (stI M 1274 (40 + n0) (cm (33554432 + ((sid (T.1 k) (T.2.1 k 10)).length : Int) * 65536 + (1 + fn)))) 1269 43 0) 1315 k = T.2.1 k 4 := (f1.2.2 _ _ (by omega)).trans i15
  have j43 : mI (stI (stI M 1274 (40 + n0) (cm (33554432 + ((sid (T.1 k) (T.2.1 k 10)).length : Int) * 65536 + (1 + fn)))) 1269 43 0) 1269 43 = 0 := mI_at
  have j74 : mI (stI (stI M 1274 (40 + n0) (cm (33554432 + ((sid (T.1 k) (T.2.1 k 10)).length : Int) * 65536 + (1 + fn)))) 1269 43 0) 1274 (40 + n0) = cm (33554432 + ((sid (T.1 k) (T.2.1 k 10)).length : Int) * 65536 + (1 + fn)) := by rw [mI_ne (by omega), mI_at]
  have hOs : ∀ M2 : Mem, mI M2 1269 43 = 0 → OR M2 [] := fun M2 h => ⟨h, Nat.zero_le _, fun i hi => absurd hi (Nat.not_lt_zero i), fun v hv => by cases hv⟩
  have hmk : mka T.1 (F2of T.2.1) k (nfk T.2.1 k + c) = if T.2.1 k 4 = 3 then lfs (T.2.1 (nfk T.2.1 k + c) 12).toNat (arN (T.2.1 (nfk T.2.1 k + c) 11)) (T.1 k) (T.2.1 k 10) else sid (T.1 k) (T.2.1 k 10) := by
    unfold mka
    rw [hfe k 4 (by decide) (by decide), hfe k 10 (by decide) (by decide), hfe _ 11 (by decide) (by decide), hfe _ 12 (by decide) (by decide)]
  rw [M_layClauses_12_eq, hG.gM, gd_t, hcl, cI_s, if_pos (by omega), hG.gM, gd_t, hG.m17, hG.tgS arr_1280 (by decide) (by decide), gd_t, gd_t, gd_t, en, cI_s, et, cI_s, h80, wr_id (x := (40 : Int) + (n0 : Int)) (by omega) (by omega), show (40 : Int) + (n0 : Int) = ((40 + n0 : Nat) : Int) by omega, hG.m11, g74, gd_t, hG.gM, gd_t, gd_t, gd_t, hG.m69, g15, gd_t, toNat_n, toNat_n, j15]
  generalize hM1 : stI (stI M 1274 (40 + n0) (cm (33554432 + ((sid (T.1 k) (T.2.1 k 10)).length : Int) * 65536 + (1 + fn)))) 1269 43 0 = M1 at *
  by_cases q : T.2.1 k 4 = 3
  · -- a case
    obtain ⟨⟨b1, b2⟩, z, z1, ⟨z2, z3, z4, z5, z6, z7⟩, fr, y1, y2, y3⟩ := split_kid (x := k) (j := c) hP.2.2.1 hP.2.2.2 hzl hN ((hfe k 4 (by decide) (by decide)).trans q) (by rw [F2_nkc]; exact hc)
    rw [F2_nfk] at z3 y1 y3
    rw [hfe _ 11 (by decide) (by decide)] at z3
    rw [hfe _ 12 (by decide) (by decide)] at y1
    rw [hfe _ 10 (by decide) (by decide)] at b1 b2
    have hN3 := hN
    unfold NS at hN3
    rw [hfe k 4 (by decide) (by decide)] at hN3
    have h3 : (kd (nth (T.1 k) 0) = 2 ∧ (fnx zs (T.1 k) 0).1 = 5) ∧ ∃ fr0 e, (spk (nth (T.1 k) (fnx zs (T.1 k) 0).2.1) (nth (T.1 k) ((fnx zs (T.1 k) 0).2.1 + 1)) (T.1 k) (fnx zs (T.1 k) 0).2.1 zs fr0)[c]? = some e ∧ e.2.1 = z.2.1 := by
      rcases hN3 with h | h | h | ⟨-, ⟨h2, h3, h10⟩, fr0, h5, h6⟩ | h | h | h
      · omega
      · omega
      · omega
      · refine ⟨⟨h2, h3⟩, fr0, ?_⟩
        have hn := h6.nkc
        rw [F2_nkc] at hn
        have hjl : c < (spk (nth (T.1 k) (fnx zs (T.1 k) 0).2.1) (nth (T.1 k) ((fnx zs (T.1 k) 0).2.1 + 1)) (T.1 k) (fnx zs (T.1 k) 0).2.1 zs fr0).length := by omega
        have hg := List.getElem?_eq_getElem hjl
        refine ⟨_, hg, ?_⟩
        have := (h6.2 c _ hg).2.1
        rw [F2_nfk, hfe _ 11 (by decide) (by decide)] at this
        rw [← this]; exact z3
      · omega
      · omega
      · omega
    obtain ⟨⟨h3, h5⟩, fr0, e, he, hez⟩ := h3
    have hkid := hT.1.2.1 _ (hT.kid hk hc)
    obtain ⟨fr1, fr2⟩ := (hQ _ hkid).2 (by rw [y1]; omega)
    rw [y1] at fr1 fr2
    obtain ⟨M2, c1, c2, c3, c4⟩ := M_conBelow_s (k := k) (zs := zs) (j := c) (e := e) (fr := fr) hG1 hT hX (hR.fjo f1 (by omega)) (hP.fjr f1 (fun a j r h1 h2 => by unfold wrI at h2; omega) (by omega)) hk h3 h5 he hc (by rw [hez]; exact ⟨z5, z4, z7⟩) (by omega) ((f1.2.2 _ _ (by omega)).trans fr1) j43
    rw [hez] at c1 c2
    have F2 : Fj (fun a j => ((a = 1274 ∨ a = 1275) ∧ j = 40 + n0) ∨ a = 1297 ∨ a = 1318 ∨ (a = 1269 ∧ (j = 43 ∨ (47 ≤ j ∧ j ≤ 49)))) M M2 := f1.trans (c4.mono fun a j q => by omega)
    have f3 : Fj (fun a j => a = 1275 ∧ j = 40 + n0) M2 (stI M2 1275 (40 + n0) (cm z.2.1)) := Fj.ofI ⟨rfl, rfl⟩
    have k15 : mI (stI M2 1275 (40 + n0) (cm z.2.1)) 1315 k = T.2.1 k 4 := ((f3.2.2 _ _ (by omega)).trans (F2.2.2 _ _ (by omega))).trans i15
    rw [if_pos q, gd_t, c1, cI_s, hG.m12, g75 M2 c3, gd_t, c3.gM, gd_t, c3.m69, c3.tgS (arr_nd (by decide)) (by omega) (by omega), gd_t, k15, if_pos q]
    have hsid : (sid (T.1 k) (T.2.1 k 10)).drop 1 = oth (T.1 k) (T.2.1 k 10) ∧ 1 ≤ (sid (T.1 k) (T.2.1 k 10)).length := by
      have hb := (e2 _ b1).1
      unfold sid
      rw [if_neg (by omega)]
      exact ⟨rfl, by rw [List.length_append, List.length_singleton]; omega⟩
    refine ⟨stI M2 1275 (40 + n0) (cm z.2.1), 1, vsq fr (arN z.2.1), rfl, ⟨c2.fjo f3 (by omega) (by omega), ?_, hsid.2, by rw [vsq_len]; omega⟩, ⟨?_, ?_⟩, c3.fj f3, F2.trans (f3.mono fun a j q => by omega)⟩
    · rw [hmk, if_pos q, hsid.1, y1, z3, toNat_n]
      rfl
    · rw [mI_ne (by omega)]
      exact (c4.2.2 _ _ (by omega)).trans j74
    · rw [mI_at, if_pos q, z3]
      exact (if_neg z4).symm
  · have f3 : Fj (fun a j => a = 1275 ∧ j = 40 + n0) M1 (stI M1 1275 (40 + n0) 0) := Fj.ofI ⟨rfl, rfl⟩
    have k15 : mI (stI M1 1275 (40 + n0) 0) 1315 k = T.2.1 k 4 := (f3.2.2 _ _ (by omega)).trans j15
    rw [if_neg q, hG.m12, g75 M hG, gd_t, gd_t, gd_t, k15, if_neg q]
    refine ⟨stI M1 1275 (40 + n0) 0, 0, [], rfl, ⟨(hOs _ j43).fjo f3 (by omega) (by omega), ?_, Nat.zero_le _, by decide⟩, ⟨?_, ?_⟩, hG1.fj f3, f1.trans (f3.mono fun a j q => by omega)⟩
    · rw [List.drop_zero, List.nil_append, hmk, if_neg q]
    · rw [mI_ne (by omega)]; exact j74
    · rw [mI_at, if_neg q]
      rfl
end RCLAUSE2

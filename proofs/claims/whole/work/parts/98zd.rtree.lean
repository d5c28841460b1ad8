/-! ===== the reference's tree ===== -/
def RNd (M : Mem) (T : TS) (x : Nat) : Prop := (RM M 1309 (40 * x) (T.1 x) ∧ mI M 1310 x = ((T.1 x).length : Int)) ∧ (mI M 1311 x = T.2.1 x 15 ∧ mI M 1312 x = T.2.1 x 5) ∧ (mI M 1313 x = T.2.1 x 8 ∧ (T.2.1 x 8 ≠ 0 → mI M 1314 x = T.2.1 x 16)) ∧ (mI M 1315 x = T.2.1 x 4 ∧ mI M 1316 x = T.2.1 x 14)
def RT (M : Mem) (T : TS) : Prop := mI M 1269 72 = (T.2.2 : Int) ∧ ∀ x ∈ lnF T.2.1, RNd M T x
def mkF (mk : Nat) : Nat → Nat → Prop := fun a j => (a = 1309 ∧ 40 * mk ≤ j ∧ j < 40 * mk + 40) ∨ (1310 ≤ a ∧ a ≤ 1317 ∧ j = mk) ∨ (a = 1269 ∧ (j = 72 ∨ j = 76))
theorem arr_1309 : arr 1309 0 4800 := arr_of _ _ _ (by decide)
theorem arr_nd {a : Nat} (h : 1310 ≤ a ∧ a ≤ 1317) : arr a 0 120 := by
  have : a = 1310 ∨ a = 1311 ∨ a = 1312 ∨ a = 1313 ∨ a = 1314 ∨ a = 1315 ∨ a = 1316 ∨ a = 1317 := by omega
  rcases this with e | e | e | e | e | e | e | e <;> subst e <;> exact arr_of _ _ _ (by decide)
theorem Good.rm {M : Mem} (h : Good M) {i v : Nat} (hq : (i, v) ∈ irM) : mR M 1269 i = v := h.2.2.2.1 (i, v) hq
section RTREE
variable {M : Mem} {a n o : Nat} {xs : List Int} {mk : Nat}
theorem M_breaks_s (hG : Good M) (h : mI M 1269 76 = 0) (v : Int) : M_breaks 1269 v M = some (some (.inl 0), stI M 1269 76 v) := by
  rw [M_breaks_eq, hG.gM, gd_t, h, if_pos rfl, gd_t]
theorem M_make_s (hG : Good M) (hX : RX M a n o xs) (ha : (a ≠ 1309 ∨ o + xs.length ≤ 40 * mk) ∧ ¬ (1310 ≤ a ∧ a ≤ 1317) ∧ a ≠ 1269) (h72 : mI M 1269 72 = (mk : Int)) (hmk : mk ≤ 120) (h76 : mI M 1269 76 = 0) (up pl : Int) : (40 < xs.length → M_make 1269 a (o : Int) (xs.length : Int) up pl M = some (some (.inl 0), stI M 1269 76 (-3))) ∧ (¬ 40 < xs.length → mk = 120 → M_make 1269 a (o : Int) (xs.length : Int) up pl M = some (some (.inl 0), stI M 1269 76 (-2))) ∧ (¬ 40 < xs.length → mk < 120 → ∃ M', M_make 1269 a (o : Int) (xs.length : Int) up pl M = some (some (.inl 1), M') ∧ ((RM M' 1309 (40 * mk) xs ∧ mI M' 1310 mk = (xs.length : Int)) ∧ (mI M' 1311 mk = up ∧ mI M' 1312 mk = pl) ∧ mI M' 1313 mk = 0 ∧ mI M' 1315 mk = -1 ∧ mI M' 1316 mk = -1) ∧ mI M' 1269 72 = ((mk + 1 : Nat) : Int) ∧ mI M' 1269 76 = 0 ∧ Good M' ∧ Fj (mkF mk) M M') := by
  have hd0 : decide ((0 : Int) = 0 ∨ (0 : Int) = 1) = true := by decide
  refine ⟨fun q => ?_, fun q q2 => ?_, fun q q2 => ?_⟩
  · rw [M_make_eq, if_pos (by omega), hG.gM, gd_t, M_breaks_s hG h76, cI_s, hd0, gd_t]
  · rw [M_make_eq, if_neg (by omega), hG.gM, gd_t, h72, if_pos (by omega), gd_t, M_breaks_s hG h76, cI_s, hd0, gd_t]
  obtain ⟨⟨x1, x2⟩, x3, x4, x5⟩ := hX
  obtain ⟨M1, c1, c2, c3⟩ := M_copy_s hG (k := xs.length) x1 arr_1309 (p := o) (q := 40 * mk) x4 (by omega) ⟨x2, by decide⟩ (by omega)
  have hG1 := hG.fi c2
  have r : ∀ j, mR M1 1269 j = mR M 1269 j := fun j => c2.2.1 _ _
  have i72 : mI M1 1269 72 = (mk : Int) := (c2.2.2 _ (by omega) _).trans h72
  have g : ∀ b, 1310 ≤ b ∧ b ≤ 1317 → gS M1 b 0 (mk : Int) = true := fun b hb => hG1.tgS (arr_nd hb) (by omega) (by omega)
  have h7 : ∀ (M : Mem) (b j : Nat) (v : Int), b ≠ 1269 → mI (stI M b j v) 1269 72 = mI M 1269 72 := fun M b j v hb => mI_ne (fun z => hb z.1.symm)
  have e64 : mR M 1269 63 = 1309 := hG.rm (by decide)
  refine ⟨stI (stI (stI (stI (stI (stI (stI (stI (stI M1 1310 mk (xs.length : Int)) 1311 mk up) 1312 mk pl) 1313 mk 0) 1314 mk (-1)) 1315 mk (-1)) 1316 mk (-1)) 1317 mk (-1)) 1269 72 ((mk + 1 : Nat) : Int), ?_, ⟨⟨fun i hi => ?_, ?_⟩, ⟨?_, ?_⟩, ?_, ?_, ?_⟩, mI_at, ?_, ?_, ?_⟩
  · have hG2 : Good (stI M1 1310 mk (xs.length : Int)) := hG1.fj (Fj.ofI (S := fun _ _ => True) trivial)
    have j72 : mI (stI M1 1310 mk (xs.length : Int)) 1269 72 = (mk : Int) := (h7 _ _ _ _ (by decide)).trans i72
    have g2 : ∀ b, 1310 ≤ b ∧ b ≤ 1317 → gS (stI M1 1310 mk (xs.length : Int)) b 0 (mk : Int) = true := fun b hb => g b hb
    rw [M_make_eq, if_neg (by omega), hG.gM, gd_t, h72, if_neg (by omega), gd_t, gd_t, e64, wr_id (x := (40 : Int) * (mk : Int)) (by omega) (by omega), show (40 : Int) * (mk : Int) = ((40 * mk : Nat) : Int) by omega, c1, cV_s, hG1.gM, gd_t, gd_t, hG1.m64, i72, g 1310 (by decide), gd_t, toNat_n]
    generalize hM2 : stI M1 1310 mk (xs.length : Int) = M2 at *
    rw [M_make_56_eq]
    simp only [hG2.gM, gd_t, hG2.m65, hG2.m66, hG2.m67, hG2.m68, hG2.m69]
    rw [h7 _ 1311 _ _ (by decide), j72, toNat_n]
    rw [h7 _ 1312 _ _ (by decide), h7 _ 1311 _ _ (by decide), j72, toNat_n]
    rw [h7 _ 1313 _ _ (by decide), h7 _ 1312 _ _ (by decide), h7 _ 1311 _ _ (by decide), j72, toNat_n]
    rw [h7 _ 1314 _ _ (by decide), h7 _ 1313 _ _ (by decide), h7 _ 1312 _ _ (by decide), h7 _ 1311 _ _ (by decide), j72, toNat_n]
    rw [g2 1311 (by decide), g2 1312 (by decide), g2 1313 (by decide), g2 1314 (by decide), g2 1315 (by decide)]
    simp only [gd_t]
    have hG3 : Good (stI (stI (stI (stI (stI M2 1311 mk up) 1312 mk pl) 1313 mk 0) 1314 mk (-1)) 1315 mk (-1)) := ((((hG2.fj (Fj.ofI (S := fun _ _ => True) trivial)).fj (Fj.ofI (S := fun _ _ => True) trivial)).fj (Fj.ofI (S := fun _ _ => True) trivial)).fj (Fj.ofI (S := fun _ _ => True) trivial)).fj (Fj.ofI (S := fun _ _ => True) trivial)
    have k72 : mI (stI (stI (stI (stI (stI M2 1311 mk up) 1312 mk pl) 1313 mk 0) 1314 mk (-1)) 1315 mk (-1)) 1269 72 = (mk : Int) := by
      rw [h7 _ 1315 _ _ (by decide), h7 _ 1314 _ _ (by decide), h7 _ 1313 _ _ (by decide), h7 _ 1312 _ _ (by decide), h7 _ 1311 _ _ (by decide), j72]
    have g3 : ∀ b, 1310 ≤ b ∧ b ≤ 1317 → gS (stI (stI (stI (stI (stI M2 1311 mk up) 1312 mk pl) 1313 mk 0) 1314 mk (-1)) 1315 mk (-1)) b 0 (mk : Int) = true := fun b hb => hG3.tgS (arr_nd hb) (by omega) (by omega)
    generalize stI (stI (stI (stI (stI M2 1311 mk up) 1312 mk pl) 1313 mk 0) 1314 mk (-1)) 1315 mk (-1) = M3 at *
    rw [M_make_108_eq]
    simp only [hG3.gM, gd_t, hG3.m70, hG3.m71]
    rw [h7 _ 1317 _ _ (by decide), h7 _ 1316 _ _ (by decide), k72, toNat_n, g3 1316 (by decide), g3 1317 (by decide)]
    simp only [gd_t]
    rw [wr_s (by omega)]
  · rw [mI_ne (by omega), mI_ne (by omega), mI_ne (by omega), mI_ne (by omega), mI_ne (by omega), mI_ne (by omega), mI_ne (by omega), mI_ne (by omega), mI_ne (by omega), c3, if_pos (by omega), show 40 * mk + i - 40 * mk = i by omega]
    exact x3 i hi
  · rw [mI_ne (by omega), mI_ne (by omega), mI_ne (by omega), mI_ne (by omega), mI_ne (by omega), mI_ne (by omega), mI_ne (by omega), mI_ne (by omega), mI_at]
  · rw [mI_ne (by omega), mI_ne (by omega), mI_ne (by omega), mI_ne (by omega), mI_ne (by omega), mI_ne (by omega), mI_ne (by omega), mI_at]
  · rw [mI_ne (by omega), mI_ne (by omega), mI_ne (by omega), mI_ne (by omega), mI_ne (by omega), mI_ne (by omega), mI_at]
  · rw [mI_ne (by omega), mI_ne (by omega), mI_ne (by omega), mI_ne (by omega), mI_ne (by omega), mI_at]
  · rw [mI_ne (by omega), mI_ne (by omega), mI_ne (by omega), mI_at]
  · rw [mI_ne (by omega), mI_ne (by omega), mI_at]
  · rw [mI_ne (by omega), mI_ne (by omega), mI_ne (by omega), mI_ne (by omega), mI_ne (by omega), mI_ne (by omega), mI_ne (by omega), mI_ne (by omega), mI_ne (by omega)]
    exact (c2.2.2 _ (by omega) _).trans h76
  · exact ((((((((hG1.fj (Fj.ofI (S := fun _ _ => True) trivial)).fj (Fj.ofI (S := fun _ _ => True) trivial)).fj (Fj.ofI (S := fun _ _ => True) trivial)).fj (Fj.ofI (S := fun _ _ => True) trivial)).fj (Fj.ofI (S := fun _ _ => True) trivial)).fj (Fj.ofI (S := fun _ _ => True) trivial)).fj (Fj.ofI (S := fun _ _ => True) trivial)).fj (Fj.ofI (S := fun _ _ => True) trivial)).fj (Fj.ofI (S := fun _ _ => True) trivial)
  · have f1 : Fj (mkF mk) M M1 := ⟨c2.1, c2.2.1, fun b j hb => by
      by_cases q9 : b = 1309
      · subst q9
        rw [c3, if_neg (by unfold mkF at hb; omega)]
      · exact c2.2.2 b q9 j⟩
    have s : ∀ (M : Mem) (b : Nat) (v : Int), 1310 ≤ b ∧ b ≤ 1317 → Fj (mkF mk) M (stI M b mk v) := fun M b v hb => Fj.ofI (Or.inr (Or.inl ⟨hb.1, hb.2, rfl⟩))
    exact ((((((((f1.trans (s _ 1310 _ (by decide))).trans (s _ 1311 _ (by decide))).trans (s _ 1312 _ (by decide))).trans (s _ 1313 _ (by decide))).trans (s _ 1314 _ (by decide))).trans (s _ 1315 _ (by decide))).trans (s _ 1316 _ (by decide))).trans (s _ 1317 _ (by decide))).trans (Fj.ofI (Or.inr (Or.inr ⟨rfl, Or.inl rfl⟩)))
end RTREE

/-! ===== the reference: the sides of a node ===== -/
def SDm (M : Mem) (vs : List Int) : Prop := mI M 1269 91 = (vs.length : Int) ∧ vs.length ≤ 40 ∧ ∀ i, i < vs.length → mI M 1327 i = nmo (nth vs i)
def sdS : Nat → Nat → Prop := fun a j => a = 1297 ∨ a = 1327 ∨ (a = 1269 ∧ (j = 43 ∨ j = 91))
def sdf (i4 b : Int) (v : Int) : Bool := decide (¬ (i4 = 3 ∧ v = b))
theorem arr_1327 : arr 1327 0 40 := arr_of _ _ _ (by decide)
section RSIDES
variable {T : TS} {k : Nat}
theorem SDm.fjo {M M1 : Mem} {S : Nat → Nat → Prop} {vs : List Int} (h : SDm M vs) (f : Fj S M M1) (h0 : ¬ S 1269 91) (h1 : ∀ j, ¬ S 1327 j) : SDm M1 vs := ⟨(f.2.2 _ _ h0).trans h.1, h.2.1, fun i hi => (f.2.2 _ _ (h1 _)).trans (h.2.2 i hi)⟩
theorem OR.fjo {M M1 : Mem} {S : Nat → Nat → Prop} {vs : List Int} (h : OR M vs) (f : Fj S M M1) (h0 : ¬ S 1269 43) (h1 : ∀ j, ¬ S 1297 j) : OR M1 vs := ⟨(f.2.2 _ _ h0).trans h.1, h.2.1, fun i hi => (f.2.2 _ _ (h1 _)).trans (h.2.2.1 i hi), h.2.2.2⟩
theorem SDm.push {M : Mem} {vs : List Int} (h : SDm M vs) {v : Int} (hl : vs.length < 40) : SDm (stI (stI M 1327 vs.length (nmo v)) 1269 91 ((vs.length + 1 : Nat) : Int)) (vs ++ [v]) := by
  refine ⟨by rw [mI_at, List.length_append]; rfl, by rw [List.length_append, List.length_singleton]; exact hl, fun i hi => ?_⟩
  rw [List.length_append, List.length_singleton] at hi
  rw [mI_ne (by omega)]
  by_cases q : i = vs.length
  · subst q; rw [mI_at, nth_app2 (Nat.le_refl _), Nat.sub_self]; rfl
  · rw [mI_ne (by omega), nth_app1 (by omega)]
    exact h.2.2 i (by omega)
theorem M_sides_loop {os : List Int} {i4 b : Int} (hk : k < 120) (hb : i4 = 3 → vc b ∧ kd b = 0) : ∀ (t i : Nat) (M : Mem) (vs : List Int), os.length - i = t → i ≤ os.length → Good M → OR M os → mI M 1315 k = i4 → (i4 = 3 → mI M 1317 k = nmo b) → SDm M vs → (vs ++ (os.drop i).filter (sdf i4 b)).length ≤ 40 → ∃ M', M_laySides_53 1269 (k : Int) (i : Int) M = some (none, M') ∧ SDm M' (vs ++ (os.drop i).filter (sdf i4 b)) ∧ Good M' ∧ Fj (fun a j => a = 1327 ∨ (a = 1269 ∧ j = 91)) M M' := by
  intro t
  induction t with
  | zero =>
    intro i M vs h1 h2 hG hO h15 h17 hS hl
    have n43 := hO.1
    rw [List.drop_eq_nil_of_le (by omega), List.filter_nil, List.append_nil]
    refine ⟨M, ?_, hS, hG, Fj.refl⟩
    rw [M_laySides_53_eq, hG.gM, gd_t, n43, if_neg (by omega)]
  | succ t ih =>
    intro i M vs h1 h2 hG hO h15 h17 hS hl
    have n43 := hO.1
    have h120 := hO.2.1
    have hi : i < os.length := by omega
    obtain ⟨c1, c2⟩ := hO.2.2.2 _ (nth_mem hi)
    have hc := hO.2.2.1 i hi
    have hd : os.drop i = nth os i :: os.drop (i + 1) := drop_cons hi
    have g15 : gS M 1315 0 (k : Int) = true := hG.tgS (arr_nd (by decide)) (by omega) (by omega)
    have g17 : gS M 1317 0 (k : Int) = true := hG.tgS (arr_nd (by decide)) (by omega) (by omega)
    have g97 : gS M 1297 0 (i : Int) = true := hG.tgS arr_1297 (by omega) (by omega)
    have head : M_laySides_53 1269 (k : Int) (i : Int) M = if i4 = 3 ∧ nth os i = b then M_laySides_53 1269 (k : Int) ((i + 1 : Nat) : Int) M else M_laySides_89 1269 (k : Int) (i : Int) M := by
      rw [M_laySides_53_eq, hG.gM, gd_t, n43, if_pos (by omega), gd_t, hG.m69, g15, gd_t, toNat_n, h15]
      by_cases q3 : i4 = 3
      · obtain ⟨b1, b2⟩ := hb q3
        rw [if_pos q3, gd_t, hG.m42, g97, gd_t, gd_t, hG.m71, g17, gd_t, toNat_n, hc, h17 q3, wr_s (by omega)]
        by_cases q : nth os i = b
        · rw [if_pos (by rw [q]), if_pos ⟨q3, q⟩]
        · rw [if_neg (fun e => q ((nmo_var c1 b1 c2 b2).mp e)), if_neg (fun e => q e.2)]
      · rw [if_neg q3, if_neg (fun e => q3 e.1)]
    rw [head]
    rw [hd] at hl ⊢
    by_cases q : i4 = 3 ∧ nth os i = b
    · have hf : sdf i4 b (nth os i) = false := decide_eq_false (fun h => h q)
      rw [List.filter_cons_of_neg (show ¬ sdf i4 b (nth os i) = true by rw [hf]; exact Bool.false_ne_true)] at hl ⊢
      rw [if_pos q]
      exact ih (i + 1) M vs (by omega) (by omega) hG hO h15 h17 hS hl
    · have hf : sdf i4 b (nth os i) = true := decide_eq_true q
      rw [List.filter_cons_of_pos hf] at hl ⊢
      have hl2 : vs.length < 40 := by rw [List.length_append, List.length_cons] at hl; omega
      have f1 : Fj (fun a j => a = 1327 ∨ (a = 1269 ∧ j = 91)) M (stI (stI M 1327 vs.length (nmo (nth os i))) 1269 91 ((vs.length + 1 : Nat) : Int)) := (Fj.ofI (by omega)).trans (Fj.ofI (by omega))
      obtain ⟨M', a1, a2, a3, a4⟩ := ih (i + 1) (stI (stI M 1327 vs.length (nmo (nth os i))) 1269 91 ((vs.length + 1 : Nat) : Int)) (vs ++ [nth os i]) (by omega) (by omega) (hG.fj f1) (hO.fjo f1 (by omega) (by omega)) ((f1.2.2 _ _ (by omega)).trans h15) (fun h => (f1.2.2 _ _ (by omega)).trans (h17 h)) (hS.push hl2) (by rw [List.append_assoc]; exact hl)
      have n91 := hS.1
      have k91 : mI (stI M 1327 vs.length (nmo (nth os i))) 1269 91 = (vs.length : Int) := by rw [mI_ne (by omega)]; exact n91
      have g27 : gS M 1327 0 (vs.length : Int) = true := hG.tgS arr_1327 (by omega) (by omega)
      rw [List.append_assoc] at a2
      rw [if_neg q, M_laySides_89_eq, hG.gM, gd_t, gd_t, gd_t, hG.m42, g97, gd_t, hG.m89, n91, g27, gd_t, gd_t, gd_t, toNat_n, toNat_n, hc, k91, wr_s (by omega), wr_s (by omega), a1]
      exact ⟨M', rfl, a2, a3, f1.trans a4⟩
theorem sds_sid {xs : List Int} {i4 b : Int} (hv : av xs) (h3 : i4 = 3 → b ∈ xs ∧ kd b = 0) (h2 : i4 ≠ 3 → b = -1) : (if i4 = 3 then [b] else []) ++ (ord xs).filter (sdf i4 b) = sid xs b := by
  unfold sid oth
  by_cases q : i4 = 3
  · have hb := (hv b (h3 q).1).1
    rw [if_pos q, if_neg (by omega)]
    congr 1
    refine List.filter_congr fun v _ => ?_
    unfold sdf
    by_cases z : v = b
    · rw [decide_eq_false (show ¬ ¬ (i4 = 3 ∧ v = b) from fun h => h ⟨q, z⟩), decide_eq_false (show ¬ v ≠ b from fun h => h z)]
    · rw [decide_eq_true (show ¬ (i4 = 3 ∧ v = b) from fun h => z h.2), decide_eq_true (show v ≠ b from z)]
  · rw [if_neg q, h2 q, if_pos rfl]
    congr 1
    refine List.filter_congr fun v hm => ?_
    have := (hv v (ord_mem.mp hm).1).1
    unfold sdf
    rw [decide_eq_true (show ¬ (i4 = 3 ∧ v = -1) from fun h => q h.1), decide_eq_true (show v ≠ -1 by omega)]
/-- what BLOCKED is told right -/
def BLm (M : Mem) (T : TS) (x : Nat) : Prop := (T.2.1 x 4 = 3 → (T.2.1 x 10 ∈ T.1 x ∧ kd (T.2.1 x 10) = 0) ∧ mI M 1317 x = nmo (T.2.1 x 10)) ∧ (T.2.1 x 4 ≠ 3 → T.2.1 x 10 = -1)
theorem M_laySides_s {M : Mem} (hG : Good M) (hT : TI T.2.1 T.2.2) (hX : XOK T.1 T.2.1) (hR : RT M T) (hk : k ∈ lnF T.2.1) (hB : BLm M T k) : ∃ M', M_laySides 1269 (k : Int) M = some (none, M') ∧ SDm M' (sid (T.1 k) (T.2.1 k 10)) ∧ Good M' ∧ Fj sdS M M' := by
  have hm := hT.1.2.2
  have hkm := hT.1.2.1 k hk
  have hek := hX k hk
  obtain ⟨e1, e2, e3⟩ := hX k hk
  obtain ⟨⟨-, r2⟩, -, -, r7, -⟩ := hR.2 k hk
  have hXk := (hR.2 k hk).rx (by omega) hek
  have ho := ord_le40 e3
  obtain ⟨M1, a1, a2, a3⟩ := M_layOrder_s hG hXk ⟨by decide, by decide⟩ (by omega)
  have hG1 := hG.fj a3
  have i15 : mI M1 1315 k = T.2.1 k 4 := (a3.2.2 _ _ (by unfold oS; omega)).trans r7
  have g15 : gS M1 1315 0 (k : Int) = true := hG1.tgS (arr_nd (by decide)) (by omega) (by omega)
  have g17 : gS M1 1317 0 (k : Int) = true := hG1.tgS (arr_nd (by decide)) (by omega) (by omega)
  have g27 : gS M1 1327 0 0 = true := hG1.tgS arr_1327 (by decide) (by decide)
  have f1 : Fj (fun a j => a = 1327 ∨ (a = 1269 ∧ j = 91)) M1 (stI M1 1269 91 0) := Fj.ofI (by omega)
  have hS0 : SDm (stI M1 1269 91 0) [] := ⟨mI_at, Nat.zero_le _, fun i hi => absurd hi (Nat.not_lt_zero i)⟩
  have c15 : mI (stI M1 1269 91 0) 1315 k = T.2.1 k 4 := (f1.2.2 _ _ (by omega)).trans i15
  have hsid := sds_sid (xs := T.1 k) (i4 := T.2.1 k 4) (b := T.2.1 k 10) e2 (fun q => (hB.1 q).1) hB.2
  have head : M_laySides 1269 (k : Int) M = if T.2.1 k 4 = 3 then M_laySides_53 1269 (k : Int) 0 (stI (stI (stI M1 1269 91 0) 1327 0 (mI M 1317 k)) 1269 91 1) else M_laySides_53 1269 (k : Int) 0 (stI M1 1269 91 0) := by
    rw [M_laySides_eq, hG.gM, gd_t, gd_t, hG.m64, hG.tgS (arr_nd (by decide)) (by omega) (by omega), gd_t, gd_t, hG.m63, toNat_n, r2, wr_id (x := (40 : Int) * (k : Int)) (by omega) (by omega), show (40 : Int) * (k : Int) = ((40 * k : Nat) : Int) by omega, a1, cI_s, hG1.gM, gd_t, gd_t, hG1.m69, g15, gd_t, c15]
    by_cases q : T.2.1 k 4 = 3
    · have i17 : mI (stI M1 1269 91 0) 1317 k = mI M 1317 k := (f1.2.2 _ _ (by omega)).trans (a3.2.2 _ _ (by unfold oS; omega))
      rw [if_pos q, if_pos q, gd_t, gd_t, hG1.m71, g17, gd_t, hG1.m89, g27, gd_t, gd_t, i17]
    · rw [if_neg q, if_neg q]
  rw [head]
  by_cases q : T.2.1 k 4 = 3
  · obtain ⟨⟨b1, b2⟩, b3⟩ := hB.1 q
    have f2 : Fj (fun a j => a = 1327 ∨ (a = 1269 ∧ j = 91)) M1 (stI (stI (stI M1 1269 91 0) 1327 0 (nmo (T.2.1 k 10))) 1269 91 1) := (f1.trans (Fj.ofI (by omega))).trans (Fj.ofI (by omega))
    have hS1 : SDm (stI (stI (stI M1 1269 91 0) 1327 0 (nmo (T.2.1 k 10))) 1269 91 1) [T.2.1 k 10] := hS0.push (by decide)
    obtain ⟨M', c1, c2, c3, c4⟩ := M_sides_loop (os := ord (T.1 k)) (i4 := T.2.1 k 4) (b := T.2.1 k 10) (k := k) (by omega) (fun _ => ⟨e2 _ b1, b2⟩) (ord (T.1 k)).length 0 _ [T.2.1 k 10] rfl (Nat.zero_le _) (hG1.fj f2) (a2.fjo f2 (by omega) (by omega)) ((f2.2.2 _ _ (by omega)).trans i15) (fun _ => ((f2.2.2 _ _ (by omega)).trans (a3.2.2 _ _ (by unfold oS; omega))).trans b3) hS1 (by
      rw [List.drop_zero]
      have := hsid
      rw [if_pos q] at this
      rw [this]
      have := sid_len (xs := T.1 k) (b := T.2.1 k 10) (Or.inr ⟨b1, b2⟩)
      omega)
    have c1 : M_laySides_53 1269 (k : Int) 0 (stI (stI (stI M1 1269 91 0) 1327 0 (nmo (T.2.1 k 10))) 1269 91 1) = _ := c1
    rw [List.drop_zero] at c2
    rw [if_pos q] at hsid
    rw [hsid] at c2
    rw [if_pos q, b3, c1]
    exact ⟨M', rfl, c2, c3, (a3.mono fun a j q => by unfold oS at q; unfold sdS; omega).trans ((f2.trans c4).mono fun a j q => by unfold sdS; omega)⟩
  · obtain ⟨M', c1, c2, c3, c4⟩ := M_sides_loop (os := ord (T.1 k)) (i4 := T.2.1 k 4) (b := T.2.1 k 10) (k := k) (by omega) (fun z => absurd z q) (ord (T.1 k)).length 0 _ [] rfl (Nat.zero_le _) (hG1.fj f1) (a2.fjo f1 (by omega) (by omega)) c15 (fun z => absurd z q) hS0 (by
      rw [List.drop_zero, List.nil_append]
      have := List.length_filter_le (sdf (T.2.1 k 4) (T.2.1 k 10)) (ord (T.1 k))
      omega)
    have c1 : M_laySides_53 1269 (k : Int) 0 (stI M1 1269 91 0) = _ := c1
    rw [List.drop_zero] at c2
    rw [if_neg q] at hsid
    rw [hsid] at c2
    rw [if_neg q, c1]
    exact ⟨M', rfl, c2, c3, (a3.mono fun a j q => by unfold oS at q; unfold sdS; omega).trans ((f1.trans c4).mono fun a j q => by unfold sdS; omega)⟩
end RSIDES

/-! ===== the start: what holds when both are made ===== -/
def IC (M : Mem) (T : List Int) (zs nc : List Clz) (bs : Bnd) (gl gc : List Int) (es : Nat → List Int) (f dr : Int) (ws : List Int) (dp : Int) : Prop := (TPc M T ∧ CP M zs nc ∧ CB M bs ∧ CE M gl gc es) ∧ (CS M ∧ CF M f dr ∧ TXc M ws) ∧ (RUx M ∧ TKc M) ∧ mI M 21 9 = dp
def IR (M : Mem) (T : List Int) (zs nm : List Clz) (bs : Bnd) (gl gm : List Int) (es : Nat → List Int) (f dr : Int) (ws : List Int) (dp : Int) : Prop := (TPm M T ∧ MP M zs ∧ MQn M nm ∧ MB M bs) ∧ (MO M gl ∧ MG M gm ∧ MX M es) ∧ (MF M f dr ∧ TXm M ws) ∧ mI M 1269 52 = dp
def SCR (L : Nat) (xs : Nat → Int) (M : Mem) : Prop := mH M 1 = .inr (9, L) ∧ ∀ k, mI M 1 k = if k < L then xs k else 0
section STARTH
variable {L : Nat} {xs : Nat → Int} {s : Nat} {M : Mem}
theorem OKc_ref (h : RSo M) : ∀ a ∈ mX, OKc M a := by
  intro a ha
  unfold mX at ha
  simp only [List.mem_cons, List.not_mem_nil, or_false] at ha
  rcases ha with rfl | rfl | rfl | rfl
  · exact OKc_un (c := 12) (by decide) (by decide) (by decide) (rs := []) (ks := []) (by decide) (by decide) (fun q hq => absurd hq List.not_mem_nil) (fun q hq => absurd hq List.not_mem_nil)
  · exact OKc_arr (k := 0) (m := 100) (by decide) (by decide) (by decide)
  · exact OKc_arr (k := 0) (m := 160) (by decide) (by decide) (by decide)
  · exact OKc_arr (k := 0) (m := 4) (by decide) (by decide) (by decide)
set_option maxRecDepth 100000 in
theorem SB.good (h : SB L xs [] 1329 347758 M) (hM : MTo 59 M) : Good M := by
  obtain ⟨⟨h1, h2, -⟩, h4, h5, -⟩ := h
  have ok : ∀ a, 2 ≤ a → a < 1329 → OKc M a := fun a a1 a2 => h5 a a1 a2 List.not_mem_nil
  refine ⟨⟨⟨h1, h2⟩, h4⟩, ⟨fun a o => ?_, fun a o => ?_, fun a o => ?_, fun a o => ?_, fun a o => ?_⟩, fun q hq => ?_, fun q hq => ?_, ?_⟩
  · exact ((ok a o.1 o.2.1).1.1 o.2.2).1
  · exact ((ok a o.1 o.2.1).1.2.1 o.2.2).1
  · exact ((ok a o.1 o.2.1).1.2.2.1 o.2.2)
  · refine ⟨((ok a o.1 o.2.1).1.2.2.2.1 o.2.2).1, fun i hi => ?_⟩
    have hP : ∃ p, p < 3 ∧ a = 773 + 162 * p := by
      have hH := o.2.2
      have h1 := o.1
      have h2 := o.2.1
      by_cases q1 : 773 ≤ a ∧ a < 1259
      · unfold HT at hH
        rw [if_neg (by omega), if_neg (by omega), if_neg (by omega), if_pos (by omega)] at hH
        by_cases q2 : (a - 773) % 162 = 0
        · exact ⟨(a - 773) / 162, by omega, by omega⟩
        · rw [if_neg q2] at hH
          by_cases q3 : (a - 773) % 162 = 1
          · rw [if_pos q3] at hH; cases hH
          · rw [if_neg q3] at hH
            have h4 : ((a - 773) % 162 - 2) % 4 < 4 := Nat.mod_lt _ (by decide)
            have : ∀ j, j < 4 → hLC.getD j (.inl 99) ≠ .inl 5 := by decide
            exact absurd hH (this _ h4)
      · exfalso
        unfold HT at hH
        by_cases c1 : a < 30
        · rw [if_pos c1] at hH
          exact absurd hH ((by decide : ∀ j, j < 28 → hL1.getD j (.inl 99) ≠ .inl 5) (a - 2) (by omega))
        · rw [if_neg c1] at hH
          by_cases c2 : a < 750
          · rw [if_pos c2] at hH
            exact absurd hH ((by decide : ∀ j, j < 6 → hLN.getD j (.inl 99) ≠ .inl 5) ((a - 30) % 6) (Nat.mod_lt _ (by decide)))
          · rw [if_neg c2] at hH
            by_cases c3 : a < 773
            · rw [if_pos c3] at hH
              exact absurd hH ((by decide : ∀ j, j < 23 → hL2.getD j (.inl 99) ≠ .inl 5) (a - 750) (by omega))
            · rw [if_neg c3, if_neg (by omega)] at hH
              exact absurd hH ((by decide : ∀ j, j < 70 → hL3.getD j (.inl 99) ≠ .inl 5) (a - 1259) (by omega))
    obtain ⟨p, p1, rfl⟩ := hP
    have hA := (isP_at p1).2.1
    have := (ok _ hA.1 hA.2.1).1.2.2.2.2.1 hA.2.2 i hi
    rw [this]
  · exact ((ok a o.1 o.2.1).1.2.2.2.2.2 o.2.2).1
  · obtain ⟨a1, a2⟩ := (by decide : ∀ q ∈ irS, 2 ≤ q.1 ∧ q.1 < 1329) q hq
    exact (ok q.1 a1 a2).2.1 q hq rfl
  · obtain ⟨a1, a3⟩ := (by decide : ∀ q ∈ irM, (q.2 - 1270 < 59 ∧ 1270 ≤ q.2) ∧ irM.getD (q.2 - 1270) (0, 0) = q) q hq
    have := hM _ a1.1
    rw [a3] at this
    omega
  · exact (ok 28 (by decide) (by decide)).2.2.2 rfl
theorem XE_new {e n : Nat} (h : isE e n) (hc : mI M e 1 = 0) : XE M e n [] := ⟨h, ⟨hc, fun i hi => absurd hi (Nat.not_lt_zero i)⟩, Nat.zero_le _⟩
theorem XE_one {e n : Nat} {v : Int} (h : isE e n) (hn : 1 ≤ n) (hc : mI M e 1 = 1) (hv : mI M (e + 1) 0 = v) : XE M e n [v] := ⟨h, ⟨hc, fun i hi => by
  have : i = 0 := by rw [List.length_singleton] at hi; omega
  subst this
  exact hv⟩, hn⟩
theorem start_is (h : SB L xs [] 1329 s M) (hD : DSo M) (hR : RSo M) : IC M [] [] [] [] [50331648] [] (fun _ => [50331648]) (-1) 0 [] 0 ∧ IR M [] [] [] [] [50331648] [] (fun _ => [50331648]) (-1) 0 [] 0 := by
  have ok : ∀ a, 2 ≤ a → a < 1329 → OKc M a := fun a a1 a2 => h.2.2.1 a a1 a2 List.not_mem_nil
  have zE : ∀ e n, isE e n → spc e = false → XE M e n [] := fun e n he hs => XE_new he (((ok e he.1.1 he.1.2.1).1.1 he.1.2.2).2 (spc_no hs).2.1)
  have zC : ∀ c, isC c → 773 ≤ c → c + 3 < 1269 → ∃ z, CLc M c z := fun c hc c1 c2 => by
    refine ⟨(mI M c 3, mI M c 4, [], []), ⟨hc, rfl, rfl⟩, ⟨((ok c hc.1.1 hc.1.2.1).1.2.1 hc.1.2.2).2, fun i hi => absurd hi (Nat.not_lt_zero i), Nat.zero_le _⟩, zE _ _ hc.2.2 (spc_in (by omega))⟩
  have zP : ∀ p, p < 3 → PRx M (773 + 162 * p) [] := fun p hp => by
    have hP := isP_at hp
    exact ⟨⟨⟨hP, ((ok _ hP.1.1 hP.1.2.1).1.2.2.2.1 hP.1.2.2).2, Nat.zero_le _⟩, fun i z hz => (by cases hz)⟩, fun i hi => zC _ (hP.2.2 i hi) (by omega) (by omega)⟩
  have zB : ∀ b, isB b → 773 ≤ b → b + 5 ≤ 1269 → BDc M b [] := fun b hb b1 b2 => by
    refine ⟨⟨hb, ((ok b hb.1.1 hb.1.2.1).1.2.2.2.2.2 hb.1.2.2).2, Nat.zero_le _⟩, fun i hi => absurd hi (Nat.not_lt_zero i), fun i hi => absurd hi (Nat.not_lt_zero i), zE _ _ hb.2.2 (spc_in (by omega))⟩
  have iz : ∀ q ∈ izS, mI M q.1 q.2.1 = q.2.2 := fun q hq => by
    obtain ⟨a1, a2⟩ := (by decide : ∀ q ∈ izS, 2 ≤ q.1 ∧ q.1 < 1329) q hq
    exact (ok q.1 a1 a2).2.2.1 q hq rfl
  obtain ⟨d1, d2, ⟨d3, d4, d5⟩, ⟨d6, d7⟩, d8⟩ := hD
  obtain ⟨r1, r2, r3, r4, r5, r6⟩ := hR
  refine ⟨⟨⟨?_, ?_, ?_, ?_⟩, ⟨?_, ⟨d7, d6⟩, ?_⟩, ⟨?_, ?_⟩, iz (21, 9, 0) (by decide)⟩, ⟨⟨?_, ?_, ?_, ?_⟩, ⟨?_, ?_, ?_⟩, ⟨⟨?_, ?_⟩, ?_⟩, ?_⟩⟩
  · exact ⟨iz (3, 4, 0) (by decide), Nat.zero_le _, fun i hi => absurd hi (Nat.not_lt_zero i)⟩
  · exact ⟨773, 935, 1097, ⟨by decide, by decide, by decide, by decide⟩, ⟨d1 10 (by decide), d1 11 (by decide), d1 12 (by decide)⟩, zP 0 (by decide), zP 1 (by decide), [], zP 2 (by decide)⟩
  · exact ⟨1259, 1264, ⟨by decide, by decide, by decide⟩, ⟨d1 13 (by decide), d1 14 (by decide)⟩, zB _ isB_at0 (by decide) (by decide), [], zB _ isB_at1 (by decide) (by decide)⟩
  · refine ⟨XE_one (isE_of _ _ (by decide)) (by decide) d4 d5, zE _ _ (isE_of _ _ (by decide)) (by decide), fun i hi => ?_⟩
    obtain ⟨-, e1, e2, e3⟩ := d2 i hi
    refine XE_one ?_ (by decide) e2 (by rw [show 759 + 2 * i + 1 = 760 + 2 * i by omega]; exact e3)
    have : i = 0 ∨ i = 1 ∨ i = 2 ∨ i = 3 := by omega
    rcases this with rfl | rfl | rfl | rfl
    · exact isE_of _ _ (by decide)
    · exact isE_of _ _ (by decide)
    · exact isE_of _ _ (by decide)
    · exact isE_of _ _ (by decide)
  · exact ⟨⟨[], zE _ _ (isE_of _ _ (by decide)) (by decide)⟩, [], zE _ _ (isE_of _ _ (by decide)) (by decide)⟩
  · exact ⟨iz (9, 2, 0) (by decide), Nat.zero_le _, fun i hi => absurd hi (Nat.not_lt_zero i)⟩
  · exact ⟨23, 25, [], Or.inl ⟨rfl, rfl⟩, d8, zE _ _ (isE_of _ _ (by decide)) (by decide), [], zE _ _ (isE_of _ _ (by decide)) (by decide)⟩
  · refine ⟨⟨fun x hx => ?_, [], zE _ _ (isE_of _ _ (by decide)) (by decide)⟩, ⟨[], zE _ _ (isE_of _ _ (by decide)) (by decide)⟩, [], zE _ _ (isE_of _ _ (by decide)) (by decide)⟩
    have hn := isN_at hx
    refine ⟨⟨[], ?_⟩, [], ?_⟩
    · have := zE _ _ hn.2.1 (spc_in (by omega))
      rw [show 31 + 6 * x = 30 + 6 * x + 1 by omega]
      exact this
    · have := zE _ _ hn.2.2.2 (spc_in (by omega))
      rw [show 34 + 6 * x = 30 + 6 * x + 4 by omega]
      exact this
  · exact ⟨(r2 1).trans (by decide), Nat.zero_le _, fun i hi => absurd hi (Nat.not_lt_zero i)⟩
  · exact ⟨r4 1280 (by decide) (by decide) (by decide) (by decide) (by decide) 0, fun i z hz => (by cases hz)⟩
  · exact ⟨r4 1280 (by decide) (by decide) (by decide) (by decide) (by decide) 1, fun i z hz => (by cases hz)⟩
  · exact ⟨(r2 36).trans (by decide), fun i z hz => (by cases hz)⟩
  · refine ⟨(r2 35).trans (by decide), fun i hi => ?_⟩
    have : i = 0 := by rw [List.length_singleton] at hi; omega
    subst this
    exact r5
  · exact ⟨(r2 90).trans (by decide), fun i hi => absurd hi (Nat.not_lt_zero i)⟩
  · refine fun i hi => ⟨r3 i hi, fun j hj => ?_⟩
    have : j = 0 := by rw [List.length_singleton] at hj; omega
    subst this
    exact r6 i hi
  · exact (r2 3).trans (by decide)
  · exact (r2 77).trans (by decide)
  · exact ⟨(r2 61).trans (by decide), Nat.zero_le _, fun i hi => absurd hi (Nat.not_lt_zero i)⟩
  · exact (r2 52).trans (by decide)
theorem DSo.kp {M1 : Mem} (h : DSo M) (k : Kp 1269 M M1) : DSo M1 := by
  obtain ⟨d1, d2, ⟨d3, d4, d5⟩, ⟨d6, d7⟩, d8, d9⟩ := h
  refine ⟨d1.kp k (by decide), fun i hi => ?_, ⟨((k 767 (by decide) _).2).trans d3, ((k 767 (by decide) _).1).trans d4, ((k 768 (by decide) _).1).trans d5⟩, ⟨((k 2 (by decide) _).1).trans d6, ((k 2 (by decide) _).1).trans d7⟩, ((k 21 (by decide) _).2).trans d8, ((k 21 (by decide) _).2).trans d9⟩
  obtain ⟨e1, e2, e3, e4⟩ := d2 i hi
  exact ⟨((k 758 (by decide) _).2).trans e1, ((k _ (by omega) _).2).trans e2, ((k _ (by omega) _).1).trans e3, ((k _ (by omega) _).1).trans e4⟩
/-- both are made, and the law's loop begins -/
theorem law_start : ∃ M2, L_law 1 (M00 L xs) = L_law_18 1 2 1269 0 M2 ∧ Good M2 ∧ SCR L xs M2 ∧ IC M2 [] [] [] [] [50331648] [] (fun _ => [50331648]) (-1) 0 [] 0 ∧ IR M2 [] [] [] [] [50331648] [] (fun _ => [50331648]) (-1) 0 [] 0 := by
  have h0 : SB L xs spX 2 0 (M00 L xs) := by
    refine ⟨⟨rfl, rfl, by decide⟩, fun b b1 b2 => absurd b2 (by omega), fun b b1 b2 => absurd b2 (by omega), rfl, fun k => ?_⟩
    show (if 1 = 1 ∧ k < L then xs k else 0) = _
    by_cases q : k < L
    · rw [if_pos ⟨rfl, q⟩, if_pos q]
    · rw [if_neg (fun g => q g.2), if_neg q]
  have h1 : SB L xs spX 3 (0 + 17) (nwC (M00 L xs) (.inl 11) 17) := h0.nw (by decide) (Or.inl (by decide))
  obtain ⟨M1, a1, a2, a3⟩ := D_init_s h1
  have h2 : SB L xs [] 1269 (slD (0 + 17)) M1 := a2.only fun a ha => Or.inr (a3.ok a ha)
  have h3 := MS.start h2
  obtain ⟨M2, b1, b2, b3, b4⟩ := M_init_s h3
  have hDs := a3.kp b4
  have h4 : SB L xs [] 1329 (slM (slD (0 + 17) + 93)) M2 := b2.only fun a ha => Or.inr (OKc_ref b3 a ha)
  have e : slM (slD (0 + 17) + 93) = 347758 := by decide
  rw [e] at h4
  obtain ⟨i1, i2⟩ := start_is h4 hDs b3
  refine ⟨M2, ?_, h4.good b3.1, h4.2.2.2, i1, i2⟩
  rw [L_law_eq, h0.1.1, gO_m h0.1.1 (by decide), gd_t, a1, cV_s, a2.1.1, gO_m a2.1.1 (by decide), gd_t, b1, cV_s]
end STARTH

/-! ===== text ===== -/
def MG (M : Mem) (ng : List Int) : Prop := mI M 1269 90 = (ng.length : Int) ∧ RM M 1326 0 ng
def txT (dr : Int) (zs ns : List Clz) (gl ng ws : List Int) (w : Int) : List Int := if w = 0 then (if dr = 0 then ws else pgB ns) else if w = 1 then (if dr = 0 then ws else wtx ng []) else if w = 2 then pgB zs else if w = 3 then wtx gl [] else ws
def txA (dr : Int) (zs ns : List Clz) (gl ng : List Int) (w : Int) : Int := if w < 0 ∨ 3 < w ∨ (w < 2 ∧ dr = 0) then -1 else ((txT dr zs ns gl ng [] w).length : Int)
/-- a goal that can be written -/
def gok (xs : List Int) : Prop := (wf 1 xs ∧ av xs ∧ xs.length ≤ 100) ∧ vlo xs
section TEXT
variable {M : Mem} {ws : List Int} {zs ns : List Clz} {gl ng : List Int} {es : Nat → List Int} {f dr : Int}
theorem CP.new (h : CP M zs ns) : ∃ P, (773 ≤ P ∧ P < 1259) ∧ PRc M P ns ∧ mR M 2 11 = P := by
  obtain ⟨P0, P1, P2, p, ⟨r0, r1, r2⟩, a0, a1, -⟩ := h
  unfold prm at p
  exact ⟨P1, by omega, a1.1, r1⟩
theorem CP.told2 (h : CP M zs ns) : ∃ P, (773 ≤ P ∧ P < 1259) ∧ PRc M P zs ∧ mR M 2 10 = P := by
  obtain ⟨P0, P1, P2, p, ⟨r0, r1, r2⟩, a0, a1, -⟩ := h
  unfold prm at p
  exact ⟨P0, by omega, a0.1, r0⟩
theorem D_text_s (hG : Good M) (hP : CP M zs ns) (hE : CE M gl ng es) (hF : CF M f dr) (hz : zsk 100 zs) (hn : dr ≠ 0 → zsk 100 ns ∧ gok ng) (hg : gok gl) (hT : TXc M ws) (w : Int) : ∃ M', D_text 2 w M = some (some (.inl (txA dr zs ns gl ng w)), M') ∧ TXc M' (txT dr zs ns gl ng ws w) ∧ Fj wcL M M' := by
  have goal : ∀ {e : Nat} {xs : List Int}, 11 < e → XE M e 100 xs → gok xs → ∃ M', D_writeExpr 2 e M = some (some (.inl ((wtx xs []).length : Int)), M') ∧ TXc M' (wtx xs []) ∧ Fj wcL M M' := fun he hx hg => D_writeExpr_s hG he hx hT hg.1.2.1 hg.2 (wok_len _ [] (by simp; have := hg.1.2.2; omega)) (by have := hg.1.2.2; omega)
  have f1 : Fj (fun a k => a = 9 ∧ k = 2) M (stI M 9 2 0) := Fj.ofI ⟨rfl, rfl⟩
  have hG1 := hG.fj f1
  have hT1 : TXc (stI M 9 2 0) [] := ⟨mI_at, by decide, fun i hi => absurd hi (Nat.not_lt_zero i)⟩
  have prog : ∀ {P : Nat} {us : List Clz}, 773 ≤ P ∧ P < 1259 → PRc M P us → zsk 100 us → ∃ M', Wr_putProgram 9 P (stI M 9 2 0) = some (none, M') ∧ TXc M' (pgB us) ∧ Fj wcL (stI M 9 2 0) M' := by
    intro P us hP hp hz
    obtain ⟨M', a1, a2, a3⟩ := Wr_putProgram_s (by omega) (Nat.le_refl _) hz _ 0 (stI M 9 2 0) [] none rfl (Nat.zero_le _) hG1 (hp.fj f1 fun a k q => by unfold pS at q; omega) hT1 (by have := hp.1.2.2; simp; omega)
    rw [Wr_putProgram_eq]
    exact ⟨M', a1, a2, a3⟩
  have head : ∀ {w2 : Int}, ¬ w2 = 1 → ¬ w2 = 3 → D_text_23 2 w2 M = gd (gO (stI M 9 2 0) 2 11) (if w2 = 0 then (gd (gO (stI M 9 2 0) 2 11) (gd (gO (stI M 9 2 0) (mR (stI M 9 2 0) 2 1) 10) (cV (Wr_putProgram (mR (stI M 9 2 0) 2 1) (mR (stI M 9 2 0) 2 11) (stI M 9 2 0)) fun M2 => gd (gO M2 2 11) (gd (gO M2 (mR M2 2 1) 10) (some (some (.inl (mI M2 (mR M2 2 1) 2)), M2)))))) else (gd (gO (stI M 9 2 0) 2 11) (gd (gO (stI M 9 2 0) (mR (stI M 9 2 0) 2 1) 10) (cV (Wr_putProgram (mR (stI M 9 2 0) 2 1) (mR (stI M 9 2 0) 2 10) (stI M 9 2 0)) fun M3 => gd (gO M3 2 11) (gd (gO M3 (mR M3 2 1) 10) (some (some (.inl (mI M3 (mR M3 2 1) 2)), M3))))))) := by
    intro w2 h1 h3
    rw [D_text_23_eq, if_neg h1, if_neg h3, hG.gx, gd_t, hG.r2_1, hG.gW, gd_t, Wr_clear_eq, hG.gW, gd_t, cV_s]
  unfold txA txT
  rw [D_text_eq]
  by_cases b1 : w < 0
  · rw [if_pos b1, if_pos (Or.inl b1), if_neg (by omega), if_neg (by omega), if_neg (by omega), if_neg (by omega)]
    exact ⟨M, rfl, hT, Fj.refl⟩
  rw [if_neg b1]
  by_cases b2 : 3 < w
  · rw [if_pos b2, if_pos (Or.inr (Or.inl b2)), if_neg (by omega), if_neg (by omega), if_neg (by omega), if_neg (by omega)]
    exact ⟨M, rfl, hT, Fj.refl⟩
  rw [if_neg b2]
  by_cases b3 : w < 2
  · rw [if_pos b3, hG.gx, gd_t, hF.2]
    by_cases b4 : dr = 0
    · rw [if_pos b4, if_pos (Or.inr (Or.inr ⟨b3, b4⟩))]
      refine ⟨M, rfl, ?_, Fj.refl⟩
      by_cases h0 : w = 0
      · rw [if_pos h0, if_pos b4]; exact hT
      · rw [if_neg h0, if_pos (by omega), if_pos b4]; exact hT
    · obtain ⟨n1, n2⟩ := hn b4
      rw [if_neg b4, if_neg (by omega)]
      by_cases h0 : w = 0
      · obtain ⟨P, p1, p2, p3⟩ := hP.new
        obtain ⟨M', a1, a2, a3⟩ := prog p1 p2 n1
        have hG2 := hG1.fj a3
        rw [if_pos h0, if_neg b4, head (by omega) (by omega), if_pos h0, hG1.gx, gd_t, gd_t, hG1.r2_1, hG1.gW, gd_t]
        have p3' : mR (stI M 9 2 0) 2 11 = P := p3
        rw [p3', a1, cV_s, hG2.gx, gd_t, hG2.r2_1, hG2.gW, gd_t, a2.1, if_pos h0, if_neg b4]
        exact ⟨M', rfl, a2, (f1.mono fun a k q => Or.inl (Or.inr q)).trans a3⟩
      · have h1 : w = 1 := by omega
        obtain ⟨M', a1, a2, a3⟩ := goal (e := 769) (by decide) hE.2.1 n2
        rw [if_neg h0, if_pos h1, if_neg b4, D_text_23_eq, if_pos h1, D_text_33_eq, if_pos h1, hG.gx, gd_t, gd_t, hG.r2_8, a1, cI_s, if_neg h0, if_pos h1, if_neg b4]
        exact ⟨M', rfl, a2, a3⟩
  · have n0 : ¬ w = 0 := by omega
    have n1 : ¬ w = 1 := by omega
    have hno : ¬ (w < 0 ∨ 3 < w ∨ (w < 2 ∧ dr = 0)) := by omega
    rw [if_neg b3, if_neg hno, if_neg n0, if_neg n0, if_neg n1, if_neg n1]
    by_cases h2 : w = 2
    · obtain ⟨P, p1, p2, p3⟩ := hP.told2
      obtain ⟨M', a1, a2, a3⟩ := prog p1 p2 hz
      have hG2 := hG1.fj a3
      rw [if_pos h2, if_pos h2, head n1 (by omega), if_neg n0, hG1.gx, gd_t, gd_t, hG1.r2_1, hG1.gW, gd_t]
      have p3' : mR (stI M 9 2 0) 2 10 = P := p3
      rw [p3', a1, cV_s, hG2.gx, gd_t, hG2.r2_1, hG2.gW, gd_t, a2.1]
      exact ⟨M', rfl, a2, (f1.mono fun a k q => Or.inl (Or.inr q)).trans a3⟩
    · have h3 : w = 3 := by omega
      obtain ⟨M', a1, a2, a3⟩ := goal (e := 767) (by decide) hE.1 hg
      rw [if_neg h2, if_neg h2, if_pos h3, if_pos h3, D_text_23_eq, if_neg n1, if_pos h3, D_text_33_eq, if_neg n1, hG.gx, gd_t, gd_t, hG.r2_7, a1, cI_s]
      exact ⟨M', rfl, a2, a3⟩
theorem arr_1326 : arr 1326 0 100 := arr_of _ _ _ (by decide)
theorem M_text_s (hG : Good M) (hP : MP M zs) (hl : zs.length ≤ 40) (hO : MO M gl) (hF : MF M f dr) (hz : zsk 100 zs) (hn : dr ≠ 0 → (MQn M ns ∧ ns.length ≤ 40 ∧ zsk 100 ns) ∧ MG M ng ∧ gok ng) (hg : gok gl) (hT : TXm M ws) (w : Int) : ∃ M', M_text 1269 w M = some (some (.inl (txA dr zs ns gl ng w)), M') ∧ TXm M' (txT dr zs ns gl ng ws w) ∧ Fj wmL M M' := by
  have f1 : Fj (fun a k => a = 1269 ∧ k = 61) M (stI M 1269 61 0) := Fj.ofI ⟨rfl, rfl⟩
  have hG1 := hG.fj f1
  obtain ⟨hb, hT1⟩ := M_begin_s hG
  have F1 : Fj wmL M (stI M 1269 61 0) := f1.mono fun a k q => Or.inl (Or.inr q)
  have goal : ∀ {e : Nat} {xs : List Int}, (e ≠ 1307 ∧ e ≠ 1308 ∧ e ≠ 1269) → RX M e 100 0 xs → gok xs → ∃ M', M_writeThings 1269 e 0 (xs.length : Int) 0 (stI M 1269 61 0) = some (none, M') ∧ TXm M' (wtx xs []) ∧ Fj wmL (stI M 1269 61 0) M' := fun he hx hg => M_writeThings_s hG1 (hx.fj f1 (by omega)) he hT1 hg.2 (wok_len _ [] (by simp; have := hg.1.2.2; omega)) (by simp; have := hg.1.2.2; omega)
  have prog : ∀ {p : Nat} {us : List Clz}, p < 2 → us.length ≤ 40 → mI M 1280 p = (us.length : Int) → PMr M 1274 (40 * p) 100 us → zsk 100 us → ∃ M', M_writeProgram 1269 (p : Int) (stI M 1269 61 0) = some (none, M') ∧ TXm M' (pgB us) ∧ Fj wmL (stI M 1269 61 0) M' := by
    intro p us hp hl hc hr hz
    obtain ⟨M', a1, a2, a3⟩ := M_writeProgram_s hp (Nat.le_refl _) hz hl _ 0 (stI M 1269 61 0) [] rfl (Nat.zero_le _) hG1 ((f1.2.2 _ _ (by omega)).trans hc) (hr.fj f1 fun a k q => by omega) hT1 (by simp; omega)
    rw [M_writeProgram_eq, wr_id (x := 40 * (p : Int)) (by omega) (by omega)]
    exact ⟨M', a1, a2, a3⟩
  have fin : ∀ {M' : Mem} {us : List Int}, TXm M' us → Fj wmL (stI M 1269 61 0) M' → (gd (gO M' 1269 12) (some (some (.inl (mI M' 1269 61)), M')) : Res) = some (some (.inl (us.length : Int)), M') := fun h h2 => by rw [(hG1.fj h2).gM, gd_t, h.1]
  have t23 : ∀ w2 : Int, M_text_23 1269 w2 M = if w2 = 0 then M_text_36 1269 w2 (stI M 1269 61 0) else if w2 = 2 then M_text_36 1269 w2 (stI M 1269 61 0) else if w2 = 1 then cV (M_writeThings 1269 1326 0 (mI (stI M 1269 61 0) 1269 90) 0 (stI M 1269 61 0)) (fun M2 => gd (gO M2 1269 12) (some (some (.inl (mI M2 1269 61)), M2))) else cV (M_writeThings 1269 1288 0 (mI (stI M 1269 61 0) 1269 35) 0 (stI M 1269 61 0)) (fun M3 => gd (gO M3 1269 12) (some (some (.inl (mI M3 1269 61)), M3))) := by
    intro w2
    rw [M_text_23_eq, hG.gM, gd_t, hb, cV_s, hG1.gM, gd_t, gd_t, gd_t, gd_t, gd_t, gd_t, hG1.m88, hG1.m29]
  unfold txA txT
  rw [M_text_eq, M_isIn_s, cI_s]
  by_cases b0 : 0 ≤ w ∧ w ≤ 3
  · rw [if_pos b0, if_neg (by decide)]
    by_cases b3 : w < 2
    · rw [if_pos b3, hG.gM, gd_t, hF.2]
      by_cases b4 : dr = 0
      · rw [if_pos b4, if_pos (Or.inr (Or.inr ⟨b3, b4⟩))]
        refine ⟨M, rfl, ?_, Fj.refl⟩
        by_cases h0 : w = 0
        · rw [if_pos h0, if_pos b4]; exact hT
        · rw [if_neg h0, if_pos (by omega), if_pos b4]; exact hT
      · obtain ⟨⟨n0, n1, n2⟩, n3, n4⟩ := hn b4
        rw [if_neg b4, if_neg (by omega), t23]
        by_cases h0 : w = 0
        · obtain ⟨M', a1, a2, a3⟩ := prog (p := 1) (by decide) n1 n0.1 n0.2 n2
          have a1 : M_writeProgram 1269 1 (stI M 1269 61 0) = some (none, M') := a1
          rw [if_pos h0, if_pos h0, if_neg b4, M_text_36_eq, if_pos h0, hG1.gM, gd_t, a1, cV_s, fin a2 a3, if_pos h0, if_neg b4]
          exact ⟨M', rfl, a2, F1.trans a3⟩
        · have h1 : w = 1 := by omega
          obtain ⟨M', a1, a2, a3⟩ := goal (e := 1326) (by decide) ⟨⟨arr_1326, by decide⟩, n3.2, by have := n4.1.2.2; omega, n4.1.2.1⟩ n4
          have e90 : mI (stI M 1269 61 0) 1269 90 = (ng.length : Int) := by rw [mI_ne (by omega)]; exact n3.1
          rw [if_neg h0, if_neg (by omega), if_pos h1, e90, a1, cV_s, fin a2 a3, if_neg h0, if_pos h1, if_neg b4, if_neg h0, if_pos h1, if_neg b4]
          exact ⟨M', rfl, a2, F1.trans a3⟩
    · rw [if_neg b3, if_neg (by omega), t23]
      by_cases h2 : w = 2
      · obtain ⟨M', a1, a2, a3⟩ := prog (p := 0) (by decide) hl hP.1 hP.2 hz
        have a1 : M_writeProgram 1269 0 (stI M 1269 61 0) = some (none, M') := a1
        rw [if_neg (by omega), if_pos h2, M_text_36_eq, if_neg (by omega), hG1.gM, gd_t, a1, cV_s, fin a2 a3]
        rw [if_neg (by omega), if_neg (by omega), if_pos h2, if_neg (by omega), if_neg (by omega), if_pos h2]
        exact ⟨M', rfl, a2, F1.trans a3⟩
      · have h3 : w = 3 := by omega
        obtain ⟨M', a1, a2, a3⟩ := goal (e := 1288) (by decide) ⟨⟨arr_1288, by decide⟩, hO.2, by have := hg.1.2.2; omega, hg.1.2.1⟩ hg
        have e35 : mI (stI M 1269 61 0) 1269 35 = (gl.length : Int) := by rw [mI_ne (by omega)]; exact hO.1
        rw [if_neg (by omega), if_neg h2, if_neg (by omega), e35, a1, cV_s, fin a2 a3]
        rw [if_neg (by omega), if_neg (by omega), if_neg h2, if_pos h3, if_neg (by omega), if_neg (by omega), if_neg h2, if_pos h3]
        exact ⟨M', rfl, a2, F1.trans a3⟩
  · rw [if_neg b0, if_pos rfl, if_pos (by omega), if_neg (by omega), if_neg (by omega), if_neg (by omega), if_neg (by omega)]
    exact ⟨M, rfl, hT, Fj.refl⟩
end TEXT

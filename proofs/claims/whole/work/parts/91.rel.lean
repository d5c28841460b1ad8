/-! ===== relation, common, commonOf ===== -/
def relA (es : Nat → List Int) (i j w : Int) : Int := if isY i ∧ isY j then (if w = 0 then b2i (rnc (es i.toNat) (es j.toNat) [] []) else if w = 1 then okO (insg (es i.toNat) (es j.toNat) 0 []) else if w = 2 then b2i (emb (es i.toNat) (es j.toNat) 0 0) else if w = 3 then b2i (cpl (es i.toNat) (es j.toNat) 0 0) else -1) else -1
def comR (es : Nat → List Int) (i j : Int) (b : Nat) : List Int × Pr2 := com (es i.toNat) (es j.toNat) b (es i.toNat).length 0 0 []
def cmnA (es : Nat → List Int) (i j : Int) : Int := if isY i ∧ isY j then ((wtx (comR es i j 1).1 []).length : Int) else -1
def cmnT (es : Nat → List Int) (ws : List Int) (i j : Int) : List Int := if isY i ∧ isY j then wtx (comR es i j 1).1 [] else ws
def cmoA (es : Nat → List Int) (i j w : Int) : Int := if isY i ∧ isY j ∧ 0 ≤ w ∧ w ≤ 1 then (if w = 0 then ((comR es i j 1).2.length : Int) else ((comR es i j 1).1.length : Int)) else -1
/-- VARS that follow one another -/
def vsq (b m : Nat) : List Int := (List.range m).map fun k : Nat => (b : Int) + (k : Int)
theorem vsq_len (b m : Nat) : (vsq b m).length = m := by unfold vsq; rw [List.length_map, List.length_range]
theorem vsq_s (b m : Nat) : vsq b (m + 1) = vsq b m ++ [(b : Int) + (m : Int)] := by unfold vsq; rw [List.range_succ, List.map_append]; rfl
theorem vsq_nth {b m k : Nat} (h : k < m) : nth (vsq b m) k = (b : Int) + (k : Int) := by
  unfold nth vsq
  rw [List.getD_eq_getElem?_getD, List.getElem?_map, List.getElem?_range h]
  rfl
theorem vsq_mem {b m : Nat} {c : Int} : c ∈ vsq b m ↔ ∃ k, k < m ∧ c = (b : Int) + (k : Int) := by
  unfold vsq
  rw [List.mem_map]
  exact ⟨fun ⟨k, h1, h2⟩ => ⟨k, List.mem_range.mp h1, h2.symm⟩, fun ⟨k, h1, h2⟩ => ⟨k, List.mem_range.mpr h1, h2.symm⟩⟩
theorem vsq_ix {b m k : Nat} (h : k < m) : ix (vsq b m) ((b : Int) + (k : Int)) = (k : Int) := by
  rcases ix_spec (vsq b m) ((b : Int) + (k : Int)) with ⟨-, h2⟩ | ⟨j, h1, h2, h3, -⟩
  · exact absurd (vsq_mem.mpr ⟨k, h, rfl⟩) h2
  · rw [vsq_len] at h1
    rw [vsq_nth h1] at h3
    omega
theorem com_ord {xs ys : List Int} {b : Nat} : ∀ (n p q : Nat) (ps : Pr2), p ≤ xs.length → xs.length - p ≤ n → b + ps.length + (xs.length - p) < 65536 → ordo (com xs ys b n p q ps).1 (vsq b ps.length) = vsq b (com xs ys b n p q ps).2.length := by
  intro n
  induction n with
  | zero => intro p q ps _ _ _; rfl
  | succ n ih =>
    intro p q ps hp hn hb
    unfold com
    by_cases h : p < xs.length
    · have hb1 := beh_gt h
      have hb2 := beh_le (xs := xs) hp
      rw [if_pos h]
      split
      · rename_i h2
        unfold cns ordo
        rw [if_neg (fun q => h2.2 q.1)]
        exact ih _ _ _ (by omega) (by omega) (by omega)
      · split
        · rename_i k hk
          have hkl := pfo_lt _ _ _ hk
          unfold cns ordo
          rw [if_neg (fun q => q.2 (vsq_mem.mpr ⟨k, by omega, rfl⟩))]
          exact ih _ _ _ hb2 (by omega) (by omega)
        · unfold cns ordo
          rw [if_pos ⟨(kd_var (by omega)).1, fun q => by obtain ⟨k, h1, h2⟩ := vsq_mem.mp q; omega⟩, ← vsq_s]
          have := ih (beh xs p) (beh ys q) (ps ++ [(p, q)]) hb2 (by omega) (by rw [List.length_append, List.length_singleton]; omega)
          rw [List.length_append, List.length_singleton] at this
          exact this
    · rw [if_neg h]
      rfl
theorem com_rno {xs ys : List Int} {b m : Nat} (hbm : b + m < 65536) : ∀ (n p q : Nat) (ps : Pr2), p ≤ xs.length → xs.length - p ≤ n → (com xs ys b n p q ps).2.length ≤ m → (com xs ys b n p q ps).1.map (rno (vsq b m)) = (com xs ys (1 : Nat) n p q ps).1 ∧ (com xs ys b n p q ps).2 = (com xs ys (1 : Nat) n p q ps).2 := by
  intro n
  induction n with
  | zero => intro p q ps _ _ _; exact ⟨rfl, rfl⟩
  | succ n ih =>
    intro p q ps hp hn hm
    unfold com at hm ⊢
    by_cases h : p < xs.length
    · have hb1 := beh_gt h
      have hb2 := beh_le (xs := xs) hp
      rw [if_pos h] at hm ⊢
      rw [if_pos h]
      by_cases h2 : nth xs p = nth ys q ∧ kd (nth xs p) ≠ 0
      · rw [if_pos h2] at hm ⊢
        rw [if_pos h2]
        obtain ⟨i1, i2⟩ := ih (p + 1) (q + 1) ps (by omega) (by omega) hm
        unfold cns
        refine ⟨?_, i2⟩
        show rno (vsq b m) (nth xs p) :: _ = _
        rw [i1, show rno (vsq b m) (nth xs p) = nth xs p from if_neg h2.2]
      · rw [if_neg h2] at hm ⊢
        rw [if_neg h2]
        have vr : ∀ {k : Nat}, k < m → rno (vsq b m) ((b : Int) + (k : Int)) = ((1 : Nat) : Int) + (k : Int) := by
          intro k hk
          unfold rno
          rw [if_pos (kd_var (by omega)).1, vsq_ix hk]
          omega
        cases hpf : pfo xs ys p q ps 0 with
        | some k =>
          rw [hpf] at hm
          have hm : (com xs ys b n (beh xs p) (beh ys q) ps).2.length ≤ m := hm
          have hkl := pfo_lt _ _ _ hpf
          have hl := com_len (xs := xs) (ys := ys) (bs := (b : Int)) n (beh xs p) (beh ys q) ps hb2
          obtain ⟨i1, i2⟩ := ih (beh xs p) (beh ys q) ps hb2 (by omega) hm
          refine ⟨?_, i2⟩
          show rno (vsq b m) ((b : Int) + (k : Int)) :: (com xs ys b n (beh xs p) (beh ys q) ps).1.map (rno (vsq b m)) = _
          rw [i1, vr (by omega)]
          rfl
        | none =>
          rw [hpf] at hm
          have hm : (com xs ys b n (beh xs p) (beh ys q) (ps ++ [(p, q)])).2.length ≤ m := hm
          have hl := com_len (xs := xs) (ys := ys) (bs := (b : Int)) n (beh xs p) (beh ys q) (ps ++ [(p, q)]) hb2
          rw [List.length_append, List.length_singleton] at hl
          obtain ⟨i1, i2⟩ := ih (beh xs p) (beh ys q) (ps ++ [(p, q)]) hb2 (by omega) hm
          refine ⟨?_, i2⟩
          show rno (vsq b m) ((b : Int) + (ps.length : Int)) :: (com xs ys b n (beh xs p) (beh ys q) (ps ++ [(p, q)])).1.map (rno (vsq b m)) = _
          rw [i1, vr (by omega)]
          rfl
    · rw [if_neg h, if_neg h]
      exact ⟨rfl, rfl⟩
theorem com_vlo {xs ys : List Int} (hl : xs.length ≤ 40) : ∀ (n p q : Nat) (ps : Pr2), p ≤ xs.length → xs.length - p ≤ n → ps.length ≤ p → vlo (com xs ys (1 : Nat) n p q ps).1 := by
  intro n
  induction n with
  | zero => intro p q ps _ _ _ c hc; cases hc
  | succ n ih =>
    intro p q ps hp hn hps
    unfold com
    by_cases h : p < xs.length
    · have hb1 := beh_gt h
      have hb2 := beh_le (xs := xs) hp
      rw [if_pos h]
      split
      · rename_i h2
        intro c hc
        rcases List.mem_cons.mp hc with e | e
        · rw [e]; exact fun hk => absurd hk h2.2
        · exact ih _ _ _ (by omega) (by omega) (by omega) c e
      · split
        · rename_i k hk
          have hkl := pfo_lt _ _ _ hk
          intro c hc
          rcases List.mem_cons.mp hc with e | e
          · rw [e]; exact fun _ => by omega
          · exact ih _ _ _ hb2 (by omega) (by omega) c e
        · intro c hc
          rcases List.mem_cons.mp hc with e | e
          · rw [e]; exact fun _ => by omega
          · exact ih _ _ _ hb2 (by omega) (by rw [List.length_append, List.length_singleton]; omega) c e
    · rw [if_neg h]
      intro c hc
      cases hc
section REL
variable {M : Mem} {gl ng ws : List Int} {es : Nat → List Int}
def reS : Nat → Nat → Prop := fun a k => (13 ≤ a ∧ a ≤ 20) ∨ (a = 12 ∧ 8 ≤ k)
theorem D_relation_s (hG : Good M) (hE : CE M gl ng es) (hx : ∀ i, i < 4 → xok (es i)) (i j w : Int) : ∃ M', D_relation 2 i j w M = some (some (.inl (relA es i j w)), M') ∧ Fj reS M M' := by
  unfold relA
  rw [D_relation_eq, D_isExpression_s, cI_s]
  by_cases hi : 0 ≤ i ∧ i < 4
  · rw [if_pos hi, if_neg (by decide), D_isExpression_s, cI_s]
    by_cases hj : 0 ≤ j ∧ j < 4
    · have hij : isY i ∧ isY j := ⟨hi, hj⟩
      rw [if_pos hj, if_neg (by decide), if_pos hij]
      obtain ⟨a, rfl⟩ := Int.eq_ofNat_of_zero_le hi.1
      obtain ⟨b, rfl⟩ := Int.eq_ofNat_of_zero_le hj.1
      have ha : a < 4 := by omega
      have hb : b < 4 := by omega
      obtain ⟨⟨x1, x2, x3⟩, x4⟩ := hx a ha
      obtain ⟨⟨y1, y2, y3⟩, y4⟩ := hx b hb
      have hX := hE.2.2 a ha
      have hY := hE.2.2 b hb
      obtain ⟨M1, c1, ⟨c2, c3⟩, c4⟩ := Ma_compare_s (e := 759 + 2 * a) (f := 759 + 2 * b) (by omega) (by omega) x2 y2 x1 y1 x3 y3 hG hX hY
      have hG1 := hG.fj c4
      have F1 : Fj reS M M1 := c4.mono fun a k q => by unfold cmS at q; unfold reS; omega
      have hX1 := hX.fj c4 (by unfold cmS; omega) (by unfold cmS; omega)
      have hY1 := hY.fj c4 (by unfold cmS; omega) (by unfold cmS; omega)
      rw [hG.gx, gd_t, hG.r2_6, hG.aX ha, gd_t, gd_t, hG.aX hb, gd_t, gd_t, hG.r2_2, hG.gMa, gd_t, toNat_n, toNat_n, hG.rX ha, hG.rX hb, c1, cV_s, hG1.gx, hG1.r2_2, hG1.gMa]
      by_cases q0 : w = 0
      · obtain ⟨M2, d1, d2⟩ := Ma_isRenaming_s (e := 759 + 2 * a) (f := 759 + 2 * b) (by omega) (by omega) x2 y2 y3 hG1 hX1 hY1
        rw [if_pos q0, if_pos q0, gd_t, gd_t, d1, cI_s]
        refine ⟨M2, ?_, F1.trans (d2.mono fun a k q => by unfold rnS at q; unfold reS; omega)⟩
        rcases b2i_01 (rnc (es a) (es b) [] []) with ⟨-, e⟩ | ⟨-, e⟩
        · rw [e]; rfl
        · rw [e]; rfl
      rw [if_neg q0, if_neg q0]
      by_cases q1 : w = 1
      · obtain ⟨M2, d1, -, d2⟩ := Ma_isInstance_s (e := 759 + 2 * a) (f := 759 + 2 * b) (by omega) (by omega) x2 x1 y2 y1 y3 hG1 hX1 hY1
        rw [if_pos q1, if_pos q1, gd_t, gd_t, d1, cI_s]
        refine ⟨M2, ?_, F1.trans (d2.mono fun a k q => by unfold miS at q; unfold reS; omega)⟩
        cases insg (es a) (es b) 0 [] <;> rfl
      rw [if_neg q1, if_neg q1]
      by_cases q2 : w = 2
      · rw [if_pos q2, if_pos q2, gd_t, gd_t, c3]
        refine ⟨M1, ?_, F1⟩
        rcases b2i_01 (emb (es a) (es b) 0 0) with ⟨-, e⟩ | ⟨-, e⟩
        · rw [e]; rfl
        · rw [e]; rfl
      rw [if_neg q2, if_neg q2]
      by_cases q3 : w = 3
      · rw [if_pos q3, if_pos q3, gd_t, gd_t, c2]
        refine ⟨M1, ?_, F1⟩
        rcases b2i_01 (cpl (es a) (es b) 0 0) with ⟨-, e⟩ | ⟨-, e⟩
        · rw [e]; rfl
        · rw [e]; rfl
      rw [if_neg q3, if_neg q3]
      exact ⟨M1, rfl, F1⟩
    · rw [if_neg hj, if_pos rfl, if_neg (fun q => hj q.2)]
      exact ⟨M, rfl, Fj.refl⟩
  · rw [if_neg hi, if_pos rfl, if_neg (fun q => hi q.1)]
    exact ⟨M, rfl, Fj.refl⟩
def coS : Nat → Nat → Prop := fun a k => reS a k ∨ wcL a k ∨ a = 771 ∨ a = 772
theorem comR_ok (hx : ∀ i, i < 4 → xok (es i)) {i : Int} (hi : 0 ≤ i ∧ i < 4) (j : Int) {b : Nat} (hb : b + 100 < 65536) : (wf 1 (comR es i j b).1 ∧ av (comR es i j b).1) ∧ (comR es i j b).1.length ≤ 40 ∧ (comR es i j b).2.length ≤ 40 := by
  obtain ⟨⟨x1, x2, x3⟩, x4⟩ := hx i.toNat (by omega)
  have h1 := com_ok (xs := es i.toNat) (ys := es j.toNat) (bs := (b : Int)) (by omega) x2 (es i.toNat).length 0 0 1 [] (Nat.zero_le _) (by omega) (by simp only [List.length_nil]; omega) x1
  have h2 := com_len (xs := es i.toNat) (ys := es j.toNat) (bs := (b : Int)) (es i.toNat).length 0 0 [] (Nat.zero_le _)
  simp only [List.length_nil] at h2
  unfold comR
  exact ⟨h1, by omega, by omega⟩
theorem D_common_s (hG : Good M) (hE : CE M gl ng es) (hS : CS M) (hT : TXc M ws) (hx : ∀ i, i < 4 → xok (es i)) (i j : Int) : ∃ M', D_common 2 i j M = some (some (.inl (cmnA es i j)), M') ∧ TXc M' (cmnT es ws i j) ∧ CS M' ∧ Fj coS M M' := by
  unfold cmnA cmnT
  rw [D_common_eq, D_isExpression_s, cI_s]
  by_cases hi : 0 ≤ i ∧ i < 4
  · rw [if_pos hi, if_neg (by decide), D_isExpression_s, cI_s]
    by_cases hj : 0 ≤ j ∧ j < 4
    · have hij : isY i ∧ isY j := ⟨hi, hj⟩
      obtain ⟨⟨k1, k2⟩, k3, k4⟩ := comR_ok hx hi j (b := 1) (by decide)
      rw [if_pos hj, if_neg (by decide), if_pos hij, if_pos hij]
      obtain ⟨a, rfl⟩ := Int.eq_ofNat_of_zero_le hi.1
      obtain ⟨b, rfl⟩ := Int.eq_ofNat_of_zero_le hj.1
      have ha : a < 4 := by omega
      have hb : b < 4 := by omega
      obtain ⟨⟨x1, x2, x3⟩, x4⟩ := hx a ha
      obtain ⟨⟨y1, y2, y3⟩, y4⟩ := hx b hb
      obtain ⟨⟨us, s1⟩, us2, s2⟩ := hS
      obtain ⟨M1, c1, c2, c3, c4⟩ := Ma_makeCommon_s (e := 759 + 2 * a) (f := 759 + 2 * b) (s := 771) (sn := 100) (fv := 1) (by omega) (by omega) (by decide) (by omega) (by omega) x2 y2 x1 y1 x3 y3 (by decide) (by decide) hG (hE.2.2 a ha) (hE.2.2 b hb) s1
      have c1 : Ma_makeCommon 12 (759 + 2 * a) (759 + 2 * b) 771 1 M = _ := c1
      have c2 : XE M1 771 100 (comR es (a : Int) (b : Int) 1).1 := c2
      have hG1 := hG.fj c4
      have F1 : Fj coS M M1 := c4.mono fun a k q => by unfold mczS mkS at q; unfold coS reS; omega
      have hT1 : TXc M1 ws := hT.fj c4 (by unfold mczS mkS; omega) (by unfold mczS mkS; omega)
      have hvl : vlo (comR es (a : Int) (b : Int) 1).1 := com_vlo (xs := es a) (ys := es b) x3 (es a).length 0 0 [] (Nat.zero_le _) (Nat.sub_le _ _) (Nat.zero_le _)
      obtain ⟨M2, d1, d2, d3⟩ := D_writeExpr_s hG1 (e := 771) (by decide) c2 hT1 k2 hvl (wok_len _ [] (by simp only [List.length_nil]; omega)) (by omega)
      rw [hG.gx, gd_t, gd_t, hG.r2_6, hG.aX ha, gd_t, gd_t, hG.aX hb, gd_t, gd_t, hG.r2_2, hG.gMa, gd_t, toNat_n, toNat_n, hG.rX ha, hG.rX hb, hG.r2_9, c1, cV_s, hG1.gx, gd_t, gd_t, hG1.r2_9, d1, cI_s]
      exact ⟨M2, rfl, d2, ⟨⟨_, c2.fj d3 (by unfold wcL wcS; omega) (by unfold wcL wcS; omega)⟩, us2, (s2.fj c4 (by unfold mczS mkS; omega) (by unfold mczS mkS; omega)).fj d3 (by unfold wcL wcS; omega) (by unfold wcL wcS; omega)⟩, F1.trans (d3.mono fun a k q => Or.inr (Or.inl q))⟩
    · rw [if_neg hj, if_pos rfl, if_neg (fun q => hj q.2), if_neg (fun q => hj q.2)]
      exact ⟨M, rfl, hT, hS, Fj.refl⟩
  · rw [if_neg hi, if_pos rfl, if_neg (fun q => hi q.1), if_neg (fun q => hi q.1)]
    exact ⟨M, rfl, hT, hS, Fj.refl⟩
def coT : Nat → Nat → Prop := fun a k => reS a k ∨ a = 771 ∨ a = 772
theorem D_commonOf_s (hG : Good M) (hE : CE M gl ng es) (hS : CS M) (hx : ∀ i, i < 4 → xok (es i)) (i j w : Int) : ∃ M', D_commonOf 2 i j w M = some (some (.inl (cmoA es i j w)), M') ∧ CS M' ∧ Fj coT M M' := by
  unfold cmoA
  rw [D_commonOf_eq, D_isExpression_s, cI_s]
  by_cases hi : 0 ≤ i ∧ i < 4
  · rw [if_pos hi, if_neg (by decide), D_isExpression_s, cI_s]
    by_cases hj : 0 ≤ j ∧ j < 4
    · rw [if_pos hj, if_neg (by decide)]
      by_cases w0 : w < 0
      · rw [if_pos w0, if_neg (fun q => by omega)]
        exact ⟨M, rfl, hS, Fj.refl⟩
      rw [if_neg w0]
      by_cases w1 : 1 < w
      · rw [if_pos w1, if_neg (fun q => by omega)]
        exact ⟨M, rfl, hS, Fj.refl⟩
      have hij : isY i ∧ isY j ∧ 0 ≤ w ∧ w ≤ 1 := ⟨hi, hj, by omega, by omega⟩
      rw [if_neg w1, if_pos hij]
      obtain ⟨a, rfl⟩ := Int.eq_ofNat_of_zero_le hi.1
      obtain ⟨b, rfl⟩ := Int.eq_ofNat_of_zero_le hj.1
      have ha : a < 4 := by omega
      have hb : b < 4 := by omega
      obtain ⟨⟨x1, x2, x3⟩, x4⟩ := hx a ha
      obtain ⟨⟨y1, y2, y3⟩, y4⟩ := hx b hb
      obtain ⟨⟨us, s1⟩, us2, s2⟩ := hS
      obtain ⟨M1, c1, c2, c3, c4⟩ := Ma_makeCommon_s (e := 759 + 2 * a) (f := 759 + 2 * b) (s := 771) (sn := 100) (fv := 1) (by omega) (by omega) (by decide) (by omega) (by omega) x2 y2 x1 y1 x3 y3 (by decide) (by decide) hG (hE.2.2 a ha) (hE.2.2 b hb) s1
      have c1 : Ma_makeCommon 12 (759 + 2 * a) (759 + 2 * b) 771 1 M = _ := c1
      have c2 : XE M1 771 100 (comR es (a : Int) (b : Int) 1).1 := c2
      have c3 : MKc M1 (es a) (comR es (a : Int) (b : Int) 1).2 := c3
      have hG1 := hG.fj c4
      have F1 : Fj coT M M1 := c4.mono fun a k q => by unfold mczS mkS at q; unfold coT reS; omega
      rw [hG.gx, gd_t, gd_t, hG.r2_6, hG.aX ha, gd_t, gd_t, hG.aX hb, gd_t, gd_t, hG.r2_2, hG.gMa, gd_t, toNat_n, toNat_n, hG.rX ha, hG.rX hb, hG.r2_9, c1, cV_s, hG1.gx, hG1.r2_2, hG1.gMa, hG1.r2_9, c2.g hG1, c2.s, c3.1]
      have hS1 : CS M1 := ⟨⟨_, c2⟩, us2, s2.fj c4 (by unfold mczS mkS; omega) (by unfold mczS mkS; omega)⟩
      by_cases q0 : w = 0
      · rw [if_pos q0, if_pos q0, gd_t, gd_t]
        exact ⟨M1, rfl, hS1, F1⟩
      · rw [if_neg q0, if_neg q0, gd_t, gd_t]
        exact ⟨M1, rfl, hS1, F1⟩
    · rw [if_neg hj, if_pos rfl, if_neg (fun q => hj q.2.1)]
      exact ⟨M, rfl, hS, Fj.refl⟩
  · rw [if_neg hi, if_pos rfl, if_neg (fun q => hi q.1)]
    exact ⟨M, rfl, hS, Fj.refl⟩
end REL
section MREL
variable {M : Mem} {ws : List Int} {es : Nat → List Int}
def mreS : Nat → Nat → Prop := fun a k => (1302 ≤ a ∧ a ≤ 1306) ∨ (a = 1269 ∧ (k = 56 ∨ k = 59)) ∨ woS a k
def mreT : Nat → Nat → Prop := fun a k => (1302 ≤ a ∧ a ≤ 1306) ∨ (a = 1269 ∧ (k = 56 ∨ k = 59))
theorem M_relation_s (hG : Good M) (hX : MX M es) (hx : ∀ i, i < 4 → xok (es i)) (i j w : Int) : ∃ M', M_relation 1269 i j w M = some (some (.inl (relA es i j w)), M') ∧ Fj mreT M M' := by
  unfold relA
  rw [M_relation_eq, hG.gM, gd_t, M_isTold_s hG, cI_s]
  by_cases hi : 0 ≤ i ∧ i < 4
  · rw [if_pos hi, if_neg (by decide), hG.gM, gd_t, M_isTold_s hG, cI_s]
    by_cases hj : 0 ≤ j ∧ j < 4
    · have hij : isY i ∧ isY j := ⟨hi, hj⟩
      rw [if_pos hj, if_neg (by decide), if_pos hij]
      obtain ⟨a, rfl⟩ := Int.eq_ofNat_of_zero_le hi.1
      obtain ⟨b, rfl⟩ := Int.eq_ofNat_of_zero_le hj.1
      have ha : a < 4 := by omega
      have hb : b < 4 := by omega
      obtain ⟨⟨x1, x2, x3⟩, x4⟩ := hx a ha
      obtain ⟨⟨y1, y2, y3⟩, y4⟩ := hx b hb
      have hA := hX.rx hx ha
      have hB := hX.rx hx hb
      have ea : wr (40 * (a : Int)) = ((40 * a : Nat) : Int) := by rw [wr_id (by omega) (by omega)]; omega
      have eb : wr (40 * (b : Int)) = ((40 * b : Nat) : Int) := by rw [wr_id (by omega) (by omega)]; omega
      rw [hG.gM, hG.m33, toNat_n, toNat_n, ea, eb]
      by_cases q0 : w = 0
      · obtain ⟨M2, d1, d2⟩ := M_isRenaming_s (by decide) (by decide) x1 y1 y3 hG hA hB
        rw [if_pos q0, if_pos q0, gd_t, gd_t, gd_t, d1, cI_s]
        refine ⟨M2, ?_, d2.mono fun a k q => by unfold mimS at q; unfold mreT; omega⟩
        rcases b2i_01 (rnc (es a) (es b) [] []) with ⟨-, e⟩ | ⟨-, e⟩
        · rw [e]; rfl
        · rw [e]; rfl
      rw [if_neg q0, if_neg q0]
      by_cases q1 : w = 1
      · obtain ⟨M2, d1, -, d2⟩ := M_isInstance_s (by decide) (by decide) x1 y1 y3 hG hA hB
        rw [if_pos q1, if_pos q1, gd_t, gd_t, gd_t, d1, cI_s]
        refine ⟨M2, ?_, d2.mono fun a k q => by unfold mimS at q; unfold mreT; omega⟩
        cases insg (es a) (es b) 0 [] <;> rfl
      rw [if_neg q1, if_neg q1]
      by_cases q2 : w = 2
      · have hl1 := wf_len _ _ x1
        have hl2 := wf_len _ _ y1
        obtain ⟨M2, d1, d2, d3⟩ := M_layEmbedded_s (by decide) (by decide) x1 y1 x3 y3 hG hA hB
        have hG2 := hG.fj d3
        have e0 := d2 0 0 (by omega) (by omega) (Or.inr ⟨rfl, Nat.zero_le _⟩)
        have e0 : mI M2 1305 0 = b2i (emb (es a) (es b) 0 0) := e0
        rw [if_pos q2, if_pos q2, gd_t, gd_t, gd_t, d1, cV_s, hG2.gM, gd_t, hG2.m57, g12 (hG2.tgS arr_1305 (i := 0) (by decide) (by decide)), gd_t, e0]
        refine ⟨M2, ?_, d3.mono fun a k q => by unfold leS at q; unfold mreT; omega⟩
        rcases b2i_01 (emb (es a) (es b) 0 0) with ⟨-, e⟩ | ⟨-, e⟩
        · rw [e]; rfl
        · rw [e]; rfl
      rw [if_neg q2, if_neg q2]
      by_cases q3 : w = 3
      · obtain ⟨M2, d1, d2⟩ := M_isCoupled_s (by decide) (by decide) x1 y1 x3 y3 hG hA hB
        rw [if_pos q3, if_pos q3, gd_t, gd_t, gd_t, d1, cI_s]
        refine ⟨M2, ?_, d2.mono fun a k q => by unfold leS at q; unfold mreT; omega⟩
        rcases b2i_01 (cpl (es a) (es b) 0 0) with ⟨-, e⟩ | ⟨-, e⟩
        · rw [e]; rfl
        · rw [e]; rfl
      rw [if_neg q3, if_neg q3]
      exact ⟨M, rfl, Fj.refl⟩
    · rw [if_neg hj, if_pos rfl, if_neg (fun q => hj q.2)]
      exact ⟨M, rfl, Fj.refl⟩
  · rw [if_neg hi, if_pos rfl, if_neg (fun q => hi q.1)]
    exact ⟨M, rfl, Fj.refl⟩
theorem comR_both (hx : ∀ i, i < 4 → xok (es i)) {i : Int} (hi : 0 ≤ i ∧ i < 4) (j : Int) : (comR es i j 1414).1.map (rno (ord (comR es i j 1414).1)) = (comR es i j 1).1 ∧ (comR es i j 1414).2 = (comR es i j 1).2 ∧ (ord (comR es i j 1414).1).length ≤ 40 ∧ (comR es i j 1).1.length = (comR es i j 1414).1.length := by
  obtain ⟨⟨x1, x2, x3⟩, x4⟩ := hx i.toNat (by omega)
  obtain ⟨⟨k1, k2⟩, k3, k4⟩ := comR_ok hx hi j (b := 1414) (by decide)
  have ho : ord (comR es i j 1414).1 = vsq 1414 (comR es i j 1414).2.length := by
    have h := com_ord (xs := es i.toNat) (ys := es j.toNat) (b := 1414) (es i.toNat).length 0 0 [] (Nat.zero_le _) (Nat.sub_le _ _) (by simp only [List.length_nil]; omega)
    have e : vsq 1414 0 = [] := rfl
    rw [List.length_nil, e] at h
    exact h
  obtain ⟨r1, r2⟩ := com_rno (xs := es i.toNat) (ys := es j.toNat) (b := 1414) (m := (comR es i j 1414).2.length) (by omega) (es i.toNat).length 0 0 [] (Nat.zero_le _) (by omega) (Nat.le_refl _)
  have r1 : (comR es i j 1414).1.map (rno (vsq 1414 (comR es i j 1414).2.length)) = (comR es i j 1).1 := r1
  refine ⟨by rw [ho]; exact r1, r2, by rw [ho, vsq_len]; exact k4, by rw [← r1, List.length_map]⟩
theorem M_common_s (hG : Good M) (hX : MX M es) (hT : TXm M ws) (hx : ∀ i, i < 4 → xok (es i)) (i j : Int) : ∃ M', M_common 1269 i j M = some (some (.inl (cmnA es i j)), M') ∧ TXm M' (cmnT es ws i j) ∧ Fj mreS M M' := by
  unfold cmnA cmnT
  rw [M_common_eq, hG.gM, gd_t, M_isTold_s hG, cI_s]
  by_cases hi : 0 ≤ i ∧ i < 4
  · rw [if_pos hi, if_neg (by decide), hG.gM, gd_t, M_isTold_s hG, cI_s]
    by_cases hj : 0 ≤ j ∧ j < 4
    · have hij : isY i ∧ isY j := ⟨hi, hj⟩
      obtain ⟨⟨k1, k2⟩, k3, k4⟩ := comR_ok hx hi j (b := 1414) (by decide)
      obtain ⟨m1, m2, m3, m4⟩ := comR_both hx hi j
      rw [if_pos hj, if_neg (by decide), if_pos hij, if_pos hij]
      obtain ⟨a, rfl⟩ := Int.eq_ofNat_of_zero_le hi.1
      obtain ⟨b, rfl⟩ := Int.eq_ofNat_of_zero_le hj.1
      have ha : a < 4 := by omega
      have hb : b < 4 := by omega
      obtain ⟨⟨x1, x2, x3⟩, x4⟩ := hx a ha
      obtain ⟨⟨y1, y2, y3⟩, y4⟩ := hx b hb
      have ea : wr (40 * (a : Int)) = ((40 * a : Nat) : Int) := by rw [wr_id (by omega) (by omega)]; omega
      have eb : wr (40 * (b : Int)) = ((40 * b : Nat) : Int) := by rw [wr_id (by omega) (by omega)]; omega
      obtain ⟨M1, c1, c2, c3, c4⟩ := M_layCommon_s (fv := 1414) (by decide) (by decide) x1 y1 x3 (by decide) hG (hX.rx hx ha) (hX.rx hx hb)
      have c1 : M_layCommon 1269 1292 ((40 * a : Nat) : Int) 1292 ((40 * b : Nat) : Int) 100000 M = some (none, M1) := c1
      have c2 : MFo M1 (comR es (a : Int) (b : Int) 1414).1 := c2
      have hG1 := hG.fj c4
      obtain ⟨b1, b2⟩ := M_begin_s hG1
      have f2 : Fj (fun a k => a = 1269 ∧ k = 61) M1 (stI M1 1269 61 0) := Fj.ofI ⟨rfl, rfl⟩
      have hG2 := hG1.fj f2
      have hR2 : RX (stI M1 1269 61 0) 1306 41 0 (comR es (a : Int) (b : Int) 1414).1 := ⟨⟨arr_1306, by decide⟩, c2.2.fj f2 (by omega), by omega, k2⟩
      obtain ⟨M3, d1, d2, d3⟩ := M_writeRow_1 hG2 hR2 (by decide) b2 (by omega) (wok_len _ [] (by simp only [List.length_nil]; omega)) (by simp only [List.length_nil]; omega)
      have hG3 := hG2.fj d3
      have d1 : M_writeRow 1269 1306 0 ((comR es (a : Int) (b : Int) 1414).1.length : Int) 1 (stI M1 1269 61 0) = some (none, M3) := d1
      rw [List.nil_append, m1] at d2
      have e59 : mI (stI M1 1269 61 0) 1269 59 = ((comR es (a : Int) (b : Int) 1414).1.length : Int) := by rw [mI_ne (by omega)]; exact c2.1
      rw [hG.gM, gd_t, gd_t, gd_t, hG.m33, ea, eb, c1, cV_s, hG1.gM, gd_t, b1, cV_s, hG2.gM, gd_t, gd_t, gd_t, hG2.m58, e59, d1, cV_s, hG3.gM, gd_t, d2.1]
      exact ⟨M3, rfl, d2, ((c4.mono fun a k q => by unfold mcmS mkmS at q; unfold mreS; omega).trans (f2.mono fun a k q => by unfold mreS woS wmL wmS; omega)).trans (d3.mono fun a k q => Or.inr (Or.inr q))⟩
    · rw [if_neg hj, if_pos rfl, if_neg (fun q => hj q.2), if_neg (fun q => hj q.2)]
      exact ⟨M, rfl, hT, Fj.refl⟩
  · rw [if_neg hi, if_pos rfl, if_neg (fun q => hi q.1), if_neg (fun q => hi q.1)]
    exact ⟨M, rfl, hT, Fj.refl⟩
theorem M_commonOf_s (hG : Good M) (hX : MX M es) (hx : ∀ i, i < 4 → xok (es i)) (i j w : Int) : ∃ M', M_commonOf 1269 i j w M = some (some (.inl (cmoA es i j w)), M') ∧ Fj mreT M M' := by
  unfold cmoA
  rw [M_commonOf_eq, hG.gM, gd_t, M_isTold_s hG, cI_s]
  by_cases hi : 0 ≤ i ∧ i < 4
  · rw [if_pos hi, if_neg (by decide), hG.gM, gd_t, M_isTold_s hG, cI_s]
    by_cases hj : 0 ≤ j ∧ j < 4
    · rw [if_pos hj, if_neg (by decide), M_isIn_s, cI_s]
      by_cases hw : 0 ≤ w ∧ w ≤ 1
      · have hij : isY i ∧ isY j ∧ 0 ≤ w ∧ w ≤ 1 := ⟨hi, hj, hw⟩
        obtain ⟨m1, m2, m3, m4⟩ := comR_both hx hi j
        rw [if_pos hw, if_neg (by decide), if_pos hij]
        obtain ⟨a, rfl⟩ := Int.eq_ofNat_of_zero_le hi.1
        obtain ⟨b, rfl⟩ := Int.eq_ofNat_of_zero_le hj.1
        have ha : a < 4 := by omega
        have hb : b < 4 := by omega
        obtain ⟨⟨x1, x2, x3⟩, x4⟩ := hx a ha
        obtain ⟨⟨y1, y2, y3⟩, y4⟩ := hx b hb
        have ea : wr (40 * (a : Int)) = ((40 * a : Nat) : Int) := by rw [wr_id (by omega) (by omega)]; omega
        have eb : wr (40 * (b : Int)) = ((40 * b : Nat) : Int) := by rw [wr_id (by omega) (by omega)]; omega
        obtain ⟨M1, c1, c2, c3, c4⟩ := M_layCommon_s (fv := 1414) (by decide) (by decide) x1 y1 x3 (by decide) hG (hX.rx hx ha) (hX.rx hx hb)
        have c1 : M_layCommon 1269 1292 ((40 * a : Nat) : Int) 1292 ((40 * b : Nat) : Int) 100000 M = some (none, M1) := c1
        have c2 : MFo M1 (comR es (a : Int) (b : Int) 1414).1 := c2
        have c3 : MKm M1 (40 * a) (40 * b) (comR es (a : Int) (b : Int) 1414).2 := c3
        have hG1 := hG.fj c4
        have F : Fj mreT M M1 := c4.mono fun a k q => by unfold mcmS mkmS at q; unfold mreT; omega
        rw [hG.gM, gd_t, gd_t, gd_t, hG.m33, ea, eb, c1, cV_s, hG1.gM, gd_t, gd_t, c3.1, c2.1, m2, ← m4]
        by_cases q0 : w = 0
        · rw [if_pos q0, if_pos q0]
          exact ⟨M1, rfl, F⟩
        · rw [if_neg q0, if_neg q0]
          exact ⟨M1, rfl, F⟩
      · rw [if_neg hw, if_pos rfl, if_neg (fun q => hw q.2.2)]
        exact ⟨M, rfl, Fj.refl⟩
    · rw [if_neg hj, if_pos rfl, if_neg (fun q => hj q.2.1)]
      exact ⟨M, rfl, Fj.refl⟩
  · rw [if_neg hi, if_pos rfl, if_neg (fun q => hi q.1)]
    exact ⟨M, rfl, Fj.refl⟩
end MREL

/-! ===== is, clause ===== -/
def isA (T : List Int) (zs : List Clz) (bs : Bnd) (gl : List Int) (w : Int) : Int := if w = 0 then (zs.length : Int) else if w = 1 then cfn zs zs 0 0 else if w = 2 then cao zs 0 else if w = 3 then (gl.length : Int) else if w = 4 then ((ord gl).length : Nat) else if w = 5 then (bs.length : Int) else if w = 6 then (T.length : Int) else if w = 7 then crt zs 0 else -1
def clA (zs : List Clz) (k w : Int) : Int := if 0 ≤ k ∧ k < (zs.length : Int) then (match zs[k.toNat]? with
  | none => -1
  | some z => if w = 0 then (z.2.2.2.length : Int) else if w = 1 then ar z.1 else if w = 2 then (if z.2.1 = -1 then 0 else sy z.2.1 + 1) else if w = 3 then (if z.2.1 = -1 then 0 else ar z.2.1) else if w = 4 then cco z.2.2.2 0 else -1) else -1
section ASKED
variable {M : Mem} {T : List Int} {zs ns : List Clz} {bs : Bnd} {gl ng : List Int} {es : Nat → List Int}
theorem CP.told (h : CP M zs ns) : ∃ P, PRc M P zs ∧ mR M 2 10 = P := by
  obtain ⟨P0, P1, P2, -, ⟨r0, -⟩, a0, -⟩ := h
  exact ⟨P0, a0.1, r0⟩
theorem D_is_s (hG : Good M) (hT : TPc M T) (hP : CP M zs ns) (hB : CB M bs) (hE : CE M gl ng es) (hv : av gl) (w : Int) : D_is 2 w M = some (some (.inl (isA T zs bs gl w)), M) := by
  obtain ⟨P, hp, r⟩ := hP.told
  obtain ⟨B0, B1, -, ⟨q0, -⟩, b0, -⟩ := hB
  unfold isA
  rw [D_is_eq, hG.gx, r, q0, hG.r2_7, hG.r2_0, hG.gR, hp.g hG, b0.g hG, hE.1.g hG]
  by_cases h0 : w = 0
  · rw [if_pos h0, if_pos h0, gd_t, gd_t, hp.1.2.1]
  rw [if_neg h0, if_neg h0]
  by_cases h1 : w = 1
  · rw [if_pos h1, if_pos h1, gd_t, gd_t, Pr_countFunctions_s hG hp, cI_s]
  rw [if_neg h1, if_neg h1]
  by_cases h2 : w = 2
  · rw [if_pos h2, if_pos h2, gd_t, gd_t, Pr_countAtOnce_s hG hp, cI_s]
  rw [if_neg h2, if_neg h2]
  by_cases h3 : w = 3
  · rw [if_pos h3, if_pos h3, gd_t, gd_t, hE.1.s]
  rw [if_neg h3, if_neg h3]
  by_cases h4 : w = 4
  · rw [if_pos h4, if_pos h4, gd_t, gd_t, Ex_countVars_s hG hE.1 hv, cI_s]
  rw [if_neg h4, if_neg h4]
  by_cases h5 : w = 5
  · rw [if_pos h5, if_pos h5, gd_t, gd_t, b0.1.2.1]
  rw [if_neg h5, if_neg h5]
  by_cases h6 : w = 6
  · rw [if_pos h6, if_pos h6, gd_t, gd_t, hT.1]
  rw [if_neg h6, if_neg h6]
  by_cases h7 : w = 7
  · rw [if_pos h7, if_pos h7, gd_t, gd_t, Pr_countRight_s hG hp, cI_s]
  rw [if_neg h7, if_neg h7]
theorem vc_inR {c : Int} (h : vc c) : InR c := by have := h.1; unfold InR; omega
theorem D_clause_s (hG : Good M) (hP : CP M zs ns) {n : Nat} (hz : zsk n zs) (k w : Int) : D_clause 2 k w M = some (some (.inl (clA zs k w)), M) := by
  obtain ⟨P, hp, r⟩ := hP.told
  have hP0 : 0 < P := by have := hp.1.1.1.1; omega
  unfold clA
  rw [D_clause_eq, hG.gx, gd_t, r, hp.g hG, gd_t, Pr_clauseAt_s hG hp, cR_s]
  by_cases hk : 0 ≤ k ∧ k < (zs.length : Int)
  · obtain ⟨i, rfl⟩ := Int.eq_ofNat_of_zero_le hk.1
    obtain ⟨z, hzi, hc⟩ := hp.get (i := i) (by omega)
    have hzk := hz z (List.mem_of_getElem? hzi)
    rw [if_pos hk, if_pos hk, toNat_n, hzi, if_neg (by omega)]
    have hav : av z.2.2.2 := hzk.2.2.2.1.2.1
    have hcon : z.2.1 ≠ -1 → vc z.2.1 := fun q => (hzk.2.1.resolve_left q).1
    show (_ : Res) = some (some (.inl (if w = 0 then (z.2.2.2.length : Int) else if w = 1 then ar z.1 else if w = 2 then (if z.2.1 = -1 then 0 else sy z.2.1 + 1) else if w = 3 then (if z.2.1 = -1 then 0 else ar z.2.1) else if w = 4 then cco z.2.2.2 0 else -1)), M)
    rw [hc.g hG, (hc.r hG).2, hc.2.2.g hG]
    by_cases h0 : w = 0
    · rw [if_pos h0, if_pos h0, gd_t, gd_t, hc.2.2.s]
    rw [if_neg h0, if_neg h0]
    by_cases h1 : w = 1
    · rw [if_pos h1, if_pos h1, gd_t, hc.1.2.1, Ex_arity_s (vc_inR hzk.1.1), cI_s]
    rw [if_neg h1, if_neg h1]
    by_cases h2 : w = 2
    · rw [if_pos h2, if_pos h2, gd_t, Cl_isCase_s hG hc, cI_s]
      by_cases q : z.2.1 = -1
      · rw [if_pos q, if_pos rfl, if_pos q]
      · rw [if_neg q, if_neg (by decide), if_neg q, hc.g hG, gd_t, hc.1.2.2, Ex_symbol_s, cI_s, wr_id (by have := (hcon q).1; unfold sy; omega) (by unfold sy; omega)]
    rw [if_neg h2, if_neg h2]
    by_cases h3 : w = 3
    · rw [if_pos h3, if_pos h3, gd_t, Cl_isCase_s hG hc, cI_s]
      by_cases q : z.2.1 = -1
      · rw [if_pos q, if_pos rfl, if_pos q]
      · rw [if_neg q, if_neg (by decide), if_neg q, hc.g hG, gd_t, hc.1.2.2, Ex_arity_s (vc_inR (hcon q)), cI_s]
    rw [if_neg h3, if_neg h3]
    by_cases h4 : w = 4
    · rw [if_pos h4, if_pos h4, gd_t, gd_t, Ex_countCalls_s hG hc.2.2 hav, cI_s]
    rw [if_neg h4, if_neg h4]
  · rw [if_neg hk, if_neg hk, if_pos rfl]
/-- the reference -/
theorem MP.row (h : MP M zs) {i : Nat} {z : Clz} (hz : zs[i]? = some z) : (mI M 1274 i = cm z.1 ∧ mI M 1275 i = cc z.2.1 ∧ mI M 1276 i = (z.2.2.1.length : Int)) ∧ (∀ j, j < z.2.2.1.length → mI M 1277 (12 * i + j) = nmo (nth z.2.2.1 j)) ∧ mI M 1278 i = (z.2.2.2.length : Int) ∧ RM M 1279 (100 * i) z.2.2.2 := by
  have := h.2 i z hz
  rw [Nat.zero_add] at this
  exact this
/-- no clause of these told earlier is of this function -/
def fst1 (zs : List Clz) (k : Nat) (f : Int) : Prop := ∀ i w, i < k → zs[i]? = some w → w.1 ≠ f
theorem fo_fst {zs : List Clz} {k : Nat} {z : Clz} (hz : zs[k]? = some z) : fo z.1 zs 0 = some k ↔ fst1 zs k z.1 := by
  rcases fo_spec z.1 zs 0 with ⟨h1, h2⟩ | ⟨j, w, h1, h2, h3, h4⟩
  · exact absurd rfl (h2 z (List.mem_of_getElem? hz))
  · rw [h1, Nat.zero_add]
    constructor
    · intro e
      cases e
      exact fun i w' hi hw => h4 i w' hi hw
    · intro e
      congr 1
      by_cases q : j < k
      · exact absurd h3 (e j w q h2)
      · by_cases q2 : k < j
        · exact absurd rfl (h4 k z q2 hz)
        · omega
theorem M_ftInner (hG : Good M) (hM : MP M zs) (hl : zs.length ≤ 40) {n : Nat} (hk : zsk n zs) {k : Nat} {z : Clz} (hz : zs[k]? = some z) (b m : Int) : ∀ (t j : Nat), k - j = t → j ≤ k → ∃ d, M_functionsTold_37 1269 b m (k : Int) 1 (j : Int) M = M_functionsTold_77 1269 b m (k : Int) (haveI := Classical.propDecidable; if ∀ i w, j ≤ i → i < k → zs[i]? = some w → w.1 ≠ z.1 then 1 else 0) d M := by
  have hkl := (List.getElem?_eq_some_iff.mp hz).1
  intro t
  induction t with
  | zero =>
    intro j h1 h2
    refine ⟨some (.inl (j : Int)), ?_⟩
    rw [M_functionsTold_37_eq, if_neg (by omega), if_pos (fun i w h3 h4 => by omega)]
  | succ t ih =>
    intro j h1 h2
    obtain ⟨y, hy⟩ : ∃ y, zs[j]? = some y := ⟨zs[j], List.getElem?_eq_getElem (by omega)⟩
    have hjl := (List.getElem?_eq_some_iff.mp hy).1
    have e := cm_inj (hk y (List.mem_of_getElem? hy)).1.1 (hk z (List.mem_of_getElem? hz)).1.1
    rw [M_functionsTold_37_eq, if_pos (by omega), if_neg (by decide), hG.gM, gd_t, hG.m11, hG.tgS arr_1274 (by omega) (by omega), gd_t, gd_t, hG.tgS arr_1274 (by omega) (by omega), gd_t, toNat_n, toNat_n, (hM.row hy).1.1, (hM.row hz).1.1, wr_s (by omega)]
    by_cases q : y.1 = z.1
    · rw [if_pos (by rw [q]), if_neg (fun h => h j y (Nat.le_refl _) (by omega) hy q), M_functionsTold_37_eq]
      by_cases q2 : ((j + 1 : Nat) : Int) < (k : Int)
      · rw [if_pos q2, if_pos rfl]; exact ⟨_, rfl⟩
      · rw [if_neg q2]; exact ⟨_, rfl⟩
    · rw [if_neg (fun h => q (e.mp h))]
      obtain ⟨d, hd⟩ := ih (j + 1) (by omega) (by omega)
      refine ⟨d, hd.trans ?_⟩
      congr 1
      by_cases q3 : ∀ i w, j ≤ i → i < k → zs[i]? = some w → w.1 ≠ z.1
      · rw [if_pos q3, if_pos (fun i w h3 => q3 i w (by omega))]
      · rw [if_neg q3, if_neg (fun h => q3 (fun i w h3 h4 h5 => by
          by_cases q4 : i = j
          · subst q4; rw [hy] at h5; cases h5; exact q
          · exact h i w (by omega) h4 h5))]
theorem M_functionsTold_s (hG : Good M) (hM : MP M zs) (hl : zs.length ≤ 40) {n : Nat} (hk : zsk n zs) (hok : okP zs) : M_functionsTold 1269 0 M = some (some (.inl (cfn zs zs 0 0)), M) ∧ M_functionsTold 1269 1 M = some (some (.inl (cao zs 0)), M) := by
  have key0 : ∀ (t k : Nat) (m : Int) (d4 d5 : LV), zs.length - k = t → k ≤ zs.length → 0 ≤ m → m ≤ k → M_functionsTold_4 1269 0 m (k : Int) d4 d5 M = some (some (.inl (cfn zs (zs.drop k) k m)), M) := by
    intro t
    induction t with
    | zero =>
      intro k m d4 d5 h1 h2 h3 h4
      rw [M_functionsTold_4_eq, hG.gM, gd_t, hG.m17, hG.tgS arr_1280 (by decide) (by decide), gd_t, hM.1, if_neg (by omega), List.drop_eq_nil_of_le (by omega)]
      rfl
    | succ t ih =>
      intro k m d4 d5 h1 h2 h3 h4
      obtain ⟨z, hz⟩ : ∃ z, zs[k]? = some z := ⟨zs[k], List.getElem?_eq_getElem (by omega)⟩
      obtain ⟨d, hd⟩ := M_ftInner hG hM hl hk hz 0 m k 0 rfl (Nat.zero_le _)
      have hd : M_functionsTold_37 1269 0 m (k : Int) 1 0 M = _ := hd
      have e := fo_fst hz
      rw [M_functionsTold_4_eq, hG.gM, gd_t, hG.m17, hG.tgS arr_1280 (by decide) (by decide), gd_t, hM.1, if_pos (by omega), if_pos rfl, hd, drop_get hz, M_functionsTold_77_eq]
      unfold cfn
      by_cases q : ∀ i w, 0 ≤ i → i < k → zs[i]? = some w → w.1 ≠ z.1
      · rw [if_pos q, if_neg (by decide), if_pos (e.mpr fun i w h => q i w (Nat.zero_le _) h), wr_s (i := k) (by omega), wr_id (x := m + 1) (by omega) (by omega)]
        exact ih (k + 1) _ _ _ (by omega) (by omega) (by omega) (by omega)
      · rw [if_neg q, if_pos rfl, if_neg (fun h => q fun i w _ h2 => e.mp h i w h2), wr_s (i := k) (by omega), wr_id (x := m + 0) (by omega) (by omega), Int.add_zero]
        exact ih (k + 1) _ _ _ (by omega) (by omega) (by omega) (by omega)
  have key1 : ∀ (t k : Nat) (m : Int) (d4 d5 : LV), zs.length - k = t → k ≤ zs.length → 0 ≤ m → m ≤ k → M_functionsTold_4 1269 1 m (k : Int) d4 d5 M = some (some (.inl (cao (zs.drop k) m)), M) := by
    intro t
    induction t with
    | zero =>
      intro k m d4 d5 h1 h2 h3 h4
      rw [M_functionsTold_4_eq, hG.gM, gd_t, hG.m17, hG.tgS arr_1280 (by decide) (by decide), gd_t, hM.1, if_neg (by omega), List.drop_eq_nil_of_le (by omega)]
      rfl
    | succ t ih =>
      intro k m d4 d5 h1 h2 h3 h4
      obtain ⟨z, hz⟩ : ∃ z, zs[k]? = some z := ⟨zs[k], List.getElem?_eq_getElem (by omega)⟩
      have hzk := hk z (List.mem_of_getElem? hz)
      rw [M_functionsTold_4_eq, hG.gM, gd_t, hG.m17, hG.tgS arr_1280 (by decide) (by decide), gd_t, hM.1, if_pos (by omega), if_neg (by decide), gd_t, hG.m12, hG.tgS arr_1275 (by omega) (by omega), gd_t, toNat_n, (hM.row hz).1.2.1, drop_get hz]
      unfold cao
      by_cases q : z.2.1 = -1
      · obtain ⟨d, hd⟩ := M_ftInner hG hM hl hk hz 1 m k 0 rfl (Nat.zero_le _)
        have hd : M_functionsTold_37 1269 1 m (k : Int) 1 0 M = _ := hd
        rw [if_pos ((cc_0 hzk.2.1).mpr q), if_pos q, hd, if_pos (fun i w _ h2 h3 h4 => (hok i k w z h2 h3 hz h4).2.1 q), M_functionsTold_77_eq, if_neg (by decide), wr_s (i := k) (by omega), wr_id (x := m + 1) (by omega) (by omega)]
        exact ih (k + 1) _ _ _ (by omega) (by omega) (by omega) (by omega)
      · have e37 : ∃ d, M_functionsTold_37 1269 1 m (k : Int) 0 0 M = M_functionsTold_77 1269 1 m (k : Int) 0 d M := by
          rw [M_functionsTold_37_eq]
          by_cases q2 : (0 : Int) < (k : Int)
          · rw [if_pos q2, if_pos rfl]; exact ⟨_, rfl⟩
          · rw [if_neg q2]; exact ⟨_, rfl⟩
        obtain ⟨d, hd⟩ := e37
        rw [if_neg (fun h => q ((cc_0 hzk.2.1).mp h)), if_neg q, hd, M_functionsTold_77_eq, if_pos rfl, wr_s (i := k) (by omega), wr_id (x := m + 0) (by omega) (by omega), Int.add_zero]
        exact ih (k + 1) _ _ _ (by omega) (by omega) (by omega) (by omega)
  exact ⟨by rw [M_functionsTold_eq]; exact key0 _ 0 0 none none rfl (Nat.zero_le _) (by omega) (by omega), by rw [M_functionsTold_eq]; exact key1 _ 0 0 none none rfl (Nat.zero_le _) (by omega) (by omega)⟩
theorem M_is_sum (hG : Good M) (hM : MP M zs) (hl : zs.length ≤ 40) {n : Nat} (hk : zsk n zs) (hn : n ≤ 100) : ∀ (t k : Nat) (m : Int) (d : LV), zs.length - k = t → k ≤ zs.length → 0 ≤ m → m ≤ 100 * k → M_is_100 1269 m (k : Int) d M = some (some (.inl (crt (zs.drop k) m)), M) := by
  intro t
  induction t with
  | zero =>
    intro k m d h1 h2 h3 h4
    rw [M_is_100_eq, hG.gM, gd_t, hG.m17, hG.tgS arr_1280 (by decide) (by decide), gd_t, hM.1, if_neg (by omega), List.drop_eq_nil_of_le (by omega)]
    rfl
  | succ t ih =>
    intro k m d h1 h2 h3 h4
    obtain ⟨z, hz⟩ : ∃ z, zs[k]? = some z := ⟨zs[k], List.getElem?_eq_getElem (by omega)⟩
    have hr := (hk z (List.mem_of_getElem? hz)).2.2.2.1.2.2
    rw [M_is_100_eq, hG.gM, gd_t, hG.m17, hG.tgS arr_1280 (by decide) (by decide), gd_t, hM.1, if_pos (by omega), gd_t, hG.m15, hG.tgS arr_1278 (by omega) (by omega), gd_t, toNat_n, (hM.row hz).2.2.1, drop_get hz, wr_s (i := k) (by omega), wr_id (x := m + (z.2.2.2.length : Int)) (by omega) (by omega)]
    exact ih (k + 1) _ _ (by omega) (by omega) (by omega) (by omega)
theorem M_is_s (hG : Good M) (hT : TPm M T) (hM : MP M zs) (hl : zs.length ≤ 40) (hk : zsk 100 zs) (hok : okP zs) (hB : MB M bs) (hO : MO M gl) (hv : av gl) (hgl : gl.length ≤ 100) (w : Int) : ∃ M', M_is 1269 w M = some (some (.inl (isA T zs bs gl w)), M') ∧ Fj oS M M' := by
  unfold isA
  rw [M_is_eq, hG.gM]
  by_cases h0 : w = 0
  · rw [if_pos h0, if_pos h0, gd_t, hG.m17, hG.tgS arr_1280 (by decide) (by decide), gd_t, hM.1]
    exact ⟨M, rfl, Fj.refl⟩
  rw [if_neg h0, if_neg h0]
  by_cases h1 : w = 1
  · rw [if_pos h1, if_pos h1, gd_t, (M_functionsTold_s hG hM hl hk hok).1, cI_s]
    exact ⟨M, rfl, Fj.refl⟩
  rw [if_neg h1, if_neg h1]
  by_cases h2 : w = 2
  · rw [if_pos h2, if_pos h2, gd_t, (M_functionsTold_s hG hM hl hk hok).2, cI_s]
    exact ⟨M, rfl, Fj.refl⟩
  rw [if_neg h2, if_neg h2]
  by_cases h3 : w = 3
  · rw [if_pos h3, if_pos h3, gd_t, hO.1]
    exact ⟨M, rfl, Fj.refl⟩
  rw [if_neg h3, if_neg h3]
  by_cases h4 : w = 4
  · have hx : RX M 1288 100 0 gl := ⟨⟨arr_1288, by decide⟩, hO.2, by omega, hv⟩
    obtain ⟨M', a1, -, a3⟩ := M_layOrder_s hG hx (by decide) (Nat.le_trans (ord_len gl) (by omega))
    have a1 : M_layOrder 1269 1288 0 (gl.length : Int) M = _ := a1
    rw [if_pos h4, if_pos h4, gd_t, gd_t, gd_t, hG.m29, hO.1, a1, cI_s]
    exact ⟨M', rfl, a3⟩
  rw [if_neg h4, if_neg h4]
  by_cases h5 : w = 5
  · rw [if_pos h5, if_pos h5, gd_t, hB.1]
    exact ⟨M, rfl, Fj.refl⟩
  rw [if_neg h5, if_neg h5]
  by_cases h6 : w = 6
  · rw [if_pos h6, if_pos h6, gd_t, hT.1]
    exact ⟨M, rfl, Fj.refl⟩
  rw [if_neg h6, if_neg h6]
  by_cases h7 : w = 7
  · rw [if_pos h7, if_pos h7]
    exact ⟨M, M_is_sum hG hM hl hk (by decide) _ 0 0 _ rfl (Nat.zero_le _) (by omega) (by omega), Fj.refl⟩
  rw [if_neg h7, if_neg h7]
  exact ⟨M, rfl, Fj.refl⟩
theorem M_clause_s (hG : Good M) (hM : MP M zs) (hl : zs.length ≤ 40) (hk : zsk 100 zs) (k w : Int) : M_clause 1269 k w M = some (some (.inl (clA zs k w)), M) := by
  unfold clA
  rw [M_clause_eq, hG.gM, gd_t, hG.m17, hG.tgS arr_1280 (by decide) (by decide), gd_t, hM.1, wr_id (x := (zs.length : Int) - 1) (by omega) (by omega), M_isIn_s, cI_s]
  by_cases hkk : 0 ≤ k ∧ k < (zs.length : Int)
  · obtain ⟨i, rfl⟩ := Int.eq_ofNat_of_zero_le hkk.1
    obtain ⟨z, hz⟩ : ∃ z, zs[i]? = some z := ⟨zs[i], List.getElem?_eq_getElem (by omega)⟩
    have hzk := hk z (List.mem_of_getElem? hz)
    have hr := hM.row hz
    rw [if_pos (show (0 : Int) ≤ (i : Int) ∧ (i : Int) ≤ (zs.length : Int) - 1 by omega), if_neg (by decide), if_pos hkk, toNat_n, hz, hG.gM]
    show (_ : Res) = some (some (.inl (if w = 0 then (z.2.2.2.length : Int) else if w = 1 then ar z.1 else if w = 2 then (if z.2.1 = -1 then 0 else sy z.2.1 + 1) else if w = 3 then (if z.2.1 = -1 then 0 else ar z.2.1) else if w = 4 then cco z.2.2.2 0 else -1)), M)
    by_cases h0 : w = 0
    · rw [if_pos h0, if_pos h0, gd_t, hG.m15, hG.tgS arr_1278 (by omega) (by omega), gd_t, hr.2.2.1]
    rw [if_neg h0, if_neg h0]
    by_cases h1 : w = 1
    · rw [if_pos h1, if_pos h1, gd_t, hG.m11, hG.tgS arr_1274 (by omega) (by omega), gd_t, hr.1.1, M_manyOf_s hzk.1.1, cI_s]
    rw [if_neg h1, if_neg h1]
    have hcc : z.2.1 ≠ -1 → vc z.2.1 ∧ kd z.2.1 = 1 := fun q => hzk.2.1.resolve_left q
    by_cases h2 : w = 2
    · rw [if_pos h2, if_pos h2, gd_t, hG.m12, hG.tgS arr_1275 (by omega) (by omega), gd_t, hr.1.2.1]
      unfold cc
      by_cases q : z.2.1 = -1
      · rw [if_pos q, if_pos q, M_nameOf_eq, show pshr 0 6 = 0 from rfl, cI_s]
      · obtain ⟨c1, c2⟩ := hcc q
        rw [if_neg q, if_neg q, M_nameOf_s c1, cI_s]
        unfold nmo
        rw [if_neg (by omega), if_pos c2]
    rw [if_neg h2, if_neg h2]
    by_cases h3 : w = 3
    · rw [if_pos h3, if_pos h3, gd_t, hG.m12, hG.tgS arr_1275 (by omega) (by omega), gd_t, hr.1.2.1]
      unfold cc
      by_cases q : z.2.1 = -1
      · rw [if_pos q, if_pos q, M_manyOf_eq, show pand (pshr 0 2) 15 = 0 from rfl, cI_s]
      · obtain ⟨c1, c2⟩ := hcc q
        rw [if_neg q, if_neg q, M_manyOf_s c1, cI_s]
    rw [if_neg h3, if_neg h3]
    by_cases h4 : w = 4
    · have hx : RX M 1279 8000 (100 * i) z.2.2.2 := ⟨⟨arr_1279, by decide⟩, hr.2.2.2, by have := hzk.2.2.2.1.2.2; omega, hzk.2.2.2.1.2.1⟩
      rw [if_pos h4, if_pos h4, gd_t, gd_t, hG.m16, hG.m15, hG.tgS arr_1278 (by omega) (by omega), gd_t, hr.2.2.1, wr_id (x := 100 * (i : Int)) (by omega) (by omega), show 100 * (i : Int) = ((100 * i : Nat) : Int) by omega, M_callsIn_s hG hx, cI_s]
    rw [if_neg h4, if_neg h4]
  · rw [if_neg (show ¬ ((0 : Int) ≤ k ∧ k ≤ (zs.length : Int) - 1) by omega), if_pos rfl, if_neg hkk]
end ASKED

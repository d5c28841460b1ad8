/-! ===== a program, a goal, an expression and what is bound are told: the reference ===== -/
def MP (M : Mem) (zs : List Clz) : Prop := mI M 1280 0 = (zs.length : Int) ∧ PMr M 1274 0 100 zs
def MQn (M : Mem) (ns : List Clz) : Prop := mI M 1280 1 = (ns.length : Int) ∧ PMr M 1274 40 100 ns
def MB (M : Mem) (bs : Bnd) : Prop := mI M 1269 36 = (bs.length : Int) ∧ BMr M 1289 bs
def MO (M : Mem) (gl : List Int) : Prop := mI M 1269 35 = (gl.length : Int) ∧ RM M 1288 0 gl
def MX (M : Mem) (es : Nat → List Int) : Prop := ∀ i, i < 4 → mI M 1293 i = ((es i).length : Int) ∧ RM M 1292 (40 * i) (es i)
def MF (M : Mem) (f dr : Int) : Prop := mI M 1269 3 = f ∧ mI M 1269 77 = dr
section MTELL
variable {M : Mem} {T : List Int} {zs ns : List Clz} {bs : Bnd} {gl ng : List Int} {es : Nat → List Int} {f dr : Int}
theorem arr_1274 : arr 1274 0 80 := arr_of _ _ _ (by decide)
theorem arr_1275 : arr 1275 0 80 := arr_of _ _ _ (by decide)
theorem arr_1276 : arr 1276 0 80 := arr_of _ _ _ (by decide)
theorem arr_1277 : arr 1277 0 960 := arr_of _ _ _ (by decide)
theorem arr_1278 : arr 1278 0 80 := arr_of _ _ _ (by decide)
theorem arr_1279 : arr 1279 0 8000 := arr_of _ _ _ (by decide)
theorem arr_1280 : arr 1280 0 2 := arr_of _ _ _ (by decide)
theorem arr_1288 : arr 1288 0 100 := arr_of _ _ _ (by decide)
theorem arr_1289 : arr 1289 0 200 := arr_of _ _ _ (by decide)
theorem arr_1290 : arr 1290 0 200 := arr_of _ _ _ (by decide)
theorem arr_1291 : arr 1291 0 800 := arr_of _ _ _ (by decide)
theorem arr_1292 : arr 1292 0 160 := arr_of _ _ _ (by decide)
theorem arr_1293 : arr 1293 0 4 := arr_of _ _ _ (by decide)
def mpR : Nat → Nat → Prop := fun a _ => 1274 ≤ a ∧ a ≤ 1279
/-- a new clause's row comes to the told ones -/
theorem M_progRow (hG : Good M) (hN : NPm M zs) {i : Nat} (hi : i < zs.length) (d : LV) (hP : PMr M 1274 0 100 (zs.take i)) : ∃ M', M_program_33 1269 (i : Int) d M = M_program_33 1269 ((i + 1 : Nat) : Int) d M' ∧ PMr M' 1274 0 100 (zs.take (i + 1)) ∧ Fj mpR M M' := by
  have hl := hN.1.2
  obtain ⟨z, hzi⟩ : ∃ z, zs[i]? = some z := ⟨zs[i], List.getElem?_eq_getElem hi⟩
  obtain ⟨⟨n1, n2, n3⟩, n4, n5, n6⟩ := hN.2.1 i z hzi
  rw [Nat.zero_add] at n1 n2 n3 n4 n5 n6
  have hzk := hN.2.2 z (List.mem_of_getElem? hzi)
  have hvl := hzk.2.2.1.2.1
  have hrl := hzk.2.2.2.1.2.2
  have hi4 : Fi (fun a => 1274 ≤ a ∧ a ≤ 1279) M (stI (stI (stI (stI M 1274 i (cm z.1)) 1275 i (cc z.2.1)) 1276 i (z.2.2.1.length : Int)) 1278 i (z.2.2.2.length : Int)) := (((Fi.ofI (S := fun a => 1274 ≤ a ∧ a ≤ 1279) (by omega)).trans (Fi.ofI (by omega))).trans (Fi.ofI (by omega))).trans (Fi.ofI (by omega))
  obtain ⟨M1, a1, a2, a3⟩ := M_copy_s (hG.fi hi4) (s := 1285) (d := 1277) (p := 12 * i) (q := 12 * i) (k := 12) arr_1285 arr_1277 (by omega) (by omega) (by decide) (Or.inl (by decide))
  have F1 : Fi (fun a => 1274 ≤ a ∧ a ≤ 1279) M M1 := hi4.trans (a2.mono fun a q => by omega)
  have hG1 := hG.fi F1
  obtain ⟨M2, b1, b2, b3⟩ := M_copy_s hG1 (s := 1287) (d := 1279) (p := 40 * i) (q := 100 * i) (k := 40) arr_1287 arr_1279 (by omega) (by omega) (by decide) (Or.inl (by decide))
  have F2 : Fi (fun a => 1274 ≤ a ∧ a ≤ 1279) M M2 := F1.trans (b2.mono fun a q => by omega)
  have hG2 := hG.fi F2
  refine ⟨M2, ?_, ?_, F2.fj fun a k q => q⟩
  · have e2 : mI (stI M 1274 i (cm z.1)) 1283 i = cc z.2.1 := by rw [mI_ne (by omega)]; exact n2
    have e3 : mI (stI (stI M 1274 i (cm z.1)) 1275 i (cc z.2.1)) 1284 i = (z.2.2.1.length : Int) := by rw [mI_ne (by omega), mI_ne (by omega)]; exact n3
    have e5 : mI (stI (stI (stI M 1274 i (cm z.1)) 1275 i (cc z.2.1)) 1276 i (z.2.2.1.length : Int)) 1286 i = (z.2.2.2.length : Int) := by rw [mI_ne (by omega), mI_ne (by omega), mI_ne (by omega)]; exact n5
    rw [M_program_33_eq, hG.gM, gd_t, hN.1.1, if_pos (by omega), gd_t, gd_t, hG.m22, hG.tgS arr_1282 (by omega) (by omega), gd_t, hG.m11, hG.tgS arr_1274 (by omega) (by omega), gd_t, gd_t, gd_t, hG.m23, hG.tgS arr_1283 (by omega) (by omega), gd_t, hG.m12, hG.tgS arr_1275 (by omega) (by omega), gd_t, gd_t, gd_t, hG.m24, hG.tgS arr_1284 (by omega) (by omega), gd_t, hG.m13, hG.tgS arr_1276 (by omega) (by omega), gd_t, gd_t, gd_t, hG.m26, hG.tgS arr_1286 (by omega) (by omega), gd_t, hG.m15, hG.tgS arr_1278 (by omega) (by omega), gd_t, gd_t, gd_t, toNat_n, n1, e2, e3, e5, hG.m25, hG.m14, wr_id (x := 12 * (i : Int)) (by omega) (by omega), show 12 * (i : Int) = ((12 * i : Nat) : Int) by omega]
    have a1 : M_copy 1285 ((12 * i : Nat) : Int) 12 1277 ((12 * i : Nat) : Int) (stI (stI (stI (stI M 1274 i (cm z.1)) 1275 i (cc z.2.1)) 1276 i (z.2.2.1.length : Int)) 1278 i (z.2.2.2.length : Int)) = some (none, M1) := a1
    have b1 : M_copy 1287 ((40 * i : Nat) : Int) 40 1279 ((100 * i : Nat) : Int) M1 = some (none, M2) := b1
    rw [a1, cV_s, hG1.gM, gd_t, gd_t, hG1.m27, hG1.m16, wr_id (x := 40 * (i : Int)) (by omega) (by omega), show 40 * (i : Int) = ((40 * i : Nat) : Int) by omega, wr_id (x := 100 * (i : Int)) (by omega) (by omega), show 100 * (i : Int) = ((100 * i : Nat) : Int) by omega, b1, cV_s, wr_s (by omega)]
  · have m2 : ∀ a k, a ≠ 1279 → mI M2 a k = mI M1 a k := fun a k h => b2.2.2 a h k
    have m1 : ∀ a k, a ≠ 1277 → mI M1 a k = mI (stI (stI (stI (stI M 1274 i (cm z.1)) 1275 i (cc z.2.1)) 1276 i (z.2.2.1.length : Int)) 1278 i (z.2.2.2.length : Int)) a k := fun a k h => a2.2.2 a h k
    intro j w hw
    have hj := (List.getElem?_eq_some_iff.mp hw).1
    rw [List.length_take] at hj
    rw [List.getElem?_take, if_pos (by omega)] at hw
    rw [Nat.zero_add]
    have hwk := hN.2.2 w (List.mem_of_getElem? hw)
    have hwl := hwk.2.2.1.2.1
    have hwr := hwk.2.2.2.1.2.2
    by_cases q : j = i
    · subst q
      rw [hzi] at hw
      cases hw
      refine ⟨⟨?_, ?_, ?_⟩, fun k hk => ?_, ?_, fun k hk => ?_⟩
      · rw [m2 _ _ (by omega), m1 _ _ (by omega), mI_ne (by omega), mI_ne (by omega), mI_ne (by omega), mI_at]
      · rw [m2 _ _ (by omega), m1 _ _ (by omega), mI_ne (by omega), mI_ne (by omega), mI_at]
      · rw [m2 _ _ (by omega), m1 _ _ (by omega), mI_ne (by omega), mI_at]
      · rw [m2 _ _ (by omega), a3, if_pos (by omega), mI_ne (by omega), mI_ne (by omega), mI_ne (by omega), mI_ne (by omega), show 12 * j + (12 * j + k - 12 * j) = 12 * j + k by omega]; exact n4 k hk
      · rw [m2 _ _ (by omega), m1 _ _ (by omega), mI_at]
      · rw [b3, if_pos (by omega), m1 _ _ (by omega), mI_ne (by omega), mI_ne (by omega), mI_ne (by omega), mI_ne (by omega), show 40 * j + (100 * j + k - 100 * j) = 40 * j + k by omega]; exact n6 k hk
    · have hw2 : (zs.take i)[j]? = some w := by rw [List.getElem?_take, if_pos (by omega)]; exact hw
      obtain ⟨⟨h1, h2, h3⟩, h4, h5, h6⟩ := hP j w hw2
      rw [Nat.zero_add] at h1 h2 h3 h4 h5 h6
      refine ⟨⟨?_, ?_, ?_⟩, fun k hk => ?_, ?_, fun k hk => ?_⟩
      · rw [m2 _ _ (by omega), m1 _ _ (by omega), mI_ne (by omega), mI_ne (by omega), mI_ne (by omega), mI_ne (by omega)]; exact h1
      · rw [m2 _ _ (by omega), m1 _ _ (by omega), mI_ne (by omega), mI_ne (by omega), mI_ne (by omega), mI_ne (by omega)]; exact h2
      · rw [m2 _ _ (by omega), m1 _ _ (by omega), mI_ne (by omega), mI_ne (by omega), mI_ne (by omega), mI_ne (by omega)]; exact h3
      · rw [m2 _ _ (by omega), a3, if_neg (by omega), mI_ne (by omega), mI_ne (by omega), mI_ne (by omega), mI_ne (by omega)]; exact h4 k hk
      · rw [m2 _ _ (by omega), m1 _ _ (by omega), mI_ne (by omega), mI_ne (by omega), mI_ne (by omega), mI_ne (by omega)]; exact h5
      · rw [b3, if_neg (by omega), m1 _ _ (by omega), mI_ne (by omega), mI_ne (by omega), mI_ne (by omega), mI_ne (by omega)]; exact h6 k hk
theorem M_program_loop : ∀ (k i : Nat) (M : Mem) (d : LV), zs.length - i = k → i ≤ zs.length → Good M → NPm M zs → PMr M 1274 0 100 (zs.take i) → ∃ M', M_program_33 1269 (i : Int) d M = some (some (.inl (zs.length : Int)), M') ∧ PMr M' 1274 0 100 zs ∧ Fj mpR M M' := by
  intro k
  induction k with
  | zero =>
    intro i M d h1 h2 hG hN hP
    rw [show i = zs.length by omega, List.take_length] at hP
    rw [M_program_33_eq, hG.gM, gd_t, hN.1.1, if_neg (by omega), gd_t]
    exact ⟨M, rfl, hP, Fj.refl⟩
  | succ k ih =>
    intro i M d h1 h2 hG hN hP
    obtain ⟨M1, a1, a2, a3⟩ := M_progRow hG hN (by omega) d hP
    obtain ⟨M2, b1, b2, b3⟩ := ih (i + 1) M1 d (by omega) (by omega) (hG.fj a3) (hN.fj a3 (by unfold mpR; omega) (by unfold mpR; omega)) a2
    exact ⟨M2, a1.trans b1, b2, a3.trans b3⟩
def mp0 : Nat → Nat → Prop := fun a k => mbS a k ∨ (a = 1269 ∧ k = 1)
def mp1 : Nat → Nat → Prop := fun a k => mp0 a k ∨ (1274 ≤ a ∧ a ≤ 1280) ∨ (a = 1269 ∧ k = 77)
theorem TPm.nil (h : mI M 1269 1 = 0) : TPm M [] := ⟨h, by decide, fun i hi => absurd hi (Nat.not_lt_zero i)⟩
theorem M_program_s (hG : Good M) (hT : TPm M T) (hF : MF M f dr) : ∃ M', M_program 1269 M = some (some (.inl (okr (rpg T 41 [] 0) fun ws => (ws.length : Int))), M') ∧ TPm M' [] ∧ (match rpg T 41 [] 0 with
    | .error e => MF M' (e : Int) dr ∧ Fj mp0 M M'
    | .ok ws => MF M' (-1) 0 ∧ MP M' ws ∧ zsk 40 ws ∧ ws.length ≤ 40) ∧ Fj mp1 M M' := by
  obtain ⟨M1, a1, a2, a3⟩ := M_readProgram_s hG hT
  have hG1 := hG.fj a3
  rw [M_program_eq, hG.gM, gd_t, a1, cI_s, hG1.gM, gd_t]
  cases hx : rpg T 41 [] 0 with
  | error e =>
    rw [hx] at a2
    have a2 : mI M1 1269 3 = (e : Int) := a2
    rw [if_pos (oki_er e)]
    have F : Fj mp0 M (stI M1 1269 1 0) := (a3.mono fun a k q => Or.inl q).trans (Fj.ofI (Or.inr ⟨rfl, rfl⟩))
    exact ⟨_, rfl, TPm.nil mI_at, ⟨⟨by rw [mI_ne (by omega)]; exact a2, by rw [mI_ne (by omega), a3.2.2 _ _ (by unfold mbS mcS; omega)]; exact hF.2⟩, F⟩, F.mono fun a k q => Or.inl q⟩
  | ok ws =>
    rw [hx] at a2
    obtain ⟨a4, a5⟩ : NPm M1 ws ∧ mI M1 1269 3 = -1 := a2
    have f2 : Fj (fun a k => (a = 1269 ∧ (k = 1 ∨ k = 77)) ∨ (a = 1280 ∧ k = 0)) M1 (stI (stI (stI M1 1269 1 0) 1269 77 0) 1280 0 (ws.length : Int)) := ((Fj.ofI (by omega)).trans (Fj.ofI (by omega))).trans (Fj.ofI (by omega))
    have e28 : mI (stI (stI M1 1269 1 0) 1269 77 0) 1269 28 = (ws.length : Int) := by rw [mI_ne (by omega), mI_ne (by omega)]; exact a4.1.1
    have hG2 := hG1.fj f2
    obtain ⟨M3, b1, b2, b3⟩ := M_program_loop (zs := ws) _ 0 _ (some (.inl (oki (.ok ws : Except Nat (List Clz))))) rfl (Nat.zero_le _) hG2 (a4.fj f2 (by omega) (by omega)) (fun i z hz => by simp at hz)
    rw [if_neg (oki_ok ws), gd_t, gd_t, gd_t, hG1.m17, hG1.tgS arr_1280 (by decide) (by decide), gd_t, e28]
    have b1 : M_program_33 1269 0 (some (.inl (oki (.ok ws : Except Nat (List Clz))))) _ = _ := b1
    refine ⟨M3, b1, TPm.nil ?_, ⟨⟨?_, ?_⟩, ⟨?_, b2⟩, a4.2.2, a4.1.2⟩, ((a3.mono (T := mp1) fun a k q => Or.inl (Or.inl q)).trans (f2.mono (T := mp1) fun a k q => by unfold mp1 mp0; omega)).trans (b3.mono (T := mp1) fun a k q => by unfold mpR at q; unfold mp1; omega)⟩
    · rw [b3.2.2 _ _ (by unfold mpR; omega), mI_ne (by omega), mI_ne (by omega), mI_at]
    · rw [b3.2.2 _ _ (by unfold mpR; omega), f2.2.2 _ _ (by omega)]; exact a5
    · rw [b3.2.2 _ _ (by unfold mpR; omega), mI_ne (by omega), mI_at]
    · rw [b3.2.2 _ _ (by unfold mpR; omega), mI_at]
def mg1 : Nat → Nat → Prop := fun a k => mp0 a k ∨ a = 1288 ∨ (a = 1269 ∧ (k = 77 ∨ k = 35))
theorem M_goal_s (hG : Good M) (hT : TPm M T) (hF : MF M f dr) : ∃ M', M_goal 1269 M = some (some (.inl (okr (whl T) fun xs => (xs.length : Int))), M') ∧ TPm M' [] ∧ (match whl T with
    | .error e => MF M' (e : Int) dr ∧ Fj mp0 M M'
    | .ok xs => MF M' (-1) 0 ∧ MO M' xs) ∧ Fj mg1 M M' := by
  obtain ⟨M1, a1, a2, a3⟩ := M_readWhole_s hG hT
  have hG1 := hG.fj a3
  rw [M_goal_eq, hG.gM, gd_t, a1, cI_s, hG1.gM, gd_t]
  cases hx : whl T with
  | error e =>
    rw [hx] at a2
    have a2 : mI M1 1269 3 = (e : Int) := a2
    rw [if_pos (oki_er e)]
    have F : Fj mp0 M (stI M1 1269 1 0) := (a3.mono fun a k q => Or.inl q).trans (Fj.ofI (Or.inr ⟨rfl, rfl⟩))
    exact ⟨_, rfl, TPm.nil mI_at, ⟨⟨by rw [mI_ne (by omega)]; exact a2, by rw [mI_ne (by omega), a3.2.2 _ _ (by unfold mbS mcS; omega)]; exact hF.2⟩, F⟩, F.mono fun a k q => Or.inl q⟩
  | ok xs =>
    rw [hx] at a2
    obtain ⟨⟨a4, a5⟩, a6⟩ : (mI M1 1269 7 = (xs.length : Int) ∧ RM M1 1273 0 xs) ∧ mI M1 1269 3 = -1 := a2
    have hl := (whl_ok hx).2.2.1
    have f2 : Fj (fun a k => a = 1269 ∧ (k = 1 ∨ k = 77 ∨ k = 35)) M1 (stI (stI (stI M1 1269 1 0) 1269 77 0) 1269 35 (xs.length : Int)) := ((Fj.ofI (by omega)).trans (Fj.ofI (by omega))).trans (Fj.ofI (by omega))
    have e7 : mI (stI (stI M1 1269 1 0) 1269 77 0) 1269 7 = (xs.length : Int) := by rw [mI_ne (by omega), mI_ne (by omega)]; exact a4
    have e7' : mI (stI (stI (stI M1 1269 1 0) 1269 77 0) 1269 35 (xs.length : Int)) 1269 7 = (xs.length : Int) := by rw [mI_ne (by omega)]; exact e7
    have hG2 := hG1.fj f2
    obtain ⟨M3, b1, b2, b3⟩ := M_copy_s hG2 (s := 1273) (d := 1288) (p := 0) (q := 0) (k := xs.length) arr_1273 arr_1288 (by omega) (by omega) (by decide) (Or.inl (by decide))
    have hG3 := hG2.fi b2
    have b1 : M_copy 1273 0 (xs.length : Int) 1288 0 _ = _ := b1
    have e35 : mI M3 1269 35 = (xs.length : Int) := by rw [b2.2.2 _ (by omega), mI_at]
    rw [if_neg (oki_ok xs), gd_t, gd_t, gd_t, gd_t, gd_t, gd_t, e7, e7', hG1.m6, hG1.m29, b1, cV_s, hG3.gM, gd_t, e35]
    refine ⟨M3, rfl, TPm.nil ?_, ⟨⟨?_, ?_⟩, e35, fun j hj => ?_⟩, ((a3.mono (T := mg1) fun a k q => Or.inl (Or.inl q)).trans (f2.mono (T := mg1) fun a k q => by unfold mg1 mp0; omega)).trans (b2.fj (T := mg1) fun a k q => by unfold mg1; omega)⟩
    · rw [b2.2.2 _ (by omega), mI_ne (by omega), mI_ne (by omega), mI_at]
    · rw [b2.2.2 _ (by omega), f2.2.2 _ _ (by omega)]; exact a6
    · rw [b2.2.2 _ (by omega), mI_ne (by omega), mI_at]
    · rw [b3, if_pos (by omega), f2.2.2 _ _ (by omega), show 0 + (0 + j - 0) = 0 + j by omega]; exact a5 j hj
def mx1 : Nat → Nat → Prop := fun a k => mp0 a k ∨ a = 1292 ∨ a = 1293
theorem M_expression_bad (hG : Good M) (hF : MF M f dr) {i : Int} (hi : ¬ (0 ≤ i ∧ i < 4)) : ∃ M', M_expression 1269 i M = some (some (.inl (-1)), M') ∧ TPm M' [] ∧ MF M' (-1) dr ∧ Fj mp0 M M' := by
  rw [M_expression_eq, M_isIn_s, cI_s, if_neg (show ¬ ((0 : Int) ≤ i ∧ i ≤ 3) by omega), if_pos rfl, hG.gM, gd_t, gd_t]
  exact ⟨_, rfl, TPm.nil (by rw [mI_ne (by omega), mI_at]), ⟨mI_at, by rw [mI_ne (by omega), mI_ne (by omega)]; exact hF.2⟩, (Fj.ofI (by unfold mp0; omega)).trans (Fj.ofI (by unfold mp0 mbS mcS; omega))⟩
theorem M_expression_s (hG : Good M) (hT : TPm M T) (hF : MF M f dr) (hX : MX M es) (hle : ∀ i, i < 4 → (es i).length ≤ 40) {i : Nat} (hi : i < 4) : ∃ M', M_expression 1269 (i : Int) M = some (some (.inl (okr (whl T) fun xs => (xs.length : Int))), M') ∧ TPm M' [] ∧ (match whl T with
    | .error e => MF M' (e : Int) dr ∧ MX M' es ∧ Fj mp0 M M'
    | .ok xs => MF M' (-1) dr ∧ MX M' (setX es i xs)) ∧ Fj mx1 M M' := by
  obtain ⟨M1, a1, a2, a3⟩ := M_readWhole_s hG hT
  have hG1 := hG.fj a3
  rw [M_expression_eq, M_isIn_s, cI_s, if_pos (show (0 : Int) ≤ (i : Int) ∧ (i : Int) ≤ 3 by omega), if_neg (by decide), hG.gM, gd_t, a1, cI_s, hG1.gM, gd_t]
  cases hx : whl T with
  | error e =>
    rw [hx] at a2
    have a2 : mI M1 1269 3 = (e : Int) := a2
    rw [if_pos (oki_er e)]
    have F : Fj mp0 M (stI M1 1269 1 0) := (a3.mono fun a k q => Or.inl q).trans (Fj.ofI (Or.inr ⟨rfl, rfl⟩))
    exact ⟨_, rfl, TPm.nil mI_at, ⟨⟨by rw [mI_ne (by omega)]; exact a2, by rw [mI_ne (by omega), a3.2.2 _ _ (by unfold mbS mcS; omega)]; exact hF.2⟩, fun j hj => ⟨(F.2.2 _ _ (by unfold mp0 mbS mcS; omega)).trans (hX j hj).1, fun k hk => (F.2.2 _ _ (by unfold mp0 mbS mcS; omega)).trans ((hX j hj).2 k hk)⟩, F⟩, F.mono fun a k q => Or.inl q⟩
  | ok xs =>
    rw [hx] at a2
    obtain ⟨⟨a4, a5⟩, a6⟩ : (mI M1 1269 7 = (xs.length : Int) ∧ RM M1 1273 0 xs) ∧ mI M1 1269 3 = -1 := a2
    have hl := (whl_ok hx).2.2.1
    have f2 : Fj (fun a k => (a = 1269 ∧ k = 1) ∨ (a = 1293 ∧ k = i)) M1 (stI (stI M1 1269 1 0) 1293 i (xs.length : Int)) := (Fj.ofI (by omega)).trans (Fj.ofI (by omega))
    have e7 : mI (stI M1 1269 1 0) 1269 7 = (xs.length : Int) := by rw [mI_ne (by omega)]; exact a4
    have e7' : mI (stI (stI M1 1269 1 0) 1293 i (xs.length : Int)) 1269 7 = (xs.length : Int) := by rw [mI_ne (by omega)]; exact e7
    have hG2 := hG1.fj f2
    obtain ⟨M3, b1, b2, b3⟩ := M_copy_s hG2 (s := 1273) (d := 1292) (p := 0) (q := 40 * i) (k := xs.length) arr_1273 arr_1292 (by omega) (by omega) (by decide) (Or.inl (by decide))
    have hG3 := hG2.fi b2
    have b1 : M_copy 1273 0 (xs.length : Int) 1292 ((40 * i : Nat) : Int) _ = _ := b1
    have e7'' : mI M3 1269 7 = (xs.length : Int) := by rw [b2.2.2 _ (by omega)]; exact e7'
    rw [if_neg (oki_ok xs), gd_t, gd_t, hG1.m34, hG1.tgS arr_1293 (by omega) (by omega), gd_t, gd_t, gd_t, gd_t, toNat_n, e7, e7', hG1.m6, hG1.m33, wr_id (x := 40 * (i : Int)) (by omega) (by omega), show 40 * (i : Int) = ((40 * i : Nat) : Int) by omega, b1, cV_s, hG3.gM, gd_t, e7'']
    have FF : Fj mx1 M M3 := ((a3.mono (T := mx1) fun a k q => Or.inl (Or.inl q)).trans (f2.mono (T := mx1) fun a k q => by unfold mx1 mp0; omega)).trans (b2.fj (T := mx1) fun a k q => by unfold mx1; omega)
    refine ⟨M3, rfl, TPm.nil ?_, ⟨⟨?_, ?_⟩, fun j hj => ?_⟩, FF⟩
    · rw [b2.2.2 _ (by omega), mI_ne (by omega), mI_at]
    · rw [b2.2.2 _ (by omega), f2.2.2 _ _ (by omega)]; exact a6
    · rw [b2.2.2 _ (by omega), f2.2.2 _ _ (by omega), a3.2.2 _ _ (by unfold mbS mcS; omega)]; exact hF.2
    · unfold setX
      by_cases e : j = i
      · subst e
        rw [if_pos rfl]
        refine ⟨by rw [b2.2.2 _ (by omega), mI_at], fun k hk => ?_⟩
        rw [b3, if_pos (by omega), f2.2.2 _ _ (by omega), show 0 + (40 * j + k - 40 * j) = 0 + k by omega]; exact a5 k hk
      · rw [if_neg e]
        have hj4 := hle j hj
        refine ⟨?_, fun k hk => ?_⟩
        · rw [b2.2.2 _ (by omega), f2.2.2 _ _ (by omega), a3.2.2 _ _ (by unfold mbS mcS; omega)]; exact (hX j hj).1
        · rw [b3, if_neg (by omega), f2.2.2 _ _ (by omega), a3.2.2 _ _ (by unfold mbS mcS; omega)]; exact (hX j hj).2 k hk
def md0 : Nat → Nat → Prop := fun a k => mdS a k ∨ (a = 1269 ∧ k = 1)
def md1 : Nat → Nat → Prop := fun a k => md0 a k ∨ (1289 ≤ a ∧ a ≤ 1291) ∨ (a = 1269 ∧ k = 36)
theorem M_bind_s (hG : Good M) (hT : TPm M T) (hF : MF M f dr) : ∃ M', M_bind 1269 M = some (some (.inl (okr (rbb T) fun cs => (cs.length : Int))), M') ∧ TPm M' [] ∧ (match rbb T with
    | .error e => MF M' (e : Int) dr ∧ Fj md0 M M'
    | .ok cs => MF M' (-1) dr ∧ MB M' cs ∧ bok cs) ∧ Fj md1 M M' := by
  obtain ⟨M1, a1, a2, a3⟩ := M_readBounds_s hG hT
  have hG1 := hG.fj a3
  rw [M_bind_eq, hG.gM, gd_t, a1, cI_s, hG1.gM, gd_t]
  cases hx : rbb T with
  | error e =>
    rw [hx] at a2
    have a2 : mI M1 1269 3 = (e : Int) := a2
    rw [if_pos (oki_er e)]
    have F : Fj md0 M (stI M1 1269 1 0) := (a3.mono fun a k q => Or.inl q).trans (Fj.ofI (Or.inr ⟨rfl, rfl⟩))
    exact ⟨_, rfl, TPm.nil mI_at, ⟨⟨by rw [mI_ne (by omega)]; exact a2, by rw [mI_ne (by omega), a3.2.2 _ _ (by unfold mdS; omega)]; exact hF.2⟩, F⟩, F.mono fun a k q => Or.inl q⟩
  | ok cs =>
    rw [hx] at a2
    obtain ⟨⟨⟨a4, a5⟩, a6, a7, a8, a9⟩, a10⟩ : NBm M1 cs ∧ mI M1 1269 3 = -1 := a2
    have f2 : Fj (fun a k => a = 1269 ∧ (k = 1 ∨ k = 36)) M1 (stI (stI M1 1269 1 0) 1269 36 (cs.length : Int)) := (Fj.ofI (by omega)).trans (Fj.ofI (by omega))
    have e40 : mI (stI M1 1269 1 0) 1269 40 = (cs.length : Int) := by rw [mI_ne (by omega)]; exact a4
    have e36 : mI (stI (stI M1 1269 1 0) 1269 36 (cs.length : Int)) 1269 36 = (cs.length : Int) := mI_at
    have hG2 := hG1.fj f2
    obtain ⟨M3, b1, b2, b3⟩ := M_copy_s hG2 (s := 1294) (d := 1289) (p := 0) (q := 0) (k := cs.length) arr_1294 arr_1289 (by omega) (by omega) (by decide) (Or.inl (by decide))
    have hG3 := hG2.fi b2
    obtain ⟨M4, c1, c2, c3⟩ := M_copy_s hG3 (s := 1295) (d := 1290) (p := 0) (q := 0) (k := cs.length) arr_1295 arr_1290 (by omega) (by omega) (by decide) (Or.inl (by decide))
    have hG4 := hG3.fi c2
    obtain ⟨M5, d1, d2, d3⟩ := M_copy_s hG4 (s := 1296) (d := 1291) (p := 0) (q := 0) (k := (flt cs).length) arr_1296 arr_1291 (by omega) (by omega) (by decide) (Or.inl (by decide))
    have hG5 := hG4.fi d2
    have b1 : M_copy 1294 0 (cs.length : Int) 1289 0 _ = _ := b1
    have c1 : M_copy 1295 0 (cs.length : Int) 1290 0 _ = _ := c1
    have d1 : M_copy 1296 0 ((flt cs).length : Int) 1291 0 _ = _ := d1
    have g36 : mI M3 1269 36 = (cs.length : Int) := by rw [b2.2.2 _ (by omega), mI_at]
    have g41 : mI M4 1269 41 = ((flt cs).length : Int) := by rw [c2.2.2 _ (by omega), b2.2.2 _ (by omega), f2.2.2 _ _ (by omega)]; exact a5
    have h36 : mI M5 1269 36 = (cs.length : Int) := by rw [d2.2.2 _ (by omega), c2.2.2 _ (by omega)]; exact g36
    rw [if_neg (oki_ok cs), gd_t, gd_t, gd_t, gd_t, gd_t, e40, e36, hG1.m37, hG1.m30, b1, cV_s, hG3.gM, gd_t, gd_t, gd_t, hG3.m38, hG3.m31, g36, c1, cV_s, hG4.gM, gd_t, gd_t, gd_t, hG4.m39, hG4.m32, g41, d1, cV_s, hG5.gM, gd_t, h36]
    have F35 : Fi (fun a => 1289 ≤ a ∧ a ≤ 1291) (stI (stI M1 1269 1 0) 1269 36 (cs.length : Int)) M5 := ((b2.mono fun a q => by omega).trans (c2.mono fun a q => by omega)).trans (d2.mono fun a q => by omega)
    refine ⟨M5, rfl, TPm.nil ?_, ⟨⟨?_, ?_⟩, ⟨h36, fun i q hq => ?_⟩, a7, a8, a9⟩, ((a3.mono (T := md1) fun a k q => Or.inl (Or.inl q)).trans (f2.mono (T := md1) fun a k q => by unfold md1 md0; omega)).trans (F35.fj (T := md1) fun a k q => by unfold md1; omega)⟩
    · rw [F35.2.2 _ (by omega), mI_ne (by omega), mI_at]
    · rw [F35.2.2 _ (by omega), f2.2.2 _ _ (by omega)]; exact a10
    · rw [F35.2.2 _ (by omega), f2.2.2 _ _ (by omega), a3.2.2 _ _ (by unfold mdS; omega)]; exact hF.2
    · have hi := (List.getElem?_eq_some_iff.mp hq).1
      obtain ⟨h1, h2, h3⟩ := a6 i q hq
      obtain ⟨s1, s2, -⟩ := stp_s hq
      refine ⟨?_, ?_, fun j hj => ?_⟩
      · rw [d2.2.2 _ (by omega), c2.2.2 _ (by omega), b3, if_pos (by omega), f2.2.2 _ _ (by omega), show 0 + (i - 0) = i by omega]; exact h1
      · rw [d2.2.2 _ (by omega), c3, if_pos (by omega), b2.2.2 _ (by omega), f2.2.2 _ _ (by omega), show 0 + (i - 0) = i by omega]; exact h2
      · rw [d3, if_pos (by omega), c2.2.2 _ (by omega), b2.2.2 _ (by omega), f2.2.2 _ _ (by omega), show 0 + (stp cs i + j - 0) = stp cs i + j by omega]; exact h3 j hj
theorem M_fault_s (hG : Good M) (hF : MF M f dr) : M_fault 1269 M = some (some (.inl f), M) := by rw [M_fault_eq, hG.gM, gd_t, hF.1]
end MTELL

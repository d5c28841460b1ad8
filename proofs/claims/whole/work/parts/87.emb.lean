/-! ===== coupled, embedded ===== -/
def allA (E : Nat → Nat → Bool) (xs ys : List Int) (i j : Nat) : Nat → Nat → Bool
  | 0, _ => true
  | n + 1, k => E (agp xs i k) (agp ys j k) && allA E xs ys i j n (k + 1)
def anyA (E : Nat → Nat → Bool) (ys : List Int) (i j : Nat) : Nat → Nat → Bool
  | 0, _ => false
  | n + 1, k => E i (agp ys j k) || anyA E ys i j n (k + 1)
def cplF (E : Nat → Nat → Bool) (xs ys : List Int) (i j : Nat) : Bool := if kd (nth xs i) = 0 then decide (kd (nth ys j) = 0) else decide (nth xs i = nth ys j) && allA E xs ys i j (arN (nth xs i)) 0
def embF (xs ys : List Int) : Nat → Nat → Nat → Bool
  | 0, _, _ => false
  | n + 1, i, j => cplF (embF xs ys n) xs ys i j || anyA (embF xs ys n) ys i j (arN (nth ys j)) 0
/-- whether a part is embedded in a part -/
def emb (xs ys : List Int) (i j : Nat) : Bool := embF xs ys (xs.length + ys.length + 1) i j
def cpl (xs ys : List Int) (i j : Nat) : Bool := cplF (emb xs ys) xs ys i j
theorem agp_gt (xs : List Int) (i k : Nat) : i < agp xs i k := by unfold agp; omega
theorem nth_out {xs : List Int} {i : Nat} (h : xs.length ≤ i) : nth xs i = 0 := by
  unfold nth
  rw [List.getD_eq_getElem?_getD, List.getElem?_eq_none h]
  rfl
theorem allA_cong {E F : Nat → Nat → Bool} {xs ys : List Int} {i j : Nat} : ∀ (n k : Nat), (∀ k, E (agp xs i k) (agp ys j k) = F (agp xs i k) (agp ys j k)) → allA E xs ys i j n k = allA F xs ys i j n k := by
  intro n
  induction n with
  | zero => intro k _; rfl
  | succ n ih => intro k h; unfold allA; rw [h k, ih (k + 1) h]
theorem anyA_cong {E F : Nat → Nat → Bool} {ys : List Int} {i j : Nat} : ∀ (n k : Nat), (∀ k, E i (agp ys j k) = F i (agp ys j k)) → anyA E ys i j n k = anyA F ys i j n k := by
  intro n
  induction n with
  | zero => intro k _; rfl
  | succ n ih => intro k h; unfold anyA; rw [h k, ih (k + 1) h]
theorem cplF_cong {E F : Nat → Nat → Bool} {xs ys : List Int} {i j : Nat} (h : i < xs.length → j < ys.length → ∀ k, E (agp xs i k) (agp ys j k) = F (agp xs i k) (agp ys j k)) : cplF E xs ys i j = cplF F xs ys i j := by
  unfold cplF
  by_cases hk : kd (nth xs i) = 0
  · rw [if_pos hk, if_pos hk]
  · rw [if_neg hk, if_neg hk]
    by_cases he : nth xs i = nth ys j
    · have hi : i < xs.length := by
        by_cases q : i < xs.length
        · exact q
        · exact absurd (show kd (nth xs i) = 0 by rw [nth_out (by omega)]; rfl) hk
      have hj : j < ys.length := by
        by_cases q : j < ys.length
        · exact q
        · exact absurd (show kd (nth xs i) = 0 by rw [he, nth_out (by omega)]; rfl) hk
      rw [allA_cong _ _ (h hi hj)]
    · rw [decide_eq_false he, Bool.false_and, Bool.false_and]
theorem embF_stab {xs ys : List Int} : ∀ (n i j : Nat), (xs.length - i) + (ys.length - j) < n → embF xs ys (n + 1) i j = embF xs ys n i j := by
  intro n
  induction n with
  | zero => intro i j h; omega
  | succ n ih =>
    intro i j h
    show (cplF (embF xs ys (n + 1)) xs ys i j || anyA (embF xs ys (n + 1)) ys i j (arN (nth ys j)) 0) = (cplF (embF xs ys n) xs ys i j || anyA (embF xs ys n) ys i j (arN (nth ys j)) 0)
    rw [cplF_cong (E := embF xs ys (n + 1)) (F := embF xs ys n) fun hi hj k => ih _ _ (by have := agp_gt xs i k; have := agp_gt ys j k; omega)]
    by_cases hj : j < ys.length
    · rw [anyA_cong (E := embF xs ys (n + 1)) (F := embF xs ys n) _ _ fun k => ih _ _ (by have := agp_gt ys j k; omega)]
    · rw [nth_out (xs := ys) (by omega)]
      rfl
theorem emb_eq {xs ys : List Int} {i j : Nat} (hi : i < xs.length) (hj : j < ys.length) : emb xs ys i j = (cpl xs ys i j || anyA (emb xs ys) ys i j (arN (nth ys j)) 0) := by
  unfold cpl
  conv => lhs; unfold emb
  rw [← embF_stab _ _ _ (by omega)]
  show (cplF (embF xs ys (xs.length + ys.length + 1)) xs ys i j || anyA (embF xs ys (xs.length + ys.length + 1)) ys i j (arN (nth ys j)) 0) = _
  rfl
theorem agp_lt {xs : List Int} {i k b : Nat} (h : wf (1 + b) (xs.drop i)) (hk : k < arN (nth xs i)) : agp xs i k < xs.length ∧ ∃ c, wf (1 + c) (xs.drop (agp xs i k)) := by
  rw [Nat.add_comm] at h
  have hi := wf_some h
  have h2 := wf_next hi h
  rw [show b + arN (nth xs i) = k + (arN (nth xs i) - k + b) by omega] at h2
  have h3 := (wf_sk _ _ _ h2).2
  rw [List.drop_drop] at h3
  have h4 : wf (arN (nth xs i) - k - 1 + b + 1) (xs.drop (agp xs i k)) := by
    rw [show arN (nth xs i) - k - 1 + b + 1 = arN (nth xs i) - k + b by omega]
    exact h3
  exact ⟨wf_some h4, _, by rw [Nat.add_comm]; exact h4⟩
theorem b2i_01 (b : Bool) : (b = true ∧ b2i b = 1) ∨ (b = false ∧ b2i b = 0) := by cases b <;> simp [b2i]
theorem arr_17 : arr 17 0 40 := arr_of _ _ _ (by decide)
theorem arr_18 : arr 18 0 40 := arr_of _ _ _ (by decide)
theorem arr_19 : arr 19 2 1600 := arr_of _ _ _ (by decide)
theorem arr_20 : arr 20 2 1600 := arr_of _ _ _ (by decide)
theorem arr_1305 : arr 1305 2 1681 := arr_of _ _ _ (by decide)
theorem Good.tgB {M : Mem} (h : Good M) {a n : Nat} (o : arr a 2 n) (i : Int) : gS M a 1 i = false := by
  have := (h.kd o).1
  unfold gS
  rw [this]
  simp
theorem g12 {a b : Bool} (h : b = true) : (a || b) = true := by rw [h, Bool.or_true]
theorem C_idx {a b : Nat} (h1 : a < 40) (h2 : b < 40) : wr (wr ((a : Int) * 40) + (b : Int)) = ((40 * a + b : Nat) : Int) := by
  rw [wr_id (x := (a : Int) * 40) (by omega) (by omega), wr_id (by omega) (by omega)]
  omega
theorem C_lt {a b : Nat} (h1 : a < 40) (h2 : b < 40) : ((40 * a + b : Nat) : Int) < ((1600 : Nat) : Int) := by omega
theorem K_lt {c : Int} {k t : Nat} (h : arN c - k = t + 1) : (k : Int) < ar c := by
  have := arN_ar c
  omega
theorem I_lt {a : Nat} (h : a < 40) : (a : Int) < 40 := by omega
section COMP
variable {M : Mem} {e f n m : Nat} {xs ys : List Int}
/-- the ends of parts, and those pairs of parts that were compared -/
def BHc (M : Mem) (xs ys : List Int) : Prop := (∀ i, i < xs.length → mI M 17 i = (beh xs i : Int)) ∧ ∀ j, j < ys.length → mI M 18 j = (beh ys j : Int)
def EBc (M : Mem) (xs ys : List Int) (i j : Nat) : Prop := ∀ a b, a < xs.length → b < ys.length → (i < a ∨ (a = i ∧ j ≤ b)) → mI M 20 (40 * a + b) = b2i (emb xs ys a b)
def cmS : Nat → Nat → Prop := fun a k => (17 ≤ a ∧ a ≤ 20) ∨ (a = 12 ∧ (k = 8 ∨ k = 9))
theorem Ma_cpl_loop (hG : Good M) (hb : BHc M xs ys) {i j : Nat} (hE : EBc M xs ys i (j + 1)) (hlx : xs.length ≤ 40) (hly : ys.length ≤ 40) (hi : i < xs.length) (hj : j < ys.length) {b1 b2 : Nat} (hwx : wf (1 + b1) (xs.drop i)) (hwy : wf (1 + b2) (ys.drop j)) {c : Int} (hc : vc c) (ex : nth xs i = c) (ey : nth ys j = c) (d1 d2 d3 d4 d6 : LV) : ∀ (t k : Nat), arN c - k = t → k ≤ arN c → Ma_arePartsCoupled_60 12 c ((agp xs i k : Nat) : Int) ((agp ys j k : Nat) : Int) (k : Int) d1 d2 d3 d4 d6 M = some (some (.inl (b2i (allA (emb xs ys) xs ys i j t k))), M) := by
  have ha := arN_ar c
  intro t
  induction t with
  | zero =>
    intro k e1 e2
    rw [Ma_arePartsCoupled_60_eq, Ex_arity_s hc.inR, cI_s, if_neg (by omega)]
    rfl
  | succ t ih =>
    intro k e1 e2
    obtain ⟨x1, -⟩ := agp_lt hwx (k := k) (by rw [ex]; omega)
    obtain ⟨y1, -⟩ := agp_lt hwy (k := k) (by rw [ey]; omega)
    have g1 := agp_gt xs i k
    have h8 := arN_lt c
    have p1 : agp xs i k < 40 := Nat.lt_of_lt_of_le x1 hlx
    have p2 : agp ys j k < 40 := Nat.lt_of_lt_of_le y1 hly
    have p3 : ((agp xs i k : Nat) : Int) < 40 := I_lt p1
    have p4 : ((agp ys j k : Nat) : Int) < 40 := I_lt p2
    have hA : gS M 20 2 ((40 * agp xs i k + agp ys j k : Nat) : Int) = true := hG.tgS arr_20 (Int.natCast_nonneg _) (C_lt p1 p2)
    have hB : gS M 17 0 ((agp xs i k : Nat) : Int) = true := hG.tgS arr_17 (Int.natCast_nonneg _) p3
    have hC : gS M 18 0 ((agp ys j k : Nat) : Int) = true := hG.tgS arr_18 (Int.natCast_nonneg _) p4
    have hK : (k : Int) < ar c := K_lt e1
    have hnx := ih (k + 1) (by omega) (by omega)
    have hEm := hE _ _ x1 y1 (Or.inl g1)
    rw [Ma_arePartsCoupled_60_eq, Ex_arity_s hc.inR, cI_s, if_pos hK, if_pos p3, if_pos p4, hG.gMa, gd_t, hG.r12_7, C_idx p1 p2, g12 hA, gd_t, toNat_n, hEm]
    unfold allA
    rcases b2i_01 (emb xs ys (agp xs i k) (agp ys j k)) with ⟨h1, h2⟩ | ⟨h1, h2⟩
    · rw [h2, h1, if_neg (by decide), gd_t, hG.r12_4, hB, gd_t, gd_t, hG.r12_5, hC, gd_t, toNat_n, toNat_n, hb.1 _ x1, hb.2 _ y1, ← agp_s, ← agp_s, wr_s (by omega), hnx, Bool.true_and]
    · rw [h2, h1, if_pos rfl, Bool.false_and]
      rfl
theorem Ma_cpl_s (hG : Good M) (hX : XE M e n xs) (hY : XE M f m ys) (hv : av xs) (hvy : av ys) (hb : BHc M xs ys) {i j : Nat} (hE : EBc M xs ys i (j + 1)) (hlx : xs.length ≤ 40) (hly : ys.length ≤ 40) (hi : i < xs.length) (hj : j < ys.length) {b1 b2 : Nat} (hwx : wf (1 + b1) (xs.drop i)) (hwy : wf (1 + b2) (ys.drop j)) : Ma_arePartsCoupled 12 e (i : Int) f (j : Int) M = some (some (.inl (b2i (cpl xs ys i j))), M) := by
  have hc := av_nth hv hi
  have hd := av_nth hvy hj
  unfold cpl cplF
  rw [Ma_arePartsCoupled_eq, hX.g hG, gd_t, Ex_cellAt_s hG hX, cA_n hi, cI_s, hY.g hG, gd_t, Ex_cellAt_s hG hY, cA_n hj, cI_s, Ex_kind_s hc.inR, cI_s]
  by_cases hk : kd (nth xs i) = 0
  · rw [if_pos hk, if_pos hk, Ex_kind_s hd.inR, cI_s]
    by_cases hk2 : kd (nth ys j) = 0
    · rw [if_pos hk2, decide_eq_true hk2]; rfl
    · rw [if_neg hk2, decide_eq_false hk2]; rfl
  · rw [if_neg hk, if_neg hk]
    by_cases he : nth xs i = nth ys j
    · have := Ma_cpl_loop hG hb hE hlx hly hi hj hwx hwy hc rfl he.symm (some (.inr e)) (some (.inl (i : Int))) (some (.inr f)) (some (.inl (j : Int))) (some (.inl (nth ys j))) _ 0 rfl (Nat.zero_le _)
      rw [agp_z, agp_z, Nat.sub_zero] at this
      have this : Ma_arePartsCoupled_60 12 (nth xs i) ((i + 1 : Nat) : Int) ((j + 1 : Nat) : Int) 0 (some (.inr e)) (some (.inl (i : Int))) (some (.inr f)) (some (.inl (j : Int))) (some (.inl (nth ys j))) M = _ := this
      rw [if_pos he, wr_s (by omega), wr_s (by omega), this, decide_eq_true he, Bool.true_and]
    · rw [if_neg he, decide_eq_false he, Bool.false_and]
      rfl
theorem Ma_any_loop (hG : Good M) (hb : BHc M xs ys) {i j : Nat} (hE : EBc M xs ys i (j + 1)) (hlx : xs.length ≤ 40) (hly : ys.length ≤ 40) (hi : i < xs.length) (hj : j < ys.length) {b2 : Nat} (hwy : wf (1 + b2) (ys.drop j)) (d2 d3 : LV) : ∀ (t k : Nat), arN (nth ys j) - k = t → k ≤ arN (nth ys j) → Ma_isInArgument_18 12 (i : Int) ((agp ys j k : Nat) : Int) (ar (nth ys j)) (k : Int) d2 d3 M = some (some (.inl (b2i (anyA (emb xs ys) ys i j t k))), M) := by
  have ha := arN_ar (nth ys j)
  intro t
  induction t with
  | zero =>
    intro k e1 e2
    rw [Ma_isInArgument_18_eq, if_neg (by omega)]
    rfl
  | succ t ih =>
    intro k e1 e2
    obtain ⟨y1, -⟩ := agp_lt hwy (k := k) (by omega)
    have g1 := agp_gt ys j k
    have h8 := arN_lt (nth ys j)
    have p2 : agp ys j k < 40 := Nat.lt_of_lt_of_le y1 hly
    have p4 : ((agp ys j k : Nat) : Int) < 40 := I_lt p2
    have p5 : i < 40 := Nat.lt_of_lt_of_le hi hlx
    have hA : gS M 20 2 ((40 * i + agp ys j k : Nat) : Int) = true := hG.tgS arr_20 (Int.natCast_nonneg _) (C_lt p5 p2)
    have hC : gS M 18 0 ((agp ys j k : Nat) : Int) = true := hG.tgS arr_18 (Int.natCast_nonneg _) p4
    have hK : (k : Int) < ar (nth ys j) := K_lt e1
    have hnx := ih (k + 1) (by omega) (by omega)
    have hEm := hE _ _ hi y1 (Or.inr ⟨rfl, g1⟩)
    rw [Ma_isInArgument_18_eq, if_pos hK, if_pos p4, hG.gMa, gd_t, hG.r12_7, C_idx p5 p2, g12 hA, gd_t, toNat_n, hEm]
    unfold anyA
    rcases b2i_01 (emb xs ys i (agp ys j k)) with ⟨h1, h2⟩ | ⟨h1, h2⟩
    · rw [h2, h1, if_neg (by decide), Bool.true_or]
      rfl
    · rw [h2, h1, if_pos rfl, gd_t, hG.r12_5, hC, gd_t, toNat_n, hb.2 _ y1, ← agp_s, wr_s (by omega), hnx, Bool.false_or]
theorem Ma_any_s (hG : Good M) (hY : XE M f m ys) (hvy : av ys) (hb : BHc M xs ys) {i j : Nat} (hE : EBc M xs ys i (j + 1)) (hlx : xs.length ≤ 40) (hly : ys.length ≤ 40) (hi : i < xs.length) (hj : j < ys.length) {b2 : Nat} (hwy : wf (1 + b2) (ys.drop j)) : Ma_isInArgument 12 (i : Int) f (j : Int) M = some (some (.inl (b2i (anyA (emb xs ys) ys i j (arN (nth ys j)) 0))), M) := by
  have hd := av_nth hvy hj
  have := Ma_any_loop hG hb hE hlx hly hi hj hwy (some (.inr f)) (some (.inl (j : Int))) _ 0 rfl (Nat.zero_le _)
  rw [agp_z, Nat.sub_zero] at this
  have this : Ma_isInArgument_18 12 (i : Int) ((j + 1 : Nat) : Int) (ar (nth ys j)) 0 (some (.inr f)) (some (.inl (j : Int))) M = _ := this
  rw [Ma_isInArgument_eq, hY.g hG, gd_t, Ex_cellAt_s hG hY, cA_n hj, cI_s, Ex_arity_s hd.inR, cI_s, wr_s (by omega), this]
theorem BHc.fj {M1 : Mem} {A : Nat → Nat → Prop} (h : BHc M xs ys) (g : Fj A M M1) (h0 : ∀ k, ¬ A 17 k ∧ ¬ A 18 k) : BHc M1 xs ys := ⟨fun i hi => (g.2.2 _ _ (h0 _).1).trans (h.1 i hi), fun j hj => (g.2.2 _ _ (h0 _).2).trans (h.2 j hj)⟩
/-- one pair of parts -/
theorem Ma_pair_s (he : 20 < e) (hf : 20 < f) (hv : av xs) (hvy : av ys) (hw : wf 1 xs) (hwy : wf 1 ys) (hlx : xs.length ≤ 40) (hly : ys.length ≤ 40) (hG : Good M) (hX : XE M e n xs) (hY : XE M f m ys) (hb : BHc M xs ys) {i j : Nat} (hE : EBc M xs ys i (j + 1)) (hi : i < xs.length) (hj : j < ys.length) (d5 : LV) : ∃ M' d, Ma_compare_118 12 e f (i : Int) (j : Int) d5 M = Ma_compare_118 12 e f (i : Int) ((j : Int) - 1) d M' ∧ EBc M' xs ys i j ∧ mI M' 19 (40 * i + j) = b2i (cpl xs ys i j) ∧ Fj (fun a _ => a = 19 ∨ a = 20) M M' := by
  obtain ⟨b1, hb1⟩ := wf_at hw hi
  obtain ⟨b2, hb2⟩ := wf_at hwy hj
  have hcp := Ma_cpl_s hG hX hY hv hvy hb hE hlx hly hi hj hb1 hb2
  have hidx := C_idx (a := i) (b := j) (by omega) (by omega)
  have e01 : decide (b2i (cpl xs ys i j) = 0 ∨ b2i (cpl xs ys i j) = 1) = true := by
    rw [decide_eq_true_eq]
    rcases b2i_01 (cpl xs ys i j) with ⟨-, h⟩ | ⟨-, h⟩ <;> omega
  have f1 : Fj (fun a _ => a = 19 ∨ a = 20) M (stI M 19 (40 * i + j) (b2i (cpl xs ys i j))) := Fj.ofI (Or.inl rfl)
  have hG1 := hG.fj f1
  have hj1 : wr ((j : Int) + -1) = (j : Int) - 1 := by rw [wr_id (by omega) (by omega)]; omega
  have fin : ∀ {b : Bool}, b = emb xs ys i j → EBc (stI (stI M 19 (40 * i + j) (b2i (cpl xs ys i j))) 20 (40 * i + j) (b2i b)) xs ys i j ∧ mI (stI (stI M 19 (40 * i + j) (b2i (cpl xs ys i j))) 20 (40 * i + j) (b2i b)) 19 (40 * i + j) = b2i (cpl xs ys i j) ∧ Fj (fun a _ => a = 19 ∨ a = 20) M (stI (stI M 19 (40 * i + j) (b2i (cpl xs ys i j))) 20 (40 * i + j) (b2i b)) := by
    intro b hb0
    refine ⟨fun a b' ha hb' h => ?_, by rw [mI_ne (by omega), mI_at], f1.trans (Fj.ofI (Or.inr rfl))⟩
    by_cases q : a = i ∧ b' = j
    · obtain ⟨rfl, rfl⟩ := q
      rw [mI_at, hb0]
    · rw [mI_ne (by omega), mI_ne (by omega)]
      exact hE a b' ha hb' (by omega)
  rw [Ma_compare_118_eq, if_neg (by omega), hG.gMa, gd_t, hcp, cI_s, hG.gMa, gd_t, hG.r12_6, hidx, hG.tgB arr_19, if_neg Bool.false_ne_true, hG.tgS arr_19 (by omega) (by omega), gd_t, e01, gd_t, gd_t, toNat_n, hG.r12_7]
  rcases b2i_01 (cpl xs ys i j) with ⟨h1, h2⟩ | ⟨h1, h2⟩
  · obtain ⟨q1, q2, q3⟩ := fin (b := true) (by rw [emb_eq hi hj, h1, Bool.true_or])
    rw [if_neg (by omega), hG.tgB arr_20, if_neg Bool.false_ne_true, hG.tgS arr_20 (by omega) (by omega), gd_t, hj1]
    exact ⟨_, _, rfl, q1, q2, q3⟩
  · have hbe : BHc (stI M 19 (40 * i + j) (b2i (cpl xs ys i j))) xs ys := hb.fj (A := fun a _ => a = 19) (Fj.ofI rfl) (by omega)
    have hE1 : EBc (stI M 19 (40 * i + j) (b2i (cpl xs ys i j))) xs ys i (j + 1) := fun a b ha hb h => by rw [mI_ne (by omega)]; exact hE a b ha hb h
    have hY1 : XE (stI M 19 (40 * i + j) (b2i (cpl xs ys i j))) f m ys := hY.fj f1 (by omega) (by omega)
    have han := Ma_any_s hG1 hY1 hvy hbe hE1 hlx hly hi hj hb2
    rw [if_pos h2, gd_t, han, cI_s, hG1.tgB arr_20, hG1.tgS arr_20 (by omega) (by omega)]
    rcases b2i_01 (anyA (emb xs ys) ys i j (arN (nth ys j)) 0) with ⟨g1, g2⟩ | ⟨g1, g2⟩
    · obtain ⟨q1, q2, q3⟩ := fin (b := true) (by rw [emb_eq hi hj, g1, Bool.or_true])
      rw [if_neg (by omega), if_neg Bool.false_ne_true, gd_t, hj1]
      exact ⟨_, _, rfl, q1, q2, q3⟩
    · obtain ⟨q1, q2, q3⟩ := fin (b := false) (by rw [emb_eq hi hj, h1, g1]; rfl)
      rw [if_pos g2, if_neg Bool.false_ne_true, gd_t, hj1]
      exact ⟨_, _, rfl, q1, q2, q3⟩
theorem Ma_row_s (he : 20 < e) (hf : 20 < f) (hv : av xs) (hvy : av ys) (hw : wf 1 xs) (hwy : wf 1 ys) (hlx : xs.length ≤ 40) (hly : ys.length ≤ 40) {i : Nat} (hi : i < xs.length) : ∀ (j : Nat) (M : Mem) (d5 : LV), j < ys.length → Good M → XE M e n xs → XE M f m ys → BHc M xs ys → EBc M xs ys i (j + 1) → ∃ M' d d', Ma_compare_118 12 e f (i : Int) (j : Int) d5 M = Ma_compare_106 12 e f ((i : Int) - 1) d d' M' ∧ EBc M' xs ys i 0 ∧ mI M' 19 (40 * i) = b2i (cpl xs ys i 0) ∧ Fj (fun a _ => a = 19 ∨ a = 20) M M' := by
  have hi1 : wr ((i : Int) + -1) = (i : Int) - 1 := by rw [wr_id (by omega) (by omega)]; omega
  intro j
  induction j with
  | zero =>
    intro M d5 hj hG hX hY hb hE
    obtain ⟨M1, d, a1, a2, a3, a4⟩ := Ma_pair_s he hf hv hvy hw hwy hlx hly hG hX hY hb hE hi hj d5
    rw [a1, Ma_compare_118_eq, if_pos (by omega), hi1]
    exact ⟨M1, _, _, rfl, a2, a3, a4⟩
  | succ j ih =>
    intro M d5 hj hG hX hY hb hE
    obtain ⟨M1, d, a1, a2, a3, a4⟩ := Ma_pair_s he hf hv hvy hw hwy hlx hly hG hX hY hb hE hi hj d5
    obtain ⟨M2, d2, d3, b1, b2, b3, b4⟩ := ih M1 d (by omega) (hG.fj a4) (hX.fj a4 (by omega) (by omega)) (hY.fj a4 (by omega) (by omega)) (hb.fj a4 (by omega)) a2
    rw [a1, show ((j + 1 : Nat) : Int) - 1 = (j : Int) by omega, b1]
    exact ⟨M2, d2, d3, rfl, b2, b3, a4.trans b4⟩
theorem EBc.up {i : Nat} (h : EBc M xs ys (i + 1) 0) {j : Nat} (hj : ys.length ≤ j) : EBc M xs ys i j := fun a b ha hb q => h a b ha hb (by omega)
theorem Ma_rows_s (he : 20 < e) (hf : 20 < f) (hv : av xs) (hvy : av ys) (hw : wf 1 xs) (hwy : wf 1 ys) (hlx : xs.length ≤ 40) (hly : ys.length ≤ 40) : ∀ (i : Nat) (M : Mem) (d4 d5 : LV), i < xs.length → Good M → XE M e n xs → XE M f m ys → BHc M xs ys → EBc M xs ys (i + 1) 0 → ∃ M' d d', Ma_compare_106 12 e f (i : Int) d4 d5 M = Ma_compare_106 12 e f (-1) d d' M' ∧ EBc M' xs ys 0 0 ∧ mI M' 19 0 = b2i (cpl xs ys 0 0) ∧ Fj (fun a _ => a = 19 ∨ a = 20) M M' := by
  have hly2 := wf_len _ _ hwy
  intro i
  have one : ∀ (M : Mem) (d4 d5 : LV), i < xs.length → Good M → XE M e n xs → XE M f m ys → BHc M xs ys → EBc M xs ys (i + 1) 0 → ∃ M' d d', Ma_compare_106 12 e f (i : Int) d4 d5 M = Ma_compare_106 12 e f ((i : Int) - 1) d d' M' ∧ EBc M' xs ys i 0 ∧ mI M' 19 (40 * i) = b2i (cpl xs ys i 0) ∧ Fj (fun a _ => a = 19 ∨ a = 20) M M' := by
    intro M d4 d5 hi hG hX hY hb hE
    obtain ⟨M1, d, d', a1, a2, a3, a4⟩ := Ma_row_s he hf hv hvy hw hwy hlx hly hi (ys.length - 1) M d5 (by omega) hG hX hY hb (hE.up (by omega))
    rw [Ma_compare_106_eq, if_neg (by omega), hY.g hG, gd_t, hY.s, wr_id (x := (ys.length : Int) - 1) (by omega) (by omega), show (ys.length : Int) - 1 = ((ys.length - 1 : Nat) : Int) by omega, a1]
    exact ⟨M1, d, d', rfl, a2, a3, a4⟩
  induction i with
  | zero =>
    intro M d4 d5 hi hG hX hY hb hE
    obtain ⟨M1, d, d', a1, a2, a3, a4⟩ := one M d4 d5 hi hG hX hY hb hE
    exact ⟨M1, d, d', a1, a2, a3, a4⟩
  | succ i ih =>
    intro M d4 d5 hi hG hX hY hb hE
    obtain ⟨M1, d, d', a1, a2, a3, a4⟩ := one M d4 d5 hi hG hX hY hb hE
    have ih' := ih (fun M d4 d5 hi hG hX hY hb hE => by
      obtain ⟨M1, d, d', a1, a2, a3, a4⟩ := Ma_row_s he hf hv hvy hw hwy hlx hly hi (ys.length - 1) M d5 (by omega) hG hX hY hb (hE.up (by omega))
      rw [Ma_compare_106_eq, if_neg (by omega), hY.g hG, gd_t, hY.s, wr_id (x := (ys.length : Int) - 1) (by omega) (by omega), show (ys.length : Int) - 1 = ((ys.length - 1 : Nat) : Int) by omega, a1]
      exact ⟨M1, d, d', rfl, a2, a3, a4⟩)
    obtain ⟨M2, d2, d3, b1, b2, b3, b4⟩ := ih' M1 d d' (by omega) (hG.fj a4) (hX.fj a4 (by omega) (by omega)) (hY.fj a4 (by omega) (by omega)) (hb.fj a4 (by omega)) a2
    rw [a1, show ((i + 1 : Nat) : Int) - 1 = (i : Int) by omega, b1]
    exact ⟨M2, d2, d3, rfl, b2, b3, a4.trans b4⟩
theorem Ma_bh2 (hf : 20 < f) (hvy : av ys) (hly : ys.length ≤ 40) : ∀ (t j : Nat) (M : Mem) (d4 d5 : LV), ys.length - j = t → j ≤ ys.length → Good M → XE M e n xs → XE M f m ys → 20 < e → (∀ b, b < j → mI M 18 b = (beh ys b : Int)) → ∃ M', Ma_compare_74 12 e f (j : Int) d4 d5 M = Ma_compare_106 12 e f ((xs.length : Int) - 1) d4 d5 M' ∧ (∀ b, b < ys.length → mI M' 18 b = (beh ys b : Int)) ∧ Fj (fun a _ => a = 18) M M' := by
  intro t
  induction t with
  | zero =>
    intro j M d4 d5 e1 e2 hG hX hY he hb
    have hxl := hX.lt
    rw [Ma_compare_74_eq, hY.g hG, gd_t, hY.s, if_neg (by omega), hX.g hG, gd_t, hX.s, wr_id (by omega) (by omega)]
    exact ⟨M, rfl, fun b hb2 => hb b (by omega), Fj.refl⟩
  | succ t ih =>
    intro j M d4 d5 e1 e2 hG hX hY he hb
    have f1 : Fj (fun a _ => a = 18) M (stI M 18 j (beh ys j : Int)) := Fj.ofI rfl
    obtain ⟨M', a1, a2, a3⟩ := ih (j + 1) (stI M 18 j (beh ys j : Int)) d4 d5 (by omega) (by omega) (hG.fj f1) (hX.fj f1 (by omega) (by omega)) (hY.fj f1 (by omega) (by omega)) he (fun b hb2 => by
      by_cases q : b = j
      · subst q; exact mI_at
      · rw [mI_ne (by omega)]; exact hb b (by omega))
    rw [Ma_compare_74_eq, hY.g hG, gd_t, hY.s, if_pos (by omega), hG.gMa, gd_t, gd_t, Ex_behind_s hG hY hvy (by omega), cI_s, hG.r12_5, hG.tgS arr_18 (by omega) (by omega), gd_t, toNat_n, wr_s (by omega), a1]
    exact ⟨M', rfl, a2, f1.trans a3⟩
theorem Ma_bh1 (he : 20 < e) (hv : av xs) (hlx : xs.length ≤ 40) : ∀ (t i : Nat) (M : Mem) (d4 d5 : LV), xs.length - i = t → i ≤ xs.length → Good M → XE M e n xs → (∀ b, b < i → mI M 17 b = (beh xs b : Int)) → ∃ M', Ma_compare_47 12 e f (i : Int) d4 d5 M = Ma_compare_74 12 e f 0 d4 d5 M' ∧ (∀ b, b < xs.length → mI M' 17 b = (beh xs b : Int)) ∧ Fj (fun a _ => a = 17) M M' := by
  intro t
  induction t with
  | zero =>
    intro i M d4 d5 e1 e2 hG hX hb
    rw [Ma_compare_47_eq, hX.g hG, gd_t, hX.s, if_neg (by omega)]
    exact ⟨M, rfl, fun b hb2 => hb b (by omega), Fj.refl⟩
  | succ t ih =>
    intro i M d4 d5 e1 e2 hG hX hb
    have f1 : Fj (fun a _ => a = 17) M (stI M 17 i (beh xs i : Int)) := Fj.ofI rfl
    obtain ⟨M', a1, a2, a3⟩ := ih (i + 1) (stI M 17 i (beh xs i : Int)) d4 d5 (by omega) (by omega) (hG.fj f1) (hX.fj f1 (by omega) (by omega)) (fun b hb2 => by
      by_cases q : b = i
      · subst q; exact mI_at
      · rw [mI_ne (by omega)]; exact hb b (by omega))
    rw [Ma_compare_47_eq, hX.g hG, gd_t, hX.s, if_pos (by omega), hG.gMa, gd_t, gd_t, Ex_behind_s hG hX hv (by omega), cI_s, hG.r12_4, hG.tgS arr_17 (by omega) (by omega), gd_t, toNat_n, wr_s (by omega), a1]
    exact ⟨M', rfl, a2, f1.trans a3⟩
theorem Ma_compare_s (he : 20 < e) (hf : 20 < f) (hv : av xs) (hvy : av ys) (hw : wf 1 xs) (hwy : wf 1 ys) (hlx : xs.length ≤ 40) (hly : ys.length ≤ 40) (hG : Good M) (hX : XE M e n xs) (hY : XE M f m ys) : ∃ M', Ma_compare 12 e f M = some (none, M') ∧ (mI M' 12 8 = b2i (cpl xs ys 0 0) ∧ mI M' 12 9 = b2i (emb xs ys 0 0)) ∧ Fj cmS M M' := by
  have hl1 := wf_len _ _ hw
  have hl2 := wf_len _ _ hwy
  have f0 : Fj cmS M (stI (stI M 12 8 0) 12 9 0) := (Fj.ofI (by unfold cmS; omega)).trans (Fj.ofI (by unfold cmS; omega))
  have hG0 := hG.fj f0
  have hX0 := hX.fj f0 (by unfold cmS; omega) (by unfold cmS; omega)
  have hY0 := hY.fj f0 (by unfold cmS; omega) (by unfold cmS; omega)
  obtain ⟨M1, a1, a2, a3⟩ := Ma_bh1 (f := f) he hv hlx _ 0 (stI (stI M 12 8 0) 12 9 0) none none rfl (Nat.zero_le _) hG0 hX0 (fun b hb => absurd hb (Nat.not_lt_zero b))
  have hG1 := hG0.fj a3
  have hX1 := hX0.fj a3 (by omega) (by omega)
  have hY1 := hY0.fj a3 (by omega) (by omega)
  obtain ⟨M2, b1, b2, b3⟩ := Ma_bh2 hf hvy hly _ 0 M1 none none rfl (Nat.zero_le _) hG1 hX1 hY1 he (fun b hb => absurd hb (Nat.not_lt_zero b))
  have hG2 := hG1.fj b3
  have hX2 := hX1.fj b3 (by omega) (by omega)
  have hY2 := hY1.fj b3 (by omega) (by omega)
  have hB2 : BHc M2 xs ys := ⟨fun i hi => (b3.2.2 _ _ (by omega)).trans (a2 i hi), b2⟩
  obtain ⟨M3, d, d', c1, c2, c3, c4⟩ := Ma_rows_s he hf hv hvy hw hwy hlx hly (xs.length - 1) M2 none none (by omega) hG2 hX2 hY2 hB2 (fun a b ha hb h => by omega)
  have hG3 := hG2.fj c4
  have c5 := c2 0 0 (by omega) (by omega) (Or.inr ⟨rfl, Nat.zero_le _⟩)
  have c5 : mI M3 20 0 = b2i (emb xs ys 0 0) := c5
  have a1 : Ma_compare_47 12 e f 0 none none (stI (stI M 12 8 0) 12 9 0) = _ := a1
  have b1 : Ma_compare_74 12 e f 0 none none M1 = _ := b1
  have d01 : ∀ b : Bool, decide (b2i b = 0 ∨ b2i b = 1) = true := fun b => by cases b <;> decide
  have e20 : mI (stI M3 12 8 (b2i (cpl xs ys 0 0))) 20 0 = b2i (emb xs ys 0 0) := by rw [mI_ne (by omega)]; exact c5
  rw [Ma_compare_eq, hG.gMa, gd_t, gd_t, hX.g hG, gd_t, hX0.s, if_neg (by omega), hY.g hG, gd_t, hY0.s, if_neg (by omega), gd_t, if_neg (by omega), gd_t, if_neg (by omega), a1, b1, show (xs.length : Int) - 1 = ((xs.length - 1 : Nat) : Int) by omega, c1, Ma_compare_106_eq, if_pos (by decide), hG3.gMa, gd_t, hG3.r12_6, g12 (hG3.tgS arr_19 (i := 0) (by decide) (by decide)), gd_t, gd_t, c3, d01, gd_t, gd_t, hG3.r12_7, g12 (hG3.tgS arr_20 (i := 0) (by decide) (by decide)), gd_t, gd_t, e20, d01, gd_t]
  refine ⟨_, rfl, ⟨by rw [mI_ne (by omega), mI_at], mI_at⟩, ?_⟩
  exact (((f0.trans (a3.mono fun a k q => by unfold cmS; omega)).trans (b3.mono fun a k q => by unfold cmS; omega)).trans (c4.mono fun a k q => by unfold cmS; omega)).trans ((Fj.ofI (by unfold cmS; omega)).trans (Fj.ofI (by unfold cmS; omega)))
end COMP

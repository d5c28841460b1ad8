/-! ===== a STEP: the reference lays where the parts begin ===== -/
theorem agp_sts (xs : List Int) (p k : Nat) : agp xs p k = sts xs (p + 1) k := rfl
theorem sts_con {xs : List Int} {q m : Nat} (h : q < xs.length) : sts xs q (m + 1) = sts xs (q + 1) (m + arN (nth xs q)) := by
  unfold sts
  rw [drop_cons h, sk_cons]
  omega
/-- a call that a clause is for -/
def CLf (xs : List Int) (at0 : Nat) (z : Clz) : Prop := (at0 < xs.length ∧ nth xs at0 = z.1 ∧ ∃ b, wf (b + arN z.1) (xs.drop (at0 + 1))) ∧ (z.2.1 ≠ -1 → at0 + 1 < xs.length ∧ nth xs (at0 + 1) = z.2.1)
section MSTEP
variable {M : Mem} {z : Clz} {a n k : Nat} {xs : List Int}
theorem arr_1300 : arr 1300 0 12 := arr_of _ _ _ (by decide)
def s1300 : Nat → Nat → Prop := fun a _ => a = 1300
theorem M_layArguments_s (ha : a ≠ 1300 ∧ a ≠ 1269) (hk : k < 80) {m : Nat} (hz : zok m z) {at0 : Nat} (hf : CLf xs at0 z) (hG : Good M) (hX : RX M a n 0 xs) (hR : ROW M k z) : ∃ M', M_layArguments 1269 a (at0 : Int) (k : Int) M = some (none, M') ∧ (∀ j, j < z.2.2.1.length → mI M' 1300 j = (sts xs (st0 z at0) j : Nat)) ∧ Fj s1300 M M' := by
  obtain ⟨⟨f1, f2, b, f3⟩, f4⟩ := hf
  obtain ⟨⟨z1, z2⟩, z3, ⟨z4, z5, z6, z7⟩, -⟩ := hz
  have hxl : xs.length ≤ 20480 := by have := hX.2.2.1; have := hX.1.2; omega
  have hcc := cc_0 z3
  -- the parts of the call itself
  have l72 : ∀ (ic s : Nat), (z.2.1 = -1 → ic = 0 ∧ s = 0) → (z.2.1 ≠ -1 → ic = arN z.2.1 ∧ s = 1) → ic ≤ z.2.2.1.length → ∀ (t i : Nat) (M : Mem) (d : LV), z.2.2.1.length - i = t → i ≤ z.2.2.1.length → ic ≤ i → Good M → RX M a n 0 xs → ROW M k z → (∀ j, j < i → mI M 1300 j = (sts xs (st0 z at0) j : Nat)) → ∃ M', M_layArguments_72 1269 a (at0 : Int) (k : Int) (ic : Int) (s : Int) (i : Int) d M = some (none, M') ∧ (∀ j, j < z.2.2.1.length → mI M' 1300 j = (sts xs (st0 z at0) j : Nat)) ∧ Fj s1300 M M' := by
    intro ic s h1 h2 h3 t
    induction t with
    | zero =>
      intro i M d e1 e2 e3 hG hX hR hS
      have : i = z.2.2.1.length := by omega
      subst this
      rw [M_layArguments_72_eq, hG.gM, gd_t, hG.m13, hG.tgS arr_1276 (by omega) (by omega), gd_t, toNat_n, hR.1.2.2, if_neg (by omega)]
      exact ⟨M, rfl, hS, Fj.refl⟩
    | succ t ih =>
      intro i M d e1 e2 e3 hG hX hR hS
      have hks : i - ic + s ≤ arN z.1 := by
        by_cases q : z.2.1 = -1
        · have := h1 q; have := z6 q; omega
        · have := h2 q; have := z7 q; omega
      have hw : wf (i - ic + s + (arN z.1 - (i - ic + s) + b)) (xs.drop (at0 + 1)) := by
        rw [show i - ic + s + (arN z.1 - (i - ic + s) + b) = b + arN z.1 by omega]; exact f3
      have e4 := M_argument_s hG hX (p := at0) (k := i - ic + s) hw f1
      rw [Nat.zero_add, Nat.zero_add] at e4
      have eq : agp xs at0 (i - ic + s) = sts xs (st0 z at0) i := by
        rw [agp_sts]
        unfold st0
        by_cases q : z.2.1 = -1
        · obtain ⟨q1, q2⟩ := h1 q
          rw [if_pos q, q1, q2]
          rfl
        · obtain ⟨q1, q2⟩ := h2 q
          obtain ⟨q3, q4⟩ := f4 q
          rw [if_neg q, q2, sts_con q3, q4, ← q1, show i - ic + ic = i by omega]
      rw [eq] at e4
      have g1 : Fj s1300 M (stI M 1300 i (sts xs (st0 z at0) i : Nat)) := Fj.ofI rfl
      obtain ⟨M', a1, a2, a3⟩ := ih (i + 1) (stI M 1300 i (sts xs (st0 z at0) i : Nat)) d (by omega) (by omega) (by omega) (hG.fj g1) (hX.fj g1 (by unfold s1300; omega)) (hR.fj g1 (by unfold s1300; omega)) (fun j hj => by
        by_cases q : j = i
        · subst q; exact mI_at
        · rw [mI_ne (by omega)]; exact hS j (by omega))
      rw [M_layArguments_72_eq, hG.gM, gd_t, hG.m13, hG.tgS arr_1276 (by omega) (by omega), gd_t, toNat_n, hR.1.2.2, if_pos (by omega), gd_t, wr_id (x := (i : Int) - (ic : Int)) (by omega) (by omega), wr_id (x := (i : Int) - (ic : Int) + (s : Int)) (by have := arN_lt z.1; omega) (by have := arN_lt z.1; omega), show (i : Int) - (ic : Int) + (s : Int) = ((i - ic + s : Nat) : Int) by omega, e4, cI_s, hG.m50, hG.tgS arr_1300 (by omega) (by omega), gd_t, toNat_n, wr_s (by omega)]
      exact ⟨M', a1, a2, g1.trans a3⟩
  -- the parts of the con
  have l27 : ∀ (ic : Nat), (z.2.1 = -1 → ic = 0) → (z.2.1 ≠ -1 → ic = arN z.2.1) → ∀ (t i : Nat) (M : Mem) (d : LV), ic - i = t → i ≤ ic → Good M → RX M a n 0 xs → ROW M k z → (∀ j, j < i → mI M 1300 j = (sts xs (st0 z at0) j : Nat)) → ∃ M', M_layArguments_27 1269 a (at0 : Int) (k : Int) (cc z.2.1) (ic : Int) (i : Int) d M = some (none, M') ∧ (∀ j, j < z.2.2.1.length → mI M' 1300 j = (sts xs (st0 z at0) j : Nat)) ∧ Fj s1300 M M' := by
    intro ic h1 h2 t
    have hicl : ic ≤ z.2.2.1.length := by
      by_cases q : z.2.1 = -1
      · have := h1 q; omega
      · have := h2 q; have := z7 q; omega
    induction t with
    | zero =>
      intro i M d e1 e2 hG hX hR hS
      have : i = ic := by omega
      subst this
      rw [M_layArguments_27_eq, if_neg (by omega)]
      by_cases q : z.2.1 = -1
      · obtain ⟨M', a1, a2, a3⟩ := l72 i 0 (fun q => ⟨h1 q, rfl⟩) (fun q2 => absurd q q2) hicl _ i M (some (.inl (cc z.2.1))) rfl hicl (Nat.le_refl _) hG hX hR hS
        rw [if_pos (hcc.mpr q)]
        exact ⟨M', a1, a2, a3⟩
      · obtain ⟨M', a1, a2, a3⟩ := l72 i 1 (fun q2 => absurd q2 q) (fun q => ⟨h2 q, rfl⟩) hicl _ i M (some (.inl (cc z.2.1))) rfl hicl (Nat.le_refl _) hG hX hR hS
        rw [if_neg (fun e => q (hcc.mp e))]
        exact ⟨M', a1, a2, a3⟩
    | succ t ih =>
      intro i M d e1 e2 hG hX hR hS
      have q : z.2.1 ≠ -1 := fun q => by have := h1 q; omega
      have hic := h2 q
      obtain ⟨q3, q4⟩ := f4 q
      obtain ⟨q5, q6⟩ := z7 q
      have hw1 : ∃ v, wf (v + arN z.2.1) (xs.drop (at0 + 2)) := by
        have h := f3
        rw [drop_cons q3, q4] at h
        obtain ⟨v, -, h⟩ := wf_pos h
        exact ⟨v, h⟩
      obtain ⟨v, hw1⟩ := hw1
      have hw : wf (i + (arN z.2.1 - i + v)) (xs.drop (at0 + 1 + 1)) := by
        rw [show i + (arN z.2.1 - i + v) = v + arN z.2.1 by omega]; exact hw1
      have e4 := M_argument_s hG hX (p := at0 + 1) (k := i) hw q3
      rw [Nat.zero_add, Nat.zero_add] at e4
      have eq : agp xs (at0 + 1) i = sts xs (st0 z at0) i := by
        rw [agp_sts]
        unfold st0
        rw [if_neg q]
      rw [eq] at e4
      have g1 : Fj s1300 M (stI M 1300 i (sts xs (st0 z at0) i : Nat)) := Fj.ofI rfl
      obtain ⟨M', a1, a2, a3⟩ := ih (i + 1) (stI M 1300 i (sts xs (st0 z at0) i : Nat)) d (by omega) (by omega) (hG.fj g1) (hX.fj g1 (by unfold s1300; omega)) (hR.fj g1 (by unfold s1300; omega)) (fun j hj => by
        by_cases q : j = i
        · subst q; exact mI_at
        · rw [mI_ne (by omega)]; exact hS j (by omega))
      have h8 := arN_lt z.2.1
      rw [M_layArguments_27_eq, if_pos (by omega), hG.gM, gd_t, wr_s (i := at0) (by omega), e4, cI_s, hG.m50, hG.tgS arr_1300 (by omega) (by omega), gd_t, toNat_n, wr_s (by omega)]
      exact ⟨M', a1, a2, g1.trans a3⟩
  rw [M_layArguments_eq, hG.gM, gd_t, hG.m12, hG.tgS arr_1275 (by omega) (by omega), gd_t, toNat_n, hR.1.2.1]
  by_cases q : z.2.1 = -1
  · rw [if_pos (hcc.mpr q)]
    exact l27 0 (fun _ => rfl) (fun q2 => absurd q q2) _ 0 M none rfl (Nat.zero_le _) hG hX hR (fun j hj => absurd hj (Nat.not_lt_zero j))
  · obtain ⟨c1, c2⟩ := z3.resolve_left q
    have e5 : M_manyOf (cc z.2.1) M = some (some (.inl (arN z.2.1 : Int)), M) := by rw [show cc z.2.1 = cm z.2.1 from if_neg q, M_manyOf_s c1, arN_ar]
    rw [if_neg (fun e => q (hcc.mp e)), e5, cI_s]
    exact l27 (arN z.2.1) (fun q2 => absurd q2 q) (fun _ => rfl) _ 0 M none rfl (Nat.zero_le _) hG hX hR (fun j hj => absurd hj (Nat.not_lt_zero j))
theorem M_leftOf_s (hG : Good M) (hk : k < 80) {m : Nat} (hz : zok m z) (hR : ROW M k z) {v : Int} (hv : v ∈ z.2.2.1) : M_leftOf 1269 (k : Int) (nmo v) M = some (some (.inl (ix z.2.2.1 v)), M) := by
  obtain ⟨-, -, ⟨z4, z5, -⟩, -⟩ := hz
  have hvr := z4 v hv
  have key : ∀ (t i : Nat), z.2.2.1.length - i = t → v ∈ z.2.2.1.drop i → M_leftOf_2 1269 (k : Int) (nmo v) (i : Int) M = some (some (.inl (ixo v (z.2.2.1.drop i) i)), M) := by
    intro t
    induction t with
    | zero =>
      intro i e1 e2
      rw [List.drop_eq_nil_of_le (by omega)] at e2
      cases e2
    | succ t ih =>
      intro i e1 e2
      have hi : i < z.2.2.1.length := by omega
      have hn := lvs_n z4 hi
      rw [drop_cons hi] at e2
      rw [M_leftOf_2_eq, hG.gM, gd_t, hG.m14, wr_id (x := 12 * (k : Int)) (by omega) (by omega), wr_id (x := 12 * (k : Int) + (i : Int)) (by omega) (by omega), show 12 * (k : Int) + (i : Int) = ((12 * k + i : Nat) : Int) by omega, hG.tgS arr_1277 (by omega) (by omega), gd_t, toNat_n, hR.2.1 i hi, drop_cons hi, wr_s (by omega)]
      unfold ixo
      by_cases q : nth z.2.2.1 i = v
      · rw [if_pos (by rw [q]), if_pos q]
      · rw [if_neg (fun e => q ((nmo_var (vc_var (by omega)) (vc_var (by omega)) (kd_var (by omega)).1 (kd_var (by omega)).1).mp e)), if_neg q]
        exact ih (i + 1) (by omega) ((List.mem_cons.mp e2).resolve_left (fun e => q e.symm))
  rw [M_leftOf_eq]
  exact key _ 0 rfl (by rw [List.drop_zero]; exact hv)
end MSTEP

/-! ===== what changes the class's expressions ===== -/
theorem mI_at {M : Mem} {a k : Nat} {v : Int} : mI (stI M a k v) a k = v := if_pos ⟨rfl, rfl⟩
theorem mI_ne {M : Mem} {a k b j : Nat} {v : Int} (h : ¬ (b = a ∧ j = k)) : mI (stI M a k v) b j = mI M b j := if_neg h
theorem mI_cp {M : Mem} {s sp d dp n j : Nat} (h : dp ≤ j ∧ j < dp + n) : mI (cpI M s sp d dp n) d j = mI M s (sp + (j - dp)) := if_pos ⟨rfl, h⟩
theorem mI_cpn {M : Mem} {s sp d dp n b j : Nat} (h : ¬ (b = d ∧ dp ≤ j ∧ j < dp + n)) : mI (cpI M s sp d dp n) b j = mI M b j := if_neg h
theorem kd_var {c : Int} (h : 0 ≤ c ∧ c < 65536) : kd c = 0 ∧ ar c = 0 ∧ sy c = c := by unfold kd ar sy; omega
theorem vc_var {c : Int} (h : 0 ≤ c ∧ c < 65536) : vc c := by
  obtain ⟨h1, h2, h3⟩ := kd_var h
  unfold vc
  rw [h1, h2, h3]
  omega
section MUT
variable {M : Mem} {e n : Nat} {xs : List Int}
theorem Ex_clear_s (hG : Good M) (h : XE M e n xs) : ∃ M', Ex_clear e M = some (none, M') ∧ XE M' e n [] ∧ Fi (eS e) M M' := by
  refine ⟨stI M e 1 0, by rw [Ex_clear_eq, h.g hG, gd_t], ⟨h.1, ⟨mI_at, fun i hi => absurd hi (Nat.not_lt_zero i)⟩, Nat.zero_le _⟩, Fi.ofI (Or.inl rfl)⟩
theorem Ex_add_s (hG : Good M) (h : XE M e n xs) (c : Int) (hl : xs.length < n) : ∃ M', Ex_add e c M = some (none, M') ∧ XE M' e n (xs ++ [c]) ∧ Fi (eS e) M M' := by
  have h1 := h.lt
  refine ⟨stI (stI M (e + 1) xs.length c) e 1 ((xs.length + 1 : Nat) : Int), ?_, ⟨h.1, ⟨?_, ?_⟩, by rw [List.length_append]; exact hl⟩, (Fi.ofI (Or.inr rfl)).trans (Fi.ofI (Or.inl rfl))⟩
  · have g := h.g hG
    rw [Ex_add_eq]
    simp only [g, h.r hG, h.s, gd_t]
    rw [hG.tgL h.1.2.1 (by decide), gd_t, hG.len h.1.2.1, if_pos (by omega), hG.tgS h.1.2.1 (by omega) (by omega), gd_t, toNat_n, mI_ne (by omega), h.s, wr_s (by omega)]
  · rw [mI_at, List.length_append]; rfl
  · intro i hi
    rw [List.length_append] at hi
    rw [mI_ne (by omega)]
    by_cases q : i = xs.length
    · subst q
      rw [mI_at, nth_app2 (Nat.le_refl _), Nat.sub_self]
      rfl
    · have hi2 : i < xs.length := by have : i < xs.length + 1 := hi; omega
      rw [mI_ne (by omega), nth_app1 hi2]
      exact h.2.1.2 i hi2
theorem Ex_addPart_s (hG : Good M) (h : XE M e n xs) {f m : Nat} {ys : List Int} (k : XE M f m ys) (hne : f ≠ e) (hne2 : f + 1 ≠ e) (hne3 : f ≠ e + 1) {a b : Nat} (hab : a ≤ b) (hb : b ≤ ys.length) (hl : xs.length + (b - a) ≤ n) : ∃ M', Ex_addPart e f (a : Int) (b : Int) M = some (none, M') ∧ XE M' e n (xs ++ (ys.drop a).take (b - a)) ∧ Fi (eS e) M M' := by
  have h1 := h.lt
  have h2 := k.lt
  have hn := h.1.2.2
  have hlen : ((ys.drop a).take (b - a)).length = b - a := by rw [List.length_take, List.length_drop]; omega
  refine ⟨stI (cpI M (f + 1) a (e + 1) xs.length (b - a)) e 1 ((xs.length + (b - a) : Nat) : Int), ?_, ⟨h.1, ⟨?_, ?_⟩, by rw [List.length_append, hlen]; exact hl⟩, (Fi.ofC (Or.inr rfl)).trans (Fi.ofI (Or.inl rfl))⟩
  · rw [Ex_addPart_eq, if_neg (by omega), wr_id (x := (b : Int) - (a : Int)) (by omega) (by omega), if_neg (by omega), k.g hG, gd_t, k.s, if_neg (by omega)]
    simp only [h.g hG, h.r hG, h.s, k.r hG, gd_t]
    rw [hG.tgL h.1.2.1 (by decide), gd_t, hG.len h.1.2.1, wr_id (x := (n : Int) - (xs.length : Int)) (by omega) (by omega), if_neg (by omega), hG.tgC k.1.2.1 h.1.2.1 (by omega) (by omega) (by omega) (by have := k.2.2; omega) (by omega), gd_t, mI_cpn (by omega), h.s, wr_id (by omega) (by omega), toNat_n, toNat_n, show Int.toNat ((b : Int) - (a : Int)) = b - a by omega, show (xs.length : Int) + ((b : Int) - (a : Int)) = ((xs.length + (b - a) : Nat) : Int) by omega]
  · rw [mI_at, List.length_append, hlen]
  · intro i hi
    rw [List.length_append, hlen] at hi
    rw [mI_ne (by omega)]
    by_cases q : i < xs.length
    · rw [mI_cpn (by omega), nth_app1 q]
      exact h.2.1.2 i q
    · rw [mI_cp (by omega), nth_app2 (by omega), nth_take (by omega), nth_drop]
      exact k.2.1.2 _ (by omega)
theorem Ex_addAll_s (hG : Good M) (h : XE M e n xs) {f m : Nat} {ys : List Int} (k : XE M f m ys) (hne : f ≠ e) (hne2 : f + 1 ≠ e) (hne3 : f ≠ e + 1) (hl : xs.length + ys.length ≤ n) : ∃ M', Ex_addAll e f M = some (none, M') ∧ XE M' e n (xs ++ ys) ∧ Fi (eS e) M M' := by
  obtain ⟨M', h1, h2, h3⟩ := Ex_addPart_s hG h k hne hne2 hne3 (Nat.zero_le _) (Nat.le_refl _) (by omega)
  refine ⟨M', ?_, ?_, h3⟩
  · rw [Ex_addAll_eq, k.g hG, gd_t, h.g hG, gd_t, k.s]
    rw [show ((0 : Nat) : Int) = 0 from rfl] at h1
    rw [h1, cV_s]
  · rw [List.drop_zero, Nat.sub_zero, List.take_length] at h2
    exact h2
theorem Ex_become_s (hG : Good M) (h : XE M e n xs) {f m : Nat} {ys : List Int} (k : XE M f m ys) (hne : f ≠ e) (hne2 : f + 1 ≠ e) (hne3 : f ≠ e + 1) (hl : ys.length ≤ n) : ∃ M', Ex_become e f M = some (none, M') ∧ XE M' e n ys ∧ Fi (eS e) M M' := by
  have h2 := k.lt
  have hn := h.1.2.2
  refine ⟨cpI (stI M e 1 (ys.length : Int)) (f + 1) 0 (e + 1) 0 ys.length, ?_, ⟨h.1, ⟨?_, ?_⟩, hl⟩, (Fi.ofI (Or.inl rfl)).trans (Fi.ofC (Or.inr rfl))⟩
  · rw [Ex_become_eq]
    simp only [h.g hG, k.g hG, h.r hG, k.r hG, k.s, gd_t]
    rw [hG.tgL h.1.2.1 (by decide), gd_t, hG.len h.1.2.1, if_neg (by omega), mI_at, hG.tgC k.1.2.1 h.1.2.1 (by omega) (by omega) (by omega) (by have := k.2.2; omega) (by omega), gd_t, toNat_n]
  · rw [mI_cpn (by omega), mI_at]
  · intro i hi
    rw [mI_cp (by omega), mI_ne (by omega), Nat.sub_zero, Nat.zero_add]
    exact k.2.1.2 i hi
theorem Ex_setArity_s (hG : Good M) (h : XE M e n xs) {i : Nat} {a : Int} (hi : i < xs.length) (hv : vc (nth xs i)) (ha : 0 ≤ a ∧ a < 16) : ∃ M', Ex_setArity e (i : Int) a M = some (none, M') ∧ XE M' e n (xs.set i (kd (nth xs i) * 16777216 + a * 65536 + sy (nth xs i))) ∧ Fi (eS e) M M' := by
  refine ⟨stI M (e + 1) i (kd (nth xs i) * 16777216 + a * 65536 + sy (nth xs i)), ?_, ⟨h.1, ⟨?_, ?_⟩, by rw [List.length_set]; exact h.2.2⟩, Fi.ofI (Or.inr rfl)⟩
  · rw [Ex_setArity_eq, if_neg (by omega)]
    simp only [h.g hG, h.r hG, h.s, gd_t]
    rw [if_pos (by omega), h.gs hG hi, gd_t, toNat_n, h.2.1.2 i hi, Ex_kind_s hv.inR, cI_s]
    simp only [h.g hG, h.r hG, h.gs hG hi, h.2.1.2 i hi, gd_t]
    rw [Ex_symbol_s, cI_s, Ex_cell_s (kd_nn _) ha (sy_nn _), cI_s, h.gs hG hi, gd_t]
  · rw [mI_ne (by omega), List.length_set]; exact h.2.1.1
  · intro j hj
    rw [List.length_set] at hj
    rw [nth_set hi]
    by_cases q : j = i
    · subst q; rw [mI_at, if_pos rfl]
    · rw [mI_ne (by omega), if_neg q]; exact h.2.1.2 j hj
theorem Ex_addRenamed_s (hG : Good M) (h : XE M e n xs) {f m : Nat} {ys : List Int} (k : XE M f m ys) (hy : av ys) (hne : f ≠ e) (hne2 : f + 1 ≠ e) (hne3 : f ≠ e + 1) {r rm : Nat} (hr : arr r 0 rm) (hrm : rm ≤ 100000) {vs : List Int} (hR : RW M r 0 vs) (hvs : vs.length ≤ rm) (hr1 : r ≠ e) (hr2 : r ≠ e + 1) (hl : xs.length + ys.length ≤ n) : ∃ M', Ex_addRenamed e f r (vs.length : Int) M = some (none, M') ∧ XE M' e n (xs ++ ys.map (rnm vs)) ∧ Fi (eS e) M M' := by
  have hl2 := k.lt
  have key : ∀ (j i : Nat) (M1 : Mem) (zs : List Int) (d5 d6 : LV), ys.length - i = j → i ≤ ys.length → zs.length + (ys.length - i) ≤ n → XE M1 e n zs → Fi (eS e) M M1 → ∃ M', Ex_addRenamed_3 e f r (vs.length : Int) (i : Int) d5 d6 M1 = some (none, M') ∧ XE M' e n (zs ++ (ys.drop i).map (rnm vs)) ∧ Fi (eS e) M M' := by
    intro j
    induction j with
    | zero =>
      intro i M1 zs d5 d6 h1 h2 h3 hz hF
      have k1 : XE M1 f m ys := ⟨k.1, k.2.1.fi hF (by unfold eS; omega) (by unfold eS; omega), k.2.2⟩
      refine ⟨M1, ?_, ?_, hF⟩
      · rw [Ex_addRenamed_3_eq, k1.g (hG.fi hF), gd_t, k1.s, if_neg (by omega)]
      · rw [List.drop_eq_nil_of_le (by omega), List.map_nil, List.append_nil]; exact hz
    | succ j ih =>
      intro i M1 zs d5 d6 h1 h2 h3 hz hF
      have k1 : XE M1 f m ys := ⟨k.1, k.2.1.fi hF (by unfold eS; omega) (by unfold eS; omega), k.2.2⟩
      have hG1 := hG.fi hF
      have hlt : i < ys.length := by omega
      have hc := av_nth hy hlt
      have hvr := ix_rng vs (nth ys i)
      obtain ⟨M2, a1, a2, a3⟩ := Ex_add_s hG1 hz (rnm vs (nth ys i)) (by omega)
      obtain ⟨M3, b1, b2, b3⟩ := ih (i + 1) M2 (zs ++ [rnm vs (nth ys i)]) (some (.inl (nth ys i))) (some (.inl (if kd (nth ys i) = 0 then ix vs (nth ys i) else -1))) (by omega) (by omega) (by rw [List.length_append, List.length_singleton]; omega) a2 (hF.trans a3)
      refine ⟨M3, ?_, ?_, b3⟩
      · have h39 : ∀ q : Int, q = (if kd (nth ys i) = 0 then ix vs (nth ys i) else -1) → Ex_addRenamed_39 e f r (vs.length : Int) (i : Int) (nth ys i) q d6 M1 = some (none, M3) := by
          intro q hq
          rw [Ex_addRenamed_39_eq]
          have hq2 : q = -1 → rnm vs (nth ys i) = nth ys i := by
            intro e1
            unfold rnm
            rw [if_neg]
            intro h5
            rw [if_pos h5.1] at hq
            exact h5.2 (hq.symm.trans e1)
          have hq3 : q ≠ -1 → rnm vs (nth ys i) = 1 + q := by
            intro e1
            by_cases h5 : kd (nth ys i) = 0
            · rw [if_pos h5] at hq
              unfold rnm
              rw [if_pos ⟨h5, hq ▸ e1⟩, hq]
            · rw [if_neg h5] at hq
              exact absurd hq e1
          have hq4 : -1 ≤ q ∧ q < 100001 := by
            by_cases h5 : kd (nth ys i) = 0
            · rw [if_pos h5] at hq; omega
            · rw [if_neg h5] at hq; omega
          rw [← hq] at b1
          by_cases e1 : q = -1
          · rw [if_pos e1, hz.g hG1, gd_t]
            rw [hq2 e1] at a1
            rw [a1, cV_s, wr_s (by omega)]
            exact b1
          · rw [if_neg e1, hz.g hG1, gd_t]
            rw [hq3 e1] at a1
            rw [wr_id (x := 1 + q) (by omega) (by omega), a1, cV_s, wr_s (by omega)]
            exact b1
        rw [Ex_addRenamed_3_eq, k1.g hG1, gd_t, k1.s, if_pos (by omega), gd_t, Ex_cellAt_s hG1 k1, cI_s, cA_n hlt, Ex_kind_s hc.inR, cI_s]
        by_cases h4 : kd (nth ys i) = 0
        · rw [if_pos h4, Ex_indexOf_s hG1 hr (hR.fi hF (by unfold eS; omega)) hvs hrm, cI_s]
          exact h39 _ (by rw [if_pos h4])
        · rw [if_neg h4]
          exact h39 _ (by rw [if_neg h4])
      · rw [drop_cons hlt, List.map_cons]
        rw [List.append_assoc] at b2
        exact b2
  rw [Ex_addRenamed_eq]
  have := key ys.length 0 M xs none none rfl (Nat.zero_le _) (by omega) h Fi.refl
  rw [List.drop_zero] at this
  exact this
end MUT

/-! ===== VARS of a clause's right side stand on its left side ===== -/
section MKIN
variable {zs : List Clz} {X C : Nat → List Int} {F : FT} {x j : Nat}
theorem spl_mem {xs : List Int} {b con v : Int} {fr : Nat} (h : v ∈ spl xs b con fr) : v = con ∨ v ∈ vsq fr (arN con) ∨ (v ∈ xs ∧ v ≠ b) := by
  obtain ⟨c, h1, h2⟩ := List.mem_flatMap.mp h
  by_cases q : c = b
  · rw [if_pos q] at h2
    rcases List.mem_cons.mp h2 with e | e
    · exact Or.inl e
    · exact Or.inr (Or.inl e)
  · rw [if_neg q] at h2
    rw [List.mem_singleton.mp h2]
    exact Or.inr (Or.inr ⟨h1, q⟩)
/-- what is told of a node that was SPLIT, and of those below it -/
theorem split_kid (hzs : zsk 100 zs) (hok : okP zs) (hzl : zs.length ≤ 40) (hN : NS zs X F x) (h4 : F x 4 = 3) (hj : j < nkc F x) : (F x 10 ∈ X x ∧ kd (F x 10) = 0) ∧ ∃ z ∈ zs, (z.1 = nth (X x) (fnx zs (X x) 0).2.1 ∧ F (nfk F x + j) 11 = z.2.1 ∧ z.2.1 ≠ -1 ∧ vc z.2.1 ∧ kd z.2.1 = 1 ∧ arN z.2.1 ≤ 4) ∧ ∃ fr : Nat, F (nfk F x + j) 12 = (fr : Int) ∧ fr + 200 < 65536 ∧ X (nfk F x + j) = stx z (spl (X x) (F x 10) z.2.1 fr) (fnx zs (X x) 0).2.1 := by
  unfold NS at hN
  rcases hN with h | h | h | ⟨-, ⟨h2, h3, h10⟩, fr0, h5, h6⟩ | h | h | h
  · omega
  · omega
  · omega
  · have hbc := blk_con hok h3
    obtain ⟨⟨-, g1⟩, g2, -, -⟩ := fnx_blk (zs := zs) (xs := X x) _ 0 rfl (Nat.zero_le _) (by rw [List.drop_zero]; exact h3)
    rw [List.drop_zero] at g1 g2
    have hcon4 : ∀ z ∈ zs, z.1 = nth (X x) (fnx zs (X x) 0).2.1 → arN z.2.1 ≤ 4 := fun z hz hf => by
      obtain ⟨c1, c2⟩ := (hzs z hz).2.1.resolve_left (hbc z hz hf)
      have := (c1.2.2.1 c2).1
      have := arN_ar z.2.1
      omega
    have hn := h6.nkc
    have hjl : j < (spk (nth (X x) (fnx zs (X x) 0).2.1) (nth (X x) ((fnx zs (X x) 0).2.1 + 1)) (X x) (fnx zs (X x) 0).2.1 zs fr0).length := by omega
    have hg := List.getElem?_eq_getElem hjl
    have hmem := List.getElem_mem hjl
    obtain ⟨k1, k2, k3⟩ := h6.2 j _ hg
    obtain ⟨z, z1, z2, z3, fr, z4, z5, z6⟩ := spk_in zs fr0 hcon4 _ hmem
    obtain ⟨c1, c2⟩ := (hzs z z1).2.1.resolve_left (hbc z z1 z2)
    refine ⟨by rw [h10]; exact ⟨nth_mem g1, g2⟩, z, z1, ⟨z2, k2.trans z3, hbc z z1 z2, c1, c2, hcon4 z z1 z2⟩, fr, k3.trans z5, by omega, by rw [k1, z6, h10]⟩
  · omega
  · omega
  · omega
theorem mka_in (hzs : zsk 100 zs) (hok : okP zs) (hzl : zs.length ≤ 40) (hv : av (X x)) (hN : NS zs X F x) (h9 : F x 4 = 2 ∨ F x 4 = 3) (hj : j < nkc F x) (hC : VIN (C (nfk F x + j)) (X (nfk F x + j))) : ∀ v ∈ C (nfk F x + j), kd v = 0 → v ∈ mka X F x (nfk F x + j) := by
  intro v hvm hk
  have hv2 := hC v hvm hk
  unfold mka
  by_cases q : F x 4 = 3
  · obtain ⟨⟨b1, b2⟩, z, z1, ⟨z2, z3, z4, z5, z6, z7⟩, fr, y1, y2, y3⟩ := split_kid hzs hok hzl hN q hj
    rw [if_pos q, y1, z3, toNat_n]
    unfold lfs
    rw [y3] at hv2
    have := stx_vin (hzs z z1) v hv2 hk
    rcases spl_mem this with e | e | ⟨e1, e2⟩
    · rw [e, z6] at hk; omega
    · exact List.mem_append_left _ e
    · refine List.mem_append_right _ (List.mem_filter.mpr ⟨ord_mem.mpr ⟨e1, hk⟩, by rw [decide_eq_true_eq]; exact e2⟩)
  · have q2 : F x 4 = 2 := h9.resolve_right q
    rw [if_neg q]
    unfold NS at hN
    rcases hN with h | h | ⟨-, ⟨h1, h2, h3⟩, h4⟩ | h | h | h | h
    · omega
    · omega
    · have hn := h4.nkc
      have hj0 : j = 0 := by rw [List.length_singleton] at hn; omega
      subst hj0
      obtain ⟨k1, -, -⟩ := h4.2 0 _ rfl
      obtain ⟨z, y1, -, -⟩ := fnx_clf (zs := zs) (xs := X x) _ 0 rfl (Nat.zero_le _) (by rw [List.drop_zero]; exact h2)
      rw [List.drop_zero] at y1
      have ez : zs.getD (fnx zs (X x) 0).2.2 (0, -1, [], []) = z := by rw [List.getD_eq_getElem?_getD, y1]; rfl
      rw [k1] at hv2
      have hv3 : v ∈ stx (zs.getD (fnx zs (X x) 0).2.2 (0, -1, [], [])) (X x) (fnx zs (X x) 0).2.1 := hv2
      rw [ez] at hv3
      have := stx_vin (hzs z (List.mem_of_getElem? y1)) v hv3 hk
      rw [h3]
      unfold sid
      rw [if_pos rfl, List.nil_append, oth_all hv]
      exact ord_mem.mpr ⟨this, hk⟩
    · omega
    · omega
    · omega
    · omega
end MKIN

/-! ===== VARS by their ORDER ===== -/
theorem ordo_app : ∀ (as bs acc : List Int), ordo (as ++ bs) acc = ordo bs (ordo as acc) := by
  intro as
  induction as with
  | nil => intro bs acc; rfl
  | cons c cs ih =>
    intro bs acc
    rw [List.cons_append]
    show (if kd c = 0 ∧ c ∉ acc then ordo (cs ++ bs) (acc ++ [c]) else ordo (cs ++ bs) acc) = ordo bs (if kd c = 0 ∧ c ∉ acc then ordo cs (acc ++ [c]) else ordo cs acc)
    split
    · exact ih _ _
    · exact ih _ _
theorem ordo_mem : ∀ (as acc : List Int) (v : Int), v ∈ ordo as acc ↔ v ∈ acc ∨ (v ∈ as ∧ kd v = 0) := by
  intro as
  induction as with
  | nil => intro acc v; simp [ordo]
  | cons c cs ih =>
    intro acc v
    unfold ordo
    split
    · rename_i h
      rw [ih, List.mem_append, List.mem_singleton, List.mem_cons]
      constructor
      · rintro ((h1 | h1) | h1)
        · exact Or.inl h1
        · exact Or.inr ⟨Or.inl h1, h1 ▸ h.1⟩
        · exact Or.inr ⟨Or.inr h1.1, h1.2⟩
      · rintro (h1 | ⟨h1 | h1, h2⟩)
        · exact Or.inl (Or.inl h1)
        · exact Or.inl (Or.inr h1)
        · exact Or.inr ⟨h1, h2⟩
    · rename_i h
      rw [ih, List.mem_cons]
      constructor
      · rintro (h1 | h1)
        · exact Or.inl h1
        · exact Or.inr ⟨Or.inr h1.1, h1.2⟩
      · rintro (h1 | ⟨h1 | h1, h2⟩)
        · exact Or.inl h1
        · subst h1
          by_cases h3 : v ∈ acc
          · exact Or.inl h3
          · exact absurd ⟨h2, h3⟩ h
        · exact Or.inr ⟨h1, h2⟩
theorem ord_mem {xs : List Int} {v : Int} : v ∈ ord xs ↔ v ∈ xs ∧ kd v = 0 := by
  unfold ord
  rw [ordo_mem]
  simp
theorem ordo_len : ∀ (as acc : List Int), acc.length ≤ (ordo as acc).length ∧ (ordo as acc).length ≤ acc.length + as.length := by
  intro as
  induction as with
  | nil => intro acc; exact ⟨Nat.le_refl _, Nat.le_refl _⟩
  | cons c cs ih =>
    intro acc
    unfold ordo
    rw [List.length_cons]
    split
    · have := ih (acc ++ [c])
      rw [List.length_append, List.length_singleton] at this
      omega
    · have := ih acc
      omega
theorem ord_len (xs : List Int) : (ord xs).length ≤ xs.length := by have := (ordo_len xs []).2; rw [List.length_nil, Nat.zero_add] at this; exact this
theorem ordo_nodup : ∀ (as acc : List Int), acc.Nodup → (ordo as acc).Nodup := by
  intro as
  induction as with
  | nil => intro acc h; exact h
  | cons c cs ih =>
    intro acc h
    unfold ordo
    split
    · rename_i h1
      refine ih _ (List.nodup_append.mpr ⟨h, by simp, fun a ha b hb e => ?_⟩)
      rw [List.mem_singleton] at hb
      exact h1.2 (hb ▸ e ▸ ha)
    · exact ih _ h
theorem ord_nodup (xs : List Int) : (ord xs).Nodup := ordo_nodup xs [] List.nodup_nil
theorem ord_take {xs : List Int} {i : Nat} (h : i < xs.length) : ord (xs.take (i + 1)) = if kd (nth xs i) = 0 ∧ nth xs i ∉ xs.take i then ord (xs.take i) ++ [nth xs i] else ord (xs.take i) := by
  have h1 : xs.take (i + 1) = xs.take i ++ [nth xs i] := by
    rw [List.take_succ, nth_lt h, List.getElem?_eq_getElem h]
    rfl
  unfold ord
  rw [h1, ordo_app]
  show (if kd (nth xs i) = 0 ∧ nth xs i ∉ ordo (xs.take i) [] then ordo [] (ordo (xs.take i) [] ++ [nth xs i]) else ordo [] (ordo (xs.take i) [])) = _
  by_cases h2 : kd (nth xs i) = 0
  · have h3 : nth xs i ∈ ordo (xs.take i) [] ↔ nth xs i ∈ xs.take i := by rw [ordo_mem]; simp [h2]
    by_cases h4 : nth xs i ∈ xs.take i
    · rw [if_neg (fun q => q.2 (h3.mpr h4)), if_neg (fun q => q.2 h4)]; rfl
    · rw [if_pos ⟨h2, fun q => h4 (h3.mp q)⟩, if_pos ⟨h2, h4⟩]; rfl
  · rw [if_neg (fun q => h2 q.1), if_neg (fun q => h2 q.1)]; rfl
section VARS
variable {M : Mem} {e n : Nat} {xs : List Int}
theorem Ex_countVars_s (hG : Good M) (h : XE M e n xs) (hv : av xs) : Ex_countVars e M = some (some (.inl ((ord xs).length : Nat)), M) := by
  have hl := h.lt
  have key : ∀ (k i : Nat), xs.length - i = k → i ≤ xs.length → Ex_countVars_4 e ((ord (xs.take i)).length : Nat) (i : Int) M = some (some (.inl ((ord xs).length : Nat)), M) := by
    intro k
    induction k with
    | zero =>
      intro i h1 h2
      rw [Ex_countVars_4_eq, h.g hG, gd_t, h.s, if_neg (by omega), List.take_of_length_le (by omega)]
    | succ k ih =>
      intro i h1 h2
      have hlt : i < xs.length := by omega
      have hR : RW M (e + 1) 0 (xs.take i) := fun j hj => by
        rw [List.length_take] at hj
        rw [nth_take (by omega), Nat.zero_add]
        exact h.2.1.2 j (by omega)
      have hti : (xs.take i).length = i := by rw [List.length_take]; omega
      have hix := Ex_indexOf_s hG h.1.2.1 hR (by rw [hti]; have := h.2.2; omega) (by have := h.1.2.2; omega) (nth xs i)
      rw [hti] at hix
      have hlo := ord_len (xs.take i)
      rw [hti] at hlo
      have hstep := ih (i + 1) (by omega) (by omega)
      rw [ord_take hlt] at hstep
      rw [Ex_countVars_4_eq, h.g hG, gd_t, h.s, if_pos (by omega), gd_t, h.r hG, h.gs hG hlt, gd_t, toNat_n, h.2.1.2 i hlt, Ex_kind_s (av_nth hv hlt).inR, cI_s]
      simp only [h.g hG, h.r hG, h.gs hG hlt, toNat_n, h.2.1.2 i hlt, gd_t]
      rw [hix, cI_s, wr_s (i := i) (by omega), wr_s (i := (ord (xs.take i)).length) (by omega)]
      by_cases h3 : kd (nth xs i) = 0
      · rw [if_pos h3]
        by_cases h4 : nth xs i ∈ xs.take i
        · rw [if_neg (ix_mem.mpr h4)]
          rw [if_neg (fun q => q.2 h4)] at hstep
          exact hstep
        · rw [if_pos (Classical.not_not.mp fun q => h4 (ix_mem.mp q))]
          rw [if_pos ⟨h3, h4⟩, List.length_append, List.length_singleton] at hstep
          exact hstep
      · rw [if_neg h3]
        rw [if_neg (fun q => h3 q.1)] at hstep
        exact hstep
  rw [Ex_countVars_eq]
  exact key _ 0 rfl (Nat.zero_le _)
theorem Ex_listVars_s (hG : Good M) (h : XE M e n xs) (hv : av xs) {r rm : Nat} (hr : arr r 0 rm) (hrm : rm ≤ 100000) (hne1 : r ≠ e) (hne2 : r ≠ e + 1) (hl2 : xs.length ≤ rm) : ∃ M', Ex_listVars e r M = some (some (.inl ((ord xs).length : Nat)), M') ∧ RW M' r 0 (ord xs) ∧ Fi (fun a => a = r) M M' := by
  have hl := h.lt
  have key : ∀ (k i : Nat) (M1 : Mem) (d : LV), xs.length - i = k → i ≤ xs.length → RW M1 r 0 (ord (xs.take i)) → Fi (fun a => a = r) M M1 → ∃ M', Ex_listVars_4 e r ((ord (xs.take i)).length : Nat) (i : Int) d M1 = some (some (.inl ((ord xs).length : Nat)), M') ∧ RW M' r 0 (ord xs) ∧ Fi (fun a => a = r) M M' := by
    intro k
    induction k with
    | zero =>
      intro i M1 d h1 h2 hR hF
      have h' : XE M1 e n xs := ⟨h.1, h.2.1.fi hF (fun q => hne1 q.symm) (fun q => hne2 q.symm), h.2.2⟩
      rw [List.take_of_length_le (show xs.length ≤ i by omega)] at hR ⊢
      exact ⟨M1, by rw [Ex_listVars_4_eq, h'.g (hG.fi hF), gd_t, h'.s, if_neg (by omega)], hR, hF⟩
    | succ k ih =>
      intro i M1 d h1 h2 hR hF
      have h' : XE M1 e n xs := ⟨h.1, h.2.1.fi hF (fun q => hne1 q.symm) (fun q => hne2 q.symm), h.2.2⟩
      have hG' := hG.fi hF
      have hlt : i < xs.length := by omega
      have hlo := ord_len (xs.take i)
      have hti : (xs.take i).length = i := by rw [List.length_take]; omega
      rw [hti] at hlo
      have hix := Ex_indexOf_s hG' hr hR (by omega) hrm (nth xs i)
      by_cases hnew : kd (nth xs i) = 0 ∧ nth xs i ∉ xs.take i
      · obtain ⟨M', a1, a2, a3⟩ := ih (i + 1) (stI M1 r (ord (xs.take i)).length (nth xs i)) (some (.inl 1)) (by omega) (by omega) (by
          rw [ord_take hlt, if_pos hnew]
          intro j hj
          rw [List.length_append] at hj
          rw [Nat.zero_add]
          by_cases q : j = (ord (xs.take i)).length
          · subst q
            rw [mI_at, nth_app2 (Nat.le_refl _), Nat.sub_self]
            rfl
          · have hj2 : j < (ord (xs.take i)).length := by have : j < (ord (xs.take i)).length + 1 := hj; omega
            rw [mI_ne (by omega), nth_app1 hj2]
            have := hR j hj2
            rwa [Nat.zero_add] at this) (hF.trans (Fi.ofI rfl))
        refine ⟨M', ?_, a2, a3⟩
        rw [ord_take hlt, if_pos hnew, List.length_append, List.length_singleton] at a1
        rw [Ex_listVars_4_eq, h'.g hG', gd_t, h'.s, if_pos (by omega), gd_t, h'.r hG', h'.gs hG' hlt, gd_t, toNat_n, h'.2.1.2 i hlt, Ex_kind_s (av_nth hv hlt).inR, cI_s, if_pos hnew.1]
        simp only [h'.g hG', h'.r hG', h'.gs hG' hlt, toNat_n, h'.2.1.2 i hlt, gd_t]
        have hnm : nth xs i ∉ ord (xs.take i) := fun q => hnew.2 (ord_mem.mp q).1
        rw [hix, cI_s, if_pos (Classical.not_not.mp fun q => hnm (ix_mem.mp q)), Ex_listVars_44_eq, if_neg (by decide), hG'.tgL hr (by decide), gd_t, hG'.len hr, if_pos (by omega)]
        simp only [h'.g hG', h'.r hG', h'.gs hG' hlt, toNat_n, h'.2.1.2 i hlt, gd_t]
        rw [hG'.tgS hr (by omega) (by omega), gd_t, wr_s (by omega), wr_s (by omega)]
        exact a1
      · obtain ⟨M', a1, a2, a3⟩ := ih (i + 1) M1 (some (.inl 0)) (by omega) (by omega) (by rw [ord_take hlt, if_neg hnew]; exact hR) hF
        refine ⟨M', ?_, a2, a3⟩
        rw [ord_take hlt, if_neg hnew] at a1
        rw [Ex_listVars_4_eq, h'.g hG', gd_t, h'.s, if_pos (by omega), gd_t, h'.r hG', h'.gs hG' hlt, gd_t, toNat_n, h'.2.1.2 i hlt, Ex_kind_s (av_nth hv hlt).inR, cI_s]
        have h44 : Ex_listVars_44 e r ((ord (xs.take i)).length : Nat) (i : Int) 0 d M1 = some (some (.inl ((ord xs).length : Nat)), M') := by
          rw [Ex_listVars_44_eq, if_pos rfl, wr_s (by omega)]
          exact a1
        by_cases h3 : kd (nth xs i) = 0
        · rw [if_pos h3]
          simp only [h'.g hG', h'.r hG', h'.gs hG' hlt, toNat_n, h'.2.1.2 i hlt, gd_t]
          have hm : nth xs i ∈ ord (xs.take i) := ord_mem.mpr ⟨Classical.not_not.mp fun q => hnew ⟨h3, q⟩, h3⟩
          rw [hix, cI_s, if_neg (ix_mem.mpr hm)]
          exact h44
        · rw [if_neg h3]
          exact h44
  rw [Ex_listVars_eq]
  have := key xs.length 0 M none rfl (Nat.zero_le _) (fun j hj => absurd hj (Nat.not_lt_zero j)) Fi.refl
  exact this
end VARS

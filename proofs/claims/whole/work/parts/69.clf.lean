/-! ===== what a STEP is done at, and what it makes ===== -/
theorem fnx_clf {zs : List Clz} {xs : List Int} : ∀ (t i : Nat), xs.length - i = t → i ≤ xs.length → (fnx zs (xs.drop i) i).1 = 4 → ∃ z, zs[(fnx zs (xs.drop i) i).2.2]? = some z ∧ ((fnx zs (xs.drop i) i).2.1 < xs.length ∧ nth xs (fnx zs (xs.drop i) i).2.1 = z.1) ∧ (z.2.1 ≠ -1 → (fnx zs (xs.drop i) i).2.1 + 1 < xs.length ∧ nth xs ((fnx zs (xs.drop i) i).2.1 + 1) = z.2.1) := by
  intro t
  induction t with
  | zero =>
    intro i h1 h2 h
    rw [List.drop_eq_nil_of_le (by omega)] at h
    cases h
  | succ t ih =>
    intro i h1 h2 h
    have hi : i < xs.length := by omega
    rw [drop_cons hi] at h ⊢
    unfold fnx at h ⊢
    by_cases hk : kd (nth xs i) = 2
    · rw [if_pos hk] at h ⊢
      cases hf : fo (nth xs i) zs 0 with
      | none => rw [hf] at h; cases h
      | some k =>
        rw [hf, fn1_s] at h
        rw [fn1_s]
        obtain ⟨z, z1, z2⟩ : ∃ z, zs[k]? = some z ∧ z.1 = nth xs i := by
          rcases fo_spec (nth xs i) zs 0 with ⟨g, -⟩ | ⟨j, w, g1, g2, g3, -⟩
          · rw [g] at hf; cases hf
          · rw [g1, Nat.zero_add] at hf; cases hf; exact ⟨w, g2, g3⟩
        by_cases hc : conAt zs k = -1
        · rw [if_pos hc]
          exact ⟨z, z1, ⟨hi, z2.symm⟩, fun q => absurd ((conAt_of z1).symm.trans hc) q⟩
        · rw [if_neg hc] at h ⊢
          by_cases k0 : kd ((xs.drop (i + 1)).headD 50331648) = 0
          · rw [if_pos k0] at h; cases h
          rw [if_neg k0] at h ⊢
          by_cases k1 : kd ((xs.drop (i + 1)).headD 50331648) = 1
          · rw [if_pos k1] at h ⊢
            have hi1 : i + 1 < xs.length := by
              by_cases q : i + 1 < xs.length
              · exact q
              · rw [List.drop_eq_nil_of_le (by omega)] at k1
                exact absurd k1 (by decide)
            have hh : (xs.drop (i + 1)).headD 50331648 = nth xs (i + 1) := by rw [drop_cons hi1]; rfl
            cases hco : co (nth xs i) ((xs.drop (i + 1)).headD 50331648) zs 0 with
            | none => rw [hco] at h; cases h
            | some j =>
              rcases co_spec (nth xs i) ((xs.drop (i + 1)).headD 50331648) zs 0 with ⟨g, -⟩ | ⟨m, w, g1, g2, g3, -⟩
              · rw [g] at hco; cases hco
              · rw [g1, Nat.zero_add] at hco
                cases hco
                exact ⟨w, g2, ⟨hi, g3.1.symm⟩, fun _ => ⟨hi1, by rw [g3.2, hh]; rfl⟩⟩
          · rw [if_neg k1] at h ⊢
            exact ih (i + 1) (by omega) (by omega) h
    · rw [if_neg hk] at h; cases h
theorem nxt_clf {zs : List Clz} {xs : List Int} (hw : wf 1 xs) (h : (nxt zs xs).1 = 4) : ∃ z, zs[(nxt zs xs).2.2]? = some z ∧ CLf xs (nxt zs xs).2.1 z := by
  unfold nxt at h ⊢
  by_cases hf : fuo xs 0 = -1
  · rw [if_pos hf] at h; cases h
  · rw [if_neg hf] at h ⊢
    rcases fuo_spec xs 0 with ⟨g, -⟩ | ⟨k, g1, g2, -, -⟩
    · exact absurd g hf
    · rw [Nat.zero_add] at g2
      rw [g2, toNat_n] at h ⊢
      obtain ⟨z, a1, ⟨a2, a3⟩, a4⟩ := fnx_clf _ k rfl (by omega) h
      refine ⟨z, a1, ⟨a2, a3, ?_⟩, a4⟩
      obtain ⟨b, hb⟩ := wf_drop xs 1 _ hw (Nat.le_of_lt a2)
      rw [drop_cons a2, a3] at hb
      obtain ⟨v, -, hv⟩ := wf_pos hb
      exact ⟨v, hv⟩
theorem wf_into : ∀ (xs : List Int) (w p : Nat), wf w xs → p ≤ xs.length → ∃ v, wf v (xs.drop p) ∧ ∀ ys, wf v ys → wf w (xs.take p ++ ys) := by
  intro xs
  induction xs with
  | nil =>
    intro w p h hp
    refine ⟨w, by rw [List.drop_nil]; exact h, fun ys hy => ?_⟩
    rw [List.take_nil]
    exact hy
  | cons c xs ih =>
    intro w p h hp
    cases p with
    | zero => exact ⟨w, h, fun ys hy => hy⟩
    | succ p =>
      obtain ⟨v, rfl, h2⟩ := wf_pos h
      obtain ⟨u, h3, h4⟩ := ih _ p h2 (by simpa using hp)
      exact ⟨u, h3, fun ys hy => h4 ys hy⟩
theorem wf_flat {f : Int → List Int} : ∀ (cs : List Int) (w : Nat), wf w cs → (∀ c ∈ cs, f c = [c] ∨ (arN c = 0 ∧ wf 1 (f c))) → wf w (cs.flatMap f) := by
  intro cs
  induction cs with
  | nil => intro w h _; exact h
  | cons c cs ih =>
    intro w h hf
    obtain ⟨v, rfl, h2⟩ := wf_pos h
    have h3 := ih _ h2 (fun d hd => hf d (List.mem_cons_of_mem _ hd))
    rw [List.flatMap_cons]
    rcases hf c (by simp) with e | ⟨e, h4⟩
    · rw [e]
      exact h3
    · rw [e, Nat.add_zero] at h3
      rw [Nat.add_comm v 1]
      exact wf_app _ _ _ _ h4 h3
/-- the parts of a call are whole things -/
theorem CLf.part {xs : List Int} {at0 m : Nat} {z : Clz} (hf : CLf xs at0 z) (hz : zok m z) {j : Nat} (hj : j < z.2.2.1.length) : wf 1 (sub xs (sts xs (st0 z at0) j)) := by
  obtain ⟨⟨b, hwf⟩, -⟩ := hf.all hz
  have h1 := (wf_sk (xs.drop (st0 z at0)) j (z.2.2.1.length - j + b) (by rw [show j + (z.2.2.1.length - j + b) = z.2.2.1.length + b by omega]; exact hwf)).2
  rw [List.drop_drop] at h1
  have h2 : wf (1 + (z.2.2.1.length - j - 1 + b)) (xs.drop (sts xs (st0 z at0) j)) := by
    rw [show 1 + (z.2.2.1.length - j - 1 + b) = z.2.2.1.length - j + b by omega]
    exact h1
  exact (wf_sk _ _ _ h2).1
theorem put1_cases {xs : List Int} {at0 m : Nat} {z : Clz} (hz : zok m z) {c : Int} (hc : c ∈ z.2.2.2) : put1 xs (st0 z at0) z.2.2.1 c = [c] ∨ (arN c = 0 ∧ ∃ j, j < z.2.2.1.length ∧ put1 xs (st0 z at0) z.2.2.1 c = sub xs (sts xs (st0 z at0) j)) := by
  unfold put1
  by_cases h : kd c = 0 ∧ ix z.2.2.1 c ≠ -1
  · rw [if_pos h]
    have hv := hz.2.2.2.1.2.1 c hc
    have har := hv.2.1 h.1
    have hal := arN_ar c
    have hrg := ix_rng z.2.2.1 c
    obtain ⟨j, hj⟩ := Int.eq_ofNat_of_zero_le (show 0 ≤ ix z.2.2.1 c by omega)
    exact Or.inr ⟨by omega, j, by omega, by rw [hj, toNat_n]⟩
  · rw [if_neg h]
    exact Or.inl rfl
theorem stx_wf {xs : List Int} {at0 m : Nat} {z : Clz} (hw : wf 1 xs) (hf : CLf xs at0 z) (hz : zok m z) : wf 1 (stx z xs at0) := by
  obtain ⟨-, -, hend⟩ := hf.all hz
  obtain ⟨v, h1, h2⟩ := wf_into xs 1 at0 hw (Nat.le_of_lt hf.1.1)
  unfold stx
  rw [hend]
  apply h2
  obtain ⟨u, hu, -⟩ := wf_pos (by rw [drop_cons hf.1.1] at h1; exact h1)
  subst hu
  rw [Nat.add_comm u 1] at h1 ⊢
  have h3 := (wf_sk _ _ _ h1).2
  rw [List.drop_drop] at h3
  refine wf_app _ _ _ _ (wf_flat _ _ hz.2.2.2.1.1 fun c hc => ?_) h3
  rcases put1_cases (xs := xs) (at0 := at0) hz hc with e | ⟨e, j, hj, e2⟩
  · exact Or.inl e
  · exact Or.inr ⟨e, by rw [e2]; exact hf.part hz hj⟩
theorem sub_mem {xs : List Int} {p : Nat} {c : Int} (h : c ∈ sub xs p) : c ∈ xs := by
  unfold sub at h
  exact List.mem_of_mem_drop (List.mem_of_mem_take h)
theorem stx_mem {xs : List Int} {at0 m : Nat} {z : Clz} (hz : zok m z) {c : Int} (h : c ∈ stx z xs at0) : c ∈ xs ∨ c ∈ z.2.2.2 := by
  unfold stx at h
  rcases List.mem_append.mp h with h | h
  · exact Or.inl (List.mem_of_mem_take h)
  · rcases List.mem_append.mp h with h | h
    · obtain ⟨d, hd, h2⟩ := List.mem_flatMap.mp h
      rcases put1_cases (xs := xs) (at0 := at0) hz hd with e | ⟨-, j, -, e⟩
      · rw [e] at h2
        rw [List.mem_singleton.mp h2]
        exact Or.inr hd
      · rw [e] at h2
        exact Or.inl (sub_mem h2)
    · exact Or.inl (List.mem_of_mem_drop h)
theorem stx_av {xs : List Int} {at0 m : Nat} {z : Clz} (hv : av xs) (hz : zok m z) : av (stx z xs at0) := fun c hc => (stx_mem hz hc).elim (hv c) (hz.2.2.2.1.2.1 c)
theorem flat_len {f : Int → List Int} {n : Nat} : ∀ cs : List Int, (∀ c ∈ cs, (f c).length ≤ n) → (cs.flatMap f).length ≤ n * cs.length := by
  intro cs
  induction cs with
  | nil => intro _; exact Nat.zero_le _
  | cons c cs ih =>
    intro h
    have h1 := h c (by simp)
    have h2 := ih (fun d hd => h d (List.mem_cons_of_mem _ hd))
    rw [List.flatMap_cons, List.length_append, List.length_cons, Nat.mul_succ]
    omega
theorem stx_len {xs : List Int} {at0 m : Nat} {z : Clz} (hl : xs.length ≤ 120) (hm : m ≤ 100) (hz : zok m z) : (stx z xs at0).length ≤ 12240 := by
  have hr := hz.2.2.2.1.2.2
  have h1 := flat_len (f := put1 xs (st0 z at0) z.2.2.1) (n := 120) z.2.2.2 (fun c hc => by
    rcases put1_cases (xs := xs) (at0 := at0) hz hc with e | ⟨-, j, -, e⟩
    · rw [e]; simp
    · rw [e, sub_len]
      by_cases q : sts xs (st0 z at0) j ≤ xs.length
      · have := beh_le q; omega
      · unfold beh
        rw [List.drop_eq_nil_of_le (by omega), sk_nil]
        omega)
  unfold stx
  simp only [List.length_append, List.length_take, List.length_drop]
  omega

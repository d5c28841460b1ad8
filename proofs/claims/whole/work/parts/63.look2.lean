/-! ===== NEXT: the reference goes down through cons ===== -/
def dn (xs : List Int) (p : Nat) : Prop := (sub xs p).all (fun c => decide (kd c ≤ 1)) = true
theorem dn_iff {xs : List Int} {p : Nat} (hp : p ≤ xs.length) : dn xs p ↔ ∀ j, p ≤ j → j < beh xs p → kd (nth xs j) ≤ 1 := by
  have hb := beh_le hp
  have hl : (sub xs p).length = beh xs p - p := sub_len
  have hn : ∀ i, i < beh xs p - p → nth (sub xs p) i = nth xs (p + i) := by
    intro i hi
    unfold sub
    rw [nth_take (by unfold beh at hi; omega), nth_drop]
  unfold dn
  rw [List.all_eq_true]
  constructor
  · intro h j h1 h2
    have h3 := h _ (nth_mem (xs := sub xs p) (i := j - p) (by omega))
    rw [hn _ (by omega), show p + (j - p) = j by omega] at h3
    exact of_decide_eq_true h3
  · intro h c hc
    obtain ⟨i, hi⟩ := List.mem_iff_getElem?.mp hc
    have hil := (List.getElem?_eq_some_iff.mp hi).1
    have e : nth (sub xs p) i = c := by unfold nth; rw [List.getD_eq_getElem?_getD, hi]; rfl
    rw [← e, hn i (by omega)]
    exact decide_eq_true (h _ (by omega) (by omega))
noncomputable def fop (xs : List Int) (q : Nat) : Nat → Nat → Int
  | 0, _ => -1
  | t + 1, k => haveI := Classical.propDecidable; if dn xs (agp xs q k) then fop xs q t (k + 1) else (agp xs q k : Nat)
theorem fop_spec (xs : List Int) (q : Nat) : ∀ (t k : Nat), (fop xs q t k = -1 ∧ ∀ j, k ≤ j → j < k + t → dn xs (agp xs q j)) ∨ ∃ j, k ≤ j ∧ j < k + t ∧ fop xs q t k = (agp xs q j : Nat) ∧ ¬ dn xs (agp xs q j) ∧ ∀ i, k ≤ i → i < j → dn xs (agp xs q i) := by
  intro t
  induction t with
  | zero => intro k; exact Or.inl ⟨rfl, fun j h1 h2 => by omega⟩
  | succ t ih =>
    intro k
    unfold fop
    by_cases h : dn xs (agp xs q k)
    · rw [if_pos h]
      rcases ih (k + 1) with ⟨h1, h2⟩ | ⟨j, h1, h2, h3, h4, h5⟩
      · refine Or.inl ⟨h1, fun j h3 h4 => ?_⟩
        by_cases e : j = k
        · rw [e]; exact h
        · exact h2 j (by omega) (by omega)
      · refine Or.inr ⟨j, by omega, by omega, h3, h4, fun i h6 h7 => ?_⟩
        by_cases e : i = k
        · rw [e]; exact h
        · exact h5 i (by omega) h7
    · rw [if_neg h]
      exact Or.inr ⟨k, Nat.le_refl _, by omega, rfl, h, fun i h6 h7 => by omega⟩
/-- the first undone cell of a part -/
def fu (xs : List Int) (q u : Nat) : Prop := (q ≤ u ∧ u < beh xs q ∧ 1 < kd (nth xs u)) ∧ ∀ j, q ≤ j → j < u → kd (nth xs j) ≤ 1
section LOOK2
variable {M : Mem} {zs : List Clz} {p a n : Nat} {xs : List Int}
theorem M_firstOpen_s (ha : a ≠ 1269) (hG : Good M) (hX : RX M a n 0 xs) {q b : Nat} (hq : q < xs.length) (hw : wf (arN (nth xs q) + b) (xs.drop (q + 1))) : M_firstOpen 1269 a (q : Int) M = some (some (.inl (fop xs q (arN (nth xs q)) 0)), M) := by
  have hxl : xs.length ≤ 20480 := by have := hX.2.2.1; have := hX.1.2; omega
  have hc := hX.v hq
  have hcell : mI M a q = cm (nth xs q) := by have := hX.2.1 q hq; rwa [Nat.zero_add] at this
  have hgs : gS M a 0 (q : Int) = true := by have := hX.gs hG hq; rwa [Nat.zero_add] at this
  have hal := arN_ar (nth xs q)
  have key : ∀ (t k : Nat) (d : LV), arN (nth xs q) - k = t → k ≤ arN (nth xs q) → M_firstOpen_7 a (q : Int) (agp xs q k : Nat) (k : Int) d M = some (some (.inl (fop xs q t k)), M) := by
    intro t
    induction t with
    | zero =>
      intro k d h1 h2
      rw [M_firstOpen_7_eq, hgs, gd_t, toNat_n, hcell, M_manyOf_s hc, cI_s, if_neg (by omega)]
      rfl
    | succ t ih =>
      intro k d h1 h2
      have hw2 : wf (1 + (arN (nth xs q) - k - 1 + b)) (xs.drop (agp xs q k)) := by
        have := (wf_sk (xs.drop (q + 1)) k (arN (nth xs q) - k + b) (by rw [show k + (arN (nth xs q) - k + b) = arN (nth xs q) + b by omega]; exact hw)).2
        rw [List.drop_drop] at this
        rw [show 1 + (arN (nth xs q) - k - 1 + b) = arN (nth xs q) - k + b by omega]
        exact this
      have hpl : agp xs q k ≤ xs.length := by
        unfold agp
        have := sk_le (xs.drop (q + 1)) k
        rw [List.length_drop] at this
        omega
      have e1 := M_isDone_s hG hX hw2 hpl
      have e2 := M_behind_s hG hX hw2
      rw [Nat.zero_add] at e1
      rw [Nat.zero_add, Nat.zero_add] at e2
      rw [M_firstOpen_7_eq, hgs, gd_t, toNat_n, hcell, M_manyOf_s hc, cI_s, if_pos (by omega), e1, cI_s]
      unfold fop
      by_cases h : dn xs (agp xs q k)
      · have h' : (sub xs (agp xs q k)).all (fun c => decide (kd c ≤ 1)) = true := h
        rw [if_pos h', if_neg (by decide), if_pos h, e2, cI_s, wr_s (by have := arN_lt (nth xs q); omega), ← agp_s]
        exact ih (k + 1) d (by omega) (by omega)
      · have h' : ¬ (sub xs (agp xs q k)).all (fun c => decide (kd c ≤ 1)) = true := h
        rw [if_neg h', if_pos rfl, if_neg h]
  rw [M_firstOpen_eq, wr_s (by omega), show q + 1 = agp xs q 0 from (agp_z xs q).symm]
  exact key _ 0 _ rfl (Nat.zero_le _)
/-- what the reference does at NEXT -/
noncomputable def lcW (p a : Nat) (M : Mem) : Res := cI (M_lookCall 1269 (p : Int) a M) fun r10 M9 => some (some (.inl r10), M9)
theorem M_look_loop (ha : a ≠ 1269) (hl : xs.length ≤ 13000) : ∀ (t q b dd : Nat) (M : Mem) (d : LV), xs.length - q = t → q < xs.length → wf (1 + b) (xs.drop q) → Good M → RX M a n 0 xs → mI M 1269 47 = (q : Int) → mI M 1269 48 = (dd : Int) → dd ≤ q + 1 → ((∀ j, q ≤ j → j < beh xs q → kd (nth xs j) ≤ 1) → ∃ M', M_look_10 1269 (p : Int) a d M = some (some (.inl 0), M') ∧ Fj lkS M M') ∧ (∀ u, fu xs q u → ∃ M1, M_look_10 1269 (p : Int) a d M = (if kd (nth xs u) = 3 then some (some (.inl 1), M1) else lcW p a M1) ∧ mI M1 1269 47 = (u : Int) ∧ (∃ e, dep xs u = dep xs q + e ∧ mI M1 1269 48 = ((dd + e : Nat) : Int)) ∧ Fj lkS M M1) := by
  intro t
  induction t using Nat.strongRecOn with
  | ind t ih =>
    intro q b dd M d h1 hq hw hG hX h47 h48 hdd
    have hc := hX.v hq
    have hk4 := kd_nn (nth xs q)
    have hcell : mI M a q = cm (nth xs q) := by have := hX.2.1 q hq; rwa [Nat.zero_add] at this
    have hgs : gS M a 0 (q : Int) = true := by have := hX.gs hG hq; rwa [Nat.zero_add] at this
    have hbg := beh_gt hq
    have hw2 : wf (arN (nth xs q) + b) (xs.drop (q + 1)) := by
      rw [drop_cons hq, Nat.add_comm 1 b] at hw
      rw [Nat.add_comm]
      exact hw
    have hba := beh_agp hq
    rw [M_look_10_eq, hG.gM, gd_t, h47, hgs, gd_t, toNat_n, hcell, M_sortOf_s hc, cI_s]
    by_cases k1 : kd (nth xs q) = 1
    · rw [if_pos k1, hG.gM, gd_t, gd_t, h47, M_firstOpen_s ha hG hX hq hw2, cI_s]
      have hagl : ∀ k, agp xs q k ≤ xs.length := fun k => by
        unfold agp
        have := sk_le (xs.drop (q + 1)) k
        rw [List.length_drop] at this
        omega
      have hag1 : ∀ k, q + 1 ≤ agp xs q k := fun k => by unfold agp; omega
      -- an index in a part that is all done
      have inarg : ∀ m, m ≤ arN (nth xs q) → (∀ i, i < m → dn xs (agp xs q i)) → ∀ j, q ≤ j → j < agp xs q m → kd (nth xs j) ≤ 1 := by
        intro m
        induction m with
        | zero => intro _ _ j h3 h4; rw [agp_z] at h4; rw [show j = q by omega]; omega
        | succ m ihm =>
          intro h2 h5 j h3 h4
          by_cases e : j < agp xs q m
          · exact ihm (by omega) (fun i hi => h5 i (by omega)) j h3 e
          · rw [agp_s] at h4
            exact (dn_iff (hagl m)).mp (h5 m (by omega)) j (by omega) h4
      rcases fop_spec xs q (arN (nth xs q)) 0 with ⟨g1, g2⟩ | ⟨k, g1, g2, g3, g4, g5⟩
      · rw [g1, if_pos rfl]
        have all1 := inarg _ (Nat.le_refl _) (fun i hi => g2 i (Nat.zero_le _) (by omega))
        refine ⟨fun _ => ⟨M, rfl, Fj.refl⟩, fun u hu => ?_⟩
        obtain ⟨⟨u1, u2, u3⟩, -⟩ := hu
        have := all1 u u1 (by omega)
        omega
      · rw [Nat.zero_add] at g2
        have hkl : agp xs q k < xs.length := by
          by_cases e : agp xs q k < xs.length
          · exact e
          · exfalso
            refine g4 ((dn_iff (hagl k)).mpr fun j h3 h4 => ?_)
            have := beh_le (hagl k)
            omega
        have hbk : beh xs (agp xs q k) ≤ beh xs q := by rw [← agp_s, hba]; exact agp_le (by omega)
        have hne : ¬ ((agp xs q k : Nat) : Int) = -1 := by omega
        have f2 : Fj lkS M (stI (stI M 1269 47 ((agp xs q k : Nat) : Int)) 1269 48 ((dd + 1 : Nat) : Int)) := (Fj.ofI (by unfold lkS; omega)).trans (Fj.ofI (by unfold lkS; omega))
        have hw3 : wf (1 + (arN (nth xs q) - k - 1 + b)) (xs.drop (agp xs q k)) := by
          have := (wf_sk (xs.drop (q + 1)) k (arN (nth xs q) - k + b) (by rw [show k + (arN (nth xs q) - k + b) = arN (nth xs q) + b by omega]; exact hw2)).2
          rw [List.drop_drop] at this
          rw [show 1 + (arN (nth xs q) - k - 1 + b) = arN (nth xs q) - k + b by omega]
          exact this
        have hg1 := hag1 k
        obtain ⟨i1, i2⟩ := ih (xs.length - agp xs q k) (by omega) (agp xs q k) _ (dd + 1) _ (some (.inl ((agp xs q k : Nat) : Int))) rfl hkl hw3 (hG.fj f2) (hX.fj f2 (by unfold lkS; omega)) (by rw [mI_ne (by omega), mI_at]) mI_at (by omega)
        rw [g3, if_neg hne, hG.gM, gd_t, gd_t, gd_t, mI_ne (by omega), h48, wr_s (by omega)]
        have hdep := dep_arg hq g2 hkl
        refine ⟨fun hall => ?_, fun u hu => ?_⟩
        · exfalso
          exact g4 ((dn_iff (hagl k)).mpr fun j h3 h4 => hall j (by omega) (by omega))
        · obtain ⟨⟨u1, u2, u3⟩, u4⟩ := hu
          have hpre := inarg k (by omega) (fun i hi => g5 i (Nat.zero_le _) hi)
          have hu1 : agp xs q k ≤ u := by
            by_cases e : agp xs q k ≤ u
            · exact e
            · have := hpre u u1 (by omega); omega
          have hu2 : u < beh xs (agp xs q k) := by
            by_cases e : u < beh xs (agp xs q k)
            · exact e
            · exfalso
              exact g4 ((dn_iff (hagl k)).mpr fun j h3 h4 => u4 j (by omega) (by omega))
          obtain ⟨M1, j1, j2, ⟨e, j3, j4⟩, j5⟩ := i2 u ⟨⟨hu1, hu2, u3⟩, fun j h3 h4 => u4 j (by omega) h4⟩
          exact ⟨M1, j1, j2, ⟨e + 1, by omega, by rw [j4]; congr 1; omega⟩, f2.trans j5⟩
    · rw [if_neg k1, hG.gM, gd_t, h47, hgs, gd_t, toNat_n, hcell, M_sortOf_s hc, cI_s]
      by_cases k0 : kd (nth xs q) = 0
      · have hvar := hc.2.1 k0
        have hal := arN_ar (nth xs q)
        have ha0 : arN (nth xs q) = 0 := by omega
        rw [ha0, agp_z] at hba
        rw [if_pos k0]
        refine ⟨fun _ => ⟨M, rfl, Fj.refl⟩, fun u hu => ?_⟩
        obtain ⟨⟨u1, u2, u3⟩, -⟩ := hu
        rw [show u = q by omega] at u3
        omega
      · rw [if_neg k0, hG.gM, gd_t, h47, hgs, gd_t, toNat_n, hcell, M_sortOf_s hc, cI_s, hG.gM, gd_t]
        refine ⟨fun hall => ?_, fun u hu => ?_⟩
        · have := hall q (Nat.le_refl _) hbg
          omega
        · obtain ⟨⟨u1, u2, u3⟩, u4⟩ := hu
          have hu : u = q := by
            by_cases e : q < u
            · have := u4 q (Nat.le_refl _) e; omega
            · omega
          subst hu
          refine ⟨M, ?_, h47, ⟨0, rfl, h48⟩, Fj.refl⟩
          by_cases k3 : kd (nth xs u) = 3
          · rw [if_pos k3, if_pos k3]
          · rw [if_neg k3, if_neg k3]
            rfl
end LOOK2

/-! ===== the state of what is run, in both ===== -/
theorem fuo_spec : ∀ (xs : List Int) (i : Nat), (fuo xs i = -1 ∧ ∀ j, j < xs.length → kd (nth xs j) ≤ 1) ∨ ∃ k, k < xs.length ∧ fuo xs i = ((i + k : Nat) : Int) ∧ 1 < kd (nth xs k) ∧ ∀ j, j < k → kd (nth xs j) ≤ 1 := by
  intro xs
  induction xs with
  | nil => intro i; exact Or.inl ⟨rfl, fun j hj => absurd hj (Nat.not_lt_zero j)⟩
  | cons c cs ih =>
    intro i
    have hk := kd_nn c
    unfold fuo
    by_cases h2 : kd c = 2
    · rw [if_pos h2]
      exact Or.inr ⟨0, by simp, rfl, by rw [nth_z]; omega, fun j hj => absurd hj (Nat.not_lt_zero j)⟩
    · rw [if_neg h2]
      by_cases h3 : kd c = 3
      · rw [if_pos h3]
        exact Or.inr ⟨0, by simp, rfl, by rw [nth_z]; omega, fun j hj => absurd hj (Nat.not_lt_zero j)⟩
      · rw [if_neg h3]
        rcases ih (i + 1) with ⟨g1, g2⟩ | ⟨k, g1, g2, g3, g4⟩
        · refine Or.inl ⟨g1, fun j hj => ?_⟩
          cases j with
          | zero => rw [nth_z]; omega
          | succ j => rw [nth_s]; exact g2 j (by simpa using hj)
        · refine Or.inr ⟨k + 1, by simpa using g1, by rw [g2]; congr 1; omega, by rw [nth_s]; exact g3, fun j hj => ?_⟩
          cases j with
          | zero => rw [nth_z]; omega
          | succ j => rw [nth_s]; exact g4 j (by omega)
/-- how far what is run is: 0 done, 1 stuck, 4 ready, 5 blocked; the place; the clause -/
def nxt (zs : List Clz) (xs : List Int) : Nat × Nat × Nat := if fuo xs 0 = -1 then (0, 0, 0) else fnx zs (xs.drop (fuo xs 0).toNat) (fuo xs 0).toNat
theorem fnx_st (zs : List Clz) : ∀ (xs : List Int) (i : Nat), (fnx zs xs i).1 = 1 ∨ (fnx zs xs i).1 = 4 ∨ (fnx zs xs i).1 = 5 := by
  intro xs
  induction xs with
  | nil => intro i; exact Or.inl rfl
  | cons f xs ih =>
    intro i
    unfold fnx
    split
    · cases fo f zs 0 with
      | none => exact Or.inl rfl
      | some k =>
        rw [fn1_s]
        split
        · exact Or.inr (Or.inl rfl)
        · split
          · exact Or.inr (Or.inr rfl)
          · split
            · cases co f (xs.headD 50331648) zs 0 with
              | none => exact Or.inl rfl
              | some j => exact Or.inr (Or.inl rfl)
            · exact ih (i + 1)
    · exact Or.inl rfl
/-- each further call lies in the one before -/
theorem fnx_dep {zs : List Clz} {n : Nat} (hz : zsk n zs) {xs : List Int} : ∀ (t i : Nat), xs.length - i = t → i ≤ xs.length → (fnx zs (xs.drop i) i).1 = 4 → i ≤ (fnx zs (xs.drop i) i).2.1 ∧ (fnx zs (xs.drop i) i).2.1 < xs.length ∧ dep xs (fnx zs (xs.drop i) i).2.1 = dep xs i + ((fnx zs (xs.drop i) i).2.1 - i) := by
  intro t
  induction t with
  | zero =>
    intro i h1 h2 h
    rw [List.drop_eq_nil_of_le (by omega)] at h
    cases h
  | succ t ih =>
    intro i h1 h2 h
    have hi : i < xs.length := by omega
    rw [drop_cons hi] at h ⊢
    unfold fnx at h ⊢
    by_cases hk : kd (nth xs i) = 2
    · rw [if_pos hk] at h ⊢
      cases hf : fo (nth xs i) zs 0 with
      | none => rw [hf] at h; cases h
      | some k =>
        rw [hf, fn1_s] at h
        rw [fn1_s]
        by_cases hc : conAt zs k = -1
        · rw [if_pos hc]
          exact ⟨Nat.le_refl _, hi, by show dep xs i = dep xs i + (i - i); omega⟩
        · rw [if_neg hc] at h ⊢
          by_cases k0 : kd ((xs.drop (i + 1)).headD 50331648) = 0
          · rw [if_pos k0] at h; cases h
          rw [if_neg k0] at h ⊢
          by_cases k1 : kd ((xs.drop (i + 1)).headD 50331648) = 1
          · rw [if_pos k1] at h ⊢
            cases hco : co (nth xs i) ((xs.drop (i + 1)).headD 50331648) zs 0 with
            | none => rw [hco] at h; cases h
            | some j => exact ⟨Nat.le_refl _, hi, by show dep xs i = dep xs i + (i - i); omega⟩
          · rw [if_neg k1] at h ⊢
            obtain ⟨a1, a2, a3⟩ := ih (i + 1) (by omega) (by omega) h
            have hi1 : i + 1 < xs.length := by omega
            obtain ⟨z, z1, z2⟩ : ∃ z, zs[k]? = some z ∧ z.1 = nth xs i := by
              rcases fo_spec (nth xs i) zs 0 with ⟨g, -⟩ | ⟨j, w, g1, g2, g3, -⟩
              · rw [g] at hf; cases hf
              · rw [g1, Nat.zero_add] at hf; cases hf; exact ⟨w, g2, g3⟩
            rw [conAt_of z1] at hc
            have har := ((hz z (List.mem_of_getElem? z1)).2.2.1.2.2.2 hc).2
            rw [z2] at har
            have hd := dep_arg (xs := xs) (q := i) (k := 0) hi har (by rw [agp_z]; exact hi1)
            rw [agp_z] at hd
            exact ⟨by omega, a2, by rw [a3, hd]; omega⟩
    · rw [if_neg hk] at h; cases h
section STATE
variable {M : Mem} {zs : List Clz} {P e n p a : Nat} {xs : List Int}
theorem Ru_undoneState_s (he : 21 < e) (hP : 22 < P) (hv : av xs) (hG : Good M) (hX : XE M e n xs) (hp : PRc M P zs) (hr : mR M 21 1 = e) : ∃ M', Ru_undoneState 21 P M = some (some (.inl (if (nxt zs xs).1 = 0 then 0 else if (nxt zs xs).1 = 4 then 4 else 1)), M') ∧ ((nxt zs xs).1 = 4 → mI M' 21 3 = ((nxt zs xs).2.1 : Nat) ∧ mR M' 21 4 = P + 2 + 4 * (nxt zs xs).2.2 ∧ (nxt zs xs).2.2 < zs.length) ∧ Good M' ∧ Fq nxS nxR M M' := by
  unfold nxt
  rw [Ru_undoneState_eq, hG.gRu, gd_t, hr, hX.g hG, gd_t, Ex_firstUndone_s hG hX hv, cI_s]
  by_cases h : fuo xs 0 = -1
  · rw [if_pos h, if_pos h]
    exact ⟨M, rfl, fun q => (by cases q), hG, Fq.refl⟩
  · rcases fuo_spec xs 0 with ⟨g, -⟩ | ⟨k, g1, g2, g3, g4⟩
    · exact absurd g h
    · rw [Nat.zero_add] at g2
      rw [if_neg h, if_neg h, g2, toNat_n, hG.gRu, gd_t, gd_t, hr]
      obtain ⟨M', a1, a2, a3, a4, a5⟩ := Ru_findNext_loop he hP hv _ k M (some (.inl (k : Int))) none none none none rfl (by omega) hG hX hp
      have hst := fnx_st zs (xs.drop k) k
      rw [Ru_findNext_eq, a1, cI_s]
      refine ⟨M', ?_, a2, a4, a5⟩
      rcases hst with q | q | q
      · rw [q]; rfl
      · rw [q]; rfl
      · rw [q]; rfl
theorem M_look_s (ha : a ≠ 1269) (hv : av xs) (hl : xs.length ≤ 13000) (hw : wf 1 xs) (hG : Good M) (hX : RX M a n 0 xs) (hR : ROWP M p zs) : ∃ M', M_look 1269 (p : Int) a M = some (some (.inl (if (nxt zs xs).1 = 0 then 0 else lkR (nxt zs xs).1)), M') ∧ ((nxt zs xs).1 = 4 → mI M' 1269 47 = ((nxt zs xs).2.1 : Nat) ∧ mI M' 1269 48 = ((1 + dep xs (nxt zs xs).2.1 : Nat) : Int) ∧ mI M' 1269 49 = ((40 * p + (nxt zs xs).2.2 : Nat) : Int) ∧ (nxt zs xs).2.1 < xs.length) ∧ Fj lkS M M' := by
  have hlen := wf_len _ _ hw
  have f1 : Fj lkS M (stI (stI M 1269 47 0) 1269 48 1) := (Fj.ofI (by unfold lkS; omega)).trans (Fj.ofI (by unfold lkS; omega))
  have hG1 := hG.fj f1
  have hX1 : RX (stI (stI M 1269 47 0) 1269 48 1) a n 0 xs := hX.fj f1 (by unfold lkS; omega)
  have hR1 : ROWP (stI (stI M 1269 47 0) 1269 48 1) p zs := hR.fj f1 (by unfold lkS; omega)
  have hw0 : wf (1 + 0) (xs.drop 0) := hw
  have hb0 : beh xs 0 = xs.length := by
    unfold beh
    rw [List.drop_zero, sk_self hw, Nat.zero_add]
  obtain ⟨b1, b2⟩ := M_look_loop (p := p) ha hl _ 0 0 1 (stI (stI M 1269 47 0) 1269 48 1) none rfl (by omega) hw0 hG1 hX1 (by rw [mI_ne (by omega), mI_at]; rfl) mI_at (by decide)
  rw [M_look_eq, hG.gM, gd_t, gd_t]
  unfold nxt
  rcases fuo_spec xs 0 with ⟨g, gall⟩ | ⟨k, g1, g2, g3, g4⟩
  · obtain ⟨M', c1, c2⟩ := b1 (fun j _ hj => gall j (by omega))
    rw [c1, if_pos g]
    exact ⟨M', rfl, fun q => (by cases q), f1.trans c2⟩
  · rw [Nat.zero_add] at g2
    obtain ⟨M1, c1, c2, ⟨e, c3, c4⟩, c5⟩ := b2 k ⟨⟨Nat.zero_le _, by omega, g3⟩, fun j _ hj => g4 j hj⟩
    have hG2 := hG1.fj c5
    have hde : e = dep xs k := by
      have : dep xs 0 = 0 := rfl
      omega
    rw [c1, if_neg (show ¬ fuo xs 0 = -1 by rw [g2]; omega), g2, toNat_n]
    have hk4 := kd_nn (nth xs k)
    by_cases k3 : kd (nth xs k) = 3
    · have e1 : fnx zs (xs.drop k) k = (1, k, 0) := by rw [drop_cons g1]; unfold fnx; rw [if_neg (by omega)]
      rw [if_pos k3, e1]
      exact ⟨M1, rfl, fun q => (by cases q), f1.trans c5⟩
    · have k2 : kd (nth xs k) = 2 := by omega
      obtain ⟨b, hwk⟩ := wf_drop xs 1 k hw (by omega)
      obtain ⟨v, hv1, -⟩ := wf_pos (by rw [drop_cons g1] at hwk; exact hwk)
      obtain ⟨M2, d1, d2, d3⟩ := M_lookCall_s (M := M1) ha hv (i := k) (dd := 1 + e) (b := v) g1 (by rw [Nat.add_comm, ← hv1]; exact hwk) k2 hG2 (hX1.fj c5 (by unfold lkS; omega)) (hR1.fj c5 (by unfold lkS; omega)) c2 c4 (by rw [hde]; have := cnt_le xs k k; unfold dep; omega)
      have hst := fnx_st zs (xs.drop k) k
      rw [if_neg k3]
      unfold lcW
      rw [d1, cI_s, if_neg (show ¬ (fnx zs (xs.drop k) k).1 = 0 by omega)]
      refine ⟨M2, rfl, fun q => ?_, (f1.trans c5).trans d3⟩
      obtain ⟨e1, e2, e3, e4⟩ := d2 q
      obtain ⟨f4, f5, f6⟩ := fnx_dep hR.2.2.1 _ k rfl (by omega) q
      refine ⟨e1, ?_, e3, f5⟩
      rw [e2, f6]
      congr 1
      omega
end STATE

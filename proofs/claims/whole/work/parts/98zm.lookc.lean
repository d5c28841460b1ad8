/-! ===== NEXT of the reference, with no word of how deep ===== -/
section LOOKC
variable {M : Mem} {zs : List Clz} {p a n : Nat} {xs : List Int}
theorem M_lookC_loop (ha : a ≠ 1269) (hv : av xs) : ∀ (t i : Nat) (M : Mem) (d3 d4 : LV) (b : Nat), xs.length - i = t → i < xs.length → wf (1 + b) (xs.drop i) → kd (nth xs i) = 2 → Good M → RX M a n 0 xs → ROWP M p zs → mI M 1269 47 = (i : Int) → ∃ M', M_lookCall_0 1269 (p : Int) a d3 d4 M = some (some (.inl (lkR (fnx zs (xs.drop i) i).1)), M') ∧ (((fnx zs (xs.drop i) i).1 = 4 ∨ (fnx zs (xs.drop i) i).1 = 5 → mI M' 1269 47 = ((fnx zs (xs.drop i) i).2.1 : Nat)) ∧ ((fnx zs (xs.drop i) i).1 = 4 → mI M' 1269 49 = ((40 * p + (fnx zs (xs.drop i) i).2.2 : Nat) : Int))) ∧ Fj lkS M M' := by
  intro t
  induction t with
  | zero => intro i M d3 d4 b h1 h2; omega
  | succ t ih =>
    intro i M d3 d4 b h1 hi hw hk2 hG hX hR h47
    have hxl : xs.length ≤ 20480 := by have := hX.2.2.1; have := hX.1.2; omega
    have hc := hX.v hi
    have hcell : mI M a i = cm (nth xs i) := by have := hX.2.1 i hi; rwa [Nat.zero_add] at this
    have hgs : gS M a 0 (i : Int) = true := by have := hX.gs hG hi; rwa [Nat.zero_add] at this
    have hd := drop_cons hi
    rw [hd] at hw ⊢
    unfold fnx
    rw [if_pos hk2]
    have hw2 : wf (b + arN (nth xs i)) (xs.drop (i + 1)) := by
      have e : wf (b + 1) (nth xs i :: xs.drop (i + 1)) := by rw [Nat.add_comm b 1]; exact hw
      exact e
    -- the end of the loop
    have e53 : M_lookCall_53 1269 (p : Int) a d3 d4 M = if tas zs (nth xs i) = -1 then some (some (.inl 1), M) else if tas zs (nth xs i) = 0 then M_lookCall_91 1269 (p : Int) a (tas zs (nth xs i)) 1 d4 M else gd (gS M a 0 ((i + 1 : Nat) : Int)) (cI (M_sortOf (mI M a (i + 1)) M) fun r4 M3 => M_lookCall_91 1269 (p : Int) a (tas zs (nth xs i)) r4 d4 M3) := by
      rw [M_lookCall_53_eq, hG.gM, gd_t, h47, hgs, gd_t, gd_t, toNat_n, hcell, M_toldAs_s hG hR hc, cI_s, hG.gM, gd_t, h47, wr_s (by omega), toNat_n]
    rw [M_lookCall_0_eq, hG.gM, gd_t, h47, hgs, gd_t, gd_t, toNat_n, hcell, M_toldAs_s hG hR hc, cI_s]
    cases hf : fo (nth xs i) zs 0 with
    | none =>
      have ht := tas_n hf
      rw [ht, if_neg (by decide), e53, if_pos ht, fn1_n]
      exact ⟨M, rfl, ⟨fun q => absurd (show (1 : Nat) = 4 ∨ (1 : Nat) = 5 from q) (by decide), fun q => absurd (show (1 : Nat) = 4 from q) (by decide)⟩, Fj.refl⟩
    | some k =>
      have ht := tas_k hf
      obtain ⟨z, z1, z2⟩ : ∃ z, zs[k]? = some z ∧ z.1 = nth xs i := by
        rcases fo_spec (nth xs i) zs 0 with ⟨g, -⟩ | ⟨j, w, g1, g2, g3, -⟩
        · rw [g] at hf; cases hf
        · rw [g1, Nat.zero_add] at hf; cases hf; exact ⟨w, g2, g3⟩
      have hzk := hR.2.2.1 z (List.mem_of_getElem? z1)
      rw [conAt_of z1] at ht
      rw [fn1_s]
      by_cases hcon : z.2.1 = -1
      · rw [if_pos hcon] at ht
        have hcf : cof (nth xs i) 0 zs 0 = some k := cof_fo zs 0 k hf (fun w hw => by rw [Nat.sub_zero, z1] at hw; cases hw; exact hcon) (Nat.zero_le _)
        rw [ht, if_neg (by decide), e53, if_neg (by rw [ht]; decide), if_pos ht, M_lookCall_91_eq, if_neg (by decide), if_pos rfl, hG.gM, gd_t, h47, hgs, gd_t, if_pos ht, toNat_n, hcell, M_lookCall_131_s hG hR hc, hcf, if_neg (by simp)]
        have ec : conAt zs k = -1 := by rw [conAt_of z1]; exact hcon
        simp only [if_pos ec]
        exact ⟨_, rfl, ⟨fun _ => by rw [mI_ne (by omega)]; exact h47, fun _ => mI_at⟩, Fj.ofI (by unfold lkS; omega)⟩
      · rw [if_neg hcon] at ht
        have hal := (hzk.2.2.1.2.2.2 hcon).2
        rw [z2] at hal
        have hi1 : i + 1 < xs.length := by
          by_cases q : i + 1 < xs.length
          · exact q
          · rw [List.drop_eq_nil_of_le (by omega)] at hw2
            obtain ⟨m, hm⟩ : ∃ m, b + arN (nth xs i) = m + 1 := ⟨b + arN (nth xs i) - 1, by omega⟩
            rw [hm] at hw2
            exact absurd hw2 (fun h => h)
        have hd1 := drop_cons hi1
        have hc1 := hX.v hi1
        have hcell1 : mI M a (i + 1) = cm (nth xs (i + 1)) := by have := hX.2.1 (i + 1) hi1; rwa [Nat.zero_add] at this
        have hgs1 : gS M a 0 ((i + 1 : Nat) : Int) = true := by have := hX.gs hG hi1; rwa [Nat.zero_add] at this
        have ec : ¬ conAt zs k = -1 := by rw [conAt_of z1]; exact hcon
        have ehd : (xs.drop (i + 1)).headD 50331648 = nth xs (i + 1) := by rw [hd1]; rfl
        simp only [if_neg ec, ehd]
        rw [ht, if_pos rfl, hG.gM, gd_t, h47, wr_s (by omega), hgs1, gd_t, toNat_n, hcell1, M_sortOf_s hc1, cI_s]
        have hk4 := kd_nn (nth xs (i + 1))
        by_cases k2 : kd (nth xs (i + 1)) = 2
        · have f2 : ∀ w : Int, Fj lkS M (stI (stI M 1269 47 ((i + 1 : Nat) : Int)) 1269 48 w) := fun w => (Fj.ofI (by unfold lkS; omega)).trans (Fj.ofI (by unfold lkS; omega))
          have hw3 : wf (1 + (b + arN (nth xs i) - 1)) (xs.drop (i + 1)) := by rw [show 1 + (b + arN (nth xs i) - 1) = b + arN (nth xs i) by omega]; exact hw2
          rw [if_pos k2, hG.gM, gd_t, gd_t, gd_t, gd_t, h47, wr_s (by omega), if_neg (show ¬ kd (nth xs (i + 1)) = 0 by omega), if_neg (show ¬ kd (nth xs (i + 1)) = 1 by omega)]
          generalize wr (mI (stI M 1269 47 ((i + 1 : Nat) : Int)) 1269 48 + 1) = w
          obtain ⟨M', a1, a2, a3⟩ := ih (i + 1) _ d3 d4 (b + arN (nth xs i) - 1) (by omega) hi1 hw3 k2 (hG.fj (f2 w)) (hX.fj (f2 w) (by unfold lkS; omega)) (hR.fj (f2 w) (by unfold lkS; omega)) (by rw [mI_ne (by omega), mI_at])
          exact ⟨M', a1, a2, (f2 w).trans a3⟩
        · rw [if_neg k2, e53, if_neg (by rw [ht]; decide), if_neg (by rw [ht]; decide), hgs1, gd_t, hcell1, M_sortOf_s hc1, cI_s, M_lookCall_91_eq]
          by_cases k0 : kd (nth xs (i + 1)) = 0
          · rw [if_pos k0, if_pos k0]
            exact ⟨M, rfl, ⟨fun _ => h47, fun q => absurd (show (5 : Nat) = 4 from q) (by decide)⟩, Fj.refl⟩
          rw [if_neg k0, if_neg k0]
          by_cases k1 : kd (nth xs (i + 1)) = 1
          · have hcf : cof (nth xs i) (cm (nth xs (i + 1))) zs 0 = co (nth xs i) (nth xs (i + 1)) zs 0 := cof_co ⟨hc1, k1⟩ zs 0 (fun w hw => (hR.2.2.1 w hw).2.1) (fun w hw e => by
              obtain ⟨j, hj⟩ := List.mem_iff_getElem?.mp hw
              by_cases e1 : j = k
              · subst e1; rw [z1] at hj; cases hj; exact hcon
              · by_cases e2 : j < k
                · exact (hR.2.2.2 j k w z e2 hj z1 (e.trans z2.symm)).1
                · exact (hR.2.2.2 k j z w (by omega) z1 hj (z2.trans e.symm)).2.1)
            rw [if_pos k1, if_pos k1, hG.gM, gd_t, h47, hgs, gd_t, if_neg (by rw [ht]; decide), gd_t, wr_s (by omega), hgs1, gd_t, toNat_n, toNat_n, hcell, hcell1, M_lookCall_131_s hG hR hc, hcf]
            have F2 : ∀ v, Fj lkS M (stI M 1269 49 v) := fun v => Fj.ofI (by unfold lkS; omega)
            cases hco : co (nth xs i) (nth xs (i + 1)) zs 0 with
            | none =>
              rw [if_pos rfl, fn2_n]
              exact ⟨_, rfl, ⟨fun q => absurd (show (1 : Nat) = 4 ∨ (1 : Nat) = 5 from q) (by decide), fun q => absurd (show (1 : Nat) = 4 from q) (by decide)⟩, F2 _⟩
            | some j =>
              rw [if_neg (by simp), fn2_s]
              exact ⟨_, rfl, ⟨fun _ => by rw [mI_ne (by omega)]; exact h47, fun _ => mI_at⟩, F2 _⟩
          · rw [if_neg k1, if_neg k1, hG.gM, gd_t, gd_t, mI_at, if_pos rfl, hd1]
            unfold fnx
            rw [if_neg k2]
            exact ⟨_, rfl, ⟨fun q => absurd (show (1 : Nat) = 4 ∨ (1 : Nat) = 5 from q) (by decide), fun q => absurd (show (1 : Nat) = 4 from q) (by decide)⟩, Fj.ofI (by unfold lkS; omega)⟩
theorem M_lookC_s (ha : a ≠ 1269) (hv : av xs) (hw : wf 1 xs) (hk : kd (nth xs 0) = 2) (hG : Good M) (hX : RX M a n 0 xs) (hR : ROWP M p zs) (h47 : mI M 1269 47 = 0) : ∃ M', M_lookCall 1269 (p : Int) a M = some (some (.inl (lkR (fnx zs xs 0).1)), M') ∧ (((fnx zs xs 0).1 = 4 ∨ (fnx zs xs 0).1 = 5 → mI M' 1269 47 = ((fnx zs xs 0).2.1 : Nat)) ∧ ((fnx zs xs 0).1 = 4 → mI M' 1269 49 = ((40 * p + (fnx zs xs 0).2.2 : Nat) : Int))) ∧ Fj lkS M M' := by
  have hl := wf_len _ _ hw
  have e : M_lookCall 1269 (p : Int) a M = M_lookCall_0 1269 (p : Int) a none none M := (M_lookCall_eq 1269 (p : Int) a M).trans (M_lookCall_0_eq 1269 (p : Int) a none none M).symm
  have := M_lookC_loop ha hv _ 0 M none none 0 rfl (by omega) (by rw [List.drop_zero]; exact hw) hk hG hX hR h47
  rw [List.drop_zero] at this
  rw [e]
  exact this
end LOOKC

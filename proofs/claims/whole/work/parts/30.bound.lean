/-! ===== the class's bound VARS ===== -/
abbrev Bnd : Type := List (Int × List Int)
def bvs (bs : Bnd) : List Int := bs.map fun q => q.1
def flt (bs : Bnd) : List Int := bs.flatMap fun q => q.2
def stp (bs : Bnd) (i : Nat) : Nat := (flt (bs.take i)).length
def BDc (M : Mem) (b : Nat) (bs : Bnd) : Prop := (isB b ∧ mI M b 3 = (bs.length : Int) ∧ bs.length ≤ 200) ∧ RW M (b + 1) 0 (bvs bs) ∧ (∀ i, i < bs.length → mI M (b + 2) i = (stp bs (i + 1) : Int)) ∧ XE M (b + 3) 800 (flt bs)
def bS (b : Nat) : Nat → Prop := fun a => b ≤ a ∧ a < b + 5
/-- a cell with what is bound in place of it -/
def fil (bs : Bnd) (c : Int) : List Int := if kd c = 0 ∧ ix (bvs bs) c ≠ -1 then (bs.getD (ix (bvs bs) c).toNat (0, [])).2 else [c]
def fll (bs : Bnd) (xs : List Int) : List Int := xs.flatMap (fil bs)
theorem bvs_len (bs : Bnd) : (bvs bs).length = bs.length := by unfold bvs; rw [List.length_map]
theorem flt_app (as bs : Bnd) : flt (as ++ bs) = flt as ++ flt bs := by unfold flt; rw [List.flatMap_append]
theorem stp_z (bs : Bnd) : stp bs 0 = 0 := rfl
theorem stp_s {bs : Bnd} {i : Nat} {q : Int × List Int} (h : bs[i]? = some q) : stp bs (i + 1) = stp bs i + q.2.length ∧ stp bs (i + 1) ≤ (flt bs).length ∧ ((flt bs).drop (stp bs i)).take (stp bs (i + 1) - stp bs i) = q.2 := by
  obtain ⟨h1, h2⟩ := List.getElem?_eq_some_iff.mp h
  have e1 : bs.take (i + 1) = bs.take i ++ [q] := by rw [List.take_succ, h]; rfl
  have e2 : stp bs (i + 1) = stp bs i + q.2.length := by
    unfold stp
    rw [e1, flt_app, List.length_append]
    simp [flt]
  have e3 : flt bs = flt (bs.take i) ++ (q.2 ++ flt (bs.drop (i + 1))) := by
    conv => lhs; rw [← List.take_append_drop i bs, flt_app, drop_get h]
    rfl
  have e4 : (flt (bs.take i)).length = stp bs i := rfl
  refine ⟨e2, by rw [e2, e3, List.length_append, List.length_append, e4]; omega, ?_⟩
  rw [e3, List.drop_append_of_le_length (by rw [e4]; exact Nat.le_refl _), show (flt (bs.take i)).drop (stp bs i) = [] from List.drop_eq_nil_of_le (Nat.le_of_eq e4), List.nil_append, e2, Nat.add_sub_cancel_left, List.take_append_of_le_length (Nat.le_refl _), List.take_length]
theorem BDc.fr {M M1 : Mem} {S : Nat → Prop} {b : Nat} {bs : Bnd} (h : BDc M b bs) (f : Fr S M M1) (h0 : ∀ a, bS b a → ¬ S a) : BDc M1 b bs :=
  ⟨⟨h.1.1, ((f.2 b (h0 b (by unfold bS; omega))).1 3).trans h.1.2.1, h.1.2.2⟩, h.2.1.fr f (h0 _ (by unfold bS; omega)), fun i hi => ((f.2 (b + 2) (h0 _ (by unfold bS; omega))).1 i).trans (h.2.2.1 i hi), h.2.2.2.fr f (h0 _ (by unfold bS; omega)) (h0 _ (by unfold bS; omega))⟩
section BOUND
variable {M : Mem} {b : Nat} {bs : Bnd}
theorem BDc.g (hG : Good M) (h : BDc M b bs) : gO M b 0 = true := hG.tgO h.1.1.1
theorem BDc.r (hG : Good M) (h : BDc M b bs) : mR M b 0 = b + 1 ∧ mR M b 1 = b + 2 ∧ mR M b 2 = b + 3 := hG.2.1.2.2.2.2 b h.1.1.1
theorem Bo_clear_s (hG : Good M) (h : BDc M b bs) : ∃ M', Bo_clear b M = some (none, M') ∧ BDc M' b [] ∧ Fi (bS b) M M' := by
  have hF : Fi (fun a => a = b) M (stI M b 3 0) := Fi.ofI rfl
  obtain ⟨M', h1, h2, h3⟩ := Ex_clear_s (hG.fi hF) (h.2.2.2.fi hF (by show ¬ b + 3 = b; omega) (by show ¬ b + 3 + 1 = b; omega))
  refine ⟨M', ?_, ⟨⟨h.1.1, (h3.2.2 b (by unfold eS; omega) 3).trans mI_at, Nat.zero_le _⟩, fun i hi => absurd hi (Nat.not_lt_zero i), fun i hi => absurd hi (Nat.not_lt_zero i), h2⟩, (hF.mono fun a ha => by unfold bS; omega).trans (h3.mono fun a ha => by unfold eS at ha; unfold bS; omega)⟩
  rw [Bo_clear_eq]
  simp only [h.g hG, gd_t, (h.r hG).2.2, h.2.2.2.g hG]
  rw [h1, cV_s]
theorem Bo_has_s (hG : Good M) (h : BDc M b bs) (v : Int) : Bo_has b v M = some (some (.inl (if v ∈ bvs bs then 1 else 0)), M) := by
  have hi := Ex_indexOf_s hG h.1.1.2.1.1 h.2.1 (by rw [bvs_len]; exact h.1.2.2) (by decide) v
  rw [bvs_len] at hi
  rw [Bo_has_eq, h.g hG, gd_t, gd_t, (h.r hG).1, h.1.2.1, hi, cI_s]
  by_cases h1 : v ∈ bvs bs
  · rw [if_neg (ix_mem.mpr h1), if_pos h1]
  · rw [if_pos (Classical.not_not.mp fun q => h1 (ix_mem.mp q)), if_neg h1]
theorem Bo_add_s (hG : Good M) (h : BDc M b bs) (v : Int) {f m : Nat} {ys : List Int} (k : XE M f m ys) (hf : ¬ bS b f) (hf2 : ¬ bS b (f + 1)) (hl : bs.length < 200) (hl2 : (flt bs).length + ys.length ≤ 800) : ∃ M', Bo_add b v f M = some (none, M') ∧ BDc M' b (bs ++ [(v, ys)]) ∧ Fi (bS b) M M' := by
  unfold bS at hf hf2
  obtain ⟨M1, h1, h2, h3⟩ := Ex_addAll_s hG h.2.2.2 k (by omega) (by omega) (by omega) hl2
  have hG1 := hG.fi h3
  have hb : ∀ j, mI M1 b j = mI M b j := h3.2.2 b (by unfold eS; omega)
  have hb1 : ∀ j, mI M1 (b + 1) j = mI M (b + 1) j := h3.2.2 _ (by unfold eS; omega)
  have hb2 : ∀ j, mI M1 (b + 2) j = mI M (b + 2) j := h3.2.2 _ (by unfold eS; omega)
  have hr := hG1.2.1.2.2.2.2 b h.1.1.1
  have hg1 : gO M1 b 0 = true := hG1.tgO h.1.1.1
  have hF : Fi (bS b) M1 (stI (stI (stI M1 (b + 1) bs.length v) (b + 2) bs.length ((flt bs ++ ys).length : Nat)) b 3 ((bs.length + 1 : Nat) : Int)) := ((Fi.ofI (by unfold bS; omega)).trans (Fi.ofI (by unfold bS; omega))).trans (Fi.ofI (by unfold bS; omega))
  have hx : XE (stI (stI (stI M1 (b + 1) bs.length v) (b + 2) bs.length ((flt bs ++ ys).length : Nat)) b 3 ((bs.length + 1 : Nat) : Int)) (b + 3) 800 (flt bs ++ ys) := by
    have q : Fi (fun a => a = b ∨ a = b + 1 ∨ a = b + 2) M1 (stI (stI (stI M1 (b + 1) bs.length v) (b + 2) bs.length ((flt bs ++ ys).length : Nat)) b 3 ((bs.length + 1 : Nat) : Int)) := ((Fi.ofI (by omega)).trans (Fi.ofI (by omega))).trans (Fi.ofI (by omega))
    exact h2.fi q (by omega) (by omega)
  refine ⟨_, ?_, ⟨⟨h.1.1, by rw [mI_at, List.length_append]; rfl, by rw [List.length_append, List.length_singleton]; exact hl⟩, ?_, ?_, ?_⟩, (h3.mono fun a ha => by unfold eS at ha; unfold bS; omega).trans hF⟩
  · rw [Bo_add_eq, h.g hG, gd_t, h.1.2.1, if_pos (by omega), gd_t, (h.r hG).2.2, h.2.2.2.g hG, gd_t, h1, cV_s]
    simp only [hg1, gd_t, hr.1, hr.2.1, hr.2.2, h2.g hG1]
    rw [hb 3, h.1.2.1, hG1.tgS h.1.1.2.1.1 (by omega) (by omega), gd_t, toNat_n, mI_ne (a := b + 1) (b := b) (by omega), hb 3, h.1.2.1, hG1.tgS h.1.1.2.1.2 (by omega) (by omega), gd_t, toNat_n, mI_ne (a := b + 1) (by omega), h2.s, mI_ne (by omega), mI_ne (by omega), hb 3, h.1.2.1, wr_s (by omega)]
  · intro i hi
    rw [bvs_len, List.length_append, List.length_singleton] at hi
    have e : bvs (bs ++ [(v, ys)]) = bvs bs ++ [v] := by unfold bvs; rw [List.map_append]; rfl
    rw [Nat.zero_add, mI_ne (by omega), mI_ne (by omega), e]
    by_cases q : i = bs.length
    · subst q; rw [mI_at, nth_app2 (Nat.le_of_eq (bvs_len bs)), bvs_len, Nat.sub_self]; rfl
    · rw [mI_ne (by omega), hb1, nth_app1 (by rw [bvs_len]; omega)]
      have := h.2.1 i (by rw [bvs_len]; omega)
      rwa [Nat.zero_add] at this
  · intro i hi
    rw [List.length_append, List.length_singleton] at hi
    rw [mI_ne (by omega)]
    by_cases q : i = bs.length
    · subst q
      rw [mI_at]
      unfold stp
      rw [List.take_of_length_le (by rw [List.length_append, List.length_singleton]; omega), flt_app]
      simp [flt]
    · rw [mI_ne (by omega), mI_ne (by omega), hb2, h.2.2.1 i (by omega)]
      unfold stp
      rw [List.take_append_of_le_length (by omega)]
  · rw [flt_app]
    have e : flt [(v, ys)] = ys := by simp [flt]
    rw [e]
    exact hx
theorem Bo_fill_s (hG : Good M) (h : BDc M b bs) {e n : Nat} {xs : List Int} (hx : XE M e n xs) (hv : av xs) {f m : Nat} {ys : List Int} (k : XE M f m ys) (hne : f ≠ e) (hne2 : f + 1 ≠ e) (hne3 : f ≠ e + 1) (hf : ∀ a, eS f a → ¬ bS b a) (hl : (fll bs xs).length ≤ m) : ∃ M', Bo_fill b e f M = some (none, M') ∧ XE M' f m (fll bs xs) ∧ Fi (eS f) M M' := by
  have hxl := hx.lt
  have key : ∀ (j i : Nat) (M1 : Mem) (zs : List Int) (d4 d5 : LV), xs.length - i = j → i ≤ xs.length → zs.length + (fll bs (xs.drop i)).length ≤ m → XE M1 f m zs → Fi (eS f) M M1 → ∃ M', Bo_fill_6 b e f (i : Int) d4 d5 M1 = some (none, M') ∧ XE M' f m (zs ++ fll bs (xs.drop i)) ∧ Fi (eS f) M M' := by
    intro j
    induction j with
    | zero =>
      intro i M1 zs d4 d5 h1 h2 h3 hz hF
      have hx1 := hx.fi hF (by unfold eS; omega) (by unfold eS; omega)
      refine ⟨M1, ?_, ?_, hF⟩
      · rw [Bo_fill_6_eq, hx1.g (hG.fi hF), gd_t, hx1.s, if_neg (by omega)]
      · rw [List.drop_eq_nil_of_le (show xs.length ≤ i by omega)]
        show XE M1 f m (zs ++ [])
        rw [List.append_nil]
        exact hz
    | succ j ih =>
      intro i M1 zs d4 d5 h1 h2 h3 hz hF
      have hlt : i < xs.length := by omega
      have hx1 := hx.fi hF (by unfold eS; omega) (by unfold eS; omega)
      have hb1 : BDc M1 b bs := h.fr hF.fr fun a ha q => hf a q ha
      have hG1 := hG.fi hF
      have hc := av_nth hv hlt
      have e0 : fll bs (xs.drop i) = fil bs (nth xs i) ++ fll bs (xs.drop (i + 1)) := by rw [drop_cons hlt]; rfl
      rw [e0, List.length_append] at h3
      have hvr := ix_rng (bvs bs) (nth xs i)
      rw [bvs_len] at hvr
      have hbl := hb1.1.2.2
      have h46 : ∀ q : Int, q = (if kd (nth xs i) = 0 then ix (bvs bs) (nth xs i) else -1) → ∃ M', Bo_fill_46 b e f (i : Int) (nth xs i) q d5 M1 = some (none, M') ∧ XE M' f m (zs ++ fll bs (xs.drop i)) ∧ Fi (eS f) M M' := by
        intro q hq
        by_cases hm : q = -1
        · have e1 : fil bs (nth xs i) = [nth xs i] := by
            unfold fil
            rw [if_neg]
            intro h5
            rw [if_pos h5.1] at hq
            exact h5.2 (hq.symm.trans hm)
          rw [e1, List.length_singleton] at h3
          obtain ⟨M2, a1, a2, a3⟩ := Ex_add_s hG1 hz (nth xs i) (by omega)
          obtain ⟨M3, b1, b2, b3⟩ := ih (i + 1) M2 (zs ++ [nth xs i]) (some (.inl (nth xs i))) (some (.inl q)) (by omega) (by omega) (by rw [List.length_append, List.length_singleton]; omega) a2 (hF.trans a3)
          refine ⟨M3, ?_, ?_, b3⟩
          · rw [Bo_fill_46_eq, if_pos hm, hz.g hG1, gd_t, a1, cV_s, wr_s (by omega)]
            exact b1
          · rw [e0, e1, ← List.append_assoc]; exact b2
        · have hk : kd (nth xs i) = 0 := Classical.not_not.mp fun h5 => by rw [if_neg h5] at hq; exact hm hq
          rw [if_pos hk] at hq
          obtain ⟨p, hp⟩ : ∃ p : Nat, q = (p : Int) := ⟨q.toNat, by omega⟩
          have hpl : p < bs.length := by omega
          have hget : bs[p]? = some bs[p] := List.getElem?_eq_getElem hpl
          have e1 : fil bs (nth xs i) = bs[p].2 := by
            unfold fil
            rw [if_pos ⟨hk, hq ▸ hm⟩, ← hq, hp, toNat_n, List.getD_eq_getElem?_getD, hget]
            rfl
          obtain ⟨s1, s2, s3⟩ := stp_s hget
          rw [e1] at h3
          obtain ⟨M2, a1, a2, a3⟩ := Ex_addPart_s hG1 hz hb1.2.2.2 (by have := hf f (Or.inl rfl); unfold bS at this; omega) (by have := hf f (Or.inl rfl); unfold bS at this; omega) (by have := hf (f + 1) (Or.inr rfl); unfold bS at this; omega) (a := stp bs p) (b := stp bs (p + 1)) (by omega) s2 (by omega)
          rw [s3] at a2
          obtain ⟨M3, b1, b2, b3⟩ := ih (i + 1) M2 (zs ++ bs[p].2) (some (.inl (nth xs i))) (some (.inl q)) (by omega) (by omega) (by rw [List.length_append]; omega) a2 (hF.trans a3)
          refine ⟨M3, ?_, ?_, b3⟩
          · rw [Bo_fill_46_eq, if_neg hm, hb1.g hG1, gd_t, (hb1.r hG1).2.1, (hb1.r hG1).2.2]
            by_cases hz0 : q = 0
            · have hp0 : p = 0 := by omega
              subst hp0
              rw [if_pos hz0, gd_t, hp, hG1.tgS hb1.1.1.2.1.2 (by omega) (by omega), gd_t, hz.g hG1, gd_t, toNat_n, hb1.2.2.1 0 hpl]
              rw [stp_z] at a1
              rw [show ((0 : Nat) : Int) = 0 from rfl] at a1
              rw [a1, cV_s, wr_s (by omega)]
              rw [hp] at b1
              exact b1
            · rw [if_neg hz0, gd_t, hp, wr_id (x := (p : Int) - 1) (by omega) (by omega), show (p : Int) - 1 = ((p - 1 : Nat) : Int) by omega, hG1.tgS hb1.1.1.2.1.2 (by omega) (by omega), gd_t, gd_t, hG1.tgS hb1.1.1.2.1.2 (by omega) (by omega), gd_t, hz.g hG1, gd_t, toNat_n, toNat_n, hb1.2.2.1 p hpl, hb1.2.2.1 (p - 1) (by omega), show p - 1 + 1 = p by omega, a1, cV_s, wr_s (by omega)]
              rw [hp] at b1
              exact b1
          · rw [e0, e1, ← List.append_assoc]; exact b2
      obtain ⟨M', c1, c2⟩ := h46 _ rfl
      refine ⟨M', ?_, c2⟩
      rw [Bo_fill_6_eq, hx1.g hG1, gd_t, hx1.s, if_pos (by omega), gd_t, Ex_cellAt_s hG1 hx1, cI_s, cA_n hlt, Ex_kind_s hc.inR, cI_s]
      have hi := Ex_indexOf_s hG1 hb1.1.1.2.1.1 hb1.2.1 (by rw [bvs_len]; exact hbl) (by decide) (nth xs i)
      rw [bvs_len] at hi
      by_cases h4 : kd (nth xs i) = 0
      · rw [if_pos h4] at c1 ⊢
        rw [hb1.g hG1, gd_t, gd_t, (hb1.r hG1).1, hb1.1.2.1, hi, cI_s]
        exact c1
      · rw [if_neg h4] at c1 ⊢
        exact c1
  obtain ⟨M1, a1, a2, a3⟩ := Ex_clear_s hG k
  obtain ⟨M2, b1, b2, b3⟩ := key xs.length 0 M1 [] none none rfl (Nat.zero_le _) (by rw [List.drop_zero, List.length_nil, Nat.zero_add]; exact hl) a2 a3
  refine ⟨M2, ?_, ?_, b3⟩
  · rw [Bo_fill_eq, k.g hG, gd_t, a1, cV_s]
    exact b1
  · rw [List.drop_zero, List.nil_append] at b2
    exact b2
end BOUND

/-! ===== the nearest one above that is like it ===== -/
def nrs (P : Nat → Bool) (F : FT) : Nat → Int → Int
  | 0, _ => -1
  | n + 1, u => if u = -1 then -1 else if P u.toNat = true then u else nrs P F n (F u.toNat 15)
theorem nrs_spec {P : Nat → Bool} {F : FT} {L : List Nat} (hU : Uok F L) : ∀ (n : Nat) (u : Int), (u = -1 ∨ (0 ≤ u ∧ u.toNat ∈ L)) → nrs P F n u = -1 ∨ (0 ≤ nrs P F n u ∧ (nrs P F n u).toNat ∈ L ∧ P (nrs P F n u).toNat = true ∧ nrs P F n u ≤ u) := by
  intro n
  induction n with
  | zero => intro u _; exact Or.inl rfl
  | succ n ih =>
    intro u hu
    unfold nrs
    by_cases h : u = -1
    · rw [if_pos h]; exact Or.inl rfl
    · rw [if_neg h]
      obtain ⟨h1, h2⟩ := hu.resolve_left h
      by_cases hp : P u.toNat = true
      · rw [if_pos hp]; exact Or.inr ⟨h1, h2, hp, Int.le_refl _⟩
      · rw [if_neg hp]
        rcases hU _ h2 with e | ⟨e1, e2, e3⟩
        · rw [e]
          cases n with
          | zero => exact Or.inl rfl
          | succ n => exact Or.inl (if_pos rfl)
        · rcases ih (F u.toNat 15) (Or.inr ⟨e1, e3⟩) with g | ⟨g1, g2, g3, g4⟩
          · exact Or.inl g
          · exact Or.inr ⟨g1, g2, g3, by omega⟩
theorem allA_get {E : Nat → Nat → Bool} {xs ys : List Int} {i j : Nat} : ∀ (n k0 : Nat), allA E xs ys i j n k0 = true → ∀ k, k0 ≤ k → k < k0 + n → E (agp xs i k) (agp ys j k) = true := by
  intro n
  induction n with
  | zero => intro k0 _ k h1 h2; omega
  | succ n ih =>
    intro k0 h k h1 h2
    unfold allA at h
    rw [Bool.and_eq_true] at h
    by_cases q : k = k0
    · subst q; exact h.1
    · exact ih (k0 + 1) h.2 k (by omega) (by omega)
theorem anyA_get {E : Nat → Nat → Bool} {ys : List Int} {i j : Nat} : ∀ (n k0 : Nat), anyA E ys i j n k0 = true → ∃ k, k0 ≤ k ∧ k < k0 + n ∧ E i (agp ys j k) = true := by
  intro n
  induction n with
  | zero => intro k0 h; cases h
  | succ n ih =>
    intro k0 h
    unfold anyA at h
    rw [Bool.or_eq_true] at h
    rcases h with h | h
    · exact ⟨k0, Nat.le_refl _, by omega, h⟩
    · obtain ⟨k, h1, h2, h3⟩ := ih (k0 + 1) h
      exact ⟨k, by omega, by omega, h3⟩
/-- what is larger is never coupled -/
theorem cpl_args {E : Nat → Nat → Bool} {xs ys : List Int} {i j : Nat} (he : nth ys j = nth xs i) (hi : i < xs.length) (hj : j < ys.length) (h : ∀ k, k < arN (nth xs i) → beh xs (agp xs i k) - agp xs i k ≤ beh ys (agp ys j k) - agp ys j k) : beh xs i - i ≤ beh ys j - j := by
  have key : ∀ k, k ≤ arN (nth xs i) → agp xs i k - i ≤ agp ys j k - j := by
    intro k
    induction k with
    | zero => intro _; rw [agp_z, agp_z]; omega
    | succ k ih =>
      intro hk
      have h1 := ih (by omega)
      have h2 := h k (by omega)
      have g1 := agp_gt xs i k
      have g2 := agp_gt ys j k
      have g3 : agp xs i k ≤ beh xs (agp xs i k) := by unfold beh; exact Nat.le_add_right _ _
      have g4 : agp ys j k ≤ beh ys (agp ys j k) := by unfold beh; exact Nat.le_add_right _ _
      rw [agp_s, agp_s]
      generalize agp xs i k = a at *
      generalize agp ys j k = b at *
      generalize beh xs a = c at *
      generalize beh ys b = d at *
      omega
  have := key _ (Nat.le_refl _)
  rw [beh_agp hi, beh_agp hj, he]
  exact this
theorem embF_len {xs ys : List Int} (hv : av xs) (hw : wf 1 xs) (hwy : wf 1 ys) : ∀ (n i j : Nat), i < xs.length → j < ys.length → embF xs ys n i j = true → beh xs i - i ≤ beh ys j - j := by
  intro n
  induction n with
  | zero => intro i j _ _ h; cases h
  | succ n ih =>
    intro i j hi hj h
    obtain ⟨b1, w1⟩ := wf_at hw hi
    obtain ⟨b2, w2⟩ := wf_at hwy hj
    have h : (cplF (embF xs ys n) xs ys i j || anyA (embF xs ys n) ys i j (arN (nth ys j)) 0) = true := h
    rw [Bool.or_eq_true] at h
    rcases h with h | h
    · unfold cplF at h
      by_cases hk : kd (nth xs i) = 0
      · have h0 := var_ar (av_nth hv hi) hk
        have e : beh xs i = i + 1 := by unfold beh; rw [drop_cons hi, sk_cons, h0, Nat.add_zero, sk_zero]
        have := beh_gt hj
        omega
      · rw [if_neg hk, Bool.and_eq_true, decide_eq_true_eq] at h
        have hget := allA_get _ _ h.2
        refine cpl_args (E := embF xs ys n) h.1.symm hi hj fun k hk2 => ?_
        obtain ⟨x1, -⟩ := agp_lt w1 hk2
        obtain ⟨y1, -⟩ := agp_lt w2 (k := k) (by rw [← h.1]; exact hk2)
        exact ih _ _ x1 y1 (hget k (Nat.zero_le _) (by omega))
    · obtain ⟨k, h1, h2, h3⟩ := anyA_get _ _ h
      obtain ⟨y1, -⟩ := agp_lt w2 (k := k) (by omega)
      have h4 := ih _ _ hi y1 h3
      have h5 := agp_gt ys j k
      have h6 : agp ys j (k + 1) ≤ agp ys j (arN (nth ys j)) := agp_le (by omega)
      rw [agp_s, ← beh_agp hj] at h6
      generalize agp ys j k = a at *
      generalize beh ys a = c at *
      generalize beh ys j = d at *
      omega
theorem cpl_size {xs ys : List Int} (hv : av xs) (hw : wf 1 xs) (hwy : wf 1 ys) (h : cpl xs ys 0 0 = true) (hk : kd (nth xs 0) ≠ 0) : nth xs 0 = nth ys 0 ∧ xs.length ≤ ys.length := by
  have l1 := wf_len _ _ hw
  have l2 := wf_len _ _ hwy
  have e1 : beh xs 0 = xs.length := by unfold beh; rw [List.drop_zero, sk_self hw, Nat.zero_add]
  have e2 : beh ys 0 = ys.length := by unfold beh; rw [List.drop_zero, sk_self hwy, Nat.zero_add]
  have h2 := h
  unfold cpl cplF at h2
  rw [if_neg hk, Bool.and_eq_true, decide_eq_true_eq] at h2
  refine ⟨h2.1, ?_⟩
  have h3 : emb xs ys 0 0 = true := by rw [emb_eq (by omega) (by omega), h, Bool.true_or]
  have := embF_len hv hw hwy _ 0 0 (by omega) (by omega) h3
  omega
section NEAR
variable {M : Mem} {X : Nat → List Int} {F : FT} {mk k : Nat}
theorem TRc.fq {M1 : Mem} {A R : Nat → Nat → Prop} (h : TRc M X F mk) (hT : TI F mk) (f : Fq A R M M1) (h0 : ∀ a j, (30 ≤ a ∧ a < 750) ∨ (a = 27 ∧ (j = 8 ∨ j = 9)) → ¬ A a j) (h1 : ∀ a j, (30 ≤ a ∧ a < 750) ∨ a = 29 → ¬ R a j) : TRc M1 X F mk := by
  obtain ⟨⟨hLN, h9⟩, hnd, hwk⟩ := h
  have hI : ∀ a j, (30 ≤ a ∧ a < 750) → mI M1 a j = mI M a j := fun a j q => f.2.2 a j (h0 a j (Or.inl q))
  have hR : ∀ a j, (30 ≤ a ∧ a < 750) → mR M1 a j = mR M a j := fun a j q => f.2.1 a j (h1 a j (Or.inl q))
  refine ⟨⟨⟨(f.2.2 _ _ (h0 _ _ (by omega))).trans hLN.1, fun i x hx => (f.2.1 _ _ (h1 _ _ (Or.inr rfl))).trans (hLN.2 i x hx)⟩, (f.2.2 _ _ (h0 _ _ (by omega))).trans h9⟩, fun x hx => ?_, fun x hx => ?_⟩
  · have hxm := hT.1.2.1 x hx
    have := hT.1.2.2
    obtain ⟨p1, ⟨p2, p3⟩, ⟨p4, p5⟩, ⟨p6, p7⟩, p8⟩ := hnd x hx
    exact ⟨p1.fq f fun a j q => h0 a j (by omega), ⟨fun g hg => (hI _ _ (by omega)).trans (p2 g hg), (hI _ _ (by omega)).trans p3⟩, ⟨(hR _ _ (by omega)).trans p4, (hR _ _ (by omega)).trans p5⟩, ⟨(hR _ _ (by omega)).trans p6, (hR _ _ (by omega)).trans p7⟩, (hR _ _ (by omega)).trans p8⟩
  · obtain ⟨⟨zs, w1⟩, us, w2⟩ := hwk x hx
    exact ⟨⟨zs, w1.ext fun a j q => hI a j (by omega)⟩, us, w2.ext fun a j q => hI a j (by omega)⟩
/-- an expression of a node -/
def eok (xs : List Int) : Prop := wf 1 xs ∧ av xs ∧ xs.length ≤ 40
def XOK (X : Nat → List Int) (F : FT) : Prop := ∀ x ∈ lnF F, eok (X x)
def isS (its : Int) : Prop := its = 2 ∨ its = 3
def pRen (X : Nat → List Int) (F : FT) (xs : List Int) (its : Int) : Nat → Bool := fun p => decide (F p 4 = its) && rnc xs (X p) [] []
def pCpl (X : Nat → List Int) (F : FT) (xs : List Int) (its : Int) : Nat → Bool := fun p => decide (F p 4 = its) && cpl (X p) xs 0 0
theorem Tr_nearestRenamed_s (hT : TI F mk) (hX : XOK X F) (hk : k ∈ lnF F) {its : Int} (hits : isS its) : ∀ (n : Nat) (u : Int) (M : Mem), (u = -1 ∨ (0 ≤ u ∧ u.toNat ∈ lnF F)) → u < (n : Int) → Good M → TRc M X F mk → ∃ M', Tr_nearestRenamed_5 27 (30 + 6 * k) its (ndf u) M = some (some (.inr (ndf (nrs (pRen X F (X k) its) F n u))), M') ∧ TRc M' X F mk ∧ Good M' ∧ Fj rnS M M' := by
  have hm := hT.1.2.2
  have hkm := hT.1.2.1 k hk
  intro n
  induction n with
  | zero =>
    intro u M hu hlt hG hR
    have : u = -1 := by omega
    subst this
    rw [show ndf (-1) = 0 from rfl, Tr_nearestRenamed_5_eq, if_pos rfl]
    exact ⟨M, rfl, hR, hG, Fj.refl⟩
  | succ n ih =>
    intro u M hu hlt hG hR
    unfold nrs
    by_cases h : u = -1
    · subst h
      rw [show ndf (-1) = 0 from rfl, Tr_nearestRenamed_5_eq, if_pos rfl, if_pos rfl]
      exact ⟨M, rfl, hR, hG, Fj.refl⟩
    · rw [if_neg h]
      obtain ⟨h1, h2⟩ := hu.resolve_left h
      obtain ⟨p, rfl⟩ := Int.eq_ofNat_of_zero_le h1
      rw [toNat_n] at h2 ⊢
      have hpm := hT.1.2.1 p h2
      obtain ⟨p1, ⟨p2, p3⟩, ⟨p4, p5⟩, -⟩ := hR.2.1 p h2
      obtain ⟨k1, -⟩ := hR.2.1 k hk
      have hnd : ndf (p : Int) = 30 + 6 * p := by unfold ndf; rw [if_neg (by omega), toNat_n]
      have hup : F p 15 = -1 ∨ (0 ≤ F p 15 ∧ (F p 15).toNat ∈ lnF F) := (hT.uok p h2).imp_right fun q => ⟨q.1, q.2.2⟩
      have hupl : F p 15 < (n : Int) := by rcases hT.uok p h2 with e | e <;> omega
      have heq : mI M (30 + 6 * p) 4 = its ↔ F p 4 = its := by
        rw [p3]
        unfold isS at hits
        split <;> omega
      rw [hnd, Tr_nearestRenamed_5_eq, if_neg (by omega), hG.nd (by omega), gd_t]
      unfold pRen
      by_cases hq : F p 4 = its
      · obtain ⟨e1, e2, e3⟩ := hX p h2
        obtain ⟨f1, f2, f3⟩ := hX k hk
        obtain ⟨M1, a1, a2⟩ := Ma_isRenaming_s (e := 31 + 6 * k) (f := 31 + 6 * p) (by omega) (by omega) f2 e2 e3 hG k1.1 p1.1
        have hG1 := hG.fj a2
        have hR1 : TRc M1 X F mk := hR.fq (A := rnS) (R := nor) hT (a2.fq fun a k q => q) (by unfold rnS; omega) (fun a j _ q => q)
        rw [if_pos (heq.mpr hq), hG.gT, gd_t, hG.nd (by omega), gd_t, gd_t, hG.r27_1, hG.gMa, gd_t, (hG.ndr (x := k) (by omega)).1, (hG.ndr (x := p) (by omega)).1, a1, cI_s, decide_eq_true hq, Bool.true_and]
        rcases b2i_01 (rnc (X k) (X p) [] []) with ⟨g1, g2⟩ | ⟨g1, g2⟩
        · rw [g2, g1, if_neg (by decide), if_pos rfl, hnd]
          exact ⟨M1, rfl, hR1, hG1, a2⟩
        · obtain ⟨M2, b1, b2, b3, b4⟩ := ih (F p 15) M1 hup hupl hG1 hR1
          rw [g2, g1, if_pos rfl, if_neg Bool.false_ne_true, hG1.nd (by omega), gd_t, (hR1.2.1 p h2).2.2.1.2, b1]
          exact ⟨M2, rfl, b2, b3, a2.trans b4⟩
      · obtain ⟨M2, b1, b2, b3, b4⟩ := ih (F p 15) M hup hupl hG hR
        rw [if_neg (fun q => hq (heq.mp q)), gd_t, p5, decide_eq_false hq, Bool.false_and, if_neg Bool.false_ne_true, b1]
        exact ⟨M2, rfl, b2, b3, b4⟩
theorem Tr_nearestCoupled_s (hT : TI F mk) (hX : XOK X F) (hk : k ∈ lnF F) {its : Int} (hits : isS its) (hS : ∀ p ∈ lnF F, F p 4 = its → kd (nth (X p) 0) = 2) : ∀ (n : Nat) (u : Int) (M : Mem), (u = -1 ∨ (0 ≤ u ∧ u.toNat ∈ lnF F)) → u < (n : Int) → Good M → TRc M X F mk → ∃ M', Tr_nearestCoupled_5 27 (30 + 6 * k) its (ndf u) M = some (some (.inr (ndf (nrs (pCpl X F (X k) its) F n u))), M') ∧ TRc M' X F mk ∧ Good M' ∧ Fj cmS M M' := by
  have hm := hT.1.2.2
  have hkm := hT.1.2.1 k hk
  intro n
  induction n with
  | zero =>
    intro u M hu hlt hG hR
    have : u = -1 := by omega
    subst this
    rw [show ndf (-1) = 0 from rfl, Tr_nearestCoupled_5_eq, if_pos rfl]
    exact ⟨M, rfl, hR, hG, Fj.refl⟩
  | succ n ih =>
    intro u M hu hlt hG hR
    unfold nrs
    by_cases h : u = -1
    · subst h
      rw [show ndf (-1) = 0 from rfl, Tr_nearestCoupled_5_eq, if_pos rfl, if_pos rfl]
      exact ⟨M, rfl, hR, hG, Fj.refl⟩
    · rw [if_neg h]
      obtain ⟨h1, h2⟩ := hu.resolve_left h
      obtain ⟨p, rfl⟩ := Int.eq_ofNat_of_zero_le h1
      rw [toNat_n] at h2 ⊢
      have hpm := hT.1.2.1 p h2
      obtain ⟨p1, ⟨p2, p3⟩, ⟨p4, p5⟩, -⟩ := hR.2.1 p h2
      obtain ⟨k1, -⟩ := hR.2.1 k hk
      have hnd : ndf (p : Int) = 30 + 6 * p := by unfold ndf; rw [if_neg (by omega), toNat_n]
      have hup : F p 15 = -1 ∨ (0 ≤ F p 15 ∧ (F p 15).toNat ∈ lnF F) := (hT.uok p h2).imp_right fun q => ⟨q.1, q.2.2⟩
      have hupl : F p 15 < (n : Int) := by rcases hT.uok p h2 with e | e <;> omega
      have heq : mI M (30 + 6 * p) 4 = its ↔ F p 4 = its := by
        rw [p3]
        unfold isS at hits
        split <;> omega
      rw [hnd, Tr_nearestCoupled_5_eq, if_neg (by omega), hG.nd (by omega), gd_t]
      rw [show pCpl X F (X k) its p = (decide (F p 4 = its) && cpl (X p) (X k) 0 0) from rfl]
      obtain ⟨M2, b1, b2, b3, b4⟩ := ih (F p 15) M hup hupl hG hR
      by_cases hq : F p 4 = its
      · obtain ⟨e1, e2, e3⟩ := hX p h2
        obtain ⟨f1, f2, f3⟩ := hX k hk
        have hl1 := wf_len _ _ e1
        have hl2 := wf_len _ _ f1
        have hkd := hS p h2 hq
        have c1 : Ex_cellAt (31 + 6 * p) 0 M = some (some (.inl (nth (X p) 0)), M) := by
          have := Ex_cellAt_s hG p1.1 ((0 : Nat) : Int)
          rw [cA_n (by omega)] at this
          exact this
        have c2 : Ex_cellAt (31 + 6 * k) 0 M = some (some (.inl (nth (X k) 0)), M) := by
          have := Ex_cellAt_s hG k1.1 ((0 : Nat) : Int)
          rw [cA_n (by omega)] at this
          exact this
        have go : cpl (X p) (X k) 0 0 = false → ∃ M', Tr_nearestCoupled_5 27 (30 + 6 * k) its (mR M (30 + 6 * p) 15) M = some (some (.inr (ndf (if (decide (F p 4 = its) && cpl (X p) (X k) 0 0) = true then (p : Int) else nrs (pCpl X F (X k) its) F n (F p 15)))), M') ∧ TRc M' X F mk ∧ Good M' ∧ Fj cmS M M' := by
          intro hc
          rw [p5, hc, Bool.and_false, if_neg Bool.false_ne_true, b1]
          exact ⟨M2, rfl, b2, b3, b4⟩
        rw [if_pos (heq.mpr hq), gd_t, (hG.ndr (x := p) (by omega)).1, p1.1.g hG, gd_t, c1, cI_s, hG.nd (by omega), gd_t, (hG.ndr (x := k) (by omega)).1, k1.1.g hG, gd_t, c2, cI_s]
        by_cases hc0 : nth (X p) 0 = nth (X k) 0
        · rw [if_pos hc0, hG.nd (by omega), gd_t, (hG.ndr (x := p) (by omega)).1, p1.1.g hG, gd_t, hG.nd (by omega), gd_t, (hG.ndr (x := k) (by omega)).1, k1.1.g hG, gd_t, p1.1.s, k1.1.s]
          by_cases hsz : (X k).length < (X p).length
          · rw [if_pos (by omega), gd_t]
            refine go ?_
            cases hc : cpl (X p) (X k) 0 0 with
            | false => rfl
            | true => have := (cpl_size e2 e1 f1 hc (by omega)).2; omega
          · obtain ⟨M3, d1, ⟨d2, -⟩, d3⟩ := Ma_compare_s (e := 31 + 6 * p) (f := 31 + 6 * k) (by omega) (by omega) e2 f2 e1 f1 e3 f3 hG p1.1 k1.1
            have hG3 := hG.fj d3
            have hR3 : TRc M3 X F mk := hR.fq (A := cmS) (R := nor) hT (d3.fq fun a k q => q) (by unfold cmS; omega) (fun a j _ q => q)
            rw [if_neg (by omega), hG.gT, gd_t, gd_t, gd_t, hG.r27_1, hG.gMa, gd_t, d1, cV_s, hG3.gT, gd_t, hG3.r27_1, hG3.gMa, gd_t, d2, decide_eq_true hq, Bool.true_and]
            rcases b2i_01 (cpl (X p) (X k) 0 0) with ⟨g1, g2⟩ | ⟨g1, g2⟩
            · rw [g2, g1, if_neg (by decide), if_pos rfl, hnd]
              exact ⟨M3, rfl, hR3, hG3, d3⟩
            · obtain ⟨M4, t1, t2, t3, t4⟩ := ih (F p 15) M3 hup hupl hG3 hR3
              rw [g2, g1, if_pos rfl, if_neg Bool.false_ne_true, hG3.nd (by omega), gd_t, (hR3.2.1 p h2).2.2.1.2, t1]
              exact ⟨M4, rfl, t2, t3, d3.trans t4⟩
        · rw [if_neg hc0, hG.nd (by omega), gd_t]
          refine go ?_
          cases hc : cpl (X p) (X k) 0 0 with
          | false => rfl
          | true => exact absurd (cpl_size e2 e1 f1 hc (by omega)).1 hc0
      · rw [if_neg (fun q => hq (heq.mp q)), gd_t, p5, decide_eq_false hq, Bool.false_and, if_neg Bool.false_ne_true, b1]
        exact ⟨M2, rfl, b2, b3, b4⟩
end NEAR

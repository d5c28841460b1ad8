/-! ===== the class: a LET one, and all kinds ===== -/
section LETC
variable {M : Mem} {X : Nat → List Int} {F : FT} {mk x : Nat} {C : Nat → List Int} {ys : List Int}
/-- what stands for a cell of what comes of the body -/
def clc (X : Nat → List Int) (F : FT) (C : Nat → List Int) (x : Nat) (c : Int) : List Int := if kd c = 0 ∧ ix (ord (X (nfk F x))) c ≠ -1 then C (nfk F x + 1 + (ix (ord (X (nfk F x))) c).toNat) else [c]
theorem Rs_let_walk (hT : TI F mk) (hR : TRc M X F mk) (hG : Good M) (hx : x ∈ lnF F) {a2 : Nat} {i3 i4 : Int} {n : Nat} (hn : 1 + n < nkc F x) (d1 : LV) : ∀ (t i : Nat), n - i = t → i ≤ n → ∃ d7, Rs_addLet_78 754 a2 i3 i4 (n : Int) (30 + 6 * (nfk F x + (1 + i))) (i : Int) d1 M = Rs_addLet_103 754 a2 i3 i4 (30 + 6 * (nfk F x + (1 + n))) d1 (some (.inl (n : Int))) d7 M := by
  intro t
  induction t with
  | zero =>
    intro i h1 h2
    have : i = n := by omega
    subst this
    exact ⟨_, by rw [Rs_addLet_78_eq, if_neg (by omega)]⟩
  | succ t ih =>
    intro i h1 h2
    have hk := hT.kid hx (j := 1 + i) (by omega)
    have hkm := hT.1.2.1 _ hk
    have hm := hT.1.2.2
    have hnx := kid_next hT hR hx (j := 1 + i) (by omega)
    rw [if_pos (by omega)] at hnx
    obtain ⟨d7, a⟩ := ih (i + 1) (by omega) (by omega)
    refine ⟨d7, ?_⟩
    rw [Rs_addLet_78_eq, if_pos (by omega), if_neg (by omega), hG.nd (by omega), gd_t, hnx, wr_s (by omega)]
    exact a
theorem Rs_let_loop (hT : TI F mk) (hx : x ∈ lnF F) (hk : nkc F x = 1 + (ord (X (nfk F x))).length) (hb : (X (nfk F x)).length ≤ 40) (hv : av (C (nfk F x))) (d1 : LV) : ∀ (t i : Nat) (M : Mem) (ys : List Int) (d4 d5 d6 d7 : LV), (C (nfk F x)).length - i = t → i ≤ (C (nfk F x)).length → Good M → TRc M X F mk → (∀ i, i < nkc F x → XE M (34 + 6 * (nfk F x + i)) 100 (C (nfk F x + i))) → XE M 755 10240 ys → ys.length + 100 * t ≤ 10240 → ∃ M', Rs_addLet_12 754 (30 + 6 * nfk F x) (i : Int) d1 d4 d5 d6 d7 M = some (none, M') ∧ XE M' 755 10240 (ys ++ ((C (nfk F x)).drop i).flatMap (clc X F C x)) ∧ Good M' ∧ Fi (eS 755) M M' := by
  have hB := hT.kid hx (j := 0) (by omega)
  rw [Nat.add_zero] at hB
  have hBm := hT.1.2.1 _ hB
  have hm := hT.1.2.2
  have ho := ord_len (X (nfk F x))
  intro t
  induction t with
  | zero =>
    intro i M ys d4 d5 d6 d7 h1 h2 hG hR hK hX hl
    have hKb := hK 0 (by omega)
    rw [Nat.add_zero] at hKb
    have r2 := (hG.ndr (x := nfk F x) (by omega)).2.2
    refine ⟨M, ?_, ?_, hG, Fi.refl⟩
    · rw [Rs_addLet_12_eq, hG.nd (by omega), gd_t, r2, hKb.g hG, gd_t, hKb.s, if_neg (by omega)]
    · rw [List.drop_eq_nil_of_le (by omega), List.flatMap_nil, List.append_nil]; exact hX
  | succ t ih =>
    intro i M ys d4 d5 d6 d7 h1 h2 hG hR hK hX hl
    have hi : i < (C (nfk F x)).length := by omega
    have hKb := hK 0 (by omega)
    rw [Nat.add_zero] at hKb
    have h100 := hKb.2.2
    have nr := hG.ndr (x := nfk F x) (by omega)
    have hd : (C (nfk F x)).drop i = nth (C (nfk F x)) i :: (C (nfk F x)).drop (i + 1) := by rw [nth_lt hi]; exact List.drop_eq_getElem_cons hi
    have hcv := av_nth hv hi
    have cc : Ex_cellAt (34 + 6 * nfk F x) (i : Int) M = some (some (.inl (nth (C (nfk F x)) i)), M) := by
      have := Ex_cellAt_s hG hKb (i : Int)
      rw [cA_n hi] at this
      exact this
    obtain ⟨⟨-, w2, w3⟩, -⟩ := hR.2.1 _ hB
    have o33 : arr (33 + 6 * nfk F x) 0 40 := by
      have := (isN_at (k := nfk F x) (by omega)).2.2.1
      rw [show 30 + 6 * nfk F x + 3 = 33 + 6 * nfk F x by omega] at this
      exact this
    have cx := Ex_indexOf_s hG o33 w2 (by omega) (by decide) (nth (C (nfk F x)) i)
    have hgn := hG.nd (x := nfk F x) (by omega)
    have head : Rs_addLet_12 754 (30 + 6 * nfk F x) (i : Int) d1 d4 d5 d6 d7 M = if kd (nth (C (nfk F x)) i) = 0 then Rs_addLet_59 754 (30 + 6 * nfk F x) (i : Int) (nth (C (nfk F x)) i) (ix (ord (X (nfk F x))) (nth (C (nfk F x)) i)) d1 d6 d7 M else Rs_addLet_59 754 (30 + 6 * nfk F x) (i : Int) (nth (C (nfk F x)) i) (-1) d1 d6 d7 M := by
      rw [Rs_addLet_12_eq, hgn, gd_t, nr.2.2, hKb.g hG, gd_t, hKb.s, if_pos (by omega), gd_t, gd_t, cc, cI_s, Ex_kind_s hcv.inR, cI_s, hgn, gd_t, gd_t, nr.2.1, w3, cx, cI_s]
    -- what is added
    have add : ∀ (M1 : Mem) (zs : List Int) (d5 d6 d7 : LV), zs.length ≤ 100 → XE M1 755 10240 (ys ++ zs) → Good M1 → Fi (eS 755) M M1 → clc X F C x (nth (C (nfk F x)) i) = zs → ∃ M', Rs_addLet_12 754 (30 + 6 * nfk F x) ((i + 1 : Nat) : Int) d1 (some (.inl (nth (C (nfk F x)) i))) d5 d6 d7 M1 = some (none, M') ∧ XE M' 755 10240 (ys ++ ((C (nfk F x)).drop i).flatMap (clc X F C x)) ∧ Good M' ∧ Fi (eS 755) M M' := by
      intro M1 zs d5 d6 d7 z1 z2 z3 z4 z5
      have hR1 : TRc M1 X F mk := hR.fjo hT (z4.fj (T := fun a _ => eS 755 a) fun a j q => q) fun a j q => by unfold eS; omega
      obtain ⟨M', a1, a2, a3, a4⟩ := ih (i + 1) M1 (ys ++ zs) (some (.inl (nth (C (nfk F x)) i))) d5 d6 d7 (by omega) (by omega) z3 hR1 (fun j hj => (hK j hj).fi z4 (by have := hT.1.2.1 _ (hT.kid hx hj); unfold eS; omega) (by have := hT.1.2.1 _ (hT.kid hx hj); unfold eS; omega)) z2 (by rw [List.length_append]; omega)
      refine ⟨M', a1, ?_, a3, z4.trans a4⟩
      rw [hd, List.flatMap_cons, z5, ← List.append_assoc]
      exact a2
    have one : ∀ (d5 d6 d7 : LV), clc X F C x (nth (C (nfk F x)) i) = [nth (C (nfk F x)) i] → ∃ M', Rs_addLet_103 754 (30 + 6 * nfk F x) (i : Int) (nth (C (nfk F x)) i) 0 d1 d5 d7 M = some (none, M') ∧ XE M' 755 10240 (ys ++ ((C (nfk F x)).drop i).flatMap (clc X F C x)) ∧ Good M' ∧ Fi (eS 755) M M' := by
      intro d5 d6 d7 hc
      obtain ⟨M1, b1, b2, b3⟩ := Ex_add_s hG hX (nth (C (nfk F x)) i) (by omega)
      rw [Rs_addLet_103_eq, if_pos rfl, hG.gRs, gd_t, hG.r754_0, hX.g hG, gd_t, b1, cV_s, wr_s (by omega)]
      exact add M1 _ _ _ _ (by rw [List.length_singleton]; omega) b2 (hG.fi b3) b3 hc
    have none1 : ∀ (d6 d7 : LV), clc X F C x (nth (C (nfk F x)) i) = [nth (C (nfk F x)) i] → ∃ M', Rs_addLet_59 754 (30 + 6 * nfk F x) (i : Int) (nth (C (nfk F x)) i) (-1) d1 d6 d7 M = some (none, M') ∧ XE M' 755 10240 (ys ++ ((C (nfk F x)).drop i).flatMap (clc X F C x)) ∧ Good M' ∧ Fi (eS 755) M M' := by
      intro d6 d7 hc
      rw [Rs_addLet_59_eq, if_pos rfl, Rs_addLet_78_eq, if_neg (by decide)]
      exact one _ d6 _ hc
    rw [head]
    by_cases q : kd (nth (C (nfk F x)) i) = 0
    · rw [if_pos q]
      rcases ix_spec (ord (X (nfk F x))) (nth (C (nfk F x)) i) with ⟨e, -⟩ | ⟨n, n1, n2, -⟩
      · rw [e]
        exact none1 _ _ (if_neg (fun h => h.2 e))
      · have hcl : clc X F C x (nth (C (nfk F x)) i) = C (nfk F x + (1 + n)) := by
          unfold clc
          rw [if_pos (show kd (nth (C (nfk F x)) i) = 0 ∧ ix (ord (X (nfk F x))) (nth (C (nfk F x)) i) ≠ -1 from ⟨q, by omega⟩), n2, toNat_n, Nat.add_assoc]
        have hnx := kid_next hT hR hx (j := 0) (by omega)
        rw [if_pos (by omega), Nat.add_zero, Nat.zero_add] at hnx
        obtain ⟨d7', w⟩ := Rs_let_walk (a2 := 30 + 6 * nfk F x) (i3 := (i : Int)) (i4 := nth (C (nfk F x)) i) hT hR hG hx (n := n) (by omega) d1 _ 0 rfl (Nat.zero_le _)
        have w : Rs_addLet_78 754 (30 + 6 * nfk F x) (i : Int) (nth (C (nfk F x)) i) (n : Int) (30 + 6 * (nfk F x + 1)) 0 d1 M = _ := w
        have hKn := hK (1 + n) (by omega)
        have hkn := hT.1.2.1 _ (hT.kid hx (j := 1 + n) (by omega))
        have r2 := (hG.ndr (x := nfk F x + (1 + n)) (by omega)).2.2
        obtain ⟨M1, b1, b2, b3⟩ := Ex_addAll_s hG hX hKn (by omega) (by omega) (by omega) (by have := hKn.2.2; omega)
        rw [n2, Rs_addLet_59_eq, if_neg (by omega), hgn, gd_t, hnx, w, Rs_addLet_103_eq, if_neg (by omega), hG.gRs, gd_t, hG.nd (by omega), gd_t, hG.r754_0, hX.g hG, gd_t, r2, b1, cV_s, wr_s (by omega)]
        exact add M1 _ _ _ _ hKn.2.2 b2 (hG.fi b3) b3 hcl
    · rw [if_neg q]
      exact none1 _ _ (if_neg (fun h => q h.1))
end LETC

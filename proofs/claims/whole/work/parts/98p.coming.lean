/-! ===== the class: what comes of a node ===== -/
def cmC (fn : Int) (vs : List Int) : List Int := (33554432 + (vs.length : Int) * 65536 + (1 + fn)) :: vs
def kcat (F : FT) (C : Nat → List Int) (x : Nat) : List Int := (List.range (nkc F x)).flatMap fun j => C (nfk F x + j)
def clt (X : Nat → List Int) (F : FT) (C : Nat → List Int) (x : Nat) : List Int := (C (nfk F x)).flatMap fun c => if kd c = 0 ∧ ix (ord (X (nfk F x))) c ≠ -1 then C (nfk F x + 1 + (ix (ord (X (nfk F x))) c).toNat) else [c]
def cmo (X : Nat → List Int) (F : FT) (C : Nat → List Int) (x : Nat) : List Int := if F x 4 = 0 then [nth (X x) 0] else if F x 4 = 1 then nth (X x) 0 :: kcat F C x else if F x 4 = 2 ∨ F x 4 = 3 then (if F x 9 = -1 then kcat F C x else cmC (F x 9) (sid (X x) (F x 10))) else if F x 4 = 4 then cmC (F (F x 14).toNat 9) (sid (X x) (F x 10)) else if F x 4 = 5 then clt X F C x else [50331648]
def cgS : Nat → Nat → Prop := fun a j => a = 755 ∨ a = 756 ∨ a = 757 ∨ (a = 754 ∧ j = 2)
section COMING
variable {M : Mem} {X : Nat → List Int} {F : FT} {mk x : Nat} {C : Nat → List Int} {ys : List Int}
theorem Rs_call_loop {vs : List Int} (hvs : vs.length ≤ 44) (d1 d2 : LV) : ∀ (t i : Nat) (M : Mem) (ys : List Int), vs.length - i = t → i ≤ vs.length → Good M → AR M vs → XE M 755 10240 ys → ys.length + (vs.length - i) ≤ 10240 → ∃ M', Rs_addCall_25 754 (i : Int) d1 d2 M = some (none, M') ∧ XE M' 755 10240 (ys ++ vs.drop i) ∧ Good M' ∧ Fi (eS 755) M M' := by
  intro t
  induction t with
  | zero =>
    intro i M ys h1 h2 hG hA hX hl
    refine ⟨M, ?_, ?_, hG, Fi.refl⟩
    · rw [Rs_addCall_25_eq, hG.gRs, gd_t, hA.1, if_neg (by omega)]
    · rw [List.drop_eq_nil_of_le (by omega), List.append_nil]; exact hX
  | succ t ih =>
    intro i M ys h1 h2 hG hA hX hl
    have hi : i < vs.length := by omega
    have hc := hA.2 i hi
    rw [Nat.zero_add] at hc
    have hd : vs.drop i = nth vs i :: vs.drop (i + 1) := by rw [nth_lt hi]; exact List.drop_eq_getElem_cons hi
    obtain ⟨M1, b1, b2, b3⟩ := Ex_add_s hG hX (nth vs i) (by omega)
    have hG1 := hG.fi b3
    have hA1 : AR M1 vs := ⟨(b3.2.2 _ (by unfold eS; omega) _).trans hA.1, hA.2.fi b3 (by unfold eS; omega)⟩
    obtain ⟨M', a1, a2, a3, a4⟩ := ih (i + 1) M1 (ys ++ [nth vs i]) (by omega) (by omega) hG1 hA1 b2 (by rw [List.length_append, List.length_singleton]; omega)
    refine ⟨M', ?_, ?_, a3, b3.trans a4⟩
    · rw [Rs_addCall_25_eq, hG.gRs, gd_t, hA.1, if_pos (by omega), gd_t, gd_t, hG.r754_1, hG.tgS arr_757 (by omega) (by omega), gd_t, hG.r754_0, hX.g hG, gd_t, toNat_n, hc, b1, cV_s, wr_s (by omega), a1]
    · rw [hd]
      rw [List.append_assoc] at a2
      exact a2
theorem Rs_addCall_s (hG : Good M) (hR : TRc M X F mk) (hT : TI F mk) (hx : x ∈ lnF F) (hl : (X x).length ≤ 40) {fn : Int} (hf : -1 ≤ fn ∧ fn < 120) (hs : (sid (X x) (F x 10)).length ≤ 15) (hX : XE M 755 10240 ys) (hy : ys.length ≤ 10000) : ∃ M', Rs_addCall 754 (30 + 6 * x) fn M = some (none, M') ∧ XE M' 755 10240 (ys ++ cmC fn (sid (X x) (F x 10))) ∧ Good M' ∧ Fj cgS M M' := by
  obtain ⟨M1, a1, a2, a3, a4⟩ := Rs_listArguments_s hG hR hT hx hl
  have hX1 : XE M1 755 10240 ys := hX.fj a4 (by unfold arS; omega) (by unfold arS; omega)
  obtain ⟨M2, b1, b2, b3⟩ := Ex_add_s a3 hX1 (33554432 + ((sid (X x) (F x 10)).length : Int) * 65536 + (1 + fn)) (by omega)
  have hG2 := a3.fi b3
  have hA2 : AR M2 (sid (X x) (F x 10)) := ⟨(b3.2.2 _ (by unfold eS; omega) _).trans a2.1, a2.2.fi b3 (by unfold eS; omega)⟩
  obtain ⟨M', c1, c2, c3, c4⟩ := Rs_call_loop (vs := sid (X x) (F x 10)) (by omega) (some (.inr (30 + 6 * x))) (some (.inl fn)) _ 0 M2 _ rfl (Nat.zero_le _) hG2 hA2 b2 (by rw [List.length_append, List.length_singleton]; omega)
  have c1 : Rs_addCall_25 754 0 (some (.inr (30 + 6 * x))) (some (.inl fn)) M2 = some (none, M') := c1
  refine ⟨M', ?_, ?_, c3, ((a4.mono (T := cgS) fun a j q => by unfold arS at q; unfold cgS; omega).trans (b3.fj fun a j q => by unfold eS at q; unfold cgS; omega)).trans (c4.fj fun a j q => by unfold eS at q; unfold cgS; omega)⟩
  · rw [Rs_addCall_eq, hG.gRs, gd_t, a1, cV_s, a3.gRs, gd_t, gd_t, a2.1, wr_id (x := 1 + fn) (by omega) (by omega), Ex_cell_s (by decide) (by omega) (by omega), cI_s, a3.r754_0, hX1.g a3, gd_t, show (2 : Int) * 16777216 = 33554432 from rfl, b1, cV_s, c1]
  · rw [List.drop_zero, List.append_assoc] at c2
    exact c2
/-- what comes of those below -/
theorem kid_next (hT : TI F mk) (hR : TRc M X F mk) (hx : x ∈ lnF F) {j : Nat} (hj : j < nkc F x) : mR M (30 + 6 * (nfk F x + j)) 18 = if j + 1 < nkc F x then 30 + 6 * (nfk F x + (j + 1)) else 0 := by
  have hk := hT.kid hx hj
  have ht := hT.2.1 x hx
  obtain ⟨⟨t1, t2⟩, -⟩ := ht.2.2 j hj
  obtain ⟨-, -, -, -, p8⟩ := hR.2.1 _ hk
  rw [p8]
  unfold ndx
  rw [t1, t2, toNat_n]
  unfold nkc
  have := ht.1
  by_cases q : j + 1 < (F x 8).toNat
  · rw [if_pos q, if_pos (show ((x : Nat) : Int) ≠ -1 ∧ (j : Int) + 1 < F x 8 by omega)]
    rfl
  · rw [if_neg q, if_neg (show ¬ (((x : Nat) : Int) ≠ -1 ∧ (j : Int) + 1 < F x 8) by omega)]
theorem Rs_kcat_loop (hT : TI F mk) (hx : x ∈ lnF F) (hC : ∀ j, j < nkc F x → (C (nfk F x + j)).length ≤ 100) (d1 : LV) : ∀ (t j : Nat) (M : Mem) (ys : List Int), nkc F x - j = t → j < nkc F x → Good M → TRc M X F mk → (∀ i, i < nkc F x → XE M (34 + 6 * (nfk F x + i)) 100 (C (nfk F x + i))) → XE M 755 10240 ys → ys.length + 100 * t ≤ 10240 → ∃ M', Rs_addBelow_5 754 (30 + 6 * (nfk F x + j)) d1 M = some (none, M') ∧ XE M' 755 10240 (ys ++ (List.range' j t).flatMap fun j => C (nfk F x + j)) ∧ Good M' ∧ Fi (eS 755) M M' := by
  intro t
  induction t with
  | zero => intro j M ys h1 h2; omega
  | succ t ih =>
    intro j M ys h1 h2 hG hR hK hX hl
    have hk := hT.kid hx h2
    have hkm := hT.1.2.1 _ hk
    have hm := hT.1.2.2
    have hKj := hK j h2
    have hc := hC j h2
    have r2 := (hG.ndr (x := nfk F x + j) (by omega)).2.2
    obtain ⟨M1, b1, b2, b3⟩ := Ex_addAll_s hG hX hKj (by omega) (by omega) (by omega) (by omega)
    have hG1 := hG.fi b3
    have hR1 : TRc M1 X F mk := hR.fjo hT (b3.fj (T := fun a _ => eS 755 a) fun a j q => q) fun a j q => by unfold eS; omega
    have hn := kid_next hT hR1 hx h2
    have head : Rs_addBelow_5 754 (30 + 6 * (nfk F x + j)) d1 M = Rs_addBelow_5 754 (if j + 1 < nkc F x then 30 + 6 * (nfk F x + (j + 1)) else 0) d1 M1 := by
      rw [Rs_addBelow_5_eq, if_neg (by omega), hG.gRs, gd_t, hG.nd (by omega), gd_t, hG.r754_0, hX.g hG, gd_t, r2, b1, cV_s, hG1.nd (by omega), gd_t, hn]
    rw [head, List.range'_succ, List.flatMap_cons]
    by_cases q : j + 1 < nkc F x
    · obtain ⟨M', a1, a2, a3, a4⟩ := ih (j + 1) M1 (ys ++ C (nfk F x + j)) (by omega) q hG1 hR1 (fun i hi => (hK i hi).fi b3 (by have := hT.1.2.1 _ (hT.kid hx hi); unfold eS; omega) (by have := hT.1.2.1 _ (hT.kid hx hi); unfold eS; omega)) b2 (by rw [List.length_append]; omega)
      rw [if_pos q, a1]
      rw [List.append_assoc] at a2
      exact ⟨M', rfl, a2, a3, b3.trans a4⟩
    · have : t = 0 := by omega
      subst this
      rw [if_neg q, Rs_addBelow_5_eq, if_pos rfl]
      exact ⟨M1, rfl, by rw [show (List.range' (j + 1) 0).flatMap (fun j => C (nfk F x + j)) = [] from rfl, List.append_nil]; exact b2, hG1, b3⟩
theorem Rs_kcat_s (hG : Good M) (hR : TRc M X F mk) (hT : TI F mk) (hx : x ∈ lnF F) (hn : nkc F x ≤ 16) (hK : ∀ i, i < nkc F x → XE M (34 + 6 * (nfk F x + i)) 100 (C (nfk F x + i))) (hX : XE M 755 10240 ys) (hl : ys.length ≤ 1) : ∃ M', Rs_addBelow 754 (30 + 6 * x) M = some (none, M') ∧ XE M' 755 10240 (ys ++ kcat F C x) ∧ Good M' ∧ Fi (eS 755) M M' := by
  have hxm := hT.1.2.1 x hx
  have hm := hT.1.2.2
  obtain ⟨-, -, -, ⟨p6, -⟩, -⟩ := hR.2.1 x hx
  have h0 := (hT.2.1 x hx).1
  rw [Rs_addBelow_eq, hG.nd (by omega), gd_t, p6]
  unfold kcat
  by_cases q : F x 8 = 0
  · rw [if_pos q, Rs_addBelow_5_eq, if_pos rfl, (nkc_0 q).1]
    exact ⟨M, rfl, by rw [show (List.range 0).flatMap (fun j => C (nfk F x + j)) = [] from rfl, List.append_nil]; exact hX, hG, Fi.refl⟩
  · have hk : 0 < nkc F x := by unfold nkc; omega
    obtain ⟨M', a1, a2⟩ := Rs_kcat_loop hT hx (fun j hj => (hK j hj).2.2) (some (.inr (30 + 6 * x))) _ 0 M ys rfl hk hG hR hK hX (by omega)
    rw [if_neg q]
    rw [Nat.sub_zero, ← List.range_eq_range'] at a2
    exact ⟨M', a1, a2⟩
end COMING

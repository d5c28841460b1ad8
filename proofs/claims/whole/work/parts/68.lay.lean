/-! ===== what is bound comes in place of VARS: the reference ===== -/
section LAY
variable {M : Mem} {bs : Bnd} {a y n m2 o : Nat} {xs : List Int}
theorem MB.fi {M1 : Mem} {S : Nat → Prop} (h : MB M bs) (f : Fi S M M1) (h0 : ¬ S 1269 ∧ ¬ S 1289 ∧ ¬ S 1290 ∧ ¬ S 1291) : MB M1 bs := ⟨(f.2.2 _ h0.1 _).trans h.1, fun i q hq => by
  obtain ⟨h1, h2, h3⟩ := h.2 i q hq
  exact ⟨(f.2.2 _ h0.2.1 _).trans h1, (f.2.2 _ h0.2.2.1 _).trans h2, fun j hj => (f.2.2 _ h0.2.2.2 _).trans (h3 j hj)⟩⟩
theorem M_boundPlace_s (hG : Good M) (h : MB M bs) (hb : bok bs) {v : Int} (hv : 0 ≤ v ∧ v < 65536) : M_boundPlace 1269 (nmo v) M = some (some (.inl (ix (bvs bs) v)), M) := by
  have hl := hb.2.2
  have key : ∀ (t i : Nat), bs.length - i = t → i ≤ bs.length → M_boundPlace_2 1269 (nmo v) (i : Int) M = some (some (.inl (ixo v ((bvs bs).drop i) i)), M) := by
    intro t
    induction t with
    | zero =>
      intro i e1 e2
      rw [M_boundPlace_2_eq, hG.gM, gd_t, h.1, if_neg (by omega), List.drop_eq_nil_of_le (by rw [bvs_len]; omega)]
      rfl
    | succ t ih =>
      intro i e1 e2
      obtain ⟨q, hq⟩ : ∃ q, bs[i]? = some q := ⟨bs[i], List.getElem?_eq_getElem (by omega)⟩
      have hqv := (hb.1 q (List.mem_of_getElem? hq)).1
      have hbi : i < (bvs bs).length := by rw [bvs_len]; omega
      have hnb : nth (bvs bs) i = q.1 := by
        unfold nth bvs
        rw [List.getD_eq_getElem?_getD, List.getElem?_map, hq]
        rfl
      rw [M_boundPlace_2_eq, hG.gM, gd_t, h.1, if_pos (by omega), gd_t, hG.m30, hG.tgS arr_1289 (by omega) (by omega), gd_t, toNat_n, (h.2 i q hq).1, drop_cons hbi, hnb, wr_s (by omega)]
      unfold ixo
      by_cases e : q.1 = v
      · rw [if_pos (by rw [e]), if_pos e]
      · rw [if_neg (fun z => e ((nmo_var (vc_var (by omega)) (vc_var (by omega)) (kd_var (by omega)).1 (kd_var (by omega)).1).mp z)), if_neg e]
        exact ih (i + 1) (by omega) (by omega)
  rw [M_boundPlace_eq]
  exact key _ 0 rfl (Nat.zero_le _)
theorem fil_at {v : Int} {j : Nat} {q : Int × List Int} (hk : kd v = 0) (hj : ix (bvs bs) v = (j : Int)) (hq : bs[j]? = some q) : fil bs v = q.2 := by
  unfold fil
  rw [if_pos ⟨hk, by rw [hj]; omega⟩, hj, toNat_n, List.getD_eq_getElem?_getD, hq]
  rfl
theorem M_layBound_loop (hay : a ≠ y) (hy : y ≠ 1269 ∧ ¬ (1289 ≤ y ∧ y ≤ 1291)) (hya : arr y 0 m2 ∧ m2 ≤ 20480) (hb : bok bs) (hav : av xs) : ∀ (t i : Nat) (M : Mem) (us : List Int) (d1 d2 : LV), xs.length - i = t → i ≤ xs.length → Good M → RX M a n o xs → MB M bs → RM M y 0 us → us.length + (fll bs (xs.drop i)).length ≤ m2 → ∃ M', M_layBound_6 1269 a (o : Int) (xs.length : Int) y (us.length : Int) ((o + i : Nat) : Int) d1 d2 M = some (some (.inl ((us ++ fll bs (xs.drop i)).length : Int)), M') ∧ RM M' y 0 (us ++ fll bs (xs.drop i)) ∧ Fi (fun b => b = y) M M' := by
  have hbl := hb.2.2
  have hfl := hb.2.1
  intro t
  induction t with
  | zero =>
    intro i M us d1 d2 e1 e2 hG hX hB hU hl
    have hxl := hX.2.2.1
    have hn := hX.1.2
    rw [List.drop_eq_nil_of_le (by omega)] at hl ⊢
    rw [M_layBound_6_eq, wr_id (x := (o : Int) + (xs.length : Int)) (by omega) (by omega), if_neg (by omega)]
    exact ⟨M, by rw [show fll bs [] = [] from rfl, List.append_nil], by rw [show fll bs [] = [] from rfl, List.append_nil]; exact hU, Fi.refl⟩
  | succ t ih =>
    intro i M us d1 d2 e1 e2 hG hX hB hU hl
    have hxl := hX.2.2.1
    have hn := hX.1.2
    have hi : i < xs.length := by omega
    have hcv := av_nth hav hi
    have hcell : mI M a (o + i) = cm (nth xs i) := hX.2.1 i hi
    have efl : fll bs (nth xs i :: xs.drop (i + 1)) = fil bs (nth xs i) ++ fll bs (xs.drop (i + 1)) := by unfold fll; rw [List.flatMap_cons]
    rw [drop_cons hi, efl] at hl ⊢
    rw [List.length_append] at hl
    have go : ∀ (M1 : Mem) (d4 d5 : LV), RM M1 y 0 (us ++ fil bs (nth xs i)) → Fi (fun b => b = y) M M1 → ∃ M', M_layBound_6 1269 a (o : Int) (xs.length : Int) y ((us ++ fil bs (nth xs i)).length : Int) ((o + (i + 1) : Nat) : Int) d4 d5 M1 = some (some (.inl ((us ++ (fil bs (nth xs i) ++ fll bs (xs.drop (i + 1)))).length : Int)), M') ∧ RM M' y 0 (us ++ (fil bs (nth xs i) ++ fll bs (xs.drop (i + 1)))) ∧ Fi (fun b => b = y) M M' := by
      intro M1 d4 d5 hU1 hF
      obtain ⟨M2, a1, a2, a3⟩ := ih (i + 1) M1 _ d4 d5 (by omega) (by omega) (hG.fi hF) (hX.fi hF hay) (hB.fi hF (by omega)) hU1 (by rw [List.length_append]; omega)
      rw [List.append_assoc] at a1 a2
      exact ⟨M2, a1, a2, hF.trans a3⟩
    have none1 : fil bs (nth xs i) = [nth xs i] → ∀ d3 d4, ∃ M', M_layBound_39 1269 a (o : Int) (xs.length : Int) y (us.length : Int) ((o + i : Nat) : Int) (-1) d3 d4 M = some (some (.inl ((us ++ (fil bs (nth xs i) ++ fll bs (xs.drop (i + 1)))).length : Int)), M') ∧ RM M' y 0 (us ++ (fil bs (nth xs i) ++ fll bs (xs.drop (i + 1)))) ∧ Fi (fun b => b = y) M M' := by
      intro hp d3 d4
      rw [hp] at hl go ⊢
      rw [List.length_singleton] at hl
      have hU1 : RM (stI M y us.length (cm (nth xs i))) y 0 (us ++ [nth xs i]) := by have := hU.push (c := nth xs i); rwa [Nat.zero_add] at this
      rw [M_layBound_39_eq, if_pos rfl, hX.gs hG hi, gd_t, hG.tgS hya.1 (by omega) (by omega), gd_t, toNat_n, toNat_n, hcell, wr_s (i := us.length) (by omega), wr_s (by omega), show ((us.length + 1 : Nat) : Int) = ((us ++ [nth xs i]).length : Int) by rw [List.length_append]; rfl]
      exact go _ _ _ hU1 (Fi.ofI rfl)
    rw [M_layBound_6_eq, wr_id (x := (o : Int) + (xs.length : Int)) (by omega) (by omega), if_pos (by omega), hX.gs hG hi, gd_t, toNat_n, hcell, M_sortOf_s hcv, cI_s]
    by_cases hk0 : kd (nth xs i) = 0
    · have hvr : 0 ≤ nth xs i ∧ nth xs i < 65536 := by
        have h1 := hcv.1
        have h2 := hcv.2.1 hk0
        have h3 : sy (nth xs i) < 65536 := by unfold sy; omega
        omega
      rw [if_pos hk0, hX.gs hG hi, gd_t, hcell, M_nameOf_s hcv, cI_s, hG.gM, gd_t, M_boundPlace_s hG hB hb hvr, cI_s]
      by_cases hix : ix (bvs bs) (nth xs i) = -1
      · rw [hix]
        exact none1 (by unfold fil; rw [if_neg (fun q => q.2 hix)]) _ _
      · have hrg := ix_rng (bvs bs) (nth xs i)
        rw [bvs_len] at hrg
        obtain ⟨j, hj⟩ := Int.eq_ofNat_of_zero_le (show 0 ≤ ix (bvs bs) (nth xs i) by omega)
        rw [hj] at hrg
        obtain ⟨q, hq⟩ : ∃ q, bs[j]? = some q := ⟨bs[j], List.getElem?_eq_getElem (by omega)⟩
        have hp := fil_at hk0 hj hq
        obtain ⟨b1, b2, b3⟩ := hB.2 j q hq
        obtain ⟨-, ⟨q1, q2, q3⟩, -⟩ := hb.1 q (List.mem_of_getElem? hq)
        obtain ⟨s1, s2, -⟩ := stp_s hq
        have hXb : RX M 1291 800 (stp bs j) q.2 := ⟨⟨arr_1291, by decide⟩, b3, by omega, q2⟩
        have e7 := M_behind_s hG hXb (p := 0) (b := 0) (by rw [List.drop_zero]; exact q1)
        have hbq : beh q.2 0 = q.2.length := by unfold beh; rw [List.drop_zero, sk_self q1, Nat.zero_add]
        rw [Nat.add_zero, hbq] at e7
        rw [hp] at hl go ⊢
        obtain ⟨M1, a1, a2, a3⟩ := M_copy_s hG (s := 1291) (d := y) (p := stp bs j) (q := us.length) (k := q.2.length) arr_1291 hya.1 (by omega) (by omega) ⟨by decide, hya.2⟩ (Or.inl (by omega))
        have hU1 : RM M1 y 0 (us ++ q.2) := by
          intro k hk
          rw [List.length_append] at hk
          rw [Nat.zero_add, a3]
          by_cases e : us.length ≤ k
          · have h2 := b3 (k - us.length) (by omega)
            rw [if_pos (by omega), h2, nth_app2 e]
          · have h2 := hU k (by omega)
            rw [Nat.zero_add] at h2
            rw [if_neg (by omega), h2, nth_app1 (by omega)]
        rw [hj, M_layBound_39_eq, if_neg (by omega), hG.gM, gd_t, gd_t, hG.m31, hG.tgS arr_1290 (by omega) (by omega), gd_t, hG.m32, toNat_n, b2, e7, cI_s, hG.gM, gd_t, gd_t, gd_t, hG.m31, hG.tgS arr_1290 (by omega) (by omega), gd_t, gd_t, hG.m32, b2, wr_id (x := ((stp bs j + q.2.length : Nat) : Int) - ((stp bs j : Nat) : Int)) (by omega) (by omega), show ((stp bs j + q.2.length : Nat) : Int) - ((stp bs j : Nat) : Int) = (q.2.length : Int) by omega, a1, cV_s, wr_id (x := (us.length : Int) + (q.2.length : Int)) (by omega) (by omega), wr_s (by omega), show (us.length : Int) + (q.2.length : Int) = ((us ++ q.2).length : Int) by rw [List.length_append]; omega]
        exact go M1 _ _ hU1 a2
    · rw [if_neg hk0]
      exact none1 (by unfold fil; rw [if_neg (fun q => hk0 q.1)]) _ _
theorem M_layBound_s (hay : a ≠ y) (hy : y ≠ 1269 ∧ ¬ (1289 ≤ y ∧ y ≤ 1291)) (hya : arr y 0 m2 ∧ m2 ≤ 20480) (hb : bok bs) (hav : av xs) (hG : Good M) (hX : RX M a n o xs) (hB : MB M bs) (hl : (fll bs xs).length ≤ m2) : ∃ M', M_layBound 1269 a (o : Int) (xs.length : Int) y M = some (some (.inl ((fll bs xs).length : Int)), M') ∧ RM M' y 0 (fll bs xs) ∧ Fi (fun b => b = y) M M' := by
  obtain ⟨M', a1, a2, a3⟩ := M_layBound_loop hay hy hya hb hav _ 0 M [] none none rfl (Nat.zero_le _) hG hX hB (fun j hj => absurd hj (Nat.not_lt_zero j)) (by rw [List.drop_zero]; simpa using hl)
  rw [M_layBound_eq]
  rw [List.drop_zero] at a1 a2
  exact ⟨M', a1, a2, a3⟩
end LAY

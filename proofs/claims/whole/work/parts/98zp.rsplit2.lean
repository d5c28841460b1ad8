/-! ===== the reference: a case below one ===== -/
/-- the call is looked up again where a CON stands in place of the VAR: that case -/
theorem fnx_spl {zs : List Clz} {xs ys : List Int} {con : Int} {p : Nat} (hp : p + 1 < xs.length) (hl : p + 1 < ys.length) (he : ∀ j, j ≤ p → nth ys j = nth xs j) (hc : nth ys (p + 1) = con) (hk : kd con = 1) : ∀ (n i : Nat), p < n + i → i ≤ p → (fnx zs (xs.drop i) i).1 = 5 → (fnx zs (xs.drop i) i).2.1 = p → ∃ k, fnx zs (ys.drop i) i = fn2 (co (nth xs p) con zs 0) p k := by
  intro n
  induction n with
  | zero => intro i h1 h2; omega
  | succ n ih =>
    intro i h1 h2 h5 h6
    have hi : i < xs.length := by omega
    have hi2 : i < ys.length := by omega
    rw [drop_cons hi] at h5 h6
    rw [drop_cons hi2, he i h2]
    unfold fnx at h5 h6 ⊢
    by_cases hk2 : kd (nth xs i) = 2
    · rw [if_pos hk2] at h5 h6 ⊢
      cases hf : fo (nth xs i) zs 0 with
      | none => rw [hf] at h5; cases h5
      | some k =>
        rw [hf, fn1_s] at h5 h6
        rw [fn1_s]
        by_cases hc1 : conAt zs k = -1
        · rw [if_pos hc1] at h5; cases h5
        · rw [if_neg hc1] at h5 h6 ⊢
          by_cases k0 : kd ((xs.drop (i + 1)).headD 50331648) = 0
          · rw [if_pos k0] at h6
            have e : i = p := h6
            subst e
            have hh : (ys.drop (i + 1)).headD 50331648 = con := by rw [drop_cons hl]; exact hc
            rw [hh, if_neg (by omega), if_pos hk]
            exact ⟨k, rfl⟩
          rw [if_neg k0] at h5 h6
          by_cases k1 : kd ((xs.drop (i + 1)).headD 50331648) = 1
          · rw [if_pos k1] at h5
            cases hco : co (nth xs i) ((xs.drop (i + 1)).headD 50331648) zs 0 with
            | none => rw [hco] at h5; cases h5
            | some j => rw [hco] at h5; cases h5
          · rw [if_neg k1] at h5 h6
            have hip : i + 1 ≤ p := by
              have := (fnx_blk (zs := zs) (xs := xs) _ (i + 1) rfl (by omega) h5).1.1
              omega
            have hh : (ys.drop (i + 1)).headD 50331648 = (xs.drop (i + 1)).headD 50331648 := by
              rw [drop_cons (show i + 1 < ys.length by omega), drop_cons (show i + 1 < xs.length by omega)]
              exact he _ hip
            rw [hh, if_neg k0, if_neg k1]
            exact ih (i + 1) (by omega) hip h5 h6
    · rw [if_neg hk2] at h5; cases h5
theorem spl_fnx {zs : List Clz} {xs : List Int} {z : Clz} {fr c : Nat} (hw : wf 1 xs) (hv : av xs) (hzs : zsk 100 zs) (hok : okP zs) (h5 : (fnx zs xs 0).1 = 5) (hz : zs[c]? = some z) (hf : z.1 = nth xs (fnx zs xs 0).2.1) (hcon : z.2.1 ≠ -1) : fnx zs (spl xs (nth xs ((fnx zs xs 0).2.1 + 1)) z.2.1 fr) 0 = (4, (fnx zs xs 0).2.1, c) := by
  obtain ⟨⟨-, g1⟩, g2, g3, -⟩ := fnx_blk (zs := zs) (xs := xs) _ 0 rfl (Nat.zero_le _) (by rw [List.drop_zero]; exact h5)
  rw [List.drop_zero] at g1 g2 g3
  have hzk := hzs z (List.mem_of_getElem? hz)
  obtain ⟨c1, c2⟩ := hzk.2.1.resolve_left hcon
  have hm := fun (ys : List Int) (hl) (he) (hc) => fnx_spl (zs := zs) (xs := xs) (ys := ys) (con := z.2.1) g1 hl he hc c2 ((fnx zs xs 0).2.1 + 1) 0 (by omega) (Nat.zero_le _) (by rw [List.drop_zero]; exact h5) (by rw [List.drop_zero])
  generalize (fnx zs xs 0).2.1 = p at *
  obtain ⟨r, hr⟩ := spl_pre (con := z.2.1) (fr := fr) g2 g1 (fun j hj => g3 j (Nat.zero_le _) hj) rfl
  have hlen : (xs.take (p + 1)).length = p + 1 := by rw [List.length_take]; omega
  obtain ⟨k, hk⟩ := hm (spl xs (nth xs (p + 1)) z.2.1 fr) (by rw [hr, List.length_append, hlen, List.length_cons]; omega) (fun j hj => by rw [hr, nth_app1 (by omega), nth_take (by omega)]) (by rw [hr, nth_app2 (by omega), hlen, Nat.sub_self]; rfl)
  rw [List.drop_zero] at hk
  have hco : co (nth xs p) z.2.1 zs 0 = some c := by
    rcases co_spec (nth xs p) z.2.1 zs 0 with ⟨-, h⟩ | ⟨j, w, h1, h2, h3, h4⟩
    · exact absurd ⟨hf, rfl⟩ (h z (List.mem_of_getElem? hz))
    · rw [h1, Nat.zero_add]
      by_cases q1 : j < c
      · exact absurd h3.2 ((hok j c w z q1 h2 hz (h3.1.trans hf.symm)).2.2)
      · by_cases q2 : c < j
        · exact absurd ⟨hf, rfl⟩ (h4 c z q2 hz)
        · rw [show j = c by omega]
  rw [hk, hco]
  rfl
section RSPLIT2
variable {M : Mem} {k : Nat}
theorem arr_1318 : arr 1318 0 41 := arr_of _ _ _ (by decide)
theorem RM_app {M : Mem} {a : Nat} {ys zs : List Int} (h1 : ∀ i, i < ys.length → mI M a i = cm (nth ys i)) (h2 : ∀ i, i < zs.length → mI M a (ys.length + i) = cm (nth zs i)) : RM M a 0 (ys ++ zs) := by
  intro i hi
  rw [Nat.zero_add]
  rw [List.length_append] at hi
  by_cases q : i < ys.length
  · rw [nth_app1 q]; exact h1 i q
  · have := h2 (i - ys.length) (by omega)
    rw [nth_app2 (by omega), ← this, show ys.length + (i - ys.length) = i by omega]
theorem M_split_loop {xs : List Int} {blk con : Int} {fr : Nat} (hk : k < 120) (h40 : xs.length ≤ 40) (hb : vc blk ∧ kd blk = 0) (hcon : vc con) (hn : arN con ≤ 4) (hfr : 1414 ≤ fr ∧ fr + 400 < 65536) (d2 : LV) : ∀ (t i : Nat) (M : Mem) (ys : List Int) (d6 d7 d8 : LV), xs.length - i = t → i ≤ xs.length → Good M → RX M 1318 41 0 xs → mI M 1310 k = (xs.length : Int) → mI M 1317 k = nmo blk → mI M 1269 75 = (fr : Int) + 98586 → RM M 1319 0 ys → ys.length + 5 * t ≤ 290 → ∃ (M' : Mem) (e6 e7 e8 : LV), M_splitBelow_13 1269 (k : Int) (cm con) (ys.length : Int) (i : Int) d2 d6 d7 d8 M = M_splitBelow_13 1269 (k : Int) (cm con) ((ys ++ spl (xs.drop i) blk con fr).length : Int) (xs.length : Int) d2 e6 e7 e8 M' ∧ RM M' 1319 0 (ys ++ spl (xs.drop i) blk con fr) ∧ Good M' ∧ Fj (fun a _ => a = 1319) M M' := by
  have har := arN_ar con
  intro t
  induction t with
  | zero =>
    intro i M ys d6 d7 d8 h1 h2 hG hX h10 h17 h75 hY hl
    have : i = xs.length := by omega
    subst this
    have e0 : ys ++ spl (xs.drop xs.length) blk con fr = ys := by
      rw [List.drop_eq_nil_of_le (Nat.le_refl _)]
      exact List.append_nil ys
    rw [e0]
    exact ⟨M, d6, d7, d8, rfl, hY, hG, Fj.refl⟩
  | succ t ih =>
    intro i M ys d6 d7 d8 h1 h2 hG hX h10 h17 h75 hY hl
    have hi : i < xs.length := by omega
    have hc := hX.v hi
    have hcell : mI M 1318 i = cm (nth xs i) := by have := hX.2.1 i hi; rwa [Nat.zero_add] at this
    have hgs : gS M 1318 0 (i : Int) = true := by have := hX.gs hG hi; rwa [Nat.zero_add] at this
    have g10 : gS M 1310 0 (k : Int) = true := hG.tgS (arr_nd (by decide)) (by omega) (by omega)
    have g17 : gS M 1317 0 (k : Int) = true := hG.tgS (arr_nd (by decide)) (by omega) (by omega)
    have g19 : gS M 1319 0 (ys.length : Int) = true := hG.tgS arr_1319 (by omega) (by omega)
    have hYc : ∀ i, i < ys.length → mI M 1319 i = cm (nth ys i) := fun i hi => by have := hY i hi; rwa [Nat.zero_add] at this
    have e0 : spl (xs.drop i) blk con fr = (if nth xs i = blk then con :: vsq fr (arN con) else [nth xs i]) ++ spl (xs.drop (i + 1)) blk con fr := by rw [drop_cons hi]; rfl
    have head : M_splitBelow_13 1269 (k : Int) (cm con) (ys.length : Int) (i : Int) d2 d6 d7 d8 M = M_splitBelow_60 1269 (k : Int) (cm con) (ys.length : Int) (i : Int) (cm (nth xs i)) (if nth xs i = blk then 1 else 0) d2 d7 d8 M := by
      rw [M_splitBelow_13_eq, hG.gM, gd_t, hG.m64, g10, gd_t, toNat_n, h10, if_pos (by omega), gd_t, hG.m78, hgs, gd_t, toNat_n, hcell, M_sortOf_s hc, cI_s]
      by_cases k0 : kd (nth xs i) = 0
      · rw [if_pos k0, M_nameOf_s hc, cI_s, hG.gM, gd_t, hG.m71, g17, gd_t, h17]
        by_cases q : nth xs i = blk
        · rw [if_pos (by rw [q]), if_pos q]
        · rw [if_neg (fun e => q ((nmo_var hc hb.1 k0 hb.2).mp e)), if_neg q]
      · rw [if_neg k0, if_neg (show ¬ nth xs i = blk from fun q => k0 (by rw [q]; exact hb.2))]
    rw [head, e0, ← List.append_assoc, M_splitBelow_60_eq, hG.gM, gd_t, hG.m79, g19, gd_t, gd_t, toNat_n, wr_s (by omega)]
    by_cases q : nth xs i = blk
    · have f1 : Fj (fun a _ => a = 1319) M (stI M 1319 ys.length (cm con)) := Fj.ofI rfl
      obtain ⟨M2, b1, b2, b3, b4⟩ := M_split_new (i1 := (k : Int)) (i5 := i) (o := ys.length + 1) hcon hn hfr (by omega) (by omega) d2 (some (.inl (cm (nth xs i)))) (arN con) 0 (stI M 1319 ys.length (cm con)) (Nat.zero_add _) (hG.fj f1) ((f1.2.2 _ _ (by omega)).trans h75)
      have b1 : M_splitBelow_86 1269 (k : Int) (cm con) ((ys.length + 1 : Nat) : Int) (i : Int) 1 0 d2 (some (.inl (cm (nth xs i)))) (stI M 1319 ys.length (cm con)) = _ := b1
      have F2 : Fj (fun a _ => a = 1319) M M2 := f1.trans (b4.mono fun a j q => q.1)
      have hY2 : RM M2 1319 0 (ys ++ (con :: vsq fr (arN con))) := RM_app (fun j hj => by
          rw [b4.2.2 _ _ (by omega), mI_ne (by omega)]
          exact hYc j hj) (fun j hj => by
          cases j with
          | zero =>
            rw [b4.2.2 _ _ (by omega)]
            exact mI_at
          | succ j =>
            rw [List.length_cons, vsq_len] at hj
            have hn1 : nth (con :: vsq fr (arN con)) (j + 1) = nth (vsq fr (arN con)) j := rfl
            rw [hn1, vsq_nth (by omega), ← b2 j (Nat.zero_le _) (by omega), show ys.length + (j + 1) = ys.length + 1 + j by omega])
      have hl2 : (ys ++ (con :: vsq fr (arN con))).length = ys.length + 1 + arN con := by rw [List.length_append, List.length_cons, vsq_len]; omega
      obtain ⟨M3, e6, e7, e8, c1, c2, c3, c4⟩ := ih (i + 1) M2 (ys ++ (con :: vsq fr (arN con))) (some (.inl (cm (nth xs i)))) (some (.inl 1)) (some (.inl (arN con : Int))) (by omega) (by omega) b3 (hX.fj F2 (by omega)) ((F2.2.2 _ _ (by omega)).trans h10) ((F2.2.2 _ _ (by omega)).trans h17) ((F2.2.2 _ _ (by omega)).trans h75) hY2 (by omega)
      rw [hl2] at c1
      rw [if_pos q, if_neg (by decide), if_pos q, b1, c1]
      exact ⟨M3, e6, e7, e8, rfl, c2, c3, F2.trans c4⟩
    · have f1 : Fj (fun a _ => a = 1319) M (stI M 1319 ys.length (cm (nth xs i))) := Fj.ofI rfl
      have hl2 : (ys ++ [nth xs i]).length = ys.length + 1 := by rw [List.length_append]; rfl
      have hY2 : RM (stI M 1319 ys.length (cm (nth xs i))) 1319 0 (ys ++ [nth xs i]) := RM_app (fun j hj => by
          rw [mI_ne (by omega)]
          exact hYc j hj) (fun j hj => by
          have : j = 0 := by rw [List.length_singleton] at hj; omega
          subst this
          exact mI_at)
      obtain ⟨M3, e6, e7, e8, c1, c2, c3, c4⟩ := ih (i + 1) (stI M 1319 ys.length (cm (nth xs i))) (ys ++ [nth xs i]) (some (.inl (cm (nth xs i)))) (some (.inl 0)) (some (.inl 0)) (by omega) (by omega) (hG.fj f1) (hX.fj f1 (by omega)) ((f1.2.2 _ _ (by omega)).trans h10) ((f1.2.2 _ _ (by omega)).trans h17) ((f1.2.2 _ _ (by omega)).trans h75) hY2 (by omega)
      rw [hl2] at c1
      have e86 : M_splitBelow_86 1269 (k : Int) (cm con) ((ys.length + 1 : Nat) : Int) (i : Int) 0 0 d2 (some (.inl (cm (nth xs i)))) (stI M 1319 ys.length (cm (nth xs i))) = M_splitBelow_13 1269 (k : Int) (cm con) ((ys.length + 1 : Nat) : Int) ((i + 1 : Nat) : Int) d2 (some (.inl (cm (nth xs i)))) (some (.inl 0)) (some (.inl 0)) (stI M 1319 ys.length (cm (nth xs i))) := by
        rw [M_splitBelow_86_eq, M_manyOf_s hcon, cI_s, wr_s (by omega)]
        by_cases z : 0 < ar con
        · rw [if_pos z, if_pos rfl]
        · rw [if_neg z]
      rw [if_neg q, if_pos rfl, if_neg q, e86, c1]
      exact ⟨M3, e6, e7, e8, rfl, c2, c3, f1.trans c4⟩
end RSPLIT2

/-! ===== the reference: a STEP or the cases below one ===== -/
def dtS : Nat → Nat → Prop := fun a j => (a = 1299 ∨ a = 1300) ∨ (1302 ≤ a ∧ a ≤ 1306) ∨ (1309 ≤ a ∧ a ≤ 1319) ∨ a = 1328 ∨ (a = 1269 ∧ ((47 ≤ j ∧ j ≤ 49) ∨ j = 56 ∨ j = 59 ∨ j = 72 ∨ (74 ≤ j ∧ j ≤ 76)))
/-- what a look leaves -/
def RLk (M' : Mem) (r : LkR) : Prop := RAd M' (r.1, r.2.1) ∧ (r.1 = 0 → RQ M' r.2.1 ∧ mI M' 1269 75 = (r.2.2.2.1 : Int) + 98586 ∧ mI M' 1269 74 = (r.2.2.2.2 : Int))
section RGO
variable {M : Mem} {T : TS} {k : Nat} {zs : List Clz}
theorem sp_dt {m0 a j : Nat} (q : spS m0 a j) : dtS a j := by unfold spS at q; unfold dtS; omega
theorem M_goCases_loop {xs : List Int} (h5 : (fnx zs xs 0).1 = 5) (hcon : ∀ z ∈ zs, z.1 = nth xs (fnx zs xs 0).2.1 → z.2.1 ≠ -1) (hvf : vc (nth xs (fnx zs xs 0).2.1)) {m0 : Nat} (d2 : LV) : ∀ (t i : Nat) (T : TS) (M : Mem) (fr : Nat), zs.length - i = t → i ≤ zs.length → m0 ≤ T.2.2 → Good M → TOK T k → RT M T → RQ M T → T.1 k = xs → RX M 1318 41 0 xs → ROWP M 0 zs → mI M 1317 k = nmo (nth xs ((fnx zs xs 0).2.1 + 1)) → mI M 1269 75 = (fr : Int) + 98586 → mI M 1269 76 = 0 → 1414 ≤ fr ∧ fr + 4 * t + 400 < 65536 → ∃ M', M_goBelow_80 1269 (k : Int) (cm (nth xs (fnx zs xs 0).2.1)) 1 (i : Int) d2 M = some (none, M') ∧ RAd M' (adL k (spk (nth xs (fnx zs xs 0).2.1) (nth xs ((fnx zs xs 0).2.1 + 1)) xs (fnx zs xs 0).2.1 (zs.drop i) fr) T) ∧ ((adL k (spk (nth xs (fnx zs xs 0).2.1) (nth xs ((fnx zs xs 0).2.1 + 1)) xs (fnx zs xs 0).2.1 (zs.drop i) fr) T).1 = 0 → RQ M' (adL k (spk (nth xs (fnx zs xs 0).2.1) (nth xs ((fnx zs xs 0).2.1 + 1)) xs (fnx zs xs 0).2.1 (zs.drop i) fr) T).2 ∧ mI M' 1269 75 = ((spf (nth xs (fnx zs xs 0).2.1) (zs.drop i) fr : Nat) : Int) + 98586) ∧ Good M' ∧ Fj (spS m0) M M' := by
  intro t
  induction t with
  | zero =>
    intro i T M fr h1 h2 hm0 hG hT hR hQ hxs hW hP h17 h75 h76 hfr
    have n0 := hP.1.1
    rw [List.drop_eq_nil_of_le (by omega)]
    refine ⟨M, ?_, ⟨fun _ => ⟨hR, h76⟩, fun h => absurd rfl h⟩, fun _ => ⟨hQ, h75⟩, hG, Fj.refl⟩
    rw [M_goBelow_80_eq, hG.gM, gd_t, hG.m17, hG.tgS arr_1280 (by decide) (by decide), gd_t, n0, if_neg (by omega)]
  | succ t ih =>
    intro i T M fr h1 h2 hm0 hG hT hR hQ hxs hW hP h17 h75 h76 hfr
    obtain ⟨hk1, hk2, hk3⟩ := hT.k
    have n0 := hP.1.1
    have hzl := hP.1.2.2
    have hi : i < zs.length := by omega
    have hg : zs[i]? = some zs[i] := List.getElem?_eq_getElem hi
    have hzm := List.mem_of_getElem? hg
    rw [List.drop_eq_getElem_cons hi]
    generalize zs[i] = z at *
    have hzk := hP.2.2.1 z hzm
    have hrow : ROW M i z := by
      have := hP.2.1.row hg
      rwa [Nat.mul_zero, Nat.zero_add] at this
    have head : ∀ b : Int, b ≠ 0 → M_goBelow_80 1269 (k : Int) (cm (nth xs (fnx zs xs 0).2.1)) b (i : Int) d2 M = if z.1 = nth xs (fnx zs xs 0).2.1 then cI (M_splitBelow 1269 (k : Int) (i : Int) M) fun r2 M1 => M_goBelow_80 1269 (k : Int) (cm (nth xs (fnx zs xs 0).2.1)) r2 ((i + 1 : Nat) : Int) d2 M1 else M_goBelow_80 1269 (k : Int) (cm (nth xs (fnx zs xs 0).2.1)) b ((i + 1 : Nat) : Int) d2 M := by
      intro b hb
      rw [M_goBelow_80_eq, hG.gM, gd_t, hG.m17, hG.tgS arr_1280 (by decide) (by decide), gd_t, n0, if_pos (by omega), if_neg hb, gd_t, hG.m11, hG.tgS arr_1274 (by omega) (by omega), gd_t, toNat_n, hrow.1.1, wr_s (by omega)]
      by_cases q : z.1 = nth xs (fnx zs xs 0).2.1
      · rw [if_pos (by rw [q]), if_pos q, gd_t]
      · rw [if_neg (fun e => q ((cm_inj hzk.1.1 hvf).mp e)), if_neg q]
    rw [head 1 (by decide)]
    unfold spk spf
    by_cases q : z.1 = nth xs (fnx zs xs 0).2.1
    · have hcz := hcon z hzm q
      obtain ⟨c1, c2⟩ := hzk.2.1.resolve_left hcz
      have hal := arN_ar z.2.1
      have hn4 : arN z.2.1 ≤ 4 := by have := (c1.2.2.1 c2).1; omega
      obtain ⟨M1, a1, a2, a3, a4, a5, a6, a7⟩ := M_splitBelow_s (fr := fr) hG hT hR hP hxs hW h5 hg q hcz h17 (by omega) h75 h76
      obtain ⟨s1, s2, -⟩ := spl_ok (fr := fr) (blk := nth xs ((fnx zs xs 0).2.1 + 1)) (by have := (hT.2.2 k hk1).1; rw [hxs] at this; exact this) (by have := (hT.2.2 k hk1).2.1; rw [hxs] at this; exact this) (by
        have := (fnx_blk (zs := zs) (xs := xs) _ 0 rfl (Nat.zero_le _) (by rw [List.drop_zero]; exact h5)).2.1
        rw [List.drop_zero] at this
        exact this) c1 hn4 (by omega)
      have hF := spl_clf (fr := fr) (by have := (hT.2.2 k hk1).1; rw [hxs] at this; exact this) (by have := (hT.2.2 k hk1).2.1; rw [hxs] at this; exact this) hP.2.2.1 h5 hzm q hcz (by omega)
      rw [if_pos q, if_pos q, if_pos q, a1, cI_s, adL_s]
      generalize hy : stx z (spl xs (nth xs ((fnx zs xs 0).2.1 + 1)) z.2.1 fr) (fnx zs xs 0).2.1 = y at *
      by_cases w : ad1 y.length T.2.2 = 0
      · obtain ⟨r1, r2⟩ := a3 w
        have hsl := ad1_0 w
        have hT1 := TOK.add hT (y, z.2.1, (fr : Int)) ⟨by rw [← hy]; exact stx_wf s1 hF hzk, by rw [← hy]; exact stx_av s2 hzk⟩ hsl.1 hsl.2
        have hQ1 : RQ M1 (adT k T (y, z.2.1, (fr : Int))) := (hQ.fjo a7 (fun a j q => by unfold spS; omega)).add fun _ => ⟨a4 hsl.2, show (1414 : Int) ≤ (fr : Int) by omega⟩
        obtain ⟨M', b1, b2, b3, b4, b5⟩ := ih (i + 1) (adT k T (y, z.2.1, (fr : Int))) M1 (fr + arN z.2.1) (by omega) (by omega) (Nat.le_succ_of_le hm0) a6 hT1 r1 hQ1 ((upX_ne (by omega)).trans hxs) (hW.fj a7 (by unfold spS; omega)) (hP.fj a7 (by unfold spS; omega)) ((a7.2.2 _ _ (by unfold spS; omega)).trans h17) a5 r2 (by omega)
        rw [if_pos w, if_pos (show ad1 (y, z.2.1, (fr : Int)).1.length T.2.2 = 0 from w), b1]
        exact ⟨M', rfl, b2, b3, b4, (a7.mono fun a j q => by unfold spS at q ⊢; omega).trans b5⟩
      · rw [if_neg w, if_neg (show ¬ ad1 (y, z.2.1, (fr : Int)).1.length T.2.2 = 0 from w)]
        refine ⟨M1, ?_, ⟨fun h => absurd h w, fun _ => a2 w⟩, fun h => absurd h w, a6, a7.mono fun a j q => by unfold spS at q ⊢; omega⟩
        have n1 : mI M1 1280 0 = (zs.length : Int) := (a7.2.2 _ _ (by unfold spS; omega)).trans n0
        rw [M_goBelow_80_eq, a6.gM, gd_t, a6.m17, a6.tgS arr_1280 (by decide) (by decide), gd_t, n1]
        by_cases v : ((i + 1 : Nat) : Int) < (zs.length : Int)
        · rw [if_pos v, if_pos rfl]
        · rw [if_neg v]
    · rw [if_neg q, if_neg q, if_neg q]
      exact ih (i + 1) T M fr (by omega) (by omega) hm0 hG hT hR hQ hxs hW hP h17 h75 h76 (by omega)
end RGO

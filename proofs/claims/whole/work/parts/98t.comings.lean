/-! ===== the class: all comings, from the last one on ===== -/
def cmg (X : Nat → List Int) (F : FT) : List Nat → (Nat → List Int) → Int × (Nat → List Int)
  | [], C => (0, C)
  | x :: R, C => if 100 < (cmo X F C x).length then (-6, C) else cmg X F R (upX C x (cmo X F C x))
def fcS : Nat → Nat → Prop := fun a j => cgS a j ∨ (30 ≤ a ∧ a < 750 ∧ ((a - 30) % 6 = 4 ∨ (a - 30) % 6 = 5))
section COMINGS
variable {X : Nat → List Int} {F : FT} {mk : Nat} {zs : List Clz}
theorem Rs_findComing_s {M : Mem} {x : Nat} {C : Nat → List Int} {cs : List Int} (hG : Good M) (hR : TRc M X F mk) (hT : TI F mk) (hx : x ∈ lnF F) (hX : eok (X x)) (hk : RK X F x) (hK : ∀ i, i < nkc F x → XE M (34 + 6 * (nfk F x + i)) 100 (C (nfk F x + i)) ∧ av (C (nfk F x + i)) ∧ (X (nfk F x + i)).length ≤ 40) (h755 : XE M 755 10240 cs) : ∃ M', Rs_findComing 754 (30 + 6 * x) M = some (some (.inl (if 100 < (cmo X F C x).length then -6 else 0)), M') ∧ (¬ 100 < (cmo X F C x).length → XE M' (34 + 6 * x) 100 (cmo X F C x)) ∧ (TRc M' X F mk ∧ XE M' 755 10240 (cmo X F C x)) ∧ Good M' ∧ Fj (fun a j => cgS a j ∨ a = 34 + 6 * x ∨ a = 35 + 6 * x) M M' := by
  have hxm := hT.1.2.1 x hx
  have hm := hT.1.2.2
  obtain ⟨M1, a1, a2, a3⟩ := Ex_clear_s hG h755
  have hG1 := hG.fi a3
  have hR1 : TRc M1 X F mk := hR.fjo hT (a3.fj (T := fun a _ => eS 755 a) fun a j q => q) fun a j q => by unfold eS; omega
  obtain ⟨M2, b1, b2, b3, b4⟩ := Rs_fill_s hG1 hR1 hT hx hX hk (fun i hi => ⟨(hK i hi).1.fi a3 (by have := hT.1.2.1 _ (hT.kid hx hi); unfold eS; omega) (by have := hT.1.2.1 _ (hT.kid hx hi); unfold eS; omega), (hK i hi).2⟩) a2
  have hR2 : TRc M2 X F mk := hR1.fjo hT b4 fun a j q => by unfold cgS; omega
  have F2 : Fj (fun a j => cgS a j ∨ a = 34 + 6 * x ∨ a = 35 + 6 * x) M M2 := (a3.fj fun a j q => by unfold eS at q; unfold cgS; omega).trans (b4.mono fun a j q => Or.inl q)
  have head : Rs_findComing 754 (30 + 6 * x) M = if 100 < ((cmo X F C x).length : Int) then some (some (.inl (-6)), M2) else cV (Ex_become (34 + 6 * x) 755 M2) fun M3 => some (some (.inl 0), M3) := by
    rw [Rs_findComing_eq, if_neg (by omega), hG.gRs, gd_t, hG.r754_0, h755.g hG, gd_t, a1, cV_s, hG1.gRs, gd_t, b1, cV_s, b3.gRs, gd_t, b3.r754_0, b2.g b3, gd_t, b2.s, b3.nd (by omega), gd_t, gd_t, (b3.ndr (x := x) (by omega)).2.2]
    by_cases q : 100 < ((cmo X F C x).length : Int)
    · rw [if_pos q, if_pos q]
    · obtain ⟨⟨-, -⟩, us, w⟩ := hR2.2.2 x (by omega)
      rw [if_neg q, if_neg q, w.g b3, gd_t]
  rw [head]
  by_cases q : 100 < (cmo X F C x).length
  · rw [if_pos (by omega), if_pos q]
    exact ⟨M2, rfl, fun h => absurd q h, ⟨hR2, b2⟩, b3, F2⟩
  · obtain ⟨-, us, w⟩ := hR2.2.2 x (by omega)
    obtain ⟨M3, c1, c2, c3⟩ := Ex_become_s b3 w b2 (by omega) (by omega) (by omega) (by omega)
    rw [if_neg (by omega), if_neg q, c1, cV_s]
    exact ⟨M3, rfl, fun _ => c2, ⟨hR2.cm (by omega) c3 c2, b2.fi c3 (by unfold eS; omega) (by unfold eS; omega)⟩, b3.fi c3, F2.trans (c3.fj fun a j q => by unfold eS at q; omega)⟩
theorem Rs_make_loop (hzs : zsk 100 zs) (hT : TI F mk) (hX : XOK X F) (hN : ∀ x ∈ lnF F, NS zs X F x) (hk : ∀ x ∈ lnF F, RK X F x) {a2 : Nat} : ∀ (R D : List Nat) (M : Mem) (C : Nat → List Int) (cs : List Int), lnF F = R.reverse ++ D → Good M → TRc M X F mk → (∀ y ∈ D, XE M (34 + 6 * y) 100 (C y) ∧ cok X C y) → XE M 755 10240 cs → ∃ M', ((cmg X F R C).1 = 0 → Rs_make_14 754 27 a2 0 ((R.length : Int) - 1) M = (cV (Rs_makeClauses 754 27 a2 M') fun M1 => some (some (.inl 0), M1)) ∧ ∀ y ∈ lnF F, XE M' (34 + 6 * y) 100 ((cmg X F R C).2 y) ∧ cok X (cmg X F R C).2 y) ∧ ((cmg X F R C).1 ≠ 0 → Rs_make_14 754 27 a2 0 ((R.length : Int) - 1) M = some (some (.inl (cmg X F R C).1), M')) ∧ (TRc M' X F mk ∧ ∃ cs, XE M' 755 10240 cs) ∧ Good M' ∧ Fj fcS M M' := by
  intro R
  induction R with
  | nil =>
    intro D M C cs hL hG hR hD h755
    refine ⟨M, fun _ => ⟨?_, fun y hy => hD y (by rw [hL] at hy; exact hy)⟩, fun h => absurd rfl h, ⟨hR, _, h755⟩, hG, Fj.refl⟩
    rw [Rs_make_14_eq, if_pos (by rw [List.length_nil]; omega), if_pos rfl, hG.gRs, gd_t]
  | cons x R ih =>
    intro D M C cs hL hG hR hD h755
    have hL2 : lnF F = R.reverse ++ x :: D := by rw [hL, List.reverse_cons, List.append_assoc]; rfl
    have hx : x ∈ lnF F := by rw [hL2]; simp
    have hxm := hT.1.2.1 x hx
    have hm := hT.1.2.2
    have hlen := hT.len
    have hll : (lnF F).length = R.length + (D.length + 1) := by rw [hL2]; simp
    have hn := hT.1.1
    have hxD : x ∉ D := by
      rw [hL2] at hn
      exact (List.nodup_cons.mp (List.nodup_append.mp hn).2.1).1
    have hkd : ∀ i, i < nkc F x → nfk F x + i ∈ D := fun i hi => hT.after hL2 hi
    obtain ⟨M1, a1, a2', ⟨a3, a4⟩, a5, a6⟩ := Rs_findComing_s hG hR hT hx (hX x hx) (hk x hx) (fun i hi => ⟨(hD _ (hkd i hi)).1, (hD _ (hkd i hi)).2.1.2, (hX _ (hT.kid hx hi)).2.2⟩) h755
    have hok := cmo_ok hzs (hX x hx) (hN x hx) (hk x hx) (fun i hi => (hD _ (hkd i hi)).2)
    have hna := Tr_nodeAt_s hG hT hR (i := R.length) (x := x) (by rw [hL2, List.getElem?_append_right (by rw [List.length_reverse]; omega), List.length_reverse, Nat.sub_self]; rfl)
    have head : Rs_make_14 754 27 a2 0 (((x :: R).length : Int) - 1) M = Rs_make_14 754 27 a2 (if 100 < (cmo X F C x).length then -6 else 0) ((R.length : Int) - 1) M1 := by
      rw [show (((x :: R).length : Nat) : Int) - 1 = ((R.length : Nat) : Int) by rw [List.length_cons]; omega, Rs_make_14_eq, if_neg (by omega), if_pos rfl, hG.gT, gd_t, hna, cR_s, hG.gRs, gd_t, a1, cI_s, wr_id (x := (R.length : Int) + (-1)) (by omega) (by omega)]
      rfl
    have F1 : Fj fcS M M1 := a6.mono fun a j q => by
      rcases q with q | q
      · exact Or.inl q
      · exact Or.inr (by omega)
    rw [head]
    unfold cmg
    by_cases q : 100 < (cmo X F C x).length
    · rw [if_pos q, if_pos q]
      refine ⟨M1, fun h => absurd (show (-6 : Int) = 0 from h) (by decide), fun _ => ?_, ⟨a3, _, a4⟩, a5, F1⟩
      rw [Rs_make_14_eq]
      by_cases g : (R.length : Int) - 1 < 0
      · rw [if_pos g, if_neg (by decide)]
      · rw [if_neg g, if_neg (by decide), if_neg (by decide)]
    · rw [if_neg q, if_neg q]
      obtain ⟨M', b1, b2, b3, b4, b5⟩ := ih (x :: D) M1 (upX C x (cmo X F C x)) _ hL2 a5 a3 (fun y hy => by
        by_cases e : y = x
        · subst e
          unfold cok
          rw [upX_at]
          exact ⟨a2' q, hok⟩
        · have hy2 : y ∈ D := (List.mem_cons.mp hy).resolve_left e
          have hym := hT.1.2.1 y (by rw [hL2]; simp [hy2])
          obtain ⟨h1, h2⟩ := hD y hy2
          unfold cok
          rw [upX_ne e]
          exact ⟨h1.ext fun a j r => a6.2.2 a j (by unfold cgS; omega), h2⟩) a4
      exact ⟨M', b1, b2, b3, b4, F1.trans b5⟩
end COMINGS

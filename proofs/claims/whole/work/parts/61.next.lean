/-! ===== NEXT: the clause of a call, in both ===== -/
def conAt (zs : List Clz) (k : Nat) : Int := (zs.getD k (0, -1, [], [])).2.1
def fn1 (o : Option Nat) (i : Nat) (F : Nat → Nat × Nat × Nat) : Nat × Nat × Nat := match o with
  | none => (1, i, 0)
  | some k => F k
def fn2 (o : Option Nat) (i k : Nat) : Nat × Nat × Nat := match o with
  | none => (1, i, k)
  | some j => (4, i, j)
theorem fn1_n {i : Nat} {F : Nat → Nat × Nat × Nat} : fn1 none i F = (1, i, 0) := rfl
theorem fn1_s {i k : Nat} {F : Nat → Nat × Nat × Nat} : fn1 (some k) i F = F k := rfl
theorem fn2_n {i k : Nat} : fn2 none i k = (1, i, k) := rfl
theorem fn2_s {i k j : Nat} : fn2 (some j) i k = (4, i, j) := rfl
/-- where a step is: 4 ready, 5 blocked, 1 stuck; the place; the clause -/
def fnx (zs : List Clz) : List Int → Nat → Nat × Nat × Nat
  | [], i => (1, i, 0)
  | f :: xs, i => if kd f = 2 then fn1 (fo f zs 0) i (fun k => if conAt zs k = -1 then (4, i, k) else if kd (xs.headD 50331648) = 0 then (5, i, k) else if kd (xs.headD 50331648) = 1 then fn2 (co f (xs.headD 50331648) zs 0) i k else fnx zs xs (i + 1)) else (1, i, 0)
section NEXTC
variable {M : Mem} {zs : List Clz} {P e n : Nat} {xs : List Int}
theorem obj_Ru : obj 21 8 := obj_of _ _ (by decide)
theorem Good.gRu (h : Good M) : gO M 21 8 = true := h.tgO obj_Ru
theorem conAt_of {zs : List Clz} {k : Nat} {z : Clz} (h : zs[k]? = some z) : conAt zs k = z.2.1 := by
  unfold conAt
  rw [List.getD_eq_getElem?_getD, h]
  rfl
theorem headD_cA {xs : List Int} {i : Nat} (h : i < xs.length) : (xs.drop (i + 1)).headD 50331648 = cA xs ((i + 1 : Nat) : Int) := by
  by_cases q : i + 1 < xs.length
  · rw [drop_cons q, cA_n q]; rfl
  · rw [List.drop_eq_nil_of_le (by omega)]
    unfold cA
    rw [if_neg (by omega)]
    rfl
def nxS : Nat → Nat → Prop := fun a k => a = 21 ∧ (k = 3 ∨ k = 5)
def nxR : Nat → Nat → Prop := fun a k => a = 21 ∧ k = 4
theorem PRc.ext {M1 : Mem} (h : PRc M P zs) (f : ∀ a k, pS P a → mI M1 a k = mI M a k) : PRc M1 P zs := by
  have g : Fj (fun a k => ¬ pS P a) M (M.1, M.2.1, M1.2.2.1, M.2.2.2) := ⟨⟨rfl, rfl⟩, fun _ _ => rfl, fun a k q => f a k (Classical.not_not.mp q)⟩
  have r : PRc (M.1, M.2.1, M1.2.2.1, M.2.2.2) P zs := h.fj g fun a k q z => z q
  exact r
theorem Good.nx {M1 : Mem} (h : Good M) {v : Int} {w : Nat} (e : M1 = stR (stI M 21 3 v) 21 4 w) : Good M1 := by
  rw [e]
  exact (h.fj (Fj.ofI (S := fun _ _ => True) trivial)).ofR (by unfold mtb; omega)
theorem Ru_findNext_loop (he : 21 < e) (hP : 22 < P) (hv : av xs) : ∀ (t i : Nat) (M : Mem) (d3 d5 d6 d7 d8 : LV), xs.length - i = t → i ≤ xs.length → Good M → XE M e n xs → PRc M P zs → ∃ M', Ru_findNext_3 21 P e (i : Int) d3 d5 d6 d7 d8 M = some (some (.inl ((fnx zs (xs.drop i) i).1 : Nat)), M') ∧ ((fnx zs (xs.drop i) i).1 = 4 → mI M' 21 3 = ((fnx zs (xs.drop i) i).2.1 : Nat) ∧ mR M' 21 4 = P + 2 + 4 * (fnx zs (xs.drop i) i).2.2 ∧ (fnx zs (xs.drop i) i).2.2 < zs.length) ∧ ((fnx zs (xs.drop i) i).1 = 5 → mI M' 21 3 = ((fnx zs (xs.drop i) i).2.1 : Nat) ∧ mI M' 21 5 = cA xs (((fnx zs (xs.drop i) i).2.1 + 1 : Nat) : Int)) ∧ Good M' ∧ Fq nxS nxR M M' := by
  intro t
  induction t with
  | zero =>
    intro i M d3 d5 d6 d7 d8 h1 h2 hG hX hp
    rw [Ru_findNext_3_eq, if_neg (by omega), hX.g hG, gd_t, hX.s, if_neg (by omega), List.drop_eq_nil_of_le (by omega)]
    exact ⟨M, rfl, fun q => (by cases q), fun q => (by cases q), hG, Fq.refl⟩
  | succ t ih =>
    intro i M d3 d5 d6 d7 d8 h1 h2 hG hX hp
    have hi : i < xs.length := by omega
    have hxl := hX.lt
    have hc := av_nth hv hi
    have hhd := headD_cA hi
    have hcv : vc (cA xs ((i + 1 : Nat) : Int)) := cA_vc hv _
    rw [drop_cons hi]
    unfold fnx
    rw [hhd, Ru_findNext_3_eq, if_neg (by omega), hX.g hG, gd_t, hX.s, if_pos (by omega), gd_t, Ex_cellAt_s hG hX, cI_s, cA_n hi, Ex_kind_s (vc_inR hc), cI_s]
    have none0 : ∀ (d1 d2 : Int), ∃ M', Ru_findNext_44 21 P e (i : Int) d1 0 d3 d6 d7 d8 M = some (some (.inl 1), M') ∧ Good M' ∧ Fq nxS nxR M M' := by
      intro d1 d2
      rw [Ru_findNext_44_eq, hG.gRu, gd_t, gd_t, if_pos rfl]
      exact ⟨_, rfl, hG.nx rfl, ((Fj.ofI (S := nxS) (by unfold nxS; omega)).fq fun a k q => q).trans (Fq.ofR (by unfold nxR; omega))⟩
    by_cases hk : kd (nth xs i) = 2
    · rw [if_pos hk, if_pos hk, hp.g hG, gd_t, Pr_firstOf_s hG hp, cR_s]
      cases hf : fo (nth xs i) zs 0 with
      | none =>
        rw [fn1_n]
        obtain ⟨M', a1, a2, a3⟩ := none0 (nth xs i) 0
        exact ⟨M', a1, fun q => (by cases q), fun q => (by cases q), a2, a3⟩
      | some k =>
        obtain ⟨z, z1, z2, z3⟩ := hp.fo hf
        have hkl := (List.getElem?_eq_some_iff.mp z1).1
        have hca := conAt_of z1
        rw [fn1_s]
        have h9 : cad P (some k) = P + 2 + 4 * k := rfl
        have hG1 : Good (stR (stI M 21 3 (i : Int)) 21 4 (P + 2 + 4 * k)) := hG.nx rfl
        have F1 : Fq nxS nxR M (stR (stI M 21 3 (i : Int)) 21 4 (P + 2 + 4 * k)) := ((Fj.ofI (S := nxS) (by unfold nxS; omega)).fq fun a k q => q).trans (Fq.ofR (by unfold nxR; omega))
        have z4 : CLc (stR (stI M 21 3 (i : Int)) 21 4 (P + 2 + 4 * k)) (P + 2 + 4 * k) z := by
          have : CLc (stI M 21 3 (i : Int)) (P + 2 + 4 * k) z := z3.fj (Fj.ofI (S := fun a k => a = 21 ∧ k = 3) ⟨rfl, rfl⟩) fun a k q => by unfold cS at q; omega
          exact this
        have hX1 : XE (stR (stI M 21 3 (i : Int)) 21 4 (P + 2 + 4 * k)) e n xs := hX.ext fun a j q => F1.2.2 a j (by unfold nxS; omega)
        have hp1 : PRc (stR (stI M 21 3 (i : Int)) 21 4 (P + 2 + 4 * k)) P zs := hp.ext fun a j q => F1.2.2 a j (by unfold pS at q; unfold nxS; omega)
        have e3 : mI (stR (stI M 21 3 (i : Int)) 21 4 (P + 2 + 4 * k)) 21 3 = (i : Int) := mI_at (M := M) (a := 21) (k := 3)
        have e4 : mR (stR (stI M 21 3 (i : Int)) 21 4 (P + 2 + 4 * k)) 21 4 = P + 2 + 4 * k := by
          show (if (21 : Nat) = 21 ∧ (4 : Nat) = 4 then P + 2 + 4 * k else mR (stI M 21 3 (i : Int)) 21 4) = P + 2 + 4 * k
          exact if_pos ⟨rfl, rfl⟩
        rw [h9, Ru_findNext_44_eq, hG.gRu, gd_t, gd_t, if_neg (by omega), z3.g hG, gd_t]
        generalize hM1 : stR (stI M 21 3 (i : Int)) 21 4 (P + 2 + 4 * k) = M1 at *
        rw [Cl_isCase_s hG1 z4, cI_s, hca]
        by_cases hcon : z.2.1 = -1
        · rw [if_pos hcon, if_pos rfl, if_pos hcon]
          exact ⟨M1, rfl, fun _ => ⟨e3, e4, hkl⟩, fun q => (by cases q), hG1, F1⟩
        rw [if_neg hcon, if_neg (by decide), if_neg hcon, hX1.g hG1, gd_t, wr_s (by omega), Ex_cellAt_s hG1 hX1, cI_s, Ex_kind_s (vc_inR hcv), cI_s]
        by_cases k0 : kd (cA xs ((i + 1 : Nat) : Int)) = 0
        · have f2 : Fj (fun a k => a = 21 ∧ k = 5) M1 (stI M1 21 5 (cA xs ((i + 1 : Nat) : Int))) := Fj.ofI ⟨rfl, rfl⟩
          rw [if_pos k0, if_pos k0, hG1.gRu, gd_t]
          exact ⟨_, rfl, fun q => (by cases q), fun _ => ⟨by rw [mI_ne (by omega)]; exact e3, mI_at⟩, hG1.fj f2, F1.trans (f2.fq fun a k q => by unfold nxS; omega)⟩
        rw [if_neg k0, if_neg k0]
        by_cases k1 : kd (cA xs ((i + 1 : Nat) : Int)) = 1
        · rw [if_pos k1, if_pos k1, hp1.g hG1, gd_t, Pr_caseOf_s hG1 hp1, cR_s]
          have eR : ∀ v, mR (stR M1 21 4 v) 21 4 = v := fun v => by
            show (if (21 : Nat) = 21 ∧ (4 : Nat) = 4 then v else mR M1 21 4) = v
            exact if_pos ⟨rfl, rfl⟩
          have F2 : ∀ v, Fq nxS nxR M (stR M1 21 4 v) := fun v => F1.trans (Fq.ofR (by unfold nxR; omega))
          cases hco : co (nth xs i) (cA xs ((i + 1 : Nat) : Int)) zs 0 with
          | none =>
            rw [fn2_n, hG1.gRu, gd_t, gd_t, eR, if_pos (show cad P none = 0 from rfl)]
            exact ⟨_, rfl, fun q => (by cases q), fun q => (by cases q), hG1.ofR (by unfold mtb; omega), F2 _⟩
          | some j =>
            obtain ⟨y, y1, y2, y3⟩ := hp1.co hco
            have hjl := (List.getElem?_eq_some_iff.mp y1).1
            rw [fn2_s, hG1.gRu, gd_t, gd_t, eR, if_neg (show ¬ cad P (some j) = 0 by show ¬ P + 2 + 4 * j = 0; omega)]
            exact ⟨_, rfl, fun _ => ⟨e3, eR _, hjl⟩, fun q => (by cases q), hG1.ofR (by unfold mtb; omega), F2 _⟩
        · rw [if_neg k1, if_neg k1]
          obtain ⟨M', a1, a2, a3, a4, a5⟩ := ih (i + 1) M1 d3 (some (.inl (nth xs i))) (some (.inr (P + 2 + 4 * k))) (some (.inl (cA xs ((i + 1 : Nat) : Int)))) (some (.inl (kd (cA xs ((i + 1 : Nat) : Int))))) (by omega) (by omega) hG1 hX1 hp1
          exact ⟨M', a1, a2, a3, a4, F1.trans a5⟩
    · obtain ⟨M', a1, a2, a3⟩ := none0 (nth xs i) 0
      rw [if_neg hk, if_neg hk]
      exact ⟨M', a1, fun q => (by cases q), fun q => (by cases q), a2, a3⟩
end NEXTC

/-! ===== the class's run: what is now becomes what comes ===== -/
/-- what is run, and the spare -/
def RUc (M : Mem) (N S : Nat) (xs : List Int) : Prop := ((N = 23 ∧ S = 25) ∨ (N = 25 ∧ S = 23)) ∧ (mR M 21 1 = N ∧ mR M 21 2 = S) ∧ XE M N 20480 xs ∧ ∃ ys, XE M S 20480 ys
def ruS : Nat → Nat → Prop := fun a k => (22 ≤ a ∧ a ≤ 26) ∨ (a = 21 ∧ (3 ≤ k ∧ k ≤ 9))
def ruR : Nat → Nat → Prop := fun a k => a = 21 ∧ (k = 1 ∨ k = 2 ∨ k = 4)
/-- how far a run is: 3 large, 0 done, 4 ready, 1 stuck -/
def stO (zs : List Clz) (xs : List Int) : Nat := if 120 < xs.length then 3 else if (nxt zs xs).1 = 0 then 0 else if (nxt zs xs).1 = 4 then 4 else 1
def stepZ (zs : List Clz) (xs : List Int) : List Int := stx (zs.getD (nxt zs xs).2.2 (0, -1, [], [])) xs (nxt zs xs).2.1
/-- a run: what is at its end, how it ended, the steps, the greatest, the deepest -/
def rnl (zs : List Clz) : Nat → List Int → Nat → Nat → Nat → List Int × Nat × Nat × Nat × Nat
  | 0, xs, st, gr, dp => (xs, (if stO zs xs = 4 then 2 else stO zs xs), st, gr, dp)
  | n + 1, xs, st, gr, dp => if stO zs xs = 4 then rnl zs n (stepZ zs xs) (st + 1) (max gr (stepZ zs xs).length) (max dp (1 + dep xs (nxt zs xs).2.1)) else (xs, stO zs xs, st, gr, dp)
section RUNC
variable {M : Mem} {zs : List Clz} {P N S : Nat} {xs : List Int}
theorem stepZ_of {z : Clz} (h : zs[(nxt zs xs).2.2]? = some z) : stepZ zs xs = stx z xs (nxt zs xs).2.1 := by
  unfold stepZ
  rw [List.getD_eq_getElem?_getD, h]
  rfl
theorem Ru_replaceNext_s (hP : 772 < P) (hG : Good M) (hU : RUc M N S xs) (hp : PRc M P zs) (hz : zsk 100 zs) (hv : av xs) (hw : wf 1 xs) (hl : xs.length ≤ 120) (h4 : (nxt zs xs).1 = 4) (h3 : mI M 21 3 = ((nxt zs xs).2.1 : Nat)) (hc : mR M 21 4 = P + 2 + 4 * (nxt zs xs).2.2) : ∃ M', Ru_replaceNext 21 M = some (none, M') ∧ RUc M' S N (stepZ zs xs) ∧ Good M' ∧ Fq (fun a _ => 22 ≤ a ∧ a ≤ 26) ruR M M' := by
  obtain ⟨hns, ⟨r1, r2⟩, x1, ys, x2⟩ := hU
  obtain ⟨z, z1, hf⟩ := nxt_clf hw h4
  have hzk := hz z (List.mem_of_getElem? z1)
  have hC := hp.2 _ z z1
  have hki := (List.getElem?_eq_some_iff.mp z1).1
  have hsz := stepZ_of z1
  obtain ⟨-, hst, -⟩ := hf.all hzk
  obtain ⟨M1, a1, a2, a3, a4, a5⟩ := Ru_makeStep_s (e1 := N) (e2 := S) (n1 := 20480) (n2 := 20480) (c := P + 2 + 4 * (nxt zs xs).2.2) (by omega) (by omega) (by omega) (by omega) (by omega) (by omega) hv hzk hst hG x1 x2 hC (by have := stx_len (at0 := (nxt zs xs).2.1) hl (by decide) hzk; omega)
  have hG1 := hG.fj a5
  have q1 : mR M1 21 1 = N := (a5.2.1 _ _).trans r1
  have q2 : mR M1 21 2 = S := (a5.2.1 _ _).trans r2
  have hG2 : Good (stR (stR M1 21 2 N) 21 1 S) := (hG1.ofR (by unfold mtb; omega)).ofR (by unfold mtb; omega)
  rw [Ru_replaceNext_eq, hG.gRu, gd_t, hc, if_neg (by omega), gd_t, gd_t, gd_t, gd_t, gd_t, r1, r2, h3, a1, cV_s, hG1.gRu, gd_t, gd_t, gd_t, gd_t, q1, q2]
  refine ⟨_, rfl, ⟨by omega, ⟨?_, ?_⟩, ?_, xs, a2⟩, hG2, ((a5.fq fun a k q => by omega).trans (Fq.ofR (by unfold ruR; omega))).trans (Fq.ofR (by unfold ruR; omega))⟩
  · show (if (21 : Nat) = 21 ∧ (1 : Nat) = 1 then S else mR (stR M1 21 2 N) 21 1) = S
    exact if_pos ⟨rfl, rfl⟩
  · show (if (21 : Nat) = 21 ∧ (2 : Nat) = 1 then S else if (21 : Nat) = 21 ∧ (2 : Nat) = 2 then N else mR M1 21 2) = N
    rw [if_neg (by decide), if_pos ⟨rfl, rfl⟩]
  · rw [hsz]
    exact a3
end RUNC

/-! ===== a node is looked at: the class ===== -/
def dvS : Nat → Nat → Prop := fun a j => (12 ≤ a ∧ a ≤ 20) ∨ (a = 21 ∧ (j = 3 ∨ j = 5)) ∨ a = 22 ∨ (a = 27 ∧ 8 ≤ j) ∨ (30 ≤ a ∧ a < 754)
def dvR : Nat → Nat → Prop := fun a j => (a = 21 ∧ j = 4) ∨ (a = 27 ∧ j = 7) ∨ a = 29 ∨ (30 ≤ a ∧ a < 750 ∧ 3 ≤ j)
/-- what holds of a tree while it grows -/
def LOK (T : TS) (k : Nat) : Prop := (TI T.2.1 T.2.2 ∧ XOK T.1 T.2.1) ∧ (k ∈ lnF T.2.1 ∧ T.2.1 k 8 = 0) ∧ ∀ p ∈ lnF T.2.1, isS (T.2.1 p 4) → kd (nth (T.1 p) 0) = 2
theorem LOK.tok {T : TS} {k : Nat} (h : LOK T k) : TOK T k := ⟨h.1.1, ⟨⟨h.2.1.1, fun q => by unfold nkc at q; rw [h.2.1.2] at q; exact absurd q (Nat.lt_irrefl 0)⟩, fun j hj => by unfold nkc at hj; rw [h.2.1.2] at hj; exact absurd hj (Nat.not_lt_zero j)⟩, h.1.2⟩
theorem TOK.up {T : TS} {k m f : Nat} {v : Int} (h : TOK T k) (hf : ¬ (f = 5 ∨ f = 6 ∨ f = 8 ∨ f = 15 ∨ f = 16)) : TOK (upB T m f v) k := by
  obtain ⟨h1, ⟨⟨h2, h3⟩, h4⟩, h5⟩ := h
  obtain ⟨a, b⟩ := h1.up1 (m := m) (f := f) (v := v) hf
  have ne : ∀ {a b : Nat}, b ≠ f → upF T.2.1 m f v a b = T.2.1 a b := fun h => upF_ne (by omega)
  have e1 : ∀ x, nkc (upF T.2.1 m f v) x = nkc T.2.1 x := fun x => by unfold nkc; rw [ne (by omega)]
  have e2 : ∀ x, nfk (upF T.2.1 m f v) x = nfk T.2.1 x := fun x => by unfold nfk; rw [ne (by omega)]
  refine ⟨a, ⟨⟨by show k ∈ lnF (upF T.2.1 m f v); rw [b]; exact h2, fun q => ?_⟩, fun j hj => ?_⟩, fun x hx => h5 x (by have hx : x ∈ lnF (upF T.2.1 m f v) := hx; rw [b] at hx; exact hx)⟩
  · have q : 0 < nkc (upF T.2.1 m f v) k := q
    show nfk (upF T.2.1 m f v) k + nkc (upF T.2.1 m f v) k = T.2.2
    rw [e1] at q ⊢
    rw [e2]
    exact h3 q
  · have hj : j < nkc (upF T.2.1 m f v) k := hj
    show upF T.2.1 m f v (nfk (upF T.2.1 m f v) k + j) 8 = 0
    rw [e1] at hj
    rw [e2, ne (by omega)]
    exact h4 j hj
theorem idxOf_mid : ∀ (A R : List Nat) (g : Nat), g ∉ A → (A ++ (g :: R)).idxOf g = A.length := by
  intro A
  induction A with
  | nil => intro R g _; simp
  | cons a A ih =>
    intro R g h
    have h1 : a ≠ g := fun q => h (by rw [q]; simp)
    have h2 : g ∉ A := fun q => h (List.mem_cons_of_mem _ q)
    rw [List.cons_append, List.idxOf_cons, ih R g h2, show (a == g) = false from beq_false_of_ne h1]
    rfl
section LOOK2
variable {M : Mem} {k P : Nat} {T : TS} {zs : List Clz}
theorem kind_set (hG : Good M) (hT : TOK T k) (hC : CTs M T) {m : Nat} (hm : m < 120) {v : Int} (hv : v ≠ -1) : CTs (stI M (30 + 6 * m) 4 v) (upB T m 4 v) ∧ Good (stI M (30 + 6 * m) 4 v) ∧ Fq (fun a j => a = 30 + 6 * m ∧ j = 4) nor M (stI M (30 + 6 * m) 4 v) := by
  have f : Fj (fun a j => a = 30 + 6 * m ∧ j = 4) M (stI M (30 + 6 * m) 4 v) := Fj.ofI ⟨rfl, rfl⟩
  exact ⟨hC.mkT (R := nor) (f.fq fun a j q => q) (by omega) (hC.1.setI hT.1 hm (by omega)), hG.fj f, f.fq fun a j q => q⟩
/-- a kind that has nothing below -/
theorem Tr_addNone (hG : Good M) (hm : k < 120) {v : Int} (h4 : mI M (30 + 6 * k) 4 = v) (hv : v = 0 ∨ v = 4 ∨ v = 6) : Tr_addBelow 27 (30 + 6 * k) M = some (some (.inl 0), M) := by
  rw [Tr_addBelow_eq, hG.nd hm, gd_t, h4, if_neg (by omega), if_neg (by omega), if_neg (by omega)]
  by_cases q : v = 4
  · rw [if_pos q]
  · rw [if_neg q, if_neg (by omega)]
theorem Tr_addCon (hG : Good M) (hT : TOK T k) (hC : CTs M T) (h4 : mI M (30 + 6 * k) 4 = 1) : ∃ M', Tr_addBelow 27 (30 + 6 * k) M = some (some (.inl (adL k (argL (T.1 k) (arN (nth (T.1 k) 0)) 0) T).1), M') ∧ CTs M' (adL k (argL (T.1 k) (arN (nth (T.1 k) 0)) 0) T).2 ∧ Good M' ∧ Fq daS anR M M' := by
  obtain ⟨hk1, hk2, hk3⟩ := hT.k
  obtain ⟨e1, e2, e3⟩ := hT.2.2 k hk1
  have hl := wf_len _ _ e1
  have hND := (hC.1.2.1 k hk1).1.1
  have c1 : Ex_cellAt (31 + 6 * k) 0 M = some (some (.inl (nth (T.1 k) 0)), M) := by
    have := Ex_cellAt_s hG hND ((0 : Nat) : Int)
    rw [cA_n (by omega)] at this
    exact this
  obtain ⟨M', a1, a2, a3, a4⟩ := Tr_addArguments_s (arN (nth (T.1 k) 0)) 0 T M (T.1 k) 0 none hG hT hC rfl e1 rfl (Nat.zero_le _) e2
  rw [agp_z] at a1
  have a1 : Tr_addArguments_20 27 (30 + 6 * k) 0 1 ((arN (nth (T.1 k) 0) : Nat) : Int) 0 none M = _ := a1
  rw [Tr_addBelow_eq, hG.nd (by omega), gd_t, h4, if_pos rfl, hG.gT, gd_t, Tr_addArguments_eq, hG.nd (by omega), gd_t, (hG.ndr (x := k) (by omega)).1, hND.g hG, gd_t, c1, cI_s, Ex_arity_s (av_nth e2 (by omega)).inR, cI_s, ← arN_ar, a1, cI_s]
  exact ⟨M', rfl, a2, a3, a4⟩
theorem Tr_addStep (hG : Good M) (hT : TOK T k) (hC : CTs M T) (h4 : mI M (30 + 6 * k) 4 = 2) (hP : 772 < P) (hzs : zsk 100 zs) (hp : PRc M P zs) {p c : Nat} {z : Clz} (hz : zs[c]? = some z) (hclf : CLf (T.1 k) p z) (h3 : mI M 21 3 = (p : Int)) (hr4 : mR M 21 4 = P + 2 + 4 * c) : ∃ M', Tr_addBelow 27 (30 + 6 * k) M = some (some (.inl (adL k [(stx z (T.1 k) p, -1, -1)] T).1), M') ∧ CTs M' (adL k [(stx z (T.1 k) p, -1, -1)] T).2 ∧ Good M' ∧ Fq daS anR M M' := by
  obtain ⟨hk1, hk2, hk3⟩ := hT.k
  obtain ⟨e1, e2, e3⟩ := hT.2.2 k hk1
  have hzk := hzs _ (List.mem_of_getElem? hz)
  have hCl := hp.2 c z hz
  obtain ⟨-, hst, -⟩ := hclf.all hzk
  have hND := (hC.1.2.1 k hk1).1.1
  have hC' := hC
  obtain ⟨-, ⟨us, hm⟩, us2, hp2⟩ := hC'
  have hsl := stx_len3 (at0 := p) (show (T.1 k).length ≤ 200 by omega) (Nat.le_refl _) hzk
  obtain ⟨M2, b1, b2, b3, b4, b5⟩ := Ru_makeStep_s (e1 := 31 + 6 * k) (e2 := 752) (n1 := 40) (n2 := 20480) (c := P + 2 + 4 * c) (by omega) (by decide) (by omega) (by omega) (by omega) (by omega) e2 hzk hst hG hND hm hCl (by omega)
  have hG2 := hG.fj b5
  have F2q : Fq (fun a _ => a = 22 ∨ (752 ≤ a ∧ a < 754)) nor M M2 := b5.fq fun a j q => by omega
  have hC2 : CTs M2 T := ⟨hC.1.fq hT.1 F2q (by omega) (fun a j _ q => q), ⟨_, b3⟩, _, hp2.ext fun a j q => F2q.2.2 a j (by omega)⟩
  obtain ⟨M3, d1, d2, d3, d4, d5⟩ := Tr_addMade_s hG2 hT hC2 (x := (stx z (T.1 k) p, -1, -1)) ⟨rfl, rfl⟩ (stx_av e2 hzk) b3
  have F3 : Fq daS anR M M3 := (F2q.mono (T := daS) (U := anR) (fun a j q => by unfold daS; omega) fun a j q => q.elim).trans (d5.mono (fun a j q => by unfold anS at q; unfold daS; omega) fun a j q => q)
  rw [Tr_addBelow_eq, hG.nd (by omega), gd_t, h4, if_neg (by decide), if_pos rfl, hG.gT, gd_t, Tr_addStepped_eq, hG.gT, gd_t, hG.r27_0, hG.gRu, gd_t, hr4, if_neg (by omega), gd_t, hG.nd (by omega), gd_t, gd_t, gd_t, gd_t, gd_t, gd_t, gd_t, (hG.ndr (x := k) (by omega)).1, h3, hG.r27_5, b1, cV_s, hG2.gT, gd_t, gd_t, hG2.r27_5, d1, cI_s, cI_s]
  unfold adL adL
  by_cases h1' : 40 < (stx z (T.1 k) p).length
  · simp only [if_pos h1'] at d2 ⊢
    exact ⟨M3, rfl, d2, d4, F3⟩
  · simp only [if_neg h1'] at d2 ⊢
    by_cases h2' : 120 ≤ T.2.2
    · simp only [if_pos h2'] at d2 ⊢
      exact ⟨M3, rfl, d2, d4, F3⟩
    · simp only [if_neg h2'] at d2 ⊢
      exact ⟨M3, rfl, d2, d4, F3⟩
theorem Tr_addCase (hG : Good M) (hT : TOK T k) (hC : CTs M T) (h4 : mI M (30 + 6 * k) 4 = 3) (hP : 772 < P) (hzs : zsk 100 zs) (hok : okP zs) (hp : PRc M P zs) (h6 : mR M 27 6 = P) (h5 : (fnx zs (T.1 k) 0).1 = 5) (h3 : mI M 21 3 = ((fnx zs (T.1 k) 0).2.1 : Nat)) (h10 : T.2.1 k 10 = nth (T.1 k) ((fnx zs (T.1 k) 0).2.1 + 1)) {fr : Nat} (h13 : mI M 27 13 = (fr : Int)) (hfr : fr + 400 < 65536) : ∃ M', Tr_addBelow 27 (30 + 6 * k) M = some (some (.inl (adL k (spk (nth (T.1 k) (fnx zs (T.1 k) 0).2.1) (nth (T.1 k) ((fnx zs (T.1 k) 0).2.1 + 1)) (T.1 k) (fnx zs (T.1 k) 0).2.1 zs fr) T).1), M') ∧ CTs M' (adL k (spk (nth (T.1 k) (fnx zs (T.1 k) 0).2.1) (nth (T.1 k) ((fnx zs (T.1 k) 0).2.1 + 1)) (T.1 k) (fnx zs (T.1 k) 0).2.1 zs fr) T).2 ∧ ((adL k (spk (nth (T.1 k) (fnx zs (T.1 k) 0).2.1) (nth (T.1 k) ((fnx zs (T.1 k) 0).2.1 + 1)) (T.1 k) (fnx zs (T.1 k) 0).2.1 zs fr) T).1 = 0 → mI M' 27 13 = (spf (nth (T.1 k) (fnx zs (T.1 k) 0).2.1) zs fr : Nat)) ∧ Good M' ∧ Fq dcS anR M M' := by
  obtain ⟨hk1, hk2, hk3⟩ := hT.k
  obtain ⟨e1, e2, e3⟩ := hT.2.2 k hk1
  obtain ⟨⟨-, g1⟩, g2, g3, c0, z0, g4, g5, g6⟩ := fnx_blk (zs := zs) (xs := T.1 k) _ 0 rfl (Nat.zero_le _) (by rw [List.drop_zero]; exact h5)
  rw [List.drop_zero] at g1 g2 g3 g4
  have hND := (hC.1.2.1 k hk1).1.1
  have hzl := hp.1.2.2
  have hz0 : z0.1 = nth (T.1 k) (fnx zs (T.1 k) 0).2.1 := by
    rcases fo_spec (nth (T.1 k) (fnx zs (T.1 k) 0).2.1) zs 0 with ⟨g, -⟩ | ⟨j, w, q1, q2, q3, -⟩
    · rw [g] at g4; cases g4
    · rw [q1, Nat.zero_add] at g4; cases g4; rw [q2] at g5; cases g5; exact q3
  have hcon : ∀ z ∈ zs, z.1 = nth (T.1 k) (fnx zs (T.1 k) 0).2.1 → z.2.1 ≠ -1 := by
    intro z hz hzf
    obtain ⟨j, hj⟩ := List.mem_iff_getElem?.mp hz
    by_cases q1 : j = c0
    · subst q1; rw [g5] at hj; cases hj; exact g6
    · by_cases q2 : j < c0
      · exact (hok j c0 z z0 q2 hj g5 (hzf.trans hz0.symm)).1
      · exact (hok c0 j z0 z (by omega) g5 hj (hz0.trans hzf.symm)).2.1
  obtain ⟨M', a1, a2, a3, a4, a5⟩ := Tr_addCases_loop hP hzs (f := nth (T.1 k) (fnx zs (T.1 k) 0).2.1) (blk := nth (T.1 k) ((fnx zs (T.1 k) 0).2.1 + 1)) (p := (fnx zs (T.1 k) 0).2.1) e1 e2 e3 g2 hcon (fun z hz hzf fr hfr => spl_clf e1 e2 hzs h5 hz hzf (hcon z hz hzf) hfr) _ 0 T M fr none rfl (Nat.zero_le _) hG hT hC rfl h10 h13 hp h6 (by omega)
  rw [List.drop_zero] at a1 a2 a3
  have a1 : Tr_addCases_23 27 (30 + 6 * k) ((fnx zs (T.1 k) 0).2.1 : Int) (nth (T.1 k) (fnx zs (T.1 k) 0).2.1) 0 0 none M = _ := a1
  have c1 := Ex_cellAt_s hG hND (((fnx zs (T.1 k) 0).2.1 : Nat) : Int)
  rw [cA_n (by omega)] at c1
  rw [Tr_addBelow_eq, hG.nd (by omega), gd_t, h4, if_neg (by decide), if_neg (by decide), if_pos rfl, hG.gT, gd_t, Tr_addCases_eq, hG.gT, gd_t, hG.r27_0, hG.gRu, gd_t, hG.nd (by omega), gd_t, (hG.ndr (x := k) (by omega)).1, hND.g hG, gd_t, h3, c1, cI_s, a1, cI_s]
  exact ⟨M', rfl, a2, a3, a4, a5⟩
end LOOK2

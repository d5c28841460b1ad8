/-! ===== the class's clauses and programs ===== -/
/-- a clause: function, case's con (-1: at once), VARS of the left, right side -/
abbrev Clz : Type := Int × Int × List Int × List Int
def CLc (M : Mem) (c : Nat) (z : Clz) : Prop := (isC c ∧ mI M c 3 = z.1 ∧ mI M c 4 = z.2.1) ∧ (mI M c 2 = (z.2.2.1.length : Int) ∧ RW M (c + 1) 0 z.2.2.1 ∧ z.2.2.1.length ≤ 11) ∧ XE M (c + 2) 100 z.2.2.2
def PRc (M : Mem) (P : Nat) (zs : List Clz) : Prop := (isP P ∧ mI M P 1 = (zs.length : Int) ∧ zs.length ≤ 40) ∧ ∀ i z, zs[i]? = some z → CLc M (P + 2 + 4 * i) z
/-- a program's addresses -/
def pS (P : Nat) : Nat → Prop := fun a => P ≤ a ∧ a < P + 162
def cS (c : Nat) : Nat → Prop := fun a => c ≤ a ∧ a < c + 4
theorem XE.fi {M M1 : Mem} {S : Nat → Prop} {e n : Nat} {xs : List Int} (h : XE M e n xs) (f : Fi S M M1) (h1 : ¬ S e) (h2 : ¬ S (e + 1)) : XE M1 e n xs := ⟨h.1, h.2.1.fi f h1 h2, h.2.2⟩
theorem XE.fr {M M1 : Mem} {S : Nat → Prop} {e n : Nat} {xs : List Int} (h : XE M e n xs) (f : Fr S M M1) (h1 : ¬ S e) (h2 : ¬ S (e + 1)) : XE M1 e n xs := ⟨h.1, h.2.1.fr f h1 h2, h.2.2⟩
theorem CLc.fr {M M1 : Mem} {S : Nat → Prop} {c : Nat} {z : Clz} (h : CLc M c z) (f : Fr S M M1) (h0 : ∀ a, cS c a → ¬ S a) : CLc M1 c z := by
  have h1 := f.2 c (h0 c (by unfold cS; omega))
  exact ⟨⟨h.1.1, (h1.1 3).trans h.1.2.1, (h1.1 4).trans h.1.2.2⟩, ⟨(h1.1 2).trans h.2.1.1, h.2.1.2.1.fr f (h0 _ (by unfold cS; omega)), h.2.1.2.2⟩, h.2.2.fr f (h0 _ (by unfold cS; omega)) (h0 _ (by unfold cS; omega))⟩
theorem CLc.fi {M M1 : Mem} {S : Nat → Prop} {c : Nat} {z : Clz} (h : CLc M c z) (f : Fi S M M1) (h0 : ∀ a, cS c a → ¬ S a) : CLc M1 c z := h.fr f.fr h0
theorem PRc.fr {M M1 : Mem} {S : Nat → Prop} {P : Nat} {zs : List Clz} (h : PRc M P zs) (f : Fr S M M1) (h0 : ∀ a, pS P a → ¬ S a) : PRc M1 P zs :=
  ⟨⟨h.1.1, ((f.2 P (h0 P (by unfold pS; omega))).1 1).trans h.1.2.1, h.1.2.2⟩, fun i z hz => (h.2 i z hz).fr f fun a ha => h0 a (by
    have hi := (List.getElem?_eq_some_iff.mp hz).1
    have := h.1.2.2
    unfold cS at ha
    unfold pS
    omega)⟩
theorem PRc.fi {M M1 : Mem} {S : Nat → Prop} {P : Nat} {zs : List Clz} (h : PRc M P zs) (f : Fi S M M1) (h0 : ∀ a, pS P a → ¬ S a) : PRc M1 P zs := h.fr f.fr h0
def fo (f : Int) : List Clz → Nat → Option Nat
  | [], _ => none
  | z :: zs, i => if z.1 = f then some i else fo f zs (i + 1)
def co (f c : Int) : List Clz → Nat → Option Nat
  | [], _ => none
  | z :: zs, i => if z.1 = f then (if z.2.1 = c then some i else co f c zs (i + 1)) else co f c zs (i + 1)
def cad (P : Nat) : Option Nat → Nat
  | none => 0
  | some k => P + 2 + 4 * k
theorem fo_spec (f : Int) : ∀ (zs : List Clz) (i : Nat), (fo f zs i = none ∧ ∀ z ∈ zs, z.1 ≠ f) ∨ ∃ k z, fo f zs i = some (i + k) ∧ zs[k]? = some z ∧ z.1 = f ∧ ∀ j z', j < k → zs[j]? = some z' → z'.1 ≠ f := by
  intro zs
  induction zs with
  | nil => intro i; exact Or.inl ⟨rfl, by simp⟩
  | cons z zs ih =>
    intro i
    unfold fo
    by_cases h : z.1 = f
    · rw [if_pos h]; exact Or.inr ⟨0, z, rfl, rfl, h, fun j z' hj => by omega⟩
    · rw [if_neg h]
      rcases ih (i + 1) with ⟨h1, h2⟩ | ⟨k, w, h1, h2, h3, h4⟩
      · exact Or.inl ⟨h1, fun w hw => (List.mem_cons.mp hw).elim (fun e => e ▸ h) (h2 w)⟩
      · refine Or.inr ⟨k + 1, w, by rw [h1]; congr 1; omega, h2, h3, fun j z' hj hz => ?_⟩
        cases j with
        | zero => cases hz; exact h
        | succ j => exact h4 j z' (by omega) hz
theorem co_spec (f c : Int) : ∀ (zs : List Clz) (i : Nat), (co f c zs i = none ∧ ∀ z ∈ zs, ¬ (z.1 = f ∧ z.2.1 = c)) ∨ ∃ k z, co f c zs i = some (i + k) ∧ zs[k]? = some z ∧ (z.1 = f ∧ z.2.1 = c) ∧ ∀ j z', j < k → zs[j]? = some z' → ¬ (z'.1 = f ∧ z'.2.1 = c) := by
  intro zs
  induction zs with
  | nil => intro i; exact Or.inl ⟨rfl, by simp⟩
  | cons z zs ih =>
    intro i
    have key : ∀ (h : ¬ (z.1 = f ∧ z.2.1 = c)), (co f c zs (i + 1) = none ∧ ∀ w ∈ z :: zs, ¬ (w.1 = f ∧ w.2.1 = c)) ∨ ∃ k w, co f c zs (i + 1) = some (i + k) ∧ (z :: zs)[k]? = some w ∧ (w.1 = f ∧ w.2.1 = c) ∧ ∀ j z', j < k → (z :: zs)[j]? = some z' → ¬ (z'.1 = f ∧ z'.2.1 = c) := by
      intro h
      rcases ih (i + 1) with ⟨h1, h2⟩ | ⟨k, w, h1, h2, h3, h4⟩
      · exact Or.inl ⟨h1, fun w hw => (List.mem_cons.mp hw).elim (fun e => e ▸ h) (h2 w)⟩
      · refine Or.inr ⟨k + 1, w, by rw [h1]; congr 1; omega, h2, h3, fun j z' hj hz => ?_⟩
        cases j with
        | zero => cases hz; exact h
        | succ j => exact h4 j z' (by omega) hz
    unfold co
    by_cases h : z.1 = f
    · rw [if_pos h]
      by_cases h5 : z.2.1 = c
      · rw [if_pos h5]; exact Or.inr ⟨0, z, rfl, rfl, ⟨h, h5⟩, fun j z' hj => by omega⟩
      · rw [if_neg h5]; exact key fun q => h5 q.2
    · rw [if_neg h]; exact key fun q => h q.1
theorem g345 {M : Mem} {a : Nat} {i : Int} (h : gS M a 3 i = true ∨ gS M a 4 i = true ∨ gS M a 5 i = true) : (gS M a 3 i || (gS M a 4 i || gS M a 5 i)) = true := by
  simp only [Bool.or_eq_true]
  exact h
theorem drop_get {α : Type} {zs : List α} {i : Nat} {z : α} (h : zs[i]? = some z) : zs.drop i = z :: zs.drop (i + 1) := by
  obtain ⟨h1, h2⟩ := List.getElem?_eq_some_iff.mp h
  rw [← h2]
  exact List.drop_eq_getElem_cons h1
section CLAUSE
variable {M : Mem} {c : Nat} {z : Clz}
theorem CLc.g (hG : Good M) (h : CLc M c z) : gO M c 1 = true := hG.tgO h.1.1.1
theorem CLc.r (hG : Good M) (h : CLc M c z) : mR M c 0 = c + 1 ∧ mR M c 1 = c + 2 := hG.2.1.2.1 c h.1.1.1
theorem Cl_isCase_s (hG : Good M) (h : CLc M c z) : Cl_isCase c M = some (some (.inl (if z.2.1 = -1 then 0 else 1)), M) := by
  rw [Cl_isCase_eq, h.g hG, gd_t, h.1.2.2]
  split <;> rfl
theorem Cl_indexOfVar_s (hG : Good M) (h : CLc M c z) (v : Int) : Cl_indexOfVar c v M = some (some (.inl (ix z.2.2.1 v)), M) := by
  rw [Cl_indexOfVar_eq, h.g hG, gd_t, gd_t, (h.r hG).1, h.2.1.1, Ex_indexOf_s hG h.1.1.2.1 h.2.1.2.1 h.2.1.2.2 (by decide), cI_s]
theorem Cl_clear_s (hG : Good M) (h : CLc M c z) : ∃ M', Cl_clear c M = some (none, M') ∧ CLc M' c (-1, -1, [], []) ∧ Fi (cS c) M M' := by
  have hG1 : ∀ {a k v}, a = c → Good (stI M a k v) := fun e => hG.fi (Fi.ofI (S := fun _ => True) trivial)
  have hF : Fi (fun a => a = c) M (stI (stI (stI M c 2 0) c 3 (-1)) c 4 (-1)) := ((Fi.ofI (S := fun a => a = c) rfl).trans (Fi.ofI rfl)).trans (Fi.ofI rfl)
  obtain ⟨M', h1, h2, h3⟩ := Ex_clear_s (hG.fi hF) (h.2.2.fi hF (by show ¬ c + 2 = c; omega) (by show ¬ c + 2 + 1 = c; omega))
  have h3c := h3.2.2 c (by unfold eS; omega)
  refine ⟨M', ?_, ⟨⟨h.1.1, ?_, ?_⟩, ⟨?_, fun i hi => absurd hi (Nat.not_lt_zero i), Nat.zero_le _⟩, h2⟩, (hF.mono fun a ha => by unfold cS; omega).trans (h3.mono fun a ha => by unfold eS at ha; unfold cS; omega)⟩
  · rw [Cl_clear_eq]
    simp only [h.g hG, gd_t, (h.r hG).2, hG.tgO h.1.1.2.2.1]
    rw [h1, cV_s]
  · rw [h3c 3, mI_ne (by omega), mI_at]
  · rw [h3c 4, mI_at]
  · rw [h3c 2, mI_ne (by omega), mI_ne (by omega), mI_at]; rfl
theorem Cl_addVar_s (hG : Good M) (h : CLc M c z) (v : Int) (hl : z.2.2.1.length < 11) : ∃ M', Cl_addVar c v M = some (none, M') ∧ CLc M' c (z.1, z.2.1, z.2.2.1 ++ [v], z.2.2.2) ∧ Fi (cS c) M M' := by
  have hF : Fi (fun a => a = c ∨ a = c + 1) M (stI (stI M (c + 1) z.2.2.1.length v) c 2 ((z.2.2.1.length + 1 : Nat) : Int)) := (Fi.ofI (Or.inr rfl)).trans (Fi.ofI (Or.inl rfl))
  refine ⟨_, ?_, ⟨⟨h.1.1, ?_, ?_⟩, ⟨?_, ?_, ?_⟩, h.2.2.fi hF (by omega) (by omega)⟩, hF.mono fun a ha => by unfold cS; omega⟩
  · rw [Cl_addVar_eq]
    simp only [h.g hG, gd_t, (h.r hG).1, h.2.1.1]
    rw [hG.tgL h.1.1.2.1 (by decide), gd_t, hG.len h.1.1.2.1, if_pos (by omega), hG.tgS h.1.1.2.1 (by omega) (by omega), gd_t, toNat_n, mI_ne (by omega), h.2.1.1, wr_s (by omega)]
  · rw [mI_ne (by omega), mI_ne (by omega)]; exact h.1.2.1
  · rw [mI_ne (by omega), mI_ne (by omega)]; exact h.1.2.2
  · rw [mI_at, List.length_append]; rfl
  · intro i hi
    rw [List.length_append, List.length_singleton] at hi
    rw [Nat.zero_add, mI_ne (by omega)]
    by_cases q : i = z.2.2.1.length
    · subst q; rw [mI_at, nth_app2 (Nat.le_refl _), Nat.sub_self]; rfl
    · rw [mI_ne (by omega), nth_app1 (by omega)]
      have := h.2.1.2.1 i (by omega)
      rwa [Nat.zero_add] at this
  · rw [List.length_append, List.length_singleton]; exact hl
end CLAUSE
section PROG
variable {M : Mem} {P : Nat} {zs : List Clz}
theorem isP.g (hG : Good M) (h : isP P) : gO M P 5 = true := hG.tgO h.1
theorem isP.r (hG : Good M) (h : isP P) : mR M P 0 = P + 1 := (hG.2.1.2.2.2.1 P h.1).1
theorem isP.c (hG : Good M) (h : isP P) {i : Nat} (hi : i < 40) : mR M (P + 1) i = P + 2 + 4 * i := (hG.2.1.2.2.2.1 P h.1).2 i hi
theorem isP.a (hG : Good M) (h : isP P) {i : Nat} (hi : i < 40) : (gS M (P + 1) 3 (i : Int) || (gS M (P + 1) 4 (i : Int) || gS M (P + 1) 5 (i : Int))) = true := g345 (Or.inr (Or.inl (hG.tgS h.2.1 (by omega) (by omega))))
theorem PRc.g (hG : Good M) (h : PRc M P zs) : gO M P 5 = true := hG.tgO h.1.1.1
theorem PRc.r (hG : Good M) (h : PRc M P zs) : mR M P 0 = P + 1 := (hG.2.1.2.2.2.1 P h.1.1.1).1
theorem PRc.c (hG : Good M) (h : PRc M P zs) {i : Nat} (hi : i < 40) : mR M (P + 1) i = P + 2 + 4 * i := (hG.2.1.2.2.2.1 P h.1.1.1).2 i hi
theorem PRc.a (hG : Good M) (h : PRc M P zs) {i : Nat} (hi : i < 40) : (gS M (P + 1) 3 (i : Int) || (gS M (P + 1) 4 (i : Int) || gS M (P + 1) 5 (i : Int))) = true := g345 (Or.inr (Or.inl (hG.tgS h.1.1.2.1 (by omega) (by omega))))
theorem PRc.get (h : PRc M P zs) {i : Nat} (hi : i < zs.length) : ∃ z, zs[i]? = some z ∧ CLc M (P + 2 + 4 * i) z := ⟨zs[i], List.getElem?_eq_getElem hi, h.2 i _ (List.getElem?_eq_getElem hi)⟩
theorem Pr_clear_s (hG : Good M) (h : PRc M P zs) : ∃ M', Pr_clear P M = some (none, M') ∧ PRc M' P [] ∧ Fi (fun a => a = P) M M' :=
  ⟨stI M P 1 0, by rw [Pr_clear_eq, h.g hG, gd_t], ⟨⟨h.1.1, mI_at, Nat.zero_le _⟩, fun i z hz => by simp at hz⟩, Fi.ofI rfl⟩
theorem Pr_clauseAt_s (hG : Good M) (h : PRc M P zs) (k : Int) : Pr_clauseAt P k M = some (some (.inr (if 0 ≤ k ∧ k < (zs.length : Int) then P + 2 + 4 * k.toNat else 0)), M) := by
  have hl := h.1.2.2
  rw [Pr_clauseAt_eq]
  by_cases h0 : k < 0
  · rw [if_pos h0, if_neg (by omega)]
  · rw [if_neg h0, h.g hG, gd_t, h.1.2.1]
    by_cases h1 : k < (zs.length : Int)
    · obtain ⟨j, rfl⟩ := Int.eq_ofNat_of_zero_le (show 0 ≤ k by omega)
      rw [if_pos h1, gd_t, h.r hG, hG.tgL h.1.1.2.1 (by decide), gd_t, hG.len h.1.1.2.1, if_pos (by omega), gd_t, h.a hG (by omega), gd_t, toNat_n, h.c hG (by omega), if_pos (by omega)]
    · rw [if_neg h1, if_neg (by omega)]
theorem Pr_firstOf_s (hG : Good M) (h : PRc M P zs) (f : Int) : Pr_firstOf P f M = some (some (.inr (cad P (fo f zs 0))), M) := by
  have hl := h.1.2.2
  have key : ∀ (k i : Nat), zs.length - i = k → i ≤ zs.length → Pr_firstOf_2 P f (i : Int) M = some (some (.inr (cad P (fo f (zs.drop i) i))), M) := by
    intro k
    induction k with
    | zero =>
      intro i h1 h2
      rw [Pr_firstOf_2_eq, h.g hG, gd_t, h.1.2.1, if_neg (by omega), List.drop_eq_nil_of_le (by omega)]
      rfl
    | succ k ih =>
      intro i h1 h2
      obtain ⟨z, hz, hc⟩ := h.get (show i < zs.length by omega)
      rw [Pr_firstOf_2_eq, h.g hG, gd_t, h.1.2.1, if_pos (by omega), gd_t, h.r hG, h.a hG (by omega), gd_t, toNat_n, h.c hG (by omega), hc.g hG, gd_t, hc.1.2.1, drop_get hz, wr_s (by omega)]
      unfold fo
      by_cases h3 : z.1 = f
      · rw [if_pos h3, if_pos h3, gd_t, gd_t]; rfl
      · rw [if_neg h3, if_neg h3]
        exact ih (i + 1) (by omega) (by omega)
  rw [Pr_firstOf_eq]
  exact key _ 0 rfl (Nat.zero_le _)
theorem Pr_caseOf_s (hG : Good M) (h : PRc M P zs) (f c : Int) : Pr_caseOf P f c M = some (some (.inr (cad P (co f c zs 0))), M) := by
  have hl := h.1.2.2
  have key : ∀ (k i : Nat), zs.length - i = k → i ≤ zs.length → Pr_caseOf_2 P f c (i : Int) M = some (some (.inr (cad P (co f c (zs.drop i) i))), M) := by
    intro k
    induction k with
    | zero =>
      intro i h1 h2
      rw [Pr_caseOf_2_eq, h.g hG, gd_t, h.1.2.1, if_neg (by omega), List.drop_eq_nil_of_le (by omega)]
      rfl
    | succ k ih =>
      intro i h1 h2
      obtain ⟨z, hz, hc⟩ := h.get (show i < zs.length by omega)
      rw [Pr_caseOf_2_eq, h.g hG, gd_t, h.1.2.1, if_pos (by omega), gd_t, h.r hG, h.a hG (by omega), gd_t, toNat_n, h.c hG (by omega), hc.g hG, gd_t, hc.1.2.1, hc.1.2.2, drop_get hz, wr_s (by omega)]
      simp only [gd_t]
      unfold co
      by_cases h3 : z.1 = f
      · rw [if_pos h3, if_pos h3]
        by_cases h4 : z.2.1 = c
        · rw [if_pos h4, if_pos h4]; rfl
        · rw [if_neg h4, if_neg h4]
          exact ih (i + 1) (by omega) (by omega)
      · rw [if_neg h3, if_neg h3]
        exact ih (i + 1) (by omega) (by omega)
  rw [Pr_caseOf_eq]
  exact key _ 0 rfl (Nat.zero_le _)
theorem cad_0 {P : Nat} (hP : 0 < P) {o : Option Nat} : cad P o = 0 ↔ o = none := by
  cases o with
  | none => exact ⟨fun _ => rfl, fun _ => rfl⟩
  | some k => exact ⟨fun h => by have h : P + 2 + 4 * k = 0 := h; omega, fun h => by cases h⟩
theorem PRc.fo (h : PRc M P zs) {f : Int} {k : Nat} (hk : fo f zs 0 = some k) : ∃ z, zs[k]? = some z ∧ z.1 = f ∧ CLc M (P + 2 + 4 * k) z := by
  rcases fo_spec f zs 0 with ⟨h1, -⟩ | ⟨j, z, h1, h2, h3, -⟩
  · rw [h1] at hk; cases hk
  · rw [h1, Nat.zero_add] at hk
    cases hk
    exact ⟨z, h2, h3, h.2 _ z h2⟩
theorem PRc.co (h : PRc M P zs) {f c : Int} {k : Nat} (hk : co f c zs 0 = some k) : ∃ z, zs[k]? = some z ∧ (z.1 = f ∧ z.2.1 = c) ∧ CLc M (P + 2 + 4 * k) z := by
  rcases co_spec f c zs 0 with ⟨h1, -⟩ | ⟨j, z, h1, h2, h3, -⟩
  · rw [h1] at hk; cases hk
  · rw [h1, Nat.zero_add] at hk
    cases hk
    exact ⟨z, h2, h3, h.2 _ z h2⟩
/-- whether a clause can't be told behind these -/
def ctr (zs : List Clz) (f c : Int) : Bool := zs.any fun z => decide (z.1 = f) && (decide (z.2.1 = -1) || (decide (c = -1) || decide (z.2.1 = c)))
/-- of one function: one clause at once, or cases, each once -/
def okP (zs : List Clz) : Prop := ∀ (i j : Nat) (y z : Clz), i < j → zs[i]? = some y → zs[j]? = some z → y.1 = z.1 → y.2.1 ≠ -1 ∧ z.2.1 ≠ -1 ∧ y.2.1 ≠ z.2.1
theorem Pr_contradicts_s (hG : Good M) (h : PRc M P zs) (hok : okP zs) {c : Nat} {y : Clz} (hc : CLc M c y) : Pr_contradicts P c M = some (some (.inl (if ctr zs y.1 y.2.1 = true then 1 else 0)), M) := by
  have hP : 0 < P := by have := h.1.1.1.1; omega
  rw [Pr_contradicts_eq, hc.g hG, gd_t, h.g hG, gd_t, hc.1.2.1, Pr_firstOf_s hG h, cR_s]
  rcases fo_spec y.1 zs 0 with ⟨h1, h2⟩ | ⟨k, z, h1, h2, h3, h4⟩
  · rw [h1]
    rw [if_pos (show cad P none = 0 from rfl), if_neg]
    intro q
    unfold ctr at q
    obtain ⟨w, hw, q⟩ := List.any_eq_true.mp q
    simp only [Bool.and_eq_true, decide_eq_true_eq] at q
    exact h2 w hw q.1
  · rw [h1, Nat.zero_add]
    have hz := h.2 k z h2
    have h9 : cad P (some k) = P + 2 + 4 * k := rfl
    rw [if_neg (by rw [h9]; omega), h9, hz.g hG, gd_t, Cl_isCase_s hG hz, cI_s]
    have hin : ∀ w, zs[k]? = some w → (decide (w.1 = y.1) && (decide (w.2.1 = -1) || (decide (y.2.1 = -1) || decide (w.2.1 = y.2.1)))) = true → ctr zs y.1 y.2.1 = true := fun w hw q => List.any_eq_true.mpr ⟨w, List.mem_of_getElem? hw, q⟩
    by_cases h5 : z.2.1 = -1
    · rw [if_pos h5, if_pos rfl, if_pos (hin z h2 (by simp [h3, h5]))]
    · rw [if_neg h5, if_neg (by decide), hc.g hG, gd_t, Cl_isCase_s hG hc, cI_s]
      by_cases h6 : y.2.1 = -1
      · rw [if_pos h6, if_pos rfl, if_pos (hin z h2 (by simp [h3, h6]))]
      · rw [if_neg h6, if_neg (by decide), hc.g hG, gd_t, gd_t, h.g hG, gd_t, hc.1.2.1, hc.1.2.2, Pr_caseOf_s hG h, cR_s]
        rcases co_spec y.1 y.2.1 zs 0 with ⟨g1, g2⟩ | ⟨j, w, g1, g2, g3, g4⟩
        · rw [g1, if_pos (show cad P none = 0 from rfl), if_neg]
          intro q
          obtain ⟨w, hw, q⟩ := List.any_eq_true.mp q
          simp only [Bool.and_eq_true, Bool.or_eq_true, decide_eq_true_eq] at q
          obtain ⟨q1, q2 | q2 | q2⟩ := q
          · obtain ⟨j, hj⟩ := List.mem_iff_getElem?.mp hw
            by_cases e1 : j = k
            · subst e1
              rw [h2] at hj
              cases hj
              exact h5 q2
            · by_cases e2 : j < k
              · exact h4 j w e2 hj q1
              · exact (hok k j z w (by omega) h2 hj (h3.trans q1.symm)).2.1 q2
          · exact h6 q2
          · exact g2 w hw ⟨q1, q2⟩
        · rw [g1, Nat.zero_add, if_neg (by show ¬ P + 2 + 4 * j = 0; omega), if_pos]
          exact List.any_eq_true.mpr ⟨w, List.mem_of_getElem? g2, by simp [g3.1, g3.2]⟩
theorem Pr_spareClause_s (hG : Good M) (h : PRc M P zs) {z0 : Clz} (hl : zs.length < 40) (hz0 : CLc M (P + 2 + 4 * zs.length) z0) : ∃ M', Pr_spareClause P M = some (some (.inr (P + 2 + 4 * zs.length)), M') ∧ CLc M' (P + 2 + 4 * zs.length) (-1, -1, [], []) ∧ Fi (cS (P + 2 + 4 * zs.length)) M M' := by
  obtain ⟨M', h1, h2, h3⟩ := Cl_clear_s hG hz0
  have hG' := hG.fi h3
  have hp := h.1.1.1.1
  have hp1 : mI M' P 1 = (zs.length : Int) := (h3.2.2 P (by unfold cS; omega) 1).trans h.1.2.1
  refine ⟨M', ?_, h2, h3⟩
  rw [Pr_spareClause_eq, h.g hG]
  simp only [gd_t, h.r hG, h.1.2.1]
  rw [hG.tgL h.1.1.2.1 (by decide), gd_t, hG.len h.1.1.2.1, if_pos (by omega), h.a hG (by omega), gd_t, toNat_n, h.c hG (by omega), hz0.g hG, gd_t, h1, cV_s]
  simp only [h.1.1.g hG', h.1.1.r hG', gd_t, hp1]
  rw [h.1.1.a hG' (by omega), gd_t, toNat_n, h.1.1.c hG' (by omega)]
theorem Pr_keepSpare_s (hG : Good M) (h : PRc M P zs) {z : Clz} (hl : zs.length < 40) (hz : CLc M (P + 2 + 4 * zs.length) z) : ∃ M', Pr_keepSpare P M = some (none, M') ∧ PRc M' P (zs ++ [z]) ∧ Fi (fun a => a = P) M M' := by
  have hF : Fi (fun a => a = P) M (stI M P 1 ((zs.length + 1 : Nat) : Int)) := Fi.ofI rfl
  refine ⟨_, ?_, ⟨⟨h.1.1, by rw [mI_at, List.length_append]; rfl, by rw [List.length_append, List.length_singleton]; exact hl⟩, ?_⟩, hF⟩
  · rw [Pr_keepSpare_eq, h.g hG]
    simp only [gd_t, h.r hG, h.1.2.1]
    rw [hG.tgL h.1.1.2.1 (by decide), gd_t, hG.len h.1.1.2.1, if_pos (by omega), wr_s (by omega)]
  · intro i w hw
    by_cases q : i < zs.length
    · rw [List.getElem?_append_left q] at hw
      exact (h.2 i w hw).fi hF fun a ha => by unfold cS at ha; omega
    · have h5 := (List.getElem?_eq_some_iff.mp hw).1
      rw [List.length_append, List.length_singleton] at h5
      have h6 : i = zs.length := by omega
      subst h6
      rw [List.getElem?_append_right (Nat.le_refl _), Nat.sub_self] at hw
      cases hw
      exact hz.fi hF fun a ha => by unfold cS at ha; omega
/-- how many functions are told, how many at once, the sizes of right sides -/
def cfn (zs : List Clz) : List Clz → Nat → Int → Int
  | [], _, m => m
  | z :: ws, i, m => cfn zs ws (i + 1) (if fo z.1 zs 0 = some i then m + 1 else m)
def cao : List Clz → Int → Int
  | [], m => m
  | z :: ws, m => cao ws (if z.2.1 = -1 then m + 1 else m)
def crt : List Clz → Int → Int
  | [], m => m
  | z :: ws, m => crt ws (m + (z.2.2.2.length : Int))
theorem Pr_countFunctions_s (hG : Good M) (h : PRc M P zs) : Pr_countFunctions P M = some (some (.inl (cfn zs zs 0 0)), M) := by
  have hl := h.1.2.2
  have key : ∀ (k i : Nat) (m : Int), zs.length - i = k → i ≤ zs.length → 0 ≤ m → m ≤ i → Pr_countFunctions_4 P m (i : Int) M = some (some (.inl (cfn zs (zs.drop i) i m)), M) := by
    intro k
    induction k with
    | zero =>
      intro i m h1 h2 h3 h4
      rw [Pr_countFunctions_4_eq, h.g hG, gd_t, h.1.2.1, if_neg (by omega), List.drop_eq_nil_of_le (by omega)]
      rfl
    | succ k ih =>
      intro i m h1 h2 h3 h4
      obtain ⟨z, hz, hc⟩ := h.get (show i < zs.length by omega)
      rw [Pr_countFunctions_4_eq, h.g hG, gd_t, h.1.2.1, if_pos (by omega), gd_t, h.r hG, h.a hG (by omega), gd_t, toNat_n, h.c hG (by omega), hc.g hG, gd_t, gd_t, hc.1.2.1, Pr_firstOf_s hG h, cR_s, h.g hG, gd_t, h.r hG, h.a hG (by omega), gd_t, h.c hG (by omega), drop_get hz, wr_s (i := i) (by omega), wr_id (x := m + 1) (by omega) (by omega)]
      unfold cfn
      have e : cad P (fo z.1 zs 0) = P + 2 + 4 * i ↔ fo z.1 zs 0 = some i := by
        have hp := h.1.1.1.1
        cases fo z.1 zs 0 with
        | none => exact ⟨fun q => absurd q (by show ¬ 0 = _; omega), fun q => by cases q⟩
        | some k => exact ⟨fun q => by have q : P + 2 + 4 * k = P + 2 + 4 * i := q; congr 1; omega, fun q => by cases q; rfl⟩
      by_cases h5 : fo z.1 zs 0 = some i
      · rw [if_pos (e.mpr h5), if_pos h5]
        exact ih (i + 1) _ (by omega) (by omega) (by omega) (by omega)
      · rw [if_neg (fun q => h5 (e.mp q)), if_neg h5]
        exact ih (i + 1) _ (by omega) (by omega) (by omega) (by omega)
  rw [Pr_countFunctions_eq]
  exact key _ 0 0 rfl (Nat.zero_le _) (by omega) (by omega)
theorem Pr_countAtOnce_s (hG : Good M) (h : PRc M P zs) : Pr_countAtOnce P M = some (some (.inl (cao zs 0)), M) := by
  have hl := h.1.2.2
  have key : ∀ (k i : Nat) (m : Int), zs.length - i = k → i ≤ zs.length → 0 ≤ m → m ≤ i → Pr_countAtOnce_4 P m (i : Int) M = some (some (.inl (cao (zs.drop i) m)), M) := by
    intro k
    induction k with
    | zero =>
      intro i m h1 h2 h3 h4
      rw [Pr_countAtOnce_4_eq, h.g hG, gd_t, h.1.2.1, if_neg (by omega), List.drop_eq_nil_of_le (by omega)]
      rfl
    | succ k ih =>
      intro i m h1 h2 h3 h4
      obtain ⟨z, hz, hc⟩ := h.get (show i < zs.length by omega)
      rw [Pr_countAtOnce_4_eq, h.g hG, gd_t, h.1.2.1, if_pos (by omega), gd_t, h.r hG, h.a hG (by omega), gd_t, toNat_n, h.c hG (by omega), hc.g hG, gd_t, Cl_isCase_s hG hc, cI_s, drop_get hz, wr_s (i := i) (by omega), wr_id (x := m + 1) (by omega) (by omega)]
      unfold cao
      by_cases h5 : z.2.1 = -1
      · rw [if_pos h5, if_pos h5, if_pos rfl]
        exact ih (i + 1) _ (by omega) (by omega) (by omega) (by omega)
      · rw [if_neg h5, if_neg h5, if_neg (by decide)]
        exact ih (i + 1) _ (by omega) (by omega) (by omega) (by omega)
  rw [Pr_countAtOnce_eq]
  exact key _ 0 0 rfl (Nat.zero_le _) (by omega) (by omega)
theorem Pr_countRight_s (hG : Good M) (h : PRc M P zs) : Pr_countRight P M = some (some (.inl (crt zs 0)), M) := by
  have hl := h.1.2.2
  have key : ∀ (k i : Nat) (m : Int), zs.length - i = k → i ≤ zs.length → 0 ≤ m → m ≤ 100 * i → Pr_countRight_4 P m (i : Int) M = some (some (.inl (crt (zs.drop i) m)), M) := by
    intro k
    induction k with
    | zero =>
      intro i m h1 h2 h3 h4
      rw [Pr_countRight_4_eq, h.g hG, gd_t, h.1.2.1, if_neg (by omega), List.drop_eq_nil_of_le (by omega)]
      rfl
    | succ k ih =>
      intro i m h1 h2 h3 h4
      obtain ⟨z, hz, hc⟩ := h.get (show i < zs.length by omega)
      have hr := hc.2.2.2.2
      rw [Pr_countRight_4_eq, h.g hG, gd_t, h.1.2.1, if_pos (by omega), gd_t, h.r hG, h.a hG (by omega), gd_t, toNat_n, h.c hG (by omega), hc.g hG, gd_t, (hc.r hG).2, hc.2.2.g hG, gd_t, hc.2.2.s, drop_get hz, wr_s (i := i) (by omega), wr_id (x := m + (z.2.2.2.length : Int)) (by omega) (by omega)]
      exact ih (i + 1) _ (by omega) (by omega) (by omega) (by omega)
  rw [Pr_countRight_eq]
  exact key _ 0 0 rfl (Nat.zero_le _) (by omega) (by omega)
end PROG

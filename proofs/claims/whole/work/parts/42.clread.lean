/-! ===== reading of clauses: what both do; the class's left sides ===== -/
def ob {α β : Type} (x : Except Nat α) (k : α → Except Nat β) : Except Nat β := match x with
  | .error e => .error e
  | .ok a => k a
theorem ob_o {α β : Type} (a : α) (k : α → Except Nat β) : ob (.ok a) k = k a := rfl
theorem ob_e {α β : Type} (e : Nat) (k : α → Except Nat β) : ob (.error e) k = .error e := rfl
def oki {α : Type} : Except Nat α → Int
  | .error _ => 0
  | .ok _ => 1
theorem oki_ok {α : Type} (a : α) : ¬ oki (.ok a : Except Nat α) = 0 := show ¬ (1 : Int) = 0 by decide
theorem oki_er {α : Type} (e : Nat) : oki (.error e : Except Nat α) = 0 := rfl
noncomputable def lvr (T : List Int) (p : Nat) (vs : List Int) : Except Nat (Nat × List Int) :=
  haveI := Classical.propDecidable
  if isV (pek T p) ∧ (rdn T p 109).1 ∉ vs then .ok ((rdn T p 109).2, vs ++ [(rdn T p 109).1]) else .error p
/-- behind the k-th thing of a list of VARS: the ), or a comma and a VAR -/
noncomputable def vls (T : List Int) : Nat → Nat → Nat → List Int → Except Nat (Nat × List Int × Nat)
  | 0, k, p, vs => if pek T p = 41 then .ok (p + 1, vs, k) else .error p
  | n + 1, k, p, vs => if pek T p = 41 then .ok (p + 1, vs, k) else if pek T p = 44 then ob (lvr T (p + 1) vs) fun r => vls T n (k + 1) r.1 r.2 else .error p
/-- a con of a left side, the con letter at p -/
noncomputable def pcn (T : List Int) (p : Nat) : Except Nat (Nat × List Int × Nat) := if pek T (p + 1) = 40 then ob (lvr T (p + 2) []) fun r => vls T 3 1 r.1 r.2 else .ok (p + 1, [], 0)
/-- what stands in the brackets of a left side: the place behind, the con or -1, the VARS, how many -/
noncomputable def pat (T : List Int) (p : Nat) : Except Nat (Nat × Int × List Int × Nat) :=
  haveI := Classical.propDecidable
  if pek T p = 41 then .ok (p + 1, -1, [], 0)
  else if isK (pek T p) then ob (pcn T p) fun s => ob (vls T 7 1 s.1 s.2.1) fun t => .ok (t.1, 16777216 + (s.2.2 : Int) * 65536 + (pek T p - 65), t.2.1, t.2.2)
  else ob (lvr T p []) fun r => ob (vls T 7 1 r.1 r.2) fun t => .ok (t.1, -1, t.2.1, t.2.2)
noncomputable def xpc (T : List Int) (p : Nat) (c : Int) : Except Nat Nat := if pek T p = c then .ok (p + 1) else .error p
noncomputable def rxo (T : List Int) (left : Option (List Int)) (cons : Bool) (p : Nat) : Except Nat (Nat × List Int) := if (rex T left cons 41 p [] []).1 = true then .ok (rex T left cons 41 p [] []).2 else .error (rex T left cons 41 p [] []).2.1
/-- a clause behind these -/
noncomputable def rcl (T : List Int) (zs : List Clz) (p : Nat) : Except Nat (Nat × Clz) :=
  haveI := Classical.propDecidable
  if zs.length < 40 ∧ isF (pek T p) then
    ob (xpc T (rdn T p 97).2 40) fun p1 => ob (pat T p1) fun s => ob (xpc T s.1 61) fun p2 =>
      if ctr zs (33554432 + (s.2.2.2 : Int) * 65536 + (rdn T p 97).1) s.2.1 = true then .error p
      else ob (rxo T (some s.2.2.1) false p2) fun x => ob (xpc T x.1 59) fun p3 => .ok (p3, (33554432 + (s.2.2.2 : Int) * 65536 + (rdn T p 97).1, s.2.1, s.2.2.1, x.2))
  else .error p
noncomputable def rpg (T : List Int) : Nat → List Clz → Nat → Except Nat (List Clz)
  | 0, zs, _ => .ok zs
  | n + 1, zs, p => if p < T.length then ob (rcl T zs p) fun r => rpg T n (zs ++ [r.2]) r.1 else .ok zs
section VLS
variable {T : List Int}
/-- what a list of VARS of a left side is -/
def lvs (vs : List Int) : Prop := ∀ v ∈ vs, 0 ≤ v ∧ v < 1414
theorem lvr_ok {p : Nat} {vs : List Int} {r : Nat × List Int} (h : lvr T p vs = .ok r) : r.2.length = vs.length + 1 ∧ p < r.1 ∧ r.1 ≤ T.length ∧ (lvs vs → lvs r.2) := by
  unfold lvr at h
  split at h
  · rename_i h1
    cases h
    have hv : 109 ≤ pek T p ∧ pek T p ≤ 122 := h1.1
    obtain ⟨r1, r2⟩ := rdn_rng (T := T) (p := p) (f := 109) (k := 13) (by omega)
    obtain ⟨q1, q2⟩ := rdn_le (f := 109) (pek_V h1.1)
    refine ⟨by simp, q1, q2, fun h2 v hv => ?_⟩
    rcases List.mem_append.mp hv with hv | hv
    · exact h2 v hv
    · rw [List.mem_singleton.mp hv]
      omega
  · cases h
theorem ob_ok {α β : Type} {x : Except Nat α} {k : α → Except Nat β} {b : β} (h : ob x k = .ok b) : ∃ a, x = .ok a ∧ k a = .ok b := by
  cases x with
  | error e => cases h
  | ok a => exact ⟨a, rfl, h⟩
theorem vls_ok : ∀ (n k p : Nat) (vs : List Int) (r : Nat × List Int × Nat), vls T n k p vs = .ok r → r.2.1.length ≤ vs.length + n ∧ p < r.1 ∧ r.1 ≤ T.length ∧ (lvs vs → lvs r.2.1) ∧ k ≤ r.2.2 ∧ r.2.2 ≤ k + n := by
  intro n
  induction n with
  | zero =>
    intro k p vs r h
    unfold vls at h
    split at h
    · rename_i h1
      cases h
      have := pek_lt (T := T) (p := p) (by omega)
      exact ⟨Nat.le_refl _, Nat.lt_succ_self _, this, fun q => q, Nat.le_refl _, Nat.le_refl _⟩
    · cases h
  | succ n ih =>
    intro k p vs r h
    unfold vls at h
    split at h
    · rename_i h1
      cases h
      have := pek_lt (T := T) (p := p) (by omega)
      exact ⟨Nat.le_add_right _ _, Nat.lt_succ_self _, this, fun q => q, Nat.le_refl _, Nat.le_add_right _ _⟩
    · split at h
      · obtain ⟨a, h1, h2⟩ := ob_ok h
        obtain ⟨a1, a2, a3, a4⟩ := lvr_ok h1
        obtain ⟨b1, b2, b3, b4, b5, b6⟩ := ih _ _ _ _ h2
        exact ⟨by omega, by omega, b3, fun q => b4 (a4 q), by omega, by omega⟩
      · cases h
end VLS
/-- what the reading of a clause of the class may touch -/
def clS (c : Nat) : Nat → Nat → Prop := fun a k => rS a k ∨ (c ≤ a ∧ a < c + 4)
theorem CLc.fj {M M1 : Mem} {S : Nat → Nat → Prop} {c : Nat} {z : Clz} (h : CLc M c z) (f : Fj S M M1) (h0 : ∀ a k, cS c a → ¬ S a k) : CLc M1 c z := h.fi (f.fi (T := fun a => ∃ k, S a k) fun a k q => ⟨k, q⟩) fun a ha q => by obtain ⟨k, q⟩ := q; exact h0 a k ha q
theorem CLc.con {M : Mem} {c : Nat} {z : Clz} (h : CLc M c z) (v : Int) : CLc (stI M c 4 v) c (z.1, v, z.2.2.1, z.2.2.2) := by
  have f : Fj (fun a k => a = c ∧ k = 4) M (stI M c 4 v) := Fj.ofI ⟨rfl, rfl⟩
  exact ⟨⟨h.1.1, (f.2.2 _ _ (by omega)).trans h.1.2.1, mI_at⟩, ⟨(f.2.2 _ _ (by omega)).trans h.2.1.1, h.2.1.2.1.fj f (by omega), h.2.1.2.2⟩, h.2.2.fj f (by omega) (by omega)⟩
theorem CLc.fun {M : Mem} {c : Nat} {z : Clz} (h : CLc M c z) (v : Int) : CLc (stI M c 3 v) c (v, z.2.1, z.2.2.1, z.2.2.2) := by
  have f : Fj (fun a k => a = c ∧ k = 3) M (stI M c 3 v) := Fj.ofI ⟨rfl, rfl⟩
  exact ⟨⟨h.1.1, mI_at, (f.2.2 _ _ (by omega)).trans h.1.2.2⟩, ⟨(f.2.2 _ _ (by omega)).trans h.2.1.1, h.2.1.2.1.fj f (by omega), h.2.1.2.2⟩, h.2.2.fj f (by omega) (by omega)⟩
section LEFTC
variable {M : Mem} {T : List Int} {p c : Nat} {z : Clz}
theorem CLc.r3 (h : CLc M c z) (hc : 6 < c) {k : Nat} {v : Int} : CLc (stI M 3 k v) c z := h.fj (Fj.ofI (S := fun a _ => a = 3) rfl) fun a k q => by unfold cS at q; omega
theorem RSc.cl {M1 : Mem} (h : RSc M T p) (hc : 6 < c) (f : Fi (cS c) M M1) : RSc M1 T p := h.fj (f.fj (T := fun a _ => cS c a) fun a k q => q) (by unfold cS; omega) (fun k => by unfold cS; omega) (by unfold cS; omega)
theorem Fi.cl {M1 : Mem} (f : Fi (cS c) M M1) : Fj (clS c) M M1 := f.fj fun a k q => Or.inr q
/-- how a list of VARS ends -/
def LVo (M' : Mem) (T : List Int) (c : Nat) (z : Clz) (x : Except Nat (Nat × List Int)) : Prop := match x with
  | .error e => mI M' 3 7 = (e : Int) ∧ ∃ z', CLc M' c z'
  | .ok r => RSc M' T r.1 ∧ CLc M' c (z.1, z.2.1, r.2, z.2.2.2)
theorem Re_readLeftVar_s (hG : Good M) (hR : RSc M T p) (hc : 6 < c) (hC : CLc M c z) (hl : z.2.2.1.length < 11) : ∃ M', Re_readLeftVar 3 c M = some (some (.inl (oki (lvr T p z.2.2.1))), M') ∧ LVo M' T c z (lvr T p z.2.2.1) ∧ Fj (clS c) M M' := by
  have hfail : ∀ {M1 : Mem}, Good M1 → CLc M1 c z → Fj (clS c) M M1 → lvr T p z.2.2.1 = .error p → ∃ M', (cI (Re_fail 3 (p : Int) M1) fun r6 M5 => gd (decide (r6 = 0 ∨ r6 = 1)) (some (some (.inl r6), M5))) = some (some (.inl (oki (lvr T p z.2.2.1))), M') ∧ LVo M' T c z (lvr T p z.2.2.1) ∧ Fj (clS c) M M' := by
    intro M1 hG1 hC1 hF he
    rw [Re_fail_s hG1, cI_s, he]
    exact ⟨_, rfl, ⟨mI_at, _, hC1.r3 hc⟩, hF.trans (Fj.ofI (by unfold clS rS; omega))⟩
  rw [Re_readLeftVar_eq, hG.gR, gd_t, gd_t, Re_peek_s hG hR, cI_s, Re_isVarLetter_s, cI_s]
  by_cases hv : isV (pek T p)
  · have hv2 : 109 ≤ pek T p ∧ pek T p ≤ 122 := hv
    have hlt := pek_V hv
    obtain ⟨q1, q2⟩ := rdn_le (f := 109) hlt
    have f1 : Fj (clS c) M (stI M 3 5 ((rdn T p 109).2 : Int)) := Fj.ofI (by unfold clS rS; omega)
    have hG1 := hG.fj f1
    have hC1 : CLc (stI M 3 5 ((rdn T p 109).2 : Int)) c z := hC.r3 hc
    rw [if_pos hv, if_neg (by decide), hG.gR, gd_t, Re_readName_s hG hR hlt (by omega), cI_s, hC1.g hG1, gd_t, Cl_indexOfVar_s hG1 hC1, cI_s, hR.2.1]
    by_cases hm : (rdn T p 109).1 ∈ z.2.2.1
    · rw [if_neg (ix_mem.mpr hm), hG1.gR, gd_t]
      exact hfail hG1 hC1 f1 (if_neg fun q => q.2 hm)
    · obtain ⟨M2, a1, a2, a3⟩ := Cl_addVar_s hG1 hC1 (rdn T p 109).1 hl
      have e : lvr T p z.2.2.1 = .ok ((rdn T p 109).2, z.2.2.1 ++ [(rdn T p 109).1]) := if_pos ⟨hv, hm⟩
      rw [if_pos (Classical.not_not.mp fun q => hm (ix_mem.mp q)), hC1.g hG1, gd_t, a1, cV_s, e]
      exact ⟨M2, rfl, ⟨(hR.at q2).cl hc a3, a2⟩, f1.trans a3.cl⟩
  · rw [if_neg hv, if_pos rfl, hG.gR, gd_t, gd_t, hR.2.1]
    exact hfail hG hC Fj.refl (if_neg fun q => hv q.1)
def k2 {α β : Type} : Except Nat (α × β × Nat) → Int
  | .error _ => -1
  | .ok r => (r.2.2 : Int)
def VLo (M' : Mem) (T : List Int) (c : Nat) (z : Clz) (x : Except Nat (Nat × List Int × Nat)) : Prop := match x with
  | .error e => mI M' 3 7 = (e : Int) ∧ ∃ z', CLc M' c z'
  | .ok r => RSc M' T r.1 ∧ CLc M' c (z.1, z.2.1, r.2.1, z.2.2.2)
theorem Re_readPatterns_tail (hc : 6 < c) : ∀ (n k p : Nat) (z : Clz) (M : Mem) (d : LV), Good M → RSc M T p → CLc M c z → 1 ≤ k → k + n = 8 → z.2.2.1.length + n ≤ 11 → ∃ M', Re_readPatterns_75 3 c (k : Int) d M = some (some (.inl (k2 (vls T n k p z.2.2.1))), M') ∧ VLo M' T c z (vls T n k p z.2.2.1) ∧ Fj (clS c) M M' := by
  intro n
  induction n with
  | zero =>
    intro k p z M d hG hR hC hk hn hl
    have hT := hR.1.2.1
    rw [Re_readPatterns_75_eq, hG.gR, gd_t, Re_peek_s hG hR, cI_s, hG.gR]
    simp only [gd_t]
    unfold vls
    by_cases h1 : pek T p = 41
    · have := pek_lt (T := T) (p := p) (by omega)
      rw [if_pos h1, if_pos h1, hR.2.1, wr_s (by omega)]
      exact ⟨_, rfl, ⟨hR.at this, hC.r3 hc⟩, Fj.ofI (by unfold clS rS; omega)⟩
    · rw [if_neg h1, if_neg h1, if_pos (by omega), Re_fail_s hG, cI_s, hR.2.1]
      exact ⟨_, rfl, ⟨mI_at, _, hC.r3 hc⟩, Fj.ofI (by unfold clS rS; omega)⟩
  | succ n ih =>
    intro k p z M d hG hR hC hk hn hl
    have hT := hR.1.2.1
    rw [Re_readPatterns_75_eq, hG.gR, gd_t, Re_peek_s hG hR, cI_s, hG.gR]
    simp only [gd_t]
    unfold vls
    by_cases h1 : pek T p = 41
    · have := pek_lt (T := T) (p := p) (by omega)
      rw [if_pos h1, if_pos h1, hR.2.1, wr_s (by omega)]
      exact ⟨_, rfl, ⟨hR.at this, hC.r3 hc⟩, Fj.ofI (by unfold clS rS; omega)⟩
    · rw [if_neg h1, if_neg h1, if_neg (by omega), Re_peek_s hG hR, cI_s, hG.gR]
      simp only [gd_t]
      by_cases h2 : pek T p = 44
      · have := pek_lt (T := T) (p := p) (by omega)
        have f1 : Fj (clS c) M (stI M 3 5 ((p + 1 : Nat) : Int)) := Fj.ofI (by unfold clS rS; omega)
        have hG1 := hG.fj f1
        obtain ⟨M2, a1, a2, a3⟩ := Re_readLeftVar_s hG1 (hR.at (q := p + 1) this) hc (hC.r3 hc) (by omega)
        have hG2 := hG1.fj a3
        rw [if_pos h2, if_pos h2, hR.2.1, wr_s (i := k) (by omega), wr_s (i := p) (by omega), Re_readPatterns_23_eq, if_neg (by omega), if_neg (by omega), Re_readPatterns_49_eq, if_pos rfl, hG1.gR, gd_t, a1, cI_s]
        cases hx : lvr T (p + 1) z.2.2.1 with
        | error e =>
          rw [hx] at a2
          exact ⟨M2, by rw [if_pos (oki_er e)]; rfl, a2, f1.trans a3⟩
        | ok r =>
          rw [hx] at a2
          obtain ⟨a4, a5⟩ : RSc M2 T r.1 ∧ CLc M2 c (z.1, z.2.1, r.2, z.2.2.2) := a2
          obtain ⟨b1, b2, b3, b4⟩ := lvr_ok hx
          obtain ⟨M3, c1, c2, c3⟩ := ih (k + 1) r.1 (z.1, z.2.1, r.2, z.2.2.2) M2 (some (.inl 0)) hG2 a4 a5 (by omega) (by omega) (by show r.2.length + n ≤ 11; omega)
          rw [if_neg (oki_ok r)]
          exact ⟨M3, c1, c2, (f1.trans a3).trans c3⟩
      · rw [if_neg h2, if_neg h2, Re_fail_s hG, cI_s, hR.2.1]
        exact ⟨_, rfl, ⟨mI_at, _, hC.r3 hc⟩, Fj.ofI (by unfold clS rS; omega)⟩
theorem Re_readCase_tail (hc : 6 < c) {L : Int} (hL : 0 ≤ L ∧ L < 26) : ∀ (n k p : Nat) (z : Clz) (M : Mem), Good M → RSc M T p → CLc M c z → 1 ≤ k → k + n = 4 → z.2.2.1.length + n < 11 → ∃ M', Re_readCase_51 3 c L (k : Int) M = some (some (.inl (oki (ob (lvr T p z.2.2.1) fun r => vls T n k r.1 r.2))), M') ∧ (match (ob (lvr T p z.2.2.1) fun r => vls T n k r.1 r.2) with
    | .error e => mI M' 3 7 = (e : Int) ∧ ∃ z', CLc M' c z'
    | .ok s => RSc M' T s.1 ∧ CLc M' c (z.1, 16777216 + (s.2.2 : Int) * 65536 + L, s.2.1, z.2.2.2)) ∧ Fj (clS c) M M' := by
  intro n
  have fail : ∀ {z : Clz} {q : Nat} {M M1 : Mem} {s : Except Nat (Nat × List Int × Nat)}, Good M1 → CLc M1 c z → Fj (clS c) M M1 → s = .error q → ∃ M', (cI (Re_fail 3 (q : Int) M1) fun r6 M5 => gd (decide (r6 = 0 ∨ r6 = 1)) (some (some (.inl r6), M5))) = some (some (.inl (oki s)), M') ∧ (match s with
    | .error e => mI M' 3 7 = (e : Int) ∧ ∃ z', CLc M' c z'
    | .ok s => RSc M' T s.1 ∧ CLc M' c (z.1, 16777216 + (s.2.2 : Int) * 65536 + L, s.2.1, z.2.2.2)) ∧ Fj (clS c) M M' := by
    intro z q M M1 s hG1 hC1 hF he
    rw [Re_fail_s hG1, cI_s, he]
    exact ⟨_, rfl, ⟨mI_at, _, hC1.r3 hc⟩, hF.trans (Fj.ofI (by unfold clS rS; omega))⟩
  have done : ∀ {z : Clz} {q k : Nat} {M M1 : Mem} {s : Except Nat (Nat × List Int × Nat)} {vs : List Int}, Good M1 → RSc M1 T q → CLc M1 c (z.1, z.2.1, vs, z.2.2.2) → Fj (clS c) M M1 → q < T.length → k ≤ 4 → s = .ok (q + 1, vs, k) → ∃ M', (cI (Ex_cell 1 (k : Int) L (stI M1 3 5 (wr ((q : Int) + 1)))) fun r8 M7 => gd (gO M7 c 1) (some (some (.inl 1), (stI M7 c 4 r8)))) = some (some (.inl (oki s)), M') ∧ (match s with
    | .error e => mI M' 3 7 = (e : Int) ∧ ∃ z', CLc M' c z'
    | .ok s => RSc M' T s.1 ∧ CLc M' c (z.1, 16777216 + (s.2.2 : Int) * 65536 + L, s.2.1, z.2.2.2)) ∧ Fj (clS c) M M' := by
    intro z q k M M1 s vs hG1 hR1 hC1 hF hq hk he
    have hT := hR1.1.2.1
    have f1 : Fj (clS c) M1 (stI M1 3 5 ((q + 1 : Nat) : Int)) := Fj.ofI (by unfold clS rS; omega)
    have hG2 := hG1.fj f1
    have hC2 : CLc (stI M1 3 5 ((q + 1 : Nat) : Int)) c _ := hC1.r3 hc
    rw [wr_s (by omega), Ex_cell_s (by omega) (by omega) (by omega), cI_s, hC2.g hG2, gd_t, he]
    have f2 : Fj (fun a k => a = c ∧ k = 4) (stI M1 3 5 ((q + 1 : Nat) : Int)) (stI (stI M1 3 5 ((q + 1 : Nat) : Int)) c 4 (1 * 16777216 + (k : Int) * 65536 + L)) := Fj.ofI ⟨rfl, rfl⟩
    refine ⟨_, rfl, ⟨(hR1.at (q := q + 1) hq).fj f2 (by omega) (by omega) (by omega), ?_⟩, hF.trans (f1.trans (f2.mono fun a k q => by unfold clS; omega))⟩
    rw [show (1 : Int) * 16777216 = 16777216 from rfl]
    exact hC2.con _
  induction n with
  | zero =>
    intro k p z M hG hR hC hk hn hl
    have hk4 : k = 4 := by omega
    subst hk4
    obtain ⟨M2, a1, a2, a3⟩ := Re_readLeftVar_s hG hR hc hC (by omega)
    have hG2 := hG.fj a3
    rw [Re_readCase_51_eq, if_neg (by omega), hG.gR, gd_t, a1, cI_s]
    cases hx : lvr T p z.2.2.1 with
    | error e =>
      rw [hx] at a2
      exact ⟨M2, by rw [if_pos (oki_er e)]; rfl, a2, a3⟩
    | ok r =>
      rw [hx] at a2
      obtain ⟨a4, a5⟩ : RSc M2 T r.1 ∧ CLc M2 c (z.1, z.2.1, r.2, z.2.2.2) := a2
      have hT := a4.1.2.1
      rw [if_neg (oki_ok r), hG2.gR, gd_t, Re_peek_s hG2 a4, cI_s, hG2.gR]
      simp only [gd_t]
      rw [a4.2.1]
      by_cases h1 : pek T r.1 = 41
      · rw [if_pos h1]
        exact done (k := 4) hG2 a4 a5 a3 (pek_lt (by omega)) (by omega) (if_pos h1)
      · rw [if_neg h1, if_pos (by decide)]
        exact fail (z := (z.1, z.2.1, r.2, z.2.2.2)) hG2 a5 a3 (if_neg h1)
  | succ n ih =>
    intro k p z M hG hR hC hk hn hl
    obtain ⟨M2, a1, a2, a3⟩ := Re_readLeftVar_s hG hR hc hC (by omega)
    have hG2 := hG.fj a3
    rw [Re_readCase_51_eq, if_neg (by omega), hG.gR, gd_t, a1, cI_s]
    cases hx : lvr T p z.2.2.1 with
    | error e =>
      rw [hx] at a2
      exact ⟨M2, by rw [if_pos (oki_er e)]; rfl, a2, a3⟩
    | ok r =>
      rw [hx] at a2
      obtain ⟨a4, a5⟩ : RSc M2 T r.1 ∧ CLc M2 c (z.1, z.2.1, r.2, z.2.2.2) := a2
      obtain ⟨b1, b2, b3, b4⟩ := lvr_ok hx
      have hT := a4.1.2.1
      have e0 : ob (.ok r : Except Nat (Nat × List Int)) (fun r => vls T (n + 1) k r.1 r.2) = if pek T r.1 = 41 then .ok (r.1 + 1, r.2, k) else if pek T r.1 = 44 then ob (lvr T (r.1 + 1) r.2) fun r => vls T n (k + 1) r.1 r.2 else .error r.1 := rfl
      rw [e0]
      rw [if_neg (oki_ok r), hG2.gR, gd_t, Re_peek_s hG2 a4, cI_s, hG2.gR]
      simp only [gd_t]
      rw [a4.2.1]
      by_cases h1 : pek T r.1 = 41
      · rw [if_pos h1]
        exact done hG2 a4 a5 a3 (pek_lt (by omega)) (by omega) (if_pos h1)
      · rw [if_neg h1, if_neg (show ¬ (k : Int) = 4 by omega), Re_peek_s hG2 a4, cI_s, hG2.gR]
        simp only [gd_t]
        rw [a4.2.1]
        by_cases h2 : pek T r.1 = 44
        · have hlt := pek_lt (T := T) (p := r.1) (by omega)
          have f1 : Fj (clS c) M2 (stI M2 3 5 ((r.1 + 1 : Nat) : Int)) := Fj.ofI (by unfold clS rS; omega)
          obtain ⟨M3, c1, c2, c3⟩ := ih (k + 1) (r.1 + 1) (z.1, z.2.1, r.2, z.2.2.2) _ (hG2.fj f1) (a4.at (q := r.1 + 1) hlt) (a5.r3 hc) (by omega) (by omega) (by show r.2.length + n < 11; omega)
          rw [if_neg h1, if_pos h2, if_pos h2, wr_s (i := k) (by omega), wr_s (by omega)]
          exact ⟨M3, c1, c2, (a3.trans f1).trans c3⟩
        · rw [if_neg h2]
          exact fail (z := (z.1, z.2.1, r.2, z.2.2.2)) hG2 a5 a3 ((if_neg h1).trans (if_neg h2))
theorem Re_readCase_s (hG : Good M) (hR : RSc M T p) (hc : 6 < c) (hC : CLc M c z) (hl : z.2.2.1 = []) (hk : isK (pek T p)) : ∃ M', Re_readCase 3 c M = some (some (.inl (oki (pcn T p))), M') ∧ (match pcn T p with
    | .error e => mI M' 3 7 = (e : Int) ∧ ∃ z', CLc M' c z'
    | .ok s => RSc M' T s.1 ∧ CLc M' c (z.1, 16777216 + (s.2.2 : Int) * 65536 + (pek T p - 65), s.2.1, z.2.2.2)) ∧ Fj (clS c) M M' := by
  have hk2 : 65 ≤ pek T p ∧ pek T p ≤ 90 := hk
  have hlt := pek_K hk
  have hT := hR.1.2.1
  have f1 : Fj (clS c) M (stI M 3 5 ((p + 1 : Nat) : Int)) := Fj.ofI (by unfold clS rS; omega)
  have hG1 := hG.fj f1
  have hC1 : CLc (stI M 3 5 ((p + 1 : Nat) : Int)) c z := hC.r3 hc
  have f2 : Fj (fun a k => a = c ∧ k = 4) (stI M 3 5 ((p + 1 : Nat) : Int)) (stI (stI M 3 5 ((p + 1 : Nat) : Int)) c 4 (16777216 + (pek T p - 65))) := Fj.ofI ⟨rfl, rfl⟩
  have hG2 := hG1.fj f2
  have hC2 := hC1.con (16777216 + (pek T p - 65))
  have hR2 : RSc (stI (stI M 3 5 ((p + 1 : Nat) : Int)) c 4 (16777216 + (pek T p - 65))) T (p + 1) := (hR.at (q := p + 1) hlt).fj f2 (by omega) (by omega) (by omega)
  have fF : Fj (clS c) M (stI (stI M 3 5 ((p + 1 : Nat) : Int)) c 4 (16777216 + (pek T p - 65))) := f1.trans (f2.mono fun a k q => by unfold clS; omega)
  rw [Re_readCase_eq, hG.gR, gd_t, Re_peek_s hG hR, cI_s, hG.gR, gd_t, gd_t, hR.2.1, wr_s (by omega), wr_id (x := pek T p - 65) (by omega) (by omega), Ex_cell_s (by omega) (by omega) (by omega), cI_s, hC1.g hG1, gd_t, hG1.gR, gd_t, show (1 : Int) * 16777216 + 0 * 65536 + (pek T p - 65) = 16777216 + (pek T p - 65) by omega, Re_peek_s hG2 hR2, cI_s]
  unfold pcn
  by_cases h1 : pek T (p + 1) = 40
  · have hlt2 := pek_lt (T := T) (p := p + 1) (by omega)
    have f3 : Fj (clS c) (stI (stI M 3 5 ((p + 1 : Nat) : Int)) c 4 (16777216 + (pek T p - 65))) (stI (stI (stI M 3 5 ((p + 1 : Nat) : Int)) c 4 (16777216 + (pek T p - 65))) 3 5 ((p + 2 : Nat) : Int)) := Fj.ofI (by unfold clS rS; omega)
    obtain ⟨M3, a1, a2, a3⟩ := Re_readCase_tail hc (L := pek T p - 65) (by omega) 3 1 (p + 2) (z.1, 16777216 + (pek T p - 65), z.2.2.1, z.2.2.2) _ (hG2.fj f3) (hR2.at (q := p + 2) hlt2) (hC2.r3 hc) (by omega) (by omega) (by show z.2.2.1.length + 3 < 11; rw [hl]; decide)
    rw [if_pos h1, if_pos h1, hG2.gR, gd_t, gd_t, hR2.2.1, wr_s (by omega)]
    have e1 : (z.1, 16777216 + (pek T p - 65), z.2.2.1, z.2.2.2).2.2.1 = ([] : List Int) := hl
    rw [e1] at a1 a2
    exact ⟨M3, a1, a2, (fF.trans f3).trans a3⟩
  · rw [if_neg h1, if_neg h1]
    refine ⟨_, rfl, ⟨hR2, ?_⟩, fF⟩
    rw [hl] at hC2
    show CLc _ c (z.1, 16777216 + ((0 : Nat) : Int) * 65536 + (pek T p - 65), [], z.2.2.2)
    rw [show 16777216 + ((0 : Nat) : Int) * 65536 + (pek T p - 65) = 16777216 + (pek T p - 65) by omega]
    exact hC2
theorem pcn_ok {s : Nat × List Int × Nat} (hk : isK (pek T p)) (h : pcn T p = .ok s) : s.2.1.length ≤ 4 ∧ p < s.1 ∧ s.1 ≤ T.length ∧ lvs s.2.1 ∧ s.2.2 ≤ 4 := by
  unfold pcn at h
  split at h
  · rename_i h1
    obtain ⟨r, h2, h3⟩ := ob_ok h
    obtain ⟨a1, a2, a3, a4⟩ := lvr_ok h2
    obtain ⟨b1, b2, b3, b4, b5, b6⟩ := vls_ok _ _ _ _ _ h3
    rw [a1] at b1
    exact ⟨b1, by omega, b3, b4 (a4 (fun v hv => by cases hv)), b6⟩
  · have := pek_K hk
    cases h
    exact ⟨Nat.zero_le _, by show p < p + 1; omega, this, fun v hv => (by cases hv), Nat.zero_le _⟩
theorem pat_ok {s : Nat × Int × List Int × Nat} (h : pat T p = .ok s) : s.2.2.1.length ≤ 11 ∧ p < s.1 ∧ s.1 ≤ T.length ∧ lvs s.2.2.1 ∧ s.2.2.2 ≤ 8 ∧ (s.2.1 = -1 ∨ ∃ k L, s.2.1 = 16777216 + ((k : Nat) : Int) * 65536 + L ∧ k ≤ 4 ∧ 0 ≤ L ∧ L < 26) := by
  unfold pat at h
  split at h
  · have := pek_lt (T := T) (p := p) (by omega)
    cases h
    exact ⟨Nat.zero_le _, Nat.lt_succ_self _, this, fun v hv => (by cases hv), Nat.zero_le _, Or.inl rfl⟩
  · split at h
    · rename_i h1 hk
      have hk2 : 65 ≤ pek T p ∧ pek T p ≤ 90 := hk
      obtain ⟨r, h2, h3⟩ := ob_ok h
      obtain ⟨t, h4, h5⟩ := ob_ok h3
      obtain ⟨a1, a2, a3, a4, a5⟩ := pcn_ok hk h2
      obtain ⟨b1, b2, b3, b4, b5, b6⟩ := vls_ok _ _ _ _ _ h4
      cases h5
      exact ⟨by show t.2.1.length ≤ 11; omega, by show p < t.1; omega, b3, b4 a4, by show t.2.2 ≤ 8; omega, Or.inr ⟨_, _, rfl, a5, by omega, by omega⟩⟩
    · obtain ⟨r, h2, h3⟩ := ob_ok h
      obtain ⟨t, h4, h5⟩ := ob_ok h3
      obtain ⟨a1, a2, a3, a4⟩ := lvr_ok h2
      have a1 : r.2.length = 1 := a1
      obtain ⟨b1, b2, b3, b4, b5, b6⟩ := vls_ok _ _ _ _ _ h4
      cases h5
      exact ⟨by show t.2.1.length ≤ 11; omega, by show p < t.1; omega, b3, b4 (a4 fun v hv => by cases hv), by show t.2.2 ≤ 8; omega, Or.inl rfl⟩
theorem pat_le {s : Nat × Int × List Int × Nat} (h : pat T p = .ok s) : s.2.2.2 ≤ 8 := (pat_ok h).2.2.2.2.1
def k3 : Except Nat (Nat × Int × List Int × Nat) → Int
  | .error _ => -1
  | .ok r => (r.2.2.2 : Int)
theorem Re_readPatterns_s (hG : Good M) (hR : RSc M T p) (hc : 6 < c) (hC : CLc M c z) (hl : z.2.2.1 = []) (h1c : z.2.1 = -1) : ∃ M', Re_readPatterns 3 c M = some (some (.inl (k3 (pat T p))), M') ∧ (match pat T p with
    | .error e => mI M' 3 7 = (e : Int) ∧ ∃ z', CLc M' c z'
    | .ok s => RSc M' T s.1 ∧ CLc M' c (z.1, s.2.1, s.2.2.1, z.2.2.2)) ∧ Fj (clS c) M M' := by
  have hT := hR.1.2.1
  rw [Re_readPatterns_eq, hG.gR, gd_t, Re_peek_s hG hR, cI_s, hG.gR]
  simp only [gd_t]
  unfold pat
  by_cases h1 : pek T p = 41
  · have hlt := pek_lt (T := T) (p := p) (by omega)
    rw [if_pos h1, if_pos h1, hR.2.1, wr_s (by omega)]
    refine ⟨_, rfl, ⟨hR.at hlt, ?_⟩, Fj.ofI (by unfold clS rS; omega)⟩
    rw [← hl, ← h1c]
    exact hC.r3 hc
  · rw [if_neg h1, if_neg h1, Re_readPatterns_23_eq, if_neg (by decide), if_pos rfl, hG.gR, gd_t, Re_peek_s hG hR, cI_s, Re_isConLetter_s, cI_s]
    by_cases hk : isK (pek T p)
    · obtain ⟨M2, a1, a2, a3⟩ := Re_readCase_s hG hR hc hC hl hk
      have hG2 := hG.fj a3
      rw [if_pos hk, if_neg (by decide), if_pos hk, Re_readPatterns_49_eq, if_neg (by decide), hG.gR, gd_t, a1, cI_s]
      cases hx : pcn T p with
      | error e =>
        rw [hx] at a2
        exact ⟨M2, by rw [if_pos (oki_er e)]; rfl, a2, a3⟩
      | ok s =>
        rw [hx] at a2
        obtain ⟨a4, a5⟩ : RSc M2 T s.1 ∧ CLc M2 c (z.1, 16777216 + (s.2.2 : Int) * 65536 + (pek T p - 65), s.2.1, z.2.2.2) := a2
        obtain ⟨b1, b2, b3, b4, b5⟩ := pcn_ok hk hx
        obtain ⟨M3, c1, c2, c3⟩ := Re_readPatterns_tail hc 7 1 s.1 _ M2 (some (.inl 1)) hG2 a4 a5 (by omega) (by omega) (by show s.2.1.length + 7 ≤ 11; omega)
        have c2 : VLo M3 T c _ (vls T 7 1 s.1 s.2.1) := c2
        rw [if_neg (oki_ok s), ob_o]
        cases hy : vls T 7 1 s.1 s.2.1 with
        | error e => rw [hy] at c1 c2; exact ⟨M3, c1, c2, a3.trans c3⟩
        | ok t => rw [hy] at c1 c2; exact ⟨M3, c1, by exact c2, a3.trans c3⟩
    · obtain ⟨M2, a1, a2, a3⟩ := Re_readLeftVar_s hG hR hc hC (by rw [hl]; decide)
      have hG2 := hG.fj a3
      rw [hl] at a1 a2
      rw [if_neg hk, if_pos rfl, if_neg hk, Re_readPatterns_49_eq, if_pos rfl, hG.gR, gd_t, a1, cI_s]
      cases hx : lvr T p [] with
      | error e =>
        rw [hx] at a2
        exact ⟨M2, by rw [if_pos (oki_er e)]; rfl, a2, a3⟩
      | ok r =>
        rw [hx] at a2
        obtain ⟨a4, a5⟩ : RSc M2 T r.1 ∧ CLc M2 c (z.1, z.2.1, r.2, z.2.2.2) := a2
        obtain ⟨b1, b2, b3, b4⟩ := lvr_ok hx
        have b1 : r.2.length = 1 := b1
        obtain ⟨M3, c1, c2, c3⟩ := Re_readPatterns_tail hc 7 1 r.1 _ M2 (some (.inl 0)) hG2 a4 a5 (by omega) (by omega) (by show r.2.length + 7 ≤ 11; omega)
        have c2 : VLo M3 T c _ (vls T 7 1 r.1 r.2) := c2
        rw [if_neg (oki_ok r), ob_o]
        cases hy : vls T 7 1 r.1 r.2 with
        | error e => rw [hy] at c1 c2; exact ⟨M3, c1, c2, a3.trans c3⟩
        | ok t => rw [hy] at c1 c2; exact ⟨M3, c1, by rw [← h1c]; exact c2, a3.trans c3⟩
end LEFTC

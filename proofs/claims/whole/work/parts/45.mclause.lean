/-! ===== the reference reads clauses ===== -/
noncomputable def mvs (T : List Int) : Nat → Nat → Nat → List Int → Except Nat (Nat × List Int × Nat)
  | 0, k, p, vs => .ok (p, vs, k)
  | n + 1, k, p, vs => if pek T p = 44 then ob (lvr T (p + 1) vs) fun r => mvs T n (k + 1) r.1 r.2 else .ok (p, vs, k)
theorem vls_mvs (T : List Int) : ∀ (n k p : Nat) (vs : List Int), vls T n k p vs = ob (mvs T n k p vs) fun s => ob (xpc T s.1 41) fun q => .ok (q, s.2.1, s.2.2) := by
  intro n
  induction n with
  | zero =>
    intro k p vs
    unfold vls mvs
    rw [ob_o]
    by_cases h : pek T p = 41
    · rw [if_pos h, xpc_p h]; rfl
    · rw [if_neg h, xpc_n h]; rfl
  | succ n ih =>
    intro k p vs
    unfold vls mvs
    by_cases h : pek T p = 41
    · rw [if_pos h, if_neg (by omega), ob_o, xpc_p h]; rfl
    · rw [if_neg h]
      by_cases h2 : pek T p = 44
      · rw [if_pos h2, if_pos h2]
        cases lvr T (p + 1) vs with
        | error e => rfl
        | ok r => exact ih _ _ _
      · rw [if_neg h2, if_neg h2, ob_o, xpc_n h]; rfl
theorem mvs_ok {T : List Int} : ∀ (n k p : Nat) (vs : List Int) (r : Nat × List Int × Nat), p ≤ T.length → mvs T n k p vs = .ok r → r.2.1.length ≤ vs.length + n ∧ r.1 ≤ T.length ∧ k ≤ r.2.2 ∧ r.2.2 ≤ k + n := by
  intro n
  induction n with
  | zero =>
    intro k p vs r hp h
    cases h
    exact ⟨Nat.le_refl _, hp, Nat.le_refl _, Nat.le_refl _⟩
  | succ n ih =>
    intro k p vs r hp h
    unfold mvs at h
    split at h
    · obtain ⟨a, h1, h2⟩ := ob_ok h
      obtain ⟨a1, a2, a3, a4⟩ := lvr_ok h1
      obtain ⟨b1, b2, b3, b4⟩ := ih _ _ _ _ a3 h2
      exact ⟨by omega, b2, by omega, by omega⟩
    · cases h
      exact ⟨Nat.le_add_right _ _, hp, Nat.le_refl _, Nat.le_add_right _ _⟩
noncomputable def mpt (T : List Int) (p : Nat) : Except Nat (Nat × Int × List Int × Nat) :=
  haveI := Classical.propDecidable
  if pek T p = 41 then .ok (p, -1, [], 0)
  else if isK (pek T p) then ob (pcn T p) fun s => ob (mvs T 7 1 s.1 s.2.1) fun t => .ok (t.1, 16777216 + (s.2.2 : Int) * 65536 + (pek T p - 65), t.2.1, t.2.2)
  else ob (lvr T p []) fun r => ob (mvs T 7 1 r.1 r.2) fun t => .ok (t.1, -1, t.2.1, t.2.2)
theorem pat_mpt (T : List Int) (p : Nat) : pat T p = ob (mpt T p) fun s => ob (xpc T s.1 41) fun q => .ok (q, s.2.1, s.2.2.1, s.2.2.2) := by
  unfold pat mpt
  by_cases h : pek T p = 41
  · rw [if_pos h, if_pos h, ob_o, xpc_p h]; rfl
  · rw [if_neg h, if_neg h]
    by_cases hk : isK (pek T p)
    · rw [if_pos hk, if_pos hk]
      cases pcn T p with
      | error e => rfl
      | ok s =>
        rw [ob_o, ob_o, vls_mvs]
        cases mvs T 7 1 s.1 s.2.1 with
        | error e => rfl
        | ok t => rw [ob_o, ob_o, ob_o]; cases xpc T t.1 41 <;> rfl
    · rw [if_neg hk, if_neg hk]
      cases lvr T p [] with
      | error e => rfl
      | ok r =>
        rw [ob_o, ob_o, vls_mvs]
        cases mvs T 7 1 r.1 r.2 with
        | error e => rfl
        | ok t => rw [ob_o, ob_o, ob_o]; cases xpc T t.1 41 <;> rfl
theorem vc_mk {k a s : Int} (hk : (k = 1 ∧ a ≤ 4 ∧ s < 26) ∨ (k = 2 ∧ a ≤ 8 ∧ s < 1212)) (ha : 0 ≤ a) (hs : 0 ≤ s) : vc (k * 16777216 + a * 65536 + s) ∧ kd (k * 16777216 + a * 65536 + s) = k ∧ cm (k * 16777216 + a * 65536 + s) = k + 4 * a + 64 * (if k = 1 then s + 1 else s) := by
  obtain ⟨e1, e2, e3⟩ := kd_mk (k := k) (a := a) (s := s) (by omega) (by omega) (by omega)
  refine ⟨?_, e1, ?_⟩
  · unfold vc
    rw [e1, e2, e3]
    omega
  · unfold cm nmo
    rw [e1, e2, e3]
    rcases hk with ⟨h1, -⟩ | ⟨h1, -⟩
    · subst h1; rfl
    · subst h1; rfl
/-- the case of a clause in the reference -/
def cc (c : Int) : Int := if c = -1 then 0 else cm c
/-- a con of a left side -/
def pcc (c : Int) : Prop := c = -1 ∨ (vc c ∧ kd c = 1)
theorem cc_0 {c : Int} (h : pcc c) : cc c = 0 ↔ c = -1 := by
  unfold cc
  constructor
  · intro q
    split at q
    · assumption
    · rename_i h1
      rcases h with h | ⟨h, hk⟩
      · exact h
      · have := cm_kd h
        rw [q, hk] at this
        cases this
  · intro q
    rw [if_pos q]
theorem cc_inj {c d : Int} (h : pcc c) (k : pcc d) : cc c = cc d ↔ c = d := by
  constructor
  · intro q
    rcases h with h | ⟨h, hk⟩
    · rw [h] at q ⊢
      exact ((cc_0 k).mp q.symm).symm
    · rcases k with k | ⟨k, kk⟩
      · rw [k] at q ⊢
        exact (cc_0 (Or.inr ⟨h, hk⟩)).mp q
      · unfold cc at q
        rw [if_neg (show ¬ c = -1 from fun e => by rw [e] at h; have := h.1.1; omega), if_neg (show ¬ d = -1 from fun e => by rw [e] at k; have := k.1.1; omega)] at q
        exact (cm_inj h k).mp q
  · exact fun q => by rw [q]
section MCL
variable {M : Mem} {T : List Int} {p : Nat} {vs : List Int}
def lvS : Nat → Nat → Prop := fun a k => a = 1281 ∨ (a = 1269 ∧ (k = 2 ∨ k = 3 ∨ k = 19))
theorem LVm.fj {M1 : Mem} {S : Nat → Nat → Prop} (h : LVm M vs) (f : Fj S M M1) (h1 : ¬ S 1269 19) (h2 : ∀ k, ¬ S 1281 k) : LVm M1 vs := ⟨(f.2.2 _ _ h1).trans h.1, h.2.1, fun i hi => (f.2.2 _ _ (h2 i)).trans (h.2.2.1 i hi), h.2.2.2⟩
theorem RSm.f1 {q k : Nat} {v : Int} (h : RSm M T q) (hk : k ≠ 1 ∧ k ≠ 2) : RSm (stI M 1269 k v) T q := h.fj (Fj.ofI (S := fun a j => a = 1269 ∧ j = k) ⟨rfl, rfl⟩) (by omega) (by omega) (by omega)
theorem M_readLeftVar_s (hG : Good M) (hR : RSm M T p) (hV : LVm M vs) (hl : vs.length < 12) : ∃ M', M_readLeftVar 1269 M = some (some (.inl (oki (lvr T p vs))), M') ∧ (match lvr T p vs with
    | .error e => mI M' 1269 3 = (e : Int)
    | .ok r => (RSm M' T r.1 ∧ LVm M' r.2) ∧ mI M' 1269 3 = mI M 1269 3) ∧ Fj lvS M M' := by
  unfold lvr
  rw [M_readLeftVar_eq, hG.gM, gd_t, gd_t, M_here_s hG hR, cI_s, M_isVarLetter_s, cI_s]
  by_cases hv : isV (pek T p)
  · have hv2 : 109 ≤ pek T p ∧ pek T p ≤ 122 := hv
    have hlt := pek_V hv
    obtain ⟨r1, r2⟩ := rdn_rng (T := T) (p := p) (f := 109) (k := 13) (by omega)
    obtain ⟨q1, q2⟩ := rdn_le (f := 109) hlt
    have e97 : rdn T p 97 = ((rdn T p 109).1 + 1212, (rdn T p 109).2) := rdn_off T p 97 12
    have e1 : (rdn T p 109).1 + 1212 = nmo (rdn T p 109).1 := by
      rw [(cm_var (v := (rdn T p 109).1) (by omega)).2, if_pos (by omega)]
    have f1 : Fj lvS M (stI M 1269 2 ((rdn T p 109).2 : Int)) := Fj.ofI (by unfold lvS; omega)
    have hG1 := hG.fj f1
    have hV1 : LVm (stI M 1269 2 ((rdn T p 109).2 : Int)) vs := hV.fj (Fj.ofI (S := fun a k => a = 1269 ∧ k = 2) ⟨rfl, rfl⟩) (by omega) (by omega)
    have hR1 := hR.at q2
    rw [if_pos hv, if_neg (by decide), hG.gM, gd_t, M_readName_s hG hR hlt, cI_s, e97, e1, hG1.gM, gd_t, M_leftPlace_s hG1 hV1 (v := (rdn T p 109).1) (by omega), cI_s]
    by_cases hm : (rdn T p 109).1 ∈ vs
    · rw [if_neg (ix_mem.mpr hm), if_neg (fun q => q.2 hm), hG1.gM, gd_t, M_fails_s hG1, cI_s, hR.2.1]
      exact ⟨_, rfl, mI_at, f1.trans (Fj.ofI (by unfold lvS; omega))⟩
    · rw [if_pos (Classical.not_not.mp fun q => hm (ix_mem.mp q)), if_pos ⟨hv, hm⟩, hG1.gM, gd_t, gd_t, hG1.m18, hV1.1, hG1.tgS arr_1281 (by omega) (by omega), gd_t, gd_t, gd_t, toNat_n, mI_ne (by omega), hV1.1, wr_s (by omega)]
      have f2 : Fj (fun a k => a = 1281 ∨ (a = 1269 ∧ k = 19)) (stI M 1269 2 ((rdn T p 109).2 : Int)) (stI (stI (stI M 1269 2 ((rdn T p 109).2 : Int)) 1281 vs.length (nmo (rdn T p 109).1)) 1269 19 ((vs.length + 1 : Nat) : Int)) := (Fj.ofI (by omega)).trans (Fj.ofI (by omega))
      refine ⟨_, rfl, ⟨⟨hR1.fj f2 (by omega) (by omega) (by omega), ?_⟩, ?_⟩, f1.trans (f2.mono fun a k q => by unfold lvS; omega)⟩
      · refine ⟨by rw [mI_at, List.length_append]; rfl, by rw [List.length_append, List.length_singleton]; omega, fun i hi => ?_, fun v hv => ?_⟩
        · rw [List.length_append, List.length_singleton] at hi
          rw [mI_ne (by omega)]
          by_cases q : i = vs.length
          · subst q; rw [mI_at, nth_app2 (Nat.le_refl _), Nat.sub_self]; rfl
          · rw [mI_ne (by omega), nth_app1 (by omega)]
            exact hV1.2.2.1 i (by omega)
        · rcases List.mem_append.mp hv with hv | hv
          · exact hV.2.2.2 v hv
          · rw [List.mem_singleton.mp hv]; omega
      · rw [f2.2.2 _ _ (by omega), mI_ne (by omega)]
  · rw [if_neg hv, if_pos rfl, if_neg (fun q => hv q.1), hG.gM, gd_t, M_fails_s hG, cI_s, hR.2.1]
    exact ⟨_, rfl, mI_at, Fj.ofI (by unfold lvS; omega)⟩
theorem M_readVars_s : ∀ (n k p : Nat) (vs : List Int) (M : Mem) (m : Int) (d : LV), Good M → RSm M T p → LVm M vs → ((k + n : Nat) : Int) = m → m ≤ 20 → vs.length + n ≤ 12 → ∃ M', M_readVars_2 1269 m (k : Int) d M = some (some (.inl (k2 (mvs T n k p vs))), M') ∧ (match mvs T n k p vs with
    | .error e => mI M' 1269 3 = (e : Int)
    | .ok r => (RSm M' T r.1 ∧ LVm M' r.2.1) ∧ mI M' 1269 3 = mI M 1269 3) ∧ Fj lvS M M' := by
  intro n
  induction n with
  | zero =>
    intro k p vs M m d hG hR hV hk h20 hl
    rw [M_readVars_2_eq, hG.gM, gd_t, M_here_s hG hR, cI_s]
    refine ⟨M, ?_, ⟨⟨hR, hV⟩, rfl⟩, Fj.refl⟩
    rw [if_neg (show ¬ (k : Int) < m by omega)]
    split <;> rfl
  | succ n ih =>
    intro k p vs M m d hG hR hV hk h20 hl
    have hT := hR.1.2.1
    unfold mvs
    rw [M_readVars_2_eq, hG.gM, gd_t, M_here_s hG hR, cI_s]
    by_cases h1 : pek T p = 44
    · have hlt := pek_lt (T := T) (p := p) (by omega)
      have f1 : Fj lvS M (stI M 1269 2 ((p + 1 : Nat) : Int)) := Fj.ofI (by unfold lvS; omega)
      have hG1 := hG.fj f1
      obtain ⟨M2, a1, a2, a3⟩ := M_readLeftVar_s hG1 (hR.at (q := p + 1) hlt) (hV.fj (Fj.ofI (S := fun a k => a = 1269 ∧ k = 2) ⟨rfl, rfl⟩) (by omega) (by omega)) (by omega)
      have hG2 := hG1.fj a3
      rw [if_pos h1, if_pos (by omega), if_pos h1, hG.gM, gd_t, gd_t, gd_t, hR.2.1, wr_s (i := p) (by omega), a1, cI_s]
      cases hx : lvr T (p + 1) vs with
      | error e =>
        rw [hx] at a2
        rw [if_pos (oki_er e), ob_e]
        exact ⟨M2, rfl, a2, f1.trans a3⟩
      | ok r =>
        rw [hx] at a2
        obtain ⟨⟨a4, a5⟩, a6⟩ : (RSm M2 T r.1 ∧ LVm M2 r.2) ∧ mI M2 1269 3 = mI (stI M 1269 2 ((p + 1 : Nat) : Int)) 1269 3 := a2
        obtain ⟨b1, b2, b3, b4⟩ := lvr_ok hx
        obtain ⟨M3, c1, c2, c3⟩ := ih (k + 1) r.1 r.2 M2 m d hG2 a4 a5 (by omega) h20 (by omega)
        rw [if_neg (oki_ok r), ob_o, wr_s (by omega)]
        refine ⟨M3, c1, ?_, (f1.trans a3).trans c3⟩
        rw [mI_ne (by omega)] at a6
        cases hy : mvs T n (k + 1) r.1 r.2 with
        | error e => rw [hy] at c2; exact c2
        | ok s => rw [hy] at c2; exact ⟨c2.1, c2.2.trans a6⟩
    · rw [if_neg h1, if_neg h1]
      exact ⟨M, rfl, ⟨⟨hR, hV⟩, rfl⟩, Fj.refl⟩
def ptS : Nat → Nat → Prop := fun a k => a = 1281 ∨ (a = 1269 ∧ (k = 2 ∨ k = 3 ∨ k = 19 ∨ k = 20 ∨ k = 21))
theorem lvS_pt {M1 : Mem} (h : Fj lvS M M1) : Fj ptS M M1 := h.mono fun a k q => by unfold lvS at q; unfold ptS; omega
/-- how the reference's reading of what stands in brackets ends -/
def PTm (M M' : Mem) (T : List Int) (x : Except Nat (Nat × Int × List Int × Nat)) : Prop := match x with
  | .error e => mI M' 1269 3 = (e : Int)
  | .ok s => (RSm M' T s.1 ∧ LVm M' s.2.2.1) ∧ (mI M' 1269 20 = cc s.2.1 ∧ mI M' 1269 21 = (s.2.2.2 : Int)) ∧ mI M' 1269 3 = mI M 1269 3
theorem M_patEnd {q : Nat} {con : Int} {M0 : Mem} (hG : Good M) (hR : RSm M T q) (hV : LVm M vs) (hl : vs.length ≤ 4) (hc : mI M 1269 20 = cc con) (hf : mI M 1269 3 = mI M0 1269 3) (d1 d2 : LV) : ∃ M', M_readPatterns_126 1269 d1 d2 M = some (some (.inl (oki (ob (mvs T 7 1 q vs) fun t => (.ok (t.1, con, t.2.1, t.2.2) : Except Nat (Nat × Int × List Int × Nat))))), M') ∧ PTm M0 M' T (ob (mvs T 7 1 q vs) fun t => .ok (t.1, con, t.2.1, t.2.2)) ∧ Fj ptS M M' := by
  obtain ⟨M1, a1, a2, a3⟩ := M_readVars_s 7 1 q vs M 8 (some (.inl 1)) hG hR hV (by decide) (by decide) (by omega)
  have hG1 := hG.fj a3
  have a1 : M_readVars_2 1269 8 1 (some (.inl 1)) M = _ := a1
  rw [M_readPatterns_126_eq, hG.gM, gd_t, M_readVars_eq, a1, cI_s, hG1.gM, gd_t, gd_t, mI_at]
  cases hx : mvs T 7 1 q vs with
  | error e =>
    rw [hx] at a2
    have a2 : mI M1 1269 3 = (e : Int) := a2
    rw [if_pos (show k2 (.error e : Except Nat (Nat × List Int × Nat)) = -1 from rfl), ob_e]
    exact ⟨_, rfl, by show mI _ 1269 3 = _; rw [mI_ne (by omega)]; exact a2, (lvS_pt a3).trans (Fj.ofI (by unfold ptS; omega))⟩
  | ok t =>
    rw [hx] at a2
    obtain ⟨⟨a4, a5⟩, a6⟩ : (RSm M1 T t.1 ∧ LVm M1 t.2.1) ∧ mI M1 1269 3 = mI M 1269 3 := a2
    have e2 : k2 (.ok t : Except Nat (Nat × List Int × Nat)) = (t.2.2 : Int) := rfl
    rw [e2, if_neg (by omega), ob_o]
    exact ⟨_, rfl, ⟨⟨a4.f1 (by omega), a5.fj (Fj.ofI (S := fun a k => a = 1269 ∧ k = 21) ⟨rfl, rfl⟩) (by omega) (by omega)⟩, ⟨by show mI _ 1269 20 = _; rw [mI_ne (by omega), a3.2.2 _ _ (by unfold lvS; omega)]; exact hc, mI_at⟩, by rw [mI_ne (by omega), a6, hf]⟩, (lvS_pt a3).trans (Fj.ofI (by unfold ptS; omega))⟩
theorem M_readPatterns_s (hG : Good M) (hR : RSm M T p) (hV : LVm M []) : ∃ M', M_readPatterns 1269 M = some (some (.inl (oki (mpt T p))), M') ∧ PTm M M' T (mpt T p) ∧ Fj ptS M M' := by
  have hT := hR.1.2.1
  have hr := hR.1.rng (p := p)
  have f1 : Fj (fun a k => a = 1269 ∧ (k = 20 ∨ k = 21)) M (stI (stI M 1269 20 0) 1269 21 0) := (Fj.ofI (by omega)).trans (Fj.ofI (by omega))
  have hG1 := hG.fj f1
  have hR1 : RSm (stI (stI M 1269 20 0) 1269 21 0) T p := hR.fj f1 (by omega) (by omega) (by omega)
  have hV1 : LVm (stI (stI M 1269 20 0) 1269 21 0) [] := hV.fj f1 (by omega) (by omega)
  have hf1 : mI (stI (stI M 1269 20 0) 1269 21 0) 1269 3 = mI M 1269 3 := f1.2.2 _ _ (by omega)
  have h20 : mI (stI (stI M 1269 20 0) 1269 21 0) 1269 20 = cc (-1) := by rw [mI_ne (by omega), mI_at]; rfl
  have h21 : mI (stI (stI M 1269 20 0) 1269 21 0) 1269 21 = ((0 : Nat) : Int) := mI_at
  have F1 : Fj ptS M (stI (stI M 1269 20 0) 1269 21 0) := f1.mono fun a k q => by unfold ptS; omega
  unfold mpt
  rw [M_readPatterns_eq, hG.gM, gd_t, gd_t, gd_t]
  generalize stI (stI M 1269 20 0) 1269 21 0 = M1 at *
  rw [M_here_s hG1 hR1, cI_s]
  by_cases h1 : pek T p = 41
  · rw [if_pos h1, if_pos h1]
    exact ⟨M1, rfl, ⟨⟨hR1, hV1⟩, ⟨h20, h21⟩, hf1⟩, F1⟩
  · rw [if_neg h1, if_neg h1, hG1.gM, gd_t, M_here_s hG1 hR1, cI_s, M_isConLetter_s, cI_s]
    by_cases hk : isK (pek T p)
    · have hk2 : 65 ≤ pek T p ∧ pek T p ≤ 90 := hk
      have hlt := pek_K hk
      have f2 : Fj ptS M1 (stI M1 1269 2 ((p + 1 : Nat) : Int)) := Fj.ofI (by unfold ptS; omega)
      have hG2 := hG1.fj f2
      have hR2 := hR1.at (q := p + 1) hlt
      have hV2 : LVm (stI M1 1269 2 ((p + 1 : Nat) : Int)) [] := hV1.fj (Fj.ofI (S := fun a k => a = 1269 ∧ k = 2) ⟨rfl, rfl⟩) (by omega) (by omega)
      have h3 : mI (stI M1 1269 2 ((p + 1 : Nat) : Int)) 1269 3 = mI M 1269 3 := by rw [mI_ne (by omega)]; exact hf1
      have F2 := F1.trans f2
      rw [if_pos hk, if_neg (by decide), if_pos hk, hG1.gM, gd_t, M_here_s hG1 hR1, cI_s, hG1.gM, gd_t, gd_t, gd_t, hR1.2.1, wr_s (by omega), wr_id (x := pek T p - 65) (by omega) (by omega), wr_id (x := pek T p - 65 + 1) (by omega) (by omega)]
      generalize stI M1 1269 2 ((p + 1 : Nat) : Int) = M2 at *
      rw [M_here_s hG2 hR2, cI_s]
      -- the case is kept
      have keep : ∀ (k q : Nat) (M3 : Mem) (vs : List Int) (d1 d2 : LV), Good M3 → RSm M3 T q → LVm M3 vs → vs.length ≤ 4 → k ≤ 4 → mI M3 1269 3 = mI M 1269 3 → Fj ptS M M3 → ∃ M', (cI (M_thing 1 (k : Int) (pek T p - 65 + 1) M3) fun r20 M19 => gd (gO M19 1269 12) (M_readPatterns_126 1269 d1 d2 (stI M19 1269 20 r20))) = some (some (.inl (oki (ob (.ok (q, vs, k) : Except Nat (Nat × List Int × Nat)) fun s => ob (mvs T 7 1 s.1 s.2.1) fun t => (.ok (t.1, 16777216 + (s.2.2 : Int) * 65536 + (pek T p - 65), t.2.1, t.2.2) : Except Nat (Nat × Int × List Int × Nat))))), M') ∧ PTm M M' T (ob (.ok (q, vs, k) : Except Nat (Nat × List Int × Nat)) fun s => ob (mvs T 7 1 s.1 s.2.1) fun t => .ok (t.1, 16777216 + (s.2.2 : Int) * 65536 + (pek T p - 65), t.2.1, t.2.2)) ∧ Fj ptS M M' := by
        intro k q M3 vs d1 d2 hG3 hR3 hV3 hl hk4 hf3 hF3
        obtain ⟨v1, v2, v3⟩ := vc_mk (k := 1) (a := (k : Int)) (s := pek T p - 65) (Or.inl (by omega)) (by omega) (by omega)
        rw [if_pos rfl, show (1 : Int) * 16777216 = 16777216 from rfl] at v3
        have e3 : cc (16777216 + (k : Int) * 65536 + (pek T p - 65)) = 1 + 4 * (k : Int) + 64 * (pek T p - 65 + 1) := by unfold cc; rw [if_neg (by omega), v3]
        rw [M_thing_s (by omega) (by omega) (by omega), cI_s, hG3.gM, gd_t, ← e3]
        have f4 : Fj ptS M3 (stI M3 1269 20 (cc (16777216 + (k : Int) * 65536 + (pek T p - 65)))) := Fj.ofI (by unfold ptS; omega)
        obtain ⟨M', c1, c2, c3⟩ := M_patEnd (q := q) (con := 16777216 + (k : Int) * 65536 + (pek T p - 65)) (M0 := M) (hG3.fj f4) (hR3.f1 (k := 20) (by omega)) (hV3.fj (Fj.ofI (S := fun a k => a = 1269 ∧ k = 20) ⟨rfl, rfl⟩) (by omega) (by omega)) hl mI_at (by rw [mI_ne (by omega)]; exact hf3) d1 d2
        exact ⟨M', c1, c2, (hF3.trans f4).trans c3⟩
      unfold pcn
      by_cases h40 : pek T (p + 1) = 40
      · have hlt2 := pek_lt (T := T) (p := p + 1) (by omega)
        have f3 : Fj ptS M2 (stI M2 1269 2 ((p + 2 : Nat) : Int)) := Fj.ofI (by unfold ptS; omega)
        have hG3 := hG2.fj f3
        obtain ⟨M4, a1, a2, a3⟩ := M_readLeftVar_s hG3 (hR2.at (q := p + 2) hlt2) (hV2.fj (Fj.ofI (S := fun a k => a = 1269 ∧ k = 2) ⟨rfl, rfl⟩) (by omega) (by omega)) (by decide)
        have hG4 := hG3.fj a3
        rw [if_pos h40, if_pos h40, hG2.gM, gd_t, gd_t, gd_t, hR2.2.1, wr_s (by omega), a1, cI_s]
        cases hx : lvr T (p + 2) [] with
        | error e =>
          rw [hx] at a2
          rw [if_pos (oki_er e), ob_e, ob_e]
          exact ⟨M4, rfl, a2, (F2.trans f3).trans (lvS_pt a3)⟩
        | ok r =>
          rw [hx] at a2
          obtain ⟨⟨a4, a5⟩, a6⟩ : (RSm M4 T r.1 ∧ LVm M4 r.2) ∧ mI M4 1269 3 = mI (stI M2 1269 2 ((p + 2 : Nat) : Int)) 1269 3 := a2
          rw [mI_ne (by omega)] at a6
          obtain ⟨b1, b2, b3, b4⟩ := lvr_ok hx
          have b1 : r.2.length = 1 := b1
          obtain ⟨M5, c1, c2, c3⟩ := M_readVars_s 3 1 r.1 r.2 M4 4 (some (.inl 1)) hG4 a4 a5 (by decide) (by decide) (by omega)
          have c1 : M_readVars_2 1269 4 1 (some (.inl 1)) M4 = _ := c1
          have hG5 := hG4.fj c3
          have F5 := ((F2.trans f3).trans (lvS_pt a3)).trans (lvS_pt c3)
          rw [if_neg (oki_ok r), ob_o, hG4.gM, gd_t, M_readVars_eq, c1, cI_s, vls_mvs]
          cases hy : mvs T 3 1 r.1 r.2 with
          | error e =>
            rw [hy] at c2
            rw [if_pos (show k2 (.error e : Except Nat (Nat × List Int × Nat)) = -1 from rfl), ob_e, ob_e]
            exact ⟨M5, rfl, c2, F5⟩
          | ok s =>
            rw [hy] at c2
            obtain ⟨⟨c4, c5⟩, c6⟩ : (RSm M5 T s.1 ∧ LVm M5 s.2.1) ∧ mI M5 1269 3 = mI M4 1269 3 := c2
            obtain ⟨d1, d2, d3, d4⟩ := mvs_ok 3 1 r.1 r.2 s b3 hy
            have e2 : k2 (.ok s : Except Nat (Nat × List Int × Nat)) = (s.2.2 : Int) := rfl
            rw [e2, if_neg (by omega), ob_o, hG5.gM, gd_t, M_takes_s hG5 c4 41 (by decide)]
            by_cases h41 : pek T s.1 = 41
            · have hlt3 := pek_lt (T := T) (p := s.1) (by omega)
              have f6 : Fj ptS M5 (stI M5 1269 2 ((s.1 + 1 : Nat) : Int)) := Fj.ofI (by unfold ptS; omega)
              rw [if_pos h41, cI_s, if_neg (show ¬ (1 : Int) = 0 by decide), xpc_p h41, ob_o]
              exact keep s.2.2 (s.1 + 1) _ s.2.1 _ _ (hG5.fj f6) (c4.at (q := s.1 + 1) hlt3) (c5.fj (Fj.ofI (S := fun a k => a = 1269 ∧ k = 2) ⟨rfl, rfl⟩) (by omega) (by omega)) (by omega) (by omega) (by rw [mI_ne (by omega), c6, a6]; exact h3) (F5.trans f6)
            · rw [if_neg h41, cI_s, if_pos rfl, xpc_n h41, ob_e, ob_e]
              exact ⟨_, rfl, mI_at, F5.trans (Fj.ofI (by unfold ptS; omega))⟩
      · rw [if_neg h40, if_neg h40]
        exact keep 0 (p + 1) M2 [] _ _ hG2 hR2 hV2 (by decide) (by decide) h3 F2
    · obtain ⟨M2, a1, a2, a3⟩ := M_readLeftVar_s hG1 hR1 hV1 (by decide)
      have hG2 := hG1.fj a3
      rw [if_neg hk, if_pos rfl, if_neg hk, hG1.gM, gd_t, a1, cI_s]
      cases hx : lvr T p [] with
      | error e =>
        rw [hx] at a2
        rw [if_pos (oki_er e), ob_e]
        exact ⟨M2, rfl, a2, F1.trans (lvS_pt a3)⟩
      | ok r =>
        rw [hx] at a2
        obtain ⟨⟨a4, a5⟩, a6⟩ : (RSm M2 T r.1 ∧ LVm M2 r.2) ∧ mI M2 1269 3 = mI M1 1269 3 := a2
        obtain ⟨b1, b2, b3, b4⟩ := lvr_ok hx
        have b1 : r.2.length = 1 := b1
        rw [if_neg (oki_ok r), ob_o]
        obtain ⟨M', c1, c2, c3⟩ := M_patEnd (q := r.1) (con := -1) (M0 := M) hG2 a4 a5 (by omega) (by rw [a3.2.2 _ _ (by unfold lvS; omega)]; exact h20) (a6.trans hf1) none none
        exact ⟨M', c1, c2, (F1.trans (lvS_pt a3)).trans c3⟩
end MCL

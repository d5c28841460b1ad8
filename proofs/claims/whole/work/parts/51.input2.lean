/-! ===== a goal, an expression and what is bound are told: the class ===== -/
section CTELL2
variable {M : Mem} {T : List Int} {zs ns : List Clz} {bs : Bnd} {gl ng : List Int} {es : Nat → List Int} {f dr : Int}
def goalS : Nat → Nat → Prop := fun a k => tlS a k ∨ a = 767 ∨ a = 768 ∨ a = 771 ∨ a = 772
theorem exS_771 {a k : Nat} (q : exS 771 a k) : a = 5 ∨ a = 6 ∨ a = 3 ∨ a = 771 ∨ a = 772 := by unfold exS rS at q; omega
theorem D_goal_s (hG : Good M) (hT : TPc M T) (hE : CE M gl ng es) (hS : CS M) (hF : CF M f dr) (hgl : ∀ xs, whl T = .ok xs → xs.length ≤ 40) : ∃ M', D_goal 2 M = some (some (.inl (okr (whl T) fun xs => (xs.length : Int))), M') ∧ Good M' ∧ TPc M' [] ∧ CS M' ∧ (match whl T with
    | .error e => CE M' gl ng es ∧ CF M' (e : Int) dr
    | .ok xs => CE M' xs ng es ∧ CF M' (-1) 0) ∧ Fq goalS nor M M' := by
  obtain ⟨⟨ys, hs1⟩, vs, hs2⟩ := hS
  obtain ⟨e1, e2, e3⟩ := hE
  obtain ⟨M1, a1, a2, a3⟩ := Re_readWhole_s hG hT (e := 771) (N := 100) (by decide) (by decide) hs1
  have hG1 := hG.fj a3
  have hT1 : TPc M1 T := hT.fj a3 (by unfold exS rS; omega) (by unfold exS rS; omega)
  obtain ⟨M2, b1, b2, b3, b4⟩ := D_emptyTape_s hG1 hT1 (oki_01 (whl T))
  have hG2 := hG1.fj b4
  have F2 : Fj (fun a k => a = 3 ∨ a = 5 ∨ a = 6 ∨ a = 771 ∨ a = 772 ∨ (a = 2 ∧ k = 16)) M M2 := (a3.mono fun a k q => by have := exS_771 q; omega).trans (b4.mono fun a k q => by omega)
  have c15 : mI M2 2 15 = dr := (F2.2.2 _ _ (by omega)).trans hF.2
  have k1 : XE M2 767 100 gl := e1.fj F2 (by omega) (by omega)
  have k2 : XE M2 769 100 ng := e2.fj F2 (by omega) (by omega)
  have k3 : ∀ i, i < 4 → XE M2 (759 + 2 * i) 40 (es i) := fun i hi => (e3 i hi).fj F2 (by omega) (by omega)
  have k4 : XE M2 7 40 vs := hs2.fj F2 (by omega) (by omega)
  have k5 : ∀ {us}, XE M1 771 100 us → XE M2 771 100 us := fun h => h.fj b4 (by omega) (by omega)
  have FQ : Fq goalS nor M M2 := F2.fq fun a k q => by unfold goalS tlS; omega
  rw [D_goal_eq, hG.gx, gd_t, gd_t, hG.r2_0, hG.gR, gd_t, hG.r2_9, a1, cI_s, hG1.gx, gd_t, b1, cI_s]
  cases hx : whl T with
  | error e =>
    rw [hx] at a2 b3
    obtain ⟨a4, us, a5⟩ := a2
    rw [if_pos (oki_er e)] at b3 ⊢
    exact ⟨M2, rfl, hG2, b2, ⟨⟨_, k5 a5⟩, _, k4⟩, ⟨⟨k1, k2, k3⟩, b3.trans a4, c15⟩, FQ⟩
  | ok us =>
    rw [hx] at a2 b3
    have b3 : mI M2 2 16 = -1 := by rw [if_neg (oki_ok us)] at b3; exact b3
    have q2 : XE M2 771 100 us := k5 a2
    obtain ⟨M3, c1, c2, c3⟩ := Ex_become_s hG2 k1 q2 (by decide) (by decide) (by decide) (by have := q2.2.2; omega)
    have f3 : Fj (fun a _ => a = 767 ∨ a = 768) M2 M3 := c3.fj fun a k q => q
    have hG3 := hG2.fj f3
    have f4 : Fj (fun a k => a = 2 ∧ k = 15) M3 (stI M3 2 15 0) := Fj.ofI ⟨rfl, rfl⟩
    have c2' : XE (stI M3 2 15 0) 767 100 us := c2.fj f4 (by omega) (by omega)
    rw [if_neg (oki_ok us), hG2.gx, gd_t, gd_t, hG2.r2_7, hG2.r2_9, k1.g hG2, gd_t, c1, cV_s, hG3.gx, gd_t, gd_t, hG3.r2_7, c2.g hG3, gd_t, c2'.s]
    have g : ∀ {e n us}, e ≠ 767 ∧ e + 1 ≠ 767 ∧ e ≠ 768 ∧ 2 < e → XE M2 e n us → XE (stI M3 2 15 0) e n us := fun hne h => (h.fj f3 (by omega) (by omega)).fj f4 (by omega) (by omega)
    refine ⟨_, rfl, hG3.fj f4, (b2.fj f3 (by omega) (by omega)).fj f4 (by omega) (by omega), ⟨⟨_, g (by omega) q2⟩, _, g (by omega) k4⟩, ⟨⟨c2', g (by omega) k2, fun i hi => g (by omega) (k3 i hi)⟩, ?_, mI_at⟩, FQ.trans ((f3.fq fun a k q => by unfold goalS; omega).trans (f4.fq fun a k q => by unfold goalS tlS; omega))⟩
    rw [mI_ne (by omega), f3.2.2 _ _ (by omega)]
    exact b3
/-- whether a number is one of the four expressions' -/
def isX (i : Int) : Prop := 0 ≤ i ∧ i < 4
theorem D_isExpression_s (i : Int) : D_isExpression i M = some (some (.inl (if 0 ≤ i ∧ i < 4 then 1 else 0)), M) := by
  rw [D_isExpression_eq]
  by_cases h1 : i < 0
  · rw [if_pos h1, if_neg (by omega)]
  · rw [if_neg h1]
    by_cases h2 : i < 4
    · rw [if_pos h2, if_pos (by omega)]
    · rw [if_neg h2, if_neg (by omega)]
theorem arr_758 : arr 758 3 4 := arr_of _ _ _ (by decide)
theorem Good.rX (h : Good M) {i : Nat} (hi : i < 4) : mR M 758 i = 759 + 2 * i := by
  have : i = 0 ∨ i = 1 ∨ i = 2 ∨ i = 3 := by omega
  rcases this with e | e | e | e
  · subst e; exact h.2.2.1 (758, 0, 759) (by decide)
  · subst e; exact h.2.2.1 (758, 1, 761) (by decide)
  · subst e; exact h.2.2.1 (758, 2, 763) (by decide)
  · subst e; exact h.2.2.1 (758, 3, 765) (by decide)
theorem Good.aX (h : Good M) {i : Nat} (hi : i < 4) : (gS M 758 3 (i : Int) || (gS M 758 4 (i : Int) || gS M 758 5 (i : Int))) = true := g345 (Or.inl (h.tgS arr_758 (by omega) (by omega)))
def setX (es : Nat → List Int) (i : Nat) (xs : List Int) : Nat → List Int := fun j => if j = i then xs else es j
def exprS : Nat → Nat → Prop := fun a k => tlS a k ∨ (759 ≤ a ∧ a < 767) ∨ a = 771 ∨ a = 772
theorem D_expression_bad (hG : Good M) (hT : TPc M T) (hF : CF M f dr) {i : Int} (hi : ¬ (0 ≤ i ∧ i < 4)) : ∃ M', D_expression 2 i M = some (some (.inl (-1)), M') ∧ Good M' ∧ TPc M' [] ∧ CF M' (-1) dr ∧ Fq exprS nor M M' ∧ Fj (fun a k => (a = 2 ∧ k = 16) ∨ (a = 3 ∧ k = 4)) M M' := by
  obtain ⟨M2, b1, b2, b3, b4⟩ := D_emptyTape_s hG hT (r := 1) (Or.inr rfl)
  rw [D_expression_eq, D_isExpression_s, cI_s, if_neg hi, if_pos rfl, hG.gx, gd_t, b1, cI_s]
  exact ⟨M2, rfl, hG.fj b4, b2, ⟨by rw [if_neg (by decide)] at b3; exact b3, (b4.2.2 _ _ (by omega)).trans hF.2⟩, b4.fq fun a k q => by unfold exprS tlS; omega, b4⟩
theorem D_expression_s (hG : Good M) (hT : TPc M T) (hE : CE M gl ng es) (hS : CS M) (hF : CF M f dr) (hgl : ∀ xs, whl T = .ok xs → xs.length ≤ 40) {i : Nat} (hi : i < 4) : ∃ M', D_expression 2 (i : Int) M = some (some (.inl (okr (whl T) fun xs => (xs.length : Int))), M') ∧ Good M' ∧ TPc M' [] ∧ CS M' ∧ (match whl T with
    | .error e => CE M' gl ng es ∧ CF M' (e : Int) dr
    | .ok xs => CE M' gl ng (setX es i xs) ∧ CF M' (-1) dr) ∧ Fq exprS nor M M' := by
  obtain ⟨⟨ys, hs1⟩, vs, hs2⟩ := hS
  obtain ⟨e1, e2, e3⟩ := hE
  obtain ⟨M1, a1, a2, a3⟩ := Re_readWhole_s hG hT (e := 771) (N := 100) (by decide) (by decide) hs1
  have hG1 := hG.fj a3
  have hT1 : TPc M1 T := hT.fj a3 (by unfold exS rS; omega) (by unfold exS rS; omega)
  obtain ⟨M2, b1, b2, b3, b4⟩ := D_emptyTape_s hG1 hT1 (oki_01 (whl T))
  have hG2 := hG1.fj b4
  have F2 : Fj (fun a k => a = 3 ∨ a = 5 ∨ a = 6 ∨ a = 771 ∨ a = 772 ∨ (a = 2 ∧ k = 16)) M M2 := (a3.mono fun a k q => by have := exS_771 q; omega).trans (b4.mono fun a k q => by omega)
  have c15 : mI M2 2 15 = dr := (F2.2.2 _ _ (by omega)).trans hF.2
  have k1 : XE M2 767 100 gl := e1.fj F2 (by omega) (by omega)
  have k2 : XE M2 769 100 ng := e2.fj F2 (by omega) (by omega)
  have k3 : ∀ i, i < 4 → XE M2 (759 + 2 * i) 40 (es i) := fun i hi => (e3 i hi).fj F2 (by omega) (by omega)
  have k4 : XE M2 7 40 vs := hs2.fj F2 (by omega) (by omega)
  have k5 : ∀ {us}, XE M1 771 100 us → XE M2 771 100 us := fun h => h.fj b4 (by omega) (by omega)
  have FQ : Fq exprS nor M M2 := F2.fq fun a k q => by unfold exprS tlS; omega
  rw [D_expression_eq, D_isExpression_s, cI_s, if_pos (show (0 : Int) ≤ (i : Int) ∧ (i : Int) < 4 by omega), if_neg (by decide), hG.gx, gd_t, gd_t, hG.r2_0, hG.gR, gd_t, hG.r2_9, a1, cI_s, hG1.gx, gd_t, b1, cI_s]
  cases hx : whl T with
  | error e =>
    rw [hx] at a2 b3
    obtain ⟨a4, us, a5⟩ := a2
    rw [if_pos (oki_er e)] at b3 ⊢
    exact ⟨M2, rfl, hG2, b2, ⟨⟨_, k5 a5⟩, _, k4⟩, ⟨⟨k1, k2, k3⟩, b3.trans a4, c15⟩, FQ⟩
  | ok us =>
    have hul := hgl us hx
    rw [hx] at a2 b3
    have b3 : mI M2 2 16 = -1 := by rw [if_neg (oki_ok us)] at b3; exact b3
    have q2 : XE M2 771 100 us := k5 a2
    obtain ⟨M3, c1, c2, c3⟩ := Ex_become_s hG2 (k3 i hi) q2 (by omega) (by omega) (by omega) hul
    have f3 : Fj (fun a _ => a = 759 + 2 * i ∨ a = 759 + 2 * i + 1) M2 M3 := c3.fj fun a k q => q
    have hG3 := hG2.fj f3
    have g : ∀ {e n us}, e ≠ 759 + 2 * i ∧ e + 1 ≠ 759 + 2 * i ∧ e ≠ 759 + 2 * i + 1 → XE M2 e n us → XE M3 e n us := fun hne h => h.fj f3 (by omega) (by omega)
    have q3 : XE M3 771 100 us := g (by omega) q2
    rw [if_neg (oki_ok us), hG2.gx, gd_t, hG2.r2_6, hG2.aX hi, gd_t, gd_t, toNat_n, hG2.rX hi, (k3 i hi).g hG2, gd_t, hG2.r2_9, c1, cV_s, hG3.gx, gd_t, hG3.r2_9, q3.g hG3, gd_t, q3.s]
    refine ⟨_, rfl, hG3, b2.fj f3 (by omega) (by omega), ⟨⟨_, q3⟩, _, g (by omega) k4⟩, ⟨⟨g (by omega) k1, g (by omega) k2, fun j hj => ?_⟩, (f3.2.2 _ _ (by omega)).trans b3, (f3.2.2 _ _ (by omega)).trans c15⟩, FQ.trans (f3.fq fun a k q => by unfold exprS; omega)⟩
    unfold setX
    by_cases e : j = i
    · subst e; rw [if_pos rfl]; exact c2
    · rw [if_neg e]; exact g (by omega) (k3 j hj)
def bindS : Nat → Nat → Prop := fun a k => tlS a k ∨ a = 7 ∨ a = 8 ∨ (1259 ≤ a ∧ a < 1269)
theorem D_bind_s (hG : Good M) (hT : TPc M T) (hB : CB M bs) (hS : CS M) (hF : CF M f dr) : ∃ M', D_bind 2 M = some (some (.inl (okr (rbb T) fun cs => (cs.length : Int))), M') ∧ Good M' ∧ TPc M' [] ∧ CS M' ∧ (match rbb T with
    | .error e => CB M' bs ∧ CF M' (e : Int) dr
    | .ok cs => CB M' cs ∧ CF M' (-1) dr) ∧ Fq bindS (fun a k => a = 2 ∧ (k = 13 ∨ k = 14)) M M' := by
  obtain ⟨B0, B1, hp, ⟨r0, r1⟩, p0, ws, p1⟩ := hB
  obtain ⟨⟨ys, hs1⟩, hs2⟩ := hS
  unfold brm at hp
  obtain ⟨M1, a1, a2, ⟨vs, a5⟩, a3⟩ := Re_readBound_s hG hT (b := B1) (by omega) p1 hs2
  have hG1 := hG.fj a3
  have hT1 : TPc M1 T := hT.fj a3 (by unfold bdS rS bS; omega) (by unfold bdS rS bS; omega)
  obtain ⟨M2, b1, b2, b3, b4⟩ := D_emptyTape_s hG1 hT1 (oki_01 (rbb T))
  have hG2 := hG1.fj b4
  have F2 : Fj (fun a k => (a = 3 ∨ a = 5 ∨ a = 6 ∨ a = 7 ∨ a = 8 ∨ (a = 2 ∧ k = 16)) ∨ bS B1 a) M M2 := (a3.mono fun a k q => by unfold bdS rS bS at q; unfold bS; omega).trans (b4.mono fun a k q => by unfold bS; omega)
  have hQ : ∀ a k, ((a = 3 ∨ a = 5 ∨ a = 6 ∨ a = 7 ∨ a = 8 ∨ (a = 2 ∧ k = 16)) ∨ bS B1 a) → bindS a k := fun a k q => by unfold bS at q; unfold bindS tlS; omega
  have k0 : BDc M2 B0 bs := p0.fj F2 fun a k q => by unfold bS at q; unfold bS; omega
  have k2 : ∀ {us}, BDc M1 B1 us → BDc M2 B1 us := fun h => h.fj b4 fun a k q => by unfold bS at q; omega
  have k3 : CS M2 := ⟨⟨ys, hs1.fj F2 (by unfold bS; omega) (by unfold bS; omega)⟩, vs, a5.fj b4 (by omega) (by omega)⟩
  have c15 : mI M2 2 15 = dr := (F2.2.2 _ _ (by unfold bS; omega)).trans hF.2
  have r13 : mR M2 2 13 = B0 := (F2.2.1 _ _).trans r0
  have r14 : mR M2 2 14 = B1 := (F2.2.1 _ _).trans r1
  rw [D_bind_eq, hG.gx, gd_t, gd_t, hG.r2_0, hG.gR, gd_t, r1, a1, cI_s, hG1.gx, gd_t, b1, cI_s]
  cases hx : rbb T with
  | error e =>
    rw [hx] at a2 b3
    obtain ⟨a4, us, a6⟩ := a2
    rw [if_pos (oki_er e)] at b3 ⊢
    exact ⟨M2, rfl, hG2, b2, k3, ⟨⟨B0, B1, hp, ⟨r13, r14⟩, k0, us, k2 a6⟩, b3.trans a4, c15⟩, F2.fq hQ⟩
  | ok us =>
    rw [hx] at a2 b3
    have a4 : BDc M1 B1 us := a2
    have b3 : mI M2 2 16 = -1 := by rw [if_neg (oki_ok us)] at b3; exact b3
    have q2 := k2 a4
    have eR : mR (stR (stR M2 2 14 B0) 2 13 B1) 2 13 = B1 := by
      show (if (2 : Nat) = 2 ∧ (13 : Nat) = 13 then B1 else mR (stR M2 2 14 B0) 2 13) = B1
      exact if_pos ⟨rfl, rfl⟩
    have hG3 : Good (stR (stR M2 2 14 B0) 2 13 B1) := (hG2.ofR (by unfold mtb; omega)).ofR (by unfold mtb; omega)
    have gP : gO M2 B1 0 = true := q2.g hG2
    rw [if_neg (oki_ok us), hG2.gx, r13, r14]
    rw [gd_t, gd_t, gd_t, gd_t, gd_t, eR, gP, gd_t, q2.1.2.1]
    refine ⟨_, rfl, hG3, b2, k3, ⟨⟨B1, B0, by unfold brm; omega, ⟨eR, ?_⟩, q2, bs, k0⟩, b3, c15⟩, ((F2.fq hQ).trans (Fq.ofR (by omega))).trans (Fq.ofR (by omega))⟩
    show (if (2 : Nat) = 2 ∧ (14 : Nat) = 13 then B1 else if (2 : Nat) = 2 ∧ (14 : Nat) = 14 then B0 else mR M2 2 14) = B0
    rw [if_neg (by decide), if_pos (by decide)]
theorem D_fault_s (hG : Good M) (hF : CF M f dr) : D_fault 2 M = some (some (.inl f), M) := by rw [D_fault_eq, hG.gx, gd_t, hF.1]
theorem whl_ok {xs : List Int} (h : whl T = .ok xs) : wf 1 xs ∧ av xs ∧ xs.length ≤ 40 ∧ ∀ c ∈ xs, pcl none false c := by
  unfold whl at h
  obtain ⟨x, h1, h2⟩ := ob_ok h
  obtain ⟨⟨a1, a2, a3⟩, a4, -⟩ := rxo_ok (Nat.zero_le _) h1
  split at h2
  · cases h2
    exact ⟨a1, a2, a3, a4⟩
  · cases h2
end CTELL2

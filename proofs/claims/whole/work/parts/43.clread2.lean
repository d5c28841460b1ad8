/-! ===== the class reads clauses, programs, whole expressions, what is bound ===== -/
theorem xpc_p {T : List Int} {p : Nat} {c : Int} (h : pek T p = c) : xpc T p c = .ok (p + 1) := if_pos h
theorem xpc_n {T : List Int} {p : Nat} {c : Int} (h : ¬ pek T p = c) : xpc T p c = .error p := if_neg h
def PRx (M : Mem) (P : Nat) (zs : List Clz) : Prop := PRc M P zs ∧ ∀ i, i < 40 → ∃ z, CLc M (P + 2 + 4 * i) z
def pgS (P : Nat) : Nat → Nat → Prop := fun a k => rS a k ∨ pS P a
theorem PRx.fj {M M1 : Mem} {S : Nat → Nat → Prop} {P : Nat} {zs : List Clz} (h : PRx M P zs) (f : Fj S M M1) (h0 : ∀ a k, pS P a → ¬ S a k) : PRx M1 P zs := by
  have f1 : Fi (fun a => ∃ k, S a k) M M1 := f.fi (T := fun a => ∃ k, S a k) fun a k q => ⟨k, q⟩
  have h1 : ∀ a, pS P a → ¬ ∃ k, S a k := fun a ha q => by obtain ⟨k, q⟩ := q; exact h0 a k ha q
  refine ⟨h.1.fi f1 h1, fun i hi => ?_⟩
  obtain ⟨z, hz⟩ := h.2 i hi
  exact ⟨z, hz.fi f1 fun a ha => h1 a (by unfold cS at ha; unfold pS; omega)⟩
/-- the spare clause alone was written -/
theorem PRx.cl {M M1 : Mem} {P : Nat} {zs : List Clz} (h : PRx M P zs) (hP : 6 < P) (hn : zs.length < 40) (f : Fj (clS (P + 2 + 4 * zs.length)) M M1) (hc : ∃ z, CLc M1 (P + 2 + 4 * zs.length) z) : PRx M1 P zs := by
  refine ⟨⟨⟨h.1.1.1, (f.2.2 _ _ (by unfold clS rS; omega)).trans h.1.1.2.1, h.1.1.2.2⟩, fun i z hz => ?_⟩, fun i hi => ?_⟩
  · have hi := (List.getElem?_eq_some_iff.mp hz).1
    exact (h.1.2 i z hz).fj f fun a k q => by unfold cS at q; unfold clS rS; omega
  · by_cases e : i = zs.length
    · rw [e]; exact hc
    · obtain ⟨z, hz⟩ := h.2 i hi
      exact ⟨z, hz.fj f fun a k q => by unfold cS at q; unfold clS rS; omega⟩
theorem okP_app {zs : List Clz} {z : Clz} (h : okP zs) (hc : ¬ ctr zs z.1 z.2.1 = true) : okP (zs ++ [z]) := by
  intro i j y w hij hy hw e
  have hj := (List.getElem?_eq_some_iff.mp hw).1
  rw [List.length_append, List.length_singleton] at hj
  by_cases q : j < zs.length
  · rw [List.getElem?_append_left q] at hw
    rw [List.getElem?_append_left (by omega)] at hy
    exact h i j y w hij hy hw e
  · have h6 : j = zs.length := by omega
    subst h6
    rw [List.getElem?_append_right (Nat.le_refl _), Nat.sub_self] at hw
    cases hw
    rw [List.getElem?_append_left hij] at hy
    have hno : ∀ q, ¬ (decide (y.1 = z.1) && (decide (y.2.1 = -1) || (decide (z.2.1 = -1) || decide (y.2.1 = z.2.1)))) = q ∨ q = false := by
      intro q
      cases q with
      | false => exact Or.inr rfl
      | true => exact Or.inl fun e => hc (List.any_eq_true.mpr ⟨y, List.mem_of_getElem? hy, e⟩)
    have h7 := hno true
    simp only [Bool.and_eq_true, Bool.or_eq_true, decide_eq_true_eq, reduceCtorEq, or_false] at h7
    exact ⟨fun q => h7 ⟨e, Or.inl q⟩, fun q => h7 ⟨e, Or.inr (Or.inl q)⟩, fun q => h7 ⟨e, Or.inr (Or.inr q)⟩⟩
section CLREAD
variable {M : Mem} {T : List Int} {p P : Nat} {zs : List Clz}
theorem Pr_spareClause_full (hG : Good M) (h : PRc M P zs) (hl : zs.length = 40) : Pr_spareClause P M = some (some (.inr 0), M) := by
  rw [Pr_spareClause_eq, h.g hG]
  simp only [gd_t, h.r hG, h.1.2.1]
  rw [hG.tgL h.1.1.2.1 (by decide), gd_t, hG.len h.1.1.2.1, if_neg (by omega)]
theorem CLc.lf {c : Nat} {z : Clz} (h : CLc M c z) : LFc M c (some z.2.2.1) := ⟨h.1.1, h.2.1⟩
theorem rcl_ctr {r : Nat × Clz} (h : rcl T zs p = .ok r) : ¬ ctr zs r.2.1 r.2.2.1 = true := by
  unfold rcl at h
  split at h
  · obtain ⟨p1, h1, h2⟩ := ob_ok h
    obtain ⟨s, h3, h4⟩ := ob_ok h2
    obtain ⟨p2, h5, h6⟩ := ob_ok h4
    split at h6
    · cases h6
    · rename_i hc
      obtain ⟨x, h7, h8⟩ := ob_ok h6
      obtain ⟨p3, h9, h10⟩ := ob_ok h8
      cases h10
      exact hc
  · cases h
/-- how a clause's reading ends -/
def RCo (M' : Mem) (T : List Int) (P : Nat) (zs : List Clz) (x : Except Nat (Nat × Clz)) : Prop := match x with
  | .error e => mI M' 3 7 = (e : Int) ∧ PRx M' P zs
  | .ok r => RSc M' T r.1 ∧ PRx M' P (zs ++ [r.2])
theorem Re_readClause_s (hG : Good M) (hR : RSc M T p) (hP0 : 6 < P) (hP : PRx M P zs) (hok : okP zs) : ∃ M', Re_readClause 3 P M = some (some (.inl (oki (rcl T zs p))), M') ∧ RCo M' T P zs (rcl T zs p) ∧ Fj (pgS P) M M' := by
  have hT := hR.1.2.1
  have hf3 : ∀ {M1 : Mem} {q : Nat} {x : Except Nat (Nat × Clz)}, Good M1 → PRx M1 P zs → Fj (pgS P) M M1 → x = .error q → ∃ M', (cI (Re_fail 3 (q : Int) M1) fun r6 M5 => gd (decide (r6 = 0 ∨ r6 = 1)) (some (some (.inl r6), M5))) = some (some (.inl (oki x)), M') ∧ RCo M' T P zs x ∧ Fj (pgS P) M M' := by
    intro M1 q x hG1 hP1 hF he
    rw [Re_fail_s hG1, cI_s, he]
    exact ⟨_, rfl, ⟨mI_at, hP1.fj (Fj.ofI (S := fun a k => a = 3) rfl) fun a k q => by unfold pS at q; omega⟩, hF.trans (Fj.ofI (by unfold pgS rS; omega))⟩
  unfold rcl
  rw [Re_readClause_eq, hG.gR, gd_t, hP.1.g hG, gd_t]
  by_cases hn : zs.length < 40
  · obtain ⟨z0, hz0⟩ := hP.2 zs.length hn
    obtain ⟨M1, a1, a2, a3⟩ := Pr_spareClause_s hG hP.1 hn hz0
    have hc : 6 < P + 2 + 4 * zs.length := by omega
    have hsub : ∀ a k, clS (P + 2 + 4 * zs.length) a k → pgS P a k := fun a k q => by unfold clS rS at q; unfold pgS rS pS; omega
    have F1 : Fj (clS (P + 2 + 4 * zs.length)) M M1 := a3.cl
    have hG1 := hG.fj F1
    have hR1 : RSc M1 T p := hR.cl hc a3
    have h0 : ∀ {M2 : Mem} {q : Nat}, Fj (clS (P + 2 + 4 * zs.length)) M M2 → (∃ z, CLc M2 (P + 2 + 4 * zs.length) z) → mI M2 3 7 = (q : Int) → ∃ M', (some (some (.inl 0), M2) : Res) = some (some (.inl (oki (.error q : Except Nat (Nat × Clz)))), M') ∧ RCo M' T P zs (.error q) ∧ Fj (pgS P) M M' := fun F hz hq => ⟨_, rfl, ⟨hq, hP.cl hP0 hn F hz⟩, F.mono hsub⟩
    rw [a1, cR_s, if_neg (by omega), hG1.gR, gd_t, Re_peek_s hG1 hR1, cI_s, Re_isFunctionLetter_s, cI_s]
    generalize hcd : P + 2 + 4 * zs.length = c at *
    by_cases hf : isF (pek T p)
    · have hlt := pek_F hf
      have hf2 : 97 ≤ pek T p ∧ pek T p ≤ 108 := hf
      obtain ⟨r1, r2⟩ := rdn_rng (T := T) (p := p) (f := 97) (k := 11) (by omega)
      obtain ⟨q1, q2⟩ := rdn_le (f := 97) hlt
      have f2 : Fj (clS c) M1 (stI M1 3 5 ((rdn T p 97).2 : Int)) := Fj.ofI (by unfold clS rS; omega)
      have F2 := F1.trans f2
      have hG2 := hG1.fj f2
      have hR2 := hR1.at q2
      have hC2 : CLc (stI M1 3 5 ((rdn T p 97).2 : Int)) c (-1, -1, [], []) := a2.r3 hc
      rw [if_pos hf, if_neg (by decide), if_pos ⟨hn, hf⟩, hG1.gR, gd_t, Re_readName_s hG1 hR1 hlt (by omega), cI_s, hG2.gR, gd_t, Re_expect_s hG2 hR2 40 (by decide)]
      by_cases h40 : pek T (rdn T p 97).2 = 40
      · have hlt2 := pek_lt (T := T) (p := (rdn T p 97).2) (by omega)
        have f3 : Fj (clS c) (stI M1 3 5 ((rdn T p 97).2 : Int)) (stI (stI M1 3 5 ((rdn T p 97).2 : Int)) 3 5 (((rdn T p 97).2 + 1 : Nat) : Int)) := Fj.ofI (by unfold clS rS; omega)
        have hG3 := hG2.fj f3
        have hR3 := hR2.at (q := (rdn T p 97).2 + 1) hlt2
        have hC3 : CLc (stI (stI M1 3 5 ((rdn T p 97).2 : Int)) 3 5 (((rdn T p 97).2 + 1 : Nat) : Int)) c (-1, -1, [], []) := hC2.r3 hc
        obtain ⟨M4, b1, b2, b3⟩ := Re_readPatterns_s hG3 hR3 hc hC3 rfl rfl
        have F4 := (F2.trans f3).trans b3
        have hG4 := hG3.fj b3
        rw [if_pos h40, cI_s, if_neg (show ¬ (1 : Int) = 0 by decide), hG3.gR, gd_t, b1, cI_s, xpc_p h40, ob_o]
        cases hx : pat T ((rdn T p 97).2 + 1) with
        | error e =>
          rw [hx] at b2
          rw [if_pos (show k3 (.error e) = -1 from rfl), ob_e]
          exact h0 F4 b2.2 b2.1
        | ok s =>
          rw [hx] at b2
          obtain ⟨b4, b5⟩ : RSc M4 T s.1 ∧ CLc M4 c (-1, s.2.1, s.2.2.1, []) := b2
          have hs8 : s.2.2.2 ≤ 8 := pat_le hx
          have e3 : k3 (.ok s) = (s.2.2.2 : Int) := rfl
          rw [e3, if_neg (by omega), Ex_cell_s (by omega) (by omega) (by omega), cI_s, b5.g hG4, gd_t, hG4.gR, gd_t, ob_o, show (2 : Int) * 16777216 = 33554432 from rfl]
          have hC5 := b5.fun (33554432 + (s.2.2.2 : Int) * 65536 + (rdn T p 97).1)
          have f5 : Fj (fun a k => a = c ∧ k = 3) M4 (stI M4 c 3 (33554432 + (s.2.2.2 : Int) * 65536 + (rdn T p 97).1)) := Fj.ofI ⟨rfl, rfl⟩
          have F5 := F4.trans (f5.mono (T := clS c) fun a k q => by unfold clS; omega)
          have hR5 : RSc (stI M4 c 3 (33554432 + (s.2.2.2 : Int) * 65536 + (rdn T p 97).1)) T s.1 := b4.fj f5 (by omega) (by omega) (by omega)
          have hG5 := hG4.fj f5
          generalize stI M4 c 3 (33554432 + (s.2.2.2 : Int) * 65536 + (rdn T p 97).1) = M5 at *
          rw [Re_expect_s hG5 hR5 61 (by decide)]
          by_cases h61 : pek T s.1 = 61
          · have hlt3 := pek_lt (T := T) (p := s.1) (by omega)
            have f6 : Fj (clS c) M5 (stI M5 3 5 ((s.1 + 1 : Nat) : Int)) := Fj.ofI (by unfold clS rS; omega)
            have F6 := F5.trans f6
            have hG6 := hG5.fj f6
            have hR6 := hR5.at (q := s.1 + 1) hlt3
            have hC6 : CLc (stI M5 3 5 ((s.1 + 1 : Nat) : Int)) c (33554432 + (s.2.2.2 : Int) * 65536 + (rdn T p 97).1, s.2.1, s.2.2.1, []) := hC5.r3 hc
            have hP6 : PRx (stI M5 3 5 ((s.1 + 1 : Nat) : Int)) P zs := by
              rw [← hcd] at F6 hC6
              exact hP.cl hP0 hn F6 ⟨_, hC6⟩
            rw [if_pos h61, cI_s, if_neg (show ¬ (1 : Int) = 0 by decide), hP6.1.g hG6, gd_t, Pr_contradicts_s hG6 hP6.1 hok hC6, cI_s, xpc_p h61, ob_o]
            show ∃ M', (if (if ctr zs (33554432 + (s.2.2.2 : Int) * 65536 + (rdn T p 97).1) s.2.1 = true then (1 : Int) else 0) = 0 then _ else _) = _ ∧ _
            by_cases hct : ctr zs (33554432 + (s.2.2.2 : Int) * 65536 + (rdn T p 97).1) s.2.1 = true
            · rw [if_pos hct, if_pos hct, if_neg (show ¬ (1 : Int) = 0 by decide), hG6.gR, gd_t, hR.2.1]
              exact hf3 hG6 hP6 (F6.mono hsub) rfl
            · rw [if_neg hct, if_neg hct, if_pos rfl, hC6.g hG6, gd_t, hG6.gR, gd_t, (hC6.r hG6).2]
              obtain ⟨M7, c1, c2, c3⟩ := Re_readExpr_s hG6 (e := c + 2) (N := 100) (by omega) (by decide) (c := c) (left := some s.2.2.1) (fun _ => ⟨hc, by omega⟩) (cons := false) (fun q => by cases q) hC6.lf hR6 hC6.2.2
              have f7 : Fj (clS c) (stI M5 3 5 ((s.1 + 1 : Nat) : Int)) M7 := c3.mono fun a k q => by unfold exS rS at q; unfold clS rS; omega
              have F7 := F6.trans f7
              have hG7 := hG6.fj f7
              have hC7 : ∀ {ys : List Int}, XE M7 (c + 2) 100 ys → CLc M7 c (33554432 + (s.2.2.2 : Int) * 65536 + (rdn T p 97).1, s.2.1, s.2.2.1, ys) := fun hy => ⟨⟨hC6.1.1, (c3.2.2 _ _ (by unfold exS rS; omega)).trans hC6.1.2.1, (c3.2.2 _ _ (by unfold exS rS; omega)).trans hC6.1.2.2⟩, ⟨(c3.2.2 _ _ (by unfold exS rS; omega)).trans hC6.2.1.1, hC6.2.1.2.1.fj c3 (fun k => by unfold exS rS; omega), hC6.2.1.2.2⟩, hy⟩
              rw [if_neg (show ¬ false = true by decide)] at c1
              rw [c1, cI_s]
              unfold rxo
              generalize rex T (some s.2.2.1) false 41 (s.1 + 1) [] [] = X at *
              obtain ⟨x1, x2, x3⟩ := X
              cases x1 with
              | false =>
                obtain ⟨c4, ys, c5⟩ : mI M7 3 7 = (x2 : Int) ∧ ∃ ys, XE M7 (c + 2) 100 ys := c2
                rw [if_neg (show ¬ (false, x2, x3).1 = true from fun q => by cases q), if_pos (show (0 : Int) = 0 from rfl), if_neg (show ¬ (false, x2, x3).1 = true from fun q => by cases q), ob_e]
                exact h0 F7 ⟨_, hC7 c5⟩ c4
              | true =>
                obtain ⟨c4, c5⟩ : RSc M7 T x2 ∧ XE M7 (c + 2) 100 x3 := c2
                rw [if_pos (show (true, x2, x3).1 = true from rfl), if_neg (show ¬ (1 : Int) = 0 by decide), if_pos (show (true, x2, x3).1 = true from rfl), ob_o, hG7.gR, gd_t, Re_expect_s hG7 c4 59 (by decide)]
                show ∃ M', cI (if pek T x2 = 59 then _ else _) _ = some (some (.inl (oki (ob (xpc T x2 59) _))), M') ∧ RCo M' T P zs (ob (xpc T x2 59) _) ∧ _
                by_cases h59 : pek T x2 = 59
                · have f8 : Fj (clS c) M7 (stI M7 3 5 ((x2 + 1 : Nat) : Int)) := Fj.ofI (by unfold clS rS; omega)
                  have F8 := F7.trans f8
                  have hG8 := hG7.fj f8
                  have hlt4 := pek_lt (T := T) (p := x2) (by omega)
                  have hR8 := c4.at (q := x2 + 1) hlt4
                  have hC8 : CLc (stI M7 3 5 ((x2 + 1 : Nat) : Int)) c (33554432 + (s.2.2.2 : Int) * 65536 + (rdn T p 97).1, s.2.1, s.2.2.1, x3) := (hC7 c5).r3 hc
                  rw [← hcd] at F8 hC8
                  have hP8 : PRx (stI M7 3 5 ((x2 + 1 : Nat) : Int)) P zs := hP.cl hP0 hn F8 ⟨_, hC8⟩
                  obtain ⟨M9, d1, d2, d3⟩ := Pr_keepSpare_s hG8 hP8.1 hn hC8
                  have f9 : Fj (fun a k => a = P) _ M9 := d3.fj fun a k q => q
                  rw [if_pos h59, xpc_p h59, ob_o, cI_s, if_neg (show ¬ (1 : Int) = 0 by decide), hP8.1.g hG8, gd_t, d1, cV_s]
                  refine ⟨M9, rfl, ⟨hR8.fj f9 (by omega) (by omega) (by omega), d2, fun i hi => ?_⟩, (F8.mono fun a k q => by unfold clS rS at q; unfold pgS rS pS; omega).trans (f9.mono fun a k q => by unfold pgS pS; omega)⟩
                  obtain ⟨z, hz⟩ := hP8.2 i hi
                  exact ⟨z, hz.fj f9 fun a k q => by unfold cS at q; omega⟩
                · rw [if_neg h59, xpc_n h59, ob_e, cI_s, if_pos rfl]
                  exact h0 (F7.trans (Fj.ofI (by unfold clS rS; omega))) ⟨_, (hC7 c5).r3 hc⟩ mI_at
          · rw [if_neg h61, cI_s, if_pos rfl, xpc_n h61, ob_e]
            exact h0 (F5.trans (Fj.ofI (by unfold clS rS; omega))) ⟨_, hC5.r3 hc⟩ mI_at
      · rw [if_neg h40, cI_s, if_pos rfl, xpc_n h40, ob_e]
        exact h0 (F2.trans (Fj.ofI (by unfold clS rS; omega))) ⟨_, hC2.r3 hc⟩ mI_at
    · rw [if_neg hf, if_pos rfl, hG1.gR, gd_t, gd_t, hR1.2.1]
      refine hf3 hG1 ?_ (F1.mono hsub) (if_neg fun q => hf q.2)
      rw [← hcd] at F1 a2
      exact hP.cl hP0 hn F1 ⟨_, a2⟩
  · have hl : zs.length = 40 := by have := hP.1.1.2.2; omega
    rw [Pr_spareClause_full hG hP.1 hl, cR_s, if_pos rfl, hG.gR, gd_t, gd_t, hR.2.1]
    exact hf3 hG hP Fj.refl (if_neg fun q => hn q.1)
theorem Re_readProgram_loop (hP0 : 6 < P) : ∀ (n p : Nat) (zs : List Clz) (M : Mem), Good M → RSc M T p → PRx M P zs → okP zs → zs.length + n = 41 → ∃ M', Re_readProgram_11 3 P (zs.length : Int) M = some (some (.inl (oki (rpg T n zs p))), M') ∧ (match rpg T n zs p with
    | .error e => mI M' 3 7 = (e : Int) ∧ ∃ ws, PRx M' P ws
    | .ok ws => PRx M' P ws ∧ okP ws) ∧ Fj (pgS P) M M' := by
  intro n
  induction n with
  | zero =>
    intro p zs M hG hR hP hok hn
    have := hP.1.1.2.2
    omega
  | succ n ih =>
    intro p zs M hG hR hP hok hn
    have hl := hP.1.1.2.2
    obtain ⟨M1, a1, a2, a3⟩ := Re_readClause_s hG hR hP0 hP hok
    have hG1 := hG.fj a3
    unfold rpg
    rw [Re_readProgram_11_eq, if_neg (by omega), hG.gR, gd_t, gd_t, hR.2.1, hR.1.1]
    by_cases h1 : p < T.length
    · rw [if_pos h1, if_pos (by omega), gd_t, a1, cI_s]
      cases hx : rcl T zs p with
      | error e =>
        rw [hx] at a2
        rw [if_pos (oki_er e), ob_e]
        exact ⟨M1, rfl, ⟨a2.1, _, a2.2⟩, a3⟩
      | ok r =>
        rw [hx] at a2
        obtain ⟨a4, a5⟩ : RSc M1 T r.1 ∧ PRx M1 P (zs ++ [r.2]) := a2
        have e1 : (zs.length : Int) + 1 = ((zs ++ [r.2]).length : Int) := by rw [List.length_append]; rfl
        obtain ⟨M2, b1, b2, b3⟩ := ih r.1 (zs ++ [r.2]) M1 hG1 a4 a5 (okP_app hok (rcl_ctr hx)) (by rw [List.length_append, List.length_singleton]; omega)
        rw [if_neg (oki_ok r), ob_o, wr_id (x := (zs.length : Int) + 1) (by omega) (by omega), e1]
        exact ⟨M2, b1, b2, a3.trans b3⟩
    · rw [if_neg h1, if_neg (by omega)]
      exact ⟨M, rfl, ⟨hP, hok⟩, Fj.refl⟩
theorem Re_readProgram_s (hG : Good M) (hT : TPc M T) (hP0 : 6 < P) (hP : PRx M P zs) : ∃ M', Re_readProgram 3 P M = some (some (.inl (oki (rpg T 41 [] 0))), M') ∧ (match rpg T 41 [] 0 with
    | .error e => mI M' 3 7 = (e : Int) ∧ ∃ ws, PRx M' P ws
    | .ok ws => PRx M' P ws ∧ okP ws) ∧ Fj (pgS P) M M' := by
  have f1 : Fj (fun a k => a = 3 ∧ k = 5) M (stI M 3 5 0) := Fj.ofI ⟨rfl, rfl⟩
  have hG1 := hG.fj f1
  have hP1 : PRx (stI M 3 5 0) P zs := hP.fj f1 fun a k q => by unfold pS at q; omega
  obtain ⟨M2, a1, a2, a3⟩ := Pr_clear_s hG1 hP1.1
  have f2 : Fj (fun a k => a = P) (stI M 3 5 0) M2 := a3.fj fun a k q => q
  have hP2 : PRx M2 P [] := ⟨a2, fun i hi => by
    obtain ⟨z, hz⟩ := hP1.2 i hi
    exact ⟨z, hz.fj f2 fun a k q => by unfold cS at q; omega⟩⟩
  have hR2 : RSc M2 T 0 := ⟨(hT.fj f1 (by omega) (by omega)).fj f2 (by omega) (by omega), (f2.2.2 _ _ (by omega)).trans mI_at, Nat.zero_le _⟩
  obtain ⟨M3, b1, b2, b3⟩ := Re_readProgram_loop hP0 41 0 [] M2 (hG1.fj f2) hR2 hP2 (fun i j y z _ hy => by simp at hy) rfl
  rw [Re_readProgram_eq, hG.gR, gd_t, hP.1.g hG, gd_t, a1, cV_s]
  exact ⟨M3, b1, b2, ((f1.mono fun a k q => by unfold pgS rS; omega).trans (f2.mono fun a k q => by unfold pgS pS; omega)).trans b3⟩
end CLREAD

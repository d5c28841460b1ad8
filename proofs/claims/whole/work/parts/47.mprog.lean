/-! ===== the reference reads a program ===== -/
section MPROG
variable {M : Mem} {T : List Int} {p : Nat} {zs : List Clz}
def RCm (M' : Mem) (T : List Int) (zs : List Clz) (x : Except Nat (Nat × Clz)) : Prop := match x with
  | .error e => mI M' 1269 3 = (e : Int)
  | .ok r => RSm M' T r.1 ∧ NPm M' (zs ++ [r.2]) ∧ mI M' 1269 3 = -1
theorem NPm.fj {M1 : Mem} {S : Nat → Nat → Prop} (h : NPm M zs) (f : Fj S M M1) (h0 : ¬ S 1269 28) (h1 : ∀ a k, 1282 ≤ a ∧ a ≤ 1287 → ¬ S a k) : NPm M1 zs := ⟨⟨(f.2.2 _ _ h0).trans h.1.1, h.1.2⟩, h.2.1.fj f fun a k q => h1 a k q, h.2.2⟩
theorem M_readClause_s (hG : Good M) (hR : RSm M T p) (hN : NPm M zs) (hf : mI M 1269 3 = -1) (hco : mI M 1269 10 = 0) : ∃ M', M_readClause 1269 M = some (some (.inl (oki (rcl T zs p))), M') ∧ RCm M' T zs (rcl T zs p) ∧ Fj mcS M M' := by
  have hT := hR.1.2.1
  have hlen := hN.1.2
  unfold rcl
  rw [M_readClause_eq, hG.gM, gd_t, gd_t, hN.1.1]
  by_cases hn : zs.length < 40
  · rw [if_neg (by omega), gd_t, M_here_s hG hR, cI_s, M_isFunctionLetter_s, cI_s]
    by_cases hfl : isF (pek T p)
    · have hlt := pek_F hfl
      have hf2 : 97 ≤ pek T p ∧ pek T p ≤ 108 := hfl
      obtain ⟨r1, r2⟩ := rdn_rng (T := T) (p := p) (f := 97) (k := 11) (by omega)
      obtain ⟨q1, q2⟩ := rdn_le (f := 97) hlt
      have f1 : Fj (fun a k => a = 1269 ∧ (k = 2 ∨ k = 19)) M (stI (stI M 1269 2 ((rdn T p 97).2 : Int)) 1269 19 0) := (Fj.ofI (by omega)).trans (Fj.ofI (by omega))
      have F1 : Fj mcS M (stI (stI M 1269 2 ((rdn T p 97).2 : Int)) 1269 19 0) := f1.mono fun a k q => by unfold mcS; omega
      have hG0 : Good (stI M 1269 2 ((rdn T p 97).2 : Int)) := hG.fj (Fj.ofI (S := fun _ _ => True) trivial)
      have hR1 : RSm (stI (stI M 1269 2 ((rdn T p 97).2 : Int)) 1269 19 0) T (rdn T p 97).2 := (hR.at q2).f1 (by omega)
      have hG1 := hG.fj f1
      have hV1 : LVm (stI (stI M 1269 2 ((rdn T p 97).2 : Int)) 1269 19 0) [] := ⟨mI_at, Nat.zero_le _, fun i hi => absurd hi (Nat.not_lt_zero i), fun v hv => by cases hv⟩
      rw [if_pos hfl, if_neg (by decide), if_pos ⟨hn, hfl⟩, hG.gM, gd_t, M_readName_s hG hR hlt, cI_s, hG0.gM, gd_t, gd_t]
      generalize stI (stI M 1269 2 ((rdn T p 97).2 : Int)) 1269 19 0 = M1 at *
      rw [M_takes_s hG1 hR1 40 (by decide)]
      by_cases h40 : pek T (rdn T p 97).2 = 40
      · have hlt2 := pek_lt (T := T) (p := (rdn T p 97).2) (by omega)
        have f2 : Fj (fun a k => a = 1269 ∧ k = 2) M1 (stI M1 1269 2 (((rdn T p 97).2 + 1 : Nat) : Int)) := Fj.ofI (by omega)
        have hG2 := hG1.fj f2
        obtain ⟨M3, a1, a2, a3⟩ := M_readPatterns_s hG2 (hR1.at (q := (rdn T p 97).2 + 1) hlt2) (hV1.fj f2 (by omega) (by omega))
        have hG3 := hG2.fj a3
        have F3 : Fj mcS M M3 := (F1.trans (f2.mono fun a k q => by unfold mcS; omega)).trans (a3.mono fun a k q => by unfold ptS at q; unfold mcS; omega)
        rw [if_pos h40, cI_s, if_neg (show ¬ (1 : Int) = 0 by decide), hG2.gM, gd_t, a1, cI_s, xpc_p h40, ob_o, pat_mpt]
        cases hx : mpt T ((rdn T p 97).2 + 1) with
        | error e =>
          rw [hx] at a2
          rw [if_pos (oki_er e), ob_e, ob_e]
          exact ⟨M3, rfl, a2, F3⟩
        | ok s =>
          rw [hx] at a2
          obtain ⟨⟨a4, a5⟩, ⟨a6, a7⟩, a8⟩ : (RSm M3 T s.1 ∧ LVm M3 s.2.2.1) ∧ (mI M3 1269 20 = cc s.2.1 ∧ mI M3 1269 21 = (s.2.2.2 : Int)) ∧ mI M3 1269 3 = mI (stI M1 1269 2 (((rdn T p 97).2 + 1 : Nat) : Int)) 1269 3 := a2
          rw [mI_ne (by omega), f1.2.2 _ _ (by omega), hf] at a8
          rw [if_neg (oki_ok s), ob_o, hG3.gM, gd_t, M_takes_s hG3 a4 41 (by decide)]
          by_cases h41 : pek T s.1 = 41
          · have hpat : pat T ((rdn T p 97).2 + 1) = .ok (s.1 + 1, s.2.1, s.2.2.1, s.2.2.2) := by rw [pat_mpt, hx, ob_o, xpc_p h41]; rfl
            obtain ⟨u1, u2, u3, u4, u5, u6⟩ := pat_ok hpat
            have u5 : s.2.2.2 ≤ 8 := u5
            have hlt3 := pek_lt (T := T) (p := s.1) (by omega)
            have f4 : Fj (fun a k => a = 1269 ∧ k = 2) M3 (stI M3 1269 2 ((s.1 + 1 : Nat) : Int)) := Fj.ofI (by omega)
            have hG4 := hG3.fj f4
            have hR4 := a4.at (q := s.1 + 1) hlt3
            have F4 := F3.trans (f4.mono (T := mcS) fun a k q => by unfold mcS; omega)
            have h20 : mI (stI M3 1269 2 ((s.1 + 1 : Nat) : Int)) 1269 20 = cc s.2.1 := by rw [mI_ne (by omega)]; exact a6
            have h21 : mI (stI M3 1269 2 ((s.1 + 1 : Nat) : Int)) 1269 21 = (s.2.2.2 : Int) := by rw [mI_ne (by omega)]; exact a7
            have hV4 : LVm (stI M3 1269 2 ((s.1 + 1 : Nat) : Int)) s.2.2.1 := a5.fj f4 (by omega) (by omega)
            have h3 : mI (stI M3 1269 2 ((s.1 + 1 : Nat) : Int)) 1269 3 = -1 := by rw [mI_ne (by omega)]; exact a8
            rw [if_pos h41, cI_s, if_neg (show ¬ (1 : Int) = 0 by decide), xpc_p h41, ob_o, ob_o, hG4.gM, gd_t]
            show ∃ M', (cI (M_here 1269 (stI M3 1269 2 ((s.1 + 1 : Nat) : Int))) _) = some (some (.inl (oki (ob (xpc T (s.1 + 1) 61) _))), M') ∧ RCm M' T zs (ob (xpc T (s.1 + 1) 61) _) ∧ _
            generalize stI M3 1269 2 ((s.1 + 1 : Nat) : Int) = M4 at *
            have hN4 : NPm M4 zs := by
              have g3 : Fj (fun a k => a = 1281 ∨ (a = 1269 ∧ k ≠ 28)) M M4 := (((f1.mono fun a k q => by omega).trans (f2.mono fun a k q => by omega)).trans (a3.mono fun a k q => by unfold ptS at q; omega)).trans (f4.mono fun a k q => by omega)
              exact hN.fj g3 (by omega) (by omega)
            rw [M_here_s hG4 hR4, cI_s]
            by_cases h61 : pek T (s.1 + 1) = 61
            · have hlt4 := pek_lt (T := T) (p := s.1 + 1) (by omega)
              obtain ⟨e1, e2, e3⟩ := vc_mk (k := 2) (a := (s.2.2.2 : Int)) (s := (rdn T p 97).1) (Or.inr (by omega)) (by omega) (by omega)
              rw [if_neg (show ¬ (2 : Int) = 1 by decide), show (2 : Int) * 16777216 = 33554432 from rfl] at e3
              rw [show (2 : Int) * 16777216 = 33554432 from rfl] at e1 e2
              rw [if_pos h61, xpc_p h61, ob_o, hG4.gM, gd_t, h21, M_thing_s (by omega) (by omega) (by omega), cI_s, hG4.gM, gd_t, ← e3, M_isFree_s hG4 hN4 e1 (pat_ok2 hpat).1 h20, cI_s]
              by_cases hct : ctr zs (33554432 + (s.2.2.2 : Int) * 65536 + (rdn T p 97).1) s.2.1 = true
              · rw [if_pos hct, if_pos hct, if_pos rfl, hG4.gM, gd_t, M_fails_s hG4, cI_s, hR.2.1]
                exact ⟨_, rfl, mI_at, F4.trans (Fj.ofI (by unfold mcS; omega))⟩
              · have f5 : Fj (fun a k => a = 1269 ∧ (k = 2 ∨ k = 9)) M4 (stI (stI M4 1269 2 ((s.1 + 1 + 1 : Nat) : Int)) 1269 9 1) := (Fj.ofI (by omega)).trans (Fj.ofI (by omega))
                have hG5 := hG4.fj f5
                have F5 := F4.trans (f5.mono (T := mcS) fun a k q => by unfold mcS; omega)
                have hR5 : RSm (stI (stI M4 1269 2 ((s.1 + 1 + 1 : Nat) : Int)) 1269 9 1) T (s.1 + 1 + 1) := (hR4.at (q := s.1 + 1 + 1) hlt4).f1 (by omega)
                have h10 : mI (stI (stI M4 1269 2 ((s.1 + 1 + 1 : Nat) : Int)) 1269 9 1) 1269 10 = 0 := by rw [F5.2.2 _ _ (by unfold mcS; omega)]; exact hco
                have hV5 := hV4.fj f5 (by omega) (by omega)
                obtain ⟨M6, b1, b2, b3⟩ := M_readExpression_s hG5 (left := some s.2.2.1) (cons := false) ⟨⟨mI_at, hV5⟩, h10⟩ hR5 ((f5.2.2 _ _ (by omega)).trans h3)
                have hG6 := hG5.fj b3
                have F6 := F5.trans (b3.mono (T := mcS) fun a k q => by unfold mrS at q; unfold mcS; omega)
                rw [if_neg hct, if_neg hct, if_neg (show ¬ (1 : Int) = 0 by decide), hG4.gM, gd_t, gd_t, gd_t, gd_t, hR4.2.1, wr_s (by omega), b1, cI_s]
                have hX : rxo T (some s.2.2.1) false (s.1 + 1 + 1) = (if (rex T (some s.2.2.1) false 41 (s.1 + 1 + 1) [] []).1 = true then .ok (rex T (some s.2.2.1) false 41 (s.1 + 1 + 1) [] []).2 else .error (rex T (some s.2.2.1) false 41 (s.1 + 1 + 1) [] []).2.1) := rfl
                rw [hX]
                generalize rex T (some s.2.2.1) false 41 (s.1 + 1 + 1) [] [] = X at *
                obtain ⟨x1, x2, x3⟩ := X
                cases x1 with
                | false =>
                  rw [if_neg (show ¬ (false, x2, x3).1 = true from fun q => by cases q), if_neg (show ¬ (false, x2, x3).1 = true from fun q => by cases q), if_pos (show (0 : Int) = 0 from rfl), ob_e]
                  exact ⟨M6, rfl, b2, F6⟩
                | true =>
                  obtain ⟨c1, ⟨c2, c3, -⟩, c4⟩ : RSm M6 T x2 ∧ (mI M6 1269 7 = (x3.length : Int) ∧ RM M6 1273 0 x3 ∧ x3.length ≤ 41) ∧ mI M6 1269 3 = -1 := b2
                  rw [if_pos (show (true, x2, x3).1 = true from rfl), if_pos (show (true, x2, x3).1 = true from rfl), if_neg (show ¬ (1 : Int) = 0 by decide), ob_o, hG6.gM, gd_t, M_takes_s hG6 c1 59 (by decide)]
                  show ∃ M', (cI (if pek T x2 = 59 then _ else _) _) = some (some (.inl (oki (ob (xpc T x2 59) _))), M') ∧ RCm M' T zs (ob (xpc T x2 59) _) ∧ _
                  by_cases h59 : pek T x2 = 59
                  · have hlt6 := pek_lt (T := T) (p := x2) (by omega)
                    have hR7 := c1.at (q := x2 + 1) hlt6
                    have f7 : Fj (fun a k => a = 1269 ∧ k = 2) M6 (stI M6 1269 2 ((x2 + 1 : Nat) : Int)) := Fj.ofI (by omega)
                    have hG7 := hG6.fj f7
                    have F7 := F6.trans (f7.mono (T := mcS) fun a k q => by unfold mcS; omega)
                    have g7 : Fj (fun a k => (1271 ≤ a ∧ a ≤ 1273) ∨ (a = 1269 ∧ (k = 2 ∨ k = 3 ∨ k = 7 ∨ k = 8 ∨ k = 9))) M4 (stI M6 1269 2 ((x2 + 1 : Nat) : Int)) := ((f5.mono fun a k q => by omega).trans (b3.mono fun a k q => by unfold mrS at q; omega)).trans (f7.mono fun a k q => by omega)
                    have hN7 := hN4.fj g7 (by omega) (by omega)
                    have hV7 := hV4.fj g7 (by omega) (by omega)
                    have h7x : mI (stI M6 1269 2 ((x2 + 1 : Nat) : Int)) 1269 7 = (x3.length : Int) := by rw [mI_ne (by omega)]; exact c2
                    have hX7 : RM (stI M6 1269 2 ((x2 + 1 : Nat) : Int)) 1273 0 x3 := fun j hj => by rw [mI_ne (by omega)]; exact c3 j hj
                    have h20' : mI (stI M6 1269 2 ((x2 + 1 : Nat) : Int)) 1269 20 = cc s.2.1 := (g7.2.2 _ _ (by omega)).trans h20
                    have h3' : mI (stI M6 1269 2 ((x2 + 1 : Nat) : Int)) 1269 3 = -1 := by rw [mI_ne (by omega)]; exact c4
                    have hzk : zok 40 (33554432 + (s.2.2.2 : Int) * 65536 + (rdn T p 97).1, s.2.1, s.2.2.1, x3) := by
                      have hr : rcl T zs p = .ok (x2 + 1, (33554432 + (s.2.2.2 : Int) * 65536 + (rdn T p 97).1, s.2.1, s.2.2.1, x3)) := by
                        unfold rcl
                        rw [if_pos ⟨hn, hfl⟩, xpc_p h40, ob_o, hpat, ob_o, xpc_p h61, ob_o, if_neg hct]
                        rw [hX, if_pos rfl, ob_o, xpc_p h59, ob_o]
                      exact (rcl_ok hr).1
                    rw [if_pos h59, xpc_p h59, ob_o, cI_s, if_neg (show ¬ (1 : Int) = 0 by decide)]
                    generalize stI M6 1269 2 ((x2 + 1 : Nat) : Int) = M7 at *
                    obtain ⟨M8, M9, d1, d2, d3, d4, d5, d6, d7⟩ := M_keep_s hG7 hN7 hn hzk h20' hV7 ⟨h7x, hX7⟩
                    have d1 : M_copy 1281 0 (s.2.2.1.length : Int) 1285 ((12 * zs.length : Nat) : Int) (stI (stI (stI M7 1282 zs.length (cm (33554432 + (s.2.2.2 : Int) * 65536 + (rdn T p 97).1))) 1283 zs.length (cc s.2.1)) 1284 zs.length (s.2.2.1.length : Int)) = some (none, M8) := d1
                    have d3 : mI M8 1269 7 = (x3.length : Int) := d3
                    have d4 : M_copy 1273 0 (x3.length : Int) 1287 ((40 * zs.length : Nat) : Int) (stI M8 1286 zs.length (x3.length : Int)) = some (none, M9) := d4
                    have hG9 : Good M9 := by
                      have hz9 : Good (stI M9 1269 28 ((zs.length + 1 : Nat) : Int)) := hG7.fj d7
                      exact hz9.fj (M1 := M9) (S := fun a k => a = 1269 ∧ k = 28) ⟨⟨rfl, rfl⟩, fun _ _ => rfl, fun b j hb => (if_neg (fun (q : b = 1269 ∧ j = 28) => hb q)).symm⟩
                    have e20 : mI (stI M7 1282 zs.length (cm (33554432 + (s.2.2.2 : Int) * 65536 + (rdn T p 97).1))) 1269 20 = cc s.2.1 := by rw [mI_ne (by omega)]; exact h20'
                    have e19 : mI (stI (stI M7 1282 zs.length (cm (33554432 + (s.2.2.2 : Int) * 65536 + (rdn T p 97).1))) 1283 zs.length (cc s.2.1)) 1269 19 = (s.2.2.1.length : Int) := by rw [mI_ne (by omega), mI_ne (by omega)]; exact hV7.1
                    have e19' : mI (stI (stI (stI M7 1282 zs.length (cm (33554432 + (s.2.2.2 : Int) * 65536 + (rdn T p 97).1))) 1283 zs.length (cc s.2.1)) 1284 zs.length (s.2.2.1.length : Int)) 1269 19 = (s.2.2.1.length : Int) := by rw [mI_ne (by omega)]; exact e19
                    have e7 : mI (stI M8 1286 zs.length (x3.length : Int)) 1269 7 = (x3.length : Int) := by rw [mI_ne (by omega)]; exact d3
                    rw [hG7.gM, gd_t, gd_t, hN7.1.1, hG7.m22, hG7.tgS arr_1282 (by omega) (by omega), gd_t, gd_t, gd_t, hG7.m23, hG7.tgS arr_1283 (by omega) (by omega), gd_t, gd_t, gd_t, hG7.m24, hG7.tgS arr_1284 (by omega) (by omega), gd_t, gd_t, gd_t, gd_t, toNat_n, e20, e19, e19', hG7.m18, hG7.m25, wr_id (x := 12 * (zs.length : Int)) (by omega) (by omega), show 12 * (zs.length : Int) = ((12 * zs.length : Nat) : Int) by omega, d1, cV_s, d2.gM, gd_t, gd_t, d2.m26, d2.tgS arr_1286 (by omega) (by omega), gd_t, gd_t, gd_t, gd_t, d3, e7, d2.m6, d2.m27, wr_id (x := 40 * (zs.length : Int)) (by omega) (by omega), show 40 * (zs.length : Int) = ((40 * zs.length : Nat) : Int) by omega, d4, cV_s, hG9.gM, gd_t, gd_t, d5, wr_s (by omega)]
                    exact ⟨_, rfl, ⟨hR7.fj d7 (by omega) (by omega) (by omega), d6, (d7.2.2 _ _ (by omega)).trans h3'⟩, F7.trans (d7.mono fun a k q => by unfold mcS; omega)⟩
                  · rw [if_neg h59, xpc_n h59, ob_e, cI_s, if_pos rfl]
                    exact ⟨_, rfl, mI_at, F6.trans (Fj.ofI (by unfold mcS; omega))⟩
            · rw [if_neg h61, xpc_n h61, ob_e, hG4.gM, gd_t, gd_t, M_fails_s hG4, cI_s, hR4.2.1]
              exact ⟨_, rfl, mI_at, F4.trans (Fj.ofI (by unfold mcS; omega))⟩
          · rw [if_neg h41, cI_s, if_pos rfl, xpc_n h41, ob_e, ob_e]
            exact ⟨_, rfl, mI_at, F3.trans (Fj.ofI (by unfold mcS; omega))⟩
      · rw [if_neg h40, cI_s, if_pos rfl, xpc_n h40, ob_e]
        exact ⟨_, rfl, mI_at, F1.trans (Fj.ofI (by unfold mcS; omega))⟩
    · rw [if_neg hfl, if_pos rfl, if_neg (fun q => hfl q.2), hG.gM, gd_t, M_fails_s hG, cI_s, hR.2.1]
      exact ⟨_, rfl, mI_at, Fj.ofI (by unfold mcS; omega)⟩
  · rw [if_pos (by omega), if_neg (fun q => hn q.1), gd_t, M_fails_s hG, cI_s, hR.2.1]
    exact ⟨_, rfl, mI_at, Fj.ofI (by unfold mcS; omega)⟩
theorem M_readProgram_loop : ∀ (n p : Nat) (zs : List Clz) (M : Mem), Good M → RSm M T p → NPm M zs → mI M 1269 3 = -1 → mI M 1269 10 = 0 → zs.length + n = 41 → ∃ M', M_readProgram_10 1269 M = some (some (.inl (oki (rpg T n zs p))), M') ∧ (match rpg T n zs p with
    | .error e => mI M' 1269 3 = (e : Int)
    | .ok ws => NPm M' ws ∧ mI M' 1269 3 = -1) ∧ Fj mcS M M' := by
  intro n
  induction n with
  | zero =>
    intro p zs M hG hR hN hf hc hn
    have := hN.1.2
    omega
  | succ n ih =>
    intro p zs M hG hR hN hf hc hn
    obtain ⟨M1, a1, a2, a3⟩ := M_readClause_s hG hR hN hf hc
    have hG1 := hG.fj a3
    unfold rpg
    rw [M_readProgram_10_eq, hG.gM, gd_t, gd_t, hR.2.1, hR.1.1]
    by_cases h1 : p < T.length
    · rw [if_pos h1, if_pos (by omega), gd_t, a1, cI_s]
      cases hx : rcl T zs p with
      | error e =>
        rw [hx] at a2
        rw [if_pos (oki_er e), ob_e]
        exact ⟨M1, rfl, a2, a3⟩
      | ok r =>
        rw [hx] at a2
        obtain ⟨a4, a5, a6⟩ : RSm M1 T r.1 ∧ NPm M1 (zs ++ [r.2]) ∧ mI M1 1269 3 = -1 := a2
        obtain ⟨M2, b1, b2, b3⟩ := ih r.1 (zs ++ [r.2]) M1 hG1 a4 a5 a6 ((a3.2.2 _ _ (by unfold mcS; omega)).trans hc) (by rw [List.length_append, List.length_singleton]; omega)
        rw [if_neg (oki_ok r), ob_o]
        exact ⟨M2, b1, b2, a3.trans b3⟩
    · rw [if_neg h1, if_neg (by omega)]
      exact ⟨M, rfl, ⟨hN, hf⟩, Fj.refl⟩
def mbS : Nat → Nat → Prop := fun a k => mcS a k ∨ (a = 1269 ∧ k = 10)
theorem M_beginText_s (hG : Good M) {b : Int} (hb : b = 0 ∨ b = 1) (hT : TPm M T) : ∃ M', M_beginText 1269 b M = some (none, M') ∧ RSm M' T 0 ∧ (mI M' 1269 3 = -1 ∧ mI M' 1269 9 = 0 ∧ mI M' 1269 10 = b) ∧ Fj (fun a k => a = 1269 ∧ (k = 2 ∨ k = 3 ∨ k = 9 ∨ k = 10)) M M' := by
  have f : Fj (fun a k => a = 1269 ∧ (k = 2 ∨ k = 3 ∨ k = 9 ∨ k = 10)) M (stI (stI (stI (stI M 1269 2 0) 1269 3 (-1)) 1269 9 0) 1269 10 b) := (((Fj.ofI (by omega)).trans (Fj.ofI (by omega))).trans (Fj.ofI (by omega))).trans (Fj.ofI (by omega))
  refine ⟨_, ?_, ⟨hT.fj f (by omega) (by omega), ?_, Nat.zero_le _⟩, ⟨?_, ?_, mI_at⟩, f⟩
  · rw [M_beginText_eq, hG.gM, gd_t, gd_t, gd_t, gd_t, decide_eq_true hb, gd_t]
  · rw [mI_ne (by omega), mI_ne (by omega), mI_ne (by omega), mI_at]; rfl
  · rw [mI_ne (by omega), mI_ne (by omega), mI_at]
  · rw [mI_ne (by omega), mI_at]
theorem M_readProgram_s (hG : Good M) (hT : TPm M T) : ∃ M', M_readProgram 1269 M = some (some (.inl (oki (rpg T 41 [] 0))), M') ∧ (match rpg T 41 [] 0 with
    | .error e => mI M' 1269 3 = (e : Int)
    | .ok ws => NPm M' ws ∧ mI M' 1269 3 = -1) ∧ Fj mbS M M' := by
  obtain ⟨M1, a1, a2, ⟨a3, a4, a5⟩, a6⟩ := M_beginText_s hG (Or.inl rfl) hT
  have hG1 := hG.fj a6
  have f2 : Fj (fun a k => a = 1269 ∧ k = 28) M1 (stI M1 1269 28 0) := Fj.ofI ⟨rfl, rfl⟩
  obtain ⟨M2, b1, b2, b3⟩ := M_readProgram_loop 41 0 [] (stI M1 1269 28 0) (hG1.fj f2) (a2.f1 (by omega)) ⟨⟨mI_at, Nat.zero_le _⟩, fun i z hz => by simp at hz, fun z hz => by cases hz⟩ (by rw [mI_ne (by omega)]; exact a3) (by rw [mI_ne (by omega)]; exact a5) rfl
  rw [M_readProgram_eq, hG.gM, gd_t, a1, cV_s, hG1.gM, gd_t]
  exact ⟨M2, b1, b2, ((a6.mono fun a k q => by unfold mbS mcS; omega).trans (f2.mono fun a k q => by unfold mbS mcS; omega)).trans (b3.mono fun a k q => Or.inl q)⟩
theorem M_readWhole_s (hG : Good M) (hT : TPm M T) : ∃ M', M_readWhole 1269 M = some (some (.inl (oki (whl T))), M') ∧ (match whl T with
    | .error e => mI M' 1269 3 = (e : Int)
    | .ok xs => (mI M' 1269 7 = (xs.length : Int) ∧ RM M' 1273 0 xs) ∧ mI M' 1269 3 = -1) ∧ Fj mbS M M' := by
  obtain ⟨M1, a1, a2, ⟨a3, a4, a5⟩, a6⟩ := M_beginText_s hG (Or.inl rfl) hT
  have hG1 := hG.fj a6
  obtain ⟨M2, b1, b2, b3⟩ := M_readExpression_s hG1 (left := none) (cons := false) ⟨a4, a5⟩ a2 a3
  have hG2 := hG1.fj b3
  have F2 : Fj mbS M M2 := (a6.mono fun a k q => by unfold mbS mcS; omega).trans (b3.mono fun a k q => by unfold mrS at q; unfold mbS mcS; omega)
  unfold whl rxo
  rw [M_readWhole_eq, hG.gM, gd_t, a1, cV_s, hG1.gM, gd_t, b1, cI_s]
  generalize rex T none false 41 0 [] [] = X at *
  obtain ⟨x1, x2, x3⟩ := X
  cases x1 with
  | false =>
    rw [if_neg (show ¬ (false, x2, x3).1 = true from fun q => by cases q), if_neg (show ¬ (false, x2, x3).1 = true from fun q => by cases q), if_pos (show (0 : Int) = 0 from rfl), ob_e]
    exact ⟨M2, rfl, b2, F2⟩
  | true =>
    obtain ⟨c1, ⟨c2, c3, -⟩, c4⟩ : RSm M2 T x2 ∧ (mI M2 1269 7 = (x3.length : Int) ∧ RM M2 1273 0 x3 ∧ x3.length ≤ 41) ∧ mI M2 1269 3 = -1 := b2
    rw [if_pos (show (true, x2, x3).1 = true from rfl), if_pos (show (true, x2, x3).1 = true from rfl), if_neg (show ¬ (1 : Int) = 0 by decide), ob_o, hG2.gM, gd_t, gd_t, c1.2.1, c1.1.1]
    by_cases h1 : x2 = T.length
    · rw [if_pos (by omega), if_pos h1]
      exact ⟨M2, rfl, ⟨⟨c2, c3⟩, c4⟩, F2⟩
    · rw [if_neg (by omega), if_neg h1, gd_t, gd_t, M_fails_s hG2, cI_s, if_pos rfl]
      exact ⟨_, rfl, mI_at, F2.trans (Fj.ofI (by unfold mbS mcS; omega))⟩
end MPROG

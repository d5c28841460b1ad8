/-! ===== the reference's things and rounds ===== -/
/-- a thing's cell, and the place behind its name -/
noncomputable def tg0 (T : List Int) (left : Option (List Int)) (cons : Bool) (p : Nat) : Option (Int × Nat) :=
  haveI := Classical.propDecidable
  if cons = false ∧ isV (pek T p) then (if ∀ vs, left = some vs → (rdn T p 109).1 ∈ vs then some ((rdn T p 109).1, (rdn T p 109).2) else none)
  else if cons = false ∧ isF (pek T p) then some (33554432 + (rdn T p 97).1, (rdn T p 97).2)
  else if cons = false ∧ pek T p = 33 then some (50331648, p + 1)
  else if isK (pek T p) then some (16777216 + (pek T p - 65), p + 1)
  else none
noncomputable def tg1 (T : List Int) (c : Int) (pa : Nat) (xs : List Int) : Nat × Nat × List Int :=
  haveI := Classical.propDecidable
  if kd c = 2 then (if pek T pa = 40 then (if pek T (pa + 1) = 41 then (2, pa + 2, xs ++ [c]) else (1, pa + 1, xs ++ [c])) else (0, pa, xs ++ [c]))
  else if kd c = 1 ∧ pek T pa = 40 then (1, pa + 1, xs ++ [c]) else (2, pa, xs ++ [c])
theorem tg0_ok {T : List Int} {left : Option (List Int)} {cons : Bool} {p : Nat} (hp : p ≤ T.length) : (tg0 T left cons p = none ∧ ∀ xs, thg T left cons p xs = (0, p, xs)) ∨ ∃ c pa, tg0 T left cons p = some (c, pa) ∧ (p < pa ∧ pa ≤ T.length) ∧ (vc c ∧ arN c = 0) ∧ ∀ xs, thg T left cons p xs = tg1 T c pa xs := by
  unfold tg0 thg
  by_cases h1 : cons = false ∧ isV (pek T p)
  · rw [if_pos h1]
    have hlt := pek_V h1.2
    have h2 : 109 ≤ pek T p ∧ pek T p ≤ 122 := h1.2
    obtain ⟨r1, r2⟩ := rdn_rng (T := T) (p := p) (f := 109) (k := 13) (by omega)
    obtain ⟨q1, q2⟩ := rdn_le (f := 109) hlt
    obtain ⟨k1, k2, k3⟩ := kd_var (c := (rdn T p 109).1) (by omega)
    by_cases hm : ∀ vs, left = some vs → (rdn T p 109).1 ∈ vs
    · rw [if_pos hm]
      refine Or.inr ⟨_, _, rfl, ⟨q1, q2⟩, ⟨vc_var (by omega), by unfold arN; rw [k2]; rfl⟩, fun xs => ?_⟩
      rw [if_pos h1, if_pos hm]
      unfold tg1
      rw [k1, if_neg (by decide), if_neg (by omega)]
    · rw [if_neg hm]
      exact Or.inl ⟨rfl, fun xs => by rw [if_pos h1, if_neg hm]⟩
  · rw [if_neg h1]
    by_cases h2 : cons = false ∧ isF (pek T p)
    · rw [if_pos h2]
      have hlt := pek_F h2.2
      have h3 : 97 ≤ pek T p ∧ pek T p ≤ 108 := h2.2
      obtain ⟨r1, r2⟩ := rdn_rng (T := T) (p := p) (f := 97) (k := 11) (by omega)
      obtain ⟨q1, q2⟩ := rdn_le (f := 97) hlt
      obtain ⟨k1, k2, k3⟩ := kd_mk (k := 2) (a := 0) (s := (rdn T p 97).1) (by omega) (by omega) (by omega)
      rw [show (2 : Int) * 16777216 + 0 * 65536 + (rdn T p 97).1 = 33554432 + (rdn T p 97).1 by omega] at k1 k2 k3
      refine Or.inr ⟨_, _, rfl, ⟨q1, q2⟩, ⟨by unfold vc; rw [k1, k2, k3]; omega, by unfold arN; rw [k2]; rfl⟩, fun xs => ?_⟩
      rw [if_neg h1, if_pos h2]
      unfold tg1
      rw [k1, if_pos rfl]
    · rw [if_neg h2]
      by_cases h3 : cons = false ∧ pek T p = 33
      · rw [if_pos h3]
        have l1 := pek_lt (T := T) (p := p) (by omega)
        refine Or.inr ⟨_, _, rfl, ⟨by omega, by omega⟩, ⟨vc_stuck, by decide⟩, fun xs => ?_⟩
        rw [if_neg h1, if_neg h2, if_pos h3]
        unfold tg1
        rw [if_neg (by decide), if_neg (fun q => absurd q.1 (by decide))]
      · rw [if_neg h3]
        by_cases h4 : isK (pek T p)
        · rw [if_pos h4]
          have hlt := pek_K h4
          have h5 : 65 ≤ pek T p ∧ pek T p ≤ 90 := h4
          obtain ⟨k1, k2, k3⟩ := kd_mk (k := 1) (a := 0) (s := pek T p - 65) (by omega) (by omega) (by omega)
          rw [show (1 : Int) * 16777216 + 0 * 65536 + (pek T p - 65) = 16777216 + (pek T p - 65) by omega] at k1 k2 k3
          refine Or.inr ⟨_, _, rfl, ⟨by omega, by omega⟩, ⟨by unfold vc; rw [k1, k2, k3]; omega, by unfold arN; rw [k2]; rfl⟩, fun xs => ?_⟩
          rw [if_neg h1, if_neg h2, if_neg h3, if_pos h4]
          unfold tg1
          rw [k1, if_neg (show ¬ (1 : Int) = 2 by decide)]
          by_cases h6 : pek T (p + 1) = 40
          · rw [if_pos h6, if_pos ⟨rfl, h6⟩]
          · rw [if_neg h6, if_neg (fun q => h6 q.2)]
        · rw [if_neg h4]
          exact Or.inl ⟨rfl, fun xs => by rw [if_neg h1, if_neg h2, if_neg h3, if_neg h4]⟩
section MTHING
variable {M : Mem} {T : List Int} {p : Nat} {xs : List Int} {st : List (Nat × Nat)} {left : Option (List Int)} {cons : Bool}
/-- the cell comes, the place is behind its name -/
theorem REm.add (h : REm M T p xs st) (hl : xs.length < 41) {c : Int} {pa : Nat} (hpa : pa ≤ T.length) : REm (stI (stI (stI M 1273 xs.length (cm c)) 1269 2 (pa : Int)) 1269 7 ((xs.length + 1 : Nat) : Int)) T pa (xs ++ [c]) st ∧ Fj mrS M (stI (stI (stI M 1273 xs.length (cm c)) 1269 2 (pa : Int)) 1269 7 ((xs.length + 1 : Nat) : Int)) := by
  have hF : Fj (fun a k => (a = 1273 ∧ k = xs.length) ∨ (a = 1269 ∧ (k = 2 ∨ k = 7))) M (stI (stI (stI M 1273 xs.length (cm c)) 1269 2 (pa : Int)) 1269 7 ((xs.length + 1 : Nat) : Int)) := ((Fj.ofI (by omega)).trans (Fj.ofI (by omega))).trans (Fj.ofI (by omega))
  have h1 := h.2.1.2.1.push (c := c)
  rw [Nat.zero_add] at h1
  refine ⟨⟨⟨h.1.1.fj hF (by omega) (by omega), by rw [mI_ne (by omega), mI_at], hpa⟩, ⟨by rw [mI_at, List.length_append]; rfl, (h1.fj (Fj.ofI (S := fun a k => a = 1269) rfl) (by omega)).fj (Fj.ofI (S := fun a k => a = 1269) rfl) (by omega), by rw [List.length_append, List.length_singleton]; omega⟩, ⟨(hF.2.2 _ _ (by omega)).trans h.2.2.1.1, h.2.2.1.2⟩, h.2.2.2.fj hF fun k _ => by omega⟩, hF.mono fun a k q => by unfold mrS; omega⟩
/-- the other order of the same stores -/
theorem REm.add2 (h : REm M T p xs st) (hl : xs.length < 41) {c : Int} {pa : Nat} (hpa : pa ≤ T.length) : REm (stI (stI (stI M 1269 2 (pa : Int)) 1273 xs.length (cm c)) 1269 7 ((xs.length + 1 : Nat) : Int)) T pa (xs ++ [c]) st ∧ Fj mrS M (stI (stI (stI M 1269 2 (pa : Int)) 1273 xs.length (cm c)) 1269 7 ((xs.length + 1 : Nat) : Int)) := by
  have hF : Fj (fun a k => (a = 1273 ∧ k = xs.length) ∨ (a = 1269 ∧ (k = 2 ∨ k = 7))) M (stI (stI (stI M 1269 2 (pa : Int)) 1273 xs.length (cm c)) 1269 7 ((xs.length + 1 : Nat) : Int)) := ((Fj.ofI (by omega)).trans (Fj.ofI (by omega))).trans (Fj.ofI (by omega))
  have h0 : RM (stI M 1269 2 (pa : Int)) 1273 0 xs := h.2.1.2.1.fj (Fj.ofI (S := fun a k => a = 1269) rfl) (by omega)
  have h1 := h0.push (c := c)
  rw [Nat.zero_add] at h1
  refine ⟨⟨⟨h.1.1.fj hF (by omega) (by omega), by rw [mI_ne (by omega), mI_ne (by omega), mI_at], hpa⟩, ⟨by rw [mI_at, List.length_append]; rfl, h1.fj (Fj.ofI (S := fun a k => a = 1269) rfl) (by omega), by rw [List.length_append, List.length_singleton]; omega⟩, ⟨(hF.2.2 _ _ (by omega)).trans h.2.2.1.1, h.2.2.1.2⟩, h.2.2.2.fj hF fun k _ => by omega⟩, hF.mono fun a k q => by unfold mrS; omega⟩
def TGm (M' : Mem) (T : List Int) (p : Nat) (xs : List Int) (st : List (Nat × Nat)) (q : Option (Int × Nat)) : Prop := match q with
  | none => mI M' 1269 3 = (p : Int)
  | some (c, pa) => REm M' T pa (xs ++ [c]) st ∧ mI M' 1269 3 = -1
theorem M_readThing_s (hG : Good M) (h : REm M T p xs st) (hf : mI M 1269 3 = -1) (hL : LFm M left cons) (hxl : xs.length ≤ 40) : ∃ M', M_readThing 1269 M = some (some (.inl (if xs.length < 40 ∧ st.length < 20 ∧ (tg0 T left cons p).isSome = true then 1 else 0)), M') ∧ ((xs.length < 40 ∧ st.length < 20 → TGm M' T p xs st (tg0 T left cons p)) ∧ (¬ (xs.length < 40 ∧ st.length < 20) → mI M' 1269 3 = (p : Int))) ∧ Fj mrS M M' := by
  have hp := h.1.2.2
  have hT := h.1.1.2.1
  have hr := h.1.1.rng (p := p)
  have hsl := h.2.2.1.2
  have fails : (cI (M_fails 1269 (p : Int) M) fun r2 M1 => gd (decide (r2 = 0 ∨ r2 = 1)) (some (some (.inl r2), M1))) = some (some (.inl 0), stI M 1269 3 (p : Int)) := by rw [M_fails_s hG, cI_s]; rfl
  have hFf : Fj mrS M (stI M 1269 3 (p : Int)) := Fj.ofI (by unfold mrS; omega)
  -- a thing: then the two limits, then what it is
  have go : ∀ (d3 d4 : LV), (isK (pek T p) ∨ (cons = false ∧ (isV (pek T p) ∨ isF (pek T p) ∨ pek T p = 33))) → ∃ M', M_readThing_49 1269 (pek T p) (p : Int) 1 d3 d4 M = some (some (.inl (if xs.length < 40 ∧ st.length < 20 ∧ (tg0 T left cons p).isSome = true then 1 else 0)), M') ∧ ((xs.length < 40 ∧ st.length < 20 → TGm M' T p xs st (tg0 T left cons p)) ∧ (¬ (xs.length < 40 ∧ st.length < 20) → mI M' 1269 3 = (p : Int))) ∧ Fj mrS M M' := by
    intro d3 d4 hth
    rw [M_readThing_49_eq, if_neg (by decide), hG.gM, gd_t, h.2.1.1]
    by_cases h40 : xs.length = 40
    · rw [if_pos (by omega), gd_t, fails, if_neg (by omega)]
      exact ⟨_, rfl, ⟨fun q => by omega, fun _ => mI_at⟩, hFf⟩
    · rw [if_neg (by omega), gd_t, h.2.2.1.1]
      by_cases h20 : st.length = 20
      · rw [if_pos (by omega), gd_t, fails, if_neg (by omega)]
        exact ⟨_, rfl, ⟨fun q => by omega, fun _ => mI_at⟩, hFf⟩
      · have hlim : xs.length < 40 ∧ st.length < 20 := ⟨by omega, by omega⟩
        rw [if_neg (by omega), M_isVarLetter_s, cI_s]
        by_cases hv : isV (pek T p)
        · have hlt := pek_V hv
          have h2 : 109 ≤ pek T p ∧ pek T p ≤ 122 := hv
          have hc : cons = false := by
            rcases hth with q | q
            · unfold isK at q; omega
            · exact q.1
          obtain ⟨r1, r2⟩ := rdn_rng (T := T) (p := p) (f := 109) (k := 13) (by omega)
          obtain ⟨q1, q2⟩ := rdn_le (f := 109) hlt
          obtain ⟨k1, k2, k3⟩ := kd_var (c := (rdn T p 109).1) (by omega)
          have e97 : rdn T p 97 = ((rdn T p 109).1 + 1212, (rdn T p 109).2) := by
            have := rdn_off T p 97 12
            rw [show (97 : Int) + 12 = 109 from rfl, show (12 : Int) * 101 = 1212 from rfl] at this
            exact this
          obtain ⟨cv1, cv2⟩ := cm_var (v := (rdn T p 109).1) (by omega)
          have env : (rdn T p 109).1 + 1212 = nmo (rdn T p 109).1 := by rw [cv2, if_pos (by omega)]
          have hF1 : Fj (fun a k => a = 1269 ∧ k = 2) M (stI M 1269 2 ((rdn T p 109).2 : Int)) := Fj.ofI ⟨rfl, rfl⟩
          have hG1 := hG.fj hF1
          have hL1 := hL.fj hF1 (by omega) (by omega)
          rw [if_pos hv, if_neg (by decide), hG.gM, gd_t, M_readName_s hG h.1 hlt, cI_s, e97]
          dsimp only
          rw [hG1.gM, gd_t, env, M_mayVar_s hG1 hL1 (by omega), cI_s]
          by_cases hm : ∀ vs, left = some vs → (rdn T p 109).1 ∈ vs
          · have e0 : tg0 T left cons p = some ((rdn T p 109).1, (rdn T p 109).2) := by unfold tg0; rw [if_pos ⟨hc, hv⟩, if_pos hm]
            rw [e0, if_pos hm, if_neg (show ¬ (1 : Int) = 0 by decide), hG1.gM, gd_t, gd_t, M_thing_s (by omega) (by omega) (by have := nmo_rng (vc_var (c := (rdn T p 109).1) (by omega)); omega), cI_s, hG1.m6, mI_ne (by omega), h.2.1.1, hG1.tgS arr_1273 (by omega) (by omega), gd_t, hG1.gM, gd_t, gd_t, toNat_n, mI_ne (by omega), mI_ne (by omega), h.2.1.1, wr_s (by omega), if_pos ⟨hlim.1, hlim.2, rfl⟩]
            obtain ⟨a1, a2⟩ := h.add2 (c := (rdn T p 109).1) (pa := (rdn T p 109).2) (by omega) q2
            rw [show (0 : Int) + 4 * 0 + 64 * nmo (rdn T p 109).1 = cm (rdn T p 109).1 by rw [cv1]; omega]
            exact ⟨_, rfl, ⟨fun _ => ⟨a1, by rw [mI_ne (by omega), mI_ne (by omega), mI_ne (by omega)]; exact hf⟩, fun q => absurd hlim q⟩, a2⟩
          · have e0 : tg0 T left cons p = none := by unfold tg0; rw [if_pos ⟨hc, hv⟩, if_neg hm]
            rw [e0, if_neg hm, if_pos (show (0 : Int) = 0 from rfl), hG1.gM, gd_t, M_fails_s hG1, cI_s, if_neg (fun q => by cases q.2.2)]
            exact ⟨_, rfl, ⟨fun _ => mI_at, fun q => absurd hlim q⟩, (hF1.mono fun a k q => by unfold mrS; omega).trans (Fj.ofI (by unfold mrS; omega))⟩
        · rw [if_neg hv, if_pos rfl, M_isFunctionLetter_s, cI_s]
          by_cases hfl : isF (pek T p)
          · have hlt := pek_F hfl
            have h3 : 97 ≤ pek T p ∧ pek T p ≤ 108 := hfl
            have hc : cons = false := by
              rcases hth with q | q
              · unfold isK at q; omega
              · exact q.1
            obtain ⟨r1, r2⟩ := rdn_rng (T := T) (p := p) (f := 97) (k := 11) (by omega)
            obtain ⟨q1, q2⟩ := rdn_le (f := 97) hlt
            obtain ⟨k1, k2, k3⟩ := kd_mk (k := 2) (a := 0) (s := (rdn T p 97).1) (by omega) (by omega) (by omega)
            rw [show (2 : Int) * 16777216 + 0 * 65536 + (rdn T p 97).1 = 33554432 + (rdn T p 97).1 by omega] at k1 k2 k3
            have ecm : cm (33554432 + (rdn T p 97).1) = 2 + 4 * 0 + 64 * (rdn T p 97).1 := by
              unfold cm nmo
              rw [k1, k2, k3, if_neg (by decide), if_neg (by decide), if_pos rfl]
            have hF1 : Fj (fun a k => a = 1269 ∧ k = 2) M (stI M 1269 2 ((rdn T p 97).2 : Int)) := Fj.ofI ⟨rfl, rfl⟩
            have hG1 := hG.fj hF1
            have e0 : tg0 T left cons p = some (33554432 + (rdn T p 97).1, (rdn T p 97).2) := by unfold tg0; rw [if_neg (fun q => hv q.2), if_pos ⟨hc, hfl⟩]
            rw [e0, if_pos hfl, if_neg (show ¬ (1 : Int) = 0 by decide), hG.gM, gd_t, gd_t, gd_t, M_readName_s hG h.1 hlt, cI_s, M_thing_s (by omega) (by omega) (by omega), cI_s, hG.m6, h.2.1.1, hG1.tgS arr_1273 (by omega) (by omega), gd_t, hG1.gM, gd_t, gd_t, toNat_n, mI_ne (by omega), mI_ne (by omega), h.2.1.1, wr_s (by omega), if_pos ⟨hlim.1, hlim.2, rfl⟩]
            obtain ⟨a1, a2⟩ := h.add2 (c := 33554432 + (rdn T p 97).1) (pa := (rdn T p 97).2) (by omega) q2
            rw [← ecm]
            exact ⟨_, rfl, ⟨fun _ => ⟨a1, by rw [mI_ne (by omega), mI_ne (by omega), mI_ne (by omega)]; exact hf⟩, fun q => absurd hlim q⟩, a2⟩
          · rw [if_neg hfl, if_pos (show (0 : Int) = 0 from rfl), hG.gM, gd_t, gd_t]
            have h187 : ∀ (c : Int) (e1 e2 e3 e4 : LV), p + 1 ≤ T.length → ∃ M', M_readThing_187 1269 (cm c) (mI M 1269 7) (mR M 1269 6) e1 e2 e3 e4 M = some (some (.inl 1), M') ∧ TGm M' T p xs st (some (c, p + 1)) ∧ Fj mrS M M' := by
              intro c e1 e2 e3 e4 hpl
              obtain ⟨a1, a2⟩ := h.add (c := c) (pa := p + 1) (by omega) hpl
              rw [M_readThing_187_eq, hG.m6, h.2.1.1, hG.tgS arr_1273 (by omega) (by omega), gd_t, hG.gM]
              simp only [gd_t]
              rw [toNat_n, mI_ne (a := 1273) (by omega), h.1.2.1, wr_s (by omega), mI_ne (by omega), mI_ne (by omega), h.2.1.1, wr_s (by omega)]
              exact ⟨_, rfl, ⟨a1, by rw [mI_ne (by omega), mI_ne (by omega), mI_ne (by omega)]; exact hf⟩, a2⟩
            by_cases hb : pek T p = 33
            · have l1 := pek_lt (T := T) (p := p) (by omega)
              have hc : cons = false := by
                rcases hth with q | q
                · unfold isK at q; omega
                · exact q.1
              have ecm : cm 50331648 = 3 + 4 * 0 + 64 * 0 := by decide
              obtain ⟨M', a1, a2, a3⟩ := h187 50331648 (some (.inl (pek T p))) (some (.inl (p : Int))) (some (.inl 1)) d4 (by omega)
              have e0 : tg0 T left cons p = some (50331648, p + 1) := by unfold tg0; rw [if_neg (fun q => hv q.2), if_neg (fun q => hfl q.2), if_pos ⟨hc, hb⟩]
              rw [e0, if_pos hb, M_thing_s (by omega) (by omega) (by omega), cI_s, ← ecm, if_pos ⟨hlim.1, hlim.2, rfl⟩]
              exact ⟨M', a1, ⟨fun _ => a2, fun q => absurd hlim q⟩, a3⟩
            · have hk : isK (pek T p) := by
                rcases hth with q | q
                · exact q
                · rcases q.2 with q | q | q
                  · exact absurd q hv
                  · exact absurd q hfl
                  · exact absurd q hb
              have hlt := pek_K hk
              have h5 : 65 ≤ pek T p ∧ pek T p ≤ 90 := hk
              obtain ⟨k1, k2, k3⟩ := kd_mk (k := 1) (a := 0) (s := pek T p - 65) (by omega) (by omega) (by omega)
              rw [show (1 : Int) * 16777216 + 0 * 65536 + (pek T p - 65) = 16777216 + (pek T p - 65) by omega] at k1 k2 k3
              have ecm : cm (16777216 + (pek T p - 65)) = 1 + 4 * 0 + 64 * (pek T p - 65 + 1) := by
                unfold cm nmo
                rw [k1, k2, k3, if_neg (by decide), if_pos rfl]
              obtain ⟨M', a1, a2, a3⟩ := h187 (16777216 + (pek T p - 65)) (some (.inl (pek T p))) (some (.inl (p : Int))) (some (.inl 1)) d4 (by omega)
              have e0 : tg0 T left cons p = some (16777216 + (pek T p - 65), p + 1) := by unfold tg0; rw [if_neg (fun q => hv q.2), if_neg (fun q => hfl q.2), if_neg (fun q => hb q.2), if_pos hk]
              rw [e0, if_neg hb, wr_id (x := pek T p - 65) (by omega) (by omega), wr_id (x := pek T p - 65 + 1) (by omega) (by omega), M_thing_s (by omega) (by omega) (by omega), cI_s, ← ecm, if_pos ⟨hlim.1, hlim.2, rfl⟩]
              exact ⟨M', a1, ⟨fun _ => a2, fun q => absurd hlim q⟩, a3⟩
  -- no thing
  have no : ∀ (d3 d4 : LV), ¬ isK (pek T p) → (cons = false → ¬ isV (pek T p) ∧ ¬ isF (pek T p) ∧ ¬ pek T p = 33) → ∃ M', M_readThing_49 1269 (pek T p) (p : Int) 0 d3 d4 M = some (some (.inl (if xs.length < 40 ∧ st.length < 20 ∧ (tg0 T left cons p).isSome = true then 1 else 0)), M') ∧ ((xs.length < 40 ∧ st.length < 20 → TGm M' T p xs st (tg0 T left cons p)) ∧ (¬ (xs.length < 40 ∧ st.length < 20) → mI M' 1269 3 = (p : Int))) ∧ Fj mrS M M' := by
    intro d3 d4 hk hn
    have e : tg0 T left cons p = none := by
      unfold tg0
      rw [if_neg (fun q => (hn q.1).1 q.2), if_neg (fun q => (hn q.1).2.1 q.2), if_neg (fun q => (hn q.1).2.2 q.2), if_neg hk]
    rw [M_readThing_49_eq, if_pos rfl, hG.gM, gd_t, fails, e, if_neg (fun q => by cases q.2.2)]
    exact ⟨_, rfl, ⟨fun _ => mI_at, fun _ => mI_at⟩, hFf⟩
  rw [M_readThing_eq, hG.gM, gd_t, M_here_s hG h.1, cI_s, hG.gM, gd_t, M_isConLetter_s, cI_s, h.1.2.1]
  by_cases hk : isK (pek T p)
  · rw [if_pos hk, if_neg (by decide)]
    exact go _ _ (Or.inl hk)
  · rw [if_neg hk, if_pos rfl, hG.gM, gd_t, hL.2]
    cases cons with
    | true => rw [if_pos rfl, if_neg (by decide)]; exact no _ _ hk (fun q => by cases q)
    | false =>
      rw [if_neg (by decide : ¬ false = true), if_pos rfl, M_isVarLetter_s, cI_s]
      by_cases hv : isV (pek T p)
      · rw [if_pos hv, if_neg (by decide)]; exact go _ _ (Or.inr ⟨rfl, Or.inl hv⟩)
      · rw [if_neg hv, if_pos rfl, M_isFunctionLetter_s, cI_s]
        by_cases hfl : isF (pek T p)
        · rw [if_pos hfl, if_neg (by decide)]; exact go _ _ (Or.inr ⟨rfl, Or.inr (Or.inl hfl)⟩)
        · rw [if_neg hfl, if_pos rfl]
          by_cases hb : pek T p = 33
          · rw [if_pos hb]; exact go _ _ (Or.inr ⟨rfl, Or.inr (Or.inr hb)⟩)
          · rw [if_neg hb]; exact no _ _ hk (fun _ => ⟨hv, hfl, hb⟩)
end MTHING

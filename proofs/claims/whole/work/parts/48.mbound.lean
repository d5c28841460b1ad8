/-! ===== the reference reads what is bound ===== -/
def BMr (M : Mem) (F : Nat) (bs : Bnd) : Prop := ∀ i q, bs[i]? = some q → mI M F i = nmo q.1 ∧ mI M (F + 1) i = (stp bs i : Int) ∧ RM M (F + 2) (stp bs i) q.2
/-- what is bound, as it must be -/
def bok (bs : Bnd) : Prop := (∀ q ∈ bs, (0 ≤ q.1 ∧ q.1 < 1414) ∧ (wf 1 q.2 ∧ av q.2 ∧ q.2.length ≤ 40) ∧ ∀ c ∈ q.2, pcl none true c) ∧ (flt bs).length ≤ 800 ∧ bs.length ≤ 200
def NBm (M : Mem) (bs : Bnd) : Prop := (mI M 1269 40 = (bs.length : Int) ∧ mI M 1269 41 = ((flt bs).length : Int)) ∧ BMr M 1294 bs ∧ bok bs
def mdS : Nat → Nat → Prop := fun a k => (1271 ≤ a ∧ a ≤ 1273) ∨ (1294 ≤ a ∧ a ≤ 1296) ∨ (a = 1269 ∧ (k = 2 ∨ k = 3 ∨ k = 7 ∨ k = 8 ∨ k = 9 ∨ k = 10 ∨ k = 40 ∨ k = 41))
theorem BMr.fj {M M1 : Mem} {S : Nat → Nat → Prop} {F : Nat} {bs : Bnd} (h : BMr M F bs) (f : Fj S M M1) (h0 : ∀ a k, F ≤ a ∧ a ≤ F + 2 → ¬ S a k) : BMr M1 F bs := fun i q hq => by
  obtain ⟨h1, h2, h3⟩ := h i q hq
  exact ⟨(f.2.2 _ _ (h0 _ _ (by omega))).trans h1, (f.2.2 _ _ (h0 _ _ (by omega))).trans h2, fun j hj => (f.2.2 _ _ (h0 _ _ (by omega))).trans (h3 j hj)⟩
theorem stp_app {bs : Bnd} {r : Int × List Int} {i : Nat} (h : i ≤ bs.length) : stp (bs ++ [r]) i = stp bs i := by
  unfold stp
  rw [List.take_append_of_le_length h]
theorem stp_len (bs : Bnd) : stp bs bs.length = (flt bs).length := by
  unfold stp
  rw [List.take_length]
section MBD
variable {M : Mem} {T : List Int} {p : Nat} {bs : Bnd}
theorem arr_1294 : arr 1294 0 200 := arr_of _ _ _ (by decide)
theorem arr_1295 : arr 1295 0 200 := arr_of _ _ _ (by decide)
theorem arr_1296 : arr 1296 0 800 := arr_of _ _ _ (by decide)
theorem NBm.fj {M1 : Mem} {S : Nat → Nat → Prop} (h : NBm M bs) (f : Fj S M M1) (h0 : ¬ S 1269 40 ∧ ¬ S 1269 41) (h1 : ∀ a k, 1294 ≤ a ∧ a ≤ 1296 → ¬ S a k) : NBm M1 bs := ⟨⟨(f.2.2 _ _ h0.1).trans h.1.1, (f.2.2 _ _ h0.2).trans h.1.2⟩, h.2.1.fj f fun a k q => h1 a k q, h.2.2⟩
theorem M_keepBound_s (hG : Good M) (hN : NBm M bs) (hl : bs.length < 200) {r : Int × List Int} (hr : (0 ≤ r.1 ∧ r.1 < 1414) ∧ (wf 1 r.2 ∧ av r.2 ∧ r.2.length ≤ 40) ∧ ∀ c ∈ r.2, pcl none true c) (hfl : (flt bs).length + r.2.length ≤ 800) (hx : mI M 1269 7 = (r.2.length : Int) ∧ RM M 1273 0 r.2) : ∃ M1, M_copy 1273 0 (r.2.length : Int) 1296 ((flt bs).length : Int) (stI (stI M 1294 bs.length (nmo r.1)) 1295 bs.length ((flt bs).length : Int)) = some (none, M1) ∧ Good M1 ∧ mI M1 1269 7 = (r.2.length : Int) ∧ mI M1 1269 40 = (bs.length : Int) ∧ mI M1 1269 41 = ((flt bs).length : Int) ∧ NBm (stI (stI M1 1269 41 (((flt bs).length + r.2.length : Nat) : Int)) 1269 40 ((bs.length + 1 : Nat) : Int)) (bs ++ [r]) ∧ Fj (fun a k => (1294 ≤ a ∧ a ≤ 1296) ∨ (a = 1269 ∧ (k = 40 ∨ k = 41))) M (stI (stI M1 1269 41 (((flt bs).length + r.2.length : Nat) : Int)) 1269 40 ((bs.length + 1 : Nat) : Int)) := by
  have hi3 : Fi (fun a => 1294 ≤ a ∧ a ≤ 1296) M (stI (stI M 1294 bs.length (nmo r.1)) 1295 bs.length ((flt bs).length : Int)) := (Fi.ofI (S := fun a => 1294 ≤ a ∧ a ≤ 1296) (by omega)).trans (Fi.ofI (by omega))
  have hrl := hr.2.1.2.2
  obtain ⟨M1, a1, a2, a3⟩ := M_copy_s (hG.fi hi3) (s := 1273) (d := 1296) (p := 0) (q := (flt bs).length) (k := r.2.length) arr_1273 arr_1296 (by omega) (by omega) (by decide) (Or.inl (by decide))
  have F1 : Fi (fun a => 1294 ≤ a ∧ a ≤ 1296) M M1 := hi3.trans (a2.mono fun a q => by omega)
  refine ⟨M1, a1, hG.fi F1, (F1.2.2 _ (by omega) _).trans hx.1, (F1.2.2 _ (by omega) _).trans hN.1.1, (F1.2.2 _ (by omega) _).trans hN.1.2, ⟨⟨by rw [mI_at, List.length_append]; rfl, by rw [mI_ne (by omega), mI_at, flt_one]⟩, ?_, ?_⟩, ((F1.fj fun a k q => Or.inl q).trans (Fj.ofI (by omega))).trans (Fj.ofI (by omega))⟩
  · have m1 : ∀ a k, a ≠ 1296 → mI M1 a k = mI (stI (stI M 1294 bs.length (nmo r.1)) 1295 bs.length ((flt bs).length : Int)) a k := fun a k h => a2.2.2 a h k
    intro i w hw
    have hi := (List.getElem?_eq_some_iff.mp hw).1
    rw [List.length_append, List.length_singleton] at hi
    rw [stp_app (by omega)]
    by_cases q : i < bs.length
    · rw [List.getElem?_append_left q] at hw
      obtain ⟨h1, h2, h3⟩ := hN.2.1 i w hw
      obtain ⟨s1, s2, -⟩ := stp_s hw
      refine ⟨?_, ?_, fun j hj => ?_⟩
      · rw [mI_ne (by omega), mI_ne (by omega), m1 _ _ (by omega), mI_ne (by omega), mI_ne (by omega)]; exact h1
      · rw [mI_ne (by omega), mI_ne (by omega), m1 _ _ (by omega), mI_ne (by omega), mI_ne (by omega)]; exact h2
      · rw [mI_ne (by omega), mI_ne (by omega), a3, if_neg (by omega), mI_ne (by omega), mI_ne (by omega)]; exact h3 j hj
    · have h6 : i = bs.length := by omega
      subst h6
      rw [List.getElem?_append_right (Nat.le_refl _), Nat.sub_self] at hw
      cases hw
      rw [stp_len]
      refine ⟨?_, ?_, fun j hj => ?_⟩
      · rw [mI_ne (by omega), mI_ne (by omega), m1 _ _ (by omega), mI_ne (by omega), mI_at]
      · rw [mI_ne (by omega), mI_ne (by omega), m1 _ _ (by omega), mI_at]
      · rw [mI_ne (by omega), mI_ne (by omega), a3, if_pos (by omega), mI_ne (by omega), mI_ne (by omega), show 0 + ((flt bs).length + j - (flt bs).length) = 0 + j by omega]; exact hx.2 j hj
  · refine ⟨fun w hw => ?_, by rw [flt_one]; exact hfl, by rw [List.length_append, List.length_singleton]; exact hl⟩
    rcases List.mem_append.mp hw with hw | hw
    · exact hN.2.2.1 w hw
    · rw [List.mem_singleton.mp hw]; exact hr
theorem M_readBound_s (hG : Good M) (hR : RSm M T p) (hN : NBm M bs) (hl : isV (pek T p) → bs.length < 200) (hfp : (flt bs).length ≤ p) (hf : mI M 1269 3 = -1) (h9 : mI M 1269 9 = 0) (h10 : mI M 1269 10 = 1) : ∃ M', M_readBound 1269 M = some (some (.inl (oki (rbd T bs p))), M') ∧ (match rbd T bs p with
    | .error e => mI M' 1269 3 = (e : Int)
    | .ok r => RSm M' T r.1 ∧ NBm M' (bs ++ [r.2]) ∧ mI M' 1269 3 = -1) ∧ Fj (fun a k => mdS a k ∧ ¬ (a = 1269 ∧ (k = 9 ∨ k = 10))) M M' := by
  have hT := hR.1.2.1
  have hbl := hN.2.2.2.2
  unfold rbd
  rw [M_readBound_eq, hG.gM, gd_t, gd_t, M_here_s hG hR, cI_s, M_isVarLetter_s, cI_s]
  by_cases hv : isV (pek T p)
  · have hv2 : 109 ≤ pek T p ∧ pek T p ≤ 122 := hv
    have hl := hl hv
    have hlt := pek_V hv
    obtain ⟨r1, r2⟩ := rdn_rng (T := T) (p := p) (f := 109) (k := 13) (by omega)
    obtain ⟨q1, q2⟩ := rdn_le (f := 109) hlt
    have e97 : rdn T p 97 = ((rdn T p 109).1 + 1212, (rdn T p 109).2) := rdn_off T p 97 12
    have e1 : (rdn T p 109).1 + 1212 = nmo (rdn T p 109).1 := by
      rw [(cm_var (v := (rdn T p 109).1) (by omega)).2, if_pos (by omega)]
    have f1 : Fj (fun a k => a = 1269 ∧ k = 2) M (stI M 1269 2 ((rdn T p 109).2 : Int)) := Fj.ofI ⟨rfl, rfl⟩
    have F1 : Fj (fun a k => mdS a k ∧ ¬ (a = 1269 ∧ (k = 9 ∨ k = 10))) M (stI M 1269 2 ((rdn T p 109).2 : Int)) := f1.mono fun a k q => by unfold mdS; omega
    have hG1 := hG.fj f1
    have hR1 := hR.at q2
    have hN1 : NBm (stI M 1269 2 ((rdn T p 109).2 : Int)) bs := hN.fj f1 (by omega) (by omega)
    have h3' : mI (stI M 1269 2 ((rdn T p 109).2 : Int)) 1269 3 = -1 := by rw [mI_ne (by omega)]; exact hf
    have h9' : mI (stI M 1269 2 ((rdn T p 109).2 : Int)) 1269 9 = 0 := by rw [mI_ne (by omega)]; exact h9
    have h10' : mI (stI M 1269 2 ((rdn T p 109).2 : Int)) 1269 10 = 1 := by rw [mI_ne (by omega)]; exact h10
    rw [if_pos hv, if_neg (by decide), hG.gM, gd_t, M_readName_s hG hR hlt, cI_s, e97, e1, hR.2.1]
    generalize stI M 1269 2 ((rdn T p 109).2 : Int) = M1 at *
    generalize hv0 : (rdn T p 109).1 = v at *
    generalize (rdn T p 109).2 = q0 at *
    have hvv : 0 ≤ v ∧ v < 1414 := by omega
    -- the rest: not bound yet
    have rest : v ∉ bvs bs → ∃ M', M_readBound_28 1269 (p : Int) (nmo v) (bs.length : Int) M1 = some (some (.inl (oki (ob (xpc T q0 61) fun p1 => ob (rxo T none true p1) fun x => (.ok (x.1, (v, x.2)) : Except Nat (Nat × (Int × List Int)))))), M') ∧ (match (ob (xpc T q0 61) fun p1 => ob (rxo T none true p1) fun x => (.ok (x.1, (v, x.2)) : Except Nat (Nat × (Int × List Int)))) with
        | .error e => mI M' 1269 3 = (e : Int)
        | .ok r => RSm M' T r.1 ∧ NBm M' (bs ++ [r.2]) ∧ mI M' 1269 3 = -1) ∧ Fj (fun a k => mdS a k ∧ ¬ (a = 1269 ∧ (k = 9 ∨ k = 10))) M M' := by
      intro hnv
      rw [M_readBound_28_eq, hG1.gM, gd_t, hN1.1.1, if_neg (by omega), gd_t, M_takes_s hG1 hR1 61 (by decide)]
      by_cases h61 : pek T q0 = 61
      · have hlt2 := pek_lt (T := T) (p := q0) (by omega)
        have f2 : Fj (fun a k => a = 1269 ∧ k = 2) M1 (stI M1 1269 2 ((q0 + 1 : Nat) : Int)) := Fj.ofI ⟨rfl, rfl⟩
        have hG2 := hG1.fj f2
        obtain ⟨M3, b1, b2, b3⟩ := M_readExpression_s hG2 (left := none) (cons := true) ⟨(f2.2.2 _ _ (by omega)).trans h9', (f2.2.2 _ _ (by omega)).trans h10'⟩ (hR1.at (q := q0 + 1) hlt2) ((f2.2.2 _ _ (by omega)).trans h3')
        have hG3 := hG2.fj b3
        have hN3 : NBm M3 bs := (hN1.fj f2 (by omega) (by omega)).fj b3 (by unfold mrS; omega) (by unfold mrS; omega)
        have F3 : Fj (fun a k => mdS a k ∧ ¬ (a = 1269 ∧ (k = 9 ∨ k = 10))) M M3 := (F1.trans (f2.mono fun a k q => by unfold mdS; omega)).trans (b3.mono fun a k q => by unfold mrS at q; unfold mdS; omega)
        rw [if_pos h61, cI_s, if_neg (show ¬ (1 : Int) = 0 by decide), xpc_p h61, ob_o, hG2.gM, gd_t, b1, cI_s]
        have hX : rxo T none true (q0 + 1) = (if (rex T none true 41 (q0 + 1) [] []).1 = true then .ok (rex T none true 41 (q0 + 1) [] []).2 else .error (rex T none true 41 (q0 + 1) [] []).2.1) := rfl
        have hxok : ∀ x, rxo T none true (q0 + 1) = .ok x → (((wf 1 x.2 ∧ av x.2 ∧ x.2.length ≤ 40) ∧ ∀ c ∈ x.2, pcl none true c) ∧ x.1 ≤ T.length) ∧ x.2.length + q0 + 1 ≤ x.1 := fun x hx => by
          obtain ⟨d1, d2, d3, d4⟩ := rxo_ok hlt2 hx
          have := rxo_len hlt2 hx
          exact ⟨⟨⟨d1, d2⟩, d4⟩, by omega⟩
        rw [hX] at hxok ⊢
        generalize rex T none true 41 (q0 + 1) [] [] = X at *
        obtain ⟨x1, x2, x3⟩ := X
        cases x1 with
        | false =>
          rw [if_neg (show ¬ (false, x2, x3).1 = true from fun q => by cases q), if_neg (show ¬ (false, x2, x3).1 = true from fun q => by cases q), if_pos (show (0 : Int) = 0 from rfl), ob_e]
          exact ⟨M3, rfl, b2, F3⟩
        | true =>
          obtain ⟨c1, ⟨c2, c3, -⟩, c4⟩ : RSm M3 T x2 ∧ (mI M3 1269 7 = (x3.length : Int) ∧ RM M3 1273 0 x3 ∧ x3.length ≤ 41) ∧ mI M3 1269 3 = -1 := b2
          obtain ⟨⟨⟨d1, d2⟩, d4⟩, d5⟩ : (((wf 1 x3 ∧ av x3 ∧ x3.length ≤ 40) ∧ ∀ c ∈ x3, pcl none true c) ∧ x2 ≤ T.length) ∧ x3.length + q0 + 1 ≤ x2 := hxok (x2, x3) (if_pos rfl)
          obtain ⟨M4, e1, e2, e3, e4, e5, e6, e7⟩ := M_keepBound_s hG3 hN3 hl (r := (v, x3)) ⟨hvv, d1, d2⟩ (by show (flt bs).length + x3.length ≤ 800; omega) ⟨c2, c3⟩
          have e1 : M_copy 1273 0 (x3.length : Int) 1296 ((flt bs).length : Int) (stI (stI M3 1294 bs.length (nmo v)) 1295 bs.length ((flt bs).length : Int)) = some (none, M4) := e1
          have e3 : mI M4 1269 7 = (x3.length : Int) := e3
          have g40 : mI (stI M3 1294 bs.length (nmo v)) 1269 40 = (bs.length : Int) := by rw [mI_ne (by omega)]; exact hN3.1.1
          have g41 : mI (stI M3 1294 bs.length (nmo v)) 1269 41 = ((flt bs).length : Int) := by rw [mI_ne (by omega)]; exact hN3.1.2
          have g41' : mI (stI (stI M3 1294 bs.length (nmo v)) 1295 bs.length ((flt bs).length : Int)) 1269 41 = ((flt bs).length : Int) := by rw [mI_ne (by omega)]; exact g41
          have g7 : mI (stI (stI M3 1294 bs.length (nmo v)) 1295 bs.length ((flt bs).length : Int)) 1269 7 = (x3.length : Int) := by rw [mI_ne (by omega), mI_ne (by omega)]; exact c2
          have g40' : mI (stI M4 1269 41 (((flt bs).length + x3.length : Nat) : Int)) 1269 40 = (bs.length : Int) := by rw [mI_ne (by omega)]; exact e4
          have hfb := hN.2.2.2.1
          rw [if_pos (show (true, x2, x3).1 = true from rfl), if_pos (show (true, x2, x3).1 = true from rfl), if_neg (show ¬ (1 : Int) = 0 by decide), ob_o, hG3.gM, gd_t, gd_t, hG3.m37, hN3.1.1, hG3.tgS arr_1294 (by omega) (by omega), gd_t, gd_t, gd_t, gd_t, toNat_n, g40, hG3.m38, hG3.tgS arr_1295 (by omega) (by omega), gd_t, gd_t, gd_t, gd_t, gd_t, toNat_n, g41, g41', g7, hG3.m6, hG3.m39, e1, cV_s, e2.gM, gd_t, gd_t, gd_t, gd_t, gd_t, e5, e3, wr_id (x := ((flt bs).length : Int) + (x3.length : Int)) (by omega) (by omega), show ((flt bs).length : Int) + (x3.length : Int) = (((flt bs).length + x3.length : Nat) : Int) by omega, g40', wr_s (by omega)]
          exact ⟨_, rfl, ⟨c1.fj e7 (by omega) (by omega) (by omega), e6, (e7.2.2 _ _ (by omega)).trans c4⟩, F3.trans (e7.mono fun a k q => by unfold mdS; omega)⟩
      · rw [if_neg h61, cI_s, if_pos rfl, xpc_n h61, ob_e]
        exact ⟨_, rfl, mI_at, F1.trans (Fj.ofI (by unfold mdS; omega))⟩
    -- the names, one behind another
    have step : ∀ (i : Nat) (q : Int × List Int), bs[i]? = some q → M_readBound_28 1269 (p : Int) (nmo v) (i : Int) M1 = if q.1 = v then some (some (.inl 0), stI M1 1269 3 (p : Int)) else M_readBound_28 1269 (p : Int) (nmo v) ((i + 1 : Nat) : Int) M1 := by
      intro i q hq
      have hi := (List.getElem?_eq_some_iff.mp hq).1
      obtain ⟨h1, -, -⟩ := hN1.2.1 i q hq
      have hqv := (hN1.2.2.1 q (List.mem_of_getElem? hq)).1
      have hiff := nmo_var (vc_var (c := q.1) (by omega)) (vc_var (c := v) (by omega)) (kd_var (c := q.1) (by omega)).1 (kd_var (c := v) (by omega)).1
      rw [M_readBound_28_eq, hG1.gM, gd_t, hN1.1.1, if_pos (by omega), gd_t, hG1.m37, hG1.tgS arr_1294 (by omega) (by omega), gd_t, toNat_n, h1, wr_s (by omega)]
      by_cases e : q.1 = v
      · rw [if_pos (by rw [e]), if_pos e, gd_t, M_fails_s hG1, cI_s]; rfl
      · rw [if_neg (fun z => e (hiff.mp z)), if_neg e]
    have key1 : v ∉ bvs bs → ∀ (k i : Nat), bs.length - i = k → i ≤ bs.length → M_readBound_28 1269 (p : Int) (nmo v) (i : Int) M1 = M_readBound_28 1269 (p : Int) (nmo v) (bs.length : Int) M1 := by
      intro hnv k
      induction k with
      | zero => intro i h1 h2; rw [show i = bs.length by omega]
      | succ k ih =>
        intro i h1 h2
        obtain ⟨q, hq⟩ : ∃ q, bs[i]? = some q := ⟨bs[i], List.getElem?_eq_getElem (by omega)⟩
        rw [step i q hq, if_neg (fun e => hnv (by unfold bvs; exact List.mem_map.mpr ⟨q, List.mem_of_getElem? hq, e⟩))]
        exact ih (i + 1) (by omega) (by omega)
    have key2 : ∀ (k i j : Nat) (q : Int × List Int), j - i = k → i ≤ j → bs[j]? = some q → q.1 = v → M_readBound_28 1269 (p : Int) (nmo v) (i : Int) M1 = some (some (.inl 0), stI M1 1269 3 (p : Int)) := by
      intro k
      induction k with
      | zero =>
        intro i j q h1 h2 hq e
        have : i = j := by omega
        subst this
        rw [step i q hq, if_pos e]
      | succ k ih =>
        intro i j q h1 h2 hq e
        have hj := (List.getElem?_eq_some_iff.mp hq).1
        obtain ⟨w, hw⟩ : ∃ w, bs[i]? = some w := ⟨bs[i], List.getElem?_eq_getElem (by omega)⟩
        rw [step i w hw]
        by_cases e2 : w.1 = v
        · rw [if_pos e2]
        · rw [if_neg e2]
          exact ih (i + 1) j q (by omega) (by omega) hq e
    by_cases hm : v ∈ bvs bs
    · obtain ⟨q, hq, e⟩ := List.mem_map.mp hm
      obtain ⟨j, hj⟩ := List.mem_iff_getElem?.mp hq
      have h0 := key2 j 0 j q (by omega) (by omega) hj e
      rw [if_neg (fun z => z.2 hm)]
      exact ⟨_, h0, mI_at, F1.trans (Fj.ofI (by unfold mdS; omega))⟩
    · have h0 := key1 hm bs.length 0 (by omega) (by omega)
      rw [if_pos ⟨hv, hm⟩]
      obtain ⟨M', e1, e2⟩ := rest hm
      exact ⟨M', h0.trans e1, e2⟩
  · rw [if_neg hv, if_pos rfl, if_neg (fun q => hv q.1), hG.gM, gd_t, M_fails_s hG, cI_s, hR.2.1]
    exact ⟨_, rfl, mI_at, Fj.ofI (by unfold mdS; omega)⟩
theorem M_readBounds_loop : ∀ (n p : Nat) (bs : Bnd) (M : Mem), Good M → RSm M T p → NBm M bs → (flt bs).length ≤ p → mI M 1269 3 = -1 → mI M 1269 9 = 0 → mI M 1269 10 = 1 → 4 * bs.length ≤ p → bs.length + n = 200 → ∃ M', M_readBounds_26 1269 1 M = some (some (.inl (oki (rbs T n bs p))), M') ∧ (match rbs T n bs p with
    | .error e => mI M' 1269 3 = (e : Int)
    | .ok cs => NBm M' cs ∧ mI M' 1269 3 = -1) ∧ Fj mdS M M' := by
  intro n
  induction n with
  | zero =>
    intro p bs M hG hR hN hfp hf h9 h10 h4 hn
    have hT := hR.1.2.1
    have hnv : ¬ isV (pek T p) := fun q => by have := pek_V q; omega
    obtain ⟨M1, a1, a2, a3⟩ := M_readBound_s hG hR hN (fun q => absurd q hnv) hfp hf h9 h10
    have e0 : rbd T bs p = .error p := if_neg fun q => hnv q.1
    rw [e0] at a1 a2
    rw [M_readBounds_26_eq, if_neg (by decide), hG.gM, gd_t, a1, cI_s, if_pos (oki_er p)]
    exact ⟨M1, rfl, a2, a3.mono fun a k q => q.1⟩
  | succ n ih =>
    intro p bs M hG hR hN hfp hf h9 h10 h4 hn
    obtain ⟨M1, a1, a2, a3⟩ := M_readBound_s hG hR hN (fun _ => by omega) hfp hf h9 h10
    have hG1 := hG.fj a3
    have F1 : Fj mdS M M1 := a3.mono fun a k q => q.1
    unfold rbs
    rw [M_readBounds_26_eq, if_neg (by decide), hG.gM, gd_t, a1, cI_s]
    cases hx : rbd T bs p with
    | error q =>
      rw [hx] at a2
      rw [if_pos (oki_er q), ob_e]
      exact ⟨M1, rfl, a2, F1⟩
    | ok r =>
      rw [hx] at a2
      obtain ⟨a4, a5, a6⟩ : RSm M1 T r.1 ∧ NBm M1 (bs ++ [r.2]) ∧ mI M1 1269 3 = -1 := a2
      obtain ⟨c1, c2, c3, -⟩ := rbd_ok hx
      have c4 : 1 ≤ r.2.2.length := by
        cases h5 : r.2.2 with
        | nil => rw [h5] at c3; exact absurd c3.1 (fun h => h)
        | cons a b => simp
      rw [if_neg (oki_ok r), ob_o, hG1.gM, gd_t, M_here_s hG1 a4, cI_s]
      by_cases h2 : pek T r.1 = 59
      · have hlt2 := pek_lt (T := T) (p := r.1) (by omega)
        have f2 : Fj (fun a k => a = 1269 ∧ k = 2) M1 (stI M1 1269 2 ((r.1 + 1 : Nat) : Int)) := Fj.ofI ⟨rfl, rfl⟩
        have hT := hR.1.2.1
        obtain ⟨M2, d1, d2, d3⟩ := ih (r.1 + 1) (bs ++ [r.2]) _ (hG1.fj f2) (a4.at (q := r.1 + 1) hlt2) (a5.fj f2 (by omega) (by omega)) (by rw [flt_one]; omega) ((f2.2.2 _ _ (by omega)).trans a6) ((f2.2.2 _ _ (by omega)).trans ((a3.2.2 _ _ (by omega)).trans h9)) ((f2.2.2 _ _ (by omega)).trans ((a3.2.2 _ _ (by omega)).trans h10)) (by rw [List.length_append, List.length_singleton]; omega) (by rw [List.length_append, List.length_singleton]; omega)
        rw [if_pos h2, if_neg (by omega), xpc_p h2, ob_o, hG1.gM, gd_t, gd_t, a4.2.1, wr_s (by omega)]
        exact ⟨M2, d1, d2, (F1.trans (f2.mono fun a k q => by unfold mdS; omega)).trans d3⟩
      · rw [if_neg h2, M_readBounds_26_eq, if_pos rfl, hG1.gM, gd_t, gd_t, a4.2.1, a4.1.1]
        by_cases h1 : r.1 = T.length
        · rw [if_pos (by omega), if_pos h1]
          exact ⟨M1, rfl, ⟨a5, a6⟩, F1⟩
        · rw [if_neg (by omega), if_neg h1, gd_t, gd_t, M_fails_s hG1, cI_s, if_pos rfl, xpc_n h2, ob_e]
          exact ⟨_, rfl, mI_at, F1.trans (Fj.ofI (by unfold mdS; omega))⟩
theorem M_readBounds_s (hG : Good M) (hT : TPm M T) : ∃ M', M_readBounds 1269 M = some (some (.inl (oki (rbb T))), M') ∧ (match rbb T with
    | .error e => mI M' 1269 3 = (e : Int)
    | .ok cs => NBm M' cs ∧ mI M' 1269 3 = -1) ∧ Fj mdS M M' := by
  obtain ⟨M1, a1, a2, ⟨a3, a4, a5⟩, a6⟩ := M_beginText_s hG (Or.inr rfl) hT
  have hG1 := hG.fj a6
  have f2 : Fj (fun a k => a = 1269 ∧ (k = 40 ∨ k = 41)) M1 (stI (stI M1 1269 40 0) 1269 41 0) := (Fj.ofI (by omega)).trans (Fj.ofI (by omega))
  have hN2 : NBm (stI (stI M1 1269 40 0) 1269 41 0) [] := ⟨⟨by rw [mI_ne (by omega), mI_at]; rfl, mI_at⟩, fun i q hq => by simp at hq, (⟨fun q hq => (by cases hq), Nat.zero_le _, Nat.zero_le _⟩ : bok [])⟩
  have F2 : Fj mdS M (stI (stI M1 1269 40 0) 1269 41 0) := (a6.mono fun a k q => by unfold mdS; omega).trans (f2.mono fun a k q => by unfold mdS; omega)
  have hR2 := a2.fj f2 (by omega) (by omega) (by omega)
  unfold rbb
  rw [M_readBounds_eq, hG.gM, gd_t, a1, cV_s, hG1.gM, gd_t, gd_t, gd_t, hR2.1.1]
  by_cases h1 : T.length = 0
  · rw [if_pos (by omega), if_pos h1]
    exact ⟨_, rfl, ⟨hN2, (f2.2.2 _ _ (by omega)).trans a3⟩, F2⟩
  · rw [if_neg (by omega), if_neg h1]
    obtain ⟨M3, b1, b2, b3⟩ := M_readBounds_loop 200 0 [] _ (hG1.fj f2) hR2 hN2 (Nat.le_refl _) ((f2.2.2 _ _ (by omega)).trans a3) ((f2.2.2 _ _ (by omega)).trans a4) ((f2.2.2 _ _ (by omega)).trans a5) (Nat.zero_le _) rfl
    exact ⟨M3, b1, b2, F2.trans b3⟩
end MBD

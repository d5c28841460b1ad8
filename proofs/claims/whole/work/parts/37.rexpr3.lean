/-! ===== the class reads an expression: the rounds ===== -/
/-- what a cell may be, by what is read -/
def pcl (left : Option (List Int)) (cons : Bool) (c : Int) : Prop := (kd c = 0 → (0 ≤ c ∧ c < 1414) ∧ ∀ vs, left = some vs → c ∈ vs) ∧ (cons = true → kd c = 1)
theorem thg_ok {T : List Int} {left : Option (List Int)} {cons : Bool} {p : Nat} {xs : List Int} (hp : p ≤ T.length) : (thg T left cons p xs).1 = 0 ∨ ∃ c p1, (p < p1 ∧ p1 ≤ T.length) ∧ (vc c ∧ arN c = 0 ∧ pcl left cons c) ∧ (thg T left cons p xs = (1, p1, xs ++ [c]) ∧ (kd c = 1 ∨ kd c = 2) ∨ thg T left cons p xs = (2, p1, xs ++ [c])) := by
  unfold thg
  by_cases h1 : cons = false ∧ isV (pek T p)
  · rw [if_pos h1]
    have hlt := pek_V h1.2
    have h2 : 109 ≤ pek T p ∧ pek T p ≤ 122 := h1.2
    obtain ⟨r1, r2⟩ := rdn_rng (T := T) (p := p) (f := 109) (k := 13) (by omega)
    obtain ⟨q1, q2⟩ := rdn_le (f := 109) hlt
    split
    · rename_i hm
      obtain ⟨k1, k2, k3⟩ := kd_var (c := (rdn T p 109).1) (by omega)
      exact Or.inr ⟨_, _, ⟨q1, q2⟩, ⟨vc_var (by omega), by unfold arN; rw [k2]; rfl, fun _ => ⟨by omega, hm⟩, fun hc => by rw [hc] at h1; cases h1.1⟩, Or.inr rfl⟩
    · exact Or.inl rfl
  · rw [if_neg h1]
    by_cases h2 : cons = false ∧ isF (pek T p)
    · rw [if_pos h2]
      have hlt := pek_F h2.2
      have h3 : 97 ≤ pek T p ∧ pek T p ≤ 108 := h2.2
      obtain ⟨r1, r2⟩ := rdn_rng (T := T) (p := p) (f := 97) (k := 11) (by omega)
      obtain ⟨q1, q2⟩ := rdn_le (f := 97) hlt
      obtain ⟨k1, k2, k3⟩ := kd_mk (k := 2) (a := 0) (s := (rdn T p 97).1) (by omega) (by omega) (by omega)
      rw [show (2 : Int) * 16777216 + 0 * 65536 + (rdn T p 97).1 = 33554432 + (rdn T p 97).1 by omega] at k1 k2 k3
      have hvc : vc (33554432 + (rdn T p 97).1) := by
        unfold vc
        rw [k1, k2, k3]
        omega
      have hok : vc (33554432 + (rdn T p 97).1) ∧ arN (33554432 + (rdn T p 97).1) = 0 ∧ pcl left cons (33554432 + (rdn T p 97).1) := ⟨hvc, by unfold arN; rw [k2]; rfl, fun q => by rw [k1] at q; omega, fun hc => by rw [hc] at h2; cases h2.1⟩
      by_cases h4 : pek T (rdn T p 97).2 = 40
      · rw [if_pos h4]
        have l1 := pek_lt (T := T) (p := (rdn T p 97).2) (by omega)
        by_cases h5 : pek T ((rdn T p 97).2 + 1) = 41
        · rw [if_pos h5]
          have l2 := pek_lt (T := T) (p := (rdn T p 97).2 + 1) (by omega)
          exact Or.inr ⟨_, _, ⟨by omega, by omega⟩, hok, Or.inr rfl⟩
        · rw [if_neg h5]
          exact Or.inr ⟨_, _, ⟨by omega, by omega⟩, hok, Or.inl ⟨rfl, Or.inr k1⟩⟩
      · rw [if_neg h4]
        exact Or.inl rfl
    · rw [if_neg h2]
      by_cases h3 : cons = false ∧ pek T p = 33
      · rw [if_pos h3]
        have l1 := pek_lt (T := T) (p := p) (by omega)
        exact Or.inr ⟨_, _, ⟨by omega, by omega⟩, ⟨vc_stuck, by decide, fun q => absurd q (by decide), fun hc => by rw [hc] at h3; cases h3.1⟩, Or.inr rfl⟩
      · rw [if_neg h3]
        by_cases h4 : isK (pek T p)
        · rw [if_pos h4]
          have hlt := pek_K h4
          have h5 : 65 ≤ pek T p ∧ pek T p ≤ 90 := h4
          obtain ⟨k1, k2, k3⟩ := kd_mk (k := 1) (a := 0) (s := pek T p - 65) (by omega) (by omega) (by omega)
          rw [show (1 : Int) * 16777216 + 0 * 65536 + (pek T p - 65) = 16777216 + (pek T p - 65) by omega] at k1 k2 k3
          have hok : vc (16777216 + (pek T p - 65)) ∧ arN (16777216 + (pek T p - 65)) = 0 ∧ pcl left cons (16777216 + (pek T p - 65)) := ⟨by unfold vc; rw [k1, k2, k3]; omega, by unfold arN; rw [k2]; rfl, fun q => by rw [k1] at q; omega, fun _ => k1⟩
          by_cases h6 : pek T (p + 1) = 40
          · rw [if_pos h6]
            have l2 := pek_lt (T := T) (p := p + 1) (by omega)
            exact Or.inr ⟨_, _, ⟨by omega, by omega⟩, hok, Or.inl ⟨rfl, Or.inl k1⟩⟩
          · rw [if_neg h6]
            exact Or.inr ⟨_, _, ⟨by omega, by omega⟩, hok, Or.inr rfl⟩
        · rw [if_neg h4]
          exact Or.inl rfl
theorem wf_one {c : Int} (h : arN c = 0) : wf 1 [c] := by show wf (0 + arN c) []; rw [h]; trivial
theorem IV_push {st : List (Nat × Nat)} {xs : List Int} {c : Int} (h : IV st xs) (ha : arN c = 0) (hk : kd c = 1 ∨ kd c = 2) : IV (((xs ++ [c]).length - 1, 0) :: st) (xs ++ [c]) := by
  have e : (xs ++ [c]).length - 1 = xs.length := by simp
  rw [e]
  have e2 : nth (xs ++ [c]) xs.length = c := by rw [nth_app2 (Nat.le_refl _), Nat.sub_self]; rfl
  refine ⟨⟨by simp, ?_⟩, ⟨?_, ?_, ?_⟩, ?_⟩
  · show wf 0 ((xs ++ [c]).drop (xs.length + 1))
    rw [List.drop_eq_nil_of_le (by simp)]
    trivial
  · show arN (nth (xs ++ [c]) xs.length) = 0; rw [e2]; exact ha
  · show kd (nth (xs ++ [c]) xs.length) = 1 ∨ _; rw [e2]; exact hk
  · show 0 < mst (nth (xs ++ [c]) xs.length); have := mst_rng (nth (xs ++ [c]) xs.length); omega
  · show IV st ((xs ++ [c]).take xs.length)
    rw [List.take_append_of_le_length (Nat.le_refl _), List.take_length]
    exact h
theorem cls_adv (T : List Int) : ∀ (st : List (Nat × Nat)) (p : Nat) (xs : List Int), p ≤ (cls T st p xs).2.1 := by
  intro st
  induction st with
  | nil => intro p xs; exact Nat.le_refl _
  | cons q st ih =>
    intro p xs
    obtain ⟨h, c⟩ := q
    rw [cls_cons]
    split
    · exact Nat.le_succ _
    · split
      · exact Nat.le_trans (Nat.le_succ _) (ih _ _)
      · exact Nat.le_refl _
theorem pcl_cls {T : List Int} {st : List (Nat × Nat)} {p : Nat} {ys t : List Int} {left : Option (List Int)} {cons : Bool} (hI : IV st ys) (hw : wf 1 t) (hv : av (ys ++ t)) (hp : p ≤ T.length) (h : ∀ c ∈ ys ++ t, pcl left cons c) : ∀ c ∈ (cls T st p (ys ++ t)).2.2.1, pcl left cons c := by
  intro c hc
  obtain ⟨h1, d, h2, h3⟩ := (cls_inv T st p ys t hI hw hv hp).2.2 c hc
  exact ⟨fun k0 => (h c (h1 k0)).1 k0, fun q => by rw [h3]; exact (h d h2).2 q⟩
/-- what rounds give -/
theorem rex_inv (T : List Int) (left : Option (List Int)) (cons : Bool) : ∀ (n p : Nat) (xs : List Int) (st : List (Nat × Nat)), IV st xs → av xs → (∀ c ∈ xs, pcl left cons c) → p ≤ T.length → (rex T left cons n p xs st).1 = true → (wf 1 (rex T left cons n p xs st).2.2 ∧ av (rex T left cons n p xs st).2.2 ∧ (rex T left cons n p xs st).2.2.length ≤ 40) ∧ ((∀ c ∈ (rex T left cons n p xs st).2.2, pcl left cons c) ∧ p < (rex T left cons n p xs st).2.1 ∧ (rex T left cons n p xs st).2.1 ≤ T.length) := by
  intro n
  induction n with
  | zero => intro p xs st _ _ _ _ h; cases h
  | succ n ih =>
    intro p xs st hI hv hc hp hok
    rw [rex_s] at hok ⊢
    by_cases h1 : xs.length < 40 ∧ st.length < 20
    · rw [if_pos h1] at hok ⊢
      rcases thg_ok (T := T) (left := left) (cons := cons) (xs := xs) hp with h2 | ⟨c, p1, h3, ⟨h4, h5, h6⟩, h7⟩
      · obtain ⟨a, b, h2⟩ : ∃ a b, thg T left cons p xs = (0, a, b) := ⟨_, _, Prod.ext h2 rfl⟩
        rw [h2, rx1_0] at hok
        cases hok
      · have hv2 : av (xs ++ [c]) := av_app hv (fun d hd => by rw [List.mem_singleton.mp hd]; exact h4)
        have hc2 : ∀ d ∈ xs ++ [c], pcl left cons d := fun d hd => (List.mem_append.mp hd).elim (hc d) (fun q => by rw [List.mem_singleton.mp q]; exact h6)
        rcases h7 with ⟨h7, hk⟩ | h7
        · rw [h7, rx1_1] at hok ⊢
          obtain ⟨r1, r2, r3, r4⟩ := ih p1 (xs ++ [c]) (((xs ++ [c]).length - 1, 0) :: st) (IV_push hI h5 hk) hv2 hc2 h3.2 hok
          exact ⟨r1, r2, by omega, r4⟩
        · rw [h7, rx1_2] at hok ⊢
          obtain ⟨s1, ⟨s2, s3, s4, s5⟩, s6⟩ := cls_inv T st p1 xs [c] hI (wf_one h5) hv2 h3.2
          have s7 := pcl_cls (T := T) (st := st) (p := p1) hI (wf_one h5) hv2 h3.2 hc2
          have hadv : p1 ≤ (cls T st p1 (xs ++ [c])).2.1 := cls_adv T st p1 _
          generalize cls T st p1 (xs ++ [c]) = r at *
          obtain ⟨r1, r2, r3, r4⟩ := r
          rcases s1 with ⟨t1, t2, t3⟩ | ⟨t1, t2, t3⟩ | t1
          · have t1 : r1 = 1 := t1
            subst t1
            cases r4 with
            | nil => exact absurd rfl t3
            | cons q r4 =>
              rw [rx2_1] at hok ⊢
              obtain ⟨u1, u2, u3, u4⟩ := ih r2 r3 (q :: r4) t2 s2 s7 s4 hok
              exact ⟨u1, u2, by have hadv : p1 ≤ r2 := hadv; omega, u4⟩
          · have t1 : r1 = 2 := t1
            have t3 : r4 = [] := t3
            subst t1
            subst t3
            rw [rx2_2] at hok ⊢
            have s3 : r3.length = (xs ++ [c]).length := s3
            rw [List.length_append, List.length_singleton] at s3
            exact ⟨⟨t2, s2, by show r3.length ≤ 40; omega⟩, s7, by have hadv : p1 ≤ r2 := hadv; show p < r2; omega, s4⟩
          · have t1 : r1 = 0 := t1
            subst t1
            rw [rx2_0] at hok
            cases hok
    · rw [if_neg h1] at hok
      cases hok
section ROUNDS
variable {T : List Int} {e N : Nat}
/-- how an expression's reading ends -/
def EX3 (M' : Mem) (T : List Int) (e N : Nat) (q : Bool × Nat × List Int) : Prop := match q with
  | (true, p1, xs1) => RSc M' T p1 ∧ XE M' e N xs1
  | (false, p1, _) => mI M' 3 7 = (p1 : Int) ∧ ∃ ys, XE M' e N ys
theorem Re_readExpr_loop (he : 6 < e) (hN : 40 ≤ N) {c : Nat} {left : Option (List Int)} (hce : left ≠ none → 6 < c ∧ c + 1 < e) {cons : Bool} (hcl : cons = true → left = none) : ∀ (n p : Nat) (xs : List Int) (st : List (Nat × Nat)) (M : Mem) (d5 : LV), Good M → LFc M c left → RE M T p e N xs st → IV st xs → av xs → xs.length + n = 41 → ∃ M', Re_readExpr_12 3 e c (if cons = true then 1 else 0) (xs.length : Int) d5 M = some (some (.inl (if (rex T left cons n p xs st).1 = true then 1 else 0)), M') ∧ EX3 M' T e N (rex T left cons n p xs st) ∧ Fj (exS e) M M' := by
  intro n
  induction n with
  | zero =>
    intro p xs st M d5 hG hL h hI hv hn
    rw [Re_readExpr_12_eq, if_pos (by omega), hG.gR, gd_t, gd_t, Re_fail_s hG, cI_s, h.1.2.1]
    exact ⟨_, rfl, ⟨mI_at, _, h.2.1.o7 he⟩, Fj.ofI (by unfold exS rS; omega)⟩
  | succ n ih =>
    intro p xs st M d5 hG hL h hI hv hn
    have hsl := h.2.2.1.2
    have hp := h.1.2.2
    rw [Re_readExpr_12_eq, if_neg (by omega), h.g hG, gd_t, h.2.1.s]
    rw [rex_s]
    by_cases h1 : xs.length < 40 ∧ st.length < 20
    · rw [if_pos h1, if_pos (by omega), hG.gR, gd_t, h.2.2.1.1, if_pos (by omega)]
      have hthg : ∃ M1, (if (if cons = true then (1 : Int) else 0) = 0 then gd true (cI (Re_readThing 3 e c M) fun r4 M3 => Re_readExpr_64 3 e c (if cons = true then 1 else 0) (xs.length : Int) r4 d5 M3) else gd true (cI (Re_readCon 3 e M) fun r6 M5 => Re_readExpr_64 3 e c (if cons = true then 1 else 0) (xs.length : Int) r6 d5 M5)) = Re_readExpr_64 3 e c (if cons = true then 1 else 0) (xs.length : Int) ((thg T left cons p xs).1 : Nat) d5 M1 ∧ TH M1 T e N st (thg T left cons p xs) ∧ Fj (exS e) M M1 := by
        cases cons with
        | false =>
          obtain ⟨M1, a1, a2, a3⟩ := Re_readThing_s hG he h (by omega) h1.2 hL hce
          exact ⟨M1, by rw [if_pos (by decide), gd_t, a1, cI_s], a2, a3⟩
        | true =>
          have hl := hcl rfl
          subst hl
          obtain ⟨M1, a1, a2, a3⟩ := Re_readCon_s hG he h (by omega) h1.2
          exact ⟨M1, by rw [if_neg (by decide), gd_t, a1, cI_s], a2, a3⟩
      obtain ⟨M1, a1, a2, a3⟩ := hthg
      rw [a1]
      have hG1 := hG.fj a3
      have hL1 : LFc M1 c left := hL.fj a3 fun hn k => by have := hce hn; unfold exS rS; omega
      rcases thg_ok (T := T) (left := left) (cons := cons) (xs := xs) hp with h2 | ⟨w, p1, h3, ⟨h4, h5, h6⟩, h7⟩
      · obtain ⟨a, b, h2⟩ : ∃ a b, thg T left cons p xs = (0, a, b) := ⟨_, _, Prod.ext h2 rfl⟩
        rw [h2] at a2 ⊢
        rw [rx1_0]
        rw [Re_readExpr_64_eq, if_neg (show ¬ ((0 : Nat) : Int) = 2 by decide), if_pos (show ((0 : Nat) : Int) = 0 from rfl)]
        exact ⟨M1, rfl, a2, a3⟩
      · have hv2 : av (xs ++ [w]) := av_app hv (fun d hd => by rw [List.mem_singleton.mp hd]; exact h4)
        have e1 : (xs.length : Int) + 1 = ((xs ++ [w]).length : Int) := by rw [List.length_append]; rfl
        rcases h7 with ⟨h7, hk⟩ | h7
        · rw [h7] at a2 ⊢
          rw [rx1_1]
          have a2 : RE M1 T p1 e N (xs ++ [w]) (((xs ++ [w]).length - 1, 0) :: st) := a2
          obtain ⟨M2, b1, b2, b3⟩ := ih p1 (xs ++ [w]) (((xs ++ [w]).length - 1, 0) :: st) M1 (some (.inl 1)) hG1 hL1 a2 (IV_push hI h5 hk) hv2 (by rw [List.length_append, List.length_singleton]; omega)
          have hso : mI M1 3 6 = ((st.length + 1 : Nat) : Int) := a2.2.2.1.1
          rw [Re_readExpr_64_eq, if_neg (show ¬ ((1 : Nat) : Int) = 2 by decide), if_neg (show ¬ ((1 : Nat) : Int) = 0 by decide), hG1.gR, gd_t, hso, if_neg (by omega), wr_id (x := (xs.length : Int) + 1) (by omega) (by omega), e1]
          exact ⟨M2, b1, b2, a3.trans b3⟩
        · rw [h7] at a2 ⊢
          rw [rx1_2]
          have a2 : RE M1 T p1 e N (xs ++ [w]) st := a2
          obtain ⟨M2, b1, b2, b3⟩ := Re_closeThings_s hG1 he st p1 xs [w] M1 none none hG1 a2 hI (wf_one h5) hv2
          have hG2 := hG1.fj b3
          have hL2 : LFc M2 c left := hL1.fj b3 fun hn k => by have := hce hn; unfold exS rS; omega
          obtain ⟨s1, ⟨s2, s3, s4, s5⟩, s6⟩ := cls_inv T st p1 xs [w] hI (wf_one h5) hv2 h3.2
          have e0 : Re_closeThings 3 e M1 = Re_closeThings_0 3 e none none M1 := (Re_closeThings_eq 3 e M1).trans (Re_closeThings_0_eq 3 e none none M1).symm
          rw [Re_readExpr_64_eq, if_pos (show ((2 : Nat) : Int) = 2 from rfl), hG1.gR, gd_t, e0, b1, cI_s]
          generalize cls T st p1 (xs ++ [w]) = r at *
          obtain ⟨r1, r2, r3, r4⟩ := r
          rcases s1 with ⟨t1, t2, t3⟩ | ⟨t1, t2, t3⟩ | t1
          · have t1 : r1 = 1 := t1
            subst t1
            cases r4 with
            | nil => exact absurd rfl t3
            | cons q r4 =>
              have b2 : RE M2 T r2 e N r3 (q :: r4) := b2
              have hso : mI M2 3 6 = ((r4.length + 1 : Nat) : Int) := b2.2.2.1.1
              have s3 : r3.length = (xs ++ [w]).length := s3
              rw [List.length_append, List.length_singleton] at s3
              obtain ⟨M3, c1, c2, c3⟩ := ih r2 r3 (q :: r4) M2 (some (.inl 1)) hG2 hL2 b2 t2 s2 (by omega)
              rw [s3] at c1
              rw [rx2_1]
              rw [if_neg (show ¬ ((1 : Nat) : Int) = 0 by decide), hG2.gR, gd_t, hso, if_neg (by omega), wr_s (by omega)]
              exact ⟨M3, c1, c2, (a3.trans b3).trans c3⟩
          · have t1 : r1 = 2 := t1
            have t3 : r4 = [] := t3
            subst t1
            subst t3
            have b2 : RE M2 T r2 e N r3 [] := b2
            rw [rx2_2]
            rw [if_neg (show ¬ ((2 : Nat) : Int) = 0 by decide), hG2.gR, gd_t, b2.2.2.1.1, if_pos (show (([] : List (Nat × Nat)).length : Int) = 0 from rfl)]
            exact ⟨M2, rfl, ⟨b2.1, b2.2.1⟩, a3.trans b3⟩
          · have t1 : r1 = 0 := t1
            subst t1
            rw [rx2_0]
            rw [if_pos (show ((0 : Nat) : Int) = 0 from rfl)]
            exact ⟨M2, rfl, b2, a3.trans b3⟩
    · rw [if_neg h1]
      have hf : ∃ M', cI (Re_fail 3 (mI M 3 5) M) (fun r8 M7 => gd (decide (r8 = 0 ∨ r8 = 1)) (some (some (.inl r8), M7))) = some (some (.inl 0), M') ∧ EX3 M' T e N (false, p, xs) ∧ Fj (exS e) M M' := by
        rw [Re_fail_s hG, cI_s, h.1.2.1]
        exact ⟨_, rfl, ⟨mI_at, _, h.2.1.o7 he⟩, Fj.ofI (by unfold exS rS; omega)⟩
      obtain ⟨M', f1, f2, f3⟩ := hf
      refine ⟨M', ?_, f2, f3⟩
      rw [if_neg (show ¬ (false, p, xs).1 = true from fun q => by cases q)]
      by_cases h2 : xs.length < 40
      · rw [if_pos (by omega), hG.gR, gd_t, h.2.2.1.1, if_neg (by omega), gd_t, gd_t]
        exact f1
      · rw [if_neg (by omega), hG.gR, gd_t, gd_t]
        exact f1
/-- the class reads an expression -/
theorem Re_readExpr_s {M : Mem} (hG : Good M) (he : 6 < e) (hN : 40 ≤ N) {c : Nat} {left : Option (List Int)} (hce : left ≠ none → 6 < c ∧ c + 1 < e) {cons : Bool} (hcl : cons = true → left = none) {p : Nat} (hL : LFc M c left) (hR : RSc M T p) {ys : List Int} (hX : XE M e N ys) : ∃ M', Re_readExpr 3 e c (if cons = true then 1 else 0) M = some (some (.inl (if (rex T left cons 41 p [] []).1 = true then 1 else 0)), M') ∧ EX3 M' T e N (rex T left cons 41 p [] []) ∧ Fj (exS e) M M' := by
  obtain ⟨M1, a1, a2, a3⟩ := Ex_clear_s hG hX
  have hF1 : Fj (fun a _ => a = e ∨ a = e + 1) M M1 := a3.fj fun a k q => q
  have hG1 := hG.fj hF1
  have hF2 : Fj (fun a k => (a = 3 ∧ k = 6) ∨ a = e ∨ a = e + 1) M (stI M1 3 6 0) := (hF1.mono fun a k q => by omega).trans (Fj.ofI (by omega))
  have hRE : RE (stI M1 3 6 0) T p e N [] [] := ⟨hR.fj hF2 (by omega) (by omega) (by omega), a2.fj (Fj.ofI (S := fun a k => a = 3 ∧ k = 6) ⟨rfl, rfl⟩) (by omega) (by omega), ⟨mI_at, Nat.zero_le _⟩, trivial⟩
  have hL2 : LFc (stI M1 3 6 0) c left := hL.fj hF2 fun hn k => by have := hce hn; omega
  obtain ⟨M2, b1, b2, b3⟩ := Re_readExpr_loop he hN hce hcl 41 p [] [] (stI M1 3 6 0) none (hG.fj hF2) hL2 hRE rfl (fun c hc => by cases hc) rfl
  refine ⟨M2, ?_, b2, (hF2.mono fun a k q => by unfold exS rS; omega).trans b3⟩
  rw [Re_readExpr_eq, hX.g hG, gd_t, a1, cV_s, hG1.gR, gd_t]
  exact b1
end ROUNDS

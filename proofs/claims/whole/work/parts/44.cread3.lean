/-! ===== the class reads whole expressions and what is bound ===== -/
noncomputable def whl (T : List Int) : Except Nat (List Int) := ob (rxo T none false 0) fun x => if x.1 = T.length then .ok x.2 else .error x.1
noncomputable def rbd (T : List Int) (bs : Bnd) (p : Nat) : Except Nat (Nat × (Int × List Int)) :=
  haveI := Classical.propDecidable
  if isV (pek T p) ∧ (rdn T p 109).1 ∉ bvs bs then ob (xpc T (rdn T p 109).2 61) fun p1 => ob (rxo T none true p1) fun x => .ok (x.1, ((rdn T p 109).1, x.2)) else .error p
noncomputable def rbs (T : List Int) : Nat → Bnd → Nat → Except Nat Bnd
  | 0, _, p => .error p
  | n + 1, bs, p => ob (rbd T bs p) fun r => if r.1 = T.length then .ok (bs ++ [r.2]) else ob (xpc T r.1 59) fun p1 => rbs T n (bs ++ [r.2]) p1
noncomputable def rbb (T : List Int) : Except Nat Bnd := if T.length = 0 then .ok [] else rbs T 200 [] 0
theorem rxo_ok {T : List Int} {left : Option (List Int)} {cons : Bool} {p : Nat} {x : Nat × List Int} (hp : p ≤ T.length) (h : rxo T left cons p = .ok x) : (wf 1 x.2 ∧ av x.2 ∧ x.2.length ≤ 40) ∧ (∀ c ∈ x.2, pcl left cons c) ∧ p < x.1 ∧ x.1 ≤ T.length := by
  unfold rxo at h
  split at h
  · rename_i h1
    cases h
    exact rex_inv T left cons 41 p [] [] rfl (fun c hc => by cases hc) (fun c hc => by cases hc) hp h1
  · cases h
theorem cls_len (T : List Int) : ∀ (st : List (Nat × Nat)) (p : Nat) (xs : List Int), (cls T st p xs).2.2.1.length = xs.length := by
  intro st
  induction st with
  | nil => intro p xs; rfl
  | cons q st ih =>
    intro p xs
    unfold cls
    split
    · rfl
    · split
      · rw [ih]; unfold sar; rw [List.length_set]
      · rfl
theorem cls_le (T : List Int) : ∀ (st : List (Nat × Nat)) (p : Nat) (xs : List Int), p ≤ T.length → (cls T st p xs).2.1 ≤ T.length := by
  intro st
  induction st with
  | nil => intro p xs h; exact h
  | cons q st ih =>
    intro p xs h
    unfold cls
    split
    · rename_i h1
      have := pek_lt (T := T) (p := p) (by omega)
      exact this
    · split
      · rename_i h1
        have := pek_lt (T := T) (p := p) (by omega)
        exact ih _ _ this
      · exact h
/-- an expression takes a sign for each of its cells at least -/
theorem rex_len (T : List Int) (left : Option (List Int)) (cons : Bool) : ∀ (n p : Nat) (xs : List Int) (st : List (Nat × Nat)), p ≤ T.length → (rex T left cons n p xs st).1 = true → (rex T left cons n p xs st).2.2.length + p ≤ (rex T left cons n p xs st).2.1 + xs.length := by
  intro n
  induction n with
  | zero => intro p xs st _ h; cases h
  | succ n ih =>
    intro p xs st hp hok
    rw [rex_s] at hok ⊢
    by_cases h1 : xs.length < 40 ∧ st.length < 20
    · rw [if_pos h1] at hok ⊢
      rcases thg_ok (T := T) (left := left) (cons := cons) (xs := xs) hp with h2 | ⟨c, p1, h3, -, h7⟩
      · obtain ⟨a, b, h2⟩ : ∃ a b, thg T left cons p xs = (0, a, b) := ⟨_, _, Prod.ext h2 rfl⟩
        rw [h2, rx1_0] at hok
        cases hok
      · rcases h7 with ⟨h7, hk⟩ | h7
        · rw [h7, rx1_1] at hok ⊢
          have h8 := ih _ _ _ h3.2 hok
          have h9 : (xs ++ [c]).length = xs.length + 1 := by simp
          omega
        · rw [h7, rx1_2] at hok ⊢
          have hadv : p1 ≤ (cls T st p1 (xs ++ [c])).2.1 := cls_adv T st p1 _
          have hlen := cls_len T st p1 (xs ++ [c])
          have hle := cls_le T st p1 (xs ++ [c]) h3.2
          generalize cls T st p1 (xs ++ [c]) = r at *
          obtain ⟨r1, r2, r3, r4⟩ := r
          have hadv : p1 ≤ r2 := hadv
          have hle : r2 ≤ T.length := hle
          have hlen : r3.length = (xs ++ [c]).length := hlen
          rw [List.length_append, List.length_singleton] at hlen
          by_cases t1 : r1 = 0
          · subst t1
            cases hok
          · unfold rx2 at hok ⊢
            rw [if_neg t1] at hok ⊢
            cases r4 with
            | nil => show r3.length + p ≤ r2 + xs.length; omega
            | cons q r4 =>
              have : (rex T left cons n r2 r3 (q :: r4)).2.2.length + r2 ≤ (rex T left cons n r2 r3 (q :: r4)).2.1 + r3.length := ih r2 r3 (q :: r4) hle hok
              show (rex T left cons n r2 r3 (q :: r4)).2.2.length + p ≤ (rex T left cons n r2 r3 (q :: r4)).2.1 + xs.length
              omega
    · rw [if_neg h1] at hok
      cases hok
theorem rxo_len {T : List Int} {left : Option (List Int)} {cons : Bool} {p : Nat} {x : Nat × List Int} (hp : p ≤ T.length) (h : rxo T left cons p = .ok x) : x.2.length + p ≤ x.1 := by
  unfold rxo at h
  split at h
  · rename_i h1
    cases h
    exact rex_len T left cons 41 p [] [] hp h1
  · cases h
section CREAD3
variable {M : Mem} {T : List Int} {p : Nat}
theorem EX3.o {M' : Mem} {e N : Nat} {left : Option (List Int)} {cons : Bool} (h : EX3 M' T e N (rex T left cons 41 p [] [])) : (match rxo T left cons p with
    | .error q => mI M' 3 7 = (q : Int) ∧ ∃ ys, XE M' e N ys
    | .ok x => RSc M' T x.1 ∧ XE M' e N x.2) ∧ (if (rex T left cons 41 p [] []).1 = true then (1 : Int) else 0) = oki (rxo T left cons p) := by
  unfold rxo
  generalize rex T left cons 41 p [] [] = X at *
  obtain ⟨x1, x2, x3⟩ := X
  cases x1 with
  | false => exact ⟨h, rfl⟩
  | true => exact ⟨h, rfl⟩
theorem Re_readWhole_s (hG : Good M) (hT : TPc M T) {e N : Nat} (he : 6 < e) (hN : 40 ≤ N) {ys : List Int} (hX : XE M e N ys) : ∃ M', Re_readWhole 3 e M = some (some (.inl (oki (whl T))), M') ∧ (match whl T with
    | .error q => mI M' 3 7 = (q : Int) ∧ ∃ ys, XE M' e N ys
    | .ok xs => XE M' e N xs) ∧ Fj (exS e) M M' := by
  have f1 : Fj (exS e) M (stI M 3 5 0) := Fj.ofI (by unfold exS rS; omega)
  have hG1 := hG.fj f1
  have hR1 : RSc (stI M 3 5 0) T 0 := ⟨hT.fj (Fj.ofI (S := fun a k => a = 3 ∧ k = 5) ⟨rfl, rfl⟩) (by omega) (by omega), mI_at, Nat.zero_le _⟩
  have hX1 : XE (stI M 3 5 0) e N ys := hX.fj (Fj.ofI (S := fun a k => a = 3 ∧ k = 5) ⟨rfl, rfl⟩) (by omega) (by omega)
  obtain ⟨M2, a1, a2, a3⟩ := Re_readExpr_s hG1 he hN (c := 0) (left := none) (fun q => absurd rfl q) (cons := false) (fun q => by cases q) rfl hR1 hX1
  obtain ⟨b1, b2⟩ := a2.o
  have hG2 := hG1.fj a3
  rw [if_neg (show ¬ false = true by decide), b2] at a1
  unfold whl
  rw [Re_readWhole_eq, hG.gR, gd_t, gd_t, a1, cI_s]
  cases hx : rxo T none false 0 with
  | error q =>
    rw [hx] at b1
    rw [if_pos (oki_er q), ob_e]
    exact ⟨M2, rfl, b1, f1.trans a3⟩
  | ok x =>
    rw [hx] at b1
    obtain ⟨b3, b4⟩ : RSc M2 T x.1 ∧ XE M2 e N x.2 := b1
    rw [if_neg (oki_ok x), ob_o, hG2.gR, gd_t, gd_t, b3.2.1, b3.1.1]
    by_cases h1 : x.1 = T.length
    · rw [if_pos (by omega), if_pos h1]
      exact ⟨M2, rfl, b4, f1.trans a3⟩
    · rw [if_neg (by omega), if_neg h1, gd_t, gd_t, Re_fail_s hG2, cI_s, if_pos rfl]
      exact ⟨_, rfl, ⟨mI_at, _, b4.o7 he⟩, (f1.trans a3).trans (Fj.ofI (by unfold exS rS; omega))⟩
def bdS (b : Nat) : Nat → Nat → Prop := fun a k => rS a k ∨ a = 7 ∨ a = 8 ∨ bS b a
theorem BDc.fj {M1 : Mem} {S : Nat → Nat → Prop} {b : Nat} {bs : Bnd} (h : BDc M b bs) (f : Fj S M M1) (h0 : ∀ a k, bS b a → ¬ S a k) : BDc M1 b bs := h.fr (f.fi (T := fun a => ∃ k, S a k) fun a k q => ⟨k, q⟩).fr fun a ha q => by obtain ⟨k, q⟩ := q; exact h0 a k ha q
theorem Re_readBinding_s (hG : Good M) (hR : RSc M T p) {b : Nat} (hb : 8 < b) {bs : Bnd} (hB : BDc M b bs) (hl : bs.length < 200) (hfl : (flt bs).length ≤ p) (hX : ∃ ys, XE M 7 40 ys) : ∃ M', Re_readBinding 3 b M = some (some (.inl (oki (rbd T bs p))), M') ∧ (match rbd T bs p with
    | .error q => mI M' 3 7 = (q : Int) ∧ BDc M' b bs ∧ ∃ ys, XE M' 7 40 ys
    | .ok r => RSc M' T r.1 ∧ BDc M' b (bs ++ [r.2]) ∧ ∃ ys, XE M' 7 40 ys) ∧ Fj (bdS b) M M' := by
  obtain ⟨ys, hX⟩ := hX
  have hT := hR.1.2.1
  have hB3 : ∀ {M1 : Mem} {k : Nat} {v : Int}, BDc M1 b bs → BDc (stI M1 3 k v) b bs := fun h => h.fj (Fj.ofI (S := fun a _ => a = 3) rfl) fun a k q => by unfold bS at q; omega
  have hX3 : ∀ {M1 : Mem} {k : Nat} {v : Int} {ys : List Int}, XE M1 7 40 ys → XE (stI M1 3 k v) 7 40 ys := fun h => h.fj (Fj.ofI (S := fun a _ => a = 3) rfl) (by omega) (by omega)
  unfold rbd
  rw [Re_readBinding_eq, hG.gR, gd_t, gd_t, Re_peek_s hG hR, cI_s, Re_isVarLetter_s, cI_s]
  by_cases hv : isV (pek T p)
  · have hv2 : 109 ≤ pek T p ∧ pek T p ≤ 122 := hv
    have hlt := pek_V hv
    obtain ⟨q1, q2⟩ := rdn_le (f := 109) hlt
    have f1 : Fj (bdS b) M (stI M 3 5 ((rdn T p 109).2 : Int)) := Fj.ofI (by unfold bdS rS; omega)
    have hG1 := hG.fj f1
    have hB1 : BDc (stI M 3 5 ((rdn T p 109).2 : Int)) b bs := hB3 hB
    have hR1 := hR.at q2
    rw [if_pos hv, if_neg (by decide), hG.gR, gd_t, Re_readName_s hG hR hlt (by omega), cI_s, hB1.g hG1, gd_t, Bo_has_s hG1 hB1, cI_s]
    by_cases hm : (rdn T p 109).1 ∈ bvs bs
    · rw [if_pos hm, if_neg (by decide), if_neg (fun q => q.2 hm), hG1.gR, gd_t, Re_fail_s hG1, cI_s, hR.2.1]
      exact ⟨_, rfl, ⟨mI_at, hB3 hB1, _, hX3 (hX3 hX)⟩, f1.trans (Fj.ofI (by unfold bdS rS; omega))⟩
    · rw [if_neg hm, if_pos rfl, if_pos ⟨hv, hm⟩, hG1.gR, gd_t, Re_expect_s hG1 hR1 61 (by decide)]
      by_cases h61 : pek T (rdn T p 109).2 = 61
      · have hlt2 := pek_lt (T := T) (p := (rdn T p 109).2) (by omega)
        have f2 : Fj (bdS b) (stI M 3 5 ((rdn T p 109).2 : Int)) (stI (stI M 3 5 ((rdn T p 109).2 : Int)) 3 5 (((rdn T p 109).2 + 1 : Nat) : Int)) := Fj.ofI (by unfold bdS rS; omega)
        have hG2 := hG1.fj f2
        have hR2 := hR1.at (q := (rdn T p 109).2 + 1) hlt2
        obtain ⟨M3, a1, a2, a3⟩ := Re_readExpr_s hG2 (e := 7) (N := 40) (by omega) (by decide) (c := 0) (left := none) (fun q => absurd rfl q) (cons := true) (fun _ => rfl) rfl hR2 (hX3 (hX3 hX))
        obtain ⟨b1, b2⟩ := a2.o
        have hG3 := hG2.fj a3
        have hB3' : BDc M3 b bs := (hB3 (k := 5) (v := (((rdn T p 109).2 + 1 : Nat) : Int)) hB1).fj a3 fun a k q => by unfold bS at q; unfold exS rS; omega
        have F3 : Fj (bdS b) M M3 := (f1.trans f2).trans (a3.mono fun a k q => by unfold exS rS at q; unfold bdS rS; omega)
        rw [if_pos (show true = true from rfl), b2] at a1
        rw [if_pos h61, cI_s, if_neg (show ¬ (1 : Int) = 0 by decide), xpc_p h61, ob_o, hG2.gR, gd_t, gd_t, hG2.r3_3, a1, cI_s]
        cases hx : rxo T none true ((rdn T p 109).2 + 1) with
        | error q =>
          rw [hx] at b1
          rw [if_pos (oki_er q), ob_e]
          exact ⟨M3, rfl, ⟨b1.1, hB3', b1.2⟩, F3⟩
        | ok x =>
          rw [hx] at b1
          obtain ⟨b3, b4⟩ : RSc M3 T x.1 ∧ XE M3 7 40 x.2 := b1
          have hxl := rxo_len hlt2 hx
          obtain ⟨-, -, -, hxt⟩ := rxo_ok hlt2 hx
          obtain ⟨M4, c1, c2, c3⟩ := Bo_add_s hG3 hB3' (rdn T p 109).1 b4 (by unfold bS; omega) (by unfold bS; omega) hl (by omega)
          have f4 : Fj (fun a _ => bS b a) M3 M4 := c3.fj fun a k q => q
          rw [if_neg (oki_ok x), ob_o, hG3.gR, gd_t, hB3'.g hG3, gd_t, hG3.r3_3, c1, cV_s]
          exact ⟨M4, rfl, ⟨b3.fj f4 (by unfold bS; omega) (fun k => by unfold bS; omega) (by unfold bS; omega), c2, _, b4.fj f4 (by unfold bS; omega) (by unfold bS; omega)⟩, F3.trans (f4.mono fun a k q => Or.inr (Or.inr (Or.inr q)))⟩
      · rw [if_neg h61, cI_s, if_pos rfl, xpc_n h61, ob_e]
        exact ⟨_, rfl, ⟨mI_at, hB3 hB1, _, hX3 (hX3 hX)⟩, f1.trans (Fj.ofI (by unfold bdS rS; omega))⟩
  · rw [if_neg hv, if_pos rfl, if_neg (fun q => hv q.1), hG.gR, gd_t, gd_t, Re_fail_s hG, cI_s, hR.2.1]
    exact ⟨_, rfl, ⟨mI_at, hB3 hB, _, hX3 hX⟩, Fj.ofI (by unfold bdS rS; omega)⟩
theorem rbd_ok {bs : Bnd} {r : Nat × (Int × List Int)} (h : rbd T bs p = .ok r) : p + 2 + r.2.2.length ≤ r.1 ∧ r.1 ≤ T.length ∧ (wf 1 r.2.2 ∧ av r.2.2 ∧ r.2.2.length ≤ 40) ∧ (∀ c ∈ r.2.2, pcl none true c) ∧ (0 ≤ r.2.1 ∧ r.2.1 < 1414) ∧ r.2.1 ∉ bvs bs := by
  unfold rbd at h
  split at h
  · rename_i h1
    have hv2 : 109 ≤ pek T p ∧ pek T p ≤ 122 := h1.1
    obtain ⟨r1, r2⟩ := rdn_rng (T := T) (p := p) (f := 109) (k := 13) (by omega)
    obtain ⟨q1, q2⟩ := rdn_le (f := 109) (pek_V h1.1)
    obtain ⟨p1, h2, h3⟩ := ob_ok h
    obtain ⟨x, h4, h5⟩ := ob_ok h3
    unfold xpc at h2
    split at h2
    · cases h2
      have hlt2 := pek_lt (T := T) (p := (rdn T p 109).2) (by omega)
      have a1 := rxo_len hlt2 h4
      obtain ⟨a2, a3, a4, a5⟩ := rxo_ok hlt2 h4
      cases h5
      exact ⟨by show p + 2 + x.2.length ≤ x.1; omega, a5, a2, a3, ⟨r1, by show (rdn T p 109).1 < 1414; omega⟩, h1.2⟩
    · cases h2
  · cases h
theorem flt_one (bs : Bnd) (q : Int × List Int) : (flt (bs ++ [q])).length = (flt bs).length + q.2.length := by
  rw [flt_app, List.length_append]
  unfold flt
  simp
theorem Re_readBound_loop {b : Nat} (hb : 8 < b) : ∀ (n p : Nat) (bs : Bnd) (M : Mem), Good M → RSc M T p → BDc M b bs → (∃ ys, XE M 7 40 ys) → (flt bs).length ≤ p → bs.length + n = 200 → ∃ M', Re_readBound_20 3 b (bs.length : Int) M = some (some (.inl (oki (rbs T n bs p))), M') ∧ (match rbs T n bs p with
    | .error q => mI M' 3 7 = (q : Int) ∧ ∃ cs, BDc M' b cs
    | .ok cs => BDc M' b cs) ∧ (∃ ys, XE M' 7 40 ys) ∧ Fj (bdS b) M M' := by
  intro n
  induction n with
  | zero =>
    intro p bs M hG hR hB hX hf hn
    obtain ⟨ys, hX⟩ := hX
    rw [Re_readBound_20_eq, if_neg (by omega), hG.gR, gd_t, gd_t, Re_fail_s hG, cI_s, hR.2.1]
    exact ⟨_, rfl, ⟨mI_at, _, hB.fj (Fj.ofI (S := fun a _ => a = 3) rfl) fun a k q => by unfold bS at q; omega⟩, ⟨_, hX.fj (Fj.ofI (S := fun a _ => a = 3) rfl) (by omega) (by omega)⟩, Fj.ofI (by unfold bdS rS; omega)⟩
  | succ n ih =>
    intro p bs M hG hR hB hX hf hn
    obtain ⟨M1, a1, a2, a3⟩ := Re_readBinding_s hG hR hb hB (by omega) hf hX
    have hG1 := hG.fj a3
    unfold rbs
    rw [Re_readBound_20_eq, if_pos (by omega), hG.gR, gd_t, a1, cI_s]
    cases hx : rbd T bs p with
    | error q =>
      rw [hx] at a2
      rw [if_pos (oki_er q), ob_e]
      exact ⟨M1, rfl, ⟨a2.1, _, a2.2.1⟩, a2.2.2, a3⟩
    | ok r =>
      rw [hx] at a2
      obtain ⟨a4, a5, a6⟩ : RSc M1 T r.1 ∧ BDc M1 b (bs ++ [r.2]) ∧ ∃ ys, XE M1 7 40 ys := a2
      obtain ⟨c1, c2, -⟩ := rbd_ok hx
      rw [if_neg (oki_ok r), ob_o, hG1.gR, gd_t, gd_t, a4.2.1, a4.1.1]
      by_cases h1 : r.1 = T.length
      · rw [if_pos (by omega), if_pos h1]
        exact ⟨M1, rfl, a5, a6, a3⟩
      · rw [if_neg (by omega), if_neg h1, gd_t, Re_expect_s hG1 a4 59 (by decide)]
        obtain ⟨ys, a6⟩ := a6
        by_cases h2 : pek T r.1 = 59
        · have hlt2 := pek_lt (T := T) (p := r.1) (by omega)
          have f2 : Fj (bdS b) M1 (stI M1 3 5 ((r.1 + 1 : Nat) : Int)) := Fj.ofI (by unfold bdS rS; omega)
          have e1 : (bs.length : Int) + 1 = ((bs ++ [r.2]).length : Int) := by rw [List.length_append]; rfl
          obtain ⟨M2, d1, d2, d3, d4⟩ := ih (r.1 + 1) (bs ++ [r.2]) _ (hG1.fj f2) (a4.at (q := r.1 + 1) hlt2) (a5.fj (Fj.ofI (S := fun a _ => a = 3) rfl) fun a k q => by unfold bS at q; omega) ⟨_, a6.fj (Fj.ofI (S := fun a _ => a = 3) rfl) (by omega) (by omega)⟩ (by rw [flt_one]; omega) (by rw [List.length_append, List.length_singleton]; omega)
          rw [if_pos h2, cI_s, if_neg (show ¬ (1 : Int) = 0 by decide), xpc_p h2, ob_o, wr_id (x := (bs.length : Int) + 1) (by omega) (by omega), e1]
          exact ⟨M2, d1, d2, d3, (a3.trans f2).trans d4⟩
        · rw [if_neg h2, cI_s, if_pos rfl, xpc_n h2, ob_e]
          exact ⟨_, rfl, ⟨mI_at, _, a5.fj (Fj.ofI (S := fun a _ => a = 3) rfl) fun a k q => by unfold bS at q; omega⟩, ⟨_, a6.fj (Fj.ofI (S := fun a _ => a = 3) rfl) (by omega) (by omega)⟩, a3.trans (Fj.ofI (by unfold bdS rS; omega))⟩
theorem Re_readBound_s (hG : Good M) (hT : TPc M T) {b : Nat} (hb : 8 < b) {bs : Bnd} (hB : BDc M b bs) (hX : ∃ ys, XE M 7 40 ys) : ∃ M', Re_readBound 3 b M = some (some (.inl (oki (rbb T))), M') ∧ (match rbb T with
    | .error q => mI M' 3 7 = (q : Int) ∧ ∃ cs, BDc M' b cs
    | .ok cs => BDc M' b cs) ∧ (∃ ys, XE M' 7 40 ys) ∧ Fj (bdS b) M M' := by
  obtain ⟨ys, hX⟩ := hX
  have f1 : Fj (fun a k => a = 3 ∧ k = 5) M (stI M 3 5 0) := Fj.ofI ⟨rfl, rfl⟩
  have hG1 := hG.fj f1
  have hB1 : BDc (stI M 3 5 0) b bs := hB.fj f1 fun a k q => by unfold bS at q; omega
  obtain ⟨M2, a1, a2, a3⟩ := Bo_clear_s hG1 hB1
  have f2 : Fj (fun a _ => bS b a) (stI M 3 5 0) M2 := a3.fj fun a k q => q
  have hG2 := hG1.fj f2
  have hR2 : RSc M2 T 0 := ⟨(hT.fj f1 (by omega) (by omega)).fj f2 (by unfold bS; omega) (fun k => by unfold bS; omega), (f2.2.2 _ _ (by unfold bS; omega)).trans mI_at, Nat.zero_le _⟩
  have hX2 : XE M2 7 40 ys := (hX.fj f1 (by omega) (by omega)).fj f2 (by unfold bS; omega) (by unfold bS; omega)
  have F2 : Fj (bdS b) M M2 := (f1.mono fun a k q => by unfold bdS rS; omega).trans (f2.mono fun a k q => Or.inr (Or.inr (Or.inr q)))
  unfold rbb
  rw [Re_readBound_eq, hG.gR, gd_t, hB.g hG, gd_t, a1, cV_s, hG2.gR, gd_t, hR2.1.1]
  by_cases h1 : T.length = 0
  · rw [if_pos (by omega), if_pos h1]
    exact ⟨M2, rfl, a2, ⟨_, hX2⟩, F2⟩
  · rw [if_neg (by omega), if_neg h1]
    obtain ⟨M3, b1, b2, b3, b4⟩ := Re_readBound_loop hb 200 0 [] M2 hG2 hR2 a2 ⟨_, hX2⟩ (Nat.le_refl _) rfl
    exact ⟨M3, b1, b2, b3, F2.trans b4⟩
end CREAD3

/-! ===== reading: what both do, and how the class does it ===== -/
/-- the sign at a place of the tape; -1: none -/
def pek (T : List Int) (p : Nat) : Int := if p < T.length then nth T p else -1
def isD (c : Int) : Prop := 48 ≤ c ∧ c ≤ 57
def isV (c : Int) : Prop := 109 ≤ c ∧ c ≤ 122
def isF (c : Int) : Prop := 97 ≤ c ∧ c ≤ 108
def isK (c : Int) : Prop := 65 ≤ c ∧ c ≤ 90
/-- a name that begins here: its number behind a first letter's, and the place behind it -/
noncomputable def rdn (T : List Int) (p : Nat) (f : Int) : Int × Nat :=
  haveI := Classical.propDecidable
  if isD (pek T (p + 1)) then (if 48 < pek T (p + 1) ∧ isD (pek T (p + 2)) then ((pek T p - f) * 101 + ((pek T (p + 1) - 48) * 10 + pek T (p + 2) - 48) + 1, p + 3) else ((pek T p - f) * 101 + (pek T (p + 1) - 48) + 1, p + 2)) else ((pek T p - f) * 101, p + 1)
theorem pek_lt {T : List Int} {p : Nat} (h : pek T p ≠ -1) : p < T.length := by
  unfold pek at h
  split at h
  · assumption
  · exact absurd rfl h
theorem pek_D {T : List Int} {p : Nat} (h : isD (pek T p)) : p < T.length := pek_lt (by unfold isD at h; omega)
theorem pek_V {T : List Int} {p : Nat} (h : isV (pek T p)) : p < T.length := pek_lt (by unfold isV at h; omega)
theorem pek_F {T : List Int} {p : Nat} (h : isF (pek T p)) : p < T.length := pek_lt (by unfold isF at h; omega)
theorem pek_K {T : List Int} {p : Nat} (h : isK (pek T p)) : p < T.length := pek_lt (by unfold isK at h; omega)
theorem rdn_le {T : List Int} {p : Nat} {f : Int} (h : p < T.length) : p < (rdn T p f).2 ∧ (rdn T p f).2 ≤ T.length := by
  unfold rdn
  split
  · rename_i h1
    have := pek_D h1
    split
    · rename_i h2
      have := pek_D h2.2
      dsimp only
      omega
    · dsimp only
      omega
  · dsimp only
    omega
theorem rdn_rng {T : List Int} {p : Nat} {f : Int} {k : Int} (h : f ≤ pek T p ∧ pek T p ≤ f + k) : 0 ≤ (rdn T p f).1 ∧ (rdn T p f).1 ≤ k * 101 + 100 := by
  unfold rdn isD
  split
  · split
    · dsimp only
      omega
    · dsimp only
      omega
  · dsimp only
    omega
theorem rdn_off (T : List Int) (p : Nat) (f d : Int) : rdn T p f = ((rdn T p (f + d)).1 + d * 101, (rdn T p (f + d)).2) := by
  unfold rdn
  split
  · split
    · dsimp only
      congr 1
      omega
    · dsimp only
      congr 1
      omega
  · dsimp only
    congr 1
    omega
/-- a thing at a place: 0 failed (where), 1 opened, 2 closed -/
noncomputable def thg (T : List Int) (left : Option (List Int)) (cons : Bool) (p : Nat) (xs : List Int) : Nat × Nat × List Int :=
  haveI := Classical.propDecidable
  if cons = false ∧ isV (pek T p) then (if ∀ vs, left = some vs → (rdn T p 109).1 ∈ vs then (2, (rdn T p 109).2, xs ++ [(rdn T p 109).1]) else (0, p, xs))
  else if cons = false ∧ isF (pek T p) then (if pek T (rdn T p 97).2 = 40 then (if pek T ((rdn T p 97).2 + 1) = 41 then (2, (rdn T p 97).2 + 2, xs ++ [33554432 + (rdn T p 97).1]) else (1, (rdn T p 97).2 + 1, xs ++ [33554432 + (rdn T p 97).1])) else (0, (rdn T p 97).2, xs ++ [33554432 + (rdn T p 97).1]))
  else if cons = false ∧ pek T p = 33 then (2, p + 1, xs ++ [50331648])
  else if isK (pek T p) then (if pek T (p + 1) = 40 then (1, p + 2, xs ++ [16777216 + (pek T p - 65)]) else (2, p + 1, xs ++ [16777216 + (pek T p - 65)]))
  else (0, p, xs)
def mst (c : Int) : Nat := if kd c = 1 then 4 else 8
def sar (xs : List Int) (h c : Nat) : List Int := xs.set h (kd (nth xs h) * 16777216 + (c : Int) * 65536 + sy (nth xs h))
/-- behind a whole thing -/
def cls (T : List Int) : List (Nat × Nat) → Nat → List Int → Nat × Nat × List Int × List (Nat × Nat)
  | [], p, xs => (2, p, xs, [])
  | (h, c) :: st, p, xs => if pek T p = 44 ∧ c + 1 < mst (nth xs h) then (1, p + 1, xs, (h, c + 1) :: st) else if pek T p = 41 then cls T st (p + 1) (sar xs h (c + 1)) else (0, p, xs, (h, c + 1) :: st)
/-- how a round goes on -/
def rx2 (K : Nat → List Int → List (Nat × Nat) → Bool × Nat × List Int) (r : Nat × Nat × List Int × List (Nat × Nat)) : Bool × Nat × List Int :=
  if r.1 = 0 then (false, r.2.1, r.2.2.1) else match r.2.2.2 with
    | [] => (true, r.2.1, r.2.2.1)
    | q :: st => K r.2.1 r.2.2.1 (q :: st)
def rx1 (T : List Int) (st : List (Nat × Nat)) (K : Nat → List Int → List (Nat × Nat) → Bool × Nat × List Int) (q : Nat × Nat × List Int) : Bool × Nat × List Int :=
  if q.1 = 0 then (false, q.2.1, q.2.2) else if q.1 = 1 then K q.2.1 q.2.2 ((q.2.2.length - 1, 0) :: st) else rx2 K (cls T st q.2.1 q.2.2)
/-- rounds of an expression: whether it went well, where it ended or failed, what was read -/
noncomputable def rex (T : List Int) (left : Option (List Int)) (cons : Bool) : Nat → Nat → List Int → List (Nat × Nat) → Bool × Nat × List Int
  | 0, p, xs, _ => (false, p, xs)
  | n + 1, p, xs, st => if xs.length < 40 ∧ st.length < 20 then rx1 T st (rex T left cons n) (thg T left cons p xs) else (false, p, xs)
theorem rex_s {T : List Int} {left : Option (List Int)} {cons : Bool} {n p : Nat} {xs : List Int} {st : List (Nat × Nat)} : rex T left cons (n + 1) p xs st = if xs.length < 40 ∧ st.length < 20 then rx1 T st (rex T left cons n) (thg T left cons p xs) else (false, p, xs) := rfl
section RX
variable {T : List Int} {st st1 : List (Nat × Nat)} {K : Nat → List Int → List (Nat × Nat) → Bool × Nat × List Int} {p : Nat} {xs : List Int} {q : Nat × Nat}
theorem rx1_0 : rx1 T st K (0, p, xs) = (false, p, xs) := rfl
theorem rx1_1 : rx1 T st K (1, p, xs) = K p xs ((xs.length - 1, 0) :: st) := rfl
theorem rx1_2 : rx1 T st K (2, p, xs) = rx2 K (cls T st p xs) := rfl
theorem rx2_0 : rx2 K (0, p, xs, st) = (false, p, xs) := rfl
theorem rx2_1 : rx2 K (1, p, xs, q :: st) = K p xs (q :: st) := rfl
theorem rx2_2 : rx2 K (2, p, xs, []) = (true, p, xs) := rfl
end RX
/-- the tape in the class; in the reference -/
def TPc (M : Mem) (T : List Int) : Prop := mI M 3 4 = (T.length : Int) ∧ T.length ≤ 800 ∧ ∀ i, i < T.length → mI M 4 i % 256 = nth T i
def RSc (M : Mem) (T : List Int) (p : Nat) : Prop := TPc M T ∧ mI M 3 5 = (p : Int) ∧ p ≤ T.length
theorem obj_R : obj 3 6 := obj_of _ _ (by decide)
theorem arr_4 : arr 4 1 800 := arr_of _ _ _ (by decide)
theorem arr_5 : arr 5 0 20 := arr_of _ _ _ (by decide)
theorem arr_6 : arr 6 0 20 := arr_of _ _ _ (by decide)
theorem Good.gR {M : Mem} (h : Good M) : gO M 3 6 = true := h.tgO obj_R
def rS : Nat → Nat → Prop := fun a k => a = 5 ∨ a = 6 ∨ (a = 3 ∧ 5 ≤ k)
theorem TPc.fj {M M1 : Mem} {S : Nat → Nat → Prop} {T : List Int} (h : TPc M T) (f : Fj S M M1) (h1 : ¬ S 3 4) (h2 : ∀ k, ¬ S 4 k) : TPc M1 T := ⟨(f.2.2 _ _ h1).trans h.1, h.2.1, fun i hi => by rw [f.2.2 _ _ (h2 i)]; exact h.2.2 i hi⟩
theorem stI_stI {M : Mem} {a k : Nat} {v w : Int} : stI (stI M a k v) a k w = stI M a k w := by
  have e : (fun b j => if b = a ∧ j = k then w else (if b = a ∧ j = k then v else M.2.2.1 b j)) = fun b j => if b = a ∧ j = k then w else M.2.2.1 b j := by
    funext b j
    by_cases q : b = a ∧ j = k
    · rw [if_pos q, if_pos q]
    · rw [if_neg q, if_neg q, if_neg q]
  exact congrArg (fun f => ((M.1, M.2.1, f, M.2.2.2) : Mem)) e
section READ
variable {M : Mem} {T : List Int} {p : Nat}
theorem Re_peek_s (hG : Good M) (h : RSc M T p) : Re_peek 3 M = some (some (.inl (pek T p)), M) := by
  obtain ⟨⟨h1, h2, h3⟩, h4, h5⟩ := h
  rw [Re_peek_eq, hG.gR, gd_t, h4, h1, if_neg (by omega), gd_t, gd_t]
  unfold pek
  by_cases q : p < T.length
  · rw [if_pos (by omega), gd_t, if_pos (by omega), gd_t, gd_t, hG.r3_0, hG.tgS arr_4 (by omega) (by omega), Bool.true_or, gd_t, toNat_n, pand_255, h3 p q, if_pos q]
  · rw [if_neg (by omega), if_neg q]
theorem RSc.at {q : Nat} (h : RSc M T p) (hq : q ≤ T.length) : RSc (stI M 3 5 (q : Int)) T q := ⟨h.1.fj (Fj.ofI (S := fun a k => a = 3 ∧ k = 5) ⟨rfl, rfl⟩) (by omega) (by omega), mI_at, hq⟩
theorem Re_fail_s (hG : Good M) (v : Int) : Re_fail 3 v M = some (some (.inl 0), stI M 3 7 v) := by rw [Re_fail_eq, hG.gR, gd_t]
theorem Re_expect_s (hG : Good M) (h : RSc M T p) (c : Int) (hc : c ≠ -1) : Re_expect 3 c M = if pek T p = c then some (some (.inl 1), stI M 3 5 ((p + 1 : Nat) : Int)) else some (some (.inl 0), stI M 3 7 (p : Int)) := by
  have h2 := h.1.2.1
  have h3 := h.2.2
  rw [Re_expect_eq, hG.gR, gd_t, Re_peek_s hG h, cI_s, hG.gR, h.2.1, wr_s (by omega), Re_fail_s hG, cI_s]
  simp only [gd_t]
  by_cases q : pek T p = c
  · rw [if_pos q, if_pos q]
  · rw [if_neg q, if_neg q]
    rfl
theorem Re_isDigit_s (c : Int) : Re_isDigit c M = some (some (.inl (haveI := Classical.propDecidable (isD c); if isD c then 1 else 0)), M) := by
  rw [Re_isDigit_eq]
  unfold isD
  by_cases h1 : c < 48
  · rw [if_pos h1, if_neg (by omega)]
  · rw [if_neg h1]
    by_cases h2 : 57 < c
    · rw [if_pos h2, if_neg (by omega)]
    · rw [if_neg h2, if_pos (by omega)]
theorem Re_isVarLetter_s (c : Int) : Re_isVarLetter c M = some (some (.inl (haveI := Classical.propDecidable (isV c); if isV c then 1 else 0)), M) := by
  rw [Re_isVarLetter_eq]
  unfold isV
  by_cases h1 : c < 109
  · rw [if_pos h1, if_neg (by omega)]
  · rw [if_neg h1]
    by_cases h2 : 122 < c
    · rw [if_pos h2, if_neg (by omega)]
    · rw [if_neg h2, if_pos (by omega)]
theorem Re_isFunctionLetter_s (c : Int) : Re_isFunctionLetter c M = some (some (.inl (haveI := Classical.propDecidable (isF c); if isF c then 1 else 0)), M) := by
  rw [Re_isFunctionLetter_eq]
  unfold isF
  by_cases h1 : c < 97
  · rw [if_pos h1, if_neg (by omega)]
  · rw [if_neg h1]
    by_cases h2 : 108 < c
    · rw [if_pos h2, if_neg (by omega)]
    · rw [if_neg h2, if_pos (by omega)]
theorem Re_isConLetter_s (c : Int) : Re_isConLetter c M = some (some (.inl (haveI := Classical.propDecidable (isK c); if isK c then 1 else 0)), M) := by
  rw [Re_isConLetter_eq]
  unfold isK
  by_cases h1 : c < 65
  · rw [if_pos h1, if_neg (by omega)]
  · rw [if_neg h1]
    by_cases h2 : 90 < c
    · rw [if_pos h2, if_neg (by omega)]
    · rw [if_neg h2, if_pos (by omega)]
theorem TPc.rng (h : TPc M T) {p : Nat} : -1 ≤ pek T p ∧ pek T p < 256 := by
  unfold pek
  split
  · rename_i q
    have := h.2.2 p q
    omega
  · omega
theorem Re_readName_s (hG : Good M) (h : RSc M T p) (hp : p < T.length) {f : Int} (hf : 0 ≤ f ∧ f < 200) : Re_readName 3 f M = some (some (.inl (rdn T p f).1), stI M 3 5 ((rdn T p f).2 : Int)) := by
  have hl := h.1.2.1
  have hr : ∀ q, -1 ≤ pek T q ∧ pek T q < 256 := fun q => h.1.rng
  have r0 := hr p
  have r1 := hr (p + 1)
  have r2 := hr (p + 2)
  have s1 := h.at (q := p + 1) (by omega)
  have g1 : ∀ {v : Int}, Good (stI M 3 5 v) := fun {v} => hG.fj (Fj.ofI (S := fun _ _ => True) trivial)
  have ss : ∀ v w : Int, stI (stI M 3 5 v) 3 5 w = stI M 3 5 w := fun v w => stI_stI
  rw [Re_readName_eq, hG.gR, gd_t, Re_peek_s hG h, cI_s, hG.gR]
  simp only [gd_t]
  rw [h.2.1, wr_s (by omega), Re_peek_s g1 s1, cI_s, Re_isDigit_s, cI_s]
  unfold rdn
  by_cases h1 : isD (pek T (p + 1))
  · have hlt := pek_D h1
    have s2 := h.at (q := p + 2) (by omega)
    have e1 : 48 ≤ pek T (p + 1) ∧ pek T (p + 1) ≤ 57 := h1
    rw [if_pos h1, if_neg (by decide), if_pos h1, g1.gR, wr_id (x := pek T (p + 1) - 48) (by omega) (by omega)]
    simp only [gd_t]
    rw [mI_at, wr_s (by omega), ss, wr_id (x := pek T p - f) (by omega) (by omega), wr_id (x := (pek T p - f) * 101) (by omega) (by omega), wr_id (x := (pek T p - f) * 101 + (pek T (p + 1) - 48)) (by omega) (by omega), wr_id (x := (pek T p - f) * 101 + (pek T (p + 1) - 48) + 1) (by omega) (by omega)]
    by_cases h2 : 0 < pek T (p + 1) - 48
    · rw [if_pos h2, Re_peek_s g1 s2, cI_s, Re_isDigit_s, cI_s]
      by_cases h3 : isD (pek T (p + 2))
      · have hlt2 := pek_D h3
        have e2 : 48 ≤ pek T (p + 2) ∧ pek T (p + 2) ≤ 57 := h3
        rw [if_pos h3, if_neg (by decide), if_pos ⟨by omega, h3⟩, g1.gR, Re_peek_s g1 s2, cI_s, g1.gR]
        simp only [gd_t]
        rw [mI_at, wr_s (by omega), ss, wr_id (x := (pek T (p + 1) - 48) * 10) (by omega) (by omega), wr_id (x := (pek T (p + 1) - 48) * 10 + pek T (p + 2)) (by omega) (by omega), wr_id (x := (pek T (p + 1) - 48) * 10 + pek T (p + 2) - 48) (by omega) (by omega), wr_id (x := (pek T p - f) * 101 + ((pek T (p + 1) - 48) * 10 + pek T (p + 2) - 48)) (by omega) (by omega), wr_id (by omega) (by omega)]
      · rw [if_neg h3, if_pos rfl, if_neg (fun q => h3 q.2)]
    · rw [if_neg h2, if_neg (fun q => h2 (by omega))]
  · rw [if_neg h1, if_pos rfl, if_neg h1, wr_id (x := pek T p - f) (by omega) (by omega), wr_id (by omega) (by omega)]
end READ

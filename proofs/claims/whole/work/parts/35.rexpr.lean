/-! ===== the class reads an expression ===== -/
def STK (M : Mem) : List (Nat × Nat) → Prop
  | [] => True
  | q :: st => mI M 5 st.length = (q.1 : Int) ∧ mI M 6 st.length = (q.2 : Int) ∧ STK M st
theorem STK.fj {M M1 : Mem} {S : Nat → Nat → Prop} : ∀ {st : List (Nat × Nat)}, STK M st → Fj S M M1 → (∀ k, k < st.length → ¬ S 5 k ∧ ¬ S 6 k) → STK M1 st := by
  intro st
  induction st with
  | nil => intro _ _ _; trivial
  | cons q st ih =>
    intro h f h1
    have h2 := h1 st.length (by simp)
    exact ⟨(f.2.2 _ _ h2.1).trans h.1, (f.2.2 _ _ h2.2).trans h.2.1, ih h.2.2 f fun k hk => h1 k (by simp; omega)⟩
/-- the VARS of a clause's left side -/
def CVc (M : Mem) (c : Nat) (vs : List Int) : Prop := isC c ∧ mI M c 2 = (vs.length : Int) ∧ RW M (c + 1) 0 vs ∧ vs.length ≤ 11
def LFc (M : Mem) (c : Nat) (left : Option (List Int)) : Prop := match left with
  | none => c = 0
  | some vs => CVc M c vs
def exS (e : Nat) : Nat → Nat → Prop := fun a k => rS a k ∨ a = e ∨ a = e + 1
theorem LFc.fj {M M1 : Mem} {S : Nat → Nat → Prop} {c : Nat} {left : Option (List Int)} (h : LFc M c left) (f : Fj S M M1) (h1 : left ≠ none → ∀ k, ¬ S c k ∧ ¬ S (c + 1) k) : LFc M1 c left := by
  cases left with
  | none => exact h
  | some vs =>
    have h2 := h1 (by simp)
    exact ⟨h.1, (f.2.2 _ _ (h2 2).1).trans h.2.1, h.2.2.1.fj f fun k => (h2 k).2, h.2.2.2⟩
def RE (M : Mem) (T : List Int) (p e n : Nat) (xs : List Int) (st : List (Nat × Nat)) : Prop := RSc M T p ∧ XE M e n xs ∧ (mI M 3 6 = (st.length : Int) ∧ st.length ≤ 20) ∧ STK M st
section REXPR
variable {M : Mem} {T : List Int} {p e n : Nat} {xs : List Int} {st : List (Nat × Nat)}
theorem CVc.ix (hG : Good M) {c : Nat} {vs : List Int} (h : CVc M c vs) (v : Int) : Cl_indexOfVar c v M = some (some (.inl (ix vs v)), M) := by
  rw [Cl_indexOfVar_eq, hG.tgO h.1.1, gd_t, gd_t, (hG.2.1.2.1 c h.1.1).1, h.2.1, Ex_indexOf_s hG h.1.2.1 h.2.2.1 h.2.2.2 (by decide), cI_s]
theorem RSc.fj {M1 : Mem} {S : Nat → Nat → Prop} (h : RSc M T p) (f : Fj S M M1) (h1 : ¬ S 3 4) (h2 : ∀ k, ¬ S 4 k) (h3 : ¬ S 3 5) : RSc M1 T p := ⟨h.1.fj f h1 h2, (f.2.2 _ _ h3).trans h.2.1, h.2.2⟩
/-- a cell comes to the expression; then the place is another one -/
theorem RE.add (hG : Good M) (he : 6 < e) (h : RE M T p e n xs st) (hl : xs.length < n) (c : Int) : ∃ M', Ex_add e c M = some (none, M') ∧ RE M' T p e n (xs ++ [c]) st ∧ Fj (exS e) M M' := by
  obtain ⟨M', h1, h2, h3⟩ := Ex_add_s hG h.2.1 c hl
  have hF : Fj (fun a _ => a = e ∨ a = e + 1) M M' := h3.fj fun a k q => q
  refine ⟨M', h1, ⟨h.1.fj hF (by omega) (by omega) (by omega), h2, ⟨(hF.2.2 _ _ (by omega)).trans h.2.2.1.1, h.2.2.1.2⟩, h.2.2.2.fj hF fun k _ => by omega⟩, hF.mono fun a k q => Or.inr q⟩
theorem RE.at (he : 6 < e) (h : RE M T p e n xs st) {q : Nat} (hq : q ≤ T.length) : RE (stI M 3 5 (q : Int)) T q e n xs st ∧ Fj (exS e) M (stI M 3 5 (q : Int)) := by
  have hF : Fj (fun a k => a = 3 ∧ k = 5) M (stI M 3 5 (q : Int)) := Fj.ofI ⟨rfl, rfl⟩
  exact ⟨⟨h.1.at hq, h.2.1.fj hF (by omega) (by omega), ⟨(hF.2.2 _ _ (by omega)).trans h.2.2.1.1, h.2.2.1.2⟩, h.2.2.2.fj hF fun k _ => by omega⟩, hF.mono fun a k z => by unfold exS rS; omega⟩
theorem RE.g (hG : Good M) (h : RE M T p e n xs st) : gO M e 2 = true := h.2.1.g hG
theorem Re_openThing_s (hG : Good M) (he : 6 < e) (h : RE M T p e n xs st) (hx : 0 < xs.length) (hs : st.length < 20) (hp : p < T.length) : ∃ M', Re_openThing 3 e M = some (some (.inl 1), M') ∧ RE M' T (p + 1) e n xs ((xs.length - 1, 0) :: st) ∧ Fj (exS e) M M' := by
  have hl := h.1.1.2.1
  have hxl := h.2.1.lt
  have hF : Fj (exS e) M (stI (stI (stI (stI M 3 5 ((p + 1 : Nat) : Int)) 5 st.length ((xs.length - 1 : Nat) : Int)) 6 st.length 0) 3 6 ((st.length + 1 : Nat) : Int)) := (((Fj.ofI (by unfold exS rS; omega)).trans (Fj.ofI (by unfold exS rS; omega))).trans (Fj.ofI (by unfold exS rS; omega))).trans (Fj.ofI (by unfold exS rS; omega))
  have hF2 : Fj (fun a k => (a = 3 ∧ (k = 5 ∨ k = 6)) ∨ ((a = 5 ∨ a = 6) ∧ k = st.length)) M (stI (stI (stI (stI M 3 5 ((p + 1 : Nat) : Int)) 5 st.length ((xs.length - 1 : Nat) : Int)) 6 st.length 0) 3 6 ((st.length + 1 : Nat) : Int)) := (((Fj.ofI (by omega)).trans (Fj.ofI (by omega))).trans (Fj.ofI (by omega))).trans (Fj.ofI (by omega))
  refine ⟨_, ?_, ⟨⟨h.1.1.fj hF2 (by omega) (by omega), ?_, by omega⟩, h.2.1.fj hF2 (by omega) (by omega), ⟨by rw [mI_at]; rfl, hs⟩, ⟨?_, ?_, h.2.2.2.fj hF2 fun k hk => by omega⟩⟩, hF⟩
  · rw [Re_openThing_eq, hG.gR, gd_t, gd_t, gd_t, h.1.2.1, wr_s (by omega), mI_ne (by omega), h.2.2.1.1, if_pos (by omega), gd_t, gd_t, h.g hG, gd_t, hG.r3_1, hG.r3_2, hG.tgS arr_5 (by omega) (by omega), gd_t, gd_t, gd_t, toNat_n, mI_ne (by omega), mI_ne (by omega), h.2.2.1.1, hG.tgS arr_6 (by omega) (by omega), gd_t, gd_t, gd_t, toNat_n, mI_ne (a := 3) (b := e) (by omega), h.2.1.s, wr_id (x := (xs.length : Int) - 1) (by omega) (by omega), mI_ne (by omega), mI_ne (by omega), mI_ne (by omega), h.2.2.1.1, wr_s (by omega), show (xs.length : Int) - 1 = ((xs.length - 1 : Nat) : Int) by omega]
  · rw [mI_ne (by omega), mI_ne (by omega), mI_ne (by omega), mI_at]
  · rw [mI_ne (by omega), mI_ne (by omega), mI_at]
  · rw [mI_ne (by omega), mI_at]; rfl
theorem XE.o7 (h : XE M e n xs) (he : 6 < e) {v : Int} : XE (stI M 3 7 v) e n xs := h.fj (Fj.ofI (S := fun a k => a = 3 ∧ k = 7) ⟨rfl, rfl⟩) (by omega) (by omega)
/-- how a thing's reading ends -/
def TH (M' : Mem) (T : List Int) (e n : Nat) (st : List (Nat × Nat)) (q : Nat × Nat × List Int) : Prop := match q with
  | (0, p1, _) => mI M' 3 7 = (p1 : Int) ∧ ∃ ys, XE M' e n ys
  | (1, p1, xs1) => RE M' T p1 e n xs1 ((xs1.length - 1, 0) :: st)
  | (_, p1, xs1) => RE M' T p1 e n xs1 st
theorem Re_readCon_s (hG : Good M) (he : 6 < e) (h : RE M T p e n xs st) (hl : xs.length < n) (hs : st.length < 20) : ∃ M', Re_readCon 3 e M = some (some (.inl ((thg T none true p xs).1 : Nat)), M') ∧ TH M' T e n st (thg T none true p xs) ∧ Fj (exS e) M M' := by
  have hp := h.1.2.2
  have hr := h.1.1.rng (p := p)
  have hT := h.1.1.2.1
  unfold thg
  rw [if_neg (by simp), if_neg (by simp), if_neg (by simp), Re_readCon_eq, hG.gR, gd_t, Re_peek_s hG h.1, cI_s, Re_isConLetter_s, cI_s]
  by_cases hk : isK (pek T p)
  · have hk2 : 65 ≤ pek T p ∧ pek T p ≤ 90 := hk
    have hlt := pek_K hk
    rw [if_pos hk, if_neg (by decide), if_pos hk, hG.gR, gd_t, Re_peek_s hG h.1, cI_s, wr_id (x := pek T p - 65) (by omega) (by omega), Ex_cell_s (by omega) (by omega) (by omega), cI_s, h.g hG, gd_t, show (1 : Int) * 16777216 + 0 * 65536 + (pek T p - 65) = 16777216 + (pek T p - 65) by omega]
    obtain ⟨M1, a1, a2, a3⟩ := RE.add hG he h hl (16777216 + (pek T p - 65))
    have hG1 := hG.fj a3
    obtain ⟨b1, b2⟩ := RE.at he a2 (q := p + 1) (by omega)
    have hG2 := hG1.fj b2
    rw [a1, cV_s, hG1.gR, gd_t, gd_t, gd_t, a2.1.2.1, wr_s (by omega), Re_peek_s hG2 b1.1, cI_s]
    by_cases ho : pek T (p + 1) = 40
    · have hlt2 := pek_lt (T := T) (p := p + 1) (by omega)
      obtain ⟨M3, c1, c2, c3⟩ := Re_openThing_s hG2 he b1 (by simp) hs hlt2
      rw [if_pos ho, if_pos ho, hG2.gR, gd_t, c1, cI_s]
      exact ⟨M3, rfl, c2, (a3.trans b2).trans c3⟩
    · rw [if_neg ho, if_neg ho]
      exact ⟨_, rfl, b1, a3.trans b2⟩
  · rw [if_neg hk, if_pos rfl, if_neg hk, hG.gR, gd_t, gd_t, Re_fail_s hG, cI_s]
    exact ⟨_, rfl, ⟨by show mI _ 3 7 = _; rw [mI_at, h.1.2.1], _, h.2.1.o7 he⟩, Fj.ofI (by unfold exS rS; omega)⟩
theorem thg_con {T : List Int} {left : Option (List Int)} {b : Bool} {p : Nat} {xs : List Int} (h1 : ¬ (b = false ∧ isV (pek T p))) (h2 : ¬ (b = false ∧ isF (pek T p))) (h3 : ¬ (b = false ∧ pek T p = 33)) : thg T left b p xs = thg T none true p xs := by
  have t1 : ¬ (true = false ∧ isV (pek T p)) := fun q => by cases q.1
  have t2 : ¬ (true = false ∧ isF (pek T p)) := fun q => by cases q.1
  have t3 : ¬ (true = false ∧ pek T p = 33) := fun q => by cases q.1
  unfold thg
  rw [if_neg h1, if_neg h2, if_neg h3, if_neg t1, if_neg t2, if_neg t3]
theorem Re_readVar_s (hG : Good M) (he : 6 < e) (h : RE M T p e n xs st) (hl : xs.length < n) {c : Nat} {left : Option (List Int)} (hL : LFc M c left) (hce : left ≠ none → 6 < c ∧ c + 1 < e) (hv : isV (pek T p)) : ∃ M', Re_readVar 3 e c M = some (some (.inl ((thg T left false p xs).1 : Nat)), M') ∧ TH M' T e n st (thg T left false p xs) ∧ Fj (exS e) M M' := by
  have hlt := pek_V hv
  have hv2 : 109 ≤ pek T p ∧ pek T p ≤ 122 := hv
  obtain ⟨r1, r2⟩ := rdn_rng (T := T) (p := p) (f := 109) (k := 13) (by omega)
  obtain ⟨q1, q2⟩ := rdn_le (f := 109) hlt
  obtain ⟨b1, b2⟩ := RE.at he h q2
  have hG1 := hG.fj b2
  have b2' : Fj (fun a k => a = 3 ∧ k = 5) M (stI M 3 5 ((rdn T p 109).2 : Int)) := Fj.ofI ⟨rfl, rfl⟩
  have hL1 : LFc (stI M 3 5 ((rdn T p 109).2 : Int)) c left := hL.fj b2' fun hn k => by have := hce hn; omega
  have hok : ∃ M', Ex_add e (rdn T p 109).1 (stI M 3 5 ((rdn T p 109).2 : Int)) = some (none, M') ∧ RE M' T (rdn T p 109).2 e n (xs ++ [(rdn T p 109).1]) st ∧ Fj (exS e) (stI M 3 5 ((rdn T p 109).2 : Int)) M' := RE.add hG1 he b1 hl _
  obtain ⟨M2, a1, a2, a3⟩ := hok
  unfold thg
  rw [if_pos ⟨rfl, hv⟩, Re_readVar_eq, hG.gR, gd_t, gd_t, Re_readName_s hG h.1 hlt (by omega), cI_s]
  cases left with
  | none =>
    have hc : c = 0 := hL
    subst hc
    rw [if_pos rfl, if_pos (fun vs hvs => by cases hvs), Ex_cell_s (by omega) (by omega) (by omega), cI_s, b1.g hG1, gd_t, show (0 : Int) * 16777216 + 0 * 65536 + (rdn T p 109).1 = (rdn T p 109).1 by omega, a1, cV_s]
    exact ⟨M2, rfl, a2, b2.trans a3⟩
  | some vs =>
    have hcv : CVc (stI M 3 5 ((rdn T p 109).2 : Int)) c vs := hL1
    have hce2 := hce (by simp)
    rw [if_neg (by omega), hG1.tgO hcv.1.1, gd_t, CVc.ix hG1 hcv, cI_s]
    by_cases hm : (rdn T p 109).1 ∈ vs
    · rw [if_neg (ix_mem.mpr hm), if_pos (fun ws hws => by cases hws; exact hm), Ex_cell_s (by omega) (by omega) (by omega), cI_s, b1.g hG1, gd_t, show (0 : Int) * 16777216 + 0 * 65536 + (rdn T p 109).1 = (rdn T p 109).1 by omega, a1, cV_s]
      exact ⟨M2, rfl, a2, b2.trans a3⟩
    · rw [if_pos (Classical.not_not.mp fun q => hm (ix_mem.mp q)), if_neg (fun q => hm (q vs rfl)), hG1.gR, gd_t, Re_fail_s hG1, cI_s]
      exact ⟨_, rfl, ⟨by show mI _ 3 7 = _; rw [mI_at, h.1.2.1], _, b1.2.1.o7 he⟩, b2.trans (Fj.ofI (by unfold exS rS; omega))⟩
theorem Re_readCall_s (hG : Good M) (he : 6 < e) (h : RE M T p e n xs st) (hl : xs.length < n) (hs : st.length < 20) {left : Option (List Int)} (hf : isF (pek T p)) : ∃ M', Re_readCall 3 e M = some (some (.inl ((thg T left false p xs).1 : Nat)), M') ∧ TH M' T e n st (thg T left false p xs) ∧ Fj (exS e) M M' := by
  have hlt := pek_F hf
  have hf2 : 97 ≤ pek T p ∧ pek T p ≤ 108 := hf
  have hT := h.1.1.2.1
  obtain ⟨r1, r2⟩ := rdn_rng (T := T) (p := p) (f := 97) (k := 11) (by omega)
  obtain ⟨q1, q2⟩ := rdn_le (f := 97) hlt
  obtain ⟨b1, b2⟩ := RE.at he h q2
  have hG1 := hG.fj b2
  unfold thg
  rw [if_neg (fun q => by have := q.2; unfold isV at this; omega), if_pos ⟨rfl, hf⟩, Re_readCall_eq, hG.gR, gd_t, Re_readName_s hG h.1 hlt (by omega), cI_s, Ex_cell_s (by omega) (by omega) (by omega), cI_s, b1.g hG1, gd_t, show (2 : Int) * 16777216 + 0 * 65536 + (rdn T p 97).1 = 33554432 + (rdn T p 97).1 by omega]
  obtain ⟨M2, a1, a2, a3⟩ := RE.add hG1 he b1 hl (33554432 + (rdn T p 97).1)
  have hG2 := hG1.fj a3
  rw [a1, cV_s, hG2.gR, gd_t, Re_peek_s hG2 a2.1, cI_s]
  by_cases h40 : pek T (rdn T p 97).2 = 40
  · have hlt2 := pek_lt (T := T) (p := (rdn T p 97).2) (by omega)
    obtain ⟨M3, c1, c2, c3⟩ := Re_openThing_s hG2 he a2 (by simp) hs hlt2
    have hG3 := hG2.fj c3
    rw [if_pos h40, if_pos h40, hG2.gR, gd_t, c1, cI_s, hG3.gR, gd_t, Re_peek_s hG3 c2.1, cI_s]
    by_cases h41 : pek T ((rdn T p 97).2 + 1) = 41
    · have hlt3 := pek_lt (T := T) (p := (rdn T p 97).2 + 1) (by omega)
      have hso : mI M3 3 6 = ((st.length + 1 : Nat) : Int) := c2.2.2.1.1
      rw [if_pos h41, if_pos h41, hG3.gR, gd_t, gd_t, gd_t, gd_t, hso, wr_id (x := ((st.length + 1 : Nat) : Int) - 1) (by omega) (by omega), mI_ne (by omega), c2.1.2.1, wr_s (by omega), show ((st.length + 1 : Nat) : Int) - 1 = (st.length : Int) by omega]
      have hF : Fj (fun a k => a = 3 ∧ (k = 5 ∨ k = 6)) M3 (stI (stI M3 3 6 (st.length : Int)) 3 5 (((rdn T p 97).2 + 1 + 1 : Nat) : Int)) := (Fj.ofI (by omega)).trans (Fj.ofI (by omega))
      refine ⟨_, rfl, ⟨⟨c2.1.1.fj hF (by omega) (by omega), mI_at, by omega⟩, c2.2.1.fj hF (by omega) (by omega), ⟨by rw [mI_ne (by omega), mI_at], by omega⟩, c2.2.2.2.2.2.fj hF fun k _ => by omega⟩, ((b2.trans a3).trans c3).trans (hF.mono fun a k z => by unfold exS rS; omega)⟩
    · rw [if_neg h41, if_neg h41]
      exact ⟨M3, rfl, c2, (b2.trans a3).trans c3⟩
  · rw [if_neg h40, if_neg h40, hG2.gR, gd_t, gd_t, Re_fail_s hG2, cI_s]
    exact ⟨_, rfl, ⟨by show mI _ 3 7 = _; rw [mI_at, a2.1.2.1], _, a2.2.1.o7 he⟩, (b2.trans a3).trans (Fj.ofI (by unfold exS rS; omega))⟩
theorem Re_readThing_s (hG : Good M) (he : 6 < e) (h : RE M T p e n xs st) (hl : xs.length < n) (hs : st.length < 20) {c : Nat} {left : Option (List Int)} (hL : LFc M c left) (hce : left ≠ none → 6 < c ∧ c + 1 < e) : ∃ M', Re_readThing 3 e c M = some (some (.inl ((thg T left false p xs).1 : Nat)), M') ∧ TH M' T e n st (thg T left false p xs) ∧ Fj (exS e) M M' := by
  have hT := h.1.1.2.1
  have hp := h.1.2.2
  rw [Re_readThing_eq, hG.gR, gd_t, Re_peek_s hG h.1, cI_s, Re_isVarLetter_s, cI_s]
  by_cases hv : isV (pek T p)
  · obtain ⟨M', a1, a2⟩ := Re_readVar_s hG he h hl hL hce hv
    rw [if_pos hv, if_neg (by decide), hG.gR, gd_t, a1, cI_s]
    exact ⟨M', rfl, a2⟩
  · rw [if_neg hv, if_pos rfl, Re_isFunctionLetter_s, cI_s]
    by_cases hf : isF (pek T p)
    · obtain ⟨M', a1, a2⟩ := Re_readCall_s hG he h hl hs (left := left) hf
      rw [if_pos hf, if_neg (by decide), hG.gR, gd_t, a1, cI_s]
      exact ⟨M', rfl, a2⟩
    · rw [if_neg hf, if_pos rfl]
      by_cases hb : pek T p = 33
      · have hlt := pek_lt (T := T) (p := p) (by omega)
        obtain ⟨b1, b2⟩ := RE.at he h (q := p + 1) (by omega)
        have hG1 := hG.fj b2
        obtain ⟨M2, a1, a2, a3⟩ := RE.add hG1 he b1 hl 50331648
        have t1 : ¬ (false = false ∧ isV (pek T p)) := fun q => hv q.2
        have t2 : ¬ (false = false ∧ isF (pek T p)) := fun q => hf q.2
        unfold thg
        rw [if_pos hb, hG.gR, gd_t, gd_t, h.g hG, gd_t, h.1.2.1, wr_s (by omega), a1, cV_s, if_neg t1, if_neg t2, if_pos ⟨rfl, hb⟩]
        exact ⟨M2, rfl, a2, b2.trans a3⟩
      · obtain ⟨M', a1, a2⟩ := Re_readCon_s hG he h hl hs
        rw [if_neg hb, hG.gR, gd_t, a1, cI_s, thg_con (b := false) (fun q => hv q.2) (fun q => hf q.2) (fun q => hb q.2)]
        exact ⟨M', rfl, a2⟩
end REXPR

/-! ===== the class drives: the tree grows ===== -/
def DR : Type := Int × TS × Nat × Nat × Nat
def drl (zs : List Clz) : Nat → Int → TS → Nat → Nat → Nat → Int × TS × Nat × Nat × Nat
  | 0, st, T, nl, _, tu => (st, T, 0, nl, tu)
  | n + 1, st, T, nl, fr, tu => if st = 0 ∧ nl < (lnF T.2.1).length then drl zs n (lok zs T ((lnF T.2.1).getD nl 0) nl fr tu).1 (lok zs T ((lnF T.2.1).getD nl 0) nl fr tu).2.1 (lok zs T ((lnF T.2.1).getD nl 0) nl fr tu).2.2.1 (lok zs T ((lnF T.2.1).getD nl 0) nl fr tu).2.2.2.1 (lok zs T ((lnF T.2.1).getD nl 0) nl fr tu).2.2.2.2 else (st, T, n + 1, nl, tu)
/-- what is numbered: those that are folded to -/
def nuF : FT → List Nat → FT
  | F, [] => F
  | F, x :: R => nuF (if F x 14 = -1 then F else upF F (F x 14).toNat 13 1) R
theorem nuF_ne (L : List Nat) : ∀ (F : FT) (x f : Nat), f ≠ 13 → nuF F L x f = F x f := by
  induction L with
  | nil => intro F x f _; rfl
  | cons a L ih =>
    intro F x f h
    show nuF (if F a 14 = -1 then F else upF F (F a 14).toNat 13 1) L x f = _
    rw [ih _ _ _ h]
    split
    · rfl
    · exact upF_ne (by omega)
theorem nuF_13 (L : List Nat) : ∀ (F : FT) (x : Nat), (∀ y ∈ L, -1 ≤ F y 14) → nuF F L x 13 = if ∃ y ∈ L, F y 14 = (x : Int) then 1 else F x 13 := by
  induction L with
  | nil => intro F x _; rw [if_neg (fun ⟨y, hy, _⟩ => by cases hy)]; rfl
  | cons a L ih =>
    intro F x h
    show nuF (if F a 14 = -1 then F else upF F (F a 14).toNat 13 1) L x 13 = _
    have e14 : ∀ y, (if F a 14 = -1 then F else upF F (F a 14).toNat 13 1) y 14 = F y 14 := fun y => by
      split
      · rfl
      · exact upF_ne (by omega)
    rw [ih _ _ fun y hy => by rw [e14]; exact h y (List.mem_cons_of_mem _ hy)]
    have ha := h a (by simp)
    by_cases q : ∃ y ∈ L, F y 14 = (x : Int)
    · obtain ⟨y, hy, hx⟩ := q
      rw [if_pos (show ∃ y ∈ L, (if F a 14 = -1 then F else upF F (F a 14).toNat 13 1) y 14 = (x : Int) from ⟨y, hy, (e14 y).trans hx⟩), if_pos (show ∃ y ∈ a :: L, F y 14 = (x : Int) from ⟨y, List.mem_cons_of_mem _ hy, hx⟩)]
    · rw [if_neg (show ¬ ∃ y ∈ L, (if F a 14 = -1 then F else upF F (F a 14).toNat 13 1) y 14 = (x : Int) from fun ⟨y, hy, hx⟩ => q ⟨y, hy, (e14 y).symm.trans hx⟩)]
      by_cases g : F a 14 = (x : Int)
      · rw [if_pos (show ∃ y ∈ a :: L, F y 14 = (x : Int) from ⟨a, by simp, g⟩), if_neg (show ¬ F a 14 = -1 by omega), g, toNat_n, upF_at]
      · rw [if_neg (show ¬ ∃ y ∈ a :: L, F y 14 = (x : Int) from fun ⟨y, hy, hx⟩ => by
          rcases List.mem_cons.mp hy with e | e
          · subst e; exact g hx
          · exact q ⟨y, e, hx⟩)]
        by_cases g1 : F a 14 = -1
        · rw [if_pos g1]
        · rw [if_neg g1]
          exact upF_ne (by omega)
/-- the numbers stand -/
def NBc (M : Mem) (L : List Nat) : Prop := ∀ (i x : Nat), L[i]? = some x → mI M (30 + 6 * x) 7 = (i : Int)
section GROW
variable {M : Mem} {P : Nat} {T : TS} {zs : List Clz} {X : Nat → List Int} {F : FT} {mk : Nat}
theorem TRc.set7 (h : TRc M X F mk) (hT : TI F mk) {m : Nat} {v : Int} (hm : m < 120) : TRc (stI M (30 + 6 * m) 7 v) X F mk := by
  have f1 : Fj (fun a j => a = 30 + 6 * m ∧ j = 7) M (stI M (30 + 6 * m) 7 v) := Fj.ofI ⟨rfl, rfl⟩
  obtain ⟨⟨hLN, h9⟩, hnd, hwk⟩ := h
  refine ⟨⟨⟨(f1.2.2 _ _ (by omega)).trans hLN.1, hLN.2⟩, (f1.2.2 _ _ (by omega)).trans h9⟩, fun x hx => ?_, fun x hx => ?_⟩
  · obtain ⟨p1, ⟨p2, p3⟩, p4⟩ := hnd x hx
    exact ⟨p1.fq (R := nor) (f1.fq fun a k q => q) (by omega), ⟨fun g hg => (f1.2.2 _ _ (by unfold nf at hg; omega)).trans (p2 g hg), (f1.2.2 _ _ (by omega)).trans p3⟩, p4⟩
  · obtain ⟨⟨zs, w1⟩, us, w2⟩ := hwk x hx
    exact ⟨⟨zs, w1.fj f1 (by omega) (by omega)⟩, us, w2.fj f1 (by omega) (by omega)⟩
theorem Tr_number_loop : ∀ (B A : List Nat) (M : Mem) (F : FT), Good M → TI F mk → TRc M X F mk → lnF F = A ++ B → (∀ x ∈ lnF F, -1 ≤ F x 14 ∧ F x 14 < 120) → NBc M A → ∃ M', Tr_numberNodes_2 27 (A.length : Int) M = some (none, M') ∧ TRc M' X (nuF F B) mk ∧ NBc M' (A ++ B) ∧ Good M' ∧ Fj (fun a j => 30 ≤ a ∧ a < 750 ∧ (j = 7 ∨ j = 13)) M M' := by
  intro B
  induction B with
  | nil =>
    intro A M F hG hT hR hL hV hN
    have h8 := hR.1.1.1
    rw [hL, List.append_nil] at h8
    rw [Tr_numberNodes_2_eq, hG.gT, gd_t, h8, if_neg (by omega)]
    exact ⟨M, rfl, hR, by rw [List.append_nil]; exact hN, hG, Fj.refl⟩
  | cons x B ih =>
    intro A M F hG hT hR hL hV hN
    have hlen := hT.len
    have hll : (lnF F).length = A.length + (B.length + 1) := by rw [hL]; simp
    have hm120 := hT.1.2.2
    have hxL : x ∈ lnF F := by rw [hL]; simp
    have hxm := hT.1.2.1 x hxL
    have h8 := hR.1.1.1
    have hr := hR.1.1.2 A.length x (by rw [hL]; simp)
    obtain ⟨v1, v2⟩ := hV x hxL
    have p4 := (hR.2.1 x hxL).2.2.1.1
    have f1 : Fj (fun a j => 30 ≤ a ∧ a < 750 ∧ (j = 7 ∨ j = 13)) M (stI M (30 + 6 * x) 7 (A.length : Int)) := Fj.ofI (by omega)
    have hG1 := hG.fj f1
    have hR1 := hR.set7 hT (m := x) (v := (A.length : Int)) (by omega)
    have hnd := hT.1.1
    rw [hL] at hnd
    have hxA : x ∉ A := fun q => (List.nodup_append.mp hnd).2.2 x q x (by simp) rfl
    have hN1 : NBc (stI M (30 + 6 * x) 7 (A.length : Int)) (A ++ [x]) := fun i y hy => by
      by_cases q : i < A.length
      · rw [List.getElem?_append_left q] at hy
        have : y ∈ A := List.mem_of_getElem? hy
        rw [mI_ne (fun e => hxA (by rw [show x = y by omega]; exact this))]
        exact hN i y hy
      · have hi := (List.getElem?_eq_some_iff.mp hy).1
        rw [List.length_append, List.length_singleton] at hi
        have : i = A.length := by omega
        subst this
        rw [List.getElem?_append_right (Nat.le_refl _), Nat.sub_self] at hy
        have := Option.some.inj hy
        subst this
        exact mI_at
    have hl1 : (A ++ [x]).length = A.length + 1 := by simp
    have head : Tr_numberNodes_2 27 (A.length : Int) M = if mR M (30 + 6 * x) 14 = 0 then Tr_numberNodes_2 27 ((A.length + 1 : Nat) : Int) (stI M (30 + 6 * x) 7 (A.length : Int)) else gd (gO M (mR M (30 + 6 * x) 14) 4) (Tr_numberNodes_2 27 ((A.length + 1 : Nat) : Int) (stI (stI M (30 + 6 * x) 7 (A.length : Int)) (mR M (30 + 6 * x) 14) 13 1)) := by
      rw [Tr_numberNodes_2_eq, hG.gT, gd_t, h8, if_pos (by omega), gd_t, hG.r27_3, hG.a29 (by omega), gd_t, toNat_n, hr, hG.nd (by omega), gd_t, gd_t, gd_t, gd_t, gd_t, gd_t, gd_t, wr_s (by omega)]
    rw [head, p4]
    by_cases q : F x 14 = -1
    · have e : nuF F (x :: B) = nuF F B := by show nuF (if F x 14 = -1 then F else upF F (F x 14).toNat 13 1) B = _; rw [if_pos q]
      obtain ⟨M', a1, a2, a3, a4, a5⟩ := ih (A ++ [x]) _ F hG1 hT hR1 (by rw [hL]; simp) hV hN1
      rw [hl1] at a1
      rw [q, if_pos (show ndf (-1) = 0 from rfl), a1, e]
      exact ⟨M', rfl, a2, by rw [show A ++ (x :: B) = (A ++ [x]) ++ B by simp]; exact a3, a4, f1.trans a5⟩
    · have en : ndf (F x 14) = 30 + 6 * (F x 14).toNat := if_neg q
      have hy : (F x 14).toNat < 120 := by omega
      have e : nuF F (x :: B) = nuF (upF F (F x 14).toNat 13 1) B := by show nuF (if F x 14 = -1 then F else upF F (F x 14).toNat 13 1) B = _; rw [if_neg q]
      generalize (F x 14).toNat = y at *
      have f2 : Fj (fun a j => 30 ≤ a ∧ a < 750 ∧ (j = 7 ∨ j = 13)) (stI M (30 + 6 * x) 7 (A.length : Int)) (stI (stI M (30 + 6 * x) 7 (A.length : Int)) (30 + 6 * y) 13 1) := Fj.ofI (by omega)
      have hG2 := hG1.fj f2
      have hR2 := hR1.setI hT (m := y) (f := 13) (v := 1) hy (by omega)
      obtain ⟨hT2, hl2⟩ := hT.up1 (m := y) (f := 13) (v := 1) (by omega)
      obtain ⟨M', a1, a2, a3, a4, a5⟩ := ih (A ++ [x]) _ (upF F y 13 1) hG2 hT2 hR2 (by rw [hl2, hL]; simp) (fun z hz => by rw [hl2] at hz; rw [upF_ne (by omega)]; exact hV z hz) (fun i z hz => by rw [mI_ne (by omega)]; exact hN1 i z hz)
      rw [hl1] at a1
      rw [en, if_neg (by omega), hG.nd hy, gd_t, a1, e]
      exact ⟨M', rfl, a2, by rw [show A ++ (x :: B) = (A ++ [x]) ++ B by simp]; exact a3, a4, (f1.trans f2).trans a5⟩
end GROW

/-! ===== the reference numbers the nodes ===== -/
def NRm (M : Mem) (L : List Nat) : Prop := ∀ (i x : Nat), L[i]? = some x → mI M 1320 i = (x : Int) ∧ mI M 1321 x = (i : Int)
def DPm (M : Mem) (F : FT) (L : List Nat) : Prop := ∀ x ∈ L, mI M 1322 x = F x 6
def FNm (M : Mem) (F : FT) (L : List Nat) : Prop := ∀ x ∈ L, mI M 1323 x = F x 9
def nbS : Nat → Nat → Prop := fun a j => (1320 ≤ a ∧ a ≤ 1323) ∨ (a = 1269 ∧ (j = 84 ∨ j = 85))
theorem arr_nb {a : Nat} (h : 1320 ≤ a ∧ a ≤ 1323) : arr a 0 120 := by
  have : a = 1320 ∨ a = 1321 ∨ a = 1322 ∨ a = 1323 := by omega
  rcases this with e | e | e | e <;> subst e <;> exact arr_of _ _ _ (by decide)
section RNUM
variable {T : TS}
theorem RT.nb {M M1 : Mem} (h : RT M T) (f : Fj nbS M M1) : RT M1 T := h.fjo f fun a j q => by unfold nbS; omega
theorem NRm.fjo {M M1 : Mem} {S : Nat → Nat → Prop} {L : List Nat} (h : NRm M L) (f : Fj S M M1) (h0 : ∀ a j, (a = 1320 ∨ a = 1321) → ¬ S a j) : NRm M1 L := fun i x hx => ⟨(f.2.2 _ _ (h0 _ _ (Or.inl rfl))).trans (h i x hx).1, (f.2.2 _ _ (h0 _ _ (Or.inr rfl))).trans (h i x hx).2⟩
theorem DPm.fjo {M M1 : Mem} {S : Nat → Nat → Prop} {F : FT} {L : List Nat} (h : DPm M F L) (f : Fj S M M1) (h0 : ∀ j, ¬ S 1322 j) : DPm M1 F L := fun x hx => (f.2.2 _ _ (h0 _)).trans (h x hx)
theorem FNm.fjo {M M1 : Mem} {S : Nat → Nat → Prop} {F : FT} {L : List Nat} (h : FNm M F L) (f : Fj S M M1) (h0 : ∀ j, ¬ S 1323 j) : FNm M1 F L := fun x hx => (f.2.2 _ _ (h0 _)).trans (h x hx)
theorem M_number_loop (hT : TI T.2.1 T.2.2) (d2 d3 : LV) : ∀ (B A : List Nat) (M : Mem), lnF T.2.1 = A ++ B → wlk T.2.1 B (-1) → Good M → RT M T → mI M 1269 84 = (A.length : Int) → NRm M A → DPm M T.2.1 A → ∃ M', M_number_7 1269 (hdi B) d2 d3 M = M_number_91 1269 0 d2 d3 (stI M' 1269 85 0) ∧ mI M' 1269 84 = ((lnF T.2.1).length : Int) ∧ NRm M' (lnF T.2.1) ∧ DPm M' T.2.1 (lnF T.2.1) ∧ Good M' ∧ Fj nbS M M' := by
  have hm := hT.1.2.2
  have hlen := hT.len
  intro B
  induction B with
  | nil =>
    intro A M hL _ hG hR h84 hN hD
    rw [List.append_nil] at hL
    rw [hL]
    refine ⟨M, ?_, h84, hN, hD, hG, Fj.refl⟩
    show M_number_7 1269 (-1) d2 d3 M = _
    rw [M_number_7_eq, if_pos rfl, hG.gM, gd_t]
  | cons x B ih =>
    intro A M hL hw hG hR h84 hN hD
    obtain ⟨w1, w2⟩ := wlk_hd hw
    have hll : (lnF T.2.1).length = A.length + (B.length + 1) := by rw [hL]; simp
    have hxL : x ∈ lnF T.2.1 := by rw [hL]; simp
    have hxm := hT.1.2.1 x hxL
    have hnd := hT.1.1
    rw [hL] at hnd
    have hxA : x ∉ A := fun q => (List.nodup_append.mp hnd).2.2 x q x (by simp) rfl
    have hdp := deep_rng hT (x + 1) x (Nat.lt_succ_self x) hxL
    have r3 : mI M 1311 x = T.2.1 x 15 := (hR.2 x hxL).2.1.1
    have g20 : gS M 1320 0 (A.length : Int) = true := hG.tgS (arr_nb (by decide)) (by omega) (by omega)
    have g21 : gS M 1321 0 (x : Int) = true := hG.tgS (arr_nb (by decide)) (by omega) (by omega)
    have g11 : gS M 1311 0 (x : Int) = true := hG.tgS (arr_nd (by decide)) (by omega) (by omega)
    have F1 : Fj nbS M (stI (stI M 1320 A.length (x : Int)) 1321 x (A.length : Int)) := (Fj.ofI (by unfold nbS; omega)).trans (Fj.ofI (by unfold nbS; omega))
    have hG1 := hG.fj F1
    have hR1 := hR.nb F1
    have i84 : mI (stI (stI M 1320 A.length (x : Int)) 1321 x (A.length : Int)) 1269 84 = (A.length : Int) := by rw [mI_ne (by omega), mI_ne (by omega)]; exact h84
    have k84 : mI (stI M 1320 A.length (x : Int)) 1269 84 = (A.length : Int) := by rw [mI_ne (by omega)]; exact h84
    have i20 : mI (stI (stI M 1320 A.length (x : Int)) 1321 x (A.length : Int)) 1320 A.length = (x : Int) := by rw [mI_ne (by omega), mI_at]
    have i21 : mI (stI (stI M 1320 A.length (x : Int)) 1321 x (A.length : Int)) 1321 x = (A.length : Int) := mI_at
    have hN0 : NRm (stI (stI M 1320 A.length (x : Int)) 1321 x (A.length : Int)) A := fun i y hy => by
      have hi := (List.getElem?_eq_some_iff.mp hy).1
      have hyA := List.mem_of_getElem? hy
      have hyx : y ≠ x := fun e => hxA (e ▸ hyA)
      obtain ⟨n1, n2⟩ := hN i y hy
      exact ⟨by rw [mI_ne (by omega), mI_ne (by omega)]; exact n1, by rw [mI_ne (by omega), mI_ne (by omega)]; exact n2⟩
    have hD0 : DPm (stI (stI M 1320 A.length (x : Int)) 1321 x (A.length : Int)) T.2.1 A := fun y hy => by rw [mI_ne (by omega), mI_ne (by omega)]; exact hD y hy
    have i15 : mI (stI (stI M 1320 A.length (x : Int)) 1321 x (A.length : Int)) 1311 x = T.2.1 x 15 := (hR1.2 x hxL).2.1.1
    have head : M_number_7 1269 (hdi (x :: B)) d2 d3 M = M_number_64 1269 (x : Int) (T.2.1 x 6) (x : Int) 1322 d2 d3 (stI (stI M 1320 A.length (x : Int)) 1321 x (A.length : Int)) := by
      show M_number_7 1269 (x : Int) d2 d3 M = _
      rw [M_number_7_eq, if_neg (by omega), hG.gM, gd_t, gd_t, hG.m80, h84, g20, gd_t, gd_t, gd_t, hG.m81, g21, gd_t, gd_t, gd_t, hG.m65, g11, gd_t, toNat_n, toNat_n, k84, i15, hG.m82]
      by_cases x0 : x = 0
      · subst x0
        rw [hT.2.2.1.1, if_pos rfl, hT.2.2.2]
      · obtain ⟨p, j, q1, q2, q3, q4, q5, q6⟩ := hT.ndx hxL x0
        have hpm := hT.1.2.1 p q1
        have hpA : p ∈ A := by
          have hpd : p ∈ A ++ x :: B := by rw [← hL]; exact q1
          rcases List.mem_append.mp hpd with h | h
          · exact h
          · exfalso
            obtain ⟨A2, D2, e2⟩ := List.append_of_mem q1
            have hD2 := hT.after e2 q2
            rw [← q3] at hD2
            rcases List.mem_cons.mp h with e | e
            · omega
            · -- p behind x, yet x behind p
              obtain ⟨B1, B2, e3⟩ := List.append_of_mem e
              have e4 : lnF T.2.1 = (A ++ (x :: B1)) ++ p :: B2 := by rw [hL, e3]; simp
              have n1 := hT.1.1
              rw [e2] at e4
              have hp1 : p ∉ A2 := by
                rw [e2] at n1
                exact fun z => (List.nodup_append.mp n1).2.2 p z p (by simp) rfl
              have hp2 : p ∉ A ++ (x :: B1) := by
                have n2 := hT.1.1
                rw [hL, e3, show A ++ x :: (B1 ++ p :: B2) = (A ++ (x :: B1)) ++ p :: B2 by simp] at n2
                exact fun z => (List.nodup_append.mp n2).2.2 p z p (by simp) rfl
              obtain ⟨e5, e6⟩ := app_cancel e4 hp1 hp2
              have n3 := hT.1.1
              rw [e2] at n3
              have hxA2 : x ∈ A2 := by rw [e5]; simp
              exact (List.nodup_append.mp n3).2.2 x hxA2 x (List.mem_cons_of_mem _ hD2) rfl
        have hdpp := deep_rng hT (p + 1) p (Nat.lt_succ_self p) q1
        have e6 : T.2.1 x 6 = T.2.1 p 6 + 1 := by
          have := ((hT.2.1 p q1).2.2 j q2).2
          rw [← q3] at this
          exact this
        have g22 : gS M 1322 0 (p : Int) = true := hG.tgS (arr_nb (by decide)) (by omega) (by omega)
        rw [q4, if_neg (by omega), gd_t, gd_t, gd_t, g22, gd_t, toNat_n, hD0 p hpA, wr_id (x := T.2.1 p 6 + 1) (by omega) (by omega), ← e6]
    have F2 : Fj nbS M (stI (stI (stI (stI M 1320 A.length (x : Int)) 1321 x (A.length : Int)) 1322 x (T.2.1 x 6)) 1269 84 ((A.length + 1 : Nat) : Int)) := (F1.trans (Fj.ofI (by unfold nbS; omega))).trans (Fj.ofI (by unfold nbS; omega))
    have hG2 := hG.fj F2
    have hR2 := hR.nb F2
    have g22 : gS (stI (stI M 1320 A.length (x : Int)) 1321 x (A.length : Int)) 1322 0 (x : Int) = true := hG1.tgS (arr_nb (by decide)) (by omega) (by omega)
    have head2 : M_number_64 1269 (x : Int) (T.2.1 x 6) (x : Int) 1322 d2 d3 (stI (stI M 1320 A.length (x : Int)) 1321 x (A.length : Int)) = M_number_7 1269 (hdi B) d2 d3 (stI (stI (stI (stI M 1320 A.length (x : Int)) 1321 x (A.length : Int)) 1322 x (T.2.1 x 6)) 1269 84 ((A.length + 1 : Nat) : Int)) := by
      have e84 : mI (stI (stI (stI M 1320 A.length (x : Int)) 1321 x (A.length : Int)) 1322 x (T.2.1 x 6)) 1269 84 = (A.length : Int) := by rw [mI_ne (by omega)]; exact i84
      have := M_nextNode_s hG2 hT hR2 hxL
      rw [M_number_64_eq, g22, gd_t, hG1.gM, gd_t, gd_t, gd_t, toNat_n, e84, wr_s (by omega), this, cI_s, w1]
    have hN2 : NRm (stI (stI (stI (stI M 1320 A.length (x : Int)) 1321 x (A.length : Int)) 1322 x (T.2.1 x 6)) 1269 84 ((A.length + 1 : Nat) : Int)) (A ++ [x]) := fun i y hy => by
      have f' : Fj (fun a j => a = 1322 ∨ (a = 1269 ∧ j = 84)) (stI (stI M 1320 A.length (x : Int)) 1321 x (A.length : Int)) (stI (stI (stI (stI M 1320 A.length (x : Int)) 1321 x (A.length : Int)) 1322 x (T.2.1 x 6)) 1269 84 ((A.length + 1 : Nat) : Int)) := (Fj.ofI (Or.inl rfl)).trans (Fj.ofI (Or.inr ⟨rfl, rfl⟩))
      rw [f'.2.2 1320 i (by omega), f'.2.2 1321 y (by omega)]
      by_cases q : i < A.length
      · rw [List.getElem?_append_left q] at hy
        exact hN0 i y hy
      · have hi := (List.getElem?_eq_some_iff.mp hy).1
        rw [List.length_append, List.length_singleton] at hi
        have : i = A.length := by omega
        subst this
        rw [List.getElem?_append_right (Nat.le_refl _), Nat.sub_self] at hy
        have := Option.some.inj hy
        subst this
        exact ⟨i20, i21⟩
    have hD2 : DPm (stI (stI (stI (stI M 1320 A.length (x : Int)) 1321 x (A.length : Int)) 1322 x (T.2.1 x 6)) 1269 84 ((A.length + 1 : Nat) : Int)) T.2.1 (A ++ [x]) := fun y hy => by
      rw [mI_ne (by omega)]
      rcases List.mem_append.mp hy with h | h
      · have hyx : y ≠ x := fun e => hxA (e ▸ h)
        rw [mI_ne (by omega)]
        exact hD0 y h
      · rw [List.mem_singleton.mp h, mI_at]
    obtain ⟨M', a1, a2, a3, a4, a5, a6⟩ := ih (A ++ [x]) _ (by rw [hL]; simp) w2 hG2 hR2 (by rw [mI_at, List.length_append]; rfl) hN2 hD2
    rw [head, head2, a1]
    exact ⟨M', rfl, a2, a3, a4, a5, F2.trans a6⟩
theorem M_isFoldedTo_s {M : Mem} (hG : Good M) (hT : TI T.2.1 T.2.2) (hR : RT M T) (h84 : mI M 1269 84 = ((lnF T.2.1).length : Int)) (hN : NRm M (lnF T.2.1)) (x : Nat) : M_isFoldedTo 1269 (x : Int) M = some (some (.inl (if ∃ y ∈ lnF T.2.1, T.2.1 y 14 = (x : Int) then 1 else 0)), M) := by
  have hm := hT.1.2.2
  have hlen := hT.len
  have key : ∀ (B A : List Nat), lnF T.2.1 = A ++ B → M_isFoldedTo_2 1269 (x : Int) (A.length : Int) M = some (some (.inl (if ∃ y ∈ B, T.2.1 y 14 = (x : Int) then 1 else 0)), M) := by
    intro B
    induction B with
    | nil =>
      intro A hL
      rw [List.append_nil] at hL
      rw [M_isFoldedTo_2_eq, hG.gM, gd_t, h84, hL, if_neg (by omega), if_neg (fun ⟨y, hy, _⟩ => by cases hy)]
    | cons z B ih =>
      intro A hL
      have hzL : z ∈ lnF T.2.1 := by rw [hL]; simp
      have hzm := hT.1.2.1 z hzL
      have hll : (lnF T.2.1).length = A.length + (B.length + 1) := by rw [hL]; simp
      have i20 := (hN A.length z (by rw [hL]; simp)).1
      have i16 : mI M 1316 z = T.2.1 z 14 := (hR.2 z hzL).2.2.2.2
      have hl1 : (A ++ [z]).length = A.length + 1 := by simp
      have := ih (A ++ [z]) (by rw [hL]; simp)
      rw [hl1] at this
      rw [M_isFoldedTo_2_eq, hG.gM, gd_t, h84, if_pos (by omega), gd_t, gd_t, hG.m80, hG.tgS (arr_nb (by decide)) (by omega) (by omega), gd_t, toNat_n, i20, hG.m70, hG.tgS (arr_nd (by decide)) (by omega) (by omega), gd_t, toNat_n, i16, wr_s (by omega), this]
      by_cases q : T.2.1 z 14 = (x : Int)
      · rw [if_pos q, if_pos (show ∃ y ∈ z :: B, T.2.1 y 14 = (x : Int) from ⟨z, by simp, q⟩)]
      · rw [if_neg q]
        by_cases g : ∃ y ∈ B, T.2.1 y 14 = (x : Int)
        · obtain ⟨y, y1, y2⟩ := g
          rw [if_pos (show ∃ y ∈ B, T.2.1 y 14 = (x : Int) from ⟨y, y1, y2⟩), if_pos (show ∃ y ∈ z :: B, T.2.1 y 14 = (x : Int) from ⟨y, List.mem_cons_of_mem _ y1, y2⟩)]
        · rw [if_neg g, if_neg (show ¬ ∃ y ∈ z :: B, T.2.1 y 14 = (x : Int) from fun ⟨y, y1, y2⟩ => by
            rcases List.mem_cons.mp y1 with e | e
            · subst e; exact q y2
            · exact g ⟨y, e, y2⟩)]
  rw [M_isFoldedTo_eq]
  exact key (lnF T.2.1) [] rfl
end RNUM

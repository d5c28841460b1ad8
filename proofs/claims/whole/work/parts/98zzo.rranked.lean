/-! ===== the reference: ranked, writeNode ===== -/
section RRANKED
variable {T : TS}
theorem rkc_step (X : Nat → List Int) (F : FT) (w own : Int) (k x : Nat) (B : List Nat) (i c : Nat) : rkc X F w own k (x :: B) i c = rkc X F w own k B (i + 1) (if own < mea X F w x ∨ (mea X F w x = own ∧ i < k) then c + 1 else c) := rfl
theorem rkc_le {X : Nat → List Int} {F : FT} {w own : Int} {k : Nat} : ∀ (B : List Nat) (i c : Nat), rkc X F w own k B i c ≤ c + B.length := by
  intro B
  induction B with
  | nil => intro i c; exact Nat.le_refl _
  | cons x B ih =>
    intro i c
    rw [rkc_step, List.length_cons]
    by_cases q : own < mea X F w x ∨ (mea X F w x = own ∧ i < k)
    · rw [if_pos q]; have := ih (i + 1) (c + 1); omega
    · rw [if_neg q]; have := ih (i + 1) c; omega
theorem rkc_app {X : Nat → List Int} {F : FT} {w own : Int} {k : Nat} : ∀ (A B : List Nat) (i c : Nat), rkc X F w own k (A ++ B) i c = rkc X F w own k B (i + A.length) (rkc X F w own k A i c) := by
  intro A
  induction A with
  | nil => intro B i c; rfl
  | cons x A ih =>
    intro B i c
    rw [List.cons_append, rkc_step, rkc_step, ih, List.length_cons, show i + 1 + A.length = i + (A.length + 1) by omega]
/-- its own place does not count -/
theorem rkc_lt {X : Nat → List Int} {F : FT} {w : Int} {A B : List Nat} {x : Nat} : rkc X F w (mea X F w x) A.length (A ++ x :: B) 0 0 < (A ++ x :: B).length := by
  rw [rkc_app, rkc_step, Nat.zero_add, if_neg (show ¬ (mea X F w x < mea X F w x ∨ (mea X F w x = mea X F w x ∧ A.length < A.length)) by omega)]
  have h1 := rkc_le (X := X) (F := F) (w := w) (own := mea X F w x) (k := A.length) A 0 0
  have h2 := rkc_le (X := X) (F := F) (w := w) (own := mea X F w x) (k := A.length) B (A.length + 1) (rkc X F w (mea X F w x) A.length A 0 0)
  rw [List.length_append, List.length_cons]
  omega
theorem nrk_out {X : Nat → List Int} {F : FT} {w place : Int} {L : List Nat} (h : ¬ (0 ≤ place ∧ place < (L.length : Int))) : ∀ (B A : List Nat), L = A ++ B → nrk X F w place L B A.length = -1 := by
  intro B
  induction B with
  | nil => intro A _; rfl
  | cons x B ih =>
    intro A hL
    have := ih (A ++ [x]) (by rw [hL]; simp)
    rw [show (A ++ [x]).length = A.length + 1 by simp] at this
    have hlt := rkc_lt (X := X) (F := F) (w := w) (A := A) (B := B) (x := x)
    rw [← hL] at hlt
    show (if (rkc X F w (mea X F w x) A.length L 0 0 : Int) = place then (A.length : Int) else nrk X F w place L B (A.length + 1)) = -1
    rw [if_neg (by omega), this]
theorem M_rankOf_s {M : Mem} (hG : Good M) (hT : TI T.2.1 T.2.2) (hX : XOK T.1 T.2.1) (hZ : RZm M T) {w : Int} (hw : 0 ≤ w ∧ w ≤ 2) {A B : List Nat} {x : Nat} (hL : lnF T.2.1 = A ++ x :: B) : ∃ M', M_rankOf 1269 (A.length : Int) w M = some (some (.inl (mea T.1 (F2of T.2.1) w x)), M') ∧ Good M' ∧ Fj oS M M' := by
  obtain ⟨⟨n1, n2, n3⟩, n4, n5, n6⟩ := rnode_at hG hT hZ hL
  have hxL : x ∈ lnF T.2.1 := by rw [hL]; simp
  have r2 := (hZ.1.1.2 x hxL).1.2
  have r6 := hZ.2.2.2.1 x hxL
  rw [M_rankOf_eq]
  unfold mea
  rw [F2_eq _ x 6 (by decide) (by decide)]
  by_cases w0 : w = 0
  · rw [if_pos w0, if_pos w0, hG.gM, gd_t, gd_t, hG.m80, n5, gd_t, toNat_n, n6, hG.m64, hG.tgS (arr_nd (by decide)) (by omega) (by omega), gd_t, toNat_n, r2]
    exact ⟨M, rfl, hG, Fj.refl⟩
  rw [if_neg w0, if_neg w0]
  by_cases w1 : w = 1
  · rw [if_pos w1, if_pos w1, hG.gM, gd_t, gd_t, hG.m80, n5, gd_t, toNat_n, n6, hG.m82, hG.tgS (arr_nb (by decide)) (by omega) (by omega), gd_t, toNat_n, r6]
    exact ⟨M, rfl, hG, Fj.refl⟩
  · obtain ⟨M1, v1, v2, v3⟩ := M_varsOf_s hG hT hX hZ hxL
    rw [if_neg w1, if_neg w1, hG.gM, gd_t, hG.m80, n5, gd_t, gd_t, toNat_n, n6, v1, cI_s]
    exact ⟨M1, rfl, v2, v3⟩
theorem M_rank_loop (hT : TI T.2.1 T.2.2) (hX : XOK T.1 T.2.1) {w place own : Int} {k : Nat} (hw : 0 ≤ w ∧ w ≤ 2) : ∀ (B A : List Nat) (c : Nat) (d7 : LV) (M : Mem), Good M → RZm M T → lnF T.2.1 = A ++ B → c ≤ A.length → ∃ M' d7', M_ranked_43 1269 place w (k : Int) own (c : Int) (A.length : Int) d7 M = (if (rkc T.1 (F2of T.2.1) w own k B A.length c : Int) = place then some (some (.inl (k : Int)), M') else M_ranked_21 1269 place w (wr ((k : Int) + 1)) (some (.inl own)) (some (.inl (rkc T.1 (F2of T.2.1) w own k B A.length c : Int))) (some (.inl ((lnF T.2.1).length : Int))) d7' M') ∧ Good M' ∧ Fj oS M M' := by
  intro B
  induction B with
  | nil =>
    intro A c d7 M hG hZ hL hc
    have hl : (lnF T.2.1).length = A.length := by rw [hL, List.append_nil]
    refine ⟨M, d7, ?_, hG, Fj.refl⟩
    rw [M_ranked_43_eq, hG.gM, gd_t, rline_end hZ hL, if_neg (by omega), hl]
    rfl
  | cons x B ih =>
    intro A c d7 M hG hZ hL hc
    obtain ⟨⟨n1, n2, n3⟩, n4, n5, n6⟩ := rnode_at hG hT hZ hL
    have hl1 : (A ++ [x]).length = A.length + 1 := by simp
    have h2 : lnF T.2.1 = (A ++ [x]) ++ B := by rw [hL]; simp
    obtain ⟨M1, a1, a2, a3⟩ := M_rankOf_s hG hT hX hZ hw hL
    have hZ1 := hZ.os a3
    rw [rkc_step, M_ranked_43_eq, hG.gM, gd_t, n4, if_pos (by omega), gd_t, a1, cI_s, wr_s (by omega), wr_id (x := (c : Int) + 0) (by omega) (by omega), show (c : Int) + 0 = (c : Int) by omega, wr_s (by omega)]
    by_cases q : own < mea T.1 (F2of T.2.1) w x
    · obtain ⟨M', d7', b1, b2, b3⟩ := ih (A ++ [x]) (c + 1) (some (.inl (mea T.1 (F2of T.2.1) w x))) M1 a2 hZ1 h2 (by omega)
      rw [hl1] at b1
      rw [if_pos q, if_pos (show own < mea T.1 (F2of T.2.1) w x ∨ (mea T.1 (F2of T.2.1) w x = own ∧ A.length < k) from Or.inl q)]
      exact ⟨M', d7', b1, b2, a3.trans b3⟩
    · by_cases q2 : mea T.1 (F2of T.2.1) w x = own
      · by_cases q3 : A.length < k
        · obtain ⟨M', d7', b1, b2, b3⟩ := ih (A ++ [x]) (c + 1) (some (.inl (mea T.1 (F2of T.2.1) w x))) M1 a2 hZ1 h2 (by omega)
          rw [hl1] at b1
          rw [if_neg q, if_pos q2, if_pos (show (A.length : Int) < (k : Int) by omega), if_pos (show own < mea T.1 (F2of T.2.1) w x ∨ (mea T.1 (F2of T.2.1) w x = own ∧ A.length < k) from Or.inr ⟨q2, q3⟩)]
          exact ⟨M', d7', b1, b2, a3.trans b3⟩
        · obtain ⟨M', d7', b1, b2, b3⟩ := ih (A ++ [x]) c (some (.inl (mea T.1 (F2of T.2.1) w x))) M1 a2 hZ1 h2 (by omega)
          rw [hl1] at b1
          rw [if_neg q, if_pos q2, if_neg (show ¬ (A.length : Int) < (k : Int) by omega), if_neg (show ¬ (own < mea T.1 (F2of T.2.1) w x ∨ (mea T.1 (F2of T.2.1) w x = own ∧ A.length < k)) from fun h => h.elim q fun h => q3 h.2)]
          exact ⟨M', d7', b1, b2, a3.trans b3⟩
      · obtain ⟨M', d7', b1, b2, b3⟩ := ih (A ++ [x]) c (some (.inl (mea T.1 (F2of T.2.1) w x))) M1 a2 hZ1 h2 (by omega)
        rw [hl1] at b1
        rw [if_neg q, if_neg q2, if_neg (show ¬ (own < mea T.1 (F2of T.2.1) w x ∨ (mea T.1 (F2of T.2.1) w x = own ∧ A.length < k)) from fun h => h.elim q fun h => q2 h.1)]
        exact ⟨M', d7', b1, b2, a3.trans b3⟩
theorem M_atRank_loop (hT : TI T.2.1 T.2.2) (hX : XOK T.1 T.2.1) {w place : Int} (hw : 0 ≤ w ∧ w ≤ 2) : ∀ (B A : List Nat) (d4 d5 d6 d7 : LV) (M : Mem), Good M → RZm M T → lnF T.2.1 = A ++ B → ∃ M', M_ranked_21 1269 place w (A.length : Int) d4 d5 d6 d7 M = some (some (.inl (nrk T.1 (F2of T.2.1) w place (lnF T.2.1) B A.length)), M') ∧ Good M' ∧ Fj oS M M' := by
  intro B
  induction B with
  | nil =>
    intro A d4 d5 d6 d7 M hG hZ hL
    refine ⟨M, ?_, hG, Fj.refl⟩
    rw [M_ranked_21_eq, hG.gM, gd_t, rline_end hZ hL, if_neg (by omega)]
    rfl
  | cons x B ih =>
    intro A d4 d5 d6 d7 M hG hZ hL
    obtain ⟨⟨n1, n2, n3⟩, n4, n5, n6⟩ := rnode_at hG hT hZ hL
    have hl1 : (A ++ [x]).length = A.length + 1 := by simp
    have h2 : lnF T.2.1 = (A ++ [x]) ++ B := by rw [hL]; simp
    obtain ⟨M1, a1, a2, a3⟩ := M_rankOf_s hG hT hX hZ hw hL
    have hZ1 := hZ.os a3
    obtain ⟨M2, d7', b1, b2, b3⟩ := M_rank_loop hT hX (place := place) (own := mea T.1 (F2of T.2.1) w x) (k := A.length) hw (lnF T.2.1) [] 0 d7 M1 a2 hZ1 rfl (Nat.zero_le _)
    have b1 : M_ranked_43 1269 place w (A.length : Int) (mea T.1 (F2of T.2.1) w x) 0 0 d7 M1 = (if (rkc T.1 (F2of T.2.1) w (mea T.1 (F2of T.2.1) w x) A.length (lnF T.2.1) 0 0 : Int) = place then some (some (.inl (A.length : Int)), M2) else M_ranked_21 1269 place w (wr ((A.length : Int) + 1)) (some (.inl (mea T.1 (F2of T.2.1) w x))) (some (.inl (rkc T.1 (F2of T.2.1) w (mea T.1 (F2of T.2.1) w x) A.length (lnF T.2.1) 0 0 : Int))) (some (.inl ((lnF T.2.1).length : Int))) d7' M2) := b1
    have e : nrk T.1 (F2of T.2.1) w place (lnF T.2.1) (x :: B) A.length = if (rkc T.1 (F2of T.2.1) w (mea T.1 (F2of T.2.1) w x) A.length (lnF T.2.1) 0 0 : Int) = place then (A.length : Int) else nrk T.1 (F2of T.2.1) w place (lnF T.2.1) B (A.length + 1) := rfl
    rw [e, M_ranked_21_eq, hG.gM, gd_t, n4, if_pos (by omega), gd_t, a1, cI_s, b1]
    by_cases q : (rkc T.1 (F2of T.2.1) w (mea T.1 (F2of T.2.1) w x) A.length (lnF T.2.1) 0 0 : Int) = place
    · rw [if_pos q, if_pos q]
      exact ⟨M2, rfl, b2, a3.trans b3⟩
    · obtain ⟨M3, c1, c2, c3⟩ := ih (A ++ [x]) (some (.inl (mea T.1 (F2of T.2.1) w x))) (some (.inl (rkc T.1 (F2of T.2.1) w (mea T.1 (F2of T.2.1) w x) A.length (lnF T.2.1) 0 0 : Int))) (some (.inl ((lnF T.2.1).length : Int))) d7' M2 b2 (hZ1.os b3) h2
      rw [hl1] at c1
      rw [if_neg q, if_neg q, wr_s (by omega), c1]
      exact ⟨M3, rfl, c2, (a3.trans b3).trans c3⟩
theorem M_ranked_0 {M : Mem} (hG : Good M) (h77 : mI M 1269 77 = 0) (p w : Int) : M_ranked 1269 p w M = some (some (.inl (-1)), M) := by
  rw [M_ranked_eq, hG.gM, gd_t, M_isNumber_0 hG h77, cI_s, if_pos rfl]
theorem M_ranked_1 {M : Mem} (hG : Good M) (hT : TI T.2.1 T.2.2) (hX : XOK T.1 T.2.1) (hZ : RZm M T) (h77 : mI M 1269 77 = 1) (p w : Int) : ∃ M', M_ranked 1269 p w M = some (some (.inl (raA T.1 (F2of T.2.1) p w)), M') ∧ Good M' ∧ Fj oS M M' := by
  have l2 := F2_ln hT
  rw [M_ranked_eq, hG.gM, gd_t, M_isNumber_1 hG hT hZ h77, cI_s]
  unfold raA
  rw [l2]
  by_cases q : 0 ≤ p ∧ p < ((lnF T.2.1).length : Int)
  · rw [if_pos q, if_neg (by decide), M_isIn_s, cI_s]
    by_cases z : 0 ≤ w ∧ w ≤ 2
    · obtain ⟨M', a1, a2, a3⟩ := M_atRank_loop hT hX (place := p) z (lnF T.2.1) [] none none none none M hG hZ rfl
      have a1 : M_ranked_21 1269 p w 0 none none none none M = _ := a1
      rw [if_pos z, if_neg (by decide), if_pos z, a1]
      exact ⟨M', rfl, a2, a3⟩
    · rw [if_neg z, if_pos rfl, if_neg z]
      exact ⟨M, rfl, hG, Fj.refl⟩
  · have e : nrk T.1 (F2of T.2.1) w p (lnF T.2.1) (lnF T.2.1) 0 = -1 := nrk_out q (lnF T.2.1) [] rfl
    rw [if_neg q, if_pos rfl, e]
    refine ⟨M, ?_, hG, Fj.refl⟩
    split <;> rfl
theorem M_wnode_0 {M : Mem} (hG : Good M) (h77 : mI M 1269 77 = 0) (k : Int) : M_writeNode 1269 k M = some (some (.inl (-1)), M) := by
  rw [M_writeNode_eq, hG.gM, gd_t, M_isNumber_0 hG h77, cI_s, if_pos rfl]
end RRANKED

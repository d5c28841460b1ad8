/-! ===== texts: the reference writes rows ===== -/
def TXm (M : Mem) (ws : List Int) : Prop := mI M 1269 61 = (ws.length : Int) ∧ ws.length ≤ 80000 ∧ ∀ i, i < ws.length → mI M 1307 i = nth ws i
def LKm (M : Mem) : List Nat → Prop
  | [] => True
  | l :: st => (mI M 1308 st.length = (l : Int) ∧ l ≤ 8) ∧ LKm M st
def wmS : Nat → Nat → Prop := fun a k => a = 1307 ∨ (a = 1269 ∧ k = 61)
def wmL : Nat → Nat → Prop := fun a k => wmS a k ∨ a = 1308
/-- VARS by order -/
def rno (vs : List Int) (c : Int) : Int := if kd c = 0 then ix vs c + 1 else c
section WRITEM
variable {M : Mem} {ws : List Int}
theorem arr_1307 : arr 1307 1 80000 := arr_of _ _ _ (by decide)
theorem arr_1308 : arr 1308 0 13000 := arr_of _ _ _ (by decide)
theorem TXm.fj {M1 : Mem} {S : Nat → Nat → Prop} (h : TXm M ws) (f : Fj S M M1) (h1 : ¬ S 1269 61) (h2 : ∀ k, ¬ S 1307 k) : TXm M1 ws := ⟨(f.2.2 _ _ h1).trans h.1, h.2.1, fun i hi => (f.2.2 _ _ (h2 i)).trans (h.2.2 i hi)⟩
theorem LKm.fj {M1 : Mem} {S : Nat → Nat → Prop} : ∀ {st : List Nat}, LKm M st → Fj S M M1 → (∀ k, k < st.length → ¬ S 1308 k) → LKm M1 st := by
  intro st
  induction st with
  | nil => intro _ _ _; trivial
  | cons l st ih =>
    intro h f h1
    exact ⟨⟨(f.2.2 _ _ (h1 st.length (by simp))).trans h.1.1, h.1.2⟩, ih h.2 f fun k hk => h1 k (by simp; omega)⟩
theorem M_put_s (hG : Good M) (h : TXm M ws) (hl : ws.length < 80000) {v : Int} (hv : 0 ≤ v ∧ v < 128) : ∃ M', M_put 1269 v M = some (none, M') ∧ TXm M' (ws ++ [v]) ∧ Fj wmS M M' := by
  refine ⟨_, ?_, ⟨?_, ?_, fun i hi => ?_⟩, (Fj.ofI (S := wmS) (a := 1307) (k := ws.length) (v := v) (Or.inl rfl)).trans (Fj.ofI (a := 1269) (k := 61) (v := ((ws.length + 1 : Nat) : Int)) (Or.inr ⟨rfl, rfl⟩))⟩
  · rw [M_put_eq, hG.gM, gd_t, gd_t, h.1, hG.m60, if_pos (hG.tgS arr_1307 (by omega) (by omega)), gd_t, gd_t, toNat_n, mI_ne (by omega), h.1, wr_s (by omega), wb_id hv, wb_id hv]
  · rw [mI_at, List.length_append]; rfl
  · rw [List.length_append, List.length_singleton]; exact hl
  · rw [List.length_append, List.length_singleton] at hi
    rw [mI_ne (by omega)]
    by_cases q : i = ws.length
    · subst q; rw [mI_at, nth_app2 (Nat.le_refl _), Nat.sub_self]; rfl
    · rw [mI_ne (by omega), nth_app1 (by omega)]; exact h.2.2 i (by omega)
/-- a number up to 99 -/
def nuB (v : Int) : List Int := if 9 < v then [48 + v / 10, 48 + v % 10] else [48 + v % 10]
theorem nuB_len {v : Int} : (nuB v).length ≤ 2 := by unfold nuB; split <;> simp
theorem M_putNumber_s (hG : Good M) (h : TXm M ws) (hl : ws.length + 2 ≤ 80000) {v : Int} (hv : 0 ≤ v ∧ v < 100) : ∃ M', M_putNumber 1269 v M = some (none, M') ∧ TXm M' (ws ++ nuB v) ∧ Fj wmS M M' := by
  unfold nuB
  rw [M_putNumber_eq, if_neg (by omega), M_putNumber_17_eq, hG.gM, pdiv_nn hv.1 (by omega) (by decide), prem_nn hv.1 (by omega) (by decide), prem_nn (by omega) (by omega) (by decide)]
  by_cases h1 : 9 < v
  · obtain ⟨M2, b1, b2, b3⟩ := M_put_s hG h (v := 48 + v / 10) (by omega) (by omega)
    have hG2 := hG.fj b3
    obtain ⟨M3, c1, c2, c3⟩ := M_put_s hG2 b2 (v := 48 + v % 10) (by rw [List.length_append, List.length_singleton]; omega) (by omega)
    rw [if_pos h1, if_pos h1, gd_t, show v / 10 % 10 = v / 10 by omega, wr_id (x := 48 + v / 10) (by omega) (by omega), b1, cV_s, hG2.gM, gd_t, wr_id (x := 48 + v % 10) (by omega) (by omega), c1, cV_s]
    refine ⟨M3, rfl, ?_, b3.trans c3⟩
    rw [List.append_assoc] at c2
    exact c2
  · obtain ⟨M2, b1, b2, b3⟩ := M_put_s hG h (v := 48 + v % 10) (by omega) (by omega)
    rw [if_neg h1, if_neg h1, gd_t, wr_id (x := 48 + v % 10) (by omega) (by omega), b1, cV_s]
    exact ⟨M2, rfl, b2, b3⟩
theorem nmB_nu {f n : Int} (hn : 0 ≤ n) : nmB f n = (f + n / 101) :: (if 0 < n % 101 then nuB (n % 101 - 1) else []) := by
  unfold nmB nuB
  congr 1
  by_cases h1 : n % 101 - 1 < 10
  · rw [if_pos h1]
    by_cases h2 : n % 101 - 1 < 0
    · rw [if_pos h2, if_neg (by omega)]
    · rw [if_neg h2, if_pos (by omega), if_neg (by omega)]
  · rw [if_neg h1, if_pos (by omega), if_pos (by omega)]
theorem M_putName_s (hG : Good M) (h : TXm M ws) (hl : ws.length + 3 ≤ 80000) {n : Int} (hn : 0 ≤ n ∧ 97 + n / 101 < 128) : ∃ M', M_putName 1269 n M = some (none, M') ∧ TXm M' (ws ++ nmB 97 n) ∧ Fj wmS M M' := by
  obtain ⟨M1, a1, a2, a3⟩ := M_put_s hG h (v := 97 + n / 101) (by omega) (by omega)
  have hG1 := hG.fj a3
  rw [nmB_nu hn.1, M_putName_eq, hG.gM, gd_t, pdiv_nn hn.1 (by omega) (by decide), prem_nn hn.1 (by omega) (by decide), wr_id (x := 97 + n / 101) (by omega) (by omega), a1, cV_s]
  by_cases h1 : 0 < n % 101
  · obtain ⟨M2, b1, b2, b3⟩ := M_putNumber_s hG1 a2 (v := n % 101 - 1) (by rw [List.length_append, List.length_singleton]; omega) (by omega)
    rw [if_pos h1, if_pos h1, hG1.gM, gd_t, wr_id (x := n % 101 - 1) (by omega) (by omega), b1, cV_s]
    refine ⟨M2, rfl, ?_, a3.trans b3⟩
    rw [List.append_assoc] at b2
    exact b2
  · rw [if_neg h1, if_neg h1]
    exact ⟨M1, rfl, a2, a3⟩
theorem nmB_off (n : Int) : nmB 97 (n + 1212) = nmB 109 n := by
  unfold nmB
  rw [show (97 : Int) + (n + 1212) / 101 = 109 + n / 101 by omega, show (n + 1212) % 101 = n % 101 by omega]
theorem M_closeAll_s : ∀ (st : List Nat) (M : Mem) (ws : List Int) (d : LV), Good M → TXm M ws → LKm M st → st.length ≤ 12999 → (∀ l ∈ st, 1 ≤ l) → ws.length + st.length + 1 ≤ 80000 → ∃ M', M_closeAll_2 1269 (st.length : Int) d M = some (some (.inl ((clU st).length : Int)), M') ∧ TXm M' (ws ++ clB st) ∧ LKm M' (clU st) ∧ Fj wmL M M' := by
  intro st
  induction st with
  | nil =>
    intro M ws d hG h hL hs h1 hl
    rw [M_closeAll_2_eq, if_neg (by decide)]
    refine ⟨M, rfl, ?_, trivial, Fj.refl⟩
    show TXm M (ws ++ [])
    rw [List.append_nil]; exact h
  | cons l st ih =>
    intro M ws d hG h hL hs h1 hl
    simp only [List.length_cons] at hs hl
    obtain ⟨⟨k1, k2⟩, k3⟩ := hL
    have hl1 := h1 l (by simp)
    have e : (((l :: st).length : Nat) : Int) - 1 = (st.length : Int) := by simp
    have f1 : Fj (fun a k => a = 1308 ∧ k = st.length) M (stI M 1308 st.length ((l : Int) - 1)) := Fj.ofI ⟨rfl, rfl⟩
    have hG1 := hG.fj f1
    have hT1 : TXm (stI M 1308 st.length ((l : Int) - 1)) ws := h.fj f1 (by omega) (by omega)
    have hK1 : LKm (stI M 1308 st.length ((l : Int) - 1)) st := k3.fj f1 (by omega)
    have F1 : Fj wmL M (stI M 1308 st.length ((l : Int) - 1)) := f1.mono fun a k q => Or.inr q.1
    have hll : (((l :: st).length : Nat) : Int) = (st.length : Int) + 1 := by simp
    rw [M_closeAll_2_eq, if_pos (by omega), wr_id (x := (((l :: st).length : Nat) : Int) - 1) (by omega) (by omega), e, hG.gM, gd_t, hG.m62, hG.tgS arr_1308 (by omega) (by omega), gd_t, gd_t, gd_t, gd_t, toNat_n, k1, wr_id (x := (l : Int) - 1) (by omega) (by omega), mI_at]
    unfold clB clU
    by_cases q : 1 < l
    · obtain ⟨M2, b1, b2, b3⟩ := M_put_s hG1 hT1 (v := 44) (by omega) (by decide)
      rw [if_pos (show (0 : Int) < (l : Int) - 1 by omega), if_pos q, if_pos q, gd_t, b1, cV_s]
      refine ⟨M2, rfl, b2, ⟨⟨?_, by omega⟩, hK1.fj b3 (by unfold wmS; omega)⟩, F1.trans (b3.mono fun a k q => Or.inl q)⟩
      rw [b3.2.2 _ _ (by unfold wmS; omega), mI_at]
      omega
    · obtain ⟨M2, b1, b2, b3⟩ := M_put_s hG1 hT1 (v := 41) (by omega) (by decide)
      have hG2 := hG1.fj b3
      obtain ⟨M3, c1, c2, c3, c4⟩ := ih M2 (ws ++ [41]) d hG2 b2 (hK1.fj b3 (by unfold wmS; omega)) (by omega) (fun x hx => h1 x (List.mem_cons_of_mem _ hx)) (by rw [List.length_append, List.length_singleton]; omega)
      rw [if_neg (show ¬ (0 : Int) < (l : Int) - 1 by omega), if_neg q, if_neg q, gd_t, b1, cV_s, wr_id (x := (((l :: st).length : Nat) : Int) + -1) (by omega) (by omega), show (((l :: st).length : Nat) : Int) + -1 = (st.length : Int) by omega]
      refine ⟨M3, c1, ?_, c3, (F1.trans (b3.mono fun a k q => Or.inl q)).trans c4⟩
      rw [List.append_assoc] at c2
      exact c2
/-- the mode: VARS as they are, or by the order that is laid -/
def MD (M : Mem) (xs : List Int) (b : Int) (g : Int → Int) : Prop := (b = 0 ∧ vlo xs ∧ ∀ c, g c = c) ∨ (b = 1 ∧ ∃ vs, OR M vs ∧ vs.length ≤ 100 ∧ (∀ c ∈ xs, kd c = 0 → c ∈ vs) ∧ ∀ c, g c = rno vs c)
theorem MD.fj {M1 : Mem} {S : Nat → Nat → Prop} {xs : List Int} {b : Int} {g : Int → Int} (h : MD M xs b g) (f : Fj S M M1) (h1 : ¬ S 1269 43) (h2 : ∀ k, ¬ S 1297 k) : MD M1 xs b g := by
  rcases h with h | ⟨h, vs, h3, h4⟩
  · exact Or.inl h
  · exact Or.inr ⟨h, vs, ⟨(f.2.2 _ _ h1).trans h3.1, h3.2.1, fun i hi => (f.2.2 _ _ (h2 i)).trans (h3.2.2.1 i hi), h3.2.2.2⟩, h4⟩
theorem M_putVar_s (hG : Good M) (h : TXm M ws) (hl : ws.length + 3 ≤ 80000) {xs : List Int} {b : Int} {g : Int → Int} (hm : MD M xs b g) {c : Int} (hc : c ∈ xs) (hv : vc c) (hk : kd c = 0) : ∃ M', M_putVar 1269 (nmo c) b M = some (none, M') ∧ TXm M' (ws ++ nmB 109 (g c)) ∧ Fj wmS M M' := by
  rcases hm with ⟨h1, h2, h3⟩ | ⟨h1, vs, h2, h3, h4, h5⟩
  · have hlt := h2 c hc hk
    have h0 := hv.1
    obtain ⟨M1, a1, a2, a3⟩ := M_putName_s hG h (n := nmo c) (by omega) (by rw [(cm_var (v := c) (by omega)).2, if_pos hlt]; omega)
    rw [M_putVar_eq, if_pos h1, hG.gM, gd_t, a1, cV_s, h3]
    refine ⟨M1, rfl, ?_, a3⟩
    rw [(cm_var (v := c) (by omega)).2, if_pos hlt, nmB_off] at a2
    exact a2
  · obtain ⟨M1, a1, a2, a3⟩ := M_put_s hG h (v := 109) (by omega) (by decide)
    have hG1 := hG.fj a3
    have hO : OR M1 vs := ⟨(a3.2.2 _ _ (by unfold wmS; omega)).trans h2.1, h2.2.1, fun i hi => (a3.2.2 _ _ (by unfold wmS; omega)).trans (h2.2.2.1 i hi), h2.2.2.2⟩
    have hin := h4 c hc hk
    have hix : 0 ≤ ix vs c ∧ ix vs c < 100 := by
      have := ix_rng vs c
      have := ix_mem.mpr hin
      omega
    obtain ⟨M2, b1, b2, b3⟩ := M_putNumber_s hG1 a2 (v := ix vs c) (by rw [List.length_append, List.length_singleton]; omega) hix
    rw [M_putVar_eq, h1, if_neg (by decide), hG.gM, gd_t, a1, cV_s, hG1.gM, gd_t, M_orderPlace_s hG1 hO hv hk, cI_s, hG1.gM, gd_t, b1, cV_s]
    refine ⟨M2, rfl, ?_, a3.trans b3⟩
    rw [List.append_assoc] at b2
    rw [h5]
    unfold rno
    rw [if_pos hk, nmB_nu (by omega), if_pos (by omega), show (109 : Int) + (ix vs c + 1) / 101 = 109 by omega, show (ix vs c + 1) % 101 - 1 = ix vs c by omega]
    exact b2
end WRITEM

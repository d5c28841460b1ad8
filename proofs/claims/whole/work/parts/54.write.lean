/-! ===== texts: what both write; the class writes expressions ===== -/
theorem bm_id {x : Int} (h : InR x) : x.bmod (2 ^ 32) = x := (wr_bmod x).symm.trans (wr_of h)
theorem pdiv_nn {a b : Int} (h : 0 ≤ a) (h2 : a < 2147483648) (hb : 0 < b ∧ b < 2147483648) : pdiv a b = a / b := by
  unfold pdiv
  have h3 : a / b ≤ a := Int.ediv_le_self b h
  have h4 : 0 ≤ a / b := Int.ediv_nonneg h (by omega)
  rw [Int32.toInt_div, oi_toInt (by unfold InR; omega), oi_toInt (by unfold InR; omega), Int.tdiv_eq_ediv_of_nonneg h, bm_id (by unfold InR; omega)]
theorem prem_nn {a b : Int} (h : 0 ≤ a) (h2 : a < 2147483648) (hb : 0 < b ∧ b < 2147483648) : prem a b = a % b := by
  unfold prem
  have h3 : a / b ≤ a := Int.ediv_le_self b h
  have h4 : 0 ≤ a / b := Int.ediv_nonneg h (by omega)
  have h5 : a / b * b ≤ a := Int.ediv_mul_le a (by omega)
  have h6 : 0 ≤ a / b * b := Int.mul_nonneg h4 (by omega)
  have e : (Int32.ofInt a / Int32.ofInt b).toInt = a / b := pdiv_nn h h2 hb
  have h7 : a % b = a - a / b * b := by rw [Int.emod_def, Int.mul_comm]
  rw [Int32.toInt_sub, Int32.toInt_mul, e, oi_toInt (by unfold InR; omega), oi_toInt (by unfold InR; omega), h7]
  generalize a / b * b = q at *
  rw [bm_id (x := q) (by unfold InR; omega), bm_id (by unfold InR; omega)]
theorem arN_8 {c : Int} (h : vc c) : arN c ≤ 8 := by
  have h1 := arN_ar c
  have h2 := kd_nn c
  obtain ⟨-, h3, h4, h5, h6⟩ := h
  by_cases q0 : kd c = 0
  · have := h3 q0; omega
  by_cases q1 : kd c = 1
  · have := (h4 q1).1; omega
  by_cases q2 : kd c = 2
  · have := (h5 q2).1; omega
  rw [h6 (by omega)]
  decide
def nmB (f n : Int) : List Int := (f + n / 101) :: (if n % 101 - 1 < 10 then (if n % 101 - 1 < 0 then [] else [48 + (n % 101 - 1) % 10]) else [48 + (n % 101 - 1) / 10, 48 + (n % 101 - 1) % 10])
def tnB (c : Int) : List Int := if kd c = 0 then nmB 109 c else if kd c = 1 then [65 + sy c] else if kd c = 3 then [33] else nmB 97 (sy c) ++ (if arN c = 0 then [40, 41] else [])
def clB : List Nat → List Int
  | [] => []
  | l :: st => if 1 < l then [44] else 41 :: clB st
def clU : List Nat → List Nat
  | [] => []
  | l :: st => if 1 < l then (l - 1) :: st else clU st
def wtx : List Int → List Nat → List Int
  | [], _ => []
  | c :: xs, st => tnB c ++ (if 0 < arN c then 40 :: wtx xs (arN c :: st) else clB st ++ wtx xs (clU st))
/-- never too many are open -/
def wok : List Int → List Nat → Prop
  | [], _ => True
  | c :: xs, st => if 0 < arN c then st.length < 512 ∧ wok xs (arN c :: st) else wok xs (clU st)
/-- VARS that were told -/
def vlo (xs : List Int) : Prop := ∀ c ∈ xs, kd c = 0 → c < 1414
def b7 (bs : List Int) : Prop := ∀ b ∈ bs, 0 ≤ b ∧ b < 128
theorem clU_len : ∀ st : List Nat, (clB st).length + (clU st).length ≤ st.length + 1 := by
  intro st
  induction st with
  | nil => decide
  | cons l st ih =>
    unfold clB clU
    split
    · simp; omega
    · simp only [List.length_cons]; omega
theorem clB_b7 : ∀ st : List Nat, b7 (clB st) := by
  intro st
  induction st with
  | nil => intro b h; cases h
  | cons l st ih =>
    intro b h
    unfold clB at h
    split at h
    · rw [List.mem_singleton.mp h]; decide
    · rcases List.mem_cons.mp h with h | h
      · rw [h]; decide
      · exact ih b h
theorem nmB_len {f n : Int} : (nmB f n).length ≤ 3 := by
  unfold nmB
  split
  · split <;> simp
  · simp
theorem nmB_b7 {f n : Int} (h : 0 ≤ f) (hn : 0 ≤ n ∧ f + n / 101 < 128) : b7 (nmB f n) := by
  intro b hb
  unfold nmB at hb
  rcases List.mem_cons.mp hb with hb | hb
  · rw [hb]; omega
  · split at hb
    · split at hb
      · cases hb
      · rw [List.mem_singleton.mp hb]; omega
    · rcases List.mem_cons.mp hb with hb | hb
      · rw [hb]; omega
      · rw [List.mem_singleton.mp hb]; omega
theorem tnB_len {c : Int} : (tnB c).length ≤ 5 ∧ (0 < arN c → (tnB c).length ≤ 3) := by
  unfold tnB
  have := fun f n => @nmB_len f n
  split
  · exact ⟨by have := this 109 c; omega, fun _ => this 109 c⟩
  · split
    · exact ⟨by simp, fun _ => by simp⟩
    · split
      · exact ⟨by simp, fun _ => by simp⟩
      · have h := this 97 (sy c)
        rw [List.length_append]
        refine ⟨?_, fun q => ?_⟩
        · split
          · simp; omega
          · simp; omega
        · rw [if_neg (by omega)]; simp; exact h
theorem wtx_len : ∀ (xs : List Int) (st : List Nat), (wtx xs st).length ≤ 6 * xs.length + st.length := by
  intro xs
  induction xs with
  | nil => intro st; exact Nat.zero_le _
  | cons c xs ih =>
    intro st
    obtain ⟨h1, h2⟩ := @tnB_len c
    unfold wtx
    rw [List.length_append]
    split
    · rename_i h
      have h3 := h2 h
      have h4 := ih (arN c :: st)
      simp only [List.length_cons] at h4 ⊢
      omega
    · have h4 := ih (clU st)
      have h5 := clU_len st
      rw [List.length_append]
      simp only [List.length_cons]
      omega
def TXc (M : Mem) (ws : List Int) : Prop := mI M 9 2 = (ws.length : Int) ∧ ws.length ≤ 73728 ∧ ∀ i, i < ws.length → mI M 10 i = nth ws i
def LKc (M : Mem) : List Nat → Prop
  | [] => True
  | l :: st => (mI M 11 st.length = (l : Int) ∧ l ≤ 8) ∧ LKc M st
def wcS : Nat → Nat → Prop := fun a k => a = 10 ∨ (a = 9 ∧ k = 2)
def wcL : Nat → Nat → Prop := fun a k => wcS a k ∨ a = 11
section WRITEC
variable {M : Mem} {ws : List Int}
theorem obj_W : obj 9 10 := obj_of _ _ (by decide)
theorem arr_10 : arr 10 1 73728 := arr_of _ _ _ (by decide)
theorem arr_11 : arr 11 0 512 := arr_of _ _ _ (by decide)
theorem Good.gW (h : Good M) : gO M 9 10 = true := h.tgO obj_W
theorem TXc.fj {M1 : Mem} {S : Nat → Nat → Prop} (h : TXc M ws) (f : Fj S M M1) (h1 : ¬ S 9 2) (h2 : ∀ k, ¬ S 10 k) : TXc M1 ws := ⟨(f.2.2 _ _ h1).trans h.1, h.2.1, fun i hi => (f.2.2 _ _ (h2 i)).trans (h.2.2 i hi)⟩
theorem LKc.fj {M1 : Mem} {S : Nat → Nat → Prop} : ∀ {st : List Nat}, LKc M st → Fj S M M1 → (∀ k, k < st.length → ¬ S 11 k) → LKc M1 st := by
  intro st
  induction st with
  | nil => intro _ _ _; trivial
  | cons l st ih =>
    intro h f h1
    exact ⟨⟨(f.2.2 _ _ (h1 st.length (by simp))).trans h.1.1, h.1.2⟩, ih h.2 f fun k hk => h1 k (by simp; omega)⟩
theorem wb_id {v : Int} (h : 0 ≤ v ∧ v < 128) : wb v = v := by unfold wb; omega
theorem Wr_put_s (hG : Good M) (h : TXc M ws) (hl : ws.length < 73728) {v : Int} (hv : 0 ≤ v ∧ v < 128) : ∃ M', Wr_put 9 v M = some (none, M') ∧ TXc M' (ws ++ [v]) ∧ Fj wcS M M' := by
  refine ⟨_, ?_, ⟨?_, ?_, fun i hi => ?_⟩, (Fj.ofI (S := wcS) (a := 10) (k := ws.length) (v := v) (Or.inl rfl)).trans (Fj.ofI (a := 9) (k := 2) (v := ((ws.length + 1 : Nat) : Int)) (Or.inr ⟨rfl, rfl⟩))⟩
  · rw [Wr_put_eq, hG.gW, gd_t, h.1, if_pos (by omega), gd_t, gd_t, hG.r9_0, if_pos (hG.tgS arr_10 (by omega) (by omega)), gd_t, gd_t, toNat_n, mI_ne (by omega), h.1, wr_s (by omega), wb_id hv, wb_id hv]
  · rw [mI_at, List.length_append]; rfl
  · rw [List.length_append, List.length_singleton]; exact hl
  · rw [List.length_append, List.length_singleton] at hi
    rw [mI_ne (by omega)]
    by_cases q : i = ws.length
    · subst q; rw [mI_at, nth_app2 (Nat.le_refl _), Nat.sub_self]; rfl
    · rw [mI_ne (by omega), nth_app1 (by omega)]; exact h.2.2 i (by omega)
theorem Wr_putName_s (hG : Good M) (h : TXc M ws) (hl : ws.length + 3 ≤ 73728) {f n : Int} (hf : 0 ≤ f) (hn : 0 ≤ n ∧ f + n / 101 < 128) : ∃ M', Wr_putName 9 f n M = some (none, M') ∧ TXc M' (ws ++ nmB f n) ∧ Fj wcS M M' := by
  obtain ⟨M1, a1, a2, a3⟩ := Wr_put_s hG h (v := f + n / 101) (by omega) (by omega)
  have hG1 := hG.fj a3
  have l1 : (ws ++ [f + n / 101]).length = ws.length + 1 := by simp
  unfold nmB
  rw [Wr_putName_eq, hG.gW, gd_t, pdiv_nn hn.1 (by omega) (by decide), prem_nn hn.1 (by omega) (by decide), wr_id (x := f + n / 101) (by omega) (by omega), a1, cV_s, wr_id (x := n % 101 - 1) (by omega) (by omega), hG1.gW]
  by_cases h1 : n % 101 - 1 < 10
  · rw [if_pos h1, if_pos h1]
    by_cases h2 : n % 101 - 1 < 0
    · rw [if_pos h2, if_pos h2]
      exact ⟨M1, rfl, a2, a3⟩
    · obtain ⟨M2, b1, b2, b3⟩ := Wr_put_s hG1 a2 (v := 48 + (n % 101 - 1) % 10) (by omega) (by omega)
      rw [if_neg h2, if_neg h2, gd_t, prem_nn (by omega) (by omega) (by decide), wr_id (x := 48 + (n % 101 - 1) % 10) (by omega) (by omega), b1, cV_s]
      refine ⟨M2, rfl, ?_, a3.trans b3⟩
      rw [List.append_assoc] at b2
      exact b2
  · obtain ⟨M2, b1, b2, b3⟩ := Wr_put_s hG1 a2 (v := 48 + (n % 101 - 1) / 10) (by omega) (by omega)
    have hG2 := hG1.fj b3
    obtain ⟨M3, c1, c2, c3⟩ := Wr_put_s hG2 b2 (v := 48 + (n % 101 - 1) % 10) (by rw [List.length_append, List.length_singleton]; omega) (by omega)
    rw [if_neg h1, if_neg h1, gd_t, pdiv_nn (by omega) (by omega) (by decide), prem_nn (by omega) (by omega) (by decide), wr_id (x := 48 + (n % 101 - 1) / 10) (by omega) (by omega), b1, cV_s, if_neg (by omega), hG2.gW, gd_t, wr_id (x := 48 + (n % 101 - 1) % 10) (by omega) (by omega), c1, cV_s]
    refine ⟨M3, rfl, ?_, (a3.trans b3).trans c3⟩
    rw [List.append_assoc, List.append_assoc] at c2
    exact c2
/-- a cell that can be written -/
theorem Wr_putThing_s (hG : Good M) (h : TXc M ws) (hl : ws.length + 5 ≤ 73728) {c : Int} (hc : vc c) (hv : kd c = 0 → c < 1414) : ∃ M', Wr_putThing 9 c M = some (none, M') ∧ TXc M' (ws ++ tnB c) ∧ Fj wcS M M' := by
  have hk := kd_nn c
  have hs : 0 ≤ sy c ∧ sy c < 65536 := by unfold sy; omega
  unfold tnB
  rw [Wr_putThing_eq, Ex_kind_s (vc_inR hc), cI_s, hG.gW]
  by_cases h0 : kd c = 0
  · have := hv h0
    have hc0 := hc.1
    obtain ⟨M1, a1, a2, a3⟩ := Wr_putName_s hG h (f := 109) (n := c) (by omega) (by decide) (by omega)
    rw [if_pos h0, if_pos h0, gd_t, a1, cV_s]
    exact ⟨M1, rfl, a2, a3⟩
  rw [if_neg h0, if_neg h0]
  by_cases h1 : kd c = 1
  · have h26 := (hc.2.2.1 h1).2
    obtain ⟨M1, a1, a2, a3⟩ := Wr_put_s hG h (v := 65 + sy c) (by omega) (by omega)
    rw [if_pos h1, if_pos h1, Ex_symbol_s, cI_s, hG.gW, gd_t, wr_id (x := 65 + sy c) (by omega) (by omega), a1, cV_s]
    exact ⟨M1, rfl, a2, a3⟩
  rw [if_neg h1, if_neg h1]
  by_cases h3 : kd c = 3
  · obtain ⟨M1, a1, a2, a3⟩ := Wr_put_s hG h (v := 33) (by omega) (by decide)
    rw [if_pos h3, if_pos h3, gd_t, a1, cV_s]
    exact ⟨M1, rfl, a2, a3⟩
  rw [if_neg h3, if_neg h3]
  have h12 := (hc.2.2.2.1 (by omega)).2
  obtain ⟨M1, a1, a2, a3⟩ := Wr_putName_s hG h (f := 97) (n := sy c) (by omega) (by decide) (by omega)
  have hG1 := hG.fj a3
  have hal := arN_ar c
  have hnl := @nmB_len 97 (sy c)
  rw [Ex_symbol_s, cI_s, hG.gW, gd_t, a1, cV_s, Ex_arity_s (vc_inR hc), cI_s]
  by_cases h4 : arN c = 0
  · obtain ⟨M2, b1, b2, b3⟩ := Wr_put_s hG1 a2 (v := 40) (by rw [List.length_append]; omega) (by decide)
    have hG2 := hG1.fj b3
    obtain ⟨M3, c1, c2, c3⟩ := Wr_put_s hG2 b2 (v := 41) (by rw [List.length_append, List.length_append, List.length_singleton]; omega) (by decide)
    rw [if_pos (by omega), if_pos h4, hG1.gW, gd_t, b1, cV_s, hG2.gW, gd_t, c1, cV_s]
    refine ⟨M3, rfl, ?_, (a3.trans b3).trans c3⟩
    rw [List.append_assoc, List.append_assoc] at c2
    exact c2
  · rw [if_neg (by omega), if_neg h4, List.append_nil]
    exact ⟨M1, rfl, a2, a3⟩
theorem Wr_closeThings_s : ∀ (st : List Nat) (M : Mem) (ws : List Int) (d : LV), Good M → TXc M ws → LKc M st → st.length ≤ 512 → (∀ l ∈ st, 1 ≤ l) → ws.length + st.length + 1 ≤ 73728 → ∃ M', Wr_closeThings_4 9 ((st.length : Int) - 1) d M = some (some (.inl ((clU st).length : Int)), M') ∧ TXc M' (ws ++ clB st) ∧ LKc M' (clU st) ∧ Fj wcL M M' := by
  intro st
  induction st with
  | nil =>
    intro M ws d hG h hL hs h1 hl
    rw [Wr_closeThings_4_eq, if_pos (by decide)]
    refine ⟨M, rfl, ?_, trivial, Fj.refl⟩
    show TXc M (ws ++ [])
    rw [List.append_nil]; exact h
  | cons l st ih =>
    intro M ws d hG h hL hs h1 hl
    simp only [List.length_cons] at hs hl
    obtain ⟨⟨k1, k2⟩, k3⟩ := hL
    have hl1 := h1 l (by simp)
    have e : (((l :: st).length : Nat) : Int) - 1 = (st.length : Int) := by simp
    have f1 : Fj (fun a k => a = 11 ∧ k = st.length) M (stI M 11 st.length ((l : Int) - 1)) := Fj.ofI ⟨rfl, rfl⟩
    have hG1 := hG.fj f1
    have hT1 : TXc (stI M 11 st.length ((l : Int) - 1)) ws := h.fj f1 (by omega) (by omega)
    have hK1 : LKc (stI M 11 st.length ((l : Int) - 1)) st := k3.fj f1 (by omega)
    have F1 : Fj wcL M (stI M 11 st.length ((l : Int) - 1)) := f1.mono fun a k q => Or.inr q.1
    rw [e, Wr_closeThings_4_eq, if_neg (by omega), hG.gW, gd_t, hG.r9_1, hG.tgS arr_11 (by omega) (by omega), gd_t, gd_t, gd_t, gd_t, toNat_n, k1, wr_id (x := (l : Int) - 1) (by omega) (by omega), mI_at]
    unfold clB clU
    by_cases q : 1 < l
    · obtain ⟨M2, b1, b2, b3⟩ := Wr_put_s hG1 hT1 (v := 44) (by omega) (by decide)
      rw [if_pos (show (0 : Int) < (l : Int) - 1 by omega), if_pos q, if_pos q, gd_t, b1, cV_s, wr_s (by omega)]
      refine ⟨M2, rfl, b2, ⟨⟨?_, by omega⟩, hK1.fj b3 (by unfold wcS; omega)⟩, F1.trans (b3.mono fun a k q => Or.inl q)⟩
      rw [b3.2.2 _ _ (by unfold wcS; omega), mI_at]
      omega
    · obtain ⟨M2, b1, b2, b3⟩ := Wr_put_s hG1 hT1 (v := 41) (by omega) (by decide)
      have hG2 := hG1.fj b3
      obtain ⟨M3, c1, c2, c3, c4⟩ := ih M2 (ws ++ [41]) d hG2 b2 (hK1.fj b3 (by unfold wcS; omega)) (by omega) (fun x hx => h1 x (List.mem_cons_of_mem _ hx)) (by rw [List.length_append, List.length_singleton]; omega)
      rw [if_neg (show ¬ (0 : Int) < (l : Int) - 1 by omega), if_neg q, if_neg q, gd_t, b1, cV_s, wr_id (x := (st.length : Int) + -1) (by omega) (by omega), show (st.length : Int) + -1 = (st.length : Int) - 1 by omega]
      refine ⟨M3, c1, ?_, c3, (F1.trans (b3.mono fun a k q => Or.inl q)).trans c4⟩
      rw [List.append_assoc] at c2
      exact c2
theorem clU_pos : ∀ st : List Nat, (∀ l ∈ st, 1 ≤ l) → ∀ l ∈ clU st, 1 ≤ l := by
  intro st
  induction st with
  | nil => intro _ l hl; cases hl
  | cons a st ih =>
    intro h l hl
    unfold clU at hl
    split at hl
    · rcases List.mem_cons.mp hl with hl | hl
      · rw [hl]; omega
      · exact h l (List.mem_cons_of_mem _ hl)
    · exact ih (fun x hx => h x (List.mem_cons_of_mem _ hx)) l hl
theorem clU_le (st : List Nat) : (clU st).length ≤ st.length := by
  induction st with
  | nil => exact Nat.le_refl _
  | cons a st ih =>
    unfold clU
    split
    · simp
    · simp only [List.length_cons]; omega
theorem Wr_putExpr_loop {e n : Nat} {xs : List Int} (he : 11 < e) (hv : av xs) (hlo : vlo xs) : ∀ (k i : Nat) (st : List Nat) (M : Mem) (ws : List Int) (d1 d2 : LV), xs.length - i = k → i ≤ xs.length → Good M → XE M e n xs → TXc M ws → LKc M st → st.length ≤ 512 → (∀ l ∈ st, 1 ≤ l) → wok (xs.drop i) st → ws.length + 6 * (xs.length - i) + st.length ≤ 73728 → ∃ M', Wr_putExpr_4 9 e (st.length : Int) (i : Int) d1 d2 M = some (none, M') ∧ TXc M' (ws ++ wtx (xs.drop i) st) ∧ Fj wcL M M' := by
  intro k
  induction k with
  | zero =>
    intro i st M ws d1 d2 h1 h2 hG hX hT hK hs hp hw hl
    rw [Wr_putExpr_4_eq, hX.g hG, gd_t, hX.s, if_neg (by omega), List.drop_eq_nil_of_le (by omega)]
    refine ⟨M, rfl, ?_, Fj.refl⟩
    show TXc M (ws ++ [])
    rw [List.append_nil]; exact hT
  | succ k ih =>
    intro i st M ws d1 d2 h1 h2 hG hX hT hK hs hp hw hl
    have hi : i < xs.length := by omega
    have hxl := hX.lt
    have hc := av_nth hv hi
    have hcm := nth_mem hi
    obtain ⟨t1, t2⟩ := @tnB_len (nth xs i)
    obtain ⟨M1, a1, a2, a3⟩ := Wr_putThing_s hG hT (by omega) hc (hlo _ hcm)
    have hG1 := hG.fj a3
    have hX1 : XE M1 e n xs := hX.fj a3 (by unfold wcS; omega) (by unfold wcS; omega)
    have hK1 : LKc M1 st := hK.fj a3 (by unfold wcS; omega)
    have hal := arN_ar (nth xs i)
    rw [drop_cons hi] at hw ⊢
    unfold wok at hw
    unfold wtx
    rw [Wr_putExpr_4_eq, hX.g hG, gd_t, hX.s, if_pos (by omega), gd_t, Ex_cellAt_s hG hX, cI_s, cA_n hi, hG.gW, gd_t, a1, cV_s, Ex_arity_s (vc_inR hc), cI_s]
    by_cases h4 : 0 < arN (nth xs i)
    · rw [if_pos h4] at hw ⊢
      have ha8 : arN (nth xs i) ≤ 8 := arN_8 hc
      obtain ⟨M2, b1, b2, b3⟩ := Wr_put_s hG1 a2 (v := 40) (by rw [List.length_append]; have := t2 h4; omega) (by decide)
      have hG2 := hG1.fj b3
      have f3 : Fj (fun a k => a = 11 ∧ k = st.length) M2 (stI M2 11 st.length (ar (nth xs i))) := Fj.ofI ⟨rfl, rfl⟩
      have t3 := t2 h4
      obtain ⟨M4, c1, c2, c3⟩ := ih (i + 1) (arN (nth xs i) :: st) (stI M2 11 st.length (ar (nth xs i))) ((ws ++ tnB (nth xs i)) ++ [40]) (some (.inl (nth xs i))) (some (.inl (ar (nth xs i)))) (by omega) (by omega) (hG2.fj f3) ((hX1.fj b3 (by unfold wcS; omega) (by unfold wcS; omega)).fj f3 (by omega) (by omega)) (b2.fj f3 (by omega) (by omega)) ⟨⟨by rw [mI_at, hal], ha8⟩, (hK1.fj b3 (by unfold wcS; omega)).fj f3 (by omega)⟩ (by simp only [List.length_cons]; omega) (fun l hl => by rcases List.mem_cons.mp hl with hl | hl; (rw [hl]; exact h4); exact hp l hl) hw.2 (by simp only [List.length_append, List.length_cons, List.length_nil]; omega)
      have c1 : Wr_putExpr_4 9 e ((st.length + 1 : Nat) : Int) ((i + 1 : Nat) : Int) (some (.inl (nth xs i))) (some (.inl (ar (nth xs i)))) (stI M2 11 st.length (ar (nth xs i))) = some (none, M4) := c1
      rw [if_pos (by omega), if_pos (by omega), hG1.gW, gd_t, b1, cV_s, hG2.gW, gd_t, hG2.r9_1, hG2.tgS arr_11 (by omega) (by omega), gd_t, toNat_n, wr_s (i := st.length) (by omega), wr_s (i := i) (by omega)]
      refine ⟨M4, c1, ?_, (((a3.mono fun a k q => Or.inl q).trans (b3.mono fun a k q => Or.inl q)).trans (f3.mono fun a k q => Or.inr q.1)).trans c3⟩
      rw [List.append_assoc, List.append_assoc] at c2
      exact c2
    · rw [if_neg h4] at hw ⊢
      obtain ⟨M2, b1, b2, b3, b4⟩ := Wr_closeThings_s st M1 (ws ++ tnB (nth xs i)) (some (.inl (st.length : Int))) hG1 a2 hK1 hs hp (by rw [List.length_append]; omega)
      have hG2 := hG1.fj b4
      have h5 := clU_len st
      obtain ⟨M4, c1, c2, c3⟩ := ih (i + 1) (clU st) M2 ((ws ++ tnB (nth xs i)) ++ clB st) (some (.inl (nth xs i))) (some (.inl (ar (nth xs i)))) (by omega) (by omega) hG2 (hX1.fj b4 (by unfold wcL wcS; omega) (by unfold wcL wcS; omega)) b2 b3 (by have := clU_le st; omega) (clU_pos st hp) hw (by simp only [List.length_append]; omega)
      rw [if_neg (by omega), hG1.gW, gd_t, Wr_closeThings_eq, wr_id (x := (st.length : Int) - 1) (by omega) (by omega), b1, cI_s, wr_s (i := i) (by omega)]
      refine ⟨M4, c1, ?_, ((a3.mono fun a k q => Or.inl q).trans b4).trans c3⟩
      rw [List.append_assoc, List.append_assoc] at c2
      exact c2
theorem Wr_putExpr_s (hG : Good M) {e n : Nat} {xs : List Int} (he : 11 < e) (hX : XE M e n xs) (hT : TXc M ws) (hv : av xs) (hlo : vlo xs) (hw : wok xs []) (hl : ws.length + 6 * xs.length ≤ 73728) : ∃ M', Wr_putExpr 9 e M = some (none, M') ∧ TXc M' (ws ++ wtx xs []) ∧ Fj wcL M M' := by
  rw [Wr_putExpr_eq]
  exact Wr_putExpr_loop he hv hlo _ 0 [] M ws none none rfl (Nat.zero_le _) hG hX hT trivial (Nat.zero_le _) (fun l hl => by cases hl) hw (by simpa using hl)
theorem D_writeExpr_s (hG : Good M) {e n : Nat} {xs : List Int} (he : 11 < e) (hX : XE M e n xs) (hT : TXc M ws) (hv : av xs) (hlo : vlo xs) (hw : wok xs []) (hl : xs.length ≤ 12200) : ∃ M', D_writeExpr 2 e M = some (some (.inl ((wtx xs []).length : Int)), M') ∧ TXc M' (wtx xs []) ∧ Fj wcL M M' := by
  have f1 : Fj (fun a k => a = 9 ∧ k = 2) M (stI M 9 2 0) := Fj.ofI ⟨rfl, rfl⟩
  have hT1 : TXc (stI M 9 2 0) [] := ⟨mI_at, by decide, fun i hi => absurd hi (Nat.not_lt_zero i)⟩
  have hG1 := hG.fj f1
  obtain ⟨M2, a1, a2, a3⟩ := Wr_putExpr_s hG1 he (hX.fj f1 (by omega) (by omega)) hT1 hv hlo hw (by simp; omega)
  have hG2 := hG1.fj a3
  have a2 : TXc M2 (wtx xs []) := a2
  rw [D_writeExpr_eq, hG.gx, gd_t, hG.r2_1, hG.gW, gd_t, Wr_clear_eq, hG.gW, gd_t, cV_s, hG1.gx, gd_t, hG1.r2_1, hG1.gW, gd_t, a1, cV_s, hG2.gx, gd_t, hG2.r2_1, hG2.gW, gd_t, a2.1]
  exact ⟨M2, rfl, a2, (f1.mono fun a k q => Or.inl (Or.inr q)).trans a3⟩
theorem D_octet_s (hG : Good M) (hT : TXc M ws) (i : Int) : D_octet 2 i M = some (some (.inl (if 0 ≤ i ∧ i < (ws.length : Int) then nth ws i.toNat else -1)), M) := by
  have hl := hT.2.1
  rw [D_octet_eq, hG.gx, gd_t, hG.r2_1, hG.gW, gd_t, Wr_byteAt_eq]
  by_cases h1 : i < 0
  · rw [if_pos h1, cI_s, if_neg (by omega)]
  · rw [if_neg h1, hG.gW, gd_t, hT.1]
    by_cases h2 : i < (ws.length : Int)
    · obtain ⟨m, rfl⟩ := Int.eq_ofNat_of_zero_le (show 0 ≤ i by omega)
      rw [if_pos h2, if_pos (by omega), gd_t, hG.r9_0, hG.tgS arr_10 (by omega) (by omega), Bool.true_or, gd_t, cI_s, if_pos (by omega), toNat_n, hT.2.2 m (by omega)]
    · rw [if_neg h2, cI_s, if_neg (by omega)]
end WRITEC

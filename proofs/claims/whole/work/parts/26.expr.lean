/-! ===== what the class's expressions do ===== -/
theorem gd_t {r : Res} : gd true r = r := rfl
theorem cI_s {v : Int} {M : Mem} {F : Int → Mem → Res} : cI (some (some (.inl v), M)) F = F v M := rfl
theorem cV_s {M : Mem} {F : Mem → Res} : cV (some (none, M)) F = F M := rfl
theorem cR_s {v : Nat} {M : Mem} {F : Nat → Mem → Res} : cR (some (some (.inr v), M)) F = F v M := rfl
theorem toNat_n (i : Nat) : Int.toNat (i : Int) = i := Int.toNat_natCast i
theorem wr_s {i : Nat} (h : i < 2000000000) : wr ((i : Int) + 1) = ((i + 1 : Nat) : Int) := by rw [wr_id (by omega) (by omega)]; rfl
def XE (M : Mem) (e n : Nat) (xs : List Int) : Prop := isE e n ∧ EX M e xs ∧ xs.length ≤ n
def eS (e : Nat) : Nat → Prop := fun a => a = e ∨ a = e + 1
def cA (xs : List Int) (i : Int) : Int := if 0 ≤ i ∧ i < (xs.length : Int) then nth xs i.toNat else 50331648
def ixo (v : Int) : List Int → Nat → Int
  | [], _ => -1
  | c :: cs, i => if c = v then (i : Int) else ixo v cs (i + 1)
/-- where a value stands first; -1: nowhere -/
def ix (vs : List Int) (v : Int) : Int := ixo v vs 0
def fuo : List Int → Nat → Int
  | [], _ => -1
  | c :: cs, i => if kd c = 2 then (i : Int) else if kd c = 3 then (i : Int) else fuo cs (i + 1)
def dq (xs : List Int) : Nat → Int → Int → Int
  | 0, d, _ => d
  | i + 1, d, cl => if cl < ar (nth xs i) then dq xs i (d + 1) 0 else dq xs i d (cl + (1 - ar (nth xs i)))
def cno (xs : List Int) : List Int → Nat → Int → Int
  | [], _, m => m
  | c :: cs, i, m => cno xs cs (i + 1) (if kd c = 2 ∨ 0 < ar c then (if m < dq xs i 1 0 then dq xs i 1 0 else m) else m)
def cco : List Int → Int → Int
  | [], m => m
  | c :: cs, m => cco cs (if kd c = 2 then m + 1 else m)
def ordo : List Int → List Int → List Int
  | [], acc => acc
  | c :: cs, acc => if kd c = 0 ∧ c ∉ acc then ordo cs (acc ++ [c]) else ordo cs acc
/-- its VARS by ORDER -/
def ord (xs : List Int) : List Int := ordo xs []
def rnm (vs : List Int) (c : Int) : Int := if kd c = 0 ∧ ix vs c ≠ -1 then 1 + ix vs c else c
theorem ixo_spec (v : Int) : ∀ (vs : List Int) (i : Nat), (ixo v vs i = -1 ∧ v ∉ vs) ∨ ∃ k, k < vs.length ∧ ixo v vs i = ((i + k : Nat) : Int) ∧ nth vs k = v ∧ ∀ j, j < k → nth vs j ≠ v := by
  intro vs
  induction vs with
  | nil => intro i; exact Or.inl ⟨rfl, by simp⟩
  | cons c cs ih =>
    intro i
    unfold ixo
    by_cases h : c = v
    · rw [if_pos h]
      exact Or.inr ⟨0, by simp, rfl, h, fun j hj => by omega⟩
    · rw [if_neg h]
      rcases ih (i + 1) with ⟨h1, h2⟩ | ⟨k, h1, h2, h3, h4⟩
      · exact Or.inl ⟨h1, fun q => (List.mem_cons.mp q).elim (fun e => h e.symm) h2⟩
      · refine Or.inr ⟨k + 1, by simp; omega, by rw [h2]; congr 1; omega, h3, fun j hj => ?_⟩
        cases j with
        | zero => exact h
        | succ j => exact h4 j (by omega)
theorem ix_spec (vs : List Int) (v : Int) : (ix vs v = -1 ∧ v ∉ vs) ∨ ∃ k, k < vs.length ∧ ix vs v = (k : Int) ∧ nth vs k = v ∧ ∀ j, j < k → nth vs j ≠ v := by
  rcases ixo_spec v vs 0 with h | ⟨k, h1, h2, h3⟩
  · exact Or.inl h
  · exact Or.inr ⟨k, h1, by unfold ix; rw [h2, Nat.zero_add], h3⟩
theorem ix_mem {vs : List Int} {v : Int} : ix vs v ≠ -1 ↔ v ∈ vs := by
  rcases ix_spec vs v with ⟨h1, h2⟩ | ⟨k, h1, h2, h3, -⟩
  · exact ⟨fun q => absurd h1 q, fun q => absurd q h2⟩
  · exact ⟨fun _ => h3 ▸ nth_mem h1, fun _ => by rw [h2]; omega⟩
theorem ix_rng (vs : List Int) (v : Int) : -1 ≤ ix vs v ∧ ix vs v < vs.length := by
  rcases ix_spec vs v with ⟨h1, h2⟩ | ⟨k, h1, h2, h3, -⟩ <;> omega
section PURE
variable {M : Mem} {e n : Nat} {xs : List Int}
theorem XE.g (hG : Good M) (h : XE M e n xs) : gO M e 2 = true := hG.tgO h.1.1
theorem XE.r (hG : Good M) (h : XE M e n xs) : mR M e 0 = e + 1 := hG.2.1.1 e h.1.1
theorem XE.s (h : XE M e n xs) : mI M e 1 = (xs.length : Int) := h.2.1.1
theorem XE.lt (h : XE M e n xs) : xs.length ≤ 20480 := Nat.le_trans h.2.2 h.1.2.2
theorem XE.gs (hG : Good M) (h : XE M e n xs) {i : Nat} (hi : i < xs.length) : gS M (e + 1) 0 (i : Int) = true := hG.tgS h.1.2.1 (by omega) (by have := h.2.2; omega)
theorem Ex_kind_s {c : Int} (hc : InR c) : Ex_kind c M = some (some (.inl (kd c)), M) := by rw [Ex_kind_eq, pand_3, pshr_24 hc]; rfl
theorem Ex_arity_s {c : Int} (hc : InR c) : Ex_arity c M = some (some (.inl (ar c)), M) := by rw [Ex_arity_eq, pand_15, pshr_16 hc]; rfl
theorem Ex_symbol_s {c : Int} : Ex_symbol c M = some (some (.inl (sy c)), M) := by rw [Ex_symbol_eq, pand_65535]; rfl
theorem Ex_cell_s {k a s : Int} (hk : 0 ≤ k ∧ k < 4) (ha : 0 ≤ a ∧ a < 16) (hs : 0 ≤ s ∧ s < 65536) : Ex_cell k a s M = some (some (.inl (k * 16777216 + a * 65536 + s)), M) := by
  have e1 : por (k * 16777216) (a * 65536) = k * 16777216 + a * 65536 := por_add (n := 24) (by decide) (by omega) (by omega) (by show _ < (16777216 : Int); omega) (by show (16777216 : Int) ∣ _; omega) (by omega)
  have e2 : por (k * 16777216 + a * 65536) s = k * 16777216 + a * 65536 + s := por_add (n := 16) (by decide) (by omega) (by omega) (by show _ < (65536 : Int); omega) (by show (65536 : Int) ∣ _; omega) (by omega)
  rw [Ex_cell_eq, pshl_24 hk.1 (by omega), pshl_16 ha.1 (by omega), e1, e2]
theorem Ex_cellAt_s (hG : Good M) (h : XE M e n xs) (i : Int) : Ex_cellAt e i M = some (some (.inl (cA xs i)), M) := by
  rw [Ex_cellAt_eq, h.g hG, h.r hG, h.s]
  simp only [gd_t]
  unfold cA
  by_cases h0 : i < 0
  · rw [if_pos h0, if_neg (by omega)]
  · rw [if_neg h0]
    by_cases h1 : i < (xs.length : Int)
    · rw [if_pos h1, if_pos (by omega)]
      obtain ⟨k, rfl⟩ := Int.eq_ofNat_of_zero_le (show 0 ≤ i by omega)
      rw [h.gs hG (by omega), toNat_n, h.2.1.2 k (by omega)]
      rfl
    · rw [if_neg h1, if_neg (by omega)]
theorem cA_n {i : Nat} (hi : i < xs.length) : cA xs (i : Int) = nth xs i := by
  unfold cA
  rw [if_pos (by omega), toNat_n]
theorem cA_vc (h : av xs) (i : Int) : vc (cA xs i) := by
  unfold cA
  split
  · exact av_nth h (by omega)
  · exact vc_stuck
theorem Ex_kindAt_s (hG : Good M) (h : XE M e n xs) (hv : av xs) (i : Int) : Ex_kindAt e i M = some (some (.inl (kd (cA xs i))), M) := by
  rw [Ex_kindAt_eq, h.g hG, gd_t, Ex_cellAt_s hG h, cI_s, Ex_kind_s (cA_vc hv i).inR, cI_s]
theorem Ex_indexOf_s (hG : Good M) {r m : Nat} (hr : arr r 0 m) {vs : List Int} (hv : RW M r 0 vs) (hm : vs.length ≤ m) (hm2 : m ≤ 100000) (v : Int) : Ex_indexOf v r (vs.length : Int) M = some (some (.inl (ix vs v)), M) := by
  have key : ∀ (k i : Nat), vs.length - i = k → i ≤ vs.length → Ex_indexOf_2 v r (vs.length : Int) (i : Int) M = some (some (.inl (ixo v (vs.drop i) i)), M) := by
    intro k
    induction k with
    | zero =>
      intro i h1 h2
      rw [Ex_indexOf_2_eq, if_neg (by omega), List.drop_eq_nil_of_le (by omega)]
      rfl
    | succ k ih =>
      intro i h1 h2
      rw [Ex_indexOf_2_eq, if_pos (by omega), hG.tgL hr (by decide), gd_t, hG.len hr, if_pos (by omega), hG.tgS hr (by omega) (by omega), gd_t, toNat_n, drop_cons (show i < vs.length by omega), wr_s (by omega)]
      have h3 := hv i (by omega)
      rw [Nat.zero_add] at h3
      rw [h3]
      unfold ixo
      by_cases h4 : nth vs i = v
      · rw [if_pos h4, if_pos h4]
      · rw [if_neg h4, if_neg h4]
        exact ih (i + 1) (by omega) (by omega)
  rw [Ex_indexOf_eq]
  exact key _ 0 rfl (Nat.zero_le _)
theorem Ex_behind_s (hG : Good M) (h : XE M e n xs) (hv : av xs) {p : Nat} (hp : p ≤ xs.length) : Ex_behind e (p : Int) M = some (some (.inl (beh xs p : Nat)), M) := by
  have hl := h.lt
  have key : ∀ (k i w : Nat) (d : LV), xs.length - i = k → i ≤ xs.length → w ≤ 15 * i → Ex_behind_4 e ((w + 1 : Nat) : Int) (i : Int) d M = some (some (.inl ((i + sk (w + 1) (xs.drop i) : Nat) : Int)), M) := by
    intro k
    induction k with
    | zero =>
      intro i w d h1 h2 h3
      rw [Ex_behind_4_eq, if_neg (by omega), h.g hG, gd_t, h.s, if_neg (by omega), gd_t, List.drop_eq_nil_of_le (by omega), sk_nil, show i + 0 = xs.length by omega]
    | succ k ih =>
      intro i w d h1 h2 h3
      have hlt : i < xs.length := by omega
      have hvc := av_nth hv hlt
      have ha := arN_ar (nth xs i)
      have ha2 := arN_lt (nth xs i)
      rw [Ex_behind_4_eq, if_neg (by omega), h.g hG, gd_t, h.s, if_pos (by omega), gd_t, h.r hG, h.gs hG hlt, gd_t, toNat_n, h.2.1.2 i hlt, Ex_arity_s hvc.inR, cI_s, drop_cons hlt, sk_cons, wr_s (by omega), ← ha]
      rw [wr_id (x := (arN (nth xs i) : Int) - 1) (by omega) (by omega), wr_id (by omega) (by omega), show ((w + 1 : Nat) : Int) + ((arN (nth xs i) : Int) - 1) = ((w + arN (nth xs i) : Nat) : Int) by omega]
      by_cases h0 : w + arN (nth xs i) = 0
      · rw [if_pos (by omega), h0, sk_zero]
      · rw [if_neg (by omega)]
        obtain ⟨w2, hw2⟩ : ∃ w2, w + arN (nth xs i) = w2 + 1 := ⟨w + arN (nth xs i) - 1, by omega⟩
        rw [hw2, ih (i + 1) w2 d (by omega) (by omega) (by omega), show i + 1 + sk (w2 + 1) (xs.drop (i + 1)) = i + (1 + sk (w2 + 1) (xs.drop (i + 1))) by omega]
  rw [Ex_behind_eq]
  exact key _ p 0 _ rfl hp (by omega)
theorem Ex_firstUndone_s (hG : Good M) (h : XE M e n xs) (hv : av xs) : Ex_firstUndone e M = some (some (.inl (fuo xs 0)), M) := by
  have hl := h.lt
  have key : ∀ (k i : Nat) (d : LV), xs.length - i = k → i ≤ xs.length → Ex_firstUndone_2 e (i : Int) d M = some (some (.inl (fuo (xs.drop i) i)), M) := by
    intro k
    induction k with
    | zero =>
      intro i d h1 h2
      rw [Ex_firstUndone_2_eq, h.g hG, gd_t, h.s, if_neg (by omega), List.drop_eq_nil_of_le (by omega)]
      rfl
    | succ k ih =>
      intro i d h1 h2
      have hlt : i < xs.length := by omega
      rw [Ex_firstUndone_2_eq, h.g hG, gd_t, h.s, if_pos (by omega), gd_t, h.r hG, h.gs hG hlt, gd_t, toNat_n, h.2.1.2 i hlt, Ex_kind_s (av_nth hv hlt).inR, cI_s, drop_cons hlt, wr_s (by omega)]
      unfold fuo
      by_cases h3 : kd (nth xs i) = 2
      · rw [if_pos h3, if_pos h3]
      · rw [if_neg h3, if_neg h3]
        by_cases h4 : kd (nth xs i) = 3
        · rw [if_pos h4, if_pos h4]
        · rw [if_neg h4, if_neg h4]
          exact ih (i + 1) _ (by omega) (by omega)
  rw [Ex_firstUndone_eq]
  exact key _ 0 _ rfl (Nat.zero_le _)
theorem dq_rng (xs : List Int) : ∀ (i : Nat) (d cl : Int), d ≤ dq xs i d cl ∧ dq xs i d cl ≤ d + i := by
  intro i
  induction i with
  | zero => intro d cl; unfold dq; omega
  | succ i ih =>
    intro d cl
    unfold dq
    split
    · have := ih (d + 1) 0; omega
    · have := ih d (cl + (1 - ar (nth xs i))); omega
theorem Ex_deepAt_s (hG : Good M) (h : XE M e n xs) (hv : av xs) {p : Nat} (hp : p ≤ xs.length) : Ex_deepAt e (p : Int) M = some (some (.inl (dq xs p 1 0)), M) := by
  have hl := h.lt
  have key : ∀ (i : Nat) (d cl : Int) (d1 d5 : LV), i ≤ xs.length → 0 ≤ d → d + i ≤ 50000 → 0 ≤ cl → cl + i ≤ 50000 → Ex_deepAt_9 e d cl ((i : Int) - 1) d1 d5 M = some (some (.inl (dq xs i d cl)), M) := by
    intro i
    induction i with
    | zero => intro d cl d1 d5 _ _ _ _ _; rw [Ex_deepAt_9_eq, if_pos (by omega)]; rfl
    | succ i ih =>
      intro d cl d1 d5 h1 h2 h3 h4 h5
      have ha := ar_nn (nth xs i)
      have hlt : i < xs.length := by omega
      rw [show ((i + 1 : Nat) : Int) - 1 = (i : Int) by omega, Ex_deepAt_9_eq, if_neg (by omega), h.g hG, gd_t, Ex_cellAt_s hG h, cI_s, cA_n hlt, Ex_arity_s (av_nth hv hlt).inR, cI_s, wr_id (x := (i : Int) + -1) (by omega) (by omega), show (i : Int) + -1 = (i : Int) - 1 by omega]
      unfold dq
      by_cases hc : cl < ar (nth xs i)
      · rw [if_pos hc, if_pos hc, wr_id (by omega) (by omega)]
        exact ih _ _ _ _ (by omega) (by omega) (by omega) (by omega) (by omega)
      · rw [if_neg hc, if_neg hc, wr_id (x := 1 - ar (nth xs i)) (by omega) (by omega), wr_id (by omega) (by omega)]
        exact ih _ _ _ _ (by omega) (by omega) (by omega) (by omega) (by omega)
  rw [Ex_deepAt_eq, wr_id (by omega) (by omega)]
  exact key p 1 0 _ _ hp (by omega) (by omega) (by omega) (by omega)
theorem Ex_countNested_s (hG : Good M) (h : XE M e n xs) (hv : av xs) : Ex_countNested e M = some (some (.inl (cno xs xs 0 0)), M) := by
  have hl := h.lt
  have key : ∀ (k i : Nat) (m : Int), xs.length - i = k → i ≤ xs.length → Ex_countNested_4 e m (i : Int) M = some (some (.inl (cno xs (xs.drop i) i m)), M) := by
    intro k
    induction k with
    | zero =>
      intro i m h1 h2
      rw [Ex_countNested_4_eq, h.g hG, gd_t, h.s, if_neg (by omega), List.drop_eq_nil_of_le (by omega)]
      rfl
    | succ k ih =>
      intro i m h1 h2
      have hlt : i < xs.length := by omega
      have hc := (av_nth hv hlt).inR
      rw [Ex_countNested_4_eq, h.g hG, gd_t, h.s, if_pos (by omega), gd_t, h.r hG, h.gs hG hlt, gd_t, toNat_n, h.2.1.2 i hlt, Ex_kind_s hc, cI_s, drop_cons hlt, wr_s (by omega), h.g hG, h.r hG, h.gs hG hlt, h.2.1.2 i hlt]
      simp only [gd_t]
      rw [Ex_deepAt_s hG h hv (by omega), cI_s, Ex_arity_s hc, cI_s]
      unfold cno
      by_cases h3 : kd (nth xs i) = 2
      · rw [if_pos h3, if_pos (Or.inl h3)]
        exact ih (i + 1) _ (by omega) (by omega)
      · rw [if_neg h3, h.g hG, gd_t, Ex_deepAt_s hG h hv (by omega), cI_s]
        by_cases h4 : 0 < ar (nth xs i)
        · rw [if_pos h4, if_pos (Or.inr h4)]
          exact ih (i + 1) _ (by omega) (by omega)
        · rw [if_neg h4, if_neg (by omega)]
          exact ih (i + 1) _ (by omega) (by omega)
  rw [Ex_countNested_eq]
  exact key _ 0 0 rfl (Nat.zero_le _)
theorem Ex_countCalls_s (hG : Good M) (h : XE M e n xs) (hv : av xs) : Ex_countCalls e M = some (some (.inl (cco xs 0)), M) := by
  have hl := h.lt
  have key : ∀ (k i : Nat) (m : Int), xs.length - i = k → i ≤ xs.length → 0 ≤ m → m ≤ i → Ex_countCalls_4 e m (i : Int) M = some (some (.inl (cco (xs.drop i) m)), M) := by
    intro k
    induction k with
    | zero =>
      intro i m h1 h2 h5 h6
      rw [Ex_countCalls_4_eq, h.g hG, gd_t, h.s, if_neg (by omega), List.drop_eq_nil_of_le (by omega)]
      rfl
    | succ k ih =>
      intro i m h1 h2 h5 h6
      have hlt : i < xs.length := by omega
      rw [Ex_countCalls_4_eq, h.g hG, gd_t, h.s, if_pos (by omega), gd_t, h.r hG, h.gs hG hlt, gd_t, toNat_n, h.2.1.2 i hlt, Ex_kind_s (av_nth hv hlt).inR, cI_s, drop_cons hlt, wr_s (by omega)]
      unfold cco
      by_cases h3 : kd (nth xs i) = 2
      · rw [if_pos h3, if_pos h3, wr_id (by omega) (by omega)]
        exact ih (i + 1) _ (by omega) (by omega) (by omega) (by omega)
      · rw [if_neg h3, if_neg h3]
        exact ih (i + 1) _ (by omega) (by omega) (by omega) (by omega)
  rw [Ex_countCalls_eq]
  exact key _ 0 0 rfl (Nat.zero_le _) (by omega) (by omega)
end PURE

/-! ===== the reference reads an expression ===== -/
def TPm (M : Mem) (T : List Int) : Prop := mI M 1269 1 = (T.length : Int) ∧ T.length ≤ 800 ∧ ∀ i, i < T.length → mI M 1270 i % 256 = nth T i
def RSm (M : Mem) (T : List Int) (p : Nat) : Prop := TPm M T ∧ mI M 1269 2 = (p : Int) ∧ p ≤ T.length
theorem TPm.fj {M M1 : Mem} {S : Nat → Nat → Prop} {T : List Int} (h : TPm M T) (f : Fj S M M1) (h1 : ¬ S 1269 1) (h2 : ∀ k, ¬ S 1270 k) : TPm M1 T := ⟨(f.2.2 _ _ h1).trans h.1, h.2.1, fun i hi => by rw [f.2.2 _ _ (h2 i)]; exact h.2.2 i hi⟩
theorem RSm.fj {M M1 : Mem} {S : Nat → Nat → Prop} {T : List Int} {p : Nat} (h : RSm M T p) (f : Fj S M M1) (h1 : ¬ S 1269 1) (h2 : ∀ k, ¬ S 1270 k) (h3 : ¬ S 1269 2) : RSm M1 T p := ⟨h.1.fj f h1 h2, (f.2.2 _ _ h3).trans h.2.1, h.2.2⟩
theorem arr_1270 : arr 1270 1 800 := arr_of _ _ _ (by decide)
theorem arr_1271 : arr 1271 0 20 := arr_of _ _ _ (by decide)
theorem arr_1272 : arr 1272 0 20 := arr_of _ _ _ (by decide)
theorem arr_1273 : arr 1273 0 41 := arr_of _ _ _ (by decide)
theorem arr_1281 : arr 1281 0 12 := arr_of _ _ _ (by decide)
def STKm (M : Mem) : List (Nat × Nat) → Prop
  | [] => True
  | q :: st => mI M 1271 st.length = (q.1 : Int) ∧ mI M 1272 st.length = (q.2 : Int) + 1 ∧ STKm M st
theorem STKm.fj {M M1 : Mem} {S : Nat → Nat → Prop} : ∀ {st : List (Nat × Nat)}, STKm M st → Fj S M M1 → (∀ k, k < st.length → ¬ S 1271 k ∧ ¬ S 1272 k) → STKm M1 st := by
  intro st
  induction st with
  | nil => intro _ _ _; trivial
  | cons q st ih =>
    intro h f h1
    have h2 := h1 st.length (by simp)
    exact ⟨(f.2.2 _ _ h2.1).trans h.1, (f.2.2 _ _ h2.2).trans h.2.1, ih h.2.2 f fun k hk => h1 k (by simp; omega)⟩
/-- what the reference knows of the left side, and whether cons alone may come -/
def LVm (M : Mem) (vs : List Int) : Prop := mI M 1269 19 = (vs.length : Int) ∧ vs.length ≤ 12 ∧ (∀ i, i < vs.length → mI M 1281 i = nmo (nth vs i)) ∧ ∀ v ∈ vs, 0 ≤ v ∧ v < 1414
def LFm (M : Mem) (left : Option (List Int)) (cons : Bool) : Prop := (match left with
  | none => mI M 1269 9 = 0
  | some vs => mI M 1269 9 = 1 ∧ LVm M vs) ∧ mI M 1269 10 = (if cons = true then 1 else 0)
def REm (M : Mem) (T : List Int) (p : Nat) (xs : List Int) (st : List (Nat × Nat)) : Prop := RSm M T p ∧ (mI M 1269 7 = (xs.length : Int) ∧ RM M 1273 0 xs ∧ xs.length ≤ 41) ∧ (mI M 1269 8 = (st.length : Int) ∧ st.length ≤ 20) ∧ STKm M st
def mrS : Nat → Nat → Prop := fun a k => (a = 1271 ∨ a = 1272 ∨ a = 1273) ∨ (a = 1269 ∧ (k = 2 ∨ k = 3 ∨ k = 7 ∨ k = 8))
theorem LFm.fj {M M1 : Mem} {S : Nat → Nat → Prop} {left : Option (List Int)} {cons : Bool} (h : LFm M left cons) (f : Fj S M M1) (h1 : ¬ S 1269 9 ∧ ¬ S 1269 10 ∧ ¬ S 1269 19) (h2 : ∀ k, ¬ S 1281 k) : LFm M1 left cons := by
  refine ⟨?_, (f.2.2 _ _ h1.2.1).trans h.2⟩
  cases left with
  | none => exact (f.2.2 _ _ h1.1).trans h.1
  | some vs => exact ⟨(f.2.2 _ _ h1.1).trans h.1.1, (f.2.2 _ _ h1.2.2).trans h.1.2.1, h.1.2.2.1, fun i hi => (f.2.2 _ _ (h2 i)).trans (h.1.2.2.2.1 i hi), h.1.2.2.2.2⟩
theorem por_assoc (a b c : Int) (ha : InR a) (hb : InR b) (hc : InR c) : por (por a b) c = por a (por b c) := by
  unfold por
  rw [oi_back, oi_back, Int32.or_assoc]
theorem por_ar {k m n : Int} (hk : 0 ≤ k ∧ k < 4) (hm : 0 ≤ m ∧ m < 16) (hn : 0 ≤ n ∧ n < 10000000) : por (k + 64 * n) (m * 4) = k + 4 * m + 64 * n := by
  have e1 : por (64 * n) k = 64 * n + k := por_add (n := 6) (by decide) (by omega) hk.1 (by show k < (64 : Int); omega) (by show (64 : Int) ∣ _; omega) (by omega)
  have e2 : por (m * 4) k = m * 4 + k := por_add (n := 2) (by decide) (by omega) hk.1 (by show k < (4 : Int); omega) (by show (4 : Int) ∣ _; omega) (by omega)
  have e3 : por (64 * n) (m * 4 + k) = 64 * n + (m * 4 + k) := por_add (n := 6) (by decide) (by omega) (by omega) (by show m * 4 + k < (64 : Int); omega) (by show (64 : Int) ∣ _; omega) (by omega)
  rw [show k + 64 * n = 64 * n + k by omega, ← e1, por_assoc _ _ _ (by unfold InR; omega) (by unfold InR; omega) (by unfold InR; omega), por_comm k, e2, e3]
  omega
/-- the bits of a count come to a cell -/
theorem cm_cl1 {c : Int} (h : vc c) (hk : kd c = 1 ∨ kd c = 2) (ha : arN c = 0) {a : Nat} (hm : a ≤ mst c) : por (cm c) (pshl (a : Int) 2) = cm (cl1 c a) := by
  obtain ⟨h1, h2, h3, h4⟩ := cl1_ok h hk hm
  have h5 := kd_nn c
  have h6 := nmo_rng h
  have h7 := mst_rng c
  have h8 := arN_ar c
  have h9 := arN_ar (cl1 c a)
  have e : nmo (cl1 c a) = nmo c := by
    unfold nmo
    rw [h2, h4]
    rw [if_neg (show ¬ kd c = 0 by omega), if_neg (show ¬ kd c = 0 by omega)]
  unfold cm
  rw [e, h2, ← h9, h3, ← h8, ha, pshl_2 (by omega) (by omega)]
  have := por_ar (k := kd c) (m := (a : Int)) (n := nmo c) h5 (by omega) (by omega)
  rw [show kd c + 4 * ((0 : Nat) : Int) + 64 * nmo c = kd c + 64 * nmo c by omega]
  exact this
section MREAD
variable {M : Mem} {T : List Int} {p : Nat} {xs : List Int} {st : List (Nat × Nat)}
theorem M_here_s (hG : Good M) (h : RSm M T p) : M_here 1269 M = some (some (.inl (pek T p)), M) := by
  obtain ⟨⟨h1, h2, h3⟩, h4, h5⟩ := h
  rw [M_here_eq, hG.gM, gd_t, gd_t, h4, h1]
  unfold pek
  by_cases q : p < T.length
  · rw [if_pos (by omega), gd_t, gd_t, hG.m0, hG.tgS arr_1270 (by omega) (by omega), Bool.true_or, gd_t, toNat_n, pand_255, h3 p q, if_pos q]
  · rw [if_neg (by omega), if_neg q]
theorem TPm.rng (h : TPm M T) {p : Nat} : -1 ≤ pek T p ∧ pek T p < 256 := by
  unfold pek
  split
  · rename_i q
    have := h.2.2 p q
    omega
  · omega
theorem RSm.at {q : Nat} (h : RSm M T p) (hq : q ≤ T.length) : RSm (stI M 1269 2 (q : Int)) T q := ⟨h.1.fj (Fj.ofI (S := fun a k => a = 1269 ∧ k = 2) ⟨rfl, rfl⟩) (by omega) (by omega), mI_at, hq⟩
theorem M_fails_s (hG : Good M) (v : Int) : M_fails 1269 v M = some (some (.inl 0), stI M 1269 3 v) := by rw [M_fails_eq, hG.gM, gd_t]
theorem M_takes_s (hG : Good M) (h : RSm M T p) (c : Int) (hc : c ≠ -1) : M_takes 1269 c M = if pek T p = c then some (some (.inl 1), stI M 1269 2 ((p + 1 : Nat) : Int)) else some (some (.inl 0), stI M 1269 3 (p : Int)) := by
  have h2 := h.1.2.1
  have h3 := h.2.2
  rw [M_takes_eq, hG.gM, gd_t, M_here_s hG h, cI_s, hG.gM, h.2.1, wr_s (by omega), M_fails_s hG, cI_s]
  simp only [gd_t]
  by_cases q : pek T p = c
  · rw [if_pos q, if_pos q]
  · rw [if_neg q, if_neg q]
    rfl
theorem M_isFigure_s (c : Int) : M_isFigure c M = some (some (.inl (haveI := Classical.propDecidable (isD c); if isD c then 1 else 0)), M) := by
  rw [M_isFigure_eq]
  unfold isD
  by_cases h1 : c < 48
  · rw [if_pos h1, if_neg (by omega)]
  · rw [if_neg h1]
    by_cases h2 : 57 < c
    · rw [if_pos h2, if_neg (by omega)]
    · rw [if_neg h2, if_pos (by omega)]
theorem M_isVarLetter_s (c : Int) : M_isVarLetter c M = some (some (.inl (haveI := Classical.propDecidable (isV c); if isV c then 1 else 0)), M) := by
  rw [M_isVarLetter_eq]
  unfold isV
  by_cases h1 : c < 109
  · rw [if_pos h1, if_neg (by omega)]
  · rw [if_neg h1]
    by_cases h2 : 122 < c
    · rw [if_pos h2, if_neg (by omega)]
    · rw [if_neg h2, if_pos (by omega)]
theorem M_isFunctionLetter_s (c : Int) : M_isFunctionLetter c M = some (some (.inl (haveI := Classical.propDecidable (isF c); if isF c then 1 else 0)), M) := by
  rw [M_isFunctionLetter_eq]
  unfold isF
  by_cases h1 : c < 97
  · rw [if_pos h1, if_neg (by omega)]
  · rw [if_neg h1]
    by_cases h2 : 108 < c
    · rw [if_pos h2, if_neg (by omega)]
    · rw [if_neg h2, if_pos (by omega)]
theorem M_isConLetter_s (c : Int) : M_isConLetter c M = some (some (.inl (haveI := Classical.propDecidable (isK c); if isK c then 1 else 0)), M) := by
  rw [M_isConLetter_eq]
  unfold isK
  by_cases h1 : c < 65
  · rw [if_pos h1, if_neg (by omega)]
  · rw [if_neg h1]
    by_cases h2 : 90 < c
    · rw [if_pos h2, if_neg (by omega)]
    · rw [if_neg h2, if_pos (by omega)]
theorem M_readName_s (hG : Good M) (h : RSm M T p) (hp : p < T.length) : M_readName 1269 M = some (some (.inl (rdn T p 97).1), stI M 1269 2 ((rdn T p 97).2 : Int)) := by
  have hl := h.1.2.1
  have hr : ∀ q, -1 ≤ pek T q ∧ pek T q < 256 := fun q => h.1.rng
  have r0 := hr p
  have r1 := hr (p + 1)
  have r2 := hr (p + 2)
  have s1 := h.at (q := p + 1) (by omega)
  have g1 : ∀ {v : Int}, Good (stI M 1269 2 v) := fun {v} => hG.fj (Fj.ofI (S := fun _ _ => True) trivial)
  rw [M_readName_eq, hG.gM, gd_t, M_here_s hG h, cI_s, hG.gM, gd_t, gd_t, gd_t, h.2.1, wr_s (by omega), M_here_s g1 s1, cI_s, M_isFigure_s, cI_s]
  unfold rdn
  by_cases h1 : isD (pek T (p + 1))
  · have hlt := pek_D h1
    have s2 := h.at (q := p + 2) (by omega)
    have e1 : 48 ≤ pek T (p + 1) ∧ pek T (p + 1) ≤ 57 := h1
    rw [if_pos h1, if_neg (by decide), if_pos h1, g1.gM, gd_t, M_here_s g1 s1, cI_s, g1.gM, gd_t, gd_t, wr_id (x := pek T (p + 1) - 48) (by omega) (by omega), mI_at, wr_s (by omega), stI_stI, wr_id (x := pek T p - 97) (by omega) (by omega), wr_id (x := 101 * (pek T p - 97)) (by omega) (by omega), wr_id (x := 101 * (pek T p - 97) + 1) (by omega) (by omega), wr_id (x := 101 * (pek T p - 97) + 1 + (pek T (p + 1) - 48)) (by omega) (by omega)]
    by_cases h2 : 0 < pek T (p + 1) - 48
    · rw [if_pos h2, gd_t, M_here_s g1 s2, cI_s, M_isFigure_s, cI_s]
      by_cases h3 : isD (pek T (p + 2))
      · have hlt2 := pek_D h3
        have e2 : 48 ≤ pek T (p + 2) ∧ pek T (p + 2) ≤ 57 := h3
        rw [if_pos h3, if_neg (by decide), if_pos ⟨by omega, h3⟩, g1.gM, gd_t, M_here_s g1 s2, cI_s, g1.gM, gd_t, gd_t, mI_at, wr_s (by omega), stI_stI, wr_id (x := 10 * (pek T (p + 1) - 48)) (by omega) (by omega), wr_id (x := 10 * (pek T (p + 1) - 48) + pek T (p + 2)) (by omega) (by omega), wr_id (x := 10 * (pek T (p + 1) - 48) + pek T (p + 2) - 48) (by omega) (by omega), wr_id (by omega) (by omega), show 101 * (pek T p - 97) + 1 + (10 * (pek T (p + 1) - 48) + pek T (p + 2) - 48) = (pek T p - 97) * 101 + ((pek T (p + 1) - 48) * 10 + pek T (p + 2) - 48) + 1 by omega]
      · rw [if_neg h3, if_pos rfl, if_neg (fun q => h3 q.2), show 101 * (pek T p - 97) + 1 + (pek T (p + 1) - 48) = (pek T p - 97) * 101 + (pek T (p + 1) - 48) + 1 by omega]
    · rw [if_neg h2, if_neg (fun q => h2 (by omega)), show 101 * (pek T p - 97) + 1 + (pek T (p + 1) - 48) = (pek T p - 97) * 101 + (pek T (p + 1) - 48) + 1 by omega]
  · rw [if_neg h1, if_pos rfl, if_neg h1, wr_id (x := pek T p - 97) (by omega) (by omega), wr_id (by omega) (by omega), show 101 * (pek T p - 97) = (pek T p - 97) * 101 by omega]
theorem M_leftPlace_s (hG : Good M) {vs : List Int} (h : LVm M vs) {v : Int} (hv : 0 ≤ v ∧ v < 1414) : M_leftPlace 1269 (nmo v) M = some (some (.inl (ix vs v)), M) := by
  have hl := h.2.1
  have hvv := vc_var (c := v) (by omega)
  have hk := (kd_var (c := v) (by omega)).1
  have key : ∀ (k i : Nat), vs.length - i = k → i ≤ vs.length → M_leftPlace_2 1269 (nmo v) (i : Int) M = some (some (.inl (ixo v (vs.drop i) i)), M) := by
    intro k
    induction k with
    | zero =>
      intro i h1 h2
      rw [M_leftPlace_2_eq, hG.gM, gd_t, h.1, if_neg (by omega), List.drop_eq_nil_of_le (by omega)]
      rfl
    | succ k ih =>
      intro i h1 h2
      have hlt : i < vs.length := by omega
      have hc := h.2.2.2 _ (nth_mem hlt)
      rw [M_leftPlace_2_eq, hG.gM, gd_t, h.1, if_pos (by omega), gd_t, hG.m18, hG.tgS arr_1281 (by omega) (by omega), gd_t, toNat_n, h.2.2.1 i hlt, drop_cons hlt, wr_s (by omega)]
      unfold ixo
      by_cases e : nth vs i = v
      · rw [if_pos (by rw [e]), if_pos e]
      · rw [if_neg (fun q => e ((nmo_var (vc_var (by omega)) hvv (kd_var (by omega)).1 hk).mp q)), if_neg e]
        exact ih (i + 1) (by omega) (by omega)
  rw [M_leftPlace_eq]
  exact key _ 0 rfl (Nat.zero_le _)
theorem M_mayVar_s (hG : Good M) {left : Option (List Int)} {cons : Bool} (h : LFm M left cons) {v : Int} (hv : 0 ≤ v ∧ v < 1414) : M_mayVar 1269 (nmo v) M = some (some (.inl (haveI := Classical.propDecidable; if ∀ vs, left = some vs → v ∈ vs then 1 else 0)), M) := by
  rw [M_mayVar_eq, hG.gM, gd_t]
  cases left with
  | none =>
    have h1 : mI M 1269 9 = 0 := h.1
    rw [h1, if_pos rfl, if_pos (fun vs hvs => by cases hvs)]
  | some vs =>
    have h1 : mI M 1269 9 = 1 := h.1.1
    rw [h1, if_neg (by decide), gd_t, M_leftPlace_s hG h.1.2 hv, cI_s]
    by_cases hm : v ∈ vs
    · rw [if_neg (ix_mem.mpr hm), if_pos (fun ws hws => by cases hws; exact hm)]
    · rw [if_pos (Classical.not_not.mp fun q => hm (ix_mem.mp q)), if_neg (fun q => hm (q vs rfl))]
end MREAD

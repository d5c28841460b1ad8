/-! ===== the reference's rows: cells said in the class's way ===== -/
/-- a name as the reference has it -/
def nmo (c : Int) : Int := if kd c = 0 then (if c < 1414 then c + 1212 else c + 98586) else if kd c = 1 then sy c + 1 else if kd c = 2 then sy c else 0
def cm (c : Int) : Int := kd c + 4 * ar c + 64 * nmo c
def RM (M : Mem) (a o : Nat) (xs : List Int) : Prop := ∀ i, i < xs.length → mI M a (o + i) = cm (nth xs i)
theorem RM.fi {M M1 : Mem} {S : Nat → Prop} {a o : Nat} {xs : List Int} (h : RM M a o xs) (f : Fi S M M1) (h1 : ¬ S a) : RM M1 a o xs := fun i hi => (f.2.2 _ h1 _).trans (h i hi)
theorem RM.fr {M M1 : Mem} {S : Nat → Prop} {a o : Nat} {xs : List Int} (h : RM M a o xs) (f : Fr S M M1) (h1 : ¬ S a) : RM M1 a o xs := fun i hi => ((f.2 _ h1).1 _).trans (h i hi)
theorem nmo_rng {c : Int} (h : vc c) : 0 ≤ nmo c ∧ nmo c < 170000 := by
  have h1 := sy_nn c
  have h2 := h.1
  unfold nmo
  by_cases k0 : kd c = 0
  · have := h.2.1 k0
    rw [if_pos k0]
    split <;> omega
  · rw [if_neg k0]
    split
    · omega
    · split <;> omega
theorem cm_rng {c : Int} (h : vc c) : 0 ≤ cm c ∧ cm c < 11000000 := by
  have h1 := nmo_rng h
  have h2 := kd_nn c
  have h3 := ar_nn c
  unfold cm
  omega
theorem cm_inR {c : Int} (h : vc c) : InR (cm c) := by have := cm_rng h; unfold InR; omega
theorem cm_kd {c : Int} (h : vc c) : cm c % 4 = kd c := by
  have h2 := kd_nn c
  unfold cm
  omega
theorem cm_ar {c : Int} (h : vc c) : cm c / 4 % 16 = ar c := by
  have h2 := kd_nn c
  have h3 := ar_nn c
  unfold cm
  omega
theorem cm_nm {c : Int} (h : vc c) : cm c / 64 = nmo c := by
  have h2 := kd_nn c
  have h3 := ar_nn c
  unfold cm
  omega
theorem nmo_inj {c d : Int} (h : vc c) (k : vc d) (e : kd c = kd d) (n : nmo c = nmo d) (a : ar c = ar d) : c = d := by
  have h1 := h.1
  have k1 := k.1
  have h2 := h.2
  have k2 := k.2
  have s1 := sy_nn c
  have s2 := sy_nn d
  unfold nmo at n
  rw [← e] at n k1 k2
  have hk := kd_nn c
  by_cases q0 : kd c = 0
  · rw [if_pos q0, if_pos q0] at n
    split at n <;> split at n <;> omega
  · rw [if_neg q0, if_neg q0] at n
    by_cases q1 : kd c = 1
    · rw [if_pos q1, if_pos q1] at n; omega
    · rw [if_neg q1, if_neg q1] at n
      by_cases q2 : kd c = 2
      · rw [if_pos q2, if_pos q2] at n; omega
      · have q3 : kd c = 3 := by omega
        have := h2.2.2.2 q3
        have := k2.2.2.2 q3
        omega
theorem cm_inj {c d : Int} (h : vc c) (k : vc d) : cm c = cm d ↔ c = d := by
  constructor
  · intro e
    refine nmo_inj h k ?_ ?_ ?_
    · rw [← cm_kd h, ← cm_kd k, e]
    · rw [← cm_nm h, ← cm_nm k, e]
    · rw [← cm_ar h, ← cm_ar k, e]
  · intro e; rw [e]
theorem nmo_var {c d : Int} (h : vc c) (k : vc d) (h0 : kd c = 0) (k0 : kd d = 0) : nmo c = nmo d ↔ c = d := by
  constructor
  · intro e
    have a1 := h.2.1 h0
    have a2 := k.2.1 k0
    exact nmo_inj h k (h0.trans k0.symm) e (a1.trans a2.symm)
  · intro e; rw [e]
theorem ixo_map {f : Int → Int} {v : Int} : ∀ (vs : List Int) (i : Nat), (∀ c ∈ vs, f c = f v → c = v) → ixo (f v) (vs.map f) i = ixo v vs i := by
  intro vs
  induction vs with
  | nil => intro i h; rfl
  | cons c cs ih =>
    intro i h
    rw [List.map_cons]
    unfold ixo
    by_cases e : c = v
    · rw [if_pos e, if_pos (by rw [e])]
    · rw [if_neg e, if_neg (fun q => e (h c List.mem_cons_self q))]
      exact ih _ fun d hd => h d (List.mem_cons_of_mem _ hd)
theorem ix_map {f : Int → Int} {v : Int} {vs : List Int} (h : ∀ c ∈ vs, f c = f v → c = v) : ix (vs.map f) (f v) = ix vs v := ixo_map vs 0 h
theorem cm_var {v : Int} (h : 0 ≤ v ∧ v < 65536) : cm v = 64 * nmo v ∧ nmo v = (if v < 1414 then v + 1212 else v + 98586) := by
  obtain ⟨h1, h2, h3⟩ := kd_var h
  unfold cm nmo
  rw [h1, h2, if_pos rfl]
  exact ⟨by omega, rfl⟩
theorem por_comm (a b : Int) : por a b = por b a := by
  unfold por
  rw [Int32.or_comm]
section MODEL
variable {M : Mem}
theorem M_thing_s {s m n : Int} (hs : 0 ≤ s ∧ s < 4) (hm : 0 ≤ m ∧ m < 16) (hn : 0 ≤ n ∧ n < 10000000) : M_thing s m n M = some (some (.inl (s + 4 * m + 64 * n)), M) := by
  have e0 : por s (m * 4) = m * 4 + s := by
    have h := por_add (a := m * 4) (b := s) (n := 2) (by decide) (by omega) hs.1 (by show s < (4 : Int); omega) (by show (4 : Int) ∣ _; omega) (by omega)
    rw [por_comm]; exact h
  have e1 : por (m * 4 + s) (n * 64) = n * 64 + (m * 4 + s) := by
    have h := por_add (a := n * 64) (b := m * 4 + s) (n := 6) (by decide) (by omega) (by omega) (by show m * 4 + s < (64 : Int); omega) (by show (64 : Int) ∣ _; omega) (by omega)
    rw [por_comm]; exact h
  rw [M_thing_eq, pshl_2 hm.1 (by omega), pshl_6 hn.1 (by omega), e0, e1, show n * 64 + (m * 4 + s) = s + 4 * m + 64 * n by omega]
theorem M_sortOf_s {c : Int} (h : vc c) : M_sortOf (cm c) M = some (some (.inl (kd c)), M) := by rw [M_sortOf_eq, pand_3, cm_kd h]
theorem M_manyOf_s {c : Int} (h : vc c) : M_manyOf (cm c) M = some (some (.inl (ar c)), M) := by rw [M_manyOf_eq, pand_15, pshr_2 (cm_inR h), cm_ar h]
theorem M_nameOf_s {c : Int} (h : vc c) : M_nameOf (cm c) M = some (some (.inl (nmo c)), M) := by rw [M_nameOf_eq, pshr_6 (cm_inR h), cm_nm h]
theorem M_isIn_s (v lo hi : Int) : M_isIn v lo hi M = some (some (.inl (if lo ≤ v ∧ v ≤ hi then 1 else 0)), M) := by
  rw [M_isIn_eq]
  by_cases h1 : v < lo
  · rw [if_pos h1, if_neg (by omega)]
  · rw [if_neg h1]
    by_cases h2 : hi < v
    · rw [if_pos h2, if_neg (by omega)]
    · rw [if_neg h2, if_pos (by omega)]
variable {a n o : Nat} {xs : List Int}
/-- a row in an array of the reference -/
def RX (M : Mem) (a n o : Nat) (xs : List Int) : Prop := (arr a 0 n ∧ n ≤ 20480) ∧ RM M a o xs ∧ o + xs.length ≤ n ∧ av xs
theorem RX.fi {M1 : Mem} {S : Nat → Prop} (h : RX M a n o xs) (f : Fi S M M1) (h1 : ¬ S a) : RX M1 a n o xs := ⟨h.1, h.2.1.fi f h1, h.2.2⟩
theorem RX.fr {M1 : Mem} {S : Nat → Prop} (h : RX M a n o xs) (f : Fr S M M1) (h1 : ¬ S a) : RX M1 a n o xs := ⟨h.1, h.2.1.fr f h1, h.2.2⟩
theorem RX.gs (hG : Good M) (h : RX M a n o xs) {i : Nat} (hi : i < xs.length) : gS M a 0 ((o + i : Nat) : Int) = true := hG.tgS h.1.1 (by omega) (by have := h.2.2.1; omega)
theorem RX.v (h : RX M a n o xs) {i : Nat} (hi : i < xs.length) : vc (nth xs i) := av_nth h.2.2.2 hi
theorem M_behind_s (hG : Good M) (h : RX M a n o xs) {p b : Nat} (hw : wf (1 + b) (xs.drop p)) : M_behind a ((o + p : Nat) : Int) M = some (some (.inl ((o + beh xs p : Nat) : Int)), M) := by
  have hn := h.1.2
  have hol := h.2.2.1
  have key : ∀ (k i w : Nat) (d : LV), xs.length - i = k → i ≤ xs.length → w ≤ 1 + 15 * i → wf (w + b) (xs.drop i) → M_behind_4 a (w : Int) ((o + i : Nat) : Int) d M = some (some (.inl ((o + (i + sk w (xs.drop i)) : Nat) : Int)), M) := by
    intro k
    induction k with
    | zero =>
      intro i w d h1 h2 h3 hw
      rw [List.drop_eq_nil_of_le (by omega)] at hw ⊢
      rw [wf_nil] at hw
      have hw0 : w = 0 := by omega
      subst hw0
      rw [M_behind_4_eq, if_neg (by omega), sk_zero]
      rfl
    | succ k ih =>
      intro i w d h1 h2 h3 hw
      have hlt : i < xs.length := by omega
      have hvc := h.v hlt
      have ha := arN_ar (nth xs i)
      have ha2 := arN_lt (nth xs i)
      cases w with
      | zero => rw [M_behind_4_eq, if_neg (by omega), sk_zero]; rfl
      | succ w =>
        rw [drop_cons hlt] at hw ⊢
        rw [show w + 1 + b = w + b + 1 by omega, wf_cons, show w + b + arN (nth xs i) = w + arN (nth xs i) + b by omega] at hw
        rw [M_behind_4_eq, if_pos (by omega), h.gs hG hlt, gd_t, toNat_n, h.2.1 i hlt, M_manyOf_s hvc, cI_s, wr_s (by omega), ← ha, wr_id (x := (arN (nth xs i) : Int) - 1) (by omega) (by omega), wr_id (by omega) (by omega), show ((w + 1 : Nat) : Int) + ((arN (nth xs i) : Int) - 1) = ((w + arN (nth xs i) : Nat) : Int) by omega, show o + i + 1 = o + (i + 1) by omega, ih (i + 1) (w + arN (nth xs i)) d (by omega) (by omega) (by omega) hw, sk_cons, show i + 1 + sk (w + arN (nth xs i)) (xs.drop (i + 1)) = i + (1 + sk (w + arN (nth xs i)) (xs.drop (i + 1))) by omega]
  rw [M_behind_eq]
  by_cases hp : p ≤ xs.length
  · exact key _ p 1 _ rfl hp (by omega) hw
  · rw [List.drop_eq_nil_of_le (by omega), wf_nil] at hw
    omega
/-- where the k-th argument begins -/
def agp (xs : List Int) (p k : Nat) : Nat := p + 1 + sk k (xs.drop (p + 1))
theorem agp_z (xs : List Int) (p : Nat) : agp xs p 0 = p + 1 := by unfold agp; rw [sk_zero]
theorem agp_s (xs : List Int) (p k : Nat) : agp xs p (k + 1) = beh xs (agp xs p k) := by
  unfold agp beh
  rw [sk_add, List.drop_drop]
  omega
theorem M_argument_s (hG : Good M) (h : RX M a n o xs) {p k b : Nat} (hw : wf (k + b) (xs.drop (p + 1))) (hp : p + 1 ≤ xs.length) : M_argument a ((o + p : Nat) : Int) (k : Int) M = some (some (.inl ((o + agp xs p k : Nat) : Int)), M) := by
  have hn := h.1.2
  have hol := h.2.2.1
  have hk := wf_len _ _ hw
  rw [List.length_drop] at hk
  have key : ∀ (j i : Nat) (d : LV), k - i = j → i ≤ k → M_argument_7 a (k : Int) ((o + agp xs p i : Nat) : Int) (i : Int) d M = some (some (.inl ((o + agp xs p k : Nat) : Int)), M) := by
    intro j
    induction j with
    | zero =>
      intro i d h1 h2
      rw [M_argument_7_eq, if_neg (by omega), show i = k by omega]
    | succ j ih =>
      intro i d h1 h2
      have hw2 : wf (1 + (k - i - 1 + b)) (xs.drop (agp xs p i)) := by
        have := (wf_sk (xs.drop (p + 1)) i (k - i + b) (by rw [show i + (k - i + b) = k + b by omega]; exact hw)).2
        rw [List.drop_drop] at this
        rw [show 1 + (k - i - 1 + b) = k - i + b by omega]
        exact this
      rw [M_argument_7_eq, if_pos (by omega), M_behind_s hG h hw2, cI_s, wr_s (by omega), ← agp_s]
      exact ih (i + 1) d (by omega) (by omega)
  rw [M_argument_eq, wr_s (by omega), show o + p + 1 = o + agp xs p 0 by rw [agp_z]; omega]
  exact key _ 0 _ rfl (Nat.zero_le _)
theorem M_isDone_s (hG : Good M) (h : RX M a n o xs) {p b : Nat} (hw : wf (1 + b) (xs.drop p)) (hp : p ≤ xs.length) : M_isDone a ((o + p : Nat) : Int) M = some (some (.inl (if (sub xs p).all (fun c => decide (kd c ≤ 1)) = true then 1 else 0)), M) := by
  have hn := h.1.2
  have hol := h.2.2.1
  have hb := beh_le hp
  have key : ∀ (j i : Nat) (d : LV), beh xs p - i = j → p ≤ i → i ≤ beh xs p → M_isDone_8 a ((o + beh xs p : Nat) : Int) ((o + i : Nat) : Int) d M = some (some (.inl (if ((xs.drop i).take (beh xs p - i)).all (fun c => decide (kd c ≤ 1)) = true then 1 else 0)), M) := by
    intro j
    induction j with
    | zero =>
      intro i d h1 h2 h3
      rw [M_isDone_8_eq, if_neg (by omega), h1, List.take_zero]
      rfl
    | succ j ih =>
      intro i d h1 h2 h3
      have hlt : i < xs.length := by omega
      rw [M_isDone_8_eq, if_pos (by omega), h.gs hG hlt, gd_t, toNat_n, h.2.1 i hlt, M_sortOf_s (h.v hlt), cI_s, wr_s (by omega), show o + i + 1 = o + (i + 1) by omega, ih (i + 1) d (by omega) (by omega) (by omega), drop_cons hlt, show beh xs p - i = (beh xs p - (i + 1)) + 1 by omega, List.take_succ_cons, List.all_cons]
      by_cases h4 : 1 < kd (nth xs i)
      · rw [if_pos h4, decide_eq_false (by omega), Bool.false_and, if_neg (by decide)]
      · rw [if_neg h4, decide_eq_true (by omega), Bool.true_and]
  rw [M_isDone_eq, M_behind_s hG h hw, cI_s]
  have := key _ p (some (.inl ((o + p : Nat) : Int))) rfl (Nat.le_refl _) (by unfold beh; omega)
  rw [this]
  unfold sub beh
  rw [Nat.add_sub_cancel_left]
theorem M_copy_s (hG : Good M) {s d m1 m2 p q k : Nat} (hs : arr s 0 m1) (hd : arr d 0 m2) (h1 : p + k ≤ m1) (h2 : q + k ≤ m2) (hm : m1 ≤ 20480 ∧ m2 ≤ 20480) (hne : s ≠ d ∨ p + k ≤ q ∨ q + k ≤ p) : ∃ M', M_copy s (p : Int) (k : Int) d (q : Int) M = some (none, M') ∧ Fi (fun z => z = d) M M' ∧ ∀ j, mI M' d j = if q ≤ j ∧ j < q + k then mI M s (p + (j - q)) else mI M d j := by
  have key : ∀ (j i : Nat) (M1 : Mem), k - i = j → i ≤ k → Fi (fun z => z = d) M M1 → (∀ j, mI M1 d j = if q ≤ j ∧ j < q + i then mI M s (p + (j - q)) else mI M d j) → ∃ M', M_copy_3 s (p : Int) (k : Int) d (q : Int) (i : Int) M1 = some (none, M') ∧ Fi (fun z => z = d) M M' ∧ ∀ j, mI M' d j = if q ≤ j ∧ j < q + k then mI M s (p + (j - q)) else mI M d j := by
    intro j
    induction j with
    | zero =>
      intro i M1 e1 e2 hF hv
      have : i = k := by omega
      subst this
      exact ⟨M1, by rw [M_copy_3_eq, if_neg (by omega)], hF, hv⟩
    | succ j ih =>
      intro i M1 e1 e2 hF hv
      have hG1 := hG.fi hF
      have hsv : mI M1 s (p + i) = mI M s (p + i) := by
        by_cases e : s = d
        · subst e
          rw [hv, if_neg (by omega)]
        · exact hF.2.2 s e _
      obtain ⟨M', a1, a2, a3⟩ := ih (i + 1) (stI M1 d (q + i) (mI M s (p + i))) (by omega) (by omega) (hF.trans (Fi.ofI rfl)) (fun z => by
        by_cases e : z = q + i
        · subst e
          rw [mI_at, if_pos (by omega), show p + (q + i - q) = p + i by omega]
        · rw [mI_ne (by omega), hv]
          by_cases e2 : q ≤ z ∧ z < q + i
          · rw [if_pos e2, if_pos (by omega)]
          · rw [if_neg e2, if_neg (by omega)])
      refine ⟨M', ?_, a2, a3⟩
      rw [M_copy_3_eq, if_pos (by omega), wr_id (x := (p : Int) + (i : Int)) (by omega) (by omega), wr_id (x := (q : Int) + (i : Int)) (by omega) (by omega), hG1.tgS hs (by omega) (by omega), gd_t, hG1.tgS hd (by omega) (by omega), gd_t, show (p : Int) + (i : Int) = ((p + i : Nat) : Int) by omega, show (q : Int) + (i : Int) = ((q + i : Nat) : Int) by omega, toNat_n, toNat_n, wr_s (by omega), hsv]
      exact a1
  rw [M_copy_eq]
  exact key k 0 M rfl (Nat.zero_le _) Fi.refl fun j => by rw [if_neg (by omega)]
end MODEL

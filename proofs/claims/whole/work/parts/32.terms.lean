/-! ===== parts that are alike; how deep a part lies ===== -/
theorem sk_mono : ∀ (xs : List Int) (a b : Nat), a ≤ b → sk a xs ≤ sk b xs := by
  intro xs a b h
  obtain ⟨d, rfl⟩ := Nat.le.dest h
  rw [sk_add]
  omega
theorem sk_nest : ∀ (xs : List Int) (w j : Nat), j < sk w xs → j + sk 1 (xs.drop j) ≤ sk w xs := by
  intro xs
  induction xs with
  | nil => intro w j h; rw [sk_nil] at h; omega
  | cons c cs ih =>
    intro w j h
    cases w with
    | zero => rw [sk_zero] at h; omega
    | succ w =>
      rw [sk_cons] at h ⊢
      cases j with
      | zero =>
        rw [List.drop_zero, sk_cons]
        have := sk_mono cs (0 + arN c) (w + arN c) (by omega)
        omega
      | succ j =>
        rw [List.drop_succ_cons]
        have := ih (w + arN c) j (by omega)
        omega
theorem beh_nest {xs : List Int} {r q : Nat} (h1 : r ≤ q) (h2 : q < beh xs r) : beh xs q ≤ beh xs r := by
  unfold beh at h2 ⊢
  have h := sk_nest (xs.drop r) 1 (q - r) (by omega)
  rw [List.drop_drop, show r + (q - r) = q by omega] at h
  omega
theorem agp_le {xs : List Int} {p k j : Nat} (h : k ≤ j) : agp xs p k ≤ agp xs p j := by
  unfold agp
  have := sk_mono (xs.drop (p + 1)) k j h
  omega
theorem beh_agp {xs : List Int} {p : Nat} (h : p < xs.length) : beh xs p = agp xs p (arN (nth xs p)) := by
  unfold beh agp
  rw [drop_cons h, sk_cons, Nat.zero_add]
  omega
/-- how many ahead of a place have a part that goes beyond another place -/
def cnt (xs : List Int) (P : Nat) : Nat → Nat
  | 0 => 0
  | i + 1 => cnt xs P i + (if P < beh xs i then 1 else 0)
def dep (xs : List Int) (p : Nat) : Nat := cnt xs p p
theorem dq_cnt {xs : List Int} {P : Nat} : ∀ (i : Nat) (d : Int) (A cl : Nat), i ≤ A → A ≤ P → P < xs.length → P < beh xs A → sk cl (xs.drop i) = A - i → dq xs i d (cl : Int) = d + (cnt xs P i : Int) := by
  intro i
  induction i with
  | zero => intro d A cl _ _ _ _ _; unfold dq cnt; omega
  | succ i ih =>
    intro d A cl h1 h2 h3 h4 h5
    have hlt : i < xs.length := by omega
    have ha := arN_ar (nth xs i)
    have hb : beh xs i = i + 1 + sk (arN (nth xs i)) (xs.drop (i + 1)) := by rw [beh_agp hlt]; rfl
    unfold dq cnt
    by_cases hc : (cl : Int) < ar (nth xs i)
    · rw [if_pos hc]
      have hgt : beh xs A ≤ beh xs i := by
        rw [hb, show arN (nth xs i) = cl + (1 + (arN (nth xs i) - cl - 1)) by omega, sk_add, h5, List.drop_drop, show i + 1 + (A - (i + 1)) = A by omega, sk_add]
        unfold beh
        omega
      have := ih (d + 1) i 0 (Nat.le_refl _) (by omega) h3 (by omega) (by rw [sk_zero]; omega)
      rw [show ((0 : Nat) : Int) = 0 from rfl] at this
      rw [this, if_pos (by omega)]
      omega
    · rw [if_neg hc]
      have hle : beh xs i ≤ A := by
        rw [hb]
        have := sk_mono (xs.drop (i + 1)) (arN (nth xs i)) cl (by omega)
        omega
      have := ih d A (cl + 1 - arN (nth xs i)) (by omega) h2 h3 h4 (by
        rw [drop_cons hlt, show cl + 1 - arN (nth xs i) = (cl - arN (nth xs i)) + 1 by omega, sk_cons, show cl - arN (nth xs i) + arN (nth xs i) = cl by omega, h5]
        omega)
      rw [show (cl : Int) + (1 - ar (nth xs i)) = ((cl + 1 - arN (nth xs i) : Nat) : Int) by omega, this, if_neg (by omega)]
      omega
theorem dq_dep {xs : List Int} {p : Nat} (h : p < xs.length) : dq xs p 1 0 = 1 + (dep xs p : Int) := by
  have := dq_cnt (xs := xs) (P := p) p 1 p 0 (Nat.le_refl _) (Nat.le_refl _) h (beh_gt h) (by rw [sk_zero]; omega)
  rw [show ((0 : Nat) : Int) = 0 from rfl] at this
  exact this
theorem cnt_le (xs : List Int) (P : Nat) : ∀ i, cnt xs P i ≤ i := by
  intro i
  induction i with
  | zero => exact Nat.le_refl _
  | succ i ih => unfold cnt; split <;> omega
theorem cnt_cong {xs : List Int} {P Q : Nat} : ∀ i, (∀ j, j < i → (P < beh xs j ↔ Q < beh xs j)) → cnt xs P i = cnt xs Q i := by
  intro i
  induction i with
  | zero => intro _; rfl
  | succ i ih =>
    intro h
    unfold cnt
    rw [ih fun j hj => h j (by omega)]
    have := h i (by omega)
    by_cases q : P < beh xs i
    · rw [if_pos q, if_pos (this.mp q)]
    · rw [if_neg q, if_neg (fun z => q (this.mpr z))]
theorem cnt_skip {xs : List Int} {P i : Nat} : ∀ k, (∀ j, i ≤ j → j < i + k → ¬ P < beh xs j) → cnt xs P (i + k) = cnt xs P i := by
  intro k
  induction k with
  | zero => intro _; rfl
  | succ k ih =>
    intro h
    show cnt xs P (i + k) + (if P < beh xs (i + k) then 1 else 0) = _
    rw [ih fun j h1 h2 => h j h1 (by omega), if_neg (h (i + k) (by omega) (by omega))]
    rfl
/-- an argument lies one deeper -/
theorem dep_arg {xs : List Int} {q k : Nat} (hq : q < xs.length) (hk : k < arN (nth xs q)) (hl : agp xs q k < xs.length) : dep xs (agp xs q k) = dep xs q + 1 := by
  have hb := beh_agp hq
  have h1 : agp xs q k < beh xs q := by
    have h3 := agp_le (xs := xs) (p := q) (k := k + 1) (j := arN (nth xs q)) (by omega)
    rw [agp_s] at h3
    have := beh_gt hl
    omega
  have h0 : q + 1 ≤ agp xs q k := by unfold agp; omega
  unfold dep
  rw [show agp xs q k = (q + 1) + (agp xs q k - (q + 1)) by omega, cnt_skip]
  · rw [show q + 1 + (agp xs q k - (q + 1)) = agp xs q k by omega]
    show cnt xs (agp xs q k) q + (if agp xs q k < beh xs q then 1 else 0) = _
    rw [if_pos h1, cnt_cong (Q := q)]
    intro j hj
    constructor
    · intro h; omega
    · intro h
      have := beh_nest (xs := xs) (r := j) (q := q) (by omega) h
      omega
  · intro j hj1 hj2
    have h4 := sk_nest (xs.drop (q + 1)) k (j - (q + 1)) (by unfold agp at hj2; omega)
    rw [List.drop_drop, show q + 1 + (j - (q + 1)) = j by omega] at h4
    unfold agp beh
    omega
/-- whether so many expressions are alike -/
def eqw : Nat → List Int → List Int → Bool
  | 0, _, _ => true
  | _ + 1, [], _ => false
  | _ + 1, _ :: _, [] => false
  | w + 1, u :: us, v :: vs => decide (u = v) && eqw (w + arN u) us vs
theorem eqw_z {us vs : List Int} : eqw 0 us vs = true := by cases us <;> cases vs <;> rfl
theorem eqw_iff : ∀ (us vs : List Int) (w a b : Nat), wf (w + a) us → wf (w + b) vs → (eqw w us vs = true ↔ us.take (sk w us) = vs.take (sk w vs)) := by
  intro us
  induction us with
  | nil =>
    intro vs w a b h k
    rw [wf_nil] at h
    have : w = 0 := by omega
    subst this
    rw [sk_zero, sk_zero]
    exact ⟨fun _ => rfl, fun _ => rfl⟩
  | cons u us ih =>
    intro vs w a b h k
    cases w with
    | zero => rw [sk_zero, sk_zero]; exact ⟨fun _ => rfl, fun _ => rfl⟩
    | succ w =>
      cases vs with
      | nil => rw [wf_nil] at k; omega
      | cons v vs =>
        rw [show w + 1 + a = w + a + 1 by omega, wf_cons, show w + a + arN u = w + arN u + a by omega] at h
        rw [show w + 1 + b = w + b + 1 by omega, wf_cons, show w + b + arN v = w + arN v + b by omega] at k
        rw [sk_cons, sk_cons, Nat.add_comm 1, Nat.add_comm 1, List.take_succ_cons, List.take_succ_cons]
        unfold eqw
        rw [Bool.and_eq_true, decide_eq_true_eq]
        constructor
        · rintro ⟨rfl, h2⟩
          rw [(ih vs _ a b h k).mp h2]
        · intro e
          have e1 : u = v := (List.cons.inj e).1
          subst e1
          exact ⟨rfl, (ih vs _ a b h k).mpr (List.cons.inj e).2⟩
/-- whether two parts are alike -/
def same (xs : List Int) (p : Nat) (ys : List Int) (q : Nat) : Bool := decide (sub xs p = sub ys q)
theorem eqw_same {xs ys : List Int} {p q a b : Nat} (h : wf (1 + a) (xs.drop p)) (k : wf (1 + b) (ys.drop q)) : eqw 1 (xs.drop p) (ys.drop q) = same xs p ys q := by
  unfold same
  rw [Bool.eq_iff_iff, decide_eq_true_eq]
  exact eqw_iff _ _ 1 a b h k
section LIKE
variable {M : Mem} {e n f m : Nat} {xs ys : List Int}
theorem Ex_samePart_s (hG : Good M) (h : XE M e n xs) (hv : av xs) (k : XE M f m ys) {p q a b : Nat} (hw : wf (1 + a) (xs.drop p)) (kw : wf (1 + b) (ys.drop q)) : Ex_samePart e (p : Int) f (q : Int) M = some (some (.inl (if same xs p ys q = true then 1 else 0)), M) := by
  have hl := h.lt
  have kl := k.lt
  have hp : p ≤ xs.length := by
    by_cases q : p ≤ xs.length
    · exact q
    · rw [List.drop_eq_nil_of_le (by omega), wf_nil] at hw; omega
  have key : ∀ (j i w a b : Nat) (d : LV), xs.length - (p + i) = j → p + i ≤ xs.length → w ≤ 1 + 15 * i → wf (w + a) (xs.drop (p + i)) → wf (w + b) (ys.drop (q + i)) → Ex_samePart_6 e (p : Int) f (q : Int) (w : Int) (i : Int) d M = some (some (.inl (if eqw w (xs.drop (p + i)) (ys.drop (q + i)) = true then 1 else 0)), M) := by
    intro j
    induction j with
    | zero =>
      intro i w a b d h1 h2 h3 h4 h5
      rw [List.drop_eq_nil_of_le (show xs.length ≤ p + i by omega), wf_nil] at h4
      have : w = 0 := by omega
      subst this
      rw [Ex_samePart_6_eq, if_neg (by omega), if_pos eqw_z]
    | succ j ih =>
      intro i w a b d h1 h2 h3 h4 h5
      cases w with
      | zero => rw [Ex_samePart_6_eq, if_neg (by omega), if_pos eqw_z]
      | succ w =>
        have hlt : p + i < xs.length := by omega
        have klt : q + i < ys.length := by
          by_cases z : q + i < ys.length
          · exact z
          · rw [List.drop_eq_nil_of_le (by omega), wf_nil] at h5; omega
        have hvc := av_nth hv hlt
        have ha := arN_ar (nth xs (p + i))
        have ha2 := arN_lt (nth xs (p + i))
        rw [Ex_samePart_6_eq, if_pos (by omega), h.g hG, gd_t, h.s, if_pos (by omega), gd_t, wr_id (x := (p : Int) + (i : Int)) (by omega) (by omega), wr_id (x := (q : Int) + (i : Int)) (by omega) (by omega), show (p : Int) + (i : Int) = ((p + i : Nat) : Int) by omega, show (q : Int) + (i : Int) = ((q + i : Nat) : Int) by omega, Ex_cellAt_s hG h, cI_s, k.g hG, gd_t, Ex_cellAt_s hG k, cI_s, cA_n hlt, cA_n klt, drop_cons hlt, drop_cons klt]
        unfold eqw
        by_cases hc : nth xs (p + i) = nth ys (q + i)
        · rw [drop_cons hlt, show w + 1 + a = w + a + 1 by omega, wf_cons, show w + a + arN (nth xs (p + i)) = w + arN (nth xs (p + i)) + a by omega] at h4
          rw [drop_cons klt, show w + 1 + b = w + b + 1 by omega, wf_cons, show w + b + arN (nth ys (q + i)) = w + arN (nth ys (q + i)) + b by omega, ← hc] at h5
          rw [if_pos hc, decide_eq_true hc, Bool.true_and, Ex_arity_s hvc.inR, cI_s, wr_s (by omega), ← ha, wr_id (x := (arN (nth xs (p + i)) : Int) - 1) (by omega) (by omega), wr_id (by omega) (by omega), show ((w + 1 : Nat) : Int) + ((arN (nth xs (p + i)) : Int) - 1) = ((w + arN (nth xs (p + i)) : Nat) : Int) by omega]
          exact ih (i + 1) _ a b _ (by omega) (by omega) (by omega) h4 h5
        · rw [if_neg hc, decide_eq_false hc, Bool.false_and, if_neg (by decide)]
  rw [Ex_samePart_eq, ← eqw_same hw kw]
  exact key _ 0 1 a b _ rfl (by omega) (by omega) hw kw
variable {A B o2 : Nat} {o : Nat}
theorem M_areLike_s (hG : Good M) (h : RX M A n o xs) (k : RX M B m o2 ys) {p q a b : Nat} (hw : wf (1 + a) (xs.drop p)) (kw : wf (1 + b) (ys.drop q)) : M_areLike A ((o + p : Nat) : Int) B ((o2 + q : Nat) : Int) M = some (some (.inl (if same xs p ys q = true then 1 else 0)), M) := by
  have hn := h.1.2
  have hol := h.2.2.1
  have km := k.1.2
  have kol := k.2.2.1
  have hp : p ≤ xs.length := by
    by_cases q : p ≤ xs.length
    · exact q
    · rw [List.drop_eq_nil_of_le (by omega), wf_nil] at hw; omega
  have key : ∀ (j i w a b : Nat), xs.length - (p + i) = j → p + i ≤ xs.length → p + i + sk w (xs.drop (p + i)) = beh xs p → wf (w + a) (xs.drop (p + i)) → wf (w + b) (ys.drop (q + i)) → M_areLike_10 A ((o + p : Nat) : Int) B ((o2 + q : Nat) : Int) ((o + beh xs p : Nat) : Int) ((o + p + i : Nat) : Int) M = some (some (.inl (if eqw w (xs.drop (p + i)) (ys.drop (q + i)) = true then 1 else 0)), M) := by
    intro j
    induction j with
    | zero =>
      intro i w a b h1 h2 h3 h4 h5
      rw [List.drop_eq_nil_of_le (show xs.length ≤ p + i by omega), wf_nil] at h4
      have : w = 0 := by omega
      subst this
      rw [sk_zero] at h3
      rw [M_areLike_10_eq, if_neg (by omega), if_pos eqw_z]
    | succ j ih =>
      intro i w a b h1 h2 h3 h4 h5
      cases w with
      | zero =>
        rw [sk_zero] at h3
        rw [M_areLike_10_eq, if_neg (by omega), if_pos eqw_z]
      | succ w =>
        have hlt : p + i < xs.length := by omega
        have klt : q + i < ys.length := by
          by_cases z : q + i < ys.length
          · exact z
          · rw [List.drop_eq_nil_of_le (by omega), wf_nil] at h5; omega
        rw [drop_cons hlt, sk_cons] at h3
        rw [M_areLike_10_eq, if_pos (by omega), show ((o + p + i : Nat) : Int) = ((o + (p + i) : Nat) : Int) by omega, h.gs hG hlt, gd_t, wr_id (x := ((o2 + q : Nat) : Int) + _) (by omega) (by omega), wr_id (by omega) (by omega), show ((o2 + q : Nat) : Int) + ((o + (p + i) : Nat) : Int) - ((o + p : Nat) : Int) = ((o2 + (q + i) : Nat) : Int) by omega, k.gs hG klt, gd_t, toNat_n, toNat_n, h.2.1 _ hlt, k.2.1 _ klt, drop_cons hlt, drop_cons klt]
        unfold eqw
        by_cases hc : nth xs (p + i) = nth ys (q + i)
        · rw [drop_cons hlt, show w + 1 + a = w + a + 1 by omega, wf_cons, show w + a + arN (nth xs (p + i)) = w + arN (nth xs (p + i)) + a by omega] at h4
          rw [drop_cons klt, show w + 1 + b = w + b + 1 by omega, wf_cons, show w + b + arN (nth ys (q + i)) = w + arN (nth ys (q + i)) + b by omega, ← hc] at h5
          rw [if_pos ((cm_inj (h.v hlt) (k.v klt)).mpr hc), decide_eq_true hc, Bool.true_and, wr_s (by omega), show o + (p + i) + 1 = o + p + (i + 1) by omega]
          exact ih (i + 1) _ a b (by omega) (by omega) (by rw [show p + (i + 1) = p + i + 1 by omega]; omega) h4 h5
        · rw [if_neg (fun q => hc ((cm_inj (h.v hlt) (k.v klt)).mp q)), decide_eq_false hc, Bool.false_and, if_neg (by decide)]
  rw [M_areLike_eq, M_behind_s hG h hw, cI_s, ← eqw_same hw kw]
  exact key _ 0 1 a b rfl (by omega) rfl hw kw
theorem sub_len {xs : List Int} {p : Nat} : (sub xs p).length = beh xs p - p := by
  unfold sub beh
  rw [List.length_take, Nat.add_sub_cancel_left]
  exact Nat.min_eq_left (sk_le _ _)
theorem M_isSameAt_s (hG : Good M) (h : RX M A n o xs) {p q a b : Nat} (hw : wf (1 + a) (xs.drop p)) (kw : wf (1 + b) (xs.drop q)) : M_isSameAt A ((o + p : Nat) : Int) ((o + q : Nat) : Int) M = some (some (.inl (if same xs p xs q = true then 1 else 0)), M) := by
  have hn := h.1.2
  have hol := h.2.2.1
  have hin : ∀ {p a : Nat}, wf (1 + a) (xs.drop p) → p ≤ beh xs p ∧ beh xs p ≤ xs.length := fun {p a} hw => by
    have hp : p ≤ xs.length := by
      by_cases q : p ≤ xs.length
      · exact q
      · rw [List.drop_eq_nil_of_le (by omega), wf_nil] at hw; omega
    exact ⟨by unfold beh; omega, beh_le hp⟩
  have b1 := hin hw
  have b2 := hin kw
  rw [M_isSameAt_eq, M_behind_s hG h hw, cI_s, M_behind_s hG h kw, cI_s]
  rw [wr_id (x := ((o + beh xs p : Nat) : Int) - ((o + p : Nat) : Int)) (by omega) (by omega), wr_id (x := ((o + beh xs q : Nat) : Int) - ((o + q : Nat) : Int)) (by omega) (by omega)]
  by_cases hc : beh xs p - p = beh xs q - q
  · rw [if_pos (by omega), M_areLike_s hG h h hw kw, cI_s]
    split <;> rfl
  · rw [if_neg (by omega), if_neg]
    unfold same
    intro e
    rw [decide_eq_true_eq] at e
    have := congrArg List.length e
    rw [sub_len, sub_len] at this
    exact hc this
end LIKE

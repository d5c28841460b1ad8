/-! ===== a node begins; it comes below another ===== -/
def bgA (M : Mem) (m : Nat) : Mem := stR (stR (stI (stR (stR (stI (stI (stI (stI (stI (stI (stI M (30 + 6 * m) 4 0) (30 + 6 * m) 7 (-1)) (30 + 6 * m) 9 (-1)) (30 + 6 * m) 10 (-1)) (30 + 6 * m) 11 (-1)) (30 + 6 * m) 12 (-1)) (30 + 6 * m) 13 0) (30 + 6 * m) 14 0) (30 + 6 * m) 18 0) (30 + 6 * m) 8 0) (30 + 6 * m) 16 0) (30 + 6 * m) 17 0
section BEGIN
variable {M : Mem}
theorem bgA_I (m a j : Nat) : mI (bgA M m) a j = if a = 30 + 6 * m ∧ (j = 4 ∨ j = 7 ∨ (8 ≤ j ∧ j ≤ 13)) then (if j = 4 ∨ j = 8 ∨ j = 13 then 0 else -1) else mI M a j := by
  unfold bgA
  simp only [mI_R, mI_if]
  by_cases h : a = 30 + 6 * m
  · subst h
    simp only [true_and]
    by_cases h4 : j = 4
    · subst h4; rfl
    by_cases h7 : j = 7
    · subst h7; rfl
    by_cases h8 : j = 8
    · subst h8; rfl
    by_cases h9 : j = 9
    · subst h9; rfl
    by_cases h10 : j = 10
    · subst h10; rfl
    by_cases h11 : j = 11
    · subst h11; rfl
    by_cases h12 : j = 12
    · subst h12; rfl
    by_cases h13 : j = 13
    · subst h13; rfl
    rw [if_neg h8, if_neg h13, if_neg h12, if_neg h11, if_neg h10, if_neg h9, if_neg h7, if_neg h4, if_neg (by omega)]
  · simp only [h, false_and, if_false]
theorem bgA_R (m a j : Nat) : mR (bgA M m) a j = if a = 30 + 6 * m ∧ (j = 14 ∨ (16 ≤ j ∧ j ≤ 18)) then 0 else mR M a j := by
  unfold bgA
  simp only [mR_I, mR_if]
  by_cases h : a = 30 + 6 * m
  · subst h
    simp only [true_and]
    by_cases h4 : j = 14
    · subst h4; rfl
    by_cases h7 : j = 16
    · subst h7; rfl
    by_cases h8 : j = 17
    · subst h8; rfl
    by_cases h9 : j = 18
    · subst h9; rfl
    rw [if_neg h8, if_neg h7, if_neg h9, if_neg h4, if_neg (by omega)]
  · simp only [h, false_and, if_false]
theorem bgA_good (hG : Good M) {m : Nat} (hm : m < 120) : Good (bgA M m) := by
  have hI : ∀ {M : Mem} {a k : Nat} {v : Int}, Good M → Good (stI M a k v) := fun h => h.fj (Fj.ofI (S := fun _ _ => True) trivial)
  have hR : ∀ {M : Mem} {k v : Nat}, 3 ≤ k → Good M → Good (stR M (30 + 6 * m) k v) := fun hk h => h.ofR (nd_mtb hm hk)
  unfold bgA
  exact hR (by decide) (hR (by decide) (hI (hR (by decide) (hR (by decide) (hI (hI (hI (hI (hI (hI (hI hG)))))))))))
theorem bgA_1 (M : Mem) (m : Nat) : (bgA M m).1 = M.1 ∧ (bgA M m).2.1 = M.2.1 := ⟨rfl, rfl⟩
def adS (m k : Nat) : Nat → Nat → Prop := fun a j => (31 + 6 * m ≤ a ∧ a ≤ 33 + 6 * m) ∨ (a = 30 + 6 * m ∧ 3 ≤ j) ∨ (a = 30 + 6 * k ∧ j = 8) ∨ (a = 27 ∧ (j = 8 ∨ j = 9))
def adR (m k y : Nat) : Nat → Nat → Prop := fun a j => (a = 30 + 6 * m ∧ 14 ≤ j) ∨ (a = 30 + 6 * k ∧ (j = 16 ∨ j = 17)) ∨ (a = 30 + 6 * y ∧ j = 18) ∨ a = 29
/-- as a node begins below another -/
theorem No_begin_s (hG : Good M) {m k c y : Nat} {dp : Int} (hm : m < 120) (hk : k < 120) (hyy : c ≠ 0 → y < 120 ∧ m ≠ y) (hmk : m ≠ k) (hc : mI M (30 + 6 * k) 8 = (c : Int)) (hc2 : c < 1000) (hd : mI M (30 + 6 * k) 6 = dp) (hd2 : 0 ≤ dp ∧ dp < 1000) (hl : mR M (30 + 6 * k) 17 = if c = 0 then 0 else 30 + 6 * y) : ∃ M', No_begin (30 + 6 * m) (30 + 6 * k) M = some (none, M') ∧ Good M' ∧ Fq (adS m k) (adR m k y) M M' ∧ ((∀ j, 4 ≤ j → j ≤ 13 → mI M' (30 + 6 * m) j = if j = 5 then (c : Int) else if j = 6 then dp + 1 else if j = 4 ∨ j = 8 ∨ j = 13 then 0 else -1) ∧ mI M' (30 + 6 * k) 8 = ((c + 1 : Nat) : Int)) ∧ ((mR M' (30 + 6 * m) 14 = 0 ∧ mR M' (30 + 6 * m) 15 = 30 + 6 * k) ∧ (mR M' (30 + 6 * m) 16 = 0 ∧ mR M' (30 + 6 * m) 17 = 0) ∧ mR M' (30 + 6 * m) 18 = 0) ∧ (mR M' (30 + 6 * k) 17 = 30 + 6 * m ∧ mR M' (30 + 6 * k) 16 = if c = 0 then 30 + 6 * m else mR M (30 + 6 * k) 16) ∧ (c ≠ 0 → mR M' (30 + 6 * y) 18 = 30 + 6 * m) ∧ mI M' (30 + 6 * m) 3 = mI M (30 + 6 * m) 3 ∧ (∀ a, 31 + 6 * m ≤ a → a ≤ 33 + 6 * m → ∀ j, mI M' a j = mI M a j) ∧ (∀ j, mI M' 27 j = mI M 27 j) ∧ ∀ j, mR M' 29 j = mR M 29 j := by
  have hA := bgA_good hG hm
  have bI := fun a j => bgA_I (M := M) m a j
  have bR := fun a j => bgA_R (M := M) m a j
  have b1 := bgA_1 M m
  have e0 : No_begin (30 + 6 * m) (30 + 6 * k) M = gd (gO (bgA M m) (30 + 6 * m) 4) (if 30 + 6 * k = 0 then (No_begin_67 (30 + 6 * m) (30 + 6 * k) (-1) (30 + 6 * m) (stR (bgA M m) (30 + 6 * m) 15 (30 + 6 * k))) else (gd (gO (bgA M m) (30 + 6 * k) 4) (No_begin_67 (30 + 6 * m) (30 + 6 * k) (mI (bgA M m) (30 + 6 * k) 8) (30 + 6 * m) (stR (bgA M m) (30 + 6 * m) 15 (30 + 6 * k))))) := by
    rw [No_begin_eq, hG.nd hm, gd_t, gd_t, gd_t, gd_t, gd_t, gd_t, gd_t, gd_t, gd_t, gd_t, No_dropBelow_eq]
    have gB : gO (stR (stR (stI (stI (stI (stI (stI (stI (stI M (30 + 6 * m) 4 0) (30 + 6 * m) 7 (-1)) (30 + 6 * m) 9 (-1)) (30 + 6 * m) 10 (-1)) (30 + 6 * m) 11 (-1)) (30 + 6 * m) 12 (-1)) (30 + 6 * m) 13 0) (30 + 6 * m) 14 0) (30 + 6 * m) 18 0) (30 + 6 * m) 4 = true := hG.nd hm
    rw [gB, gd_t, gd_t, gd_t, cV_s]
    rfl
  have ek8 : mI (bgA M m) (30 + 6 * k) 8 = (c : Int) := by rw [bI, if_neg (by omega)]; exact hc
  have ek6 : mI (bgA M m) (30 + 6 * k) 6 = dp := by rw [bI, if_neg (by omega)]; exact hd
  have ek17 : mR (bgA M m) (30 + 6 * k) 17 = if c = 0 then 0 else 30 + 6 * y := by rw [bR, if_neg (by omega)]; exact hl
  rw [e0, hA.nd hm, gd_t, if_neg (by omega), hA.nd hk, gd_t, ek8]
  clear e0
  generalize bgA M m = N at *
  have hG2 : Good (stR N (30 + 6 * m) 15 (30 + 6 * k)) := hA.ofR (nd_mtb hm (by decide))
  have e6 : mI (stI (stR N (30 + 6 * m) 15 (30 + 6 * k)) (30 + 6 * m) 5 (c : Int)) (30 + 6 * k) 6 = dp := by rw [mI_ne (by omega)]; exact ek6
  have hG3 : Good (stI (stI (stR N (30 + 6 * m) 15 (30 + 6 * k)) (30 + 6 * m) 5 (c : Int)) (30 + 6 * m) 6 (dp + 1)) := hG2.fj ((Fj.ofI (S := fun _ _ => True) trivial).trans (Fj.ofI trivial))
  rw [No_begin_67_eq, hG2.nd hm, gd_t, if_neg (by omega), hG2.nd hk, gd_t, gd_t, if_neg (by omega), gd_t, e6, wr_id (x := dp + 1) (by omega) (by omega)]
  have e17 : mR (stI (stI (stR N (30 + 6 * m) 15 (30 + 6 * k)) (30 + 6 * m) 5 (c : Int)) (30 + 6 * m) 6 (dp + 1)) (30 + 6 * k) 17 = if c = 0 then 0 else 30 + 6 * y := by
    rw [mR_I, mR_I, mR_ne (by omega)]; exact ek17
  have e8 : mI (stI (stI (stR N (30 + 6 * m) 15 (30 + 6 * k)) (30 + 6 * m) 5 (c : Int)) (30 + 6 * m) 6 (dp + 1)) (30 + 6 * k) 8 = (c : Int) := by
    rw [mI_ne (by omega), mI_ne (by omega)]; exact ek8
  have rI : ∀ a j, mI (stI (stI (stR N (30 + 6 * m) 15 (30 + 6 * k)) (30 + 6 * m) 5 (c : Int)) (30 + 6 * m) 6 (dp + 1)) a j = if a = 30 + 6 * m ∧ (4 ≤ j ∧ j ≤ 13) then (if j = 5 then (c : Int) else if j = 6 then dp + 1 else if j = 4 ∨ j = 8 ∨ j = 13 then 0 else -1) else mI M a j := by
    intro a j
    rw [mI_if, mI_if, mI_R, bI]
    by_cases h : a = 30 + 6 * m
    · subst h
      simp only [true_and]
      by_cases h6 : j = 6
      · subst h6; rfl
      by_cases h5 : j = 5
      · subst h5; rfl
      rw [if_neg h6, if_neg h5, if_neg h5, if_neg h6]
      by_cases q : 4 ≤ j ∧ j ≤ 13
      · rw [if_pos q, if_pos (by omega)]
      · rw [if_neg q, if_neg (by omega)]
    · simp only [h, false_and, if_false]
  have rR : ∀ a j, mR (stI (stI (stR N (30 + 6 * m) 15 (30 + 6 * k)) (30 + 6 * m) 5 (c : Int)) (30 + 6 * m) 6 (dp + 1)) a j = if a = 30 + 6 * m ∧ (14 ≤ j ∧ j ≤ 18) then (if j = 15 then 30 + 6 * k else 0) else mR M a j := by
    intro a j
    rw [mR_I, mR_I, mR_if, bR]
    by_cases h : a = 30 + 6 * m
    · subst h
      simp only [true_and]
      by_cases h5 : j = 15
      · subst h5; rfl
      rw [if_neg h5, if_neg h5]
      by_cases q : 14 ≤ j ∧ j ≤ 18
      · rw [if_pos q, if_pos (by omega)]
      · rw [if_neg q, if_neg (by omega)]
    · simp only [h, false_and, if_false]
  have r1 : (stI (stI (stR N (30 + 6 * m) 15 (30 + 6 * k)) (30 + 6 * m) 5 (c : Int)) (30 + 6 * m) 6 (dp + 1)).1 = M.1 ∧ (stI (stI (stR N (30 + 6 * m) 15 (30 + 6 * k)) (30 + 6 * m) 5 (c : Int)) (30 + 6 * m) 6 (dp + 1)).2.1 = M.2.1 := b1
  clear bI bR b1 hA ek8 ek6 ek17 hG2 e6
  generalize stI (stI (stR N (30 + 6 * m) 15 (30 + 6 * k)) (30 + 6 * m) 5 (c : Int)) (30 + 6 * m) 6 (dp + 1) = N2 at *
  rw [No_addBelow_eq, hG3.nd hk, gd_t, e17]
  by_cases q : c = 0
  · rw [if_pos q, if_pos rfl, gd_t, gd_t, gd_t, gd_t, e8, wr_s (by omega), cV_s]
    refine ⟨_, rfl, ((hG3.ofR (nd_mtb hk (by decide))).ofR (nd_mtb hk (by decide))).fj (Fj.ofI (S := fun _ _ => True) trivial), ⟨r1, fun a j h => ?_, fun a j h => ?_⟩, ⟨fun j h1 h2 => ?_, mI_at⟩, ⟨⟨?_, ?_⟩, ⟨?_, ?_⟩, ?_⟩, ⟨?_, ?_⟩, fun h => absurd q h, ?_, fun a h1 h2 j => ?_, fun j => ?_, fun j => ?_⟩
    · unfold adR at h
      rw [mR_I, mR_ne (by omega), mR_ne (by omega), rR, if_neg (by omega)]
    · unfold adS at h
      rw [mI_ne (by omega), mI_R, mI_R, rI, if_neg (by omega)]
    · rw [mI_ne (by omega), mI_R, mI_R, rI, if_pos ⟨rfl, h1, h2⟩]
    · rw [mR_I, mR_ne (by omega), mR_ne (by omega), rR]; simp
    · rw [mR_I, mR_ne (by omega), mR_ne (by omega), rR]; simp
    · rw [mR_I, mR_ne (by omega), mR_ne (by omega), rR]; simp
    · rw [mR_I, mR_ne (by omega), mR_ne (by omega), rR]; simp
    · rw [mR_I, mR_ne (by omega), mR_ne (by omega), rR]; simp
    · rw [mR_I, mR_at]
    · rw [mR_I, mR_ne (by omega), mR_at, if_pos q]
    · rw [mI_ne (by omega), mI_R, mI_R, rI, if_neg (by omega)]
    · rw [mI_ne (by omega), mI_R, mI_R, rI, if_neg (by omega)]
    · rw [mI_ne (by omega), mI_R, mI_R, rI, if_neg (by omega)]
    · rw [mR_I, mR_ne (by omega), mR_ne (by omega), rR, if_neg (by omega)]
  · obtain ⟨hy, hmy⟩ := hyy q
    rw [if_neg q, if_neg (by omega), gd_t, hG3.nd hy, gd_t, gd_t, gd_t, gd_t, e8, wr_s (by omega), cV_s]
    refine ⟨_, rfl, ((hG3.ofR (nd_mtb hy (by decide))).ofR (nd_mtb hk (by decide))).fj (Fj.ofI (S := fun _ _ => True) trivial), ⟨r1, fun a j h => ?_, fun a j h => ?_⟩, ⟨fun j h1 h2 => ?_, mI_at⟩, ⟨⟨?_, ?_⟩, ⟨?_, ?_⟩, ?_⟩, ⟨?_, ?_⟩, fun h => ?_, ?_, fun a h1 h2 j => ?_, fun j => ?_, fun j => ?_⟩
    · unfold adR at h
      rw [mR_I, mR_ne (by omega), mR_ne (by omega), rR, if_neg (by omega)]
    · unfold adS at h
      rw [mI_ne (by omega), mI_R, mI_R, rI, if_neg (by omega)]
    · rw [mI_ne (by omega), mI_R, mI_R, rI, if_pos ⟨rfl, h1, h2⟩]
    · rw [mR_I, mR_ne (by omega), mR_ne (by omega), rR]; simp
    · rw [mR_I, mR_ne (by omega), mR_ne (by omega), rR]; simp
    · rw [mR_I, mR_ne (by omega), mR_ne (by omega), rR]; simp
    · rw [mR_I, mR_ne (by omega), mR_ne (by omega), rR]; simp
    · rw [mR_I, mR_ne (by omega), mR_ne (by omega), rR]; simp
    · rw [mR_I, mR_at]
    · rw [mR_I, mR_ne (by omega), mR_ne (by omega), rR, if_neg (by omega), if_neg q]
    · rw [mR_I, mR_ne (by omega), mR_at]
    · rw [mI_ne (by omega), mI_R, mI_R, rI, if_neg (by omega)]
    · rw [mI_ne (by omega), mI_R, mI_R, rI, if_neg (by omega)]
    · rw [mI_ne (by omega), mI_R, mI_R, rI, if_neg (by omega)]
    · rw [mR_I, mR_ne (by omega), mR_ne (by omega), rR, if_neg (by omega)]
end BEGIN

/-! ===== the start: memory while it is made ===== -/
theorem mN_n {M : Mem} {h : HE} {s : Nat} : mN (nwC M h s) = mN M + 1 := rfl
theorem mN_I {M : Mem} {a k : Nat} {v : Int} : mN (stI M a k v) = mN M := rfl
theorem mN_R {M : Mem} {a k v : Nat} : mN (stR M a k v) = mN M := rfl
theorem mH_n {M : Mem} {h : HE} {s b : Nat} : mH (nwC M h s) b = if b = mN M then h else mH M b := rfl
theorem mI_n {M : Mem} {h : HE} {s b j : Nat} : mI (nwC M h s) b j = if b = mN M then 0 else mI M b j := rfl
theorem mR_n {M : Mem} {h : HE} {s b j : Nat} : mR (nwC M h s) b j = if b = mN M then 0 else mR M b j := rfl
theorem gO_I {M : Mem} {a k b c : Nat} {v : Int} : gO (stI M a k v) b c = gO M b c := rfl
theorem gO_R {M : Mem} {a k v b c : Nat} : gO (stR M a k v) b c = gO M b c := rfl
theorem gO_of {M : Mem} {a c : Nat} (h1 : 2 ≤ a) (h2 : a < mN M) (h3 : mH M a = .inl c) : gO M a c = true := by
  unfold gO
  rw [Nat.ble_eq_true_of_le h1, show Nat.blt a (mN M) = true from Nat.ble_eq_true_of_le h2, decide_eq_true h3]
  rfl
theorem gO_to {M : Mem} {a c : Nat} (h : gO M a c = true) : 2 ≤ a ∧ a < mN M ∧ mH M a = .inl c := by
  unfold gO at h
  simp only [Bool.and_eq_true, decide_eq_true_eq] at h
  exact ⟨Nat.le_of_ble_eq_true h.1, Nat.le_of_ble_eq_true h.2.1, h.2.2⟩
theorem gO_n {M : Mem} {h : HE} {s a c : Nat} (g : gO M a c = true) : gO (nwC M h s) a c = true := by
  obtain ⟨g1, g2, g3⟩ := gO_to g
  exact gO_of g1 (by rw [mN_n]; omega) (by rw [mH_n, if_neg (by omega)]; exact g3)
theorem gO_w {M : Mem} {s c : Nat} (g : 2 ≤ mN M) : gO (nwC M (.inl c) s) (mN M) c = true := gO_of g (by rw [mN_n]; omega) (by rw [mH_n, if_pos rfl])
def izS : List (Nat × Nat × Int) := [(3, 4, 0), (9, 2, 0), (21, 9, 0), (759, 1, 1), (760, 0, 50331648), (761, 1, 1), (762, 0, 50331648), (763, 1, 1), (764, 0, 50331648), (765, 1, 1), (766, 0, 50331648), (767, 1, 1), (768, 0, 50331648)]
/-- what an object holds when it is made -/
def OKc (M : Mem) (a : Nat) : Prop := ((HT a = .inl 2 → mR M a 0 = a + 1 ∧ ((∀ q ∈ izS, q.1 ≠ a) → mI M a 1 = 0)) ∧ (HT a = .inl 1 → (mR M a 0 = a + 1 ∧ mR M a 1 = a + 2) ∧ mI M a 2 = 0) ∧ (HT a = .inl 4 → mR M a 0 = a + 1 ∧ mR M a 1 = a + 3 ∧ mR M a 2 = a + 4) ∧ (HT a = .inl 5 → mR M a 0 = a + 1 ∧ mI M a 1 = 0) ∧ (HT a = .inr (4, 40) → ∀ i, i < 40 → mR M a i = a + 1 + 4 * i) ∧ (HT a = .inl 0 → (mR M a 0 = a + 1 ∧ mR M a 1 = a + 2 ∧ mR M a 2 = a + 3) ∧ mI M a 3 = 0)) ∧ (∀ q ∈ irS, q.1 = a → mR M a q.2.1 = q.2.2) ∧ (∀ q ∈ izS, q.1 = a → mI M a q.2.1 = q.2.2) ∧ (a = 28 → ∀ i, i < 120 → mR M a i = 30 + 6 * i)
theorem OKc.ext {M M' : Mem} {a : Nat} (h : OKc M a) (e : ∀ j, mI M' a j = mI M a j ∧ mR M' a j = mR M a j) : OKc M' a := by
  obtain ⟨⟨h1, h2, h3, h4, h5, h6⟩, h7, h8, h9⟩ := h
  refine ⟨⟨fun q => ?_, fun q => ?_, fun q => ?_, fun q => ?_, fun q i hi => ?_, fun q => ?_⟩, fun q m e1 => ?_, fun q m e1 => ?_, fun q i hi => ?_⟩
  · rw [(e 0).2, (e 1).1]; exact h1 q
  · rw [(e 0).2, (e 1).2, (e 2).1]; exact h2 q
  · rw [(e 0).2, (e 1).2, (e 2).2]; exact h3 q
  · rw [(e 0).2, (e 1).1]; exact h4 q
  · rw [(e i).2]; exact h5 q i hi
  · rw [(e 0).2, (e 1).2, (e 2).2, (e 3).1]; exact h6 q
  · rw [(e _).2]; exact h7 q m e1
  · rw [(e _).1]; exact h8 q m e1
  · rw [(e i).2]; exact h9 q i hi
/-- nothing is asked of it apart -/
def spc (a : Nat) : Bool := irS.any (fun q => q.1 == a) || (izS.any (fun q => q.1 == a) || a == 28)
theorem spc_no {a : Nat} (h : spc a = false) : (∀ q ∈ irS, q.1 ≠ a) ∧ (∀ q ∈ izS, q.1 ≠ a) ∧ a ≠ 28 := by
  unfold spc at h
  simp only [Bool.or_eq_false_iff, List.any_eq_false, beq_iff_eq] at h
  exact ⟨h.1, h.2.1, by have := h.2.2; simpa using this⟩
theorem spc_in {a : Nat} (h : (30 ≤ a ∧ a < 750) ∨ (773 ≤ a ∧ a < 1269)) : spc a = false := by
  have h1 : ∀ q ∈ irS, q.1 < 30 ∨ (750 ≤ q.1 ∧ q.1 < 773) := by decide
  have h2 : ∀ q ∈ izS, q.1 < 30 ∨ (750 ≤ q.1 ∧ q.1 < 773) := by decide
  unfold spc
  simp only [Bool.or_eq_false_iff, List.any_eq_false, beq_iff_eq]
  refine ⟨fun q hq => ?_, fun q hq => ?_, ?_⟩
  · have := h1 q hq; omega
  · have := h2 q hq; omega
  · have : a ≠ 28 := by omega
    simpa using this
def SB (L : Nat) (xs : Nat → Int) (X : List Nat) (n s : Nat) (M : Mem) : Prop := (mN M = n ∧ mS M = s ∧ 2 ≤ n) ∧ (∀ b, 2 ≤ b → b < n → mH M b = HT b) ∧ (∀ b, 2 ≤ b → b < n → b ∉ X → OKc M b) ∧ mH M 1 = .inr (9, L) ∧ ∀ k, mI M 1 k = if k < L then xs k else 0
/-- cells that stay -/
def Kp (n : Nat) (M M' : Mem) : Prop := ∀ b, b < n → ∀ j, mI M' b j = mI M b j ∧ mR M' b j = mR M b j
theorem Kp.refl {n : Nat} {M : Mem} : Kp n M M := fun _ _ _ => ⟨rfl, rfl⟩
theorem Kp.trans {n m : Nat} {M M1 M2 : Mem} (h : Kp n M M1) (g : Kp m M1 M2) (hm : n ≤ m) : Kp n M M2 := fun b hb j => ⟨(g b (by omega) j).1.trans (h b hb j).1, (g b (by omega) j).2.trans (h b hb j).2⟩
theorem Kp.le {n m : Nat} {M M1 : Mem} (h : Kp n M M1) (hm : m ≤ n) : Kp m M M1 := fun b hb j => h b (by omega) j
section START
variable {L : Nat} {xs : Nat → Int} {X : List Nat} {n s : Nat} {M : Mem}
theorem Kp.nw (hn : mN M = n) {h : HE} {sl : Nat} : Kp n M (nwC M h sl) := fun b hb j => ⟨by rw [mI_n, if_neg (by omega)], by rw [mR_n, if_neg (by omega)]⟩
theorem Kp.sR {a k v : Nat} (h : n ≤ a) : Kp n M (stR M a k v) := fun b hb j => ⟨rfl, by rw [mR_if, if_neg (by omega)]⟩
theorem Kp.sI {a k : Nat} {v : Int} (h : n ≤ a) : Kp n M (stI M a k v) := fun b hb j => ⟨by rw [mI_if, if_neg (by omega)], rfl⟩
theorem SB.nw (h : SB L xs X n s M) {hh : HE} {sl : Nat} (hH : HT n = hh) (hx : n ∈ X ∨ OKc (nwC M hh sl) n) : SB L xs X (n + 1) (s + sl) (nwC M hh sl) := by
  obtain ⟨⟨h1, h2, h3⟩, h4, h5, h6, h7⟩ := h
  refine ⟨⟨by rw [mN_n, h1], by show mS M + sl = _; rw [h2], by omega⟩, fun b b1 b2 => ?_, fun b b1 b2 b3 => ?_, by rw [mH_n, if_neg (by omega)]; exact h6, fun k => by rw [mI_n, if_neg (by omega)]; exact h7 k⟩
  · rw [mH_n, h1]
    by_cases q : b = n
    · rw [if_pos q, q, hH]
    · rw [if_neg q]; exact h4 b b1 (by omega)
  · by_cases q : b = n
    · subst q; exact hx.resolve_left b3
    · exact (h5 b b1 (by omega) b3).ext fun j => Kp.nw h1 b (by omega) j
theorem SB.sR (h : SB L xs X n s M) {a k v : Nat} (ha : a ∈ X) (h2 : 2 ≤ a) : SB L xs X n s (stR M a k v) := by
  obtain ⟨h1, h4, h5, h6, h7⟩ := h
  exact ⟨h1, h4, fun b b1 b2 b3 => (h5 b b1 b2 b3).ext fun j => ⟨rfl, by rw [mR_if, if_neg (fun q => b3 (by rw [q.1]; exact ha))]⟩, h6, h7⟩
theorem SB.sI (h : SB L xs X n s M) {a k : Nat} {v : Int} (ha : a ∈ X) (h2 : 2 ≤ a) : SB L xs X n s (stI M a k v) := by
  obtain ⟨h1, h4, h5, h6, h7⟩ := h
  exact ⟨h1, h4, fun b b1 b2 b3 => (h5 b b1 b2 b3).ext fun j => ⟨by rw [mI_if, if_neg (fun q => b3 (by rw [q.1]; exact ha))], rfl⟩, h6, fun k => by rw [mI_if, if_neg (by omega)]; exact h7 k⟩
theorem SB.drop {a : Nat} (h : SB L xs (a :: X) n s M) (ho : OKc M a) : SB L xs X n s M := by
  obtain ⟨h1, h4, h5, h6⟩ := h
  refine ⟨h1, h4, fun b b1 b2 b3 => ?_, h6⟩
  by_cases q : b = a
  · rw [q]; exact ho
  · exact h5 b b1 b2 (fun m => (List.mem_cons.mp m).elim q b3)
theorem SB.more {a : Nat} (h : SB L xs X n s M) : SB L xs (a :: X) n s M := by
  obtain ⟨h1, h4, h5, h6⟩ := h
  exact ⟨h1, h4, fun b b1 b2 b3 => h5 b b1 b2 fun m => b3 (List.mem_cons_of_mem _ m), h6⟩
theorem SB.gO (h : SB L xs X n s M) {a c : Nat} (h2 : 2 ≤ a) (hn : a < n) (hH : HT a = .inl c) : gO M a c = true := gO_of h2 (by rw [h.1.1]; exact hn) (by rw [h.2.1 a h2 hn]; exact hH)
theorem OKc_arr {a k m : Nat} (hH : HT a = .inr (k, m)) (hs : spc a = false) (hk : k ≠ 4) : OKc M a := by
  obtain ⟨s1, s2, s3⟩ := spc_no hs
  rw [OKc, hH]
  refine ⟨⟨fun q => (by cases q), fun q => (by cases q), fun q => (by cases q), fun q => (by cases q), fun q => ?_, fun q => (by cases q)⟩, fun q m e => absurd e (s1 q m), fun q m e => absurd e (s2 q m), fun q => absurd q s3⟩
  cases q
  exact absurd rfl hk
theorem SB.arr (h : SB L xs X n s M) {k m sl : Nat} (hH : HT n = .inr (k, m)) (hs : spc n = false) (hk : k ≠ 4) : SB L xs X (n + 1) (s + sl) (nwC M (.inr (k, m)) sl) := h.nw hH (Or.inr (OKc_arr hH hs hk))
theorem Ex_init_s {e m : Nat} (h : SB L xs X (e + 1) s M) (h2 : 2 ≤ e) (hX : e ∈ X) (hE : HT e = .inl 2) (hA : HT (e + 1) = .inr (0, m)) (hm : 1 < m ∧ m ≤ 100000) (hs : e + 1 ∈ X ∨ spc (e + 1) = false) : ∃ M', Ex_init e (m : Int) M = some (none, M') ∧ SB L xs X (e + 2) (s + m) M' ∧ (mR M' e 0 = e + 1 ∧ mI M' e 1 = 0) ∧ Kp e M M' := by
  have hN := h.1.1
  have g := h.gO h2 (by omega) hE
  have h3 : SB L xs X (e + 2) (s + m) (nwC M (.inr (0, m)) m) := h.nw hA (by
    rcases hs with q | q
    · exact Or.inl q
    · exact Or.inr (OKc_arr hA q (by decide)))
  refine ⟨stI (stR (nwC M (.inr (0, m)) m) e 0 (e + 1)) e 1 0, ?_, (h3.sR hX h2).sI hX h2, ⟨?_, mI_at⟩, ?_⟩
  · rw [Ex_init_eq, if_pos (by omega), toNat_n, show Nat.blt 0 e = true from Nat.ble_eq_true_of_le (by omega), gd_t, decide_eq_true (by omega), gd_t, gO_n g, gd_t, gd_t, hN]
  · rw [mR_I, mR_at]
  · exact ((Kp.nw (by rw [hN] : mN M = e + 1)).le (by omega) |>.trans (Kp.sR (n := e) (Nat.le_refl _)) (Nat.le_refl _)).trans (Kp.sI (n := e) (Nat.le_refl _)) (Nat.le_refl _)
theorem newE {e m : Nat} (h : SB L xs X e s M) (h2 : 2 ≤ e) (hE : HT e = .inl 2) (hA : HT (e + 1) = .inr (0, m)) (hm : 1 < m ∧ m ≤ 100000) (hs : spc e = false ∧ spc (e + 1) = false) : ∃ M', Ex_init e (m : Int) (nwC M (.inl 2) 2) = some (none, M') ∧ SB L xs X (e + 2) (s + 2 + m) M' ∧ Kp e M M' := by
  have h1 : SB L xs (e :: X) (e + 1) (s + 2) (nwC M (.inl 2) 2) := h.more.nw hE (Or.inl (by simp))
  obtain ⟨M', a1, a2, ⟨a3, a4⟩, a5⟩ := Ex_init_s h1 h2 (by simp) hE hA hm (Or.inr hs.2)
  obtain ⟨s1, s2, s3⟩ := spc_no hs.1
  refine ⟨M', a1, a2.drop ?_, (Kp.nw h.1.1).trans a5 (Nat.le_refl _)⟩
  rw [OKc, hE]
  exact ⟨⟨fun _ => ⟨a3, fun _ => a4⟩, fun q => (by cases q), fun q => (by cases q), fun q => (by cases q), fun q => (by cases q), fun q => (by cases q)⟩, fun q m e => absurd e (s1 q m), fun q m e => absurd e (s2 q m), fun q => absurd q s3⟩
theorem newC {c : Nat} (h : SB L xs X c s M) (h2 : 2 ≤ c) (hC : isC c) (hs : 773 ≤ c ∧ c + 3 < 1259) : ∃ M', Cl_init c (nwC M (.inl 1) 5) = some (none, M') ∧ SB L xs X (c + 4) (s + 118) M' ∧ Kp c M M' := by
  have hN := h.1.1
  obtain ⟨⟨-, -, c1⟩, ⟨-, -, c2⟩, ⟨⟨-, -, c3⟩, ⟨-, -, c4⟩, -⟩⟩ := hC
  have h1 : SB L xs (c :: X) (c + 1) (s + 5) (nwC M (.inl 1) 5) := h.more.nw c1 (Or.inl (by simp))
  have h3 : SB L xs (c :: X) (c + 2) (s + 5 + 11) (nwC (nwC M (.inl 1) 5) (.inr (0, 11)) 11) := h1.arr c2 (spc_in (by omega)) (by decide)
  have h4 : SB L xs (c :: X) (c + 2) (s + 5 + 11) (stR (nwC (nwC M (.inl 1) 5) (.inr (0, 11)) 11) c 0 (c + 1)) := h3.sR (by simp) h2
  obtain ⟨M1, a1, a2, a3⟩ := newE (e := c + 2) (m := 100) h4 (by omega) c3 c4 (by decide) ⟨spc_in (by omega), spc_in (by omega)⟩
  have a1 : Ex_init (c + 1 + 1) 100 _ = _ := a1
  have g := a2.gO h2 (by omega) c1
  have g0 : gO (nwC (nwC M (.inl 1) 5) (.inr (0, 11)) 11) c 1 = true := h3.gO h2 (by omega) c1
  have g1 : gO (nwC (nwC (nwC M (.inl 1) 5) (.inr (0, 11)) 11) (.inl 2) 2) (c + 2) 2 = true := gO_of (by omega) (by rw [mN_n, mN_n, mN_n, hN]; omega) (by rw [mH_n, mN_n, mN_n, hN, if_pos rfl])
  have hF : SB L xs (c :: X) (c + 4) (s + 5 + 11 + 2 + 100) (stI (stI (stI (stR M1 c 1 (c + 2)) c 2 0) c 3 (-1)) c 4 (-1)) := (((a2.sR (by simp) h2).sI (by simp) h2).sI (by simp) h2).sI (by simp) h2
  have e0 : mR M1 c 0 = c + 1 := by
    rw [(a3 c (by omega) 0).2, mR_at]
  refine ⟨_, ?_, hF.drop ?_, ?_⟩
  · rw [Cl_init_eq, mN_n, mN_n, hN, show Nat.blt 0 c = true from Nat.ble_eq_true_of_le (by omega), gd_t, g0, gd_t, g1, gd_t, a1, cV_s, g, gd_t, gd_t, gd_t, gd_t]
  · obtain ⟨s1, s2, s3⟩ := spc_no (spc_in (a := c) (by omega))
    rw [OKc, c1]
    refine ⟨⟨fun q => (by cases q), fun _ => ⟨⟨?_, ?_⟩, ?_⟩, fun q => (by cases q), fun q => (by cases q), fun q => (by cases q), fun q => (by cases q)⟩, fun q m e => absurd e (s1 q m), fun q m e => absurd e (s2 q m), fun q => absurd q s3⟩
    · rw [mR_I, mR_I, mR_I, mR_ne (by omega), e0]
    · rw [mR_I, mR_I, mR_I, mR_at]
    · rw [mI_ne (by omega), mI_ne (by omega), mI_at]
  · refine (((((((Kp.nw hN).trans ((Kp.nw (n := c + 1) (by rw [mN_n, hN])).le (Nat.le_succ c)) (Nat.le_refl _)).trans (Kp.sR (n := c) (Nat.le_refl _)) (Nat.le_refl _)).trans a3 (by omega)).trans (Kp.sR (n := c) (Nat.le_refl _)) (Nat.le_refl _)).trans (Kp.sI (n := c) (Nat.le_refl _)) (Nat.le_refl _)).trans (Kp.sI (n := c) (Nat.le_refl _)) (Nat.le_refl _)).trans (Kp.sI (n := c) (Nat.le_refl _)) (Nat.le_refl _)
theorem Pr_loop {P : Nat} (hP : isP P) (hr : 773 ≤ P ∧ P + 162 ≤ 1259) : ∀ (t i : Nat) (s : Nat) (M : Mem), 40 - i = t → i ≤ 40 → SB L xs (P :: (P + 1) :: X) (P + 2 + 4 * i) s M → mR M P 0 = P + 1 → (∀ j, j < i → mR M (P + 1) j = P + 2 + 4 * j) → ∃ M', Pr_init_15 P (i : Int) M = some (none, M') ∧ SB L xs (P :: (P + 1) :: X) (P + 162) (s + 118 * t) M' ∧ (mR M' P 0 = P + 1 ∧ mI M' P 1 = 0) ∧ (∀ j, j < 40 → mR M' (P + 1) j = P + 2 + 4 * j) ∧ Kp P M M' := by
  obtain ⟨⟨-, -, p1⟩, ⟨-, -, p2⟩, p3⟩ := hP
  intro t
  induction t with
  | zero =>
    intro i s M h1 h2 h e0 e1
    have hi : i = 40 := by omega
    subst hi
    refine ⟨stI M P 1 0, ?_, h.sI (by simp) (by omega), ⟨e0, mI_at⟩, e1, Kp.sI (Nat.le_refl _)⟩
    rw [Pr_init_15_eq, if_neg (by decide), h.gO (by omega) (by omega) p1, gd_t]
  | succ t ih =>
    intro i s M h1 h2 h e0 e1
    have hN := h.1.1
    obtain ⟨M1, a1, a2, a3⟩ := newC h (by omega) (p3 i (by omega)) (by omega)
    have hc := p3 i (by omega)
    have e0' : mR M1 P 0 = P + 1 := by rw [(a3 P (by omega) 0).2, e0]
    have h3 : SB L xs (P :: (P + 1) :: X) (P + 2 + 4 * (i + 1)) (s + 118) (stR M1 (P + 1) i (P + 2 + 4 * i)) := (a2.sR (by simp) (by omega))
    obtain ⟨M', b1, b2, b3, b4, b5⟩ := ih (i + 1) (s + 118) _ (by omega) (by omega) h3 (by rw [mR_ne (by omega)]; exact e0') (fun j hj => by
      by_cases q : j = i
      · rw [q, mR_at]
      · rw [mR_ne (by omega), (a3 _ (by omega) j).2]
        exact e1 j (by omega))
    refine ⟨M', ?_, by rw [show s + 118 * (t + 1) = s + 118 + 118 * t by omega]; exact b2, b3, b4, ((a3.le (by omega)).trans (Kp.sR (n := P) (by omega)) (Nat.le_refl _)).trans b5 (Nat.le_refl _)⟩
    have g2 : gS M1 (P + 1) 4 (i : Int) = true := by
      have q : mH M1 (P + 1) = .inr (4, 40) := by rw [a2.2.1 _ (by omega) (by omega)]; exact p2
      unfold gS akd alen
      rw [q, a2.1.1, Nat.ble_eq_true_of_le (by omega : 2 ≤ P + 1), show Nat.blt (P + 1) (P + 2 + 4 * i + 4) = true from Nat.ble_eq_true_of_le (by omega)]
      show (true && (true && (Nat.beq 4 4 && decide (0 ≤ (i : Int) ∧ (i : Int) < ((40 : Nat) : Int))))) = true
      rw [decide_eq_true (by omega)]
      rfl
    have g1 : gO M1 (P + 2 + 4 * i) 1 = true := a2.gO (by omega) (by omega) hc.1.2.2
    have gn : gO (nwC M (.inl 1) 5) (P + 2 + 4 * i) 1 = true := by
      have := gO_w (M := M) (s := 5) (c := 1) (by omega)
      rw [hN] at this
      exact this
    rw [Pr_init_15_eq, if_pos (by omega), h.gO (by omega) (by omega) p1, gd_t, hN, gn, gd_t, a1, cV_s, e0, g2, g1, Bool.true_and, Bool.true_or, Bool.or_true, gd_t, wr_s (by omega), toNat_n, b1]
theorem newP {P : Nat} (h : SB L xs X P s M) (hP : isP P) (hr : 773 ≤ P ∧ P + 162 ≤ 1259) : ∃ M', Pr_init P (nwC M (.inl 5) 2) = some (none, M') ∧ SB L xs X (P + 162) (s + 4762) M' ∧ Kp P M M' := by
  have hN := h.1.1
  have hP' := hP
  obtain ⟨⟨-, -, p1⟩, ⟨-, -, p2⟩, p3⟩ := hP
  have h1 : SB L xs (P :: (P + 1) :: X) (P + 1) (s + 2) (nwC M (.inl 5) 2) := (h.more (a := P + 1)).more.nw p1 (Or.inl (by simp))
  have h3 : SB L xs (P :: (P + 1) :: X) (P + 2) (s + 2 + 40) (nwC (nwC M (.inl 5) 2) (.inr (4, 40)) 40) := h1.nw p2 (Or.inl (by simp))
  have h4 : SB L xs (P :: (P + 1) :: X) (P + 2) (s + 2 + 40) (stR (nwC (nwC M (.inl 5) 2) (.inr (4, 40)) 40) P 0 (P + 1)) := h3.sR (by simp) (by omega)
  obtain ⟨M', b1, b2, ⟨b3, b3'⟩, b4, b5⟩ := Pr_loop hP' hr 40 0 _ _ rfl (by omega) h4 mR_at (fun j hj => absurd hj (Nat.not_lt_zero j))
  have b1 : Pr_init_15 P 0 _ = _ := b1
  have k1 := Kp.nw (M := M) hN (h := .inl 5) (sl := 2)
  have k2 := (Kp.nw (M := nwC M (.inl 5) 2) (n := P + 1) (by rw [mN_n, hN]) (h := .inr (4, 40)) (sl := 40)).le (Nat.le_succ P)
  have b2 := b2.drop (by
    obtain ⟨s1, s2, s3⟩ := spc_no (spc_in (a := P) (by omega))
    rw [OKc, p1]
    exact ⟨⟨fun q => (by cases q), fun q => (by cases q), fun q => (by cases q), fun _ => ⟨b3, b3'⟩, fun q => (by cases q), fun q => (by cases q)⟩, fun q m e => absurd e (s1 q m), fun q m e => absurd e (s2 q m), fun q => absurd q s3⟩)
  have b2 := b2.drop (by
    obtain ⟨s1, s2, s3⟩ := spc_no (spc_in (a := P + 1) (by omega))
    rw [OKc, p2]
    exact ⟨⟨fun q => (by cases q), fun q => (by cases q), fun q => (by cases q), fun q => (by cases q), fun _ i hi => by rw [b4 i hi], fun q => (by cases q)⟩, fun q m e => absurd e (s1 q m), fun q m e => absurd e (s2 q m), fun q => absurd q s3⟩)
  refine ⟨M', ?_, b2, ((k1.trans k2 (Nat.le_refl _)).trans (Kp.sR (n := P) (Nat.le_refl _)) (Nat.le_refl _)).trans b5 (Nat.le_refl _)⟩
  rw [Pr_init_eq, mN_n, hN, show Nat.blt 0 P = true from Nat.ble_eq_true_of_le (by omega), gd_t, h3.gO (by omega) (by omega) p1, gd_t, b1]
theorem newB {b : Nat} (h : SB L xs X b s M) (hB : isB b) (hr : 773 ≤ b ∧ b + 5 ≤ 1269) : ∃ M', Bo_init b (nwC M (.inl 0) 4) = some (none, M') ∧ SB L xs X (b + 5) (s + 1206) M' ∧ Kp b M M' := by
  have hN := h.1.1
  obtain ⟨⟨-, -, b1⟩, ⟨⟨-, -, b2⟩, ⟨-, -, b3⟩⟩, ⟨⟨-, -, b4⟩, ⟨-, -, b5⟩, -⟩⟩ := hB
  have h1 : SB L xs (b :: X) (b + 1) (s + 4) (nwC M (.inl 0) 4) := h.more.nw b1 (Or.inl (by simp))
  have h2 := h1.arr (sl := 200) b2 (spc_in (by omega)) (by decide)
  have h2' : SB L xs (b :: X) (b + 2) (s + 4 + 200) (stR (nwC (nwC M (.inl 0) 4) (.inr (0, 200)) 200) b 0 (b + 1)) := h2.sR (by simp) (by omega)
  have h3 := h2'.arr (sl := 200) b3 (spc_in (by omega)) (by decide)
  have h3' : SB L xs (b :: X) (b + 3) (s + 4 + 200 + 200) (stR (nwC (stR (nwC (nwC M (.inl 0) 4) (.inr (0, 200)) 200) b 0 (b + 1)) (.inr (0, 200)) 200) b 1 (b + 2)) := h3.sR (by simp) (by omega)
  obtain ⟨M1, a1, a2, a3⟩ := newE (e := b + 3) (m := 800) h3' (by omega) b4 b5 (by decide) ⟨spc_in (by omega), spc_in (by omega)⟩
  have a1 : Ex_init (b + 1 + 1 + 1) 800 _ = _ := a1
  have g := a2.gO (by omega) (by omega) b1
  have g0 : gO (nwC M (.inl 0) 4) b 0 = true := h1.gO (by omega) (by omega) b1
  have g3 : gO (nwC (nwC (nwC (nwC M (.inl 0) 4) (.inr (0, 200)) 200) (.inr (0, 200)) 200) (.inl 2) 2) (b + 1 + 1 + 1) 2 = true := by
    have := gO_w (M := (nwC (nwC (nwC M (.inl 0) 4) (.inr (0, 200)) 200) (.inr (0, 200)) 200)) (s := 2) (c := 2) (by rw [mN_n, mN_n, mN_n, hN]; omega)
    rw [mN_n, mN_n, mN_n, hN] at this
    exact this
  have e0 : mR M1 b 0 = b + 1 ∧ mR M1 b 1 = b + 2 := by
    rw [(a3 b (by omega) 0).2, (a3 b (by omega) 1).2, mR_at, mR_ne (by omega), mR_n, mN_R, mN_n, mN_n, hN, if_neg (by omega), mR_at]
    exact ⟨rfl, rfl⟩
  refine ⟨stI (stR M1 b 2 (b + 3)) b 3 0, ?_, ((a2.sR (by simp) (by omega)).sI (by simp) (by omega)).drop ?_, ?_⟩
  · rw [Bo_init_eq, mN_n, mN_n, mN_n, hN, show Nat.blt 0 b = true from Nat.ble_eq_true_of_le (by omega), gd_t, gO_n g0, gd_t, gO_n (gO_n g0), gd_t, g3, gd_t, a1, cV_s, g, gd_t, gd_t]
  · obtain ⟨s1, s2, s3⟩ := spc_no (spc_in (a := b) (by omega))
    rw [OKc, b1]
    refine ⟨⟨fun q => (by cases q), fun q => (by cases q), fun q => (by cases q), fun q => (by cases q), fun q => (by cases q), fun _ => ⟨⟨?_, ?_, ?_⟩, mI_at⟩⟩, fun q m e => absurd e (s1 q m), fun q m e => absurd e (s2 q m), fun q => absurd q s3⟩
    · rw [mR_I, mR_ne (by omega), e0.1]
    · rw [mR_I, mR_ne (by omega), e0.2]
    · rw [mR_I, mR_at]
  · refine ((((((Kp.nw hN).trans ((Kp.nw (n := b + 1) (by rw [mN_n, hN])).le (Nat.le_succ b)) (Nat.le_refl _)).trans (Kp.sR (n := b) (Nat.le_refl _)) (Nat.le_refl _)).trans ((Kp.nw (n := b + 2) (by rw [mN_R, mN_n, mN_n, hN])).le (by omega)) (Nat.le_refl _)).trans (Kp.sR (n := b) (Nat.le_refl _)) (Nat.le_refl _)).trans a3 (by omega)).trans ?_ (Nat.le_refl _)
    exact (Kp.sR (n := b) (Nat.le_refl _)).trans (Kp.sI (n := b) (Nat.le_refl _)) (Nat.le_refl _)
end START

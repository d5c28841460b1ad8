/-! ===== how many are open in what a run ends with ===== -/
def clI : Nat → List Nat → List Nat
  | 0, st => st
  | n + 1, st => clI n (clU st)
/-- what is open behind a row -/
def stk : List Int → List Nat → List Nat
  | [], st => st
  | c :: xs, st => stk xs (if 0 < arN c then arN c :: st else clU st)
theorem clI_add : ∀ (a b : Nat) (st : List Nat), clI (a + b) st = clI b (clI a st) := by
  intro a
  induction a with
  | zero => intro b st; rw [Nat.zero_add]; rfl
  | succ a ih => intro b st; rw [Nat.succ_add]; exact ih b (clU st)
theorem clI_push : ∀ (a : Nat) (st : List Nat), clI (a + 1) ((a + 1) :: st) = clU st := by
  intro a
  induction a with
  | zero => intro st; show clU (1 :: st) = clU st; conv => lhs; unfold clU; rw [if_neg (by decide)]
  | succ a ih =>
    intro st
    show clI (a + 1) (clU ((a + 1 + 1) :: st)) = clU st
    rw [show clU ((a + 1 + 1) :: st) = (a + 1) :: st by unfold clU; rw [if_pos (by omega)]; rfl]
    exact ih st
theorem stk_wf : ∀ (xs : List Int) (w : Nat) (st : List Nat), wf w xs → stk xs st = clI w st := by
  intro xs
  induction xs with
  | nil => intro w st h; rw [wf_nil] at h; subst h; rfl
  | cons c xs ih =>
    intro w st h
    obtain ⟨v, rfl, h2⟩ := wf_pos h
    unfold stk
    by_cases h0 : 0 < arN c
    · rw [if_pos h0, ih _ _ h2, Nat.add_comm v (arN c), clI_add]
      obtain ⟨a, ha⟩ : ∃ a, arN c = a + 1 := ⟨arN c - 1, by omega⟩
      rw [ha, clI_push]
      rfl
    · rw [if_neg h0, ih _ _ h2, show arN c = 0 by omega]
      rfl
theorem stk_len : ∀ (xs : List Int) (st : List Nat), (stk xs st).length ≤ st.length + xs.length := by
  intro xs
  induction xs with
  | nil => intro st; exact Nat.le_refl _
  | cons c xs ih =>
    intro st
    unfold stk
    split
    · have := ih (arN c :: st); simp only [List.length_cons] at this ⊢; omega
    · have := ih (clU st); have := clU_le st; simp only [List.length_cons]; omega
theorem stk_app : ∀ (xs ys : List Int) (st : List Nat), stk (xs ++ ys) st = stk ys (stk xs st) := by
  intro xs
  induction xs with
  | nil => intro ys st; rfl
  | cons c xs ih => intro ys st; exact ih ys _
theorem wok_app : ∀ (xs ys : List Int) (st : List Nat), wok xs st → wok ys (stk xs st) → wok (xs ++ ys) st := by
  intro xs
  induction xs with
  | nil => intro ys st _ h; exact h
  | cons c xs ih =>
    intro ys st h1 h2
    show wok (c :: (xs ++ ys)) st
    unfold wok at h1 ⊢
    unfold stk at h2
    by_cases h0 : 0 < arN c
    · rw [if_pos h0] at h1 h2 ⊢
      exact ⟨h1.1, ih _ _ h1.2 h2⟩
    · rw [if_neg h0] at h1 h2 ⊢
      exact ih _ _ h1 h2
theorem flat_wok {f : Int → List Int} {L : Nat} : ∀ (cs : List Int) (st : List Nat), (∀ c ∈ cs, f c = [c] ∨ (arN c = 0 ∧ wf 1 (f c) ∧ (f c).length ≤ L)) → st.length + cs.length + L ≤ 512 → wok (cs.flatMap f) st ∧ stk (cs.flatMap f) st = stk cs st := by
  intro cs
  induction cs with
  | nil => intro st _ _; exact ⟨trivial, rfl⟩
  | cons c cs ih =>
    intro st hf hl
    simp only [List.length_cons] at hl
    have hcl := clU_le st
    rw [List.flatMap_cons]
    rcases hf c (by simp) with e | ⟨e, h1, h2⟩
    · rw [e]
      show wok (c :: cs.flatMap f) st ∧ stk (c :: cs.flatMap f) st = stk (c :: cs) st
      unfold wok stk
      by_cases h0 : 0 < arN c
      · rw [if_pos h0, if_pos h0]
        obtain ⟨a1, a2⟩ := ih (arN c :: st) (fun d hd => hf d (List.mem_cons_of_mem _ hd)) (by simp only [List.length_cons]; omega)
        exact ⟨⟨by omega, a1⟩, a2⟩
      · rw [if_neg h0, if_neg h0]
        exact ih (clU st) (fun d hd => hf d (List.mem_cons_of_mem _ hd)) (by omega)
    · obtain ⟨a1, a2⟩ := ih (clU st) (fun d hd => hf d (List.mem_cons_of_mem _ hd)) (by omega)
      have hs : stk (f c) st = clU st := stk_wf _ _ _ h1
      refine ⟨wok_app _ _ _ (wok_len _ _ (by omega)) (by rw [hs]; exact a1), ?_⟩
      rw [stk_app, hs, a2]
      conv => rhs; unfold stk
      rw [if_neg (by omega)]
theorem stx_wok {xs : List Int} {at0 m : Nat} {z : Clz} (hl : xs.length ≤ 120) (hm : m ≤ 100) (hf : CLf xs at0 z) (hz : zok m z) : wok (stx z xs at0) [] := by
  have hr := hz.2.2.2.1.2.2
  have hat := hf.1.1
  have l1 := stk_len (xs.take at0) []
  have l2 : (xs.take at0).length ≤ 120 := by rw [List.length_take]; omega
  simp only [List.length_nil] at l1
  obtain ⟨w1, w2⟩ := flat_wok (f := put1 xs (st0 z at0) z.2.2.1) (L := 120) z.2.2.2 (stk (xs.take at0) []) (fun c hc => by
    rcases put1_cases (xs := xs) (at0 := at0) hz hc with e | ⟨e, j, hj, e2⟩
    · exact Or.inl e
    · refine Or.inr ⟨e, by rw [e2]; exact hf.part hz hj, ?_⟩
      rw [e2]
      unfold sub
      rw [List.length_take, List.length_drop]
      omega) (by omega)
  have l3 := stk_len z.2.2.2 (stk (xs.take at0) [])
  unfold stx
  refine wok_app _ _ _ (wok_len _ _ (by simp only [List.length_nil]; omega)) (wok_app _ _ _ w1 ?_)
  rw [w2]
  exact wok_len _ _ (by rw [List.length_drop]; omega)
theorem stx_len2 {xs : List Int} {at0 m : Nat} {z : Clz} (hl : xs.length ≤ 120) (hm : m ≤ 100) (hf : CLf xs at0 z) (hz : zok m z) : (stx z xs at0).length ≤ 12020 := by
  have hr := hz.2.2.2.1.2.2
  have hat := hf.1.1
  have h1 := flat_len (f := put1 xs (st0 z at0) z.2.2.1) (n := 119) z.2.2.2 (fun c hc => by
    rcases put1_cases (xs := xs) (at0 := at0) hz hc with e | ⟨-, j, -, e⟩
    · rw [e]; simp
    · rw [e]
      unfold sub
      rw [List.length_take, List.length_drop]
      unfold sts st0
      split <;> omega)
  have h2 := (hf.all hz).2.2
  unfold stx
  simp only [List.length_append, List.length_take, List.length_drop]
  have h3 := beh_gt hat
  omega
theorem stx_vlo {xs : List Int} {at0 m : Nat} {z : Clz} (hv : vlo xs) (hz : zok m z) : vlo (stx z xs at0) := fun c hc hk => by
  rcases stx_mem hz hc with h | h
  · exact hv c h hk
  · exact ((hz.2.2.2.2 c h).1 hk).1.2
theorem fll_vlo {bs : Bnd} (hb : bok bs) {xs : List Int} (hv : av xs) (ho : vlo xs) : vlo (fll bs xs) := fun d hd hk => by
  obtain ⟨c, hc, h2⟩ := List.mem_flatMap.mp hd
  rcases fil_cases hb (hv c hc) with e | ⟨-, q, hq, e2⟩
  · rw [e] at h2
    rw [List.mem_singleton.mp h2] at hk ⊢
    exact ho c hc hk
  · rw [e2] at h2
    have := ((hb.1 q hq).2.2 d h2).2 rfl
    omega
theorem fll_wok {bs : Bnd} (hb : bok bs) {xs : List Int} (hv : av xs) (hl : xs.length ≤ 100) : wok (fll bs xs) [] := (flat_wok (L := 40) xs [] (fun c hc => by
  rcases fil_cases hb (hv c hc) with e | ⟨e, q, hq, e2⟩
  · exact Or.inl e
  · exact Or.inr ⟨e, by rw [e2]; exact (hb.1 q hq).2.1.1, by rw [e2]; exact (hb.1 q hq).2.1.2.2⟩) (by simp only [List.length_nil]; omega)).1
/-- what can be written of a run's end -/
def rnk (xs : List Int) : Prop := (wf 1 xs ∧ av xs ∧ xs.length ≤ 12020) ∧ vlo xs ∧ wok xs []
theorem rnl_ok {zs : List Clz} (hz : zsk 100 zs) : ∀ (n : Nat) (xs : List Int) (st gr dp : Nat), rnk xs → rnk (rnl zs n xs st gr dp).1 := by
  intro n
  induction n with
  | zero => intro xs st gr dp h; exact h
  | succ n ih =>
    intro xs st gr dp h
    unfold rnl
    by_cases q : stO zs xs = 4
    · rw [if_pos q]
      obtain ⟨hl, h4⟩ := stO_4 q
      obtain ⟨z, z1, hf⟩ := nxt_clf h.1.1 h4
      have hzk := hz z (List.mem_of_getElem? z1)
      have hsz := stepZ_of z1
      refine ih _ _ _ _ ?_
      rw [hsz]
      exact ⟨⟨stx_wf h.1.1 hf hzk, stx_av h.1.2.1 hzk, stx_len2 hl (Nat.le_refl _) hf hzk⟩, stx_vlo h.2.1 hzk, stx_wok hl (Nat.le_refl _) hf hzk⟩
    · rw [if_neg q]; exact h
theorem run0_ok {zs : List Clz} {bs : Bnd} {xs : List Int} (hz : zsk 100 zs) (hb : bok bs) (hx : gok xs) : rnk (run0 zs bs xs).1 := by
  obtain ⟨⟨hw, hv, hl⟩, ho⟩ := hx
  exact rnl_ok hz 200 _ _ _ _ ⟨⟨fll_wf hb hw hv, fll_av hb hv, by have := fll_len hb hv; omega⟩, fll_vlo hb hv ho, fll_wok hb hv hl⟩

/-! ===== what nodes added below one are ===== -/
def newF (F : FT) (m : Nat) (k : Nat) (w : Int) (e : Kd3) : Prop := ((F m 4 = -1 ∧ F m 8 = 0) ∧ (F m 10 = -1 ∧ F m 14 = -1) ∧ (F m 11 = e.2.1 ∧ F m 12 = e.2.2)) ∧ (F m 15 = (k : Int) ∧ F m 5 = w) ∧ (F m 9 = -1 ∧ F m 13 = 0)
theorem TOK.line {T : TS} {k : Nat} (h : TOK T k) : ∃ A B, lnF T.2.1 = A ++ (k :: (kls T.2.1 k ++ B)) := by
  obtain ⟨A, B, n', c1, -, c3, -⟩ := pre_ctx (F := T.2.1) (G := T.2.1) 120 0 h.k.1 h.1.1.1 h.1.2.1 fun _ _ _ => ⟨rfl, rfl⟩
  have hk := h.k
  refine ⟨A, B, ?_⟩
  show pre T.2.1 120 0 = _
  rw [c1, pre_flat h.2.1.2 (by omega)]
  rfl
theorem app_cancel {A A' B B' : List Nat} {k : Nat} (h : A ++ (k :: B) = A' ++ (k :: B')) (h1 : k ∉ A) (h2 : k ∉ A') : A = A' ∧ B = B' := by
  induction A generalizing A' with
  | nil =>
    cases A' with
    | nil => injection h with _ h3; exact ⟨rfl, h3⟩
    | cons a A' => injection h with h3 _; exact absurd (by rw [h3]; simp) h2
  | cons a A ih =>
    cases A' with
    | nil => injection h with h3 _; exact absurd (by rw [h3]; simp) h1
    | cons a' A' =>
      injection h with h3 h4
      obtain ⟨g1, g2⟩ := ih h4 (fun q => h1 (List.mem_cons_of_mem _ q)) (fun q => h2 (List.mem_cons_of_mem _ q))
      exact ⟨by rw [h3, g1], g2⟩
theorem adL_spec {k : Nat} : ∀ (es : List Kd3) (T : TS), TOK T k → (∀ x ∈ es, wf 1 x.1 ∧ av x.1) → ∃ n, (n ≤ es.length ∧ ((adL k es T).1 = 0 → n = es.length)) ∧ (adL k es T).2.2.2 = T.2.2 + n ∧ (∀ A B, lnF T.2.1 = A ++ (k :: (kls T.2.1 k ++ B)) → lnF (adL k es T).2.2.1 = A ++ (k :: (kls T.2.1 k ++ (List.range' T.2.2 n ++ B)))) ∧ (∀ x, x < T.2.2 → (adL k es T).2.1 x = T.1 x ∧ ∀ f, ¬ (x = k ∧ (f = 8 ∨ f = 16)) → (adL k es T).2.2.1 x f = T.2.1 x f) ∧ (∀ j e, j < n → es[j]? = some e → (adL k es T).2.1 (T.2.2 + j) = e.1 ∧ newF (adL k es T).2.2.1 (T.2.2 + j) k (T.2.1 k 8 + (j : Int)) e) ∧ (adL k es T).2.2.1 k 8 = T.2.1 k 8 + (n : Int) ∧ (T.2.1 k 8 = 0 → 0 < n → (adL k es T).2.2.1 k 16 = (T.2.2 : Int)) ∧ (0 < T.2.1 k 8 → (adL k es T).2.2.1 k 16 = T.2.1 k 16) := by
  intro es
  induction es with
  | nil =>
    intro T hT _
    refine ⟨0, ⟨Nat.le_refl _, fun _ => rfl⟩, rfl, fun A B h => by rw [show List.range' T.2.2 0 = [] from rfl, List.nil_append]; exact h, fun x _ => ⟨rfl, fun _ _ => rfl⟩, fun j e hj => absurd hj (Nat.not_lt_zero j), by show T.2.1 k 8 = T.2.1 k 8 + 0; omega, fun _ q => absurd q (Nat.lt_irrefl 0), fun _ => rfl⟩
  | cons x es ih =>
    intro T hT hx
    have none0 : ∀ v : Int, v ≠ 0 → ∀ r : Int × TS, r = (v, T) → ∃ n, (n ≤ (x :: es).length ∧ (r.1 = 0 → n = (x :: es).length)) ∧ r.2.2.2 = T.2.2 + n ∧ (∀ A B, lnF T.2.1 = A ++ (k :: (kls T.2.1 k ++ B)) → lnF r.2.2.1 = A ++ (k :: (kls T.2.1 k ++ (List.range' T.2.2 n ++ B)))) ∧ (∀ y, y < T.2.2 → r.2.1 y = T.1 y ∧ ∀ f, ¬ (y = k ∧ (f = 8 ∨ f = 16)) → r.2.2.1 y f = T.2.1 y f) ∧ (∀ j e, j < n → (x :: es)[j]? = some e → r.2.1 (T.2.2 + j) = e.1 ∧ newF r.2.2.1 (T.2.2 + j) k (T.2.1 k 8 + (j : Int)) e) ∧ r.2.2.1 k 8 = T.2.1 k 8 + (n : Int) ∧ (T.2.1 k 8 = 0 → 0 < n → r.2.2.1 k 16 = (T.2.2 : Int)) ∧ (0 < T.2.1 k 8 → r.2.2.1 k 16 = T.2.1 k 16) := by
      intro v hv r hr
      subst hr
      refine ⟨0, ⟨Nat.zero_le _, fun q => absurd q hv⟩, rfl, fun A B h => by rw [show List.range' T.2.2 0 = [] from rfl, List.nil_append]; exact h, fun y _ => ⟨rfl, fun _ _ => rfl⟩, fun j e hj => absurd hj (Nat.not_lt_zero j), by show T.2.1 k 8 = T.2.1 k 8 + 0; omega, fun _ q => absurd q (Nat.lt_irrefl 0), fun _ => rfl⟩
    unfold adL
    by_cases h1 : 40 < x.1.length
    · rw [if_pos h1]
      exact none0 (-3) (by decide) _ rfl
    rw [if_neg h1]
    by_cases h2 : 120 ≤ T.2.2
    · rw [if_pos h2]
      exact none0 (-2) (by decide) _ rfl
    rw [if_neg h2]
    have hm : T.2.2 < 120 := by omega
    have hT' := hT.add x (hx x (by simp)) h1 hm
    obtain ⟨n, ⟨n1, n2⟩, n3, n4, n5, n6, n7, n8, n9⟩ := ih (adT k T x) hT' fun y hy => hx y (List.mem_cons_of_mem _ hy)
    obtain ⟨-, ⟨A0, B0, l1, l2⟩, l3⟩ := hT.1.add hT.2.1 hm x.2.1 x.2.2
    have hkm := hT.k
    have t8 := (hT.1.2.1 k hkm.1).1
    have e8 : (adT k T x).2.1 k 8 = T.2.1 k 8 + 1 := adF_k8 (by omega)
    have e16 : (adT k T x).2.1 k 16 = if T.2.1 k 8 = 0 then (T.2.2 : Int) else T.2.1 k 16 := adF_k16 (by omega)
    have em : (adT k T x).2.2 = T.2.2 + 1 := rfl
    have hnd := hT.1.1.1
    have hnd' := hT'.1.1.1
    have kA : ∀ {A B : List Nat}, (A ++ (k :: B)).Nodup → k ∉ A := fun h q => (List.nodup_append.mp h).2.2 k q k (by simp) rfl
    -- its row of nodes below
    have hkls : kls (adT k T x).2.1 k = kls T.2.1 k ++ [T.2.2] := by
      obtain ⟨A1, B1, m1⟩ := hT'.line
      have l2' : lnF (adT k T x).2.1 = A0 ++ (k :: (kls T.2.1 k ++ (T.2.2 :: B0))) := l2
      have c1 : k ∉ A1 := kA (by rw [← m1]; exact hnd')
      have c2 : k ∉ A0 := kA (by rw [← l2']; exact hnd')
      rw [m1] at l2'
      obtain ⟨-, c3⟩ := app_cancel l2' c1 c2
      have hlen : (kls (adT k T x).2.1 k).length = (kls T.2.1 k ++ [T.2.2]).length := by
        rw [kls_len, List.length_append, kls_len]
        exact l3
      rw [show kls T.2.1 k ++ (T.2.2 :: B0) = (kls T.2.1 k ++ [T.2.2]) ++ B0 by simp] at c3
      exact (List.append_inj c3 hlen).1
    refine ⟨n + 1, ⟨by rw [List.length_cons]; omega, fun q => by rw [List.length_cons, n2 q]⟩, by rw [n3, em]; omega, fun A B h => ?_, fun y hy => ?_, fun j e hj he => ?_, by rw [n7, e8]; omega, fun q _ => ?_, fun q => ?_⟩
    · have c1 : k ∉ A := kA (by rw [← h]; exact hnd)
      have c2 : k ∉ A0 := kA (by rw [← l1]; exact hnd)
      rw [h] at l1
      obtain ⟨c3, c4⟩ := app_cancel l1 c1 c2
      have c5 := (List.append_inj c4 rfl).2
      have := n4 A B (by rw [hkls, c3, c5]; exact l2.trans (by simp))
      rw [this, hkls, em]
      rw [show List.range' T.2.2 (n + 1) = T.2.2 :: List.range' (T.2.2 + 1) n from rfl]
      simp
    · obtain ⟨m1, m2⟩ := n5 y (by omega)
      refine ⟨m1.trans (adT_X hy), fun f hf => (m2 f hf).trans ?_⟩
      exact adF_old (by omega) hf
    · cases j with
      | zero =>
        have he : x = e := Option.some.inj he
        subst he
        obtain ⟨m1, m2⟩ := n5 T.2.2 (by omega)
        have m3 := fun f => (m2 f (by omega)).trans (adF_new (F := T.2.1) (k := k) (m := T.2.2) (cn := x.2.1) (cv := x.2.2) f)
        rw [Nat.add_zero]
        refine ⟨m1.trans upX_at, ⟨⟨m3 4, m3 8⟩, ⟨m3 10, m3 14⟩, m3 11, m3 12⟩, ⟨m3 15, ?_⟩, m3 9, m3 13⟩
        have := m3 5
        rw [this]
        show T.2.1 k 8 = T.2.1 k 8 + ((0 : Nat) : Int)
        omega
      | succ j =>
        have he : es[j]? = some e := he
        obtain ⟨m1, m2⟩ := n6 j e (by omega) he
        rw [em, show T.2.2 + 1 + j = T.2.2 + (j + 1) by omega] at m1 m2
        refine ⟨m1, m2.1, ⟨m2.2.1.1, ?_⟩, m2.2.2⟩
        have := m2.2.1.2
        rw [e8] at this
        rw [this]
        omega
    · rw [n9 (by omega), e16, if_pos q]
    · rw [n9 (by omega), e16, if_neg (by omega)]

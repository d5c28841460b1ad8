/-! ===== a tree told by fields of its nodes: 5 which, 6 deep, 8 how many below, 15 up, 16 the first below ===== -/
abbrev FT : Type := Nat → Nat → Int
def nkc (F : FT) (k : Nat) : Nat := (F k 8).toNat
def nfk (F : FT) (k : Nat) : Nat := (F k 16).toNat
/-- a node, then all below it, from the left -/
def pre (F : FT) : Nat → Nat → List Nat
  | 0, k => [k]
  | n + 1, k => k :: (List.range (nkc F k)).flatMap fun j => pre F n (nfk F k + j)
theorem fm_cong {α β : Type} {f g : α → List β} : ∀ (l : List α), (∀ x ∈ l, f x = g x) → l.flatMap f = l.flatMap g := by
  intro l
  induction l with
  | nil => intro _; rfl
  | cons a l ih => intro h; rw [List.flatMap_cons, List.flatMap_cons, h a (by simp), ih fun x hx => h x (List.mem_cons_of_mem _ hx)]
theorem pre_head (F : FT) (n k : Nat) : ∃ r, pre F n k = k :: r := by cases n <;> exact ⟨_, rfl⟩
theorem pre_self (F : FT) (n k : Nat) : k ∈ pre F n k := by obtain ⟨r, h⟩ := pre_head F n k; rw [h]; simp
theorem pre_cong {F G : FT} : ∀ (n a : Nat), (∀ x ∈ pre F n a, G x 8 = F x 8 ∧ G x 16 = F x 16) → pre G n a = pre F n a := by
  intro n
  induction n with
  | zero => intro a _; rfl
  | succ n ih =>
    intro a h
    obtain ⟨h1, h2⟩ := h a (pre_self F (n + 1) a)
    have e1 : nkc G a = nkc F a := by unfold nkc; rw [h1]
    have e2 : nfk G a = nfk F a := by unfold nfk; rw [h2]
    show a :: _ = a :: _
    rw [e1, e2]
    congr 1
    refine fm_cong _ fun j hj => ih _ fun x hx => h x ?_
    exact List.mem_cons_of_mem _ (List.mem_flatMap.mpr ⟨j, hj, hx⟩)
/-- what is told of a tree is sound on a set of nodes -/
def Tok (F : FT) (x : Nat) : Prop := 0 ≤ F x 8 ∧ (0 < F x 8 → (x : Int) < F x 16) ∧ ∀ j, j < nkc F x → (F (nfk F x + j) 15 = (x : Int) ∧ F (nfk F x + j) 5 = (j : Int)) ∧ F (nfk F x + j) 6 = F x 6 + 1
theorem Tok.lt {F : FT} {x : Nat} (h : Tok F x) (hk : 0 < nkc F x) : x < nfk F x := by
  have := h.2.1 (by unfold nkc at hk; omega)
  unfold nfk
  omega
theorem pre_deep {F : FT} : ∀ (n a : Nat), (∀ x ∈ pre F n a, Tok F x) → (∀ x ∈ pre F n a, F a 6 ≤ F x 6) ∧ ∀ r, pre F n a = a :: r → ∀ x ∈ r, F a 6 < F x 6 := by
  intro n
  induction n with
  | zero =>
    intro a _
    refine ⟨fun x hx => ?_, fun r h x hx => ?_⟩
    · rw [List.mem_singleton.mp hx]; exact Int.le_refl _
    · have : r = [] := by injection h with _ h2; exact h2.symm
      rw [this] at hx
      cases hx
  | succ n ih =>
    intro a h
    have ha := h a (pre_self F (n + 1) a)
    have below : ∀ x ∈ (List.range (nkc F a)).flatMap (fun j => pre F n (nfk F a + j)), F a 6 < F x 6 := by
      intro x hx
      obtain ⟨j, hj, hx2⟩ := List.mem_flatMap.mp hx
      have hj2 := List.mem_range.mp hj
      obtain ⟨i1, -⟩ := ih (nfk F a + j) fun y hy => h y (List.mem_cons_of_mem _ (List.mem_flatMap.mpr ⟨j, hj, hy⟩))
      have := i1 x hx2
      have := (ha.2.2 j hj2).2
      omega
    refine ⟨fun x hx => ?_, fun r hr x hx => ?_⟩
    · rcases List.mem_cons.mp hx with e | e
      · rw [e]; exact Int.le_refl _
      · have := below x e; omega
    · have : r = (List.range (nkc F a)).flatMap (fun j => pre F n (nfk F a + j)) := by injection hr with _ h2; exact h2.symm
      rw [this] at hx
      exact below x hx
/-- where a node stands, and what stays as it is where it alone changes -/
theorem pre_ctx {F G : FT} {k : Nat} : ∀ (n a : Nat), k ∈ pre F n a → (pre F n a).Nodup → (∀ x ∈ pre F n a, Tok F x) → (∀ x ∈ pre F n a, x ≠ k → G x 8 = F x 8 ∧ G x 16 = F x 16) → ∃ A B n', pre F n a = A ++ (pre F n' k ++ B) ∧ pre G n a = A ++ (pre G n' k ++ B) ∧ n + a ≤ n' + k ∧ ∀ b ∈ B.head?, F b 6 ≤ F k 6 := by
  intro n
  induction n with
  | zero =>
    intro a hk _ _ _
    have := List.mem_singleton.mp hk
    subst this
    exact ⟨[], [], 0, by simp [pre], by simp [pre], Nat.le_refl _, fun b hb => by cases hb⟩
  | succ n ih =>
    intro a hk hnd hT hG
    by_cases q : k = a
    · subst q
      exact ⟨[], [], n + 1, by simp, by simp, Nat.le_refl _, fun b hb => by cases hb⟩
    · have ha := hT a (pre_self F (n + 1) a)
      obtain ⟨g1, g2⟩ := hG a (pre_self F (n + 1) a) (fun e => q e.symm)
      have e1 : nkc G a = nkc F a := by unfold nkc; rw [g1]
      have e2 : nfk G a = nfk F a := by unfold nfk; rw [g2]
      have hk2 : k ∈ (List.range (nkc F a)).flatMap (fun j => pre F n (nfk F a + j)) := (List.mem_cons.mp hk).resolve_left q
      obtain ⟨j, hj, hx⟩ := List.mem_flatMap.mp hk2
      obtain ⟨s, t, hst⟩ := List.append_of_mem hj
      have hj2 := List.mem_range.mp hj
      have hp : ∀ i x, i ∈ List.range (nkc F a) → x ∈ pre F n (nfk F a + i) → x ∈ pre F (n + 1) a := fun i x hi hx => List.mem_cons_of_mem _ (List.mem_flatMap.mpr ⟨i, hi, hx⟩)
      have hnd2 : ((List.range (nkc F a)).flatMap (fun j => pre F n (nfk F a + j))).Nodup := (List.nodup_cons.mp hnd).2
      rw [hst, List.flatMap_append, List.flatMap_cons] at hnd2
      obtain ⟨n1, n2, n3⟩ := List.nodup_append.mp hnd2
      obtain ⟨n4, n5, n6⟩ := List.nodup_append.mp n2
      obtain ⟨A, B, n', c1, c2, c3, c4⟩ := ih (nfk F a + j) hx n4 (fun x hx => hT x (hp j x hj hx)) (fun x hx hne => hG x (hp j x hj hx) hne)
      have hlt : a < nfk F a := ha.lt (by omega)
      have es : s.flatMap (fun j => pre G n (nfk F a + j)) = s.flatMap (fun j => pre F n (nfk F a + j)) := fm_cong _ fun i hi => pre_cong _ _ fun x hx2 => hG x (hp i x (by rw [hst]; simp [hi]) hx2) fun e => n3 x (List.mem_flatMap.mpr ⟨i, hi, hx2⟩) k (List.mem_append_left _ hx) e
      have et : t.flatMap (fun j => pre G n (nfk F a + j)) = t.flatMap (fun j => pre F n (nfk F a + j)) := fm_cong _ fun i hi => pre_cong _ _ fun x hx2 => hG x (hp i x (by rw [hst]; simp [hi]) hx2) fun e => n6 k hx x (List.mem_flatMap.mpr ⟨i, hi, hx2⟩) e.symm
      refine ⟨a :: (s.flatMap (fun j => pre F n (nfk F a + j)) ++ A), B ++ t.flatMap (fun j => pre F n (nfk F a + j)), n', ?_, ?_, by omega, ?_⟩
      · show a :: (List.range (nkc F a)).flatMap (fun j => pre F n (nfk F a + j)) = _
        rw [hst, List.flatMap_append, List.flatMap_cons, c1]
        simp only [List.cons_append, List.append_assoc]
      · show a :: (List.range (nkc G a)).flatMap (fun j => pre G n (nfk G a + j)) = _
        rw [e1, e2, hst, List.flatMap_append, List.flatMap_cons, c2, es, et]
        simp only [List.cons_append, List.append_assoc]
      · intro b hb
        have hdk : F a 6 + 1 ≤ F k 6 := by
          have h1 := (pre_deep n (nfk F a + j) fun x hx => hT x (hp j x hj hx)).1 k hx
          have h2 := (ha.2.2 j hj2).2
          omega
        cases B with
        | cons b' B =>
          have : b = b' := by simpa using hb.symm
          subst this
          exact c4 b (by simp)
        | nil =>
          cases t with
          | nil => cases hb
          | cons i t =>
            have hi : i ∈ List.range (nkc F a) := by rw [hst]; simp
            obtain ⟨r, hr⟩ := pre_head F n (nfk F a + i)
            rw [List.nil_append, List.flatMap_cons, hr] at hb
            have : b = nfk F a + i := by simpa using hb.symm
            subst this
            have := (ha.2.2 i (List.mem_range.mp hi)).2
            omega
/-- who stands below whom -/
theorem pre_kid {F : FT} {x j : Nat} : ∀ (n a : Nat), x ∈ pre F n a → (∀ y ∈ pre F n a, Tok F y ∧ y < n + a) → j < nkc F x → nfk F x + j ∈ pre F n a := by
  intro n
  induction n with
  | zero =>
    intro a hx h _
    have := (h a (pre_self F 0 a)).2
    omega
  | succ n ih =>
    intro a hx h hj
    obtain ⟨ha, -⟩ := h a (pre_self F (n + 1) a)
    rcases List.mem_cons.mp hx with e | e
    · subst e
      exact List.mem_cons_of_mem _ (List.mem_flatMap.mpr ⟨j, List.mem_range.mpr hj, pre_self F n _⟩)
    · obtain ⟨i, hi, hx2⟩ := List.mem_flatMap.mp e
      have hi2 := List.mem_range.mp hi
      have hlt : a < nfk F a := ha.lt (by omega)
      have hp : ∀ y, y ∈ pre F n (nfk F a + i) → y ∈ pre F (n + 1) a := fun y hy => List.mem_cons_of_mem _ (List.mem_flatMap.mpr ⟨i, hi, hy⟩)
      exact hp _ (ih (nfk F a + i) hx2 (fun y hy => ⟨(h y (hp y hy)).1, by have := (h y (hp y hy)).2; omega⟩) hj)
theorem pre_up {F : FT} {x : Nat} : ∀ (n a : Nat), x ∈ pre F n a → x = a ∨ ∃ p j, p ∈ pre F n a ∧ j < nkc F p ∧ x = nfk F p + j := by
  intro n
  induction n with
  | zero => intro a hx; exact Or.inl (List.mem_singleton.mp hx)
  | succ n ih =>
    intro a hx
    rcases List.mem_cons.mp hx with e | e
    · exact Or.inl e
    · obtain ⟨i, hi, hx2⟩ := List.mem_flatMap.mp e
      have hp : ∀ y, y ∈ pre F n (nfk F a + i) → y ∈ pre F (n + 1) a := fun y hy => List.mem_cons_of_mem _ (List.mem_flatMap.mpr ⟨i, hi, hy⟩)
      rcases ih _ hx2 with e2 | ⟨p, j, h1, h2, h3⟩
      · exact Or.inr ⟨a, i, pre_self F (n + 1) a, List.mem_range.mp hi, e2⟩
      · exact Or.inr ⟨p, j, hp p h1, h2, h3⟩
/-- the next one, climbing -/
def clb (F : FT) : Nat → Nat → Int
  | 0, _ => -1
  | n + 1, p => if F p 15 = -1 then -1 else if F p 5 + 1 = F (F p 15).toNat 8 then clb F n (F p 15).toNat else F (F p 15).toNat 16 + F p 5 + 1
def nxn (F : FT) (k : Nat) : Int := if 0 < F k 8 then F k 16 else clb F 121 k
/-- a row of nodes, each the next one of the one ahead -/
def wlk (F : FT) : List Nat → Int → Prop
  | [], _ => True
  | [x], e => nxn F x = e
  | x :: y :: l, e => nxn F x = (y : Int) ∧ wlk F (y :: l) e
theorem wlk_app {F : FT} {e : Int} {y : Nat} : ∀ (l r : List Nat), wlk F l (y : Int) → wlk F (y :: r) e → wlk F (l ++ (y :: r)) e := by
  intro l
  induction l with
  | nil => intro r _ h; exact h
  | cons x l ih =>
    intro r h1 h2
    cases l with
    | nil => exact ⟨h1, h2⟩
    | cons z l => exact ⟨h1.1, ih r h1.2 h2⟩
/-- ups are told right, and go down -/
def Uok (F : FT) (L : List Nat) : Prop := ∀ x ∈ L, F x 15 = -1 ∨ (0 ≤ F x 15 ∧ F x 15 < (x : Int) ∧ (F x 15).toNat ∈ L)
theorem clb_fuel {F : FT} {L : List Nat} (hU : Uok F L) : ∀ (n m p : Nat), p ∈ L → p < n → p < m → clb F n p = clb F m p := by
  intro n
  induction n with
  | zero => intro m p _ h; omega
  | succ n ih =>
    intro m p hp h1 h2
    obtain ⟨m, rfl⟩ : ∃ m', m = m' + 1 := ⟨m - 1, by omega⟩
    show (if F p 15 = -1 then (-1 : Int) else if F p 5 + 1 = F (F p 15).toNat 8 then clb F n (F p 15).toNat else F (F p 15).toNat 16 + F p 5 + 1) = (if F p 15 = -1 then (-1 : Int) else if F p 5 + 1 = F (F p 15).toNat 8 then clb F m (F p 15).toNat else F (F p 15).toNat 16 + F p 5 + 1)
    rcases hU p hp with e | ⟨e1, e2, e3⟩
    · rw [if_pos e, if_pos e]
    · rw [ih m _ e3 (by omega) (by omega)]
theorem pre_walk {F : FT} {L : List Nat} (hU : Uok F L) : ∀ (n a : Nat), (∀ y ∈ pre F n a, (Tok F y ∧ y < n + a) ∧ y ∈ L ∧ y < 120) → wlk F (pre F n a) (clb F 121 a) := by
  intro n
  induction n with
  | zero =>
    intro a h
    have := ((h a (pre_self F 0 a)).1).2
    omega
  | succ n ih =>
    intro a h
    obtain ⟨⟨ha, -⟩, haL, ha1⟩ := h a (pre_self F (n + 1) a)
    have kids : ∀ (t j : Nat), nkc F a - j = t → j < nkc F a → wlk F ((List.range' j (nkc F a - j)).flatMap fun i => pre F n (nfk F a + i)) (clb F 121 a) ∧ ∃ r, (List.range' j (nkc F a - j)).flatMap (fun i => pre F n (nfk F a + i)) = (nfk F a + j) :: r := by
      intro t
      induction t with
      | zero => intro j e1 e2; omega
      | succ t iht =>
        intro j e1 e2
        have hlt : a < nfk F a := ha.lt (by omega)
        have hsub : ∀ y ∈ pre F n (nfk F a + j), y ∈ pre F (n + 1) a := fun y hy => List.mem_cons_of_mem _ (List.mem_flatMap.mpr ⟨j, List.mem_range.mpr e2, hy⟩)
        have hw := ih (nfk F a + j) fun y hy => by
          obtain ⟨⟨h1, h2⟩, h3, h4⟩ := h y (hsub y hy)
          exact ⟨⟨h1, by omega⟩, h3, h4⟩
        obtain ⟨⟨u1, u2⟩, -⟩ := ha.2.2 j e2
        have hfa : F a 8 = (nkc F a : Int) := by have := ha.1; unfold nkc; omega
        have hfk : F a 16 = (nfk F a : Int) := by unfold nfk at hlt ⊢; omega
        have hc : clb F 121 (nfk F a + j) = if j + 1 = nkc F a then clb F 121 a else ((nfk F a + (j + 1) : Nat) : Int) := by
          show (if F (nfk F a + j) 15 = -1 then (-1 : Int) else if F (nfk F a + j) 5 + 1 = F (F (nfk F a + j) 15).toNat 8 then clb F 120 (F (nfk F a + j) 15).toNat else F (F (nfk F a + j) 15).toNat 16 + F (nfk F a + j) 5 + 1) = _
          rw [u1, u2, if_neg (by omega), toNat_n, hfa, hfk]
          by_cases q : j + 1 = nkc F a
          · rw [if_pos (by omega), if_pos q]
            exact clb_fuel hU 120 121 a haL ha1 (by omega)
          · rw [if_neg (by omega), if_neg q]
            omega
        obtain ⟨r, hr⟩ := pre_head F n (nfk F a + j)
        have hrng : List.range' j (nkc F a - j) = j :: List.range' (j + 1) (nkc F a - (j + 1)) := by
          rw [show nkc F a - j = nkc F a - (j + 1) + 1 by omega]
          rfl
        rw [hrng, List.flatMap_cons]
        refine ⟨?_, by rw [hr]; exact ⟨_, rfl⟩⟩
        rw [hc] at hw
        by_cases q : j + 1 = nkc F a
        · rw [if_pos q] at hw
          rw [show nkc F a - (j + 1) = 0 by omega]
          show wlk F (pre F n (nfk F a + j) ++ []) _
          rw [List.append_nil]
          exact hw
        · rw [if_neg q] at hw
          obtain ⟨i1, r2, i2⟩ := iht (j + 1) (by omega) (by omega)
          rw [i2] at i1 ⊢
          exact wlk_app _ _ hw i1
    show wlk F (a :: (List.range (nkc F a)).flatMap fun j => pre F n (nfk F a + j)) _
    have hfa : F a 8 = (nkc F a : Int) := by have := ha.1; unfold nkc; omega
    by_cases q : nkc F a = 0
    · rw [q]
      show nxn F a = _
      unfold nxn
      rw [if_neg (by omega)]
    · have hlt : a < nfk F a := ha.lt (by omega)
      have hfk : F a 16 = (nfk F a : Int) := by unfold nfk at hlt ⊢; omega
      obtain ⟨i1, r, i2⟩ := kids _ 0 rfl (by omega)
      rw [Nat.sub_zero, ← List.range_eq_range'] at i1 i2
      rw [i2] at i1 ⊢
      refine ⟨?_, i1⟩
      unfold nxn
      rw [if_pos (by omega), hfk, Nat.add_zero]

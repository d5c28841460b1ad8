/-! ===== the tree: a node more, what is below a node less ===== -/
def upF (F : FT) (k f : Nat) (v : Int) : FT := fun a b => if a = k ∧ b = f then v else F a b
theorem upF_at {F : FT} {k f : Nat} {v : Int} : upF F k f v k f = v := if_pos ⟨rfl, rfl⟩
theorem upF_ne {F : FT} {k f a b : Nat} {v : Int} (h : ¬ (a = k ∧ b = f)) : upF F k f v a b = F a b := if_neg h
/-- a new node, the last one below another -/
def adF (F : FT) (k m : Nat) (cn cv : Int) : FT := fun a f => if a = m then (if f = 5 then F k 8 else if f = 6 then F k 6 + 1 else if f = 8 ∨ f = 13 then 0 else if f = 11 then cn else if f = 12 then cv else if f = 15 then (k : Int) else -1) else if a = k ∧ f = 8 then F k 8 + 1 else if a = k ∧ f = 16 ∧ F k 8 = 0 then (m : Int) else F a f
theorem adF_new {F : FT} {k m : Nat} {cn cv : Int} (f : Nat) : adF F k m cn cv m f = if f = 5 then F k 8 else if f = 6 then F k 6 + 1 else if f = 8 ∨ f = 13 then 0 else if f = 11 then cn else if f = 12 then cv else if f = 15 then (k : Int) else -1 := if_pos rfl
theorem adF_k8 {F : FT} {k m : Nat} {cn cv : Int} (h : k ≠ m) : adF F k m cn cv k 8 = F k 8 + 1 := by unfold adF; rw [if_neg h, if_pos ⟨rfl, rfl⟩]
theorem adF_k16 {F : FT} {k m : Nat} {cn cv : Int} (h : k ≠ m) : adF F k m cn cv k 16 = if F k 8 = 0 then (m : Int) else F k 16 := by
  unfold adF
  rw [if_neg h, if_neg (by omega)]
  by_cases q : F k 8 = 0
  · rw [if_pos ⟨rfl, rfl, q⟩, if_pos q]
  · rw [if_neg (fun g => q g.2.2), if_neg q]
theorem adF_old {F : FT} {k m a f : Nat} {cn cv : Int} (h : a ≠ m) (h2 : ¬ (a = k ∧ (f = 8 ∨ f = 16))) : adF F k m cn cv a f = F a f := by
  unfold adF
  rw [if_neg h, if_neg (fun q => h2 ⟨q.1, Or.inl q.2⟩), if_neg (fun q => h2 ⟨q.1, Or.inr q.2.1⟩)]
/-- the nodes in their order -/
def lnF (F : FT) : List Nat := pre F 120 0
def TI (F : FT) (mk : Nat) : Prop := ((lnF F).Nodup ∧ (∀ x ∈ lnF F, x < mk) ∧ mk ≤ 120) ∧ (∀ x ∈ lnF F, Tok F x) ∧ (F 0 15 = -1 ∧ F 0 5 = -1) ∧ F 0 6 = 0
theorem TI.uok {F : FT} {mk : Nat} (h : TI F mk) : Uok F (lnF F) := by
  intro x hx
  rcases pre_up 120 0 hx with e | ⟨p, j, h1, h2, h3⟩
  · rw [e]; exact Or.inl h.2.2.1.1
  · have hp := h.2.1 p h1
    have hlt := hp.lt (by omega)
    have := ((hp.2.2 j h2).1).1
    rw [← h3] at this
    exact Or.inr ⟨by omega, by omega, by rw [this, toNat_n]; exact h1⟩
theorem TI.kid {F : FT} {mk : Nat} (h : TI F mk) {x j : Nat} (hx : x ∈ lnF F) (hj : j < nkc F x) : nfk F x + j ∈ lnF F := pre_kid 120 0 hx (fun y hy => ⟨h.2.1 y hy, by have := h.1.2.1 y hy; have := h.1.2.2; omega⟩) hj
theorem TI.walk {F : FT} {mk : Nat} (h : TI F mk) : wlk F (lnF F) (-1) := by
  have := pre_walk h.uok 120 0 fun y hy => ⟨⟨h.2.1 y hy, by have := h.1.2.1 y hy; have := h.1.2.2; omega⟩, hy, by have := h.1.2.1 y hy; have := h.1.2.2; omega⟩
  have e : clb F 121 0 = -1 := by
    show (if F 0 15 = -1 then (-1 : Int) else _) = -1
    rw [if_pos h.2.2.1.1]
  rw [e] at this
  exact this
theorem lnF_head (F : FT) : ∃ r, lnF F = 0 :: r := pre_head F 120 0
theorem TI.zero {F : FT} {mk : Nat} (h : TI F mk) : 0 < mk := h.1.2.1 0 (pre_self F 120 0)
theorem nodup_len : ∀ (m : Nat) (l : List Nat), l.Nodup → (∀ x ∈ l, x < m) → l.length ≤ m := by
  intro m
  induction m with
  | zero =>
    intro l _ h
    cases l with
    | nil => exact Nat.le_refl _
    | cons a l => have := h a (by simp); omega
  | succ m ih =>
    intro l h1 h2
    by_cases q : m ∈ l
    · have := ih (l.erase m) (h1.erase m) fun x hx => by
        have h3 := (List.Nodup.mem_erase_iff h1).mp hx
        have := h2 x h3.2
        omega
      rw [List.length_erase_of_mem q] at this
      omega
    · have := ih l h1 fun x hx => by
        have h3 := h2 x hx
        have : x ≠ m := fun e => q (e ▸ hx)
        omega
      omega
theorem TI.len {F : FT} {mk : Nat} (h : TI F mk) : (lnF F).length ≤ mk := nodup_len _ _ h.1.1 h.1.2.1
/-- as it is while nodes are added below one -/
def AKp (F : FT) (k mk : Nat) : Prop := (k ∈ lnF F ∧ (0 < nkc F k → nfk F k + nkc F k = mk)) ∧ ∀ j, j < nkc F k → F (nfk F k + j) 8 = 0
def kls (F : FT) (k : Nat) : List Nat := (List.range (nkc F k)).map fun j => nfk F k + j
theorem pre_leaf {F : FT} {x : Nat} (h : F x 8 = 0) : ∀ n, pre F n x = [x] := by
  intro n
  cases n with
  | zero => rfl
  | succ n =>
    show x :: (List.range (nkc F x)).flatMap _ = [x]
    rw [show nkc F x = 0 by unfold nkc; rw [h]; rfl]
    rfl
theorem fm_sing {α β : Type} {f : α → List β} {g : α → β} : ∀ (l : List α), (∀ x ∈ l, f x = [g x]) → l.flatMap f = l.map g := by
  intro l
  induction l with
  | nil => intro _; rfl
  | cons a l ih => intro h; rw [List.flatMap_cons, h a (by simp), ih fun x hx => h x (List.mem_cons_of_mem _ hx)]; rfl
theorem pre_flat {F : FT} {k n : Nat} (h : ∀ j, j < nkc F k → F (nfk F k + j) 8 = 0) (hn : 0 < n) : pre F n k = k :: kls F k := by
  obtain ⟨m, rfl⟩ : ∃ m, n = m + 1 := ⟨n - 1, by omega⟩
  show k :: (List.range (nkc F k)).flatMap _ = k :: kls F k
  congr 1
  exact fm_sing _ fun j hj => pre_leaf (h j (List.mem_range.mp hj)) _
theorem TI.add {F : FT} {k mk : Nat} (h : TI F mk) (hk : AKp F k mk) (hm : mk < 120) (cn cv : Int) : (TI (adF F k mk cn cv) (mk + 1) ∧ AKp (adF F k mk cn cv) k (mk + 1)) ∧ (∃ A B, lnF F = A ++ (k :: (kls F k ++ B)) ∧ lnF (adF F k mk cn cv) = A ++ (k :: (kls F k ++ (mk :: B)))) ∧ nkc (adF F k mk cn cv) k = nkc F k + 1 := by
  obtain ⟨⟨h1, h2, h3⟩, h4, h5, h6⟩ := h
  have h : TI F mk := ⟨⟨h1, h2, h3⟩, h4, h5, h6⟩
  obtain ⟨⟨k1, k2⟩, k3⟩ := hk
  have hkm := h2 k k1
  have hTk := h4 k k1
  have hc8 : F k 8 = (nkc F k : Int) := by have := hTk.1; unfold nkc; omega
  have e8 := adF_k8 (F := F) (cn := cn) (cv := cv) (show k ≠ mk by omega)
  have e16 := adF_k16 (F := F) (cn := cn) (cv := cv) (show k ≠ mk by omega)
  generalize hG : adF F k mk cn cv = G at *
  have old : ∀ {a f : Nat}, a ≠ mk → ¬ (a = k ∧ (f = 8 ∨ f = 16)) → G a f = F a f := fun h h2 => by rw [← hG]; exact adF_old h h2
  have new : ∀ f, G mk f = if f = 5 then F k 8 else if f = 6 then F k 6 + 1 else if f = 8 ∨ f = 13 then 0 else if f = 11 then cn else if f = 12 then cv else if f = 15 then (k : Int) else -1 := fun f => by rw [← hG]; exact adF_new f
  have ekc : nkc G k = nkc F k + 1 := by unfold nkc at hc8 ⊢; rw [e8]; omega
  have efk : nfk G k + nkc F k = mk := by
    unfold nfk
    rw [e16]
    by_cases q : F k 8 = 0
    · rw [if_pos q]; omega
    · rw [if_neg q]; have := k2 (by omega); unfold nfk at this; omega
  have efk2 : 0 < nkc F k → nfk G k = nfk F k := fun q => by have := k2 q; omega
  obtain ⟨A, B, n', c1, c2, c3, c4⟩ := pre_ctx (F := F) (G := G) 120 0 k1 h1 h4 fun x hx hne => ⟨old (by have := h2 x hx; omega) (by omega), old (by have := h2 x hx; omega) (by omega)⟩
  have hn' : 0 < n' := by omega
  have leaf : ∀ j, j < nkc G k → G (nfk G k + j) 8 = 0 := by
    intro j hj
    by_cases q : j = nkc F k
    · subst q
      rw [efk, new]
      rfl
    · have hj2 : j < nkc F k := by omega
      have hkid := h.kid k1 hj2
      have := h2 _ hkid
      rw [efk2 (by omega), old (by omega) (by have := hTk.lt (by omega); omega)]
      exact k3 j hj2
  have ekls : kls G k = kls F k ++ [mk] := by
    unfold kls
    rw [ekc, List.range_succ, List.map_append]
    congr 1
    · apply List.map_congr_left
      intro j hj
      have := List.mem_range.mp hj
      rw [efk2 (by omega)]
    · show [nfk G k + nkc F k] = [mk]
      rw [efk]
  have eF : lnF F = A ++ (k :: (kls F k ++ B)) := by
    show pre F 120 0 = _
    rw [c1, pre_flat k3 hn']
    rfl
  have eG : lnF G = A ++ (k :: (kls F k ++ (mk :: B))) := by
    show pre G 120 0 = _
    rw [c2, pre_flat leaf hn', ekls]
    simp
  have hmem : ∀ x, x ∈ lnF G ↔ x = mk ∨ x ∈ lnF F := by
    intro x
    rw [eF, eG]
    simp only [List.mem_append, List.mem_cons]
    constructor
    · rintro (q | q | q | q | q)
      · exact Or.inr (Or.inl q)
      · exact Or.inr (Or.inr (Or.inl q))
      · exact Or.inr (Or.inr (Or.inr (Or.inl q)))
      · exact Or.inl q
      · exact Or.inr (Or.inr (Or.inr (Or.inr q)))
    · rintro (q | q | q | q | q)
      · exact Or.inr (Or.inr (Or.inr (Or.inl q)))
      · exact Or.inl q
      · exact Or.inr (Or.inl q)
      · exact Or.inr (Or.inr (Or.inl q))
      · exact Or.inr (Or.inr (Or.inr (Or.inr q)))
  have hperm : (lnF G).Perm (mk :: lnF F) := by
    rw [eF, eG]
    have : A ++ (k :: (kls F k ++ (mk :: B))) = (A ++ (k :: kls F k)) ++ (mk :: B) := by simp
    rw [this]
    refine List.Perm.trans List.perm_middle ?_
    rw [show (A ++ (k :: kls F k)) ++ B = A ++ (k :: (kls F k ++ B)) by simp]
  have hnd : (lnF G).Nodup := by
    rw [hperm.nodup_iff, List.nodup_cons]
    exact ⟨fun q => by have := h2 mk q; omega, h1⟩
  have hT : ∀ x ∈ lnF G, Tok G x := by
    intro x hx
    rcases (hmem x).mp hx with e | e
    · subst e
      have e0 : G x 8 = 0 := by rw [new]; rfl
      exact ⟨by omega, fun q => by omega, fun j hj => by unfold nkc at hj; rw [e0] at hj; exact absurd hj (Nat.not_lt_zero j)⟩
    · have hxm := h2 x e
      have hTx := h4 x e
      by_cases q : x = k
      · subst q
        refine ⟨by rw [e8]; omega, fun _ => ?_, fun j hj => ?_⟩
        · rw [e16]
          by_cases q0 : F x 8 = 0
          · rw [if_pos q0]; omega
          · rw [if_neg q0]; exact hTx.2.1 (by have := hTx.1; omega)
        · rw [ekc] at hj
          rw [old (a := x) (f := 6) (by omega) (by omega)]
          by_cases q1 : j = nkc F x
          · subst q1
            rw [efk, new, new, new]
            exact ⟨⟨rfl, by show F x 8 = _; exact hc8⟩, rfl⟩
          · have hj2 : j < nkc F x := by omega
            have hkid := h2 _ (h.kid e hj2)
            have hlt := hTx.lt (by omega)
            rw [efk2 (by omega), old (by omega) (by omega), old (by omega) (by omega), old (by omega) (by omega)]
            exact hTx.2.2 j hj2
      · have o8 : G x 8 = F x 8 := old (by omega) (by omega)
        have o16 : G x 16 = F x 16 := old (by omega) (by omega)
        have okc : nkc G x = nkc F x := by unfold nkc; rw [o8]
        have ofk : nfk G x = nfk F x := by unfold nfk; rw [o16]
        refine ⟨by rw [o8]; exact hTx.1, fun q => by rw [o16]; exact hTx.2.1 (by rw [← o8]; exact q), fun j hj => ?_⟩
        rw [okc] at hj
        have hkid := h2 _ (h.kid e hj)
        rw [ofk, old (a := x) (f := 6) (by omega) (by omega), old (by omega) (by omega), old (by omega) (by omega), old (by omega) (by omega)]
        exact hTx.2.2 j hj
  have z0 : (0 : Nat) ≠ mk := by have := h2 0 (pre_self F 120 0); omega
  refine ⟨⟨⟨⟨hnd, fun x hx => ?_, by omega⟩, hT, ⟨by rw [old z0 (by omega)]; exact h5.1, by rw [old z0 (by omega)]; exact h5.2⟩, by rw [old z0 (by omega)]; exact h6⟩, ⟨(hmem k).mpr (Or.inr k1), fun _ => by rw [ekc]; omega⟩, leaf⟩, ⟨A, B, eF, eG⟩, ekc⟩
  rcases (hmem x).mp hx with e | e
  · omega
  · have := h2 x e; omega
/-- fields that tell nothing of the shape -/
theorem lnF_cong {F G : FT} (h : ∀ x ∈ lnF F, G x 8 = F x 8 ∧ G x 16 = F x 16) : lnF G = lnF F := pre_cong 120 0 h
theorem TI.upd {F G : FT} {mk : Nat} (h : TI F mk) (hG : ∀ x f, (f = 5 ∨ f = 6 ∨ f = 8 ∨ f = 15 ∨ f = 16) → G x f = F x f) : TI G mk ∧ lnF G = lnF F := by
  have e : lnF G = lnF F := lnF_cong fun x _ => ⟨hG x 8 (by omega), hG x 16 (by omega)⟩
  refine ⟨?_, e⟩
  unfold TI
  rw [e]
  refine ⟨h.1, fun x hx => ?_, ⟨by rw [hG _ _ (by omega)]; exact h.2.2.1.1, by rw [hG _ _ (by omega)]; exact h.2.2.1.2⟩, by rw [hG _ _ (by omega)]; exact h.2.2.2⟩
  obtain ⟨t1, t2, t3⟩ := h.2.1 x hx
  have e8 := hG x 8 (by omega)
  have e16 := hG x 16 (by omega)
  have okc : nkc G x = nkc F x := by unfold nkc; rw [e8]
  have ofk : nfk G x = nfk F x := by unfold nfk; rw [e16]
  refine ⟨by rw [e8]; exact t1, fun q => by rw [e16]; exact t2 (by rw [← e8]; exact q), fun j hj => ?_⟩
  rw [okc] at hj
  rw [ofk, hG _ 15 (by omega), hG _ 5 (by omega), hG _ 6 (by omega), hG _ 6 (by omega)]
  exact t3 j hj
/-- nothing below a node any more -/
theorem TI.rem {F : FT} {mk g : Nat} (h : TI F mk) (hg : g ∈ lnF F) : TI (upF F g 8 0) mk ∧ ∃ A S B, lnF F = A ++ (g :: (S ++ B)) ∧ lnF (upF F g 8 0) = A ++ (g :: B) ∧ (∀ x ∈ S, F g 6 < F x 6) ∧ ∀ b ∈ B.head?, F b 6 ≤ F g 6 := by
  obtain ⟨⟨h1, h2, h3⟩, h4, h5, h6⟩ := h
  have ne : ∀ {a f : Nat}, ¬ (a = g ∧ f = 8) → upF F g 8 0 a f = F a f := fun h => upF_ne h
  have at0 : upF F g 8 0 g 8 = 0 := upF_at
  generalize upF F g 8 0 = G at *
  obtain ⟨A, B, n', c1, c2, c3, c4⟩ := pre_ctx (F := F) (G := G) 120 0 hg h1 h4 fun x hx hn => ⟨ne (by omega), ne (by omega)⟩
  obtain ⟨S, hS⟩ := pre_head F n' g
  have eF : lnF F = A ++ (g :: (S ++ B)) := by
    show pre F 120 0 = _
    rw [c1, hS]; rfl
  have eG : lnF G = A ++ (g :: B) := by
    show pre G 120 0 = _
    rw [c2, pre_leaf at0]; rfl
  have hsub : ∀ x ∈ lnF G, x ∈ lnF F := by
    intro x hx
    rw [eG] at hx
    rw [eF]
    simp only [List.mem_append, List.mem_cons] at hx ⊢
    rcases hx with q | q | q
    · exact Or.inl q
    · exact Or.inr (Or.inl q)
    · exact Or.inr (Or.inr (Or.inr q))
  have hpre : ∀ x ∈ pre F n' g, x ∈ lnF F := fun x hx => by
    show x ∈ pre F 120 0
    rw [c1]
    exact List.mem_append_right _ (List.mem_append_left _ hx)
  have hdeep := (pre_deep n' g fun x hx => h4 x (hpre x hx)).2 S hS
  have hnd : (lnF G).Nodup := by
    have : (lnF G).Sublist (lnF F) := by
      rw [eG, eF]
      exact List.Sublist.append (List.Sublist.refl A) ((List.sublist_append_right S B).cons_cons g)
    exact this.nodup h1
  refine ⟨⟨⟨hnd, fun x hx => h2 x (hsub x hx), h3⟩, fun x hx => ?_, ⟨by rw [ne (by omega)]; exact h5.1, by rw [ne (by omega)]; exact h5.2⟩, by rw [ne (by omega)]; exact h6⟩, A, S, B, eF, eG, hdeep, c4⟩
  obtain ⟨t1, t2, t3⟩ := h4 x (hsub x hx)
  by_cases q : x = g
  · subst q
    refine ⟨by rw [at0]; exact Int.le_refl _, fun q => by rw [at0] at q; omega, fun j hj => ?_⟩
    unfold nkc at hj
    rw [at0] at hj
    exact absurd hj (Nat.not_lt_zero j)
  · have e8 := ne (a := x) (f := 8) (by omega)
    have e16 := ne (a := x) (f := 16) (by omega)
    have okc : nkc G x = nkc F x := by unfold nkc; rw [e8]
    have ofk : nfk G x = nfk F x := by unfold nfk; rw [e16]
    refine ⟨by rw [e8]; exact t1, fun q => by rw [e16]; exact t2 (by rw [← e8]; exact q), fun j hj => ?_⟩
    rw [okc] at hj
    rw [ofk, ne (f := 15) (by omega), ne (f := 5) (by omega), ne (f := 6) (by omega), ne (f := 6) (by omega)]
    exact t3 j hj

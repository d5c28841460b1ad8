/-! ===== a tree whose functions are named ===== -/
theorem anc_same {F G : FT} (hG : ∀ a, G a 15 = F a 15) {y : Nat} : ∀ (n x : Nat), anc F n x y → anc G n x y := by
  intro n
  induction n with
  | zero => intro x h; exact h
  | succ n ih =>
    intro x h
    unfold anc at h ⊢
    rw [hG x]
    exact h.imp_right fun q => ⟨q.1, ih _ q.2⟩
theorem NS.same {zs : List Clz} {X : Nat → List Int} {F G : FT} {x : Nat} (h : NS zs X F x) (hG : ∀ a f, f ≠ 9 → f ≠ 13 → G a f = F a f) : NS zs X G x := by
  have e4 : ∀ a, G a 4 = F a 4 := fun a => hG a 4 (by decide) (by decide)
  have e8 := hG x 8 (by decide) (by decide)
  have e10 := hG x 10 (by decide) (by decide)
  have e14 := hG x 14 (by decide) (by decide)
  have efk : nfk G x = nfk F x := by unfold nfk; rw [hG x 16 (by decide) (by decide)]
  have kl : ∀ es, KL X F x es → KL X G x es := fun es h => by
    refine ⟨e8.trans h.1, fun j e he => ?_⟩
    rw [efk, hG _ 11 (by decide) (by decide), hG _ 12 (by decide) (by decide)]
    exact h.2 j e he
  unfold NS
  rw [e4 x, e8, e10]
  rcases h with h | ⟨h, h2, h3⟩ | ⟨h, h2, h3⟩ | ⟨h, h2, fr, h3, h4⟩ | ⟨h, h2, h3, y, y1, y2, y3, y4⟩ | ⟨h, b, ss, hK, hr⟩ | h
  · exact Or.inl h
  · exact Or.inr (Or.inl ⟨h, h2, kl _ h3⟩)
  · exact Or.inr (Or.inr (Or.inl ⟨h, h2, kl _ h3⟩))
  · exact Or.inr (Or.inr (Or.inr (Or.inl ⟨h, h2, fr, h3, kl _ h4⟩)))
  · refine Or.inr (Or.inr (Or.inr (Or.inr (Or.inl ⟨h, ⟨by rw [e8]; exact h2.1, h2.2⟩, e10.trans h3, y, e14.trans y1, anc_same (fun a => hG a 15 (by decide) (by decide)) _ _ y2, (e4 y).trans y3, y4⟩))))
  · exact Or.inr (Or.inr (Or.inr (Or.inr (Or.inr (Or.inl ⟨h, b, ss, kl _ hK, hr⟩)))))
  · exact Or.inr (Or.inr (Or.inr (Or.inr (Or.inr (Or.inr h)))))
section FIN
variable {zs : List Clz} {X : Nat → List Int} {F0 : FT} {mk : Nat}
/-- the tree's fields, all named -/
def F2of (F : FT) : FT := fnF (nuF F (lnF F)) (lnF F) 0
theorem F2_eq (F : FT) (a f : Nat) (h1 : f ≠ 9) (h2 : f ≠ 13) : F2of F a f = F a f := (fnF_ne _ _ _ _ _ h1).trans (nuF_ne _ _ _ _ h2)
theorem prtL_len {xs : List Int} {ss : List Nat} : (prtL xs ss).length = ss.length := List.length_map ..
theorem fin_ok (hzs : zsk 100 zs) (hok : okP zs) (hzl : zs.length ≤ 40) (hT : TI F0 mk) (hX : XOK X F0) (hV : FVL F0) (hN : ∀ x ∈ lnF F0, NS zs X F0 x) : (TI (F2of F0) mk ∧ lnF (F2of F0) = lnF F0) ∧ (∀ x ∈ lnF F0, NS zs X (F2of F0) x) ∧ ((∀ x ∈ lnF F0, isFn (nuF F0 (lnF F0)) x → (ord (X x)).length ≤ 8) → ∀ x ∈ lnF F0, (RK X (F2of F0) x ∧ (F2of F0 x 9 ≠ -1 → ∀ j, j < nkc (F2of F0) x → MK X (F2of F0) x (nfk (F2of F0) x + j))) ∧ (F2of F0 x 9 ≠ -1 ↔ isFn (nuF F0 (lnF F0)) x)) := by
  have e2 : ∀ a f, f ≠ 9 → f ≠ 13 → F2of F0 a f = F0 a f := fun a f => F2_eq F0 a f
  obtain ⟨t1, t2⟩ : TI (F2of F0) mk ∧ lnF (F2of F0) = lnF F0 := hT.upd fun x f hf => e2 x f (by omega) (by omega)
  have hN2 : ∀ x ∈ lnF F0, NS zs X (F2of F0) x := fun x hx => (hN x hx).same e2
  refine ⟨⟨t1, t2⟩, hN2, fun h8 x hx => ?_⟩
  have hm := hT.1.2.2
  have hlen := hT.len
  have n9 : ∀ y, y ∈ lnF F0 → ((-1 ≤ F2of F0 y 9 ∧ F2of F0 y 9 < 120) ∧ (F2of F0 y 9 ≠ -1 ↔ isFn (nuF F0 (lnF F0)) y)) := by
    intro y hy
    obtain ⟨a1, a2⟩ := fnF_9 (lnF F0) (nuF F0 (lnF F0)) 0 y hT.1.1 hy
    have a3 : nuF F0 (lnF F0) y 9 = -1 := (nuF_ne _ _ _ _ (by decide)).trans (hV y hy).2.1
    by_cases q : isFn (nuF F0 (lnF F0)) y
    · obtain ⟨k, k1, k2, k3⟩ := a1 q
      have k3 : F2of F0 y 9 = (k : Int) := k3
      exact ⟨by omega, ⟨fun _ => q, fun _ => by omega⟩⟩
    · have k3 : F2of F0 y 9 = -1 := (a2 q).trans a3
      exact ⟨by omega, ⟨fun h => absurd k3 h, fun h => absurd h q⟩⟩
  obtain ⟨e1, ea, e3⟩ := hX x hx
  have hNx := hN2 x hx
  obtain ⟨k1, -⟩ := hNx.k
  obtain ⟨r9, i9⟩ := n9 x hx
  have ef4 : nuF F0 (lnF F0) x 4 = F0 x 4 := nuF_ne _ _ _ _ (by decide)
  have eF4 : F2of F0 x 4 = F0 x 4 := e2 x 4 (by decide) (by decide)
  have blk : (fnx zs (X x) 0).1 = 5 → nth (X x) ((fnx zs (X x) 0).2.1 + 1) ∈ X x ∧ kd (nth (X x) ((fnx zs (X x) 0).2.1 + 1)) = 0 := by
    intro h5
    obtain ⟨⟨-, b1⟩, b2, -⟩ := fnx_blk (zs := zs) (xs := X x) _ 0 rfl (Nat.zero_le _) (by rw [List.drop_zero]; exact h5)
    rw [List.drop_zero] at b1 b2
    exact ⟨nth_mem b1, b2⟩
  -- what is called with
  have h10 : F2of F0 x 4 = 2 ∨ F2of F0 x 4 = 3 ∨ F2of F0 x 4 = 4 → F2of F0 x 10 = -1 ∨ (F2of F0 x 10 ∈ X x ∧ kd (F2of F0 x 10) = 0) := by
    intro hh
    rcases hNx with ⟨h, -⟩ | ⟨h, -⟩ | ⟨h, ⟨-, -, h2c⟩, -⟩ | ⟨h, ⟨-, h2b, h2c⟩, -⟩ | ⟨h, ⟨-, g2, -⟩⟩ | ⟨h, -⟩ | ⟨h, -⟩
    · omega
    · omega
    · exact Or.inl h2c
    · exact Or.inr (by rw [h2c]; exact blk h2b)
    · rw [g2]
      by_cases s5 : (fnx zs (X x) 0).1 = 5
      · rw [if_pos s5]; exact Or.inr (blk s5)
      · rw [if_neg s5]; exact Or.inl rfl
    · omega
    · omega
  have hfn : F2of F0 x 9 ≠ -1 → (F2of F0 x 4 = 2 ∨ F2of F0 x 4 = 3) ∧ (ord (X x)).length ≤ 8 := by
    intro q
    have g := i9.mp q
    refine ⟨?_, h8 x hx g⟩
    unfold isFn at g
    rw [ef4] at g
    omega
  have h4 : F2of F0 x 4 = 4 → (0 ≤ F2of F0 x 14 ∧ (F2of F0 x 14).toNat ∈ lnF F0) ∧ (F2of F0 (F2of F0 x 14).toNat 9 ≠ -1) ∧ (ord (X x)).length ≤ 8 := by
    intro hh
    rcases hN x hx with ⟨h, -⟩ | ⟨h, -⟩ | ⟨h, -⟩ | ⟨h, -⟩ | ⟨h, ⟨-, g2, y, y1, y2, y3, y4⟩⟩ | ⟨h, -⟩ | ⟨h, -⟩
    iterate 4 omega
    · have ym := (anc_mem hT.uok 121 x hx y2).1
      have e14 : F2of F0 x 14 = (y : Int) := (e2 x 14 (by decide) (by decide)).trans y1
      rw [e14, toNat_n]
      have hfy : isFn (nuF F0 (lnF F0)) y := by
        have k13 := nuF_13 (lnF F0) F0 y (fun z hz => (hV z hz).1.1)
        rw [if_pos (show ∃ z ∈ lnF F0, F0 z 14 = (y : Int) from ⟨x, hx, y1⟩)] at k13
        have k4 : nuF F0 (lnF F0) y 4 = F0 y 4 := nuF_ne _ _ _ _ (by decide)
        unfold isFn
        rw [k4, k13, y3]
        unfold itS
        by_cases s5 : (fnx zs (X x) 0).1 = 5
        · rw [if_pos s5]; exact Or.inl rfl
        · rw [if_neg s5]; exact Or.inr ⟨rfl, by decide⟩
      refine ⟨⟨by omega, ym⟩, (n9 y ym).2.mpr hfy, ?_⟩
      have := (rnc_ord _ _ [] [] rfl y4).1
      have h8y := h8 y ym hfy
      show (ordo (X x) []).length ≤ 8
      rw [this]
      exact h8y
    · omega
    · omega
  have hsid : (F2of F0 x 4 = 4 ∨ F2of F0 x 9 ≠ -1) → (sid (X x) (F2of F0 x 10)).length ≤ 8 := by
    intro q
    rcases q with q | q
    · have := sid_len (h10 (Or.inr (Or.inr q)))
      have := (h4 q).2.2
      omega
    · obtain ⟨q1, q2⟩ := hfn q
      have := sid_len (h10 (by omega))
      omega
  refine ⟨⟨⟨⟨k1, fun q => ?_, fun q => ?_⟩, ⟨fun q => ?_, fun q => ?_⟩, ⟨r9, fun q => ?_⟩, hsid⟩, fun q j hj => ⟨⟨hsid (Or.inr q), ?_⟩, fun q3 => ?_⟩⟩, i9⟩
  · rcases hNx with ⟨h, -⟩ | ⟨h, -, h3⟩ | ⟨h, -⟩ | ⟨h, -⟩ | ⟨h, -⟩ | ⟨h, -⟩ | ⟨h, -⟩
    · omega
    · rw [h3.nkc, argL_len]
      have := arN_lt (nth (X x) 0)
      omega
    iterate 5 omega
  · rcases hNx with ⟨h, -⟩ | ⟨h, -⟩ | ⟨h, -, h3⟩ | ⟨h, -⟩ | ⟨h, -⟩ | ⟨h, -⟩ | ⟨h, -⟩
    · omega
    · omega
    · rw [h3.nkc]; exact Nat.le_refl _
    iterate 4 omega
  · refine i9.mpr (Or.inl ?_)
    rw [ef4, ← eF4]; exact q
  · rcases hNx with ⟨h, -⟩ | ⟨h, -⟩ | ⟨h, -⟩ | ⟨h, -⟩ | ⟨h, -⟩ | ⟨h, b, ss, hK, hs, -⟩ | ⟨h, -⟩
    iterate 5 omega
    · have e := (hK.2 0 _ rfl).1
      rw [Nat.add_zero] at e
      rw [hK.nkc, List.length_cons, prtL_len, e, hs, Nat.add_comm]
    · omega
  · obtain ⟨⟨a1, a2⟩, a3, -⟩ := h4 q
    obtain ⟨b1, -⟩ := n9 _ a2
    exact ⟨a1, by rw [t2]; exact a2, b1⟩
  · have hs8 := hsid (Or.inr q)
    obtain ⟨q1, q2⟩ := hfn q
    unfold mka
    by_cases q3 : F2of F0 x 4 = 3
    · rw [if_pos q3]
      rcases hNx with ⟨h, -⟩ | ⟨h, -⟩ | ⟨h, -⟩ | ⟨h, ⟨-, h2b, h2c⟩, fr, hfr, hK⟩ | ⟨h, -⟩ | ⟨h, -⟩ | ⟨h, -⟩
      iterate 3 omega
      · have hn := hK.nkc
        have hcon := blk_con hok h2b
        have h4c : ∀ z ∈ zs, z.1 = nth (X x) (fnx zs (X x) 0).2.1 → arN z.2.1 ≤ 4 := by
          intro z hz hzf
          obtain ⟨c1, c2⟩ := (hzs z hz).2.1.resolve_left (hcon z hz hzf)
          have := (c1.2.2.1 c2).1
          have := arN_ar z.2.1
          omega
        have hg := List.getElem?_eq_getElem (show j < (spk (nth (X x) (fnx zs (X x) 0).2.1) (nth (X x) ((fnx zs (X x) 0).2.1 + 1)) (X x) (fnx zs (X x) 0).2.1 zs fr).length by omega)
        obtain ⟨-, d2, d3⟩ := hK.2 j _ hg
        obtain ⟨z, z1, z2, z3, -⟩ := spk_in zs fr h4c _ (List.getElem_mem _)
        have h5 := h4c z z1 z2
        have hb := oth_lt (blk h2b)
        unfold lfs
        rw [List.length_append, vsq_len, d2, z3, h2c]
        omega
      iterate 3 omega
    · rw [if_neg q3]; omega
  · rcases hNx with ⟨h, -⟩ | ⟨h, -⟩ | ⟨h, -⟩ | ⟨h, ⟨-, h2b, h2c⟩, fr, hfr, hK⟩ | ⟨h, -⟩ | ⟨h, -⟩ | ⟨h, -⟩
    iterate 3 omega
    · have hn := hK.nkc
      have hcon := blk_con hok h2b
      have h4c : ∀ z ∈ zs, z.1 = nth (X x) (fnx zs (X x) 0).2.1 → arN z.2.1 ≤ 4 := by
        intro z hz hzf
        obtain ⟨c1, c2⟩ := (hzs z hz).2.1.resolve_left (hcon z hz hzf)
        have := (c1.2.2.1 c2).1
        have := arN_ar z.2.1
        omega
      have hg := List.getElem?_eq_getElem (show j < (spk (nth (X x) (fnx zs (X x) 0).2.1) (nth (X x) ((fnx zs (X x) 0).2.1 + 1)) (X x) (fnx zs (X x) 0).2.1 zs fr).length by omega)
      obtain ⟨-, d2, d3⟩ := hK.2 j _ hg
      obtain ⟨z, z1, z2, z3, fr', z4, z5, -⟩ := spk_in zs fr h4c _ (List.getElem_mem _)
      have hv := ((hzs z z1).2.1.resolve_left (hcon z z1 z2)).1
      rw [d2, d3, z3, z5]
      exact ⟨hv.inR, h4c z z1 z2, by omega, by omega⟩
    iterate 3 omega
end FIN

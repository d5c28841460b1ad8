/-! ===== what holds of a tree that was looked at ===== -/
def anc (F : FT) : Nat → Nat → Nat → Prop
  | 0, _, _ => False
  | n + 1, x, y => F x 15 = (y : Int) ∨ (0 ≤ F x 15 ∧ anc F n (F x 15).toNat y)
/-- what stands below a node -/
def KL (X : Nat → List Int) (F : FT) (x : Nat) (es : List Kd3) : Prop := F x 8 = (es.length : Int) ∧ ∀ j e, es[j]? = some e → X (nfk F x + j) = e.1 ∧ F (nfk F x + j) 11 = e.2.1 ∧ F (nfk F x + j) 12 = e.2.2
def NS5 (X : Nat → List Int) (F : FT) (x : Nat) : Prop := ∃ (b : List Int) (ss : List Nat), KL X F x ((b, -1, -1) :: prtL (X x) ss) ∧ ss.length = (ord b).length ∧ (∀ s ∈ ss, s < (X x).length) ∧ wf 1 b ∧ av b
def NS4 (zs : List Clz) (X : Nat → List Int) (F : FT) (x : Nat) : Prop := (F x 8 = 0 ∧ (kd (nth (X x) 0) = 2 ∧ (fnx zs (X x) 0).1 ≠ 1)) ∧ F x 10 = (if (fnx zs (X x) 0).1 = 5 then nth (X x) ((fnx zs (X x) 0).2.1 + 1) else -1) ∧ ∃ y : Nat, F x 14 = (y : Int) ∧ anc F 121 x y ∧ F y 4 = itS (fnx zs (X x) 0) ∧ rnc (X x) (X y) [] [] = true
def NS (zs : List Clz) (X : Nat → List Int) (F : FT) (x : Nat) : Prop := (F x 4 = 0 ∧ F x 8 = 0 ∧ kd (nth (X x) 0) = 0) ∨ (F x 4 = 1 ∧ kd (nth (X x) 0) = 1 ∧ KL X F x (argL (X x) (arN (nth (X x) 0)) 0)) ∨ (F x 4 = 2 ∧ (kd (nth (X x) 0) = 2 ∧ (fnx zs (X x) 0).1 = 4 ∧ F x 10 = -1) ∧ KL X F x [(stx (zs.getD (fnx zs (X x) 0).2.2 (0, -1, [], [])) (X x) (fnx zs (X x) 0).2.1, -1, -1)]) ∨ (F x 4 = 3 ∧ (kd (nth (X x) 0) = 2 ∧ (fnx zs (X x) 0).1 = 5 ∧ F x 10 = nth (X x) ((fnx zs (X x) 0).2.1 + 1)) ∧ ∃ fr, fr + 400 < 65536 ∧ KL X F x (spk (nth (X x) (fnx zs (X x) 0).2.1) (nth (X x) ((fnx zs (X x) 0).2.1 + 1)) (X x) (fnx zs (X x) 0).2.1 zs fr)) ∨ (F x 4 = 4 ∧ NS4 zs X F x) ∨ (F x 4 = 5 ∧ NS5 X F x) ∨ (F x 4 = 6 ∧ F x 8 = 0)
theorem NS.k {zs : List Clz} {X : Nat → List Int} {F : FT} {x : Nat} (h : NS zs X F x) : (0 ≤ F x 4 ∧ F x 4 ≤ 6) ∧ (isS (F x 4) → kd (nth (X x) 0) = 2) := by
  unfold isS
  rcases h with h | h | h | h | h | h | h
  · exact ⟨by omega, fun q => by omega⟩
  · exact ⟨by omega, fun q => by omega⟩
  · exact ⟨by omega, fun q => h.2.1.1⟩
  · exact ⟨by omega, fun q => h.2.1.1⟩
  · exact ⟨by omega, fun q => by omega⟩
  · exact ⟨by omega, fun q => by omega⟩
  · exact ⟨by omega, fun q => by omega⟩
theorem anc_cong {F G : FT} {L : List Nat} (hU : Uok F L) (hG : ∀ x ∈ L, G x 15 = F x 15) {y : Nat} : ∀ (n x : Nat), x ∈ L → anc F n x y → anc G n x y := by
  intro n
  induction n with
  | zero => intro x _ h; exact h
  | succ n ih =>
    intro x hx h
    unfold anc at h ⊢
    rw [hG x hx]
    rcases h with h | ⟨h1, h2⟩
    · exact Or.inl h
    · rcases hU x hx with e | ⟨-, -, e3⟩
      · omega
      · exact Or.inr ⟨h1, ih _ e3 h2⟩
theorem anc_mem {F : FT} {L : List Nat} (hU : Uok F L) {y : Nat} : ∀ (n x : Nat), x ∈ L → anc F n x y → y ∈ L ∧ y < x := by
  intro n
  induction n with
  | zero => intro x _ h; exact h.elim
  | succ n ih =>
    intro x hx h
    unfold anc at h
    rcases hU x hx with e | ⟨e1, e2, e3⟩
    · rcases h with h | ⟨h1, -⟩ <;> omega
    · rcases h with h | ⟨h1, h2⟩
      · rw [h, toNat_n] at e3
        exact ⟨e3, by omega⟩
      · obtain ⟨g1, g2⟩ := ih _ e3 h2
        exact ⟨g1, by omega⟩
theorem anc_rem {F : FT} {mk g : Nat} (h : TI F mk) (hg : g ∈ lnF F) : ∀ (n x : Nat), x ∈ lnF (upF F g 8 0) → ¬ anc F n x g := by
  obtain ⟨hT1, -⟩ := h.rem hg
  intro n
  induction n with
  | zero => intro x _ q; exact q
  | succ n ih =>
    intro x hx q
    unfold anc at q
    by_cases x0 : x = 0
    · subst x0
      rw [h.2.2.1.1] at q
      omega
    · obtain ⟨p, j, t1, t2, t3, t4, t5, t6⟩ := hT1.ndx hx x0
      have hpg : p ≠ g := by
        intro q
        subst q
        unfold nkc at t2
        rw [upF_at] at t2
        exact absurd t2 (Nat.not_lt_zero j)
      rw [upF_ne (by omega)] at t4
      rw [t4] at q
      rcases q with q | ⟨-, q⟩
      · omega
      · rw [toNat_n] at q
        exact ih p t1 q
theorem nrs_anc {P : Nat → Bool} {F : FT} {y : Nat} {L : List Nat} (hU : Uok F L) : ∀ (n x : Nat), x ∈ L → nrs P F n (F x 15) = (y : Int) → anc F n x y := by
  intro n
  induction n with
  | zero => intro x _ h; have h : (-1 : Int) = (y : Int) := h; omega
  | succ n ih =>
    intro x hx h
    unfold nrs at h
    unfold anc
    rcases hU x hx with q | ⟨e1, e2, e3⟩
    · rw [if_pos q] at h; omega
    · rw [if_neg (by omega)] at h
      by_cases hp : P (F x 15).toNat = true
      · rw [if_pos hp] at h; exact Or.inl h
      · rw [if_neg hp] at h
        exact Or.inr ⟨e1, ih _ e3 h⟩
/-- what was told of a node stays, where it and what it speaks of stay -/
theorem NS.keep {zs : List Clz} {X Y : Nat → List Int} {F G : FT} {mk x k : Nat} (h : NS zs X F x) (hT : TI F mk) (hx : x ∈ lnF F) (hxk : x ≠ k) (hX : ∀ a, a < mk → Y a = X a) (hF : ∀ a, a < mk → ∀ f, f ≠ 4 → f ≠ 8 → f ≠ 10 → f ≠ 14 → f ≠ 16 → G a f = F a f) (hF2 : ∀ a, a < mk → a ≠ k → ∀ f, G a f = F a f) (hk : ∀ n, anc F n x k → ¬ isS (F k 4)) : NS zs Y G x := by
  have hxm := hT.1.2.1 x hx
  have eX : Y x = X x := hX x hxm
  have eF : ∀ f, G x f = F x f := hF2 x hxm hxk
  have efk : nfk G x = nfk F x := by unfold nfk; rw [eF]
  have keep : ∀ es, KL X F x es → KL Y G x es := by
    intro es ⟨h1, h2⟩
    refine ⟨by rw [eF]; exact h1, fun j e he => ?_⟩
    have hj := (List.getElem?_eq_some_iff.mp he).1
    have hkid := hT.1.2.1 _ (hT.kid hx (j := j) (by unfold nkc; omega))
    rw [efk, hX _ hkid, hF _ hkid 11 (by decide) (by decide) (by decide) (by decide) (by decide), hF _ hkid 12 (by decide) (by decide) (by decide) (by decide) (by decide)]
    exact h2 j e he
  unfold NS at h ⊢
  rw [eX, eF, eF, eF]
  rcases h with h | ⟨h1, h2, h3⟩ | ⟨h1, h2, h3⟩ | ⟨h1, h2, fr, h3, h4⟩ | ⟨h1, h2, h3, y, h4, h5, h6, h7⟩ | ⟨h1, b, ss, h2, h3⟩ | h
  · exact Or.inl h
  · exact Or.inr (Or.inl ⟨h1, h2, keep _ h3⟩)
  · exact Or.inr (Or.inr (Or.inl ⟨h1, h2, keep _ h3⟩))
  · exact Or.inr (Or.inr (Or.inr (Or.inl ⟨h1, h2, fr, h3, keep _ h4⟩)))
  · refine Or.inr (Or.inr (Or.inr (Or.inr (Or.inl ⟨h1, ?_⟩))))
    obtain ⟨y1, y2⟩ := anc_mem hT.uok _ _ hx h5
    have hyk : y ≠ k := by
      intro q
      subst q
      refine hk _ h5 ?_
      rw [h6]
      unfold isS itS
      split <;> omega
    unfold NS4
    rw [eX, eF, eF, eF]
    refine ⟨h2, h3, y, h4, anc_cong hT.uok (fun a ha => hF a (hT.1.2.1 a ha) 15 (by decide) (by decide) (by decide) (by decide) (by decide)) _ _ hx h5, ?_, ?_⟩
    · rw [hF2 y (by omega) hyk]; exact h6
    · rw [hX y (by omega)]; exact h7
  · refine Or.inr (Or.inr (Or.inr (Or.inr (Or.inr (Or.inl ⟨h1, b, ss, ?_⟩)))))
    rw [eX]
    exact ⟨keep _ h2, h3⟩
  · exact Or.inr (Or.inr (Or.inr (Or.inr (Or.inr (Or.inr h)))))
theorem insg_ord {xs : List Int} : ∀ (ys : List Int) (p : Nat) (ps qs : Prs), insg xs ys p ps = some qs → pvx qs = ordo ys (pvx ps) := by
  intro ys
  induction ys with
  | nil => intro p ps qs h; cases h; rfl
  | cons c ys ih =>
    intro p ps qs h
    unfold insg at h
    unfold ordo
    by_cases hk : kd c = 0
    · rw [if_pos hk] at h
      by_cases hm : ix (pvx ps) c = -1
      · rw [if_pos hm] at h
        rw [if_pos ⟨hk, fun q => ix_mem.mpr q hm⟩, ih _ _ _ h, pvx_app]
      · rw [if_neg hm] at h
        rw [if_neg (fun q => q.2 (ix_mem.mp hm))]
        split at h
        · exact ih _ _ _ h
        · cases h
    · rw [if_neg hk] at h
      rw [if_neg (fun q => hk q.1)]
      split at h
      · exact ih _ _ _ h
      · cases h
theorem insg_psl {xs : List Int} (hv : av xs) : ∀ (ys : List Int) (p w : Nat) (ps qs : Prs), av ys → wf w (xs.drop p) → wf w ys → psl xs ps → insg xs ys p ps = some qs → psl xs qs := by
  intro ys
  induction ys with
  | nil => intro p w ps qs _ _ _ hp h; cases h; exact hp
  | cons c ys ih =>
    intro p w ps qs hvy hwx hwy hps h
    obtain ⟨v, rfl, hwy2⟩ := wf_pos hwy
    have hp := wf_some hwx
    have hvy' : av ys := fun d hd => hvy d (List.mem_cons_of_mem _ hd)
    unfold insg at h
    by_cases hk : kd c = 0
    · have ha0 := var_ar (hvy c (by simp)) hk
      rw [ha0, Nat.add_zero] at hwy2
      rw [if_pos hk] at h
      split at h
      · exact ih _ v _ _ hvy' (wf_beh hwx) hwy2 (hps.app hp) h
      · split at h
        · exact ih _ v _ _ hvy' (wf_beh hwx) hwy2 hps h
        · cases h
    · rw [if_neg hk] at h
      split at h
      · rename_i he
        have := wf_next hp hwx
        rw [← he] at this
        exact ih _ _ _ _ hvy' this hwy2 hps h
      · cases h
theorem argL_ok {xs : List Int} {b : Nat} (hw : wf (1 + b) (xs.drop 0)) (hv : av xs) : ∀ (t j : Nat), j + t = arN (nth xs 0) → ∀ e ∈ argL xs t j, wf 1 e.1 ∧ av e.1 := by
  intro t
  induction t with
  | zero => intro j _ e he; cases he
  | succ t ih =>
    intro j h e he
    obtain ⟨-, c, x2⟩ := agp_lt hw (k := j) (by omega)
    rcases List.mem_cons.mp he with q | q
    · rw [q]
      exact ⟨(wf_sk _ _ _ x2).1, fun c hc => hv c (sub_mem hc)⟩
    · exact ih (j + 1) (by omega) e q
theorem prtL_ok {xs : List Int} (hw : wf 1 xs) (hv : av xs) {ss : List Nat} (hs : ∀ s ∈ ss, s < xs.length) : ∀ e ∈ prtL xs ss, wf 1 e.1 ∧ av e.1 := by
  intro e he
  obtain ⟨s, h1, h2⟩ := List.mem_map.mp he
  obtain ⟨b, hb⟩ := wf_at hw (hs s h1)
  rw [← h2]
  exact ⟨(wf_sk _ _ _ hb).1, fun c hc => hv c (sub_mem hc)⟩
theorem spk_ok {xs : List Int} {f blk : Int} {p : Nat} (hw : wf 1 xs) (hv : av xs) (hb : kd blk = 0) : ∀ (zs : List Clz) (fr : Nat), zsk 100 zs → (∀ z ∈ zs, z.1 = f → z.2.1 ≠ -1) → (∀ z ∈ zs, z.1 = f → ∀ fr, fr + 4 < 65536 → CLf (spl xs blk z.2.1 fr) p z) → fr + 4 * zs.length + 4 < 65536 → ∀ e ∈ spk f blk xs p zs fr, wf 1 e.1 ∧ av e.1 := by
  intro zs
  induction zs with
  | nil => intro fr _ _ _ _ e he; cases he
  | cons z zs ih =>
    intro fr hzs hcon hclf hfr e he
    rw [List.length_cons] at hfr
    have hzk := hzs z (by simp)
    have hzs' : zsk 100 zs := fun w hw => hzs w (List.mem_cons_of_mem _ hw)
    have hcon' : ∀ w ∈ zs, w.1 = f → w.2.1 ≠ -1 := fun w hw => hcon w (List.mem_cons_of_mem _ hw)
    have hclf' : ∀ w ∈ zs, w.1 = f → ∀ fr, fr + 4 < 65536 → CLf (spl xs blk w.2.1 fr) p w := fun w hw => hclf w (List.mem_cons_of_mem _ hw)
    unfold spk at he
    by_cases hzf : z.1 = f
    · rw [if_pos hzf] at he
      obtain ⟨c1, c2⟩ := hzk.2.1.resolve_left (hcon z (by simp) hzf)
      have hal := arN_ar z.2.1
      have hn4 : arN z.2.1 ≤ 4 := by have := (c1.2.2.1 c2).1; omega
      rcases List.mem_cons.mp he with q | q
      · rw [q]
        obtain ⟨s1, s2, -⟩ := spl_ok (fr := fr) hw hv hb c1 hn4 (by omega)
        exact ⟨stx_wf s1 (hclf z (by simp) hzf fr (by omega)) hzk, stx_av s2 hzk⟩
      · exact ih _ hzs' hcon' hclf' (by omega) e q
    · rw [if_neg hzf] at he
      exact ih _ hzs' hcon' hclf' (by omega) e he

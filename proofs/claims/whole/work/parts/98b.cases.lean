/-! ===== the cases of a node ===== -/
def spl (xs : List Int) (blk con : Int) (fr : Nat) : List Int := xs.flatMap fun c => if c = blk then con :: vsq fr (arN con) else [c]
def spk (f blk : Int) (xs : List Int) (p : Nat) : List Clz → Nat → List Kd3
  | [], _ => []
  | z :: zs, fr => if z.1 = f then (stx z (spl xs blk z.2.1 fr) p, z.2.1, (fr : Int)) :: spk f blk xs p zs (fr + arN z.2.1) else spk f blk xs p zs fr
def spf (f : Int) : List Clz → Nat → Nat
  | [], fr => fr
  | z :: zs, fr => if z.1 = f then spf f zs (fr + arN z.2.1) else spf f zs fr
theorem spf_le (f : Int) : ∀ (zs : List Clz) (fr : Nat), (∀ z ∈ zs, z.1 = f → arN z.2.1 ≤ 4) → fr ≤ spf f zs fr ∧ spf f zs fr ≤ fr + 4 * zs.length := by
  intro zs
  induction zs with
  | nil => intro fr _; exact ⟨Nat.le_refl _, Nat.le_add_right _ _⟩
  | cons z zs ih =>
    intro fr h
    have hz := h z (by simp)
    have hr := fun fr => ih fr fun w hw => h w (List.mem_cons_of_mem _ hw)
    unfold spf
    rw [List.length_cons]
    by_cases q : z.1 = f
    · rw [if_pos q]; have := hr (fr + arN z.2.1); have := hz q; omega
    · rw [if_neg q]; have := hr fr; omega
theorem upF_cong {F : FT} {k m : Nat} {cn cv : Int} (h : k ≠ m) : adF F k m cn cv = upF (upF (adF F k m (-1) (-1)) m 11 cn) m 12 cv := by
  funext a f
  unfold upF
  by_cases q : a = m ∧ f = 12
  · obtain ⟨rfl, rfl⟩ := q
    rw [if_pos ⟨rfl, rfl⟩, adF_new]
    rfl
  rw [if_neg q]
  by_cases q2 : a = m ∧ f = 11
  · obtain ⟨rfl, rfl⟩ := q2
    rw [if_pos ⟨rfl, rfl⟩, adF_new]
    rfl
  rw [if_neg q2]
  by_cases q3 : a = m
  · subst q3
    rw [adF_new, adF_new, if_neg (show ¬ f = 11 by omega), if_neg (show ¬ f = 12 by omega), if_neg (show ¬ f = 11 by omega), if_neg (show ¬ f = 12 by omega)]
  · unfold adF
    rw [if_neg q3, if_neg q3]
section CASES
variable {M : Mem} {X : Nat → List Int} {F : FT} {mk k : Nat} {T : TS}
/-- a field of a node that tells nothing of the shape -/
theorem TRc.setI (h : TRc M X F mk) (hT : TI F mk) {m f : Nat} {v : Int} (hm : m < 120) (hf : f = 9 ∨ f = 10 ∨ f = 11 ∨ f = 12 ∨ f = 13 ∨ (f = 4 ∧ v ≠ -1)) : TRc (stI M (30 + 6 * m) f v) X (upF F m f v) mk := by
  obtain ⟨⟨hLN, h9⟩, hnd, hwk⟩ := h
  have f1 : Fj (fun a j => a = 30 + 6 * m ∧ j = f) M (stI M (30 + 6 * m) f v) := Fj.ofI ⟨rfl, rfl⟩
  have ne : ∀ {a b : Nat}, ¬ (a = m ∧ b = f) → upF F m f v a b = F a b := fun h => upF_ne h
  have hl : lnF (upF F m f v) = lnF F := lnF_cong fun x _ => ⟨ne (by omega), ne (by omega)⟩
  refine ⟨⟨by rw [hl]; exact ⟨(f1.2.2 _ _ (by omega)).trans hLN.1, hLN.2⟩, (f1.2.2 _ _ (by omega)).trans h9⟩, fun x hx => ?_, fun x hx => ?_⟩
  · rw [hl] at hx
    obtain ⟨p1, ⟨p2, p3⟩, ⟨p4, p5⟩, ⟨p6, p7⟩, p8⟩ := hnd x hx
    have e1 : nfk (upF F m f v) x = nfk F x := by unfold nfk; rw [ne (by omega)]
    have e2 : nkc (upF F m f v) x = nkc F x := by unfold nkc; rw [ne (by omega)]
    refine ⟨p1.fq (R := nor) (f1.fq fun a k q => q) (by omega), ⟨fun g hg => ?_, ?_⟩, ⟨by rw [ne (by omega)]; exact p4, by rw [ne (by omega)]; exact p5⟩, ⟨by rw [ne (by omega), e1]; exact p6, by rw [ne (by omega), e1, e2]; exact p7⟩, ?_⟩
    · by_cases q : x = m ∧ g = f
      · obtain ⟨rfl, rfl⟩ := q
        rw [mI_at, upF_at]
      · rw [mI_ne (by omega), ne q]
        exact p2 g hg
    · by_cases q : x = m ∧ 4 = f
      · obtain ⟨rfl, rfl⟩ := q
        rw [mI_at, upF_at, if_neg (by omega)]
      · rw [mI_ne (by omega), ne q]
        exact p3
    · show mR M (30 + 6 * x) 18 = _
      rw [p8]
      unfold ndx
      rw [ne (a := x) (b := 15) (by omega), ne (a := x) (b := 5) (by omega), ne (b := 8) (by omega)]
  · obtain ⟨⟨zs, w1⟩, us, w2⟩ := hwk x hx
    exact ⟨⟨zs, w1.fj f1 (by omega) (by omega)⟩, us, w2.fj f1 (by omega) (by omega)⟩
theorem vsq_ok {fr n : Nat} (h : fr + n < 65536) : wf n (vsq fr n) ∧ av (vsq fr n) := by
  have hv : av (vsq fr n) := fun c hc => by
    obtain ⟨k, h1, rfl⟩ := vsq_mem.mp hc
    exact vc_var (by omega)
  refine ⟨?_, hv⟩
  induction n with
  | zero => exact wf_nil.mpr rfl
  | succ n ih =>
    rw [vsq_s]
    refine wf_app _ _ _ _ (ih (by omega) fun c hc => hv c (by rw [vsq_s]; exact List.mem_append_left _ hc)) ?_
    have := var_ar (vc_var (c := (fr : Int) + (n : Int)) (by omega)) (kd_var (by omega)).1
    show wf (0 + arN ((fr : Int) + (n : Int))) []
    rw [this]
    exact wf_nil.mpr rfl
theorem spl_ok {xs : List Int} {blk con : Int} {fr w : Nat} (hw : wf w xs) (hv : av xs) (hb : kd blk = 0) (hc : vc con) (hn : arN con ≤ 4) (hfr : fr + 4 < 65536) : wf w (spl xs blk con fr) ∧ av (spl xs blk con fr) ∧ (spl xs blk con fr).length ≤ 5 * xs.length := by
  obtain ⟨v1, v2⟩ := vsq_ok (fr := fr) (n := arN con) (by omega)
  refine ⟨wf_flat _ _ hw fun c hcm => ?_, fun d hd => ?_, ?_⟩
  · by_cases q : c = blk
    · rw [if_pos q]
      refine Or.inr ⟨var_ar (hv c hcm) (q ▸ hb), ?_⟩
      show wf (0 + arN con) (vsq fr (arN con))
      rw [Nat.zero_add]
      exact v1
    · rw [if_neg q]; exact Or.inl rfl
  · obtain ⟨c, hcm, h2⟩ := List.mem_flatMap.mp hd
    by_cases q : c = blk
    · rw [if_pos q] at h2
      rcases List.mem_cons.mp h2 with e | e
      · rw [e]; exact hc
      · exact v2 d e
    · rw [if_neg q] at h2
      rw [List.mem_singleton.mp h2]
      exact hv c hcm
  · have := flat_len (f := fun c => if c = blk then con :: vsq fr (arN con) else [c]) (n := 5) xs fun c _ => by
      by_cases q : c = blk
      · rw [if_pos q, List.length_cons, vsq_len]; omega
      · rw [if_neg q]; simp
    exact this
theorem Tr_fill62 (hk : k < 120) {con blk : Int} (hc : vc con) {fr : Nat} (hfr : fr + 16 < 65536) (d4 : LV) (i : Int) : ∀ (t j : Nat) (M : Mem) (ys : List Int), arN con - j = t → j ≤ arN con → Good M → XE M 750 256 ys → mI M 27 13 = (fr : Int) → ys.length + t ≤ 256 → ∃ M', Tr_fillSplit_62 27 (30 + 6 * k) con i (j : Int) d4 M = Tr_fillSplit_9 27 (30 + 6 * k) con (wr (i + 1)) d4 (some (.inl ((arN con : Nat) : Int))) M' ∧ XE M' 750 256 (ys ++ (vsq fr (arN con)).drop j) ∧ Good M' ∧ Fi (eS 750) M M' := by
  have ha := arN_ar con
  have hal := arN_lt con
  intro t
  induction t with
  | zero =>
    intro j M ys h1 h2 hG hY h13 hl
    have : j = arN con := by omega
    subst this
    rw [Tr_fillSplit_62_eq, Ex_arity_s hc.inR, cI_s, if_neg (by omega), List.drop_eq_nil_of_le (by rw [vsq_len]; exact Nat.le_refl _), List.append_nil]
    exact ⟨M, rfl, hY, hG, Fi.refl⟩
  | succ t ih =>
    intro j M ys h1 h2 hG hY h13 hl
    have hj : j < arN con := by omega
    have hdr : (vsq fr (arN con)).drop j = ((fr : Int) + (j : Int)) :: (vsq fr (arN con)).drop (j + 1) := by rw [drop_cons (by rw [vsq_len]; exact hj), vsq_nth hj]
    have ec := Ex_cell_s (M := M) (k := 0) (a := 0) (s := (fr : Int) + (j : Int)) (by decide) (by decide) (by omega)
    rw [show (0 : Int) * 16777216 + 0 * 65536 + ((fr : Int) + (j : Int)) = (fr : Int) + (j : Int) by omega] at ec
    obtain ⟨M1, a1, a2, a3⟩ := Ex_add_s hG hY ((fr : Int) + (j : Int)) (by omega)
    have hG1 := hG.fi a3
    obtain ⟨M2, b1, b2, b3, b4⟩ := ih (j + 1) M1 _ (by omega) (by omega) hG1 a2 ((a3.2.2 _ (by unfold eS; omega) _).trans h13) (by rw [List.length_append, List.length_singleton]; omega)
    rw [Tr_fillSplit_62_eq, Ex_arity_s hc.inR, cI_s, if_pos (by omega), hG.gT, gd_t, gd_t, h13, wr_id (x := (fr : Int) + (j : Int)) (by omega) (by omega), ec, cI_s, hG.r27_4, hY.g hG, gd_t, a1, cV_s, wr_s (by omega), b1, hdr]
    refine ⟨M2, rfl, ?_, b3, a3.trans b4⟩
    rw [List.append_assoc] at b2
    exact b2
theorem Tr_fillSplit_s (hk : k < 120) {con blk : Int} (hc : vc con) (hn : arN con ≤ 4) {fr : Nat} (hfr : fr + 16 < 65536) {xs : List Int} (hG : Good M) (hX : XE M (31 + 6 * k) 40 xs) (h10 : mI M (30 + 6 * k) 10 = blk) (h13 : mI M 27 13 = (fr : Int)) {us : List Int} (hP : XE M 750 256 us) : ∃ M', Tr_fillSplit 27 (30 + 6 * k) con M = some (none, M') ∧ XE M' 750 256 (spl xs blk con fr) ∧ Good M' ∧ Fi (eS 750) M M' := by
  have h40 := hX.2.2
  have key : ∀ (t i : Nat) (M : Mem) (ys : List Int) (d4 d5 : LV), xs.length - i = t → i ≤ xs.length → Good M → XE M (31 + 6 * k) 40 xs → mI M (30 + 6 * k) 10 = blk → mI M 27 13 = (fr : Int) → XE M 750 256 ys → ys.length + 5 * t ≤ 256 → ∃ M', Tr_fillSplit_9 27 (30 + 6 * k) con (i : Int) d4 d5 M = some (none, M') ∧ XE M' 750 256 (ys ++ spl (xs.drop i) blk con fr) ∧ Good M' ∧ Fi (eS 750) M M' := by
    intro t
    induction t with
    | zero =>
      intro i M ys d4 d5 h1 h2 hG hX h10 h13 hY hl
      rw [List.drop_eq_nil_of_le (by omega), Tr_fillSplit_9_eq, hG.nd hk, gd_t, (hG.ndr (x := k) hk).1, hX.g hG, gd_t, hX.s, if_neg (by omega)]
      refine ⟨M, rfl, ?_, hG, Fi.refl⟩
      show XE M 750 256 (ys ++ [])
      rw [List.append_nil]
      exact hY
    | succ t ih =>
      intro i M ys d4 d5 h1 h2 hG hX h10 h13 hY hl
      have hi : i < xs.length := by omega
      have e0 : spl (xs.drop i) blk con fr = (if nth xs i = blk then con :: vsq fr (arN con) else [nth xs i]) ++ spl (xs.drop (i + 1)) blk con fr := by rw [drop_cons hi]; rfl
      rw [e0, Tr_fillSplit_9_eq, hG.nd hk, gd_t, (hG.ndr (x := k) hk).1, hX.g hG, gd_t, hX.s, if_pos (by omega), gd_t, gd_t, Ex_cellAt_s hG hX, cA_n hi, cI_s, hG.nd hk, gd_t, h10]
      by_cases q : nth xs i = blk
      · obtain ⟨M1, a1, a2, a3⟩ := Ex_add_s hG hY con (by omega)
        have hG1 := hG.fi a3
        obtain ⟨M2, b1, b2, b3, b4⟩ := Tr_fill62 (blk := blk) hk hc hfr (some (.inl (nth xs i))) (i : Int) _ 0 M1 _ rfl (Nat.zero_le _) hG1 a2 ((a3.2.2 _ (by unfold eS; omega) _).trans h13) (by rw [List.length_append, List.length_singleton]; omega)
        rw [List.drop_zero] at b2
        have b1 : Tr_fillSplit_62 27 (30 + 6 * k) con (i : Int) 0 (some (.inl (nth xs i))) M1 = _ := b1
        have F2 := a3.trans b4
        obtain ⟨M3, c1, c2, c3, c4⟩ := ih (i + 1) M2 _ (some (.inl (nth xs i))) (some (.inl ((arN con : Nat) : Int))) (by omega) (by omega) b3 (hX.fi F2 (by unfold eS; omega) (by unfold eS; omega)) ((F2.2.2 _ (by unfold eS; omega) _).trans h10) ((F2.2.2 _ (by unfold eS; omega) _).trans h13) b2 (by simp only [List.length_append, List.length_cons, List.length_nil, vsq_len]; omega)
        rw [if_pos q, if_pos q, hG.gT, gd_t, hG.r27_4, hY.g hG, gd_t, a1, cV_s, b1, wr_s (by omega), c1]
        refine ⟨M3, rfl, ?_, c3, F2.trans c4⟩
        rw [List.append_assoc, List.append_assoc] at c2
        exact c2
      · obtain ⟨M1, a1, a2, a3⟩ := Ex_add_s hG hY (nth xs i) (by omega)
        have hG1 := hG.fi a3
        obtain ⟨M3, c1, c2, c3, c4⟩ := ih (i + 1) M1 _ (some (.inl (nth xs i))) d5 (by omega) (by omega) hG1 (hX.fi a3 (by unfold eS; omega) (by unfold eS; omega)) ((a3.2.2 _ (by unfold eS; omega) _).trans h10) ((a3.2.2 _ (by unfold eS; omega) _).trans h13) a2 (by rw [List.length_append, List.length_singleton]; omega)
        rw [if_neg q, if_neg q, hG.gT, gd_t, hG.r27_4, hY.g hG, gd_t, a1, cV_s, wr_s (by omega), c1]
        refine ⟨M3, rfl, ?_, c3, a3.trans c4⟩
        rw [List.append_assoc] at c2
        exact c2
  obtain ⟨M1, a1, a2, a3⟩ := Ex_clear_s hG hP
  have hG1 := hG.fi a3
  obtain ⟨M2, b1, b2, b3, b4⟩ := key _ 0 M1 [] none none rfl (Nat.zero_le _) hG1 (hX.fi a3 (by unfold eS; omega) (by unfold eS; omega)) ((a3.2.2 _ (by unfold eS; omega) _).trans h10) ((a3.2.2 _ (by unfold eS; omega) _).trans h13) a2 (by simp only [List.length_nil]; omega)
  have b1 : Tr_fillSplit_9 27 (30 + 6 * k) con 0 none none M1 = _ := b1
  rw [List.drop_zero, List.nil_append] at b2
  rw [Tr_fillSplit_eq, hG.gT, gd_t, hG.r27_4, hP.g hG, gd_t, a1, cV_s, b1]
  exact ⟨M2, rfl, b2, b3, a3.trans b4⟩
end CASES
/-! ===== where a call is blocked ===== -/
theorem fnx_blk {zs : List Clz} {xs : List Int} : ∀ (t i : Nat), xs.length - i = t → i ≤ xs.length → (fnx zs (xs.drop i) i).1 = 5 → (i ≤ (fnx zs (xs.drop i) i).2.1 ∧ (fnx zs (xs.drop i) i).2.1 + 1 < xs.length) ∧ kd (nth xs ((fnx zs (xs.drop i) i).2.1 + 1)) = 0 ∧ (∀ j, i ≤ j → j ≤ (fnx zs (xs.drop i) i).2.1 → kd (nth xs j) = 2) ∧ ∃ c z, fo (nth xs (fnx zs (xs.drop i) i).2.1) zs 0 = some c ∧ zs[c]? = some z ∧ z.2.1 ≠ -1 := by
  intro t
  induction t with
  | zero =>
    intro i h1 h2 h
    rw [List.drop_eq_nil_of_le (by omega)] at h
    cases h
  | succ t ih =>
    intro i h1 h2 h
    have hi : i < xs.length := by omega
    rw [drop_cons hi] at h ⊢
    unfold fnx at h ⊢
    by_cases hk : kd (nth xs i) = 2
    · rw [if_pos hk] at h ⊢
      cases hf : fo (nth xs i) zs 0 with
      | none => rw [hf] at h; cases h
      | some k =>
        rw [hf, fn1_s] at h
        rw [fn1_s]
        obtain ⟨z, z1, z2⟩ : ∃ z, zs[k]? = some z ∧ z.1 = nth xs i := by
          rcases fo_spec (nth xs i) zs 0 with ⟨g, -⟩ | ⟨j, w, g1, g2, g3, -⟩
          · rw [g] at hf; cases hf
          · rw [g1, Nat.zero_add] at hf; cases hf; exact ⟨w, g2, g3⟩
        by_cases hc : conAt zs k = -1
        · rw [if_pos hc] at h; cases h
        · rw [if_neg hc] at h ⊢
          by_cases k0 : kd ((xs.drop (i + 1)).headD 50331648) = 0
          · rw [if_pos k0]
            have hi1 : i + 1 < xs.length := by
              by_cases q : i + 1 < xs.length
              · exact q
              · rw [List.drop_eq_nil_of_le (by omega)] at k0
                exact absurd k0 (by decide)
            have hh : (xs.drop (i + 1)).headD 50331648 = nth xs (i + 1) := by rw [drop_cons hi1]; rfl
            rw [hh] at k0
            refine ⟨⟨Nat.le_refl _, hi1⟩, k0, fun j j1 j2 => ?_, k, z, hf, z1, fun e => hc ((conAt_of z1).trans e)⟩
            have : j = i := Nat.le_antisymm j2 j1
            subst this
            exact hk
          rw [if_neg k0] at h ⊢
          by_cases k1 : kd ((xs.drop (i + 1)).headD 50331648) = 1
          · rw [if_pos k1] at h
            cases hco : co (nth xs i) ((xs.drop (i + 1)).headD 50331648) zs 0 with
            | none => rw [hco] at h; cases h
            | some j => rw [hco] at h; cases h
          · rw [if_neg k1] at h ⊢
            obtain ⟨⟨g1, g2⟩, g3, g4, g5⟩ := ih (i + 1) (by omega) (by omega) h
            refine ⟨⟨by omega, g2⟩, g3, fun j j1 j2 => ?_, g5⟩
            by_cases q : j = i
            · subst q; exact hk
            · exact g4 j (by omega) j2
    · rw [if_neg hk] at h; cases h
theorem spl_pre {xs : List Int} {blk con : Int} {fr p : Nat} (hb : kd blk = 0) (hp : p + 1 < xs.length) (h2 : ∀ j, j ≤ p → kd (nth xs j) = 2) (hx : nth xs (p + 1) = blk) : ∃ r, spl xs blk con fr = xs.take (p + 1) ++ (con :: r) := by
  have e : xs = xs.take (p + 1) ++ (blk :: xs.drop (p + 2)) := by
    conv => lhs; rw [← List.take_append_drop (p + 1) xs, drop_cons hp, hx]
  have h1 : (xs.take (p + 1)).flatMap (fun c => if c = blk then con :: vsq fr (arN con) else [c]) = xs.take (p + 1) := by
    have : ∀ l : List Int, (∀ c ∈ l, kd c = 2) → l.flatMap (fun c => if c = blk then con :: vsq fr (arN con) else [c]) = l := by
      intro l
      induction l with
      | nil => intro _; rfl
      | cons c l ih =>
        intro h
        have hc := h c (by simp)
        rw [List.flatMap_cons, if_neg (fun q => by rw [q, hb] at hc; exact absurd hc (by decide)), ih fun d hd => h d (List.mem_cons_of_mem _ hd)]
        rfl
    refine this _ fun c hc => ?_
    obtain ⟨j, hj⟩ := List.mem_iff_getElem?.mp hc
    have hjl := (List.getElem?_eq_some_iff.mp hj).1
    rw [List.length_take] at hjl
    have : nth xs j = c := by
      rw [List.getElem?_take_of_lt (by omega)] at hj
      unfold nth
      rw [List.getD_eq_getElem?_getD, hj]
      rfl
    rw [← this]
    exact h2 j (by omega)
  refine ⟨vsq fr (arN con) ++ (xs.drop (p + 2)).flatMap (fun c => if c = blk then con :: vsq fr (arN con) else [c]), ?_⟩
  unfold spl
  conv => lhs; rw [e]
  rw [List.flatMap_append, h1, List.flatMap_cons, if_pos rfl]
  rfl
/-- a case fits where the call was blocked -/
theorem spl_clf {zs : List Clz} {xs : List Int} {z : Clz} {fr : Nat} (hw : wf 1 xs) (hv : av xs) (hzs : zsk 100 zs) (h5 : (fnx zs xs 0).1 = 5) (hz : z ∈ zs) (hf : z.1 = nth xs (fnx zs xs 0).2.1) (hcon : z.2.1 ≠ -1) (hfr : fr + 4 < 65536) : CLf (spl xs (nth xs ((fnx zs xs 0).2.1 + 1)) z.2.1 fr) (fnx zs xs 0).2.1 z := by
  obtain ⟨⟨-, g1⟩, g2, g3, -⟩ := fnx_blk (zs := zs) (xs := xs) _ 0 rfl (Nat.zero_le _) (by rw [List.drop_zero]; exact h5)
  rw [List.drop_zero] at g1 g2 g3
  have hzk := hzs z hz
  obtain ⟨c1, c2⟩ := hzk.2.1.resolve_left hcon
  have hal := arN_ar z.2.1
  have hn4 : arN z.2.1 ≤ 4 := by have := (c1.2.2.1 c2).1; omega
  obtain ⟨s1, s2, s3⟩ := spl_ok (fr := fr) hw hv g2 c1 hn4 hfr
  generalize (fnx zs xs 0).2.1 = p at *
  obtain ⟨r, hr⟩ := spl_pre (con := z.2.1) (fr := fr) g2 g1 (fun j hj => g3 j (Nat.zero_le _) hj) rfl
  have hlen : (xs.take (p + 1)).length = p + 1 := by rw [List.length_take]; omega
  have hp : p < (spl xs (nth xs (p + 1)) z.2.1 fr).length := by rw [hr, List.length_append, hlen]; omega
  have hn1 : nth (spl xs (nth xs (p + 1)) z.2.1 fr) p = z.1 := by rw [hr, nth_app1 (by omega), nth_take (by omega), hf]
  have hn2 : nth (spl xs (nth xs (p + 1)) z.2.1 fr) (p + 1) = z.2.1 := by rw [hr, nth_app2 (by omega), hlen, Nat.sub_self]; rfl
  refine ⟨⟨hp, hn1, ?_⟩, fun _ => ⟨by rw [hr, List.length_append, hlen, List.length_cons]; omega, hn2⟩⟩
  obtain ⟨b, hb⟩ := wf_at s1 hp
  rw [Nat.add_comm] at hb
  have := wf_next hp hb
  rw [hn1] at this
  exact ⟨b, this⟩

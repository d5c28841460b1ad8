/-! ===== renamings ===== -/
/-- like but for VARS, one for one: VARS had, and what they are in the other -/
def rnc : List Int → List Int → List Int → List Int → Bool
  | [], [], _, _ => true
  | [], _ :: _, _, _ => false
  | _ :: _, [], _, _ => false
  | x :: xs, y :: ys, vs, os => if kd x = 0 ∧ kd y = 0 then (if ix vs x = ix os y then (if ix vs x = -1 then rnc xs ys (vs ++ [x]) (os ++ [y]) else rnc xs ys vs os) else false) else if x = y then rnc xs ys vs os else false
/-- VARS, all unlike -/
def rnq : List Int → List Int → Bool
  | _, [] => true
  | sn, c :: cs => decide (kd c = 0 ∧ c ∉ sn) && rnq (sn ++ [c]) cs
def pxs (xs : List Int) (ps : Prs) : List Int := ps.map fun q => nth xs q.2
def chk (xs : List Int) : Option Prs → Bool
  | none => false
  | some qs => rnq [] (pxs xs qs)
def b2i (b : Bool) : Int := if b = true then 1 else 0
theorem rnc_len : ∀ (xs ys vs os : List Int), rnc xs ys vs os = true → xs.length = ys.length := by
  intro xs
  induction xs with
  | nil => intro ys vs os h; cases ys with
    | nil => rfl
    | cons y ys => unfold rnc at h; cases h
  | cons x xs ih => intro ys vs os h; cases ys with
    | nil => unfold rnc at h; cases h
    | cons y ys =>
      unfold rnc at h
      rw [List.length_cons, List.length_cons]
      congr 1
      split at h
      · split at h
        · split at h
          · exact ih _ _ _ h
          · exact ih _ _ _ h
        · cases h
      · split at h
        · exact ih _ _ _ h
        · cases h
theorem rnq_app : ∀ (cs ds sn : List Int), rnq sn (cs ++ ds) = (rnq sn cs && rnq (sn ++ cs) ds) := by
  intro cs
  induction cs with
  | nil => intro ds sn; show rnq sn ds = (true && rnq (sn ++ []) ds); rw [List.append_nil, Bool.true_and]
  | cons c cs ih =>
    intro ds sn
    show (decide (kd c = 0 ∧ c ∉ sn) && rnq (sn ++ [c]) (cs ++ ds)) = ((decide (kd c = 0 ∧ c ∉ sn) && rnq (sn ++ [c]) cs) && rnq (sn ++ (c :: cs)) ds)
    rw [ih, Bool.and_assoc, List.append_assoc]
    rfl
theorem pxs_app (xs : List Int) (ps : Prs) (q : Int × Nat) : pxs xs (ps ++ [q]) = pxs xs ps ++ [nth xs q.2] := by unfold pxs; rw [List.map_append]; rfl
theorem pxs_len (xs : List Int) (ps : Prs) : (pxs xs ps).length = ps.length := List.length_map ..
theorem insg_bad (xs : List Int) : ∀ (ys : List Int) (p : Nat) (ps : Prs), rnq [] (pxs xs ps) = false → chk xs (insg xs ys p ps) = false := by
  intro ys
  induction ys with
  | nil => intro p ps h; exact h
  | cons c ys ih =>
    intro p ps h
    unfold insg
    split
    · split
      · refine ih _ _ ?_
        rw [pxs_app, rnq_app, h, Bool.false_and]
      · split
        · exact ih _ _ h
        · rfl
    · split
      · exact ih _ _ h
      · rfl
theorem rnq_nodup : ∀ (cs sn : List Int), rnq sn cs = true → (∀ c ∈ cs, kd c = 0 ∧ c ∉ sn) ∧ cs.Nodup := by
  intro cs
  induction cs with
  | nil => intro sn _; exact ⟨fun c hc => (by cases hc), List.nodup_nil⟩
  | cons c cs ih =>
    intro sn h
    unfold rnq at h
    rw [Bool.and_eq_true, decide_eq_true_eq] at h
    obtain ⟨h1, h2⟩ := h
    obtain ⟨h3, h4⟩ := ih _ h2
    refine ⟨fun d hd => ?_, ?_⟩
    · rcases List.mem_cons.mp hd with e | e
      · rw [e]; exact h1
      · exact ⟨(h3 d e).1, fun q => (h3 d e).2 (List.mem_append_left _ q)⟩
    · rw [List.nodup_cons]
      exact ⟨fun q => (h3 c q).2 (by simp), h4⟩
theorem ix_at {vs : List Int} (h : vs.Nodup) {k : Nat} (hk : k < vs.length) : ix vs (nth vs k) = (k : Int) := by
  rcases ix_spec vs (nth vs k) with ⟨-, h2⟩ | ⟨j, h1, h2, h3, h4⟩
  · exact absurd (nth_mem hk) h2
  · rw [h2]
    by_cases q : k < j
    · exact absurd rfl (h4 k q)
    · by_cases q2 : j = k
      · rw [q2]
      · exfalso
        unfold nth at h3
        rw [List.getD_eq_getElem?_getD, List.getD_eq_getElem?_getD, List.getElem?_eq_getElem h1, List.getElem?_eq_getElem hk] at h3
        have h3 : vs[j] = vs[k] := h3
        exact q2 ((List.getElem?_inj h1 h).mp (by rw [List.getElem?_eq_getElem h1, List.getElem?_eq_getElem hk, h3]))
theorem sub_var {xs : List Int} {p : Nat} (hp : p < xs.length) (h : arN (nth xs p) = 0) : sub xs p = [nth xs p] := by
  unfold sub
  rw [drop_cons hp, sk_cons, h, Nat.add_zero, sk_zero]
  rfl
theorem sub_head {xs : List Int} {p : Nat} (hp : p < xs.length) : ∃ r, sub xs p = nth xs p :: r := by
  unfold sub
  rw [drop_cons hp, sk_cons, Nat.add_comm, List.take_succ_cons]
  exact ⟨_, rfl⟩
theorem var_ar {c : Int} (h : vc c) (h0 : kd c = 0) : arN c = 0 := by have := h.2.1 h0; have := arN_ar c; omega
/-- the reference's way and the class's come to the same -/
theorem chk_rnc {xs : List Int} (hv : av xs) : ∀ (ys : List Int) (p w : Nat) (ps : Prs), av ys → wf w (xs.drop p) → wf w ys → psl xs ps → rnq [] (pxs xs ps) = true → chk xs (insg xs ys p ps) = rnc (xs.drop p) ys (pxs xs ps) (pvx ps) := by
  intro ys
  induction ys with
  | nil =>
    intro p w ps _ hwx hwy hps hq
    rw [wf_nil] at hwy
    subst hwy
    have hd : xs.drop p = [] := by
      cases h : xs.drop p with
      | nil => rfl
      | cons a b => rw [h] at hwx; exact hwx.elim
    rw [hd]
    exact hq
  | cons c ys ih =>
    intro p w ps hvy hwx hwy hps hq
    obtain ⟨v, rfl, hwy2⟩ := wf_pos hwy
    have hp := wf_some hwx
    have hc := hvy c (by simp)
    have hvy' : av ys := fun d hd => hvy d (List.mem_cons_of_mem _ hd)
    have hcx := av_nth hv hp
    obtain ⟨nd1, nd2⟩ := rnq_nodup _ _ hq
    rw [drop_cons hp]
    unfold insg rnc
    by_cases hk : kd c = 0
    · have ha0 := var_ar hc hk
      rw [ha0, Nat.add_zero] at hwy2
      rw [if_pos hk]
      by_cases hkx : kd (nth xs p) = 0
      · have hax := var_ar hcx hkx
        have hb : beh xs p = p + 1 := by unfold beh; rw [drop_cons hp, sk_cons, hax, Nat.add_zero, sk_zero]
        have hwx2 : wf v (xs.drop (p + 1)) := by rw [← hb]; exact wf_beh hwx
        rw [if_pos (show kd (nth xs p) = 0 ∧ kd c = 0 from ⟨hkx, hk⟩), hb]
        by_cases hm : ix (pvx ps) c = -1
        · rw [if_pos hm, hm]
          by_cases hx : ix (pxs xs ps) (nth xs p) = -1
          · have hq2 : rnq [] (pxs xs (ps ++ [(c, p)])) = true := by
              rw [pxs_app, rnq_app, hq, Bool.true_and, List.nil_append]
              show (decide (kd (nth xs p) = 0 ∧ nth xs p ∉ pxs xs ps) && true) = true
              rw [Bool.and_true, decide_eq_true_eq]
              exact ⟨hkx, fun q => ix_mem.mpr q hx⟩
            rw [if_pos hx, if_pos hx, ih (p + 1) v _ hvy' hwx2 hwy2 (hps.app hp) hq2, pxs_app, pvx_app]
          · rw [if_neg hx]
            apply insg_bad
            rw [pxs_app, rnq_app, List.nil_append]
            show (rnq [] (pxs xs ps) && (decide (kd (nth xs p) = 0 ∧ nth xs p ∉ pxs xs ps) && true)) = false
            rw [decide_eq_false (fun q => q.2 (ix_mem.mp hx)), Bool.false_and, Bool.and_false]
        · have hrg := ix_rng (pvx ps) c
          rw [pvx_len] at hrg
          obtain ⟨k, hk2⟩ := Int.eq_ofNat_of_zero_le (show 0 ≤ ix (pvx ps) c by omega)
          rw [if_neg hm]
          rw [hk2] at hm hrg ⊢
          have hg : ps[k]? = some ps[k] := List.getElem?_eq_getElem (by omega)
          have hs := hps _ (List.mem_of_getElem? hg)
          have hnx : nth (pxs xs ps) k = nth xs ps[k].2 := by
            unfold pxs
            conv => lhs; unfold nth
            rw [List.getD_eq_getElem?_getD, List.getElem?_map, hg]
            rfl
          have hmk : nth (pxs xs ps) k ∈ pxs xs ps := nth_mem (by rw [pxs_len]; omega)
          have hks := (nd1 _ hmk).1
          rw [hnx] at hks
          have hsame : same xs ps[k].2 xs p = true ↔ nth xs ps[k].2 = nth xs p := by
            unfold same
            rw [decide_eq_true_eq, sub_var hs (var_ar (av_nth hv hs) hks), sub_var hp hax]
            exact ⟨fun q => by injection q, fun q => by rw [q]⟩
          rw [pst_get hg]
          have hxk := ix_at nd2 (k := k) (by rw [pxs_len]; omega)
          by_cases he : nth xs ps[k].2 = nth xs p
          · rw [if_pos (hsame.mpr he)]
            rw [hnx, he] at hxk
            rw [hxk, if_pos rfl, if_neg (by omega)]
            exact ih (p + 1) v _ hvy' hwx2 hwy2 hps hq
          · rw [if_neg (fun q => he (hsame.mp q)), if_neg]
            · rfl
            · intro q
              have := ix_spec (pxs xs ps) (nth xs p)
              rcases this with ⟨g, -⟩ | ⟨j, g1, g2, g3, -⟩
              · omega
              · have : j = k := by omega
                subst this
                exact he (hnx ▸ g3)
      · rw [if_neg (show ¬ (kd (nth xs p) = 0 ∧ kd c = 0) from fun q => hkx q.1), if_neg (show ¬ nth xs p = c from fun q => hkx (q ▸ hk))]
        by_cases hm : ix (pvx ps) c = -1
        · rw [if_pos hm]
          apply insg_bad
          rw [pxs_app, rnq_app, List.nil_append]
          show (rnq [] (pxs xs ps) && (decide (kd (nth xs p) = 0 ∧ nth xs p ∉ pxs xs ps) && true)) = false
          rw [decide_eq_false (fun q => hkx q.1), Bool.false_and, Bool.and_false]
        · have hrg := ix_rng (pvx ps) c
          rw [pvx_len] at hrg
          obtain ⟨k, hk2⟩ := Int.eq_ofNat_of_zero_le (show 0 ≤ ix (pvx ps) c by omega)
          rw [if_neg hm]
          rw [hk2] at hm hrg ⊢
          have hg : ps[k]? = some ps[k] := List.getElem?_eq_getElem (by omega)
          have hs := hps _ (List.mem_of_getElem? hg)
          have hnx : nth (pxs xs ps) k = nth xs ps[k].2 := by
            unfold pxs
            conv => lhs; unfold nth
            rw [List.getD_eq_getElem?_getD, List.getElem?_map, hg]
            rfl
          have hmk : nth (pxs xs ps) k ∈ pxs xs ps := nth_mem (by rw [pxs_len]; omega)
          have hks := (nd1 _ hmk).1
          rw [hnx] at hks
          rw [pst_get hg, if_neg]
          · rfl
          · unfold same
            rw [decide_eq_true_eq]
            intro q
            obtain ⟨r1, e1⟩ := sub_head hs
            obtain ⟨r2, e2⟩ := sub_head hp
            rw [e1, e2] at q
            injection q with q1 q2
            rw [q1] at hks
            exact hkx hks
    · rw [if_neg hk, if_neg (show ¬ (kd (nth xs p) = 0 ∧ kd c = 0) from fun q => hk q.2)]
      by_cases he : c = nth xs p
      · have hwx2 := wf_next hp hwx
        rw [if_pos he, if_pos (show nth xs p = c from he.symm)]
        exact ih (p + 1) (v + arN c) _ hvy' (by rw [he]; exact hwx2) hwy2 hps hq
      · rw [if_neg he, if_neg (show ¬ nth xs p = c from fun q => he q.symm)]
        rfl
section REN
variable {M : Mem} {e f n m : Nat} {xs ys : List Int}
def rnS : Nat → Nat → Prop := fun a k => a = 13 ∨ a = 14 ∨ (a = 12 ∧ k = 10)
def MRc (M : Mem) (vs os : List Int) : Prop := (mI M 12 10 = (vs.length : Int) ∧ os.length = vs.length) ∧ RW M 13 0 vs ∧ RW M 14 0 os
theorem MRc.push {vs os : List Int} (h : MRc M vs os) (x y : Int) : MRc (stI (stI (stI M 13 vs.length x) 14 vs.length y) 12 10 ((vs.length + 1 : Nat) : Int)) (vs ++ [x]) (os ++ [y]) := by
  obtain ⟨⟨h1, h2⟩, h3, h4⟩ := h
  refine ⟨⟨by rw [mI_at, List.length_append]; rfl, by rw [List.length_append, List.length_append, h2]; rfl⟩, fun i hi => ?_, fun i hi => ?_⟩
  · rw [List.length_append, List.length_singleton] at hi
    rw [Nat.zero_add, mI_ne (by omega), mI_ne (by omega)]
    by_cases q : i = vs.length
    · subst q; rw [mI_at, nth_app2 (Nat.le_refl _), Nat.sub_self]; rfl
    · rw [mI_ne (by omega), nth_app1 (by omega)]
      have := h3 i (by omega)
      rwa [Nat.zero_add] at this
  · rw [List.length_append, List.length_singleton] at hi
    rw [Nat.zero_add, mI_ne (by omega)]
    by_cases q : i = vs.length
    · subst q; rw [mI_at, nth_app2 (by omega), h2, Nat.sub_self]; rfl
    · rw [mI_ne (by omega), mI_ne (by omega), nth_app1 (by omega)]
      have := h4 i (by omega)
      rwa [Nat.zero_add] at this
theorem Ma_pairVars_s (hG : Good M) {vs os : List Int} (h : MRc M vs os) (hl : vs.length < 40) (x y : Int) : (ix vs x ≠ ix os y → Ma_pairVars 12 x y M = some (some (.inl 0), M)) ∧ (ix vs x = ix os y → ix vs x ≠ -1 → Ma_pairVars 12 x y M = some (some (.inl 1), M)) ∧ (ix vs x = ix os y → ix vs x = -1 → ∃ M', Ma_pairVars 12 x y M = some (some (.inl 1), M') ∧ MRc M' (vs ++ [x]) (os ++ [y]) ∧ Fj rnS M M') := by
  have h' := h
  obtain ⟨⟨h1, h2⟩, h3, h4⟩ := h'
  have i1 := Ex_indexOf_s hG arr_13 h3 (by omega) (by decide) x
  have i2 := Ex_indexOf_s hG arr_14 h4 (by omega) (by decide) y
  rw [h2] at i2
  rw [Ma_pairVars_eq, hG.gMa, gd_t, gd_t, hG.r12_0, h1, i1, cI_s, hG.gMa, gd_t, gd_t, hG.r12_1, h1, i2, cI_s]
  by_cases q : ix vs x = ix os y
  · refine ⟨fun g => absurd q g, fun _ g => ?_, fun _ g => ?_⟩
    · rw [if_pos q, if_neg g]
    · have e1 : mI (stI M 13 vs.length x) 12 10 = (vs.length : Int) := by rw [mI_ne (by omega)]; exact h1
      have e2 : mI (stI (stI M 13 vs.length x) 14 vs.length y) 12 10 = (vs.length : Int) := by rw [mI_ne (by omega)]; exact e1
      rw [if_pos q, if_pos g, hG.gMa, gd_t, h1, if_pos (by omega), gd_t, gd_t, hG.r12_0, hG.tgS arr_13 (by omega) (by omega), gd_t, gd_t, gd_t, toNat_n, e1, hG.r12_1, hG.tgS arr_14 (by omega) (by omega), gd_t, gd_t, gd_t, toNat_n, e2, wr_s (by omega)]
      exact ⟨_, rfl, h.push x y, ((Fj.ofI (by unfold rnS; omega)).trans (Fj.ofI (by unfold rnS; omega))).trans (Fj.ofI (by unfold rnS; omega))⟩
  · refine ⟨fun _ => ?_, fun g => absurd g q, fun g => absurd g q⟩
    rw [if_neg q]
theorem Ma_isRenaming_loop (he : 16 < e) (hf : 16 < f) (hv : av xs) (hvy : av ys) (hlen : xs.length = ys.length) (hl : ys.length ≤ 40) : ∀ (t i : Nat) (vs os : List Int) (M : Mem) (d4 d5 : LV), ys.length - i = t → i ≤ ys.length → Good M → XE M e n xs → XE M f m ys → MRc M vs os → vs.length ≤ i → ∃ M', Ma_isRenaming_20 12 e f (i : Int) d4 d5 M = some (some (.inl (b2i (rnc (xs.drop i) (ys.drop i) vs os))), M') ∧ Fj rnS M M' := by
  intro t
  induction t with
  | zero =>
    intro i vs os M d4 d5 e1 e2 hG hX hY hR hvl
    rw [List.drop_eq_nil_of_le (show xs.length ≤ i by omega), List.drop_eq_nil_of_le (show ys.length ≤ i by omega), Ma_isRenaming_20_eq, hX.g hG, gd_t, hX.s, if_neg (by omega)]
    exact ⟨M, rfl, Fj.refl⟩
  | succ t ih =>
    intro i vs os M d4 d5 e1 e2 hG hX hY hR hvl
    have hi : i < xs.length := by omega
    have hj : i < ys.length := by omega
    have hxl := hX.lt
    have hc := av_nth hv hi
    have hd := av_nth hvy hj
    rw [drop_cons hi, drop_cons hj, Ma_isRenaming_20_eq, hX.g hG, gd_t, hX.s, if_pos (by omega), gd_t, Ex_cellAt_s hG hX, cA_n hi, cI_s, hY.g hG, gd_t, Ex_cellAt_s hG hY, cA_n hj, cI_s, Ex_kind_s hc.inR, cI_s]
    unfold rnc
    have eqcase : ¬ (kd (nth xs i) = 0 ∧ kd (nth ys i) = 0) → ∃ M', (if nth xs i = nth ys i then Ma_isRenaming_20 12 e f (wr ((i : Int) + 1)) (some (.inl (nth xs i))) (some (.inl (nth ys i))) M else (some (some (.inl 0), M) : Res)) = some (some (.inl (b2i (if nth xs i = nth ys i then rnc (xs.drop (i + 1)) (ys.drop (i + 1)) vs os else false))), M') ∧ Fj rnS M M' := by
      intro _
      by_cases q : nth xs i = nth ys i
      · rw [if_pos q, if_pos q, wr_s (by omega)]
        exact ih (i + 1) vs os M _ _ (by omega) (by omega) hG hX hY hR (by omega)
      · rw [if_neg q, if_neg q]
        exact ⟨M, rfl, Fj.refl⟩
    by_cases hk : kd (nth xs i) = 0
    · rw [if_pos hk, Ex_kind_s hd.inR, cI_s]
      by_cases hk2 : kd (nth ys i) = 0
      · obtain ⟨p1, p2, p3⟩ := Ma_pairVars_s hG hR (by omega) (nth xs i) (nth ys i)
        rw [if_pos hk2, if_pos ⟨hk, hk2⟩, hG.gMa, gd_t]
        by_cases q : ix vs (nth xs i) = ix os (nth ys i)
        · rw [if_pos q]
          by_cases g : ix vs (nth xs i) = -1
          · obtain ⟨M1, a1, a2, a3⟩ := p3 q g
            obtain ⟨M2, b1, b2⟩ := ih (i + 1) _ _ M1 (some (.inl (nth xs i))) (some (.inl (nth ys i))) (by omega) (by omega) (hG.fj a3) (hX.fj a3 (by unfold rnS; omega) (by unfold rnS; omega)) (hY.fj a3 (by unfold rnS; omega) (by unfold rnS; omega)) a2 (by rw [List.length_append, List.length_singleton]; omega)
            rw [if_pos g, a1, cI_s, if_neg (by decide), wr_s (by omega), b1]
            exact ⟨M2, rfl, a3.trans b2⟩
          · rw [if_neg g, p2 q g, cI_s, if_neg (by decide), wr_s (by omega)]
            exact ih (i + 1) vs os M _ _ (by omega) (by omega) hG hX hY hR (by omega)
        · rw [if_neg q, p1 q, cI_s, if_pos rfl]
          exact ⟨M, rfl, Fj.refl⟩
      · rw [if_neg hk2, if_neg (show ¬ (kd (nth xs i) = 0 ∧ kd (nth ys i) = 0) from fun q => hk2 q.2)]
        exact eqcase fun q => hk2 q.2
    · rw [if_neg hk, if_neg (show ¬ (kd (nth xs i) = 0 ∧ kd (nth ys i) = 0) from fun q => hk q.1)]
      exact eqcase fun q => hk q.1
theorem Ma_isRenaming_s (he : 16 < e) (hf : 16 < f) (hv : av xs) (hvy : av ys) (hl : ys.length ≤ 40) (hG : Good M) (hX : XE M e n xs) (hY : XE M f m ys) : ∃ M', Ma_isRenaming 12 e f M = some (some (.inl (b2i (rnc xs ys [] []))), M') ∧ Fj rnS M M' := by
  have f1 : Fj rnS M (stI M 12 10 0) := Fj.ofI (by unfold rnS; omega)
  have hX1 := hX.fj f1 (by unfold rnS; omega) (by unfold rnS; omega)
  have hY1 := hY.fj f1 (by unfold rnS; omega) (by unfold rnS; omega)
  rw [Ma_isRenaming_eq, hG.gMa, gd_t, hX.g hG, gd_t, hY.g hG, gd_t, hX1.s, hY1.s]
  by_cases h : xs.length = ys.length
  · obtain ⟨M', a1, a2⟩ := Ma_isRenaming_loop he hf hv hvy h hl _ 0 [] [] (stI M 12 10 0) none none rfl (Nat.zero_le _) (hG.fj f1) hX1 hY1 ⟨⟨mI_at, rfl⟩, fun i hi => absurd hi (Nat.not_lt_zero i), fun i hi => absurd hi (Nat.not_lt_zero i)⟩ (Nat.zero_le _)
    rw [List.drop_zero, List.drop_zero] at a1
    have a1 : Ma_isRenaming_20 12 e f 0 none none (stI M 12 10 0) = _ := a1
    rw [if_pos (by omega), a1]
    exact ⟨M', rfl, f1.trans a2⟩
  · have : rnc xs ys [] [] = false := by
      cases h2 : rnc xs ys [] [] with
      | false => rfl
      | true => exact absurd (rnc_len _ _ _ _ h2) h
    rw [if_neg (by omega), this]
    exact ⟨_, rfl, f1⟩
end REN
section MREN
variable {M : Mem} {A B n m o o2 : Nat} {xs ys : List Int} {ps : Prs}
theorem M_ren_inner (hG : Good M) (hX : RX M A n o xs) (hI : MIm M o ps) (hps : psl xs ps) (hpl : ps.length ≤ 40) {i : Nat} (hi : i < ps.length) (d2 d3 d4 : LV) : ∀ (t k : Nat), i - k = t → k ≤ i → (nth (pxs xs ps) i ∈ ((pxs xs ps).take i).drop k → M_isRenaming_46 1269 A (i : Int) (k : Int) d2 d3 d4 M = some (some (.inl 0), M)) ∧ (nth (pxs xs ps) i ∉ ((pxs xs ps).take i).drop k → ∃ d, M_isRenaming_46 1269 A (i : Int) (k : Int) d2 d3 d4 M = M_isRenaming_17 1269 A ((i + 1 : Nat) : Int) d2 d3 d4 d M) := by
  have hn := hX.1.2
  have hxb := hX.2.2.1
  have cell : ∀ {k : Nat}, k < ps.length → mI M 1303 k = ((o + (ps.getD k (0, 0)).2 : Nat) : Int) ∧ (ps.getD k (0, 0)).2 < xs.length ∧ mI M A (o + (ps.getD k (0, 0)).2) = cm (nth (pxs xs ps) k) ∧ vc (nth (pxs xs ps) k) := by
    intro k hk
    have hg : ps[k]? = some ps[k] := List.getElem?_eq_getElem hk
    have hgd : ps.getD k (0, 0) = ps[k] := by rw [List.getD_eq_getElem?_getD, hg]; rfl
    have hs := hps _ (List.mem_of_getElem? hg)
    have hnx : nth (pxs xs ps) k = nth xs ps[k].2 := by
      unfold pxs
      conv => lhs; unfold nth
      rw [List.getD_eq_getElem?_getD, List.getElem?_map, hg]
      rfl
    rw [hgd, hnx]
    exact ⟨(hI.2 k _ hg).2, hs, hX.2.1 _ hs, hX.v hs⟩
  obtain ⟨i1, i2, i3, i4⟩ := cell hi
  intro t
  induction t with
  | zero =>
    intro k e1 e2
    have : ((pxs xs ps).take i).drop k = [] := List.drop_eq_nil_of_le (by rw [List.length_take]; omega)
    rw [this, M_isRenaming_46_eq, if_neg (by omega), wr_s (by omega)]
    exact ⟨fun q => (by cases q), fun _ => ⟨_, rfl⟩⟩
  | succ t ih =>
    intro k e1 e2
    have hk : k < ps.length := by omega
    obtain ⟨k1, k2, k3, k4⟩ := cell hk
    have hdc : ((pxs xs ps).take i).drop k = nth (pxs xs ps) k :: ((pxs xs ps).take i).drop (k + 1) := by
      rw [drop_cons (by rw [List.length_take, pxs_len]; omega), nth_take (by omega)]
    rw [hdc, M_isRenaming_46_eq, if_pos (by omega), hG.gM, gd_t, hG.m54, hG.tgS arr_1303 (by omega) (by omega), gd_t, toNat_n, k1, hX.gs hG k2, gd_t, gd_t, hG.tgS arr_1303 (by omega) (by omega), gd_t, toNat_n, i1, hX.gs hG i2, gd_t, toNat_n, toNat_n, k3, i3, wr_s (by omega)]
    obtain ⟨h1, h2⟩ := ih (k + 1) (by omega) (by omega)
    by_cases q : nth (pxs xs ps) k = nth (pxs xs ps) i
    · rw [if_pos (by rw [q])]
      exact ⟨fun _ => rfl, fun g => absurd (by rw [q]; simp) g⟩
    · rw [if_neg (fun g => q ((cm_inj k4 i4).mp g))]
      refine ⟨fun g => h1 ?_, fun g => h2 fun r => g (List.mem_cons_of_mem _ r)⟩
      rcases List.mem_cons.mp g with r | r
      · exact absurd r.symm q
      · exact r
theorem M_ren_outer (hG : Good M) (hX : RX M A n o xs) (hI : MIm M o ps) (hps : psl xs ps) (hpl : ps.length ≤ 40) (d2 d3 d4 : LV) : ∀ (t i : Nat) (d : LV), ps.length - i = t → i ≤ ps.length → M_isRenaming_17 1269 A (i : Int) d2 d3 d4 d M = some (some (.inl (b2i (rnq ((pxs xs ps).take i) ((pxs xs ps).drop i)))), M) := by
  have hn := hX.1.2
  have hxb := hX.2.2.1
  intro t
  induction t with
  | zero =>
    intro i d e1 e2
    rw [List.drop_eq_nil_of_le (by rw [pxs_len]; omega), M_isRenaming_17_eq, hG.gM, gd_t, hI.1, if_neg (by omega)]
    rfl
  | succ t ih =>
    intro i d e1 e2
    have hi : i < ps.length := by omega
    have hg : ps[i]? = some ps[i] := List.getElem?_eq_getElem hi
    have hs := hps _ (List.mem_of_getElem? hg)
    have hnx : nth (pxs xs ps) i = nth xs ps[i].2 := by
      unfold pxs
      conv => lhs; unfold nth
      rw [List.getD_eq_getElem?_getD, List.getElem?_map, hg]
      rfl
    have hc := hX.v hs
    have hcell : mI M A (o + ps[i].2) = cm (nth xs ps[i].2) := hX.2.1 _ hs
    obtain ⟨h1, h2⟩ := M_ren_inner hG hX hI hps hpl hi d2 d3 d4 _ 0 rfl (Nat.zero_le _)
    rw [List.drop_zero] at h1 h2
    have h1 : nth (pxs xs ps) i ∈ (pxs xs ps).take i → M_isRenaming_46 1269 A (i : Int) 0 d2 d3 d4 M = _ := h1
    have h2 : nth (pxs xs ps) i ∉ (pxs xs ps).take i → ∃ d, M_isRenaming_46 1269 A (i : Int) 0 d2 d3 d4 M = M_isRenaming_17 1269 A ((i + 1 : Nat) : Int) d2 d3 d4 d M := h2
    rw [drop_cons (xs := pxs xs ps) (by rw [pxs_len]; exact hi), M_isRenaming_17_eq, hG.gM, gd_t, hI.1, if_pos (by omega), gd_t, hG.m54, hG.tgS arr_1303 (by omega) (by omega), gd_t, toNat_n, (hI.2 i _ hg).2, hX.gs hG hs, gd_t, toNat_n, hcell, M_sortOf_s hc, cI_s]
    rw [show rnq ((pxs xs ps).take i) (nth (pxs xs ps) i :: (pxs xs ps).drop (i + 1)) = (decide (kd (nth (pxs xs ps) i) = 0 ∧ nth (pxs xs ps) i ∉ (pxs xs ps).take i) && rnq ((pxs xs ps).take i ++ [nth (pxs xs ps) i]) ((pxs xs ps).drop (i + 1))) from rfl]
    have htk : (pxs xs ps).take i ++ [nth (pxs xs ps) i] = (pxs xs ps).take (i + 1) := by
      rw [List.take_succ]
      congr 1
      rw [List.getElem?_eq_getElem (by rw [pxs_len]; exact hi)]
      unfold nth
      rw [List.getD_eq_getElem?_getD, List.getElem?_eq_getElem (by rw [pxs_len]; exact hi)]
      rfl
    rw [htk]
    by_cases hk : kd (nth xs ps[i].2) = 0
    · rw [if_pos hk]
      by_cases hm : nth (pxs xs ps) i ∈ (pxs xs ps).take i
      · rw [h1 hm, decide_eq_false (fun q => q.2 hm), Bool.false_and]
        rfl
      · obtain ⟨d', h3⟩ := h2 hm
        rw [h3, ih (i + 1) d' (by omega) (by omega), decide_eq_true ⟨by rw [hnx]; exact hk, hm⟩, Bool.true_and]
    · rw [if_neg hk, decide_eq_false (fun q => hk (hnx ▸ q.1)), Bool.false_and]
      rfl
theorem M_isRenaming_s (hA : A ≠ 1302 ∧ A ≠ 1303 ∧ A ≠ 1269) (hB : B ≠ 1302 ∧ B ≠ 1303 ∧ B ≠ 1269) (hw : wf 1 xs) (hwy : wf 1 ys) (hl : ys.length ≤ 40) (hG : Good M) (hX : RX M A n o xs) (hY : RX M B m o2 ys) : ∃ M', M_isRenaming 1269 A (o : Int) B (o2 : Int) M = some (some (.inl (b2i (rnc xs ys [] []))), M') ∧ Fj mimS M M' := by
  obtain ⟨M1, a1, a2, a3⟩ := M_isInstance_s hA hB hw hwy hl hG hX hY
  have hG1 := hG.fj a3
  have hc := chk_rnc hX.2.2.2 ys 0 1 [] hY.2.2.2 (by rw [List.drop_zero]; exact hw) hwy (fun q hq => by cases hq) rfl
  rw [List.drop_zero] at hc
  have hc : chk xs (insg xs ys 0 []) = rnc xs ys [] [] := hc
  rw [M_isRenaming_eq, hG.gM, gd_t, a1, cI_s, ← hc]
  cases h : insg xs ys 0 [] with
  | none =>
    exact ⟨M1, rfl, a3⟩
  | some qs =>
    obtain ⟨b1, b2, b3, b4⟩ := a2 qs h
    have := M_ren_outer hG1 (hX.fj a3 (by unfold mimS; omega)) b1 b2 (by omega) (some (.inl (o : Int))) (some (.inr B)) (some (.inl (o2 : Int))) _ 0 none rfl (Nat.zero_le _)
    have this : M_isRenaming_17 1269 A 0 (some (.inl (o : Int))) (some (.inr B)) (some (.inl (o2 : Int))) none M1 = some (some (.inl (b2i (rnq ((pxs xs qs).take 0) ((pxs xs qs).drop 0)))), M1) := this
    rw [List.drop_zero, show (pxs xs qs).take 0 = [] from rfl] at this
    show ∃ M', (if (1 : Int) = 0 then _ else _) = _ ∧ _
    rw [if_neg (by decide), this]
    exact ⟨M1, rfl, a3⟩
end MREN

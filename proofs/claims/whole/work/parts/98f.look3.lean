/-! ===== a node that has grown from one above: the class ===== -/
theorem TRc.congr {M : Mem} {X : Nat → List Int} {F G : FT} {mk : Nat} (h : TRc M X F mk) (hT : TI F mk) (hG : ∀ x ∈ lnF F, ∀ f, G x f = F x f) : TRc M X G mk := by
  obtain ⟨⟨hLN, h9⟩, hnd, hwk⟩ := h
  have hl : lnF G = lnF F := lnF_cong fun x hx => ⟨hG x hx 8, hG x hx 16⟩
  refine ⟨⟨by rw [hl]; exact hLN, h9⟩, fun x hx => ?_, hwk⟩
  rw [hl] at hx
  obtain ⟨p1, ⟨p2, p3⟩, ⟨p4, p5⟩, ⟨p6, p7⟩, p8⟩ := hnd x hx
  have e := hG x hx
  have e1 : nfk G x = nfk F x := by unfold nfk; rw [e]
  have e2 : nkc G x = nkc F x := by unfold nkc; rw [e]
  refine ⟨p1, ⟨fun g hg => by rw [e]; exact p2 g hg, by rw [e]; exact p3⟩, ⟨by rw [e]; exact p4, by rw [e]; exact p5⟩, ⟨by rw [e, e1]; exact p6, by rw [e, e1, e2]; exact p7⟩, ?_⟩
  rw [p8]
  unfold ndx
  rw [e, e]
  rcases hT.uok x hx with q | ⟨q1, q2, q3⟩
  · rw [if_neg (fun g => g.1 q), if_neg (fun g => g.1 q)]
  · rw [hG _ q3 8]
theorem TI.congr {F G : FT} {mk : Nat} (h : TI F mk) (hG : ∀ x ∈ lnF F, ∀ f, G x f = F x f) : TI G mk ∧ lnF G = lnF F := by
  have hl : lnF G = lnF F := lnF_cong fun x hx => ⟨hG x hx 8, hG x hx 16⟩
  refine ⟨?_, hl⟩
  unfold TI
  rw [hl]
  have z := hG 0 (pre_self F 120 0)
  refine ⟨h.1, fun x hx => ?_, ⟨by rw [z]; exact h.2.2.1.1, by rw [z]; exact h.2.2.1.2⟩, by rw [z]; exact h.2.2.2⟩
  obtain ⟨t1, t2, t3⟩ := h.2.1 x hx
  have e := hG x hx
  have e1 : nfk G x = nfk F x := by unfold nfk; rw [e]
  have e2 : nkc G x = nkc F x := by unfold nkc; rw [e]
  refine ⟨by rw [e]; exact t1, fun q => by rw [e]; exact t2 (by rw [← e]; exact q), fun j hj => ?_⟩
  rw [e2] at hj
  have k := hG _ (h.kid hx hj)
  rw [e1, k, k, k, e]
  exact t3 j hj
theorem nrs_rem {F : FT} {mk g : Nat} {P : Nat → Bool} (h : TI F mk) (hg : g ∈ lnF F) : ∀ (n x : Nat), x ∈ lnF (upF F g 8 0) → nrs P F n (F x 15) ≠ (g : Int) := by
  obtain ⟨hT1, -⟩ := h.rem hg
  intro n
  induction n with
  | zero => intro x _ q; have q : (-1 : Int) = (g : Int) := q; omega
  | succ n ih =>
    intro x hx
    by_cases x0 : x = 0
    · subst x0
      rw [h.2.2.1.1]
      unfold nrs
      rw [if_pos rfl]
      omega
    · obtain ⟨p, j, t1, t2, t3, t4, t5, t6⟩ := hT1.ndx hx x0
      have hpg : p ≠ g := by
        intro q
        subst q
        unfold nkc at t2
        rw [upF_at] at t2
        exact absurd t2 (Nat.not_lt_zero j)
      rw [upF_ne (by omega)] at t4
      rw [t4]
      unfold nrs
      rw [if_neg (by omega), toNat_n]
      split
      · omega
      · exact ih p t1
/-- the pairs of a common form begin in both -/
theorem com_ps2 {xs ys : List Int} {bs : Int} (hv : av xs) (hwx : wf 1 xs) (hwy : wf 1 ys) : ∀ (n p q w : Nat) (ps : Pr2), wf w (xs.drop p) → wf w (ys.drop q) → ps2 xs ys ps → ps2 xs ys (com xs ys bs n p q ps).2 := by
  intro n
  induction n with
  | zero => intro p q w ps _ _ h; exact h
  | succ n ih =>
    intro p q w ps hx hy h
    unfold com
    by_cases hp : p < xs.length
    · rw [if_pos hp]
      obtain ⟨v, rfl, hxn⟩ := wf_pos (by rw [drop_cons hp] at hx; exact hx)
      have hq := wf_some hy
      split
      · rename_i h2
        have hyn := wf_next hq hy
        rw [← h2.1] at hyn
        exact ih _ _ _ _ hxn hyn h
      · split
        · exact ih _ _ v _ (wf_beh hx) (wf_beh hy) h
        · exact ih _ _ v _ (wf_beh hx) (wf_beh hy) (h.app hp hq)
    · rw [if_neg hp]
      exact h
section LET
variable {M : Mem} {k g : Nat} {T T1 : TS}
theorem Tr_let_inst (hG : Good M) (hT : TOK T k) (hC : CTs M T) (h4 : mI M (30 + 6 * k) 4 = 5) (hg : g ∈ lnF T.2.1) (h7 : mR M 27 7 = 30 + 6 * g) {ps : Prs} (hi : insg (T.1 k) (T.1 g) 0 [] = some ps) : ∃ M', Tr_addBelow 27 (30 + 6 * k) M = some (some (.inl (adL k ((T.1 g, -1, -1) :: prtL (T.1 k) (ps.map fun q => q.2)) T).1), M') ∧ CTs M' (adL k ((T.1 g, -1, -1) :: prtL (T.1 k) (ps.map fun q => q.2)) T).2 ∧ Good M' ∧ Fq daS anR M M' := by
  obtain ⟨hk1, hk2, hk3⟩ := hT.k
  obtain ⟨e1, e2, e3⟩ := hT.2.2 k hk1
  obtain ⟨f1, f2, f3⟩ := hT.2.2 g hg
  have hgm := hT.1.1.2.1 g hg
  have hND := (hC.1.2.1 k hk1).1.1
  have hNG := (hC.1.2.1 g hg).1.1
  obtain ⟨M1, a1, a2, a3⟩ := Ma_isInstance_s (e := 31 + 6 * k) (f := 31 + 6 * g) (by omega) (by omega) e2 e1 f2 f1 f3 hG hND hNG
  obtain ⟨p1, p2, p3⟩ := a2 ps hi
  rw [hi] at a1
  have hG1 := hG.fj a3
  have F1 : Fq miS nor M M1 := a3.fq fun a j q => q
  have hC1 : CTs M1 T := hC.fq hT.1 F1 (by unfold miS; omega) (fun a j _ q => q)
  have hNG1 : XE M1 (31 + 6 * g) 40 (T.1 g) := (hC1.1.2.1 g hg).1.1
  obtain ⟨-, ⟨us, hm⟩, us2, hp2⟩ := hC1
  obtain ⟨M2, b1, b2, b3⟩ := Ex_become_s hG1 hm hNG1 (by omega) (by omega) (by omega) (by omega)
  have hG2 := hG1.fi b3
  have F2 : Fq (fun a _ => eS 752 a) nor M1 M2 := (b3.fj (T := fun a _ => eS 752 a) fun a j q => q).fq fun a j q => q
  have hC2 : CTs M2 T := ⟨(hC.fq hT.1 F1 (by unfold miS; omega) (fun a j _ q => q)).1.fq hT.1 F2 (by unfold eS; omega) (fun a j _ q => q), ⟨_, b2⟩, us2, hp2.ext fun a j q => F2.2.2 a j (by unfold eS; omega)⟩
  have hMP : MPt M2 (T.1 k) (ps.map fun q => q.2) := by
    refine ⟨by rw [List.length_map]; exact (b3.2.2 _ (by unfold eS; omega) _).trans p1.1.1, fun i s hs => ?_⟩
    rw [List.getElem?_map] at hs
    cases hq : ps[i]? with
    | none => rw [hq] at hs; cases hs
    | some q =>
      rw [hq] at hs
      have hs : q.2 = s := Option.some.inj hs
      obtain ⟨c1, c2⟩ := p1.2 i q hq
      rw [← hs]
      exact ⟨(b3.2.2 _ (by unfold eS; omega) _).trans c1, (b3.2.2 _ (by unfold eS; omega) _).trans c2⟩
  obtain ⟨M3, d1, d2, d3, d4⟩ := Tr_addParts_s (ss := ps.map fun q => q.2) (by rw [List.length_map]; omega) hG2 hT hC2 (q := k) rfl hk1 e1 e2 hMP (fun s hs => by
    obtain ⟨q, h1, h2⟩ := List.mem_map.mp hs
    rw [← h2]
    exact p2 q h1) b2 f1 f2
  have r7 : mR M1 27 7 = 30 + 6 * g := (a3.2.1 _ _).trans h7
  rw [Tr_addBelow_eq, hG.nd (by omega), gd_t, h4, if_neg (by decide), if_neg (by decide), if_neg (by decide), if_neg (by decide), if_pos rfl, hG.gT, gd_t, Tr_addLet_eq, hG.gT, gd_t, h7, if_neg (by omega), gd_t, hG.nd (by omega), gd_t, gd_t, hG.nd (by omega), gd_t, hG.r27_1, hG.gMa, gd_t, (hG.ndr (x := k) (by omega)).1, (hG.ndr (x := g) (by omega)).1, a1, cI_s, if_neg (show ¬ okO (some ps) = 0 from (by decide : ¬ (1 : Int) = 0)), hG1.gT, gd_t, gd_t, r7, hG1.nd (by omega), gd_t, hG1.r27_5, hm.g hG1, gd_t, (hG1.ndr (x := g) (by omega)).1, b1, cV_s, hG2.nd (by omega), gd_t, hG2.gT, gd_t, (hG2.ndr (x := k) (by omega)).1, d1, cI_s, cI_s]
  exact ⟨M3, rfl, d2, d3, ((F1.mono (T := daS) (U := anR) (fun a j q => by unfold miS at q; unfold daS; omega) fun a j q => q.elim).trans (F2.mono (fun a j q => by unfold eS at q; unfold daS; omega) fun a j q => q.elim)).trans d4⟩
def dlS : Nat → Nat → Prop := fun a j => daS a j ∨ (a = 27 ∧ (j = 11 ∨ j = 12 ∨ j = 13))
theorem Tr_let_turn (hG : Good M) (hT : TOK T k) (hC : CTs M T) (h4 : mI M (30 + 6 * k) 4 = 5) (hg : g ∈ lnF T.2.1) (h7 : mR M 27 7 = 30 + 6 * g) (hi : insg (T.1 k) (T.1 g) 0 [] = none) {fr tu : Nat} (h13 : mI M 27 13 = (fr : Int)) (h11 : mI M 27 11 = (tu : Int)) (hfr : fr + 400 < 65536) (htu : tu < 1000) (hT1 : T = upK T1 k 5) (hkL : k ∉ lnF (upF T.2.1 g 8 0)) : ∃ M', Tr_addBelow 27 (30 + 6 * k) M = some (some (.inl (adL g (((com (T.1 g) (T.1 k) fr (T.1 g).length 0 0 []).1, -1, -1) :: prtL (T.1 g) ((com (T.1 g) (T.1 k) fr (T.1 g).length 0 0 []).2.map fun q => q.1)) (T1.1, upF (upF T1.2.1 g 8 0) g 4 5, T1.2.2)).1), M') ∧ CTs M' (adL g (((com (T.1 g) (T.1 k) fr (T.1 g).length 0 0 []).1, -1, -1) :: prtL (T.1 g) ((com (T.1 g) (T.1 k) fr (T.1 g).length 0 0 []).2.map fun q => q.1)) (T1.1, upF (upF T1.2.1 g 8 0) g 4 5, T1.2.2)).2 ∧ (mI M' 27 12 = (((lnF T1.2.1).idxOf g + 1 : Nat) : Int) ∧ mI M' 27 13 = ((fr + (com (T.1 g) (T.1 k) fr (T.1 g).length 0 0 []).2.length : Nat) : Int) ∧ mI M' 27 11 = ((tu + 1 : Nat) : Int)) ∧ Good M' ∧ Fq dlS anR M M' ∧ TOK (T1.1, upF (upF T1.2.1 g 8 0) g 4 5, T1.2.2) g := by
  obtain ⟨hk1, hk2, hk3⟩ := hT.k
  obtain ⟨e1, e2, e3⟩ := hT.2.2 k hk1
  obtain ⟨f1, f2, f3⟩ := hT.2.2 g hg
  have hgm := hT.1.1.2.1 g hg
  have hND := (hC.1.2.1 k hk1).1.1
  have hNG := (hC.1.2.1 g hg).1.1
  obtain ⟨M1, a1, -, a3⟩ := Ma_isInstance_s (e := 31 + 6 * k) (f := 31 + 6 * g) (by omega) (by omega) e2 e1 f2 f1 f3 hG hND hNG
  rw [hi] at a1
  have hG1 := hG.fj a3
  have F1 : Fq miS nor M M1 := a3.fq fun a j q => q
  have hC1 : CTs M1 T := hC.fq hT.1 F1 (by unfold miS; omega) (fun a j _ q => q)
  have hND1 := (hC1.1.2.1 k hk1).1.1
  have hNG1 := (hC1.1.2.1 g hg).1.1
  have hC1' := hC1
  obtain ⟨-, ⟨us, hm⟩, us2, hp2⟩ := hC1'
  obtain ⟨M2, b1, b2, b3, b4⟩ := Ma_makeCommon_s (e := 31 + 6 * g) (f := 31 + 6 * k) (s := 752) (sn := 20480) (fv := fr) (by omega) (by omega) (by decide) (by omega) (by omega) f2 e2 f1 e1 f3 e3 (by decide) (by omega) hG1 hNG1 hND1 hm
  have hcl := com_len (xs := T.1 g) (ys := T.1 k) (bs := (fr : Int)) (T.1 g).length 0 0 [] (Nat.zero_le _)
  have hco := com_ok (xs := T.1 g) (ys := T.1 k) (bs := (fr : Int)) (by omega) f2 (T.1 g).length 0 0 1 [] (Nat.zero_le _) (Nat.sub_le _ _) (by simp only [List.length_nil]; omega) f1
  have hc2 := com_ps2 (xs := T.1 g) (ys := T.1 k) (bs := (fr : Int)) f2 f1 e1 (T.1 g).length 0 0 1 [] (by rw [List.drop_zero]; exact f1) (by rw [List.drop_zero]; exact e1) (fun q hq => by cases hq)
  simp only [List.length_nil] at hcl
  generalize hCm : com (T.1 g) (T.1 k) fr (T.1 g).length 0 0 [] = cm at *
  have hG2 := hG1.fj b4
  have F2 : Fq (mczS 752) nor M1 M2 := b4.fq fun a j q => q
  have hC2 : CTs M2 T := ⟨hC1.1.fq hT.1 F2 (by unfold mczS mkS; omega) (fun a j _ q => q), ⟨_, b2⟩, us2, hp2.ext fun a j q => F2.2.2 a j (by unfold mczS mkS; omega)⟩
  have F12 : Fq (fun a j => daS a j) nor M M2 := (F1.mono (T := fun a j => daS a j) (fun a j q => by unfold miS at q; unfold daS; omega) fun a j q => q).trans (F2.mono (fun a j q => by unfold mczS mkS at q; unfold daS; omega) fun a j q => q)
  have h13' : mI M2 27 13 = (fr : Int) := ((F2.2.2 _ _ (by unfold mczS mkS; omega)).trans (F1.2.2 _ _ (by unfold miS; omega))).trans h13
  have h11' : mI M2 27 11 = (tu : Int) := ((F2.2.2 _ _ (by unfold mczS mkS; omega)).trans (F1.2.2 _ _ (by unfold miS; omega))).trans h11
  have r7 : mR M2 27 7 = 30 + 6 * g := ((F2.2.1 _ _ (fun q => q)).trans (F1.2.1 _ _ (fun q => q))).trans h7
  have r71 : mR M1 27 7 = 30 + 6 * g := (F1.2.1 _ _ (fun q => q)).trans h7
  have h131 : mI M1 27 13 = (fr : Int) := (F1.2.2 _ _ (by unfold miS; omega)).trans h13
  -- the scalars
  have f3' : Fj (fun a j => a = 27 ∧ (j = 11 ∨ j = 13)) M2 (stI (stI M2 27 13 ((fr + cm.2.length : Nat) : Int)) 27 11 ((tu + 1 : Nat) : Int)) := (Fj.ofI (by omega)).trans (Fj.ofI (by omega))
  have hG3 := hG2.fj f3'
  have hC3 : CTs (stI (stI M2 27 13 ((fr + cm.2.length : Nat) : Int)) 27 11 ((tu + 1 : Nat) : Int)) T := hC2.fq hT.1 (R := nor) (f3'.fq fun a j q => q) (by omega) (fun a j _ q => q)
  have i11 : mI (stI M2 27 13 ((fr + cm.2.length : Nat) : Int)) 27 11 = (tu : Int) := by rw [mI_ne (by omega)]; exact h11'
  have i13 : mI (stI (stI M2 27 13 ((fr + cm.2.length : Nat) : Int)) 27 11 ((tu + 1 : Nat) : Int)) 27 13 = ((fr + cm.2.length : Nat) : Int) := by rw [mI_ne (by omega), mI_at]
  have i11b : mI (stI (stI M2 27 13 ((fr + cm.2.length : Nat) : Int)) 27 11 ((tu + 1 : Nat) : Int)) 27 11 = ((tu + 1 : Nat) : Int) := mI_at
  have r73 : mR (stI (stI M2 27 13 ((fr + cm.2.length : Nat) : Int)) 27 11 ((tu + 1 : Nat) : Int)) 27 7 = 30 + 6 * g := r7
  have hK3 : MKc (stI (stI M2 27 13 ((fr + cm.2.length : Nat) : Int)) 27 11 ((tu + 1 : Nat) : Int)) (T.1 g) cm.2 := b3.fj f3' (by omega) (by omega)
  have hX3 : XE (stI (stI M2 27 13 ((fr + cm.2.length : Nat) : Int)) 27 11 ((tu + 1 : Nat) : Int)) 752 20480 cm.1 := b2.fj f3' (by omega) (by omega)
  generalize hM3 : stI (stI M2 27 13 ((fr + cm.2.length : Nat) : Int)) 27 11 ((tu + 1 : Nat) : Int) = M3 at *
  obtain ⟨M4, c1, c2, ⟨A, R, c3, c4⟩, c5, c6⟩ := Tr_removeBelow_s hG3 hT.1 hC3.1 hg
  obtain ⟨hTr, -⟩ := hT.1.rem hg
  have hsub : ∀ x, x ∈ lnF (upF T.2.1 g 8 0) → x ∈ lnF T.2.1 := by
    obtain ⟨-, A', S', B', t1, t2, -⟩ := hT.1.rem hg
    intro x hx
    rw [t2] at hx
    rw [t1]
    simp only [List.mem_append, List.mem_cons] at hx ⊢
    rcases hx with q | q | q
    · exact Or.inl q
    · exact Or.inr (Or.inl q)
    · exact Or.inr (Or.inr (Or.inr q))
  -- without what the lost one was told
  have hF1 : ∀ x f, ¬ (x = k ∧ f = 4) → T1.2.1 x f = T.2.1 x f := fun x f h => by rw [hT1]; exact (upF_ne h).symm
  have hcg : ∀ x ∈ lnF (upF T.2.1 g 8 0), ∀ f, upF T1.2.1 g 8 0 x f = upF T.2.1 g 8 0 x f := by
    intro x hx f
    have hxk : x ≠ k := fun q => hkL (q ▸ hx)
    unfold upF
    rw [hF1 x f (by omega)]
  have hT1e : T1.1 = T.1 ∧ T1.2.2 = T.2.2 := by rw [hT1]; exact ⟨rfl, rfl⟩
  obtain ⟨hTr1, hLr1⟩ := hTr.congr hcg
  have hR4 : TRc M4 T.1 (upF T1.2.1 g 8 0) T.2.2 := c2.congr hTr hcg
  have hl0 : lnF T1.2.1 = lnF T.2.1 := lnF_cong fun x _ => ⟨hF1 x 8 (by omega), hF1 x 16 (by omega)⟩
  have hgr : g ∈ lnF (upF T1.2.1 g 8 0) := by
    rw [hLr1]
    obtain ⟨-, A', S', B', t1, t2, -⟩ := hT.1.rem hg
    rw [t2]
    simp
  have f5 : Fj (fun a j => a = 30 + 6 * g ∧ j = 4) M4 (stI M4 (30 + 6 * g) 4 5) := Fj.ofI ⟨rfl, rfl⟩
  have hG5 := c5.fj f5
  have hR5 : TRc (stI M4 (30 + 6 * g) 4 5) T.1 (upF (upF T1.2.1 g 8 0) g 4 5) T.2.2 := hR4.setI hTr1 (by omega) (by omega)
  have hTr5 := hTr1.up1 (m := g) (f := 4) (v := 5) (by omega)
  have F35 : Fq (fun a j => (30 ≤ a ∧ a < 750) ∨ (a = 27 ∧ (j = 8 ∨ j = 12))) anR M3 (stI M4 (30 + 6 * g) 4 5) := c6.trans (f5.fq fun a j q => by omega)
  have hC5 : CTs (stI M4 (30 + 6 * g) 4 5) (T1.1, upF (upF T1.2.1 g 8 0) g 4 5, T1.2.2) := by
    rw [hT1e.1, hT1e.2]
    exact hC3.mkT F35 (by omega) hR5
  have g8 : upF (upF T1.2.1 g 8 0) g 4 5 g 8 = 0 := by rw [upF_ne (by omega), upF_at]
  have hTok : TOK (T1.1, upF (upF T1.2.1 g 8 0) g 4 5, T1.2.2) g := by
    rw [hT1e.1, hT1e.2]
    refine ⟨hTr5.1, ⟨⟨by show g ∈ lnF (upF (upF T1.2.1 g 8 0) g 4 5); rw [hTr5.2]; exact hgr, fun q => ?_⟩, fun j hj => ?_⟩, fun x hx => ?_⟩
    · have q : 0 < nkc (upF (upF T1.2.1 g 8 0) g 4 5) g := q
      unfold nkc at q
      rw [g8] at q
      exact absurd q (Nat.lt_irrefl 0)
    · have hj : j < nkc (upF (upF T1.2.1 g 8 0) g 4 5) g := hj
      unfold nkc at hj
      rw [g8] at hj
      exact absurd hj (Nat.not_lt_zero j)
    · have hx : x ∈ lnF (upF (upF T1.2.1 g 8 0) g 4 5) := hx
      rw [hTr5.2, hLr1] at hx
      exact hT.2.2 x (hsub x hx)
  have k5 : ∀ a j, (a = 12 ∨ a = 14 ∨ a = 15 ∨ a = 16 ∨ a = 752 ∨ a = 753) → mI (stI M4 (30 + 6 * g) 4 5) a j = mI M3 a j := fun a j q => F35.2.2 a j (by omega)
  have hX5 : XE (stI M4 (30 + 6 * g) 4 5) 752 20480 cm.1 := hX3.ext fun a j q => k5 a j (by omega)
  have hMP : MPt (stI M4 (30 + 6 * g) 4 5) (T.1 g) (cm.2.map fun q => q.1) := by
    refine ⟨by rw [List.length_map]; exact (k5 _ _ (by omega)).trans hK3.1, fun i s hs => ?_⟩
    rw [List.getElem?_map] at hs
    cases hq : cm.2[i]? with
    | none => rw [hq] at hs; cases hs
    | some q =>
      rw [hq] at hs
      have hs : q.1 = s := Option.some.inj hs
      obtain ⟨⟨t1, t2⟩, -⟩ := hK3.2 i q hq
      rw [← hs]
      exact ⟨(k5 _ _ (by omega)).trans t1, (k5 _ _ (by omega)).trans t2⟩
  obtain ⟨M6, d1, d2, d3, d4⟩ := Tr_addParts_s (ss := cm.2.map fun q => q.1) (by rw [List.length_map]; omega) hG5 hTok hC5 (q := g) (xs := T.1 g) (by show T1.1 g = T.1 g; rw [hT1e.1]) hTok.k.1 f1 f2 hMP (fun s hs => by
    obtain ⟨q, h1, h2⟩ := List.mem_map.mp hs
    rw [← h2]
    exact (hc2 q h1).1) hX5 hco.1 hco.2
  have r74 : mR M4 27 7 = 30 + 6 * g := (c6.2.1 _ _ (by unfold anR; omega)).trans r73
  have hidx : (lnF T1.2.1).idxOf g = A.length := by
    rw [hl0, c3]
    refine idxOf_mid A R g fun q => ?_
    have := hT.1.1.1
    rw [c3] at this
    exact (List.nodup_append.mp this).2.2 g q g (by simp) rfl
  have K6 : ∀ j, (j = 11 ∨ j = 12 ∨ j = 13) → mI M6 27 j = mI M4 27 j := fun j q => (d4.2.2 _ _ (by unfold daS; omega)).trans (f5.2.2 _ _ (by omega))
  refine ⟨M6, ?_, d2, ⟨?_, ?_, ?_⟩, d3, ?_, hTok⟩
  · rw [Tr_addBelow_eq, hG.nd (by omega), gd_t, h4, if_neg (by decide), if_neg (by decide), if_neg (by decide), if_neg (by decide), if_pos rfl, hG.gT, gd_t, Tr_addLet_eq, hG.gT, gd_t, h7, if_neg (by omega), gd_t, hG.nd (by omega), gd_t, gd_t, hG.nd (by omega), gd_t, hG.r27_1, hG.gMa, gd_t, (hG.ndr (x := k) (by omega)).1, (hG.ndr (x := g) (by omega)).1, a1, cI_s, if_pos (show okO (none : Option Prs) = 0 from rfl), hG1.gT, gd_t, gd_t, r71, hG1.nd (by omega), gd_t, hG1.nd (by omega), gd_t, gd_t, gd_t, hG1.r27_1, hG1.gMa, gd_t, (hG1.ndr (x := g) (by omega)).1, (hG1.ndr (x := k) (by omega)).1, hG1.r27_5, h131, b1, cV_s, hG2.gT, gd_t, gd_t, hG2.r27_1, hG2.gMa, gd_t, gd_t, gd_t, gd_t, gd_t, gd_t, h13', b3.1, wr_id (x := (fr : Int) + (cm.2.length : Int)) (by omega) (by omega), show (fr : Int) + (cm.2.length : Int) = ((fr + cm.2.length : Nat) : Int) by omega, i11, wr_s (by omega), hM3, r7, c1, cV_s, c5.gT, gd_t, r74, c5.nd (by omega), gd_t, gd_t, gd_t, gd_t, gd_t, (c5.ndr (x := g) (by omega)).1, d1, cI_s, cI_s]
  · rw [K6 12 (by omega), c4, hidx]
  · rw [K6 13 (by omega), c6.2.2 _ _ (by omega)]; exact i13
  · rw [K6 11 (by omega), c6.2.2 _ _ (by omega)]; exact i11b
  · have F23 : Fq dlS anR M2 M3 := f3'.fq fun a j q => by unfold dlS; omega
    exact (((F12.mono (T := dlS) (U := anR) (fun a j q => Or.inl q) fun a j q => q.elim).trans F23).trans (F35.mono (fun a j q => by unfold dlS daS; omega) fun a j q => q)).trans (d4.mono (fun a j q => Or.inl q) fun a j q => q)
end LET

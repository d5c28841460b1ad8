/-! ===== the common form ===== -/
abbrev Pr2 : Type := List (Nat × Nat)
def pfo (xs ys : List Int) (a b : Nat) : Pr2 → Nat → Option Nat
  | [], _ => none
  | q :: ps, k => if same xs q.1 xs a = true ∧ same ys q.2 ys b = true then some k else pfo xs ys a b ps (k + 1)
def cns (c : Int) (r : List Int × Pr2) : List Int × Pr2 := (c :: r.1, r.2)
/-- the common form of two rows from two places on, and what its VARS stand for -/
def com (xs ys : List Int) (bs : Int) : Nat → Nat → Nat → Pr2 → List Int × Pr2
  | 0, _, _, ps => ([], ps)
  | n + 1, p, q, ps => if p < xs.length then (if nth xs p = nth ys q ∧ kd (nth xs p) ≠ 0 then cns (nth xs p) (com xs ys bs n (p + 1) (q + 1) ps) else match pfo xs ys p q ps 0 with
    | some k => cns (bs + (k : Int)) (com xs ys bs n (beh xs p) (beh ys q) ps)
    | none => cns (bs + (ps.length : Int)) (com xs ys bs n (beh xs p) (beh ys q) (ps ++ [(p, q)]))) else ([], ps)
theorem pfo_lt {xs ys : List Int} {a b : Nat} : ∀ (ps : Pr2) (i k : Nat), pfo xs ys a b ps i = some k → i ≤ k ∧ k < i + ps.length := by
  intro ps
  induction ps with
  | nil => intro i k h; cases h
  | cons q ps ih =>
    intro i k h
    unfold pfo at h
    split at h
    · cases h
      exact ⟨Nat.le_refl _, by simp⟩
    · have := ih _ _ h
      rw [List.length_cons]
      omega
/-- all begin in both -/
def ps2 (xs ys : List Int) (ps : Pr2) : Prop := ∀ q ∈ ps, q.1 < xs.length ∧ q.2 < ys.length
theorem ps2.app {xs ys : List Int} {ps : Pr2} (h : ps2 xs ys ps) {p q : Nat} (hp : p < xs.length) (hq : q < ys.length) : ps2 xs ys (ps ++ [(p, q)]) := fun r hr => (List.mem_append.mp hr).elim (h r) fun e => by rw [List.mem_singleton.mp e]; exact ⟨hp, hq⟩
theorem com_len {xs ys : List Int} {bs : Int} : ∀ (n p q : Nat) (ps : Pr2), p ≤ xs.length → (com xs ys bs n p q ps).1.length ≤ xs.length - p ∧ (com xs ys bs n p q ps).2.length ≤ ps.length + (xs.length - p) ∧ ps.length ≤ (com xs ys bs n p q ps).2.length := by
  intro n
  induction n with
  | zero => intro p q ps _; exact ⟨Nat.zero_le _, by show ps.length ≤ _; omega, Nat.le_refl _⟩
  | succ n ih =>
    intro p q ps hp
    unfold com
    by_cases h : p < xs.length
    · have hb := beh_gt h
      have hb2 := beh_le (xs := xs) hp
      rw [if_pos h]
      split
      · have := ih (p + 1) (q + 1) ps (by omega)
        unfold cns
        simp only [List.length_cons]
        omega
      · split
        · have := ih (beh xs p) (beh ys q) ps hb2
          unfold cns
          simp only [List.length_cons]
          omega
        · have := ih (beh xs p) (beh ys q) (ps ++ [(p, q)]) hb2
          rw [List.length_append, List.length_singleton] at this
          unfold cns
          simp only [List.length_cons]
          omega
    · rw [if_neg h]
      exact ⟨Nat.zero_le _, by show ps.length ≤ _; omega, Nat.le_refl _⟩
theorem com_ok {xs ys : List Int} {bs : Int} (hb0 : 0 ≤ bs) (hv : av xs) : ∀ (n p q w : Nat) (ps : Pr2), p ≤ xs.length → xs.length - p ≤ n → bs + (ps.length : Int) + (xs.length - p : Nat) < 65536 → wf w (xs.drop p) → wf w (com xs ys bs n p q ps).1 ∧ av (com xs ys bs n p q ps).1 := by
  intro n
  induction n with
  | zero =>
    intro p q w ps hp hn _ hw
    rw [List.drop_eq_nil_of_le (by omega)] at hw
    exact ⟨hw, fun c hc => by cases hc⟩
  | succ n ih =>
    intro p q w ps hp hn hb hw
    unfold com
    by_cases h : p < xs.length
    · have hb1 := beh_gt h
      have hb2 := beh_le (xs := xs) hp
      rw [if_pos h]
      have hw' := hw
      rw [drop_cons h] at hw'
      obtain ⟨v, rfl, hw2⟩ := wf_pos hw'
      have cons : ∀ {c : Int} {r : List Int × Pr2}, vc c → wf (v + arN c) r.1 → av r.1 → wf (v + 1) (cns c r).1 ∧ av (cns c r).1 := fun hc h1 h2 => ⟨h1, fun d hd => (List.mem_cons.mp hd).elim (fun e => by rw [e]; exact hc) (h2 d)⟩
      split
      · obtain ⟨i1, i2⟩ := ih (p + 1) (q + 1) _ ps (by omega) (by omega) (by omega) hw2
        exact cons (av_nth hv h) i1 i2
      · split
        · rename_i k hk
          have hkl := pfo_lt _ _ _ hk
          have hr : 0 ≤ bs + (k : Int) ∧ bs + (k : Int) < 65536 := by omega
          obtain ⟨i1, i2⟩ := ih (beh xs p) (beh ys q) v ps hb2 (by omega) (by omega) (wf_beh hw)
          exact cons (vc_var hr) (by rw [var_ar (vc_var hr) (kd_var hr).1]; exact i1) i2
        · have hr : 0 ≤ bs + (ps.length : Int) ∧ bs + (ps.length : Int) < 65536 := by omega
          obtain ⟨i1, i2⟩ := ih (beh xs p) (beh ys q) v (ps ++ [(p, q)]) hb2 (by omega) (by rw [List.length_append, List.length_singleton]; omega) (wf_beh hw)
          exact cons (vc_var hr) (by rw [var_ar (vc_var hr) (kd_var hr).1]; exact i1) i2
    · rw [List.drop_eq_nil_of_le (by omega)] at hw
      rw [if_neg h]
      exact ⟨hw, fun c hc => by cases hc⟩
section COM
variable {M : Mem} {e f s n m sn : Nat} {xs ys : List Int} {ps : Pr2}
/-- pairs of parts of the class's matcher -/
def MKc (M : Mem) (xs : List Int) (ps : Pr2) : Prop := mI M 12 10 = (ps.length : Int) ∧ ∀ k q, ps[k]? = some q → (mI M 15 k = (q.1 : Int) ∧ mI M 16 k = (beh xs q.1 : Int)) ∧ mI M 14 k = (q.2 : Int)
def mkS : Nat → Nat → Prop := fun a k => a = 14 ∨ a = 15 ∨ a = 16 ∨ (a = 12 ∧ k = 10)
theorem MKc.fj {M1 : Mem} {A : Nat → Nat → Prop} (h : MKc M xs ps) (g : Fj A M M1) (h0 : ∀ k, ¬ A 14 k ∧ ¬ A 15 k ∧ ¬ A 16 k) (h1 : ¬ A 12 10) : MKc M1 xs ps := ⟨(g.2.2 _ _ h1).trans h.1, fun k q hq => ⟨⟨(g.2.2 _ _ (h0 _).2.1).trans (h.2 k q hq).1.1, (g.2.2 _ _ (h0 _).2.2).trans (h.2 k q hq).1.2⟩, (g.2.2 _ _ (h0 _).1).trans (h.2 k q hq).2⟩⟩
theorem MKc.push (h : MKc M xs ps) {p q : Nat} : MKc (stI (stI (stI (stI M 15 ps.length (p : Int)) 16 ps.length (beh xs p : Int)) 14 ps.length (q : Int)) 12 10 ((ps.length + 1 : Nat) : Int)) xs (ps ++ [(p, q)]) := by
  refine ⟨by rw [mI_at, List.length_append]; rfl, fun k r hr => ?_⟩
  by_cases g : k = ps.length
  · subst g
    rw [List.getElem?_append_right (Nat.le_refl _), Nat.sub_self] at hr
    cases hr
    refine ⟨⟨?_, ?_⟩, ?_⟩
    · rw [mI_ne (by omega), mI_ne (by omega), mI_ne (by omega), mI_at]
    · rw [mI_ne (by omega), mI_ne (by omega), mI_at]
    · rw [mI_ne (by omega), mI_at]
  · have hk : k < ps.length := by
      have := (List.getElem?_eq_some_iff.mp hr).1
      rw [List.length_append, List.length_singleton] at this
      omega
    rw [List.getElem?_append_left hk] at hr
    refine ⟨⟨?_, ?_⟩, ?_⟩
    · rw [mI_ne (by omega), mI_ne (by omega), mI_ne (by omega), mI_ne (by omega)]
      exact (h.2 k r hr).1.1
    · rw [mI_ne (by omega), mI_ne (by omega), mI_ne (by omega), mI_ne (by omega)]
      exact (h.2 k r hr).1.2
    · rw [mI_ne (by omega), mI_ne (by omega), mI_ne (by omega), mI_ne (by omega)]
      exact (h.2 k r hr).2
theorem Ma_pairOf_s (hG : Good M) (hX : XE M e n xs) (hY : XE M f m ys) (hv : av xs) (hvy : av ys) (hw : wf 1 xs) (hwy : wf 1 ys) (hK : MKc M xs ps) (hps : ps2 xs ys ps) (hl : ps.length < 40) {p q : Nat} (hp : p < xs.length) (hq : q < ys.length) (he : 16 < e) (hf : 16 < f) : ∀ (t k : Nat), ps.length - k = t → k ≤ ps.length → ∃ M', Ma_indexOfPair_3 12 e (p : Int) f (q : Int) (k : Int) M = some (some (.inl (match pfo xs ys p q (ps.drop k) k with
    | some j => (j : Int)
    | none => (ps.length : Int))), M') ∧ MKc M' xs (match pfo xs ys p q (ps.drop k) k with
    | some _ => ps
    | none => ps ++ [(p, q)]) ∧ Fj mkS M M' := by
  obtain ⟨a, ha⟩ := wf_at hw hp
  obtain ⟨b, hb⟩ := wf_at hwy hq
  intro t
  induction t with
  | zero =>
    intro k e1 e2
    have hd : ps.drop k = [] := List.drop_eq_nil_of_le (by omega)
    have f1 : Fj mkS M (stI M 15 ps.length (p : Int)) := Fj.ofI (by unfold mkS; omega)
    have hG1 := hG.fj f1
    have hX1 : XE (stI M 15 ps.length (p : Int)) e n xs := hX.fj f1 (by unfold mkS; omega) (by unfold mkS; omega)
    have e10 : mI (stI M 15 ps.length (p : Int)) 12 10 = (ps.length : Int) := by rw [mI_ne (by omega)]; exact hK.1
    have e10b : mI (stI (stI M 15 ps.length (p : Int)) 16 ps.length (beh xs p : Int)) 12 10 = (ps.length : Int) := by rw [mI_ne (by omega)]; exact e10
    have e10c : mI (stI (stI (stI M 15 ps.length (p : Int)) 16 ps.length (beh xs p : Int)) 14 ps.length (q : Int)) 12 10 = (ps.length : Int) := by rw [mI_ne (by omega)]; exact e10b
    rw [hd, Ma_indexOfPair_3_eq, hG.gMa, gd_t, hK.1, if_neg (by omega), gd_t, if_pos (by omega), gd_t, gd_t, hG.r12_2, hG.tgS arr_15 (by omega) (by omega), gd_t, gd_t, gd_t, hX.g hG, gd_t, toNat_n, Ex_behind_s hG1 hX1 hv (by omega), cI_s, hG.r12_3, e10, hG1.tgS arr_16 (by omega) (by omega), gd_t, hG1.gMa, gd_t, gd_t, hG1.r12_1, toNat_n, e10b, hG1.tgS arr_14 (by omega) (by omega), gd_t, gd_t, gd_t, gd_t, toNat_n, e10c, wr_s (by omega), mI_at, wr_id (x := ((ps.length + 1 : Nat) : Int) - 1) (by omega) (by omega), show ((ps.length + 1 : Nat) : Int) - 1 = (ps.length : Int) by omega]
    exact ⟨_, rfl, hK.push, ((f1.trans (Fj.ofI (by unfold mkS; omega))).trans (Fj.ofI (by unfold mkS; omega))).trans (Fj.ofI (by unfold mkS; omega))⟩
  | succ t ih =>
    intro k e1 e2
    have hk : k < ps.length := by omega
    have hg : ps[k]? = some ps[k] := List.getElem?_eq_getElem hk
    obtain ⟨⟨g1, g2⟩, g3⟩ := hK.2 k _ hg
    obtain ⟨l1, l2⟩ := hps _ (List.mem_of_getElem? hg)
    obtain ⟨a', ha'⟩ := wf_at hw l1
    obtain ⟨b', hb'⟩ := wf_at hwy l2
    have hd : ps.drop k = ps[k] :: ps.drop (k + 1) := List.drop_eq_getElem_cons hk
    obtain ⟨M', i1, i2, i3⟩ := ih (k + 1) (by omega) (by omega)
    rw [hd, Ma_indexOfPair_3_eq, hG.gMa, gd_t, hK.1, if_pos (by omega), gd_t, hG.r12_2, hG.tgS arr_15 (by omega) (by omega), gd_t, hX.g hG, gd_t, toNat_n, g1, Ex_samePart_s hG hX hv hX ha' ha, cI_s, wr_s (by omega)]
    unfold pfo
    by_cases s1 : same xs ps[k].1 xs p = true
    · rw [if_pos s1, if_neg (by decide), hG.gMa, gd_t, hG.r12_1, hG.tgS arr_14 (by omega) (by omega), gd_t, hY.g hG, gd_t, g3, Ex_samePart_s hG hY hvy hY hb' hb, cI_s]
      by_cases s2 : same ys ps[k].2 ys q = true
      · rw [if_pos s2, if_neg (by decide), if_pos ⟨s1, s2⟩]
        exact ⟨M, rfl, hK, Fj.refl⟩
      · rw [if_neg s2, if_pos rfl, if_neg (fun q => s2 q.2)]
        exact ⟨M', i1, i2, i3⟩
    · rw [if_neg s1, if_pos rfl, if_neg (fun q => s1 q.1)]
      exact ⟨M', i1, i2, i3⟩
def mczS (s : Nat) : Nat → Nat → Prop := fun a k => mkS a k ∨ a = s ∨ a = s + 1
theorem Ma_makeCommon_loop (he : 16 < e) (hf : 16 < f) (hs : 16 < s) (hse : s ≠ e ∧ s + 1 ≠ e ∧ s ≠ e + 1) (hsf : s ≠ f ∧ s + 1 ≠ f ∧ s ≠ f + 1) (hv : av xs) (hvy : av ys) (hw : wf 1 xs) (hwy : wf 1 ys) (hl : xs.length ≤ 40) (hly : ys.length ≤ 40) (hsn : 40 ≤ sn) {fv : Nat} (hfv : fv + 100 < 65536) : ∀ (k rd p q w : Nat) (ps : Pr2) (out : List Int) (M : Mem) (d8 d9 : LV), k + rd = xs.length → rd ≤ p → p ≤ xs.length → q ≤ ys.length → wf w (xs.drop p) → wf w (ys.drop q) → Good M → XE M e n xs → XE M f m ys → XE M s sn out → MKc M xs ps → ps2 xs ys ps → ps.length ≤ p → out.length ≤ p → ∃ M', Ma_makeCommon_18 12 e f s (fv : Int) (p : Int) (q : Int) (rd : Int) d8 d9 M = some (none, M') ∧ XE M' s sn (out ++ (com xs ys fv k p q ps).1) ∧ MKc M' xs (com xs ys fv k p q ps).2 ∧ Fj (mczS s) M M' := by
  intro k
  induction k with
  | zero =>
    intro rd p q w ps out M d8 d9 e1 e2 e3 e3b hwx hwq hG hX hY hO hK hps hpl hol
    rw [Ma_makeCommon_18_eq, hX.g hG, gd_t, hX.s, if_neg (by omega)]
    refine ⟨M, rfl, ?_, hK, Fj.refl⟩
    show XE M s sn (out ++ [])
    rw [List.append_nil]
    exact hO
  | succ k ih =>
    intro rd p q w ps out M d8 d9 e1 e2 e3 e3b hwx hwq hG hX hY hO hK hps hpl hol
    unfold com
    by_cases hp : p < xs.length
    · obtain ⟨v, rfl, hwn⟩ := wf_pos (by rw [drop_cons hp] at hwx; exact hwx)
      have hq := wf_some hwq
      have hc := av_nth hv hp
      have hd := av_nth hvy hq
      have hb1 := beh_gt hp
      have hb2 := beh_le (xs := xs) (p := p) (by omega)
      have hb3 := beh_le (xs := ys) (p := q) (by omega)
      -- where they differ
      have e78 : ∀ (d8 d9 : LV), ∃ M', Ma_makeCommon_78 12 e f s (fv : Int) (p : Int) (q : Int) (rd : Int) d8 d9 M = some (none, M') ∧ XE M' s sn (out ++ (match pfo xs ys p q ps 0 with
          | some j => cns ((fv : Int) + (j : Int)) (com xs ys fv k (beh xs p) (beh ys q) ps)
          | none => cns ((fv : Int) + (ps.length : Int)) (com xs ys fv k (beh xs p) (beh ys q) (ps ++ [(p, q)]))).1) ∧ MKc M' xs (match pfo xs ys p q ps 0 with
          | some j => cns ((fv : Int) + (j : Int)) (com xs ys fv k (beh xs p) (beh ys q) ps)
          | none => cns ((fv : Int) + (ps.length : Int)) (com xs ys fv k (beh xs p) (beh ys q) (ps ++ [(p, q)]))).2 ∧ Fj (mczS s) M M' := by
        intro d8 d9
        obtain ⟨M1, a1, a2, a3⟩ := Ma_pairOf_s hG hX hY hv hvy hw hwy hK hps (by omega) hp hq he hf _ 0 rfl (Nat.zero_le _)
        rw [List.drop_zero] at a1 a2
        have a1 : Ma_indexOfPair_3 12 e (p : Int) f (q : Int) 0 M = _ := a1
        have hG1 := hG.fj a3
        have hX1 := hX.fj a3 (by unfold mkS; omega) (by unfold mkS; omega)
        have hY1 := hY.fj a3 (by unfold mkS; omega) (by unfold mkS; omega)
        have hO1 := hO.fj a3 (by unfold mkS; omega) (by unfold mkS; omega)
        have rest : ∀ (j : Nat) (ps' : Pr2), j ≤ 40 → MKc M1 xs ps' → ps2 xs ys ps' → ps'.length ≤ p + 1 → ∃ M', (cI (Ex_cell 0 0 (wr ((fv : Int) + (j : Int))) M1) fun r4 M3 => gd (gO M3 s 2) (cV (Ex_add s r4 M3) fun M5 => gd (gO M5 e 2) (cI (Ex_behind e (p : Int) M5) fun r7 M6 => gd (gO M6 f 2) (cI (Ex_behind f (q : Int) M6) fun r9 M8 => Ma_makeCommon_18 12 e f s (fv : Int) r7 r9 (wr ((rd : Int) + 1)) d8 (some (.inl (j : Int))) M8)))) = some (none, M') ∧ XE M' s sn (out ++ (cns ((fv : Int) + (j : Int)) (com xs ys fv k (beh xs p) (beh ys q) ps')).1) ∧ MKc M' xs (com xs ys fv k (beh xs p) (beh ys q) ps').2 ∧ Fj (mczS s) M M' := by
          intro j ps' hj hK' hps' hpl'
          obtain ⟨M2, b1, b2, b3⟩ := Ex_add_s hG1 hO1 ((fv : Int) + (j : Int)) (by omega)
          have hG2 := hG1.fi b3
          have hX2 := hX1.fi b3 (by unfold eS; omega) (by unfold eS; omega)
          have hY2 := hY1.fi b3 (by unfold eS; omega) (by unfold eS; omega)
          have F2 : Fj (fun a _ => eS s a) M1 M2 := b3.fj fun a k q => q
          obtain ⟨M3, c1, c2, c3, c4⟩ := ih (rd + 1) (beh xs p) (beh ys q) v ps' (out ++ [(fv : Int) + (j : Int)]) M2 d8 (some (.inl (j : Int))) (by omega) (by omega) hb2 hb3 (wf_beh hwx) (wf_beh hwq) hG2 hX2 hY2 b2 (hK'.fj F2 (by unfold eS; omega) (by unfold eS; omega)) hps' (by omega) (by rw [List.length_append, List.length_singleton]; omega)
          have ec := Ex_cell_s (M := M1) (k := 0) (a := 0) (s := (fv : Int) + (j : Int)) (by decide) (by decide) (by omega)
          rw [show (0 : Int) * 16777216 + 0 * 65536 + ((fv : Int) + (j : Int)) = (fv : Int) + (j : Int) by omega] at ec
          rw [wr_id (x := (fv : Int) + (j : Int)) (by omega) (by omega), ec, cI_s, hO1.g hG1, gd_t, b1, cV_s, hX2.g hG2, gd_t, Ex_behind_s hG2 hX2 hv (by omega), cI_s, hY2.g hG2, gd_t, Ex_behind_s hG2 hY2 hvy (by omega), cI_s, wr_s (by omega), c1]
          refine ⟨M3, rfl, ?_, c3, ((a3.mono (T := mczS s) fun a k q => Or.inl q).trans (F2.mono (T := mczS s) fun a k q => Or.inr q)).trans c4⟩
          rw [List.append_assoc] at c2
          exact c2
        rw [Ma_makeCommon_78_eq, hG.gMa, gd_t, Ma_indexOfPair_eq, a1, cI_s]
        cases hpf : pfo xs ys p q ps 0 with
        | some j =>
          rw [hpf] at a2
          have hj := pfo_lt _ _ _ hpf
          exact rest j ps (by omega) a2 hps (by omega)
        | none =>
          rw [hpf] at a2
          exact rest ps.length (ps ++ [(p, q)]) (by omega) a2 (hps.app hp hq) (by rw [List.length_append, List.length_singleton]; omega)
      rw [if_pos hp, Ma_makeCommon_18_eq, hX.g hG, gd_t, hX.s, if_pos (by omega), gd_t, if_pos (by omega), gd_t, Ex_cellAt_s hG hX, cA_n hp, cI_s, hY.g hG, gd_t, Ex_cellAt_s hG hY, cA_n hq, cI_s]
      by_cases he2 : nth xs p = nth ys q
      · rw [if_pos he2, Ex_kind_s hc.inR, cI_s]
        by_cases hk : kd (nth xs p) = 0
        · rw [if_pos hk, if_neg (fun q => q.2 hk)]
          exact e78 _ _
        · obtain ⟨M2, b1, b2, b3⟩ := Ex_add_s hG hO (nth xs p) (by omega)
          have hG2 := hG.fi b3
          have F2 : Fj (fun a _ => eS s a) M M2 := b3.fj fun a k q => q
          have hwq2 := wf_next hq hwq
          obtain ⟨M3, c1, c2, c3, c4⟩ := ih (rd + 1) (p + 1) (q + 1) (v + arN (nth xs p)) ps (out ++ [nth xs p]) M2 (some (.inl (nth xs p))) d9 (by omega) (by omega) (by omega) (by omega) hwn (by rw [he2]; exact hwq2) hG2 (hX.fi b3 (by unfold eS; omega) (by unfold eS; omega)) (hY.fi b3 (by unfold eS; omega) (by unfold eS; omega)) b2 (hK.fj F2 (by unfold eS; omega) (by unfold eS; omega)) hps (by omega) (by rw [List.length_append, List.length_singleton]; omega)
          rw [if_neg hk, hO.g hG, gd_t, b1, cV_s, wr_s (by omega), wr_s (by omega), wr_s (by omega), c1, if_pos ⟨he2, hk⟩]
          refine ⟨M3, rfl, ?_, c3, (F2.mono fun a k q => by unfold eS at q; unfold mczS; omega).trans c4⟩
          rw [List.append_assoc] at c2
          exact c2
      · rw [if_neg he2, if_neg (fun q => he2 q.1)]
        exact e78 _ _
    · rw [if_neg hp, Ma_makeCommon_18_eq, hX.g hG, gd_t, hX.s]
      refine ⟨M, ?_, ?_, hK, Fj.refl⟩
      · by_cases q : (rd : Int) < (xs.length : Int)
        · rw [if_pos q, gd_t, if_neg (by omega)]
        · rw [if_neg q]
      · show XE M s sn (out ++ [])
        rw [List.append_nil]
        exact hO
theorem Ma_makeCommon_s (he : 16 < e) (hf : 16 < f) (hs : 16 < s) (hse : s ≠ e ∧ s + 1 ≠ e ∧ s ≠ e + 1) (hsf : s ≠ f ∧ s + 1 ≠ f ∧ s ≠ f + 1) (hv : av xs) (hvy : av ys) (hw : wf 1 xs) (hwy : wf 1 ys) (hl : xs.length ≤ 40) (hly : ys.length ≤ 40) (hsn : 40 ≤ sn) {fv : Nat} (hfv : fv + 100 < 65536) (hG : Good M) (hX : XE M e n xs) (hY : XE M f m ys) {us : List Int} (hO : XE M s sn us) : ∃ M', Ma_makeCommon 12 e f s (fv : Int) M = some (none, M') ∧ XE M' s sn (com xs ys fv xs.length 0 0 []).1 ∧ MKc M' xs (com xs ys fv xs.length 0 0 []).2 ∧ Fj (mczS s) M M' := by
  obtain ⟨M1, a1, a2, a3⟩ := Ex_clear_s hG hO
  have hG1 := hG.fi a3
  have f1 : Fj (fun a k => a = 12 ∧ k = 10) M1 (stI M1 12 10 0) := Fj.ofI ⟨rfl, rfl⟩
  have F1 : Fj (fun a k => eS s a ∨ (a = 12 ∧ k = 10)) M (stI M1 12 10 0) := (a3.fj fun a k q => Or.inl q).trans (f1.mono fun a k q => Or.inr q)
  obtain ⟨M2, b1, b2, b3, b4⟩ := Ma_makeCommon_loop he hf hs hse hsf hv hvy hw hwy hl hly hsn hfv xs.length 0 0 0 1 [] [] (stI M1 12 10 0) none none rfl (Nat.le_refl _) (Nat.zero_le _) (Nat.zero_le _) hw hwy (hG.fj F1) (hX.fj F1 (by unfold eS; omega) (by unfold eS; omega)) (hY.fj F1 (by unfold eS; omega) (by unfold eS; omega)) (a2.fj f1 (by omega) (by omega)) ⟨mI_at, fun k q hq => by rw [List.getElem?_nil] at hq; cases hq⟩ (fun q hq => by cases hq) (Nat.zero_le _) (Nat.zero_le _)
  have b1 : Ma_makeCommon_18 12 e f s (fv : Int) 0 0 0 none none (stI M1 12 10 0) = _ := b1
  rw [List.nil_append] at b2
  rw [Ma_makeCommon_eq, hO.g hG, gd_t, a1, cV_s, hG1.gMa, gd_t, b1]
  exact ⟨M2, rfl, b2, b3, (F1.mono fun a k q => by unfold eS at q; unfold mczS mkS; omega).trans b4⟩
end COM

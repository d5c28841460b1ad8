/-! ===== the common form: the reference ===== -/
section MCOM
variable {M : Mem} {A B n m o o2 : Nat} {xs ys : List Int} {ps : Pr2}
theorem arr_1306 : arr 1306 0 41 := arr_of _ _ _ (by decide)
def MKm (M : Mem) (o o2 : Nat) (ps : Pr2) : Prop := mI M 1269 56 = (ps.length : Int) ∧ ∀ k q, ps[k]? = some q → mI M 1303 k = ((o + q.1 : Nat) : Int) ∧ mI M 1304 k = ((o2 + q.2 : Nat) : Int)
def mkmS : Nat → Nat → Prop := fun a k => a = 1303 ∨ a = 1304 ∨ (a = 1269 ∧ k = 56)
def mcmS : Nat → Nat → Prop := fun a k => mkmS a k ∨ a = 1306 ∨ (a = 1269 ∧ k = 59)
theorem MKm.fj {M1 : Mem} {S : Nat → Nat → Prop} (h : MKm M o o2 ps) (g : Fj S M M1) (h0 : ∀ k, ¬ S 1303 k ∧ ¬ S 1304 k) (h1 : ¬ S 1269 56) : MKm M1 o o2 ps := ⟨(g.2.2 _ _ h1).trans h.1, fun k q hq => ⟨(g.2.2 _ _ (h0 _).1).trans (h.2 k q hq).1, (g.2.2 _ _ (h0 _).2).trans (h.2 k q hq).2⟩⟩
theorem MKm.push (h : MKm M o o2 ps) {p q : Nat} : MKm (stI (stI (stI M 1303 ps.length ((o + p : Nat) : Int)) 1304 ps.length ((o2 + q : Nat) : Int)) 1269 56 ((ps.length + 1 : Nat) : Int)) o o2 (ps ++ [(p, q)]) := by
  refine ⟨by rw [mI_at, List.length_append]; rfl, fun k r hr => ?_⟩
  by_cases g : k = ps.length
  · subst g
    rw [List.getElem?_append_right (Nat.le_refl _), Nat.sub_self] at hr
    cases hr
    refine ⟨?_, ?_⟩
    · rw [mI_ne (by omega), mI_ne (by omega), mI_at]
    · rw [mI_ne (by omega), mI_at]
  · have hk : k < ps.length := by
      have := (List.getElem?_eq_some_iff.mp hr).1
      rw [List.length_append, List.length_singleton] at this
      omega
    rw [List.getElem?_append_left hk] at hr
    refine ⟨?_, ?_⟩
    · rw [mI_ne (by omega), mI_ne (by omega), mI_ne (by omega)]
      exact (h.2 k r hr).1
    · rw [mI_ne (by omega), mI_ne (by omega), mI_ne (by omega)]
      exact (h.2 k r hr).2
theorem M_pairOf_49s (hG : Good M) (hK : MKm M o o2 ps) (hl : ps.length < 41) {p q : Nat} (d1 d3 : LV) : ∃ M', M_pairOf_49 1269 ((o + p : Nat) : Int) ((o2 + q : Nat) : Int) (ps.length : Int) d1 d3 M = some (some (.inl (ps.length : Int)), M') ∧ MKm M' o o2 (ps ++ [(p, q)]) ∧ Fj mkmS M M' := by
  have e1 : mI (stI M 1303 ps.length ((o + p : Nat) : Int)) 1269 56 = (ps.length : Int) := by rw [mI_ne (by omega)]; exact hK.1
  have e2 : mI (stI (stI M 1303 ps.length ((o + p : Nat) : Int)) 1304 ps.length ((o2 + q : Nat) : Int)) 1269 56 = (ps.length : Int) := by rw [mI_ne (by omega)]; exact e1
  rw [M_pairOf_49_eq, hG.gM, gd_t, hK.1, if_neg (by omega), gd_t, gd_t, hG.m54, hG.tgS arr_1303 (by omega) (by omega), gd_t, gd_t, gd_t, toNat_n, e1, hG.m55, hG.tgS arr_1304 (by omega) (by omega), gd_t, gd_t, gd_t, toNat_n, e2, wr_s (by omega)]
  exact ⟨_, rfl, hK.push, ((Fj.ofI (by unfold mkmS; omega)).trans (Fj.ofI (by unfold mkmS; omega))).trans (Fj.ofI (by unfold mkmS; omega))⟩
theorem M_pairOf_loop (hG : Good M) (hX : RX M A n o xs) (hY : RX M B m o2 ys) (hw : wf 1 xs) (hwy : wf 1 ys) (hK : MKm M o o2 ps) (hps : ps2 xs ys ps) (hl : ps.length < 41) {p q : Nat} (hp : p < xs.length) (hq : q < ys.length) : ∀ (t k : Nat), ps.length - k = t → k ≤ ps.length → ∃ M', M_pairOf_3 1269 A ((o + p : Nat) : Int) B ((o2 + q : Nat) : Int) (k : Int) M = some (some (.inl (match pfo xs ys p q (ps.drop k) k with
    | some j => (j : Int)
    | none => (ps.length : Int))), M') ∧ MKm M' o o2 (match pfo xs ys p q (ps.drop k) k with
    | some _ => ps
    | none => ps ++ [(p, q)]) ∧ Fj mkmS M M' := by
  obtain ⟨a, ha⟩ := wf_at hw hp
  obtain ⟨b, hb⟩ := wf_at hwy hq
  intro t
  induction t with
  | zero =>
    intro k e1 e2
    have hd : ps.drop k = [] := List.drop_eq_nil_of_le (by omega)
    obtain ⟨M', a1, a2, a3⟩ := M_pairOf_49s hG hK hl (p := p) (q := q) (some (.inr A)) (some (.inr B))
    rw [hd, M_pairOf_3_eq, hG.gM, gd_t, hK.1, if_neg (by omega), show (k : Int) = (ps.length : Int) by omega]
    exact ⟨M', a1, a2, a3⟩
  | succ t ih =>
    intro k e1 e2
    have hk : k < ps.length := by omega
    have hg : ps[k]? = some ps[k] := List.getElem?_eq_getElem hk
    obtain ⟨g1, g2⟩ := hK.2 k _ hg
    obtain ⟨l1, l2⟩ := hps _ (List.mem_of_getElem? hg)
    obtain ⟨a', ha'⟩ := wf_at hw l1
    obtain ⟨b', hb'⟩ := wf_at hwy l2
    have hd : ps.drop k = ps[k] :: ps.drop (k + 1) := List.drop_eq_getElem_cons hk
    obtain ⟨M', i1, i2, i3⟩ := ih (k + 1) (by omega) (by omega)
    rw [hd, M_pairOf_3_eq, hG.gM, gd_t, hK.1, if_pos (by omega), gd_t, hG.m54, hG.tgS arr_1303 (by omega) (by omega), gd_t, toNat_n, g1, M_isSameAt_s hG hX ha' ha, cI_s, wr_s (by omega)]
    unfold pfo
    by_cases s1 : same xs ps[k].1 xs p = true
    · rw [if_pos s1, if_neg (by decide), hG.gM, gd_t, hG.m55, hG.tgS arr_1304 (by omega) (by omega), gd_t, g2, M_isSameAt_s hG hY hb' hb, cI_s]
      by_cases s2 : same ys ps[k].2 ys q = true
      · rw [if_pos s2, if_neg (by decide), if_pos ⟨s1, s2⟩, M_pairOf_49_eq, hG.gM, gd_t, hK.1, if_pos (by omega)]
        exact ⟨M, rfl, hK, Fj.refl⟩
      · rw [if_neg s2, if_pos rfl, if_neg (fun q => s2 q.2)]
        exact ⟨M', i1, i2, i3⟩
    · rw [if_neg s1, if_pos rfl, if_neg (fun q => s1 q.1)]
      exact ⟨M', i1, i2, i3⟩
/-- the form so far -/
def MFo (M : Mem) (out : List Int) : Prop := mI M 1269 59 = (out.length : Int) ∧ RM M 1306 0 out
theorem MFo.push {out : List Int} (h : MFo M out) {c : Int} : MFo (stI (stI M 1306 out.length (cm c)) 1269 59 ((out.length + 1 : Nat) : Int)) (out ++ [c]) := by
  refine ⟨by rw [mI_at, List.length_append]; rfl, fun i hi => ?_⟩
  rw [List.length_append, List.length_singleton] at hi
  rw [Nat.zero_add, mI_ne (by omega)]
  by_cases q : i = out.length
  · subst q; rw [mI_at, nth_app2 (Nat.le_refl _), Nat.sub_self]; rfl
  · rw [mI_ne (by omega), nth_app1 (by omega)]
    have := h.2 i (by omega)
    rwa [Nat.zero_add] at this
theorem M_layCommon_loop (hA : A ≠ 1303 ∧ A ≠ 1304 ∧ A ≠ 1306 ∧ A ≠ 1269) (hB : B ≠ 1303 ∧ B ≠ 1304 ∧ B ≠ 1306 ∧ B ≠ 1269) (hw : wf 1 xs) (hwy : wf 1 ys) (hl : xs.length ≤ 40) {fv : Nat} (hfv : 1414 ≤ fv ∧ fv + 100 < 65536) (d2 d4 : LV) : ∀ (k p q w : Nat) (ps : Pr2) (out : List Int) (M : Mem), xs.length - p ≤ k → p ≤ xs.length → q ≤ ys.length → wf w (xs.drop p) → wf w (ys.drop q) → Good M → RX M A n o xs → RX M B m o2 ys → MFo M out → MKm M o o2 ps → ps2 xs ys ps → ps.length ≤ p → out.length ≤ p → ∃ M', M_layCommon_24 1269 A B ((fv : Int) + 98586) ((o + p : Nat) : Int) ((o2 + q : Nat) : Int) ((o + xs.length : Nat) : Int) d2 d4 M = some (none, M') ∧ MFo M' (out ++ (com xs ys fv k p q ps).1) ∧ MKm M' o o2 (com xs ys fv k p q ps).2 ∧ Fj mcmS M M' := by
  intro k
  induction k with
  | zero =>
    intro p q w ps out M e1 e2 e3 hwx hwq hG hX hY hO hK hps hpl hol
    rw [M_layCommon_24_eq, if_neg (by omega)]
    refine ⟨M, rfl, ?_, hK, Fj.refl⟩
    show MFo M (out ++ [])
    rw [List.append_nil]
    exact hO
  | succ k ih =>
    intro p q w ps out M e1 e2 e3 hwx hwq hG hX hY hO hK hps hpl hol
    unfold com
    by_cases hp : p < xs.length
    · obtain ⟨v, rfl, hwn⟩ := wf_pos (by rw [drop_cons hp] at hwx; exact hwx)
      have hq := wf_some hwq
      have hc := hX.v hp
      have hd := hY.v hq
      have hcell : mI M A (o + p) = cm (nth xs p) := hX.2.1 p hp
      have hcely : mI M B (o2 + q) = cm (nth ys q) := hY.2.1 q hq
      have hb1 := beh_gt hp
      have hb2 := beh_le (xs := xs) (p := p) (by omega)
      have hb3 := beh_le (xs := ys) (p := q) (by omega)
      have hn1 := hX.1.2
      have hn2 := hY.1.2
      have hx2 := hX.2.2.1
      have hy2 := hY.2.2.1
      have hbx : ∀ {M1 : Mem}, Good M1 → RX M1 A n o xs → M_behind A ((o + p : Nat) : Int) M1 = some (some (.inl ((o + beh xs p : Nat) : Int)), M1) := fun g x => M_behind_s g x (b := v) (by rw [Nat.add_comm]; exact hwx)
      have hby : ∀ {M1 : Mem}, Good M1 → RX M1 B m o2 ys → M_behind B ((o2 + q : Nat) : Int) M1 = some (some (.inl ((o2 + beh ys q : Nat) : Int)), M1) := fun g x => M_behind_s g x (b := v) (by rw [Nat.add_comm]; exact hwq)
      have e74 : ∃ M', M_layCommon_74 1269 A B ((fv : Int) + 98586) ((o + p : Nat) : Int) ((o2 + q : Nat) : Int) ((o + xs.length : Nat) : Int) d2 d4 M = some (none, M') ∧ MFo M' (out ++ (match pfo xs ys p q ps 0 with
          | some j => cns ((fv : Int) + (j : Int)) (com xs ys fv k (beh xs p) (beh ys q) ps)
          | none => cns ((fv : Int) + (ps.length : Int)) (com xs ys fv k (beh xs p) (beh ys q) (ps ++ [(p, q)]))).1) ∧ MKm M' o o2 (match pfo xs ys p q ps 0 with
          | some j => cns ((fv : Int) + (j : Int)) (com xs ys fv k (beh xs p) (beh ys q) ps)
          | none => cns ((fv : Int) + (ps.length : Int)) (com xs ys fv k (beh xs p) (beh ys q) (ps ++ [(p, q)]))).2 ∧ Fj mcmS M M' := by
        obtain ⟨M1, a1, a2, a3⟩ := M_pairOf_loop hG hX hY hw hwy hK hps (by omega) hp hq _ 0 rfl (Nat.zero_le _)
        rw [List.drop_zero] at a1 a2
        have a1 : M_pairOf_3 1269 A ((o + p : Nat) : Int) B ((o2 + q : Nat) : Int) 0 M = _ := a1
        have hG1 := hG.fj a3
        have hX1 := hX.fj a3 (by unfold mkmS; omega)
        have hY1 := hY.fj a3 (by unfold mkmS; omega)
        have hO1 : MFo M1 out := ⟨(a3.2.2 _ _ (by unfold mkmS; omega)).trans hO.1, hO.2.fj a3 (by unfold mkmS; omega)⟩
        have rest : ∀ (j : Nat) (ps' : Pr2), j ≤ 40 → MKm M1 o o2 ps' → ps2 xs ys ps' → ps'.length ≤ p + 1 → ∃ M', (cI (M_thing 0 0 (wr (((fv : Int) + 98586) + (j : Int))) M1) fun r4 M3 => gd (gS M3 (mR M 1269 58) 0 (mI M 1269 59)) (cI (M_behind A ((o + p : Nat) : Int) (stI M3 (mR M 1269 58) (Int.toNat (mI M 1269 59)) r4)) fun r6 M5 => cI (M_behind B ((o2 + q : Nat) : Int) M5) fun r8 M7 => gd (gO M7 1269 12) (gd (gO M7 1269 12) (M_layCommon_24 1269 A B ((fv : Int) + 98586) r6 r8 ((o + xs.length : Nat) : Int) d2 d4 (stI M7 1269 59 (wr ((mI M7 1269 59) + 1))))))) = some (none, M') ∧ MFo M' (out ++ (cns ((fv : Int) + (j : Int)) (com xs ys fv k (beh xs p) (beh ys q) ps')).1) ∧ MKm M' o o2 (com xs ys fv k (beh xs p) (beh ys q) ps').2 ∧ Fj mcmS M M' := by
          intro j ps' hj hK' hps' hpl'
          have hcv : 0 ≤ (fv : Int) + (j : Int) ∧ (fv : Int) + (j : Int) < 65536 := by omega
          obtain ⟨v1, v2⟩ := cm_var hcv
          rw [if_neg (by omega)] at v2
          have et := M_thing_s (M := M1) (s := 0) (m := 0) (n := (fv : Int) + 98586 + (j : Int)) (by decide) (by decide) (by omega)
          rw [show (0 : Int) + 4 * 0 + 64 * ((fv : Int) + 98586 + (j : Int)) = cm ((fv : Int) + (j : Int)) by omega] at et
          have f2 : Fj (fun a k => a = 1306 ∨ (a = 1269 ∧ k = 59)) M1 (stI M1 1306 out.length (cm ((fv : Int) + (j : Int)))) := Fj.ofI (Or.inl rfl)
          have hG2 := hG1.fj f2
          have hX2 := hX1.fj f2 (by omega)
          have hY2 := hY1.fj f2 (by omega)
          have e59 : mI (stI M1 1306 out.length (cm ((fv : Int) + (j : Int)))) 1269 59 = (out.length : Int) := by rw [mI_ne (by omega)]; exact hO1.1
          have f3 : Fj (fun a k => a = 1306 ∨ (a = 1269 ∧ k = 59)) M1 (stI (stI M1 1306 out.length (cm ((fv : Int) + (j : Int)))) 1269 59 ((out.length + 1 : Nat) : Int)) := f2.trans (Fj.ofI (by omega))
          obtain ⟨M3, c1, c2, c3, c4⟩ := ih (beh xs p) (beh ys q) v ps' (out ++ [(fv : Int) + (j : Int)]) _ (by omega) hb2 hb3 (wf_beh hwx) (wf_beh hwq) (hG1.fj f3) (hX1.fj f3 (by omega)) (hY1.fj f3 (by omega)) hO1.push (hK'.fj f3 (by omega) (by omega)) hps' (by omega) (by rw [List.length_append, List.length_singleton]; omega)
          rw [wr_id (x := (fv : Int) + 98586 + (j : Int)) (by omega) (by omega), et, cI_s, hG.m58, hO.1, hG1.tgS arr_1306 (by omega) (by omega), gd_t, toNat_n, hbx hG2 hX2, cI_s, hby hG2 hY2, cI_s, hG2.gM, gd_t, gd_t, e59, wr_s (by omega), c1]
          refine ⟨M3, rfl, ?_, c3, ((a3.mono fun a k q => Or.inl q).trans (f3.mono fun a k q => Or.inr q)).trans c4⟩
          rw [List.append_assoc] at c2
          exact c2
        rw [M_layCommon_74_eq, hG.gM, gd_t, gd_t, gd_t, M_pairOf_eq, a1, cI_s]
        cases hpf : pfo xs ys p q ps 0 with
        | some j =>
          rw [hpf] at a2
          have hj := pfo_lt _ _ _ hpf
          exact rest j ps (by omega) a2 hps (by omega)
        | none =>
          rw [hpf] at a2
          exact rest ps.length (ps ++ [(p, q)]) (by omega) a2 (hps.app hp hq) (by rw [List.length_append, List.length_singleton]; omega)
      rw [if_pos hp, M_layCommon_24_eq, if_pos (by omega), hX.gs hG hp, gd_t, toNat_n, hcell, M_sortOf_s hc, cI_s]
      by_cases hk : kd (nth xs p) = 0
      · rw [if_pos hk, if_neg (fun q => q.2 hk)]
        exact e74
      · rw [if_neg hk, hX.gs hG hp, gd_t, hY.gs hG hq, gd_t, toNat_n, hcell, hcely]
        by_cases he2 : nth xs p = nth ys q
        · have f3 : Fj (fun a k => a = 1306 ∨ (a = 1269 ∧ k = 59)) M (stI (stI M 1306 out.length (cm (nth xs p))) 1269 59 ((out.length + 1 : Nat) : Int)) := (Fj.ofI (Or.inl rfl)).trans (Fj.ofI (by omega))
          have e59 : mI (stI M 1306 out.length (cm (nth xs p))) 1269 59 = (out.length : Int) := by rw [mI_ne (by omega)]; exact hO.1
          have hwq2 := wf_next hq hwq
          obtain ⟨M3, c1, c2, c3, c4⟩ := ih (p + 1) (q + 1) (v + arN (nth xs p)) ps (out ++ [nth xs p]) _ (by omega) (by omega) (by omega) hwn (by rw [he2]; exact hwq2) (hG.fj f3) (hX.fj f3 (by omega)) (hY.fj f3 (by omega)) hO.push (hK.fj f3 (by omega) (by omega)) hps (by omega) (by rw [List.length_append, List.length_singleton]; omega)
          rw [if_pos (by rw [he2]), hG.gM, gd_t, gd_t, gd_t, hG.m58, hO.1, hG.tgS arr_1306 (by omega) (by omega), gd_t, gd_t, gd_t, toNat_n, e59, wr_s (by omega), wr_s (by omega), wr_s (by omega), Nat.add_assoc, Nat.add_assoc, c1, if_pos ⟨he2, hk⟩]
          refine ⟨M3, rfl, ?_, c3, (f3.mono fun a k q => Or.inr q).trans c4⟩
          rw [List.append_assoc] at c2
          exact c2
        · rw [if_neg (fun q => he2 ((cm_inj hc hd).mp q)), if_neg (fun q => he2 q.1)]
          exact e74
    · rw [if_neg hp, M_layCommon_24_eq, if_neg (by omega)]
      refine ⟨M, rfl, ?_, hK, Fj.refl⟩
      show MFo M (out ++ [])
      rw [List.append_nil]
      exact hO
theorem M_layCommon_s (hA : A ≠ 1303 ∧ A ≠ 1304 ∧ A ≠ 1306 ∧ A ≠ 1269) (hB : B ≠ 1303 ∧ B ≠ 1304 ∧ B ≠ 1306 ∧ B ≠ 1269) (hw : wf 1 xs) (hwy : wf 1 ys) (hl : xs.length ≤ 40) {fv : Nat} (hfv : 1414 ≤ fv ∧ fv + 100 < 65536) (hG : Good M) (hX : RX M A n o xs) (hY : RX M B m o2 ys) : ∃ M', M_layCommon 1269 A (o : Int) B (o2 : Int) ((fv : Int) + 98586) M = some (none, M') ∧ MFo M' (com xs ys fv xs.length 0 0 []).1 ∧ MKm M' o o2 (com xs ys fv xs.length 0 0 []).2 ∧ Fj mcmS M M' := by
  have f1 : Fj mcmS M (stI (stI M 1269 56 0) 1269 59 0) := (Fj.ofI (by unfold mcmS mkmS; omega)).trans (Fj.ofI (by unfold mcmS; omega))
  have hG1 := hG.fj f1
  have hX1 := hX.fj f1 (by unfold mcmS mkmS; omega)
  have hY1 := hY.fj f1 (by unfold mcmS mkmS; omega)
  have hb := M_behind_s hG1 hX1 (p := 0) (b := 0) hw
  have hbe : beh xs 0 = xs.length := by unfold beh; rw [List.drop_zero, sk_self hw, Nat.zero_add]
  rw [hbe] at hb
  have hb : M_behind A (o : Int) (stI (stI M 1269 56 0) 1269 59 0) = _ := hb
  obtain ⟨M2, b1, b2, b3, b4⟩ := M_layCommon_loop hA hB hw hwy hl hfv (some (.inl (o : Int))) (some (.inl (o2 : Int))) xs.length 0 0 1 [] [] (stI (stI M 1269 56 0) 1269 59 0) (by omega) (Nat.zero_le _) (Nat.zero_le _) hw hwy hG1 hX1 hY1 ⟨mI_at, fun i hi => absurd hi (Nat.not_lt_zero i)⟩ ⟨by rw [mI_ne (by omega), mI_at]; rfl, fun k q hq => by rw [List.getElem?_nil] at hq; cases hq⟩ (fun q hq => by cases hq) (Nat.zero_le _) (Nat.zero_le _)
  have b1 : M_layCommon_24 1269 A B ((fv : Int) + 98586) (o : Int) (o2 : Int) ((o + xs.length : Nat) : Int) (some (.inl (o : Int))) (some (.inl (o2 : Int))) (stI (stI M 1269 56 0) 1269 59 0) = _ := b1
  rw [List.nil_append] at b2
  rw [M_layCommon_eq, hG.gM, gd_t, gd_t, hb, cI_s, b1]
  exact ⟨M2, rfl, b2, b3, f1.trans b4⟩
end MCOM

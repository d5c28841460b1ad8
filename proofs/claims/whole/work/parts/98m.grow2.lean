/-! ===== the class drives: looks till the end ===== -/
section GROW2
variable {P : Nat} {zs : List Clz}
/-- what holds of what was grown -/
def GRW (zs : List Clz) (r : Int × TS × Nat × Nat × Nat) : Prop := (TI r.2.1.2.1 r.2.1.2.2 ∧ XOK r.2.1.1 r.2.1.2.1 ∧ FVL r.2.1.2.1) ∧ (r.1 = 0 → (∃ L1 N, LKD zs r.2.1 L1 N ∧ L1.length = r.2.2.2.1) ∧ r.2.2.2.1 ≤ (lnF r.2.1.2.1).length ∧ (r.2.2.1 = 0 ∨ r.2.2.2.1 = (lnF r.2.1.2.1).length)) ∧ r.2.2.1 ≤ 80
def GIV (zs : List Clz) (M : Mem) (st : Int) (T : TS) (nl fr tu n : Nat) : Prop := st = 0 → (∃ L1 N, LKD zs T L1 N ∧ L1.length = nl) ∧ (mI M 27 12 = (nl : Int) ∧ mI M 27 13 = (fr : Int) ∧ mI M 27 11 = (tu : Int)) ∧ fr ≤ 1414 + 160 * (80 - n) ∧ tu ≤ 80 - n
theorem GIV.len {zs : List Clz} {M : Mem} {st : Int} {T : TS} {nl fr tu n : Nat} (h : GIV zs M st T nl fr tu n) (q : st = 0) : nl ≤ (lnF T.2.1).length := by
  obtain ⟨⟨L1, N, hL, hl⟩, -⟩ := h q
  rw [hL.1, List.length_append]; omega
theorem GIV.tu {zs : List Clz} {M : Mem} {st : Int} {T : TS} {nl fr tu n : Nat} (h : GIV zs M st T nl fr tu n) (q : st = 0) : tu ≤ 80 := by
  obtain ⟨-, -, -, h⟩ := h q
  omega
theorem Tr_grow_loop (hP : 772 < P) (hzs : zsk 100 zs) (hok : okP zs) (hzl : zs.length ≤ 40) (d1 d2 : LV) : ∀ (n : Nat) (st : Int) (T : TS) (nl fr tu : Nat) (M : Mem) (d4 : LV), n ≤ 80 → Good M → CTs M T → PRc M P zs → mR M 27 6 = P → mI M 27 10 = ((80 - n : Nat) : Int) → (TI T.2.1 T.2.2 ∧ XOK T.1 T.2.1 ∧ FVL T.2.1) → GIV zs M st T nl fr tu n → ∃ M' d4', Tr_grow_16 27 st d1 d2 d4 M = Tr_grow_92 27 (drl zs n st T nl fr tu).1 d1 d2 d4' M' ∧ CTs M' (drl zs n st T nl fr tu).2.1 ∧ GRW zs (drl zs n st T nl fr tu) ∧ (mI M' 27 10 = ((80 - (drl zs n st T nl fr tu).2.2.1 : Nat) : Int) ∧ ((drl zs n st T nl fr tu).1 = 0 → mI M' 27 12 = ((drl zs n st T nl fr tu).2.2.2.1 : Int) ∧ mI M' 27 11 = ((drl zs n st T nl fr tu).2.2.2.2 : Int) ∧ (drl zs n st T nl fr tu).2.2.2.2 ≤ 80)) ∧ Good M' ∧ Fq dvS dvR M M' := by
  intro n
  induction n with
  | zero =>
    intro st T nl fr tu M d4 hn hG hC hp h6 h10 hI hS
    unfold drl
    rw [Tr_grow_16_eq, hG.gT, gd_t, h10, if_neg (by omega)]
    refine ⟨M, d4, rfl, hC, ⟨hI, fun q => ⟨(hS q).1, ?_, Or.inl rfl⟩, Nat.zero_le _⟩, ⟨h10, fun q => ⟨(hS q).2.1.1, (hS q).2.1.2.2, hS.tu q⟩⟩, hG, Fq.refl⟩
    exact hS.len q
  | succ n ih =>
    intro st T nl fr tu M d4 hn hG hC hp h6 h10 hI hS
    unfold drl
    have h8 := hC.1.1.1.1
    by_cases q : st = 0 ∧ nl < (lnF T.2.1).length
    · rw [if_pos q]
      obtain ⟨q1, q2⟩ := q
      obtain ⟨⟨L1, N, hL, hl⟩, ⟨h12, h13, h11⟩, hfr, htu⟩ := hS q1
      obtain ⟨hT, hX, hV⟩ := hI
      have hlen := hT.len
      have hm120 := hT.1.2.2
      obtain ⟨k, R, rfl⟩ : ∃ k R, N = k :: R := by
        cases N with
        | nil => rw [hL.1, List.append_nil] at q2; omega
        | cons k R => exact ⟨k, R, rfl⟩
      have hget : (lnF T.2.1).getD nl 0 = k := by
        rw [List.getD_eq_getElem?_getD, hL.1, List.getElem?_append_right (by omega), show nl - L1.length = 0 by omega]; rfl
      rw [hget]
      have hkL : k ∈ lnF T.2.1 := by rw [hL.1]; simp
      have hkm := hT.1.2.1 k hkL
      have hr := hC.1.1.1.2 nl k (by rw [hL.1, List.getElem?_append_right (by omega), show nl - L1.length = 0 by omega]; rfl)
      have hLOK : LOK T k := ⟨⟨hT, hX⟩, ⟨hkL, (hL.2.2 k (by simp)).1.2⟩, fun p hp hs => by
        rw [hL.1] at hp
        rcases List.mem_append.mp hp with g | g
        · exact (hL.2.1 p g).k.2 hs
        · rw [(hL.2.2 p g).1.1] at hs; unfold isS at hs; omega⟩
      have f1 : Fj (fun a j => a = 27 ∧ (j = 10 ∨ j = 12)) M (stI (stI M 27 10 ((80 - n : Nat) : Int)) 27 12 ((nl + 1 : Nat) : Int)) := (Fj.ofI (by omega)).trans (Fj.ofI (by omega))
      have a12 : mI (stI (stI M 27 10 ((80 - n : Nat) : Int)) 27 12 ((nl + 1 : Nat) : Int)) 27 12 = ((nl + 1 : Nat) : Int) := mI_at
      have a10 : mI (stI (stI M 27 10 ((80 - n : Nat) : Int)) 27 12 ((nl + 1 : Nat) : Int)) 27 10 = ((80 - n : Nat) : Int) := by rw [mI_ne (by omega), mI_at]
      have hG1 := hG.fj f1
      have hC1 := hC.fq hT (f1.fq (R := nor) fun a j q => q) (by omega) (fun a j _ q => q)
      have hp1 : PRc (stI (stI M 27 10 ((80 - n : Nat) : Int)) 27 12 ((nl + 1 : Nat) : Int)) P zs := hp.ext fun a j q => f1.2.2 a j (by unfold pS at q; omega)
      have head : ∀ (x : Int), x = ((nl + 1 : Nat) : Int) → Tr_grow_16 27 st d1 d2 d4 M = cI (Tr_findKind 27 (30 + 6 * k) (stI (stI M 27 10 ((80 - n : Nat) : Int)) 27 12 x)) fun r2 M1 => gd (gO M1 (30 + 6 * k) 4) (gd (gO M1 27 9) (cI (Tr_addBelow 27 (30 + 6 * k) (stI M1 (30 + 6 * k) 4 r2)) fun r4 M3 => Tr_grow_16 27 r4 d1 d2 (some (.inr (30 + 6 * k))) M3)) := by
        intro x hx
        have e10 : wr (mI M 27 10 + 1) = ((80 - n : Nat) : Int) := by rw [h10, wr_id (x := ((80 - (n + 1) : Nat) : Int) + 1) (by omega) (by omega)]; omega
        have e12 : ∀ v, wr (mI (stI M 27 10 v) 27 12 + 1) = ((nl + 1 : Nat) : Int) := fun v => by rw [mI_ne (by omega), h12, wr_s (by omega)]
        rw [Tr_grow_16_eq, hG.gT, gd_t, if_pos (show mI M 27 10 < 80 by rw [h10]; omega), if_pos q1, gd_t, gd_t, if_pos (show mI M 27 12 < mI M 27 8 by rw [h12, h8]; omega), gd_t, gd_t, hG.r27_3, h12, hG.a29 (by omega), gd_t, gd_t, gd_t, gd_t, gd_t, gd_t, e10, e12, toNat_n, hr, hx]
      obtain ⟨r2, M1, M2, b1, b2, b3, b4, b5, b6, b7, b8⟩ := Tr_look_s hG1 hLOK hC1 hP hzs hok hp1 h6 (nl := nl) (fr := fr) (tu := tu) a12 ((f1.2.2 _ _ (by omega)).trans h13) ((f1.2.2 _ _ (by omega)).trans h11) (by omega) (by omega)
      obtain ⟨c1, c2⟩ := lok_ok (fr := fr) (tu := tu) hzs hok hzl hT hX hL hV hl (by omega)
      rw [head _ rfl, b1, cI_s, b2.nd (by omega), gd_t, b2.gT, gd_t, b3, cI_s]
      have F12 : Fq dvS dvR M M2 := (f1.fq fun a j q => by unfold dvS; omega).trans b7
      have hp2 : PRc M2 P zs := hp.ext fun a j q => F12.2.2 a j (by unfold pS at q; unfold dvS; omega)
      obtain ⟨M', d4', e1, e2, e3, e4, e5, e6⟩ := ih _ (lok zs T k nl fr tu).2.1 (lok zs T k nl fr tu).2.2.1 (lok zs T k nl fr tu).2.2.2.1 (lok zs T k nl fr tu).2.2.2.2 M2 (some (.inr (30 + 6 * k))) (by omega) b6 b4 hp2 ((F12.2.1 _ _ (by unfold dvR; omega)).trans h6) (b8.trans a10) c1 (fun z => by
        obtain ⟨x1, x2, x3⟩ := c2 z
        exact ⟨x1, b5 z, by omega, by omega⟩)
      exact ⟨M', d4', e1, e2, e3, e4, e5, F12.trans e6⟩
    · rw [if_neg q]
      refine ⟨M, d4, ?_, hC, ⟨hI, fun z => ⟨(hS z).1, ?_, ?_⟩, hn⟩, ⟨h10, fun z => ⟨(hS z).2.1.1, (hS z).2.1.2.2, hS.tu z⟩⟩, hG, Fq.refl⟩
      · rw [Tr_grow_16_eq, hG.gT, gd_t, if_pos (show mI M 27 10 < 80 by rw [h10]; omega)]
        by_cases z : st = 0
        · rw [if_pos z, gd_t, gd_t, if_neg (show ¬ mI M 27 12 < mI M 27 8 by rw [(hS z).2.1.1, h8]; omega)]
        · rw [if_neg z]
      · exact hS.len z
      · right
        show nl = (lnF T.2.1).length
        have := hS.len z
        omega
/-- what is grown from a goal -/
def TS0 (xs : List Int) : TS := (upX (fun _ => []) 0 xs, rtF, 1)
def grw (zs : List Clz) (xs : List Int) : Int × TS × Nat × Nat × Nat := if 40 < xs.length then (-3, TS0 [], 80, 0, 0) else drl zs 80 0 (TS0 xs) 0 1414 0
/-- what it comes to: all looked at, or broken off -/
def gst (r : Int × TS × Nat × Nat × Nat) : Int := if r.1 = 0 ∧ r.2.2.2.1 < (lnF r.2.1.2.1).length then -2 else r.1
def gtr (r : Int × TS × Nat × Nat × Nat) : TS := (r.2.1.1, nuF r.2.1.2.1 (lnF r.2.1.2.1), r.2.1.2.2)
theorem TS0_ok {xs : List Int} (h1 : wf 1 xs) (h2 : av xs) (h3 : xs.length ≤ 40) : (TI (TS0 xs).2.1 (TS0 xs).2.2 ∧ XOK (TS0 xs).1 (TS0 xs).2.1 ∧ FVL (TS0 xs).2.1) ∧ LKD zs (TS0 xs) [] [0] := by
  have e : ∀ f, (TS0 xs).2.1 0 f = if f = 6 ∨ f = 8 ∨ f = 13 then 0 else -1 := fun f => rfl
  refine ⟨⟨rtF_TI, fun x hx => ?_, fun x hx => ?_⟩, ⟨rtF_ln, ⟨fun x hx => absurd hx List.not_mem_nil, fun x hx => ?_⟩⟩⟩
  · have : x ∈ lnF rtF := hx
    rw [rtF_ln] at this
    rw [List.mem_singleton.mp this]
    show eok (upX (fun _ => []) 0 xs 0)
    rw [upX_at]
    exact ⟨h1, h2, h3⟩
  · have : x ∈ lnF rtF := hx
    rw [rtF_ln] at this
    rw [List.mem_singleton.mp this, e, e, e, e]
    decide
  · rw [List.mem_singleton.mp hx]
    unfold UNL
    rw [e, e, e, e]
    decide
theorem WKc.ext {M M1 : Mem} (h : WKc M) (f : ∀ a j, 30 ≤ a → a < 750 → mI M1 a j = mI M a j) : WKc M1 := fun x hx => by
  obtain ⟨⟨zs, w1⟩, us, w2⟩ := h x hx
  exact ⟨⟨zs, w1.ext fun a j q => f a j (by omega) (by omega)⟩, us, w2.ext fun a j q => f a j (by omega) (by omega)⟩
def grR : Nat → Nat → Prop := fun a j => dvR a j ∨ (a = 27 ∧ j = 6)
theorem Tr_grow_s {M : Mem} {e cap : Nat} {xs : List Int} (hG : Good M) (hP : 772 < P) (hzs : zsk 100 zs) (hok : okP zs) (hzl : zs.length ≤ 40) (hp : PRc M P zs) (hwk : WKc M) (hy1 : ∃ ys, XE M 752 20480 ys) (hy2 : ∃ ys, XE M 750 256 ys) (hX : XE M e cap xs) (hv : av xs) (hw : wf 1 xs) (he : 753 < e) : ∃ M', Tr_grow 27 P e M = some (some (.inl (gst (grw zs xs))), M') ∧ (gst (grw zs xs) = 0 → ((CTs M' (gtr (grw zs xs)) ∧ GRW zs (grw zs xs)) ∧ (mI M' 27 10 = ((80 - (grw zs xs).2.2.1 : Nat) : Int) ∧ mI M' 27 11 = ((grw zs xs).2.2.2.2 : Int)) ∧ (grw zs xs).2.2.2.2 ≤ 80 ∧ NBc M' (lnF (grw zs xs).2.1.2.1))) ∧ (WKc M' ∧ (∃ ys, XE M' 752 20480 ys) ∧ ∃ ys, XE M' 750 256 ys) ∧ Good M' ∧ Fq dvS grR M M' := by
  obtain ⟨M1, a1, ⟨⟨b8, b9⟩, ⟨b10, b11⟩, b12, b13⟩, a3⟩ := Tr_clear_s hG
  have hG1 := hG.fj a3
  have hG2 : Good (stR M1 27 6 P) := hG1.ofR (by unfold mtb; omega)
  have head : Tr_grow 27 P e M = cI (Tr_addNode 27 0 e (stR M1 27 6 P)) fun r3 M2 => Tr_grow_16 27 r3 (some (.inr P)) (some (.inr e)) none M2 := by
    rw [Tr_grow_eq, hG.gT, gd_t, a1, cV_s, hG1.gT, gd_t, gd_t]
  have F1 : Fq dvS grR M (stR M1 27 6 P) := (a3.fq fun a j q => by unfold dvS; omega).trans (Fq.ofR (Or.inr ⟨rfl, rfl⟩))
  have iI : ∀ a j, a ≠ 27 → mI (stR M1 27 6 P) a j = mI M a j := fun a j h => a3.2.2 a j (by omega)
  have w1 : WKc (stR M1 27 6 P) := hwk.ext fun a j h1 h2 => iI a j (by omega)
  have hX2 : XE (stR M1 27 6 P) e cap xs := hX.ext fun a j q => iI a j (by omega)
  have h6 : mR (stR M1 27 6 P) 27 6 = P := mR_at
  obtain ⟨ys1, hy1⟩ := hy1
  obtain ⟨ys2, hy2⟩ := hy2
  have y1 : XE (stR M1 27 6 P) 752 20480 ys1 := hy1.ext fun a j q => iI a j (by omega)
  have y2 : XE (stR M1 27 6 P) 750 256 ys2 := hy2.ext fun a j q => iI a j (by omega)
  have hp2 : PRc (stR M1 27 6 P) P zs := hp.ext fun a j q => iI a j (by unfold pS at q; omega)
  obtain ⟨c1, c2⟩ := Tr_addRoot_s (X := fun _ => []) hG2 b8 b9 w1 hX2 hv (by omega)
  rw [head]
  unfold grw
  by_cases q : 40 < xs.length
  · rw [if_pos q, c1 q, cI_s]
    have e1 : gst ((-3, TS0 [], 80, 0, 0) : Int × TS × Nat × Nat × Nat) = -3 := if_neg (fun h => absurd h.1 (by decide))
    rw [e1]
    refine ⟨stR M1 27 6 P, ?_, fun h => absurd h (by decide), ⟨w1, ⟨_, y1⟩, _, y2⟩, hG2, F1⟩
    have i10 : mI (stR M1 27 6 P) 27 10 = 0 := b10
    have i8 : mI (stR M1 27 6 P) 27 8 = 0 := b8
    rw [Tr_grow_16_eq, hG2.gT, gd_t, i10, if_pos (by decide), if_neg (by decide), Tr_grow_92_eq, if_neg (by decide), hG2.gT, gd_t, Tr_numberNodes_eq, Tr_numberNodes_2_eq, hG2.gT, gd_t, i8, if_neg (by decide), cV_s]
  rw [if_neg q]
  obtain ⟨M2, d1, d2, d3, d4⟩ := c2 q
  rw [d1, cI_s]
  obtain ⟨t1, t2⟩ := TS0_ok (zs := zs) hw hv (by omega : xs.length ≤ 40)
  have hC2 : CTs M2 (TS0 xs) := ⟨d2, ⟨ys1, y1.ext fun a j q => d4.2.2 a j (by unfold anS; omega)⟩, ys2, y2.ext fun a j q => d4.2.2 a j (by unfold anS; omega)⟩
  have K : ∀ j, 10 ≤ j → mI M2 27 j = mI M1 27 j := fun j h => d4.2.2 _ _ (by unfold anS; omega)
  obtain ⟨M3, d4', g1, g2, g3, ⟨g4, g5⟩, g6, g7⟩ := Tr_grow_loop hP hzs hok hzl (some (.inr P)) (some (.inr e)) 80 0 (TS0 xs) 0 1414 0 M2 none (Nat.le_refl _) d3 hC2 (hp2.ext fun a j q => d4.2.2 a j (by unfold pS at q; unfold anS; omega)) ((d4.2.1 _ _ (by unfold anR; omega)).trans h6) ((K 10 (by decide)).trans b10) t1 (fun _ => ⟨⟨[], [0], t2, rfl⟩, ⟨(K 12 (by decide)).trans b12, (K 13 (by decide)).trans b13, (K 11 (by decide)).trans b11⟩, by decide, by decide⟩)
  rw [g1]
  generalize drl zs 80 0 (TS0 xs) 0 1414 0 = r at *
  have F3 : Fq dvS grR M M3 := (F1.trans (d4.mono (fun a j q => by unfold anS at q; unfold dvS; omega) fun a j q => Or.inl (an_dv q))).trans (g7.mono (fun a j q => q) fun a j q => Or.inl q)
  obtain ⟨⟨n1, n2, n3⟩, n4, n5⟩ := g3
  have hwk3 : WKc M3 ∧ (∃ ys, XE M3 752 20480 ys) ∧ ∃ ys, XE M3 750 256 ys := ⟨g2.1.2.2, g2.2⟩
  have i8 := g2.1.1.1.1
  unfold gst
  by_cases z : r.1 = 0
  · obtain ⟨i12, i11, i1⟩ := g5 z
    by_cases zz : r.2.2.2.1 < (lnF r.2.1.2.1).length
    · rw [if_pos (show r.1 = 0 ∧ r.2.2.2.1 < (lnF r.2.1.2.1).length from ⟨z, zz⟩), Tr_grow_92_eq, if_pos z, g6.gT, gd_t, gd_t, i12, i8, if_pos (by omega)]
      exact ⟨M3, rfl, fun h => absurd h (by decide), hwk3, g6, F3⟩
    · obtain ⟨M4, k1, k2, k3, k4, k5⟩ := Tr_number_loop (lnF r.2.1.2.1) [] M3 r.2.1.2.1 g6 n1 g2.1 rfl (fun x hx => (n3 x hx).1) (fun i x h => by rw [List.getElem?_nil] at h; cases h)
      have k1 : Tr_numberNodes_2 27 0 M3 = some (none, M4) := k1
      rw [if_neg (show ¬ (r.1 = 0 ∧ r.2.2.2.1 < (lnF r.2.1.2.1).length) from fun h => zz h.2), Tr_grow_92_eq, if_pos z, g6.gT, gd_t, gd_t, i12, i8, if_neg (by omega), gd_t, Tr_numberNodes_eq, k1, cV_s]
      have F4 : Fq dvS grR M M4 := F3.trans (k5.fq fun a j q => by unfold dvS; omega)
      refine ⟨M4, rfl, fun _ => ⟨⟨⟨k2, ?_⟩, ⟨n1, n2, n3⟩, n4, n5⟩, ⟨(k5.2.2 _ _ (by omega)).trans g4, (k5.2.2 _ _ (by omega)).trans i11⟩, i1, k3⟩, ⟨k2.2.2, ?_⟩, k4, F4⟩
      · obtain ⟨⟨u1, v1⟩, u2, v2⟩ := g2.2
        exact ⟨⟨u1, v1.ext fun a j q => k5.2.2 a j (by omega)⟩, u2, v2.ext fun a j q => k5.2.2 a j (by omega)⟩
      · obtain ⟨⟨u1, v1⟩, u2, v2⟩ := g2.2
        exact ⟨⟨u1, v1.ext fun a j q => k5.2.2 a j (by omega)⟩, u2, v2.ext fun a j q => k5.2.2 a j (by omega)⟩
  · obtain ⟨M4, k1, k2, k3, k4, k5⟩ := Tr_number_loop (lnF r.2.1.2.1) [] M3 r.2.1.2.1 g6 n1 g2.1 rfl (fun x hx => (n3 x hx).1) (fun i x h => by rw [List.getElem?_nil] at h; cases h)
    have k1 : Tr_numberNodes_2 27 0 M3 = some (none, M4) := k1
    rw [if_neg (show ¬ (r.1 = 0 ∧ r.2.2.2.1 < (lnF r.2.1.2.1).length) from fun h => z h.1), Tr_grow_92_eq, if_neg z, g6.gT, gd_t, Tr_numberNodes_eq, k1, cV_s]
    refine ⟨M4, rfl, fun h => absurd h z, ⟨k2.2.2, ?_⟩, k4, F3.trans (k5.fq fun a j q => by unfold dvS; omega)⟩
    obtain ⟨⟨u1, v1⟩, u2, v2⟩ := g2.2
    exact ⟨⟨u1, v1.ext fun a j q => k5.2.2 a j (by omega)⟩, u2, v2.ext fun a j q => k5.2.2 a j (by omega)⟩
end GROW2

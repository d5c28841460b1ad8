/-! ===== answers, calls, the whole run ===== -/
theorem okT_at {m : Nat} (hm : m ∈ mks ++ [317]) : ((nd m 8 = 0 → mr m = none) ∧ (nd m 8 = 1 → mr m = some .int) ∧ (nd m 8 = 2 → mr m = some .boolean) ∧ (nd m 8 = 3 → isRef (mr m) = true)) ∧ (1 ≤ nd m 4 ∧ 60 ≤ nd m 5) ∧ nd m 2 ≤ nd m 0 ∧ (nd m 3 = 1 ∨ 1 ≤ nd m 2) := by
  have h := List.all_eq_true.mp okT_all m hm
  unfold okT at h
  simp only [Bool.and_eq_true, Bool.or_eq_true] at h
  obtain ⟨⟨h1, h2, h3⟩, h4, h5⟩ := h
  refine ⟨⟨?_, ?_, ?_, ?_⟩, ⟨Nat.le_of_ble_eq_true h2, Nat.le_of_ble_eq_true h3⟩, Nat.le_of_ble_eq_true h4, h5.imp Nat.eq_of_beq_eq_true Nat.le_of_ble_eq_true⟩
  · intro e
    rw [e] at h1
    exact Option.isNone_iff_eq_none.mp h1
  · intro e
    rw [e] at h1
    replace h1 : isInt (mr m) = true := h1
    unfold isInt at h1
    split at h1 <;> first | assumption | cases h1
  · intro e
    rw [e] at h1
    replace h1 : isBoo (mr m) = true := h1
    unfold isBoo at h1
    split at h1 <;> first | assumption | cases h1
  · intro e
    rw [e] at h1
    exact h1
theorem isRef_or {t : Option FieldType} (h : isRef t = true) : ∃ rt, t = some rt ∧ ((∃ n, rt = .object n) ∨ ∃ t, rt = .array t) := by
  unfold isRef at h
  split at h
  · exact ⟨_, rfl, Or.inl ⟨_, rfl⟩⟩
  · exact ⟨_, rfl, Or.inr ⟨_, rfl⟩⟩
  · cases h
theorem good_wls {w : Cond} (h : w ∈ WLs) : w ∈ WLs ∧ ((w.onTables && w.keeps) = true ∨ ∃ ty, w = .arrayClass ty) := ⟨h, good_of_word (List.mem_filter.mp h).2⟩
theorem good_list {ws : List Cond} (h : ∀ w ∈ ws, w ∈ WLs) : GoodIn WLs ws := fun w hw => good_wls (h w hw)
section RUN
variable {sz b L : Nat} {xs : Nat → Int32} {D : va_G} {dA : Nat → ClassId} {m : Nat} {p : Program} {l : Launch} {e : Env} {R : Room} {s : State} {mm : MethodId} {args : Array Value} {below : List Frame} {meth : Method} {c : Code} {Q : State → Prop}
variable {pc pc' n x y z w n0 s0 : Nat} {ls ls' : List LV} {st st' : List PV} {M M' : Mem} {H : Heap} {locs : List Loc} {lsC : Array Slot}
theorem sim_ret {q : Option PV × Mem} (C : Cx sz b L xs D dA m p R s mm args meth c) (hm : m ∈ mks ++ [317]) (hret : meth.sig.returnType = mr m) (hlk : meth.locks = false) (S : Sm sz b L xs D dA m s M H locs lsC ls st) (hp : plan m pc ls st M = some (.inl q)) :
    W p l e R s mm args below meth c H locs (mN M - n0) (mS M - s0) (MQ below (QW sz b L xs D dA q.1 q.2) args s (mN q.2 - n0) (mS q.2 - s0) (fun q => sz ≤ q)) (F0 mm pc lsC (st.map (cz sz b))) := by
  obtain ⟨⟨hx, hb, hml, hown, hts⟩, hK, hin, hRm, hScr, hsz, hC⟩ := id C
  obtain ⟨hR, hS, hL, hV⟩ := id S
  obtain ⟨q1, q2⟩ := q
  obtain ⟨e1, n, x, y, z, w, h⟩ := plan_kind hp
  have e1 : q2 = M := e1
  subst e1
  obtain ⟨⟨t0, t1, t2, t3⟩, -⟩ := okT_at hm
  have qw : ∀ (t : State) (r : Option PV), t.heap = H → RO r → QW sz b L xs D dA r q2 args s (.returned (r.map (cz sz b))) t := fun t r ht hr => ⟨⟨rfl, by rw [ht]; exact hR, hr⟩, hS.F ht⟩
  rcases h with ⟨v, rfl, hi, e2, hv⟩ | ⟨a, rfl, hi, e2⟩ | ⟨rfl, hi, e2⟩
  · have e2 : q1 = some (.inl v) := e2
    subst e2
    obtain ⟨hd, hlen, hok⟩ := okC_get hC hi
    obtain rfl : n = 1 := lenOf hlen (by decide)
    unfold okR at hok
    simp only [Bool.or_eq_true, Bool.and_eq_true] at hok
    rcases hok with ⟨h1, -⟩ | ⟨h1, h2⟩
    · exact W.iret hx hb (hret.trans (t1 (Nat.eq_of_beq_eq_true h1))) (fun t ht _ => qw t (some (.inl v)) ht hV.1) hS.2.2 hd hlk
    · exact W.zret hx hb (hret.trans (t2 (Nat.eq_of_beq_eq_true h1))) (nar_int (t := .boolean) (k := 2) rfl (by decide) (by decide) (Or.inr (hv (Nat.eq_of_beq_eq_true h2)))).1 (fun t ht _ => qw t (some (.inl v)) ht hV.1) hS.2.2 hd hlk
  · have e2 : q1 = some (.inr a) := e2
    subst e2
    obtain ⟨hd, hlen, hok⟩ := okC_get hC hi
    obtain rfl : n = 1 := lenOf hlen (by decide)
    unfold okR at hok
    obtain ⟨rt, hr1, hr2⟩ := isRef_or (t3 (Nat.eq_of_beq_eq_true hok))
    exact W.aret hx hb (hret.trans hr1) hr2 (va_rf_or _) (fun t ht _ => qw t (some (.inr a)) ht trivial) hS.2.2 hd hlk
  · have e2 : q1 = none := e2
    subst e2
    obtain ⟨hd, hlen, hok⟩ := okC_get hC hi
    obtain rfl : n = 1 := lenOf hlen (by decide)
    unfold okR at hok
    exact W.vret hx hb (hret.trans (t0 (Nat.eq_of_beq_eq_true hok))) (fun t ht _ => qw t none ht trivial) hS.2.2 hd hlk
theorem callG {r : Option PV} {M2 : Mem} {mc ms : Nat} {a : Array Value} {rest st0 : List Value} (hr : va_Run p l e R s mm args below meth c H locs (mN M - n0) (mS M - s0) mc ms (F0 mm pc lsC st0) rest (QW sz b L xs D dA r M2 a) (fun q => sz ≤ q)) (hS : va_S (fun q => sz ≤ q) s.heap H locs) {k1 k2 : Nat} (h1 : mN M - n0 + mc = k1) (h2 : mS M - s0 + ms = k2)
    (kk : ∀ (H1 : Heap) (locs1 : List Loc), Rep sz b L xs D dA M2 H1 → RO r → va_S (fun q => sz ≤ q) s.heap H1 locs1 → W p l e R s mm args below meth c H1 locs1 k1 k2 Q (F0 mm (pc + 3) lsC ((r.map (cz sz b)).toList ++ rest))) : W p l e R s mm args below meth c H locs (mN M - n0) (mS M - s0) Q (F0 mm pc lsC st0) := by
  subst h1
  subst h2
  intro T hT X
  obtain ⟨v, st₀, t, T', L2, h0, X', hL, e1, e2, ⟨⟨hv, hb, hro⟩, hz, hk⟩, st⟩ := hr T hT X
  cases hv
  rw [h0] at hz hk
  obtain ⟨t2, a1, b1⟩ := kk T'.heap (locs ++ L2) (by rw [e1]; exact hb) hro
    ⟨Nat.le_trans hS.1 (by rw [e1]; exact hz), fun q h1 h2 => by rw [e1, hk q (Nat.lt_of_lt_of_le h1 hS.1) h2]; exact hS.2.1 q h1 h2, fun q hq => by
      rcases List.mem_append.mp hq with h | h
      · exact hS.2.2 q h
      · exact hL q h⟩ T' rfl X'
  exact ⟨t2, st t2 a1, b1⟩
end RUN
noncomputable def mws (k : Nat) : List Cond := Cond.code (my k) (byt k) (nd k 0) (mr k) :: WLs
def mrm (k : Nat) (M M2 : Mem) : Room := { frames := nd k 4, cells := mN M2 - mN M, slots := mS M2 - mS M, locals := nd k 5 }
/-- the contract of a method's run -/
def MtP (l : Launch) (sz b L : Nat) (xs : Nat → Int32) (D : va_G) (dA : Nat → ClassId) (k : Nat) (A : List PV) (M : Mem) (r : Option PV) (M2 : Mem) : Prop :=
  Met l (my k) (mws k) (mrm k M M2) (va_Pc (A.map (cz sz b)) (PW sz b L xs D dA M)) (QW sz b L xs D dA r M2) (mN M2 - mN M) (mS M2 - mS M) (fun q => sz ≤ q)
section RUN2
variable {sz b L : Nat} {xs : Nat → Int32} {D : va_G} {dA : Nat → ClassId} {m : Nat} {p : Program} {l : Launch} {e : Env} {R : Room} {s : State} {mm : MethodId} {args : Array Value} {below : List Frame} {meth : Method} {c : Code} {Q : State → Prop}
variable {pc pc' n x y z w n0 s0 : Nat} {ls ls' : List LV} {st st' : List PV} {M M' : Mem} {H : Heap} {locs : List Loc} {lsC : Array Slot}
theorem inS_ok (h : inS x = true) : x ∈ mks := by
  unfold inS at h
  split at h
  · rename_i a ha
    have := Nat.eq_of_beq_eq_true h
    rw [← this]
    exact List.mem_of_getElem? ha
  · cases h
theorem head_cut {α : Type} {st : List α} {y : Nat} {a : α} (hy : 1 ≤ y) (hl : y ≤ st.length) (h : (st.drop (y - 1)).head? = some a) : st.take y = st.take (y - 1) ++ [a] ∧ st = st.take (y - 1) ++ a :: st.drop y := by
  have h1 : st[y - 1]? = some a := by rw [← List.head?_drop]; exact h
  have h2 : st.take y = st.take (y - 1) ++ [a] := by
    have h3 := List.take_succ (l := st) (i := y - 1)
    rw [show y - 1 + 1 = y by omega, h1] at h3
    exact h3
  refine ⟨h2, ?_⟩
  have h4 := (List.take_append_drop y st).symm
  rw [h2, List.append_assoc] at h4
  exact h4
set_option maxHeartbeats 4000000 in
/-- a call in the caller's walk, its callee's contract being there -/
theorem sim_call {i : Instr} {k0 : Nat} {ls0 : List LV} {rk : Nat} {r : Option PV} {M3 : Mem} (C : Cx sz b L xs D dA m p R s mm args meth c) (hAO : AO3 s) (S : Sm sz b L xs D dA m s M H locs lsC ls st) (hi : ins m pc = some (i, n, x, y, z, w))
    (hc : ((∃ k, i = .invokestatic k ∧ 4 ≤ x ∧ calls (pc + n) x y z (nd x 8) none ls st M = some (.inr (.inr (k0, ls0, rk, pc', ls', st', M')))) ∨ (∃ k, i = .invokevirtual k ∧ calls (pc + n) x y z (nd x 8) (some w) ls st M = some (.inr (.inr (k0, ls0, rk, pc', ls', st', M')))) ∨ (∃ k, i = .invokespecial k ∧ x ≠ 0 ∧ calls (pc + n) x y z (nd x 8) (some w) ls st M = some (.inr (.inr (k0, ls0, rk, pc', ls', st', M'))))))
    (hM : x ∈ mks → MtP l sz b L xs D dA x (st.take y).reverse M r M3) (hle : MNle M M3) (hN : n0 ≤ mN M ∧ 2 ≤ n0 ∧ s.heap.size = sz + (n0 - 2)) (hs0 : s0 ≤ mS M) (hcell : mN M3 - n0 ≤ R.cells) (hslot : mS M3 - s0 ≤ R.slots)
    (kk : ∀ (H' : Heap) (locs' : List Loc), Sm sz b L xs D dA m s M3 H' locs' lsC ls (r.toList ++ st') → W p l e R s mm args below meth c H' locs' (mN M3 - n0) (mS M3 - s0) Q (F0 mm pc' lsC ((r.toList ++ st').map (cz sz b)))) : W p l e R s mm args below meth c H locs (mN M - n0) (mS M - s0) Q (F0 mm pc lsC (st.map (cz sz b))) := by
  obtain ⟨⟨hx, hb, hml, hown, hts⟩, hK, hin, hRm, hScr, hsz, hC⟩ := id C
  obtain ⟨hR, hS, hL, hV⟩ := id S
  obtain ⟨hd, hlen, hok⟩ := okC_get hC hi
  have hpre : ∀ U : State, U.heap = H → s.WarmedH U.vm → PW sz b L xs D dA M U := fun U hU hW => ⟨by rw [hU]; exact hR, va_K.moved hW.alike hK, AO3.moved hW.alike hAO⟩
  have hle1 := hle.1
  have hle2 := hle.2
  have hVd : ∀ (st1 : List PV), st1 = st.drop y → RO r → VOs (r.toList ++ st1) := fun st1 e hr => VOs.of fun v hv => by
    rcases List.mem_append.mp hv with h | h
    · cases r with
      | none => cases h
      | some u =>
        rw [show v = u from by simpa using h]
        exact hr
    · rw [e] at h
      exact hV.mem v (List.mem_of_mem_drop h)
  have fin : ∀ (st1 : List PV), ((r.map (cz sz b)).toList ++ st1.map (cz sz b)) = (r.toList ++ st1).map (cz sz b) := fun st1 => by cases r <;> rfl
  rcases hc with ⟨k, rfl, h4, hc⟩ | ⟨k, rfl, hc⟩ | ⟨k, rfl, h0, hc⟩
  · obtain ⟨e1, e2, e3, -⟩ := calls_inv hc
    obtain rfl : n = 3 := lenOf hlen (by decide)
    cases e1
    unfold okR at hok
    simp only [Bool.and_eq_true, Bool.or_eq_true] at hok
    obtain ⟨o1, o2⟩ := hok
    rcases o2 with o2 | ⟨⟨⟨⟨⟨⟨o3, o4⟩, o5⟩, o6⟩, o7⟩, o8⟩, o9⟩
    · exact absurd (Nat.le_of_ble_eq_true o2) (by omega)
    have o3 := Nat.eq_of_beq_eq_true o3
    have o4 := Nat.eq_of_beq_eq_true o4
    have o6 := Nat.eq_of_beq_eq_true o6
    have o7 : nd x 4 < nd m 4 := Nat.le_of_ble_eq_true o7
    have o8 := Nat.le_of_ble_eq_true o8
    have hmk := inS_ok o9
    obtain ⟨⟨⟨m1, m2⟩, m3⟩, ⟨⟨m4, m5⟩, m6⟩, m7⟩ := LAll.mem okM_all x hmk
    obtain ⟨m4a, m4b⟩ := m4
    have hstt : Cond.static (my x) ∈ WLs := by
      rcases m3 with ⟨-, h⟩ | ⟨h, -⟩
      · exact wls_in h rfl
      · omega
    have cw : CallB R s args (Rn (nd m 1)) k (my x) (byt x) (nd x 0) (mr x) (mws x) (mrm x M M3) (mN M3 - mN M) (mS M3 - mS M) y ∧ (Cond.static (my x)).before args s = true :=
      ⟨callB_of (Ts := WLs) (ws' := WLs) y hts (good_list fun w hw => by
        rcases List.mem_cons.mp hw with e | hw
        · rw [e]; exact wls_in m1 rfl
        · exact hw) rfl rfl rfl (hts _ (by rw [m2]; exact wls_in m4a rfl)) (hts _ (inM_ok o1)) ⟨by rw [m2]; exact m5, by rw [m2]; exact m6, by rw [m7, o3, o6]; rfl⟩ ⟨by show nd x 4 + 1 ≤ R.frames; omega, by show 8 + (nd x 0 + 11) + nd x 5 ≤ R.locals; omega⟩, hts _ hstt⟩
    have hlt : (st.take y).length = y := by rw [List.length_take]; omega
    refine callG (st0 := st.map (cz sz b)) (va_runS (As := (st.take y).reverse.map (cz sz b)) (rest := (st.drop y).map (cz sz b)) (n := y) ⟨hx, hb, hml, hown, hts⟩ (hM hmk) cw ⟨PW.blind, fun U hU hW => ⟨rfl, hpre U hU hW⟩⟩ rfl (by rw [List.length_map, List.length_reverse, hlt]) hL.1 ?_ (by rw [cat_sum]; show 2 * 0 + (st.drop y).length ≤ 8; omega) hd (by omega)) hS (k1 := mN M3 - n0) (k2 := mS M3 - s0) (by omega) (by omega) fun H1 locs1 a1 a2 a3 => ?_
    · show st.map (cz sz b) = _
      rw [List.map_reverse, List.reverse_reverse, ← List.map_append, List.take_append_drop]
    · rw [fin]
      exact kk H1 locs1 ⟨a1, a3, hL, hVd _ rfl a2⟩
  · obtain ⟨e1, e2, e3, e4⟩ := calls_inv hc
    obtain rfl : n = 3 := lenOf hlen (by decide)
    cases e1
    obtain ⟨a, ha, hga⟩ := e4 _ rfl
    unfold okR at hok
    simp only [Bool.and_eq_true] at hok
    obtain ⟨o1, o2, ⟨⟨⟨⟨⟨⟨⟨o3, o4⟩, o5⟩, o6⟩, o6a⟩, o7⟩, o8⟩, o9⟩⟩ := hok
    have o3 := Nat.eq_of_beq_eq_true o3
    have o5 := Nat.eq_of_beq_eq_true o5
    have o6 := Nat.eq_of_beq_eq_true o6
    have o6a := Nat.eq_of_beq_eq_true o6a
    have o7 : nd x 4 < nd m 4 := Nat.le_of_ble_eq_true o7
    have o8 := Nat.le_of_ble_eq_true o8
    have hmk := inS_ok o9
    obtain ⟨⟨⟨m1, m2⟩, m3⟩, ⟨⟨m4, m5⟩, m6⟩, m7⟩ := LAll.mem okM_all x hmk
    obtain ⟨m4a, m4b⟩ := m4
    obtain ⟨-, -, -, hy⟩ := okT_at (List.mem_append_left _ hmk)
    have hy : 1 ≤ y := by omega
    obtain ⟨hin1, hsel⟩ : Cond.instanceMethod (my x) ∈ WLs ∧ Cond.selects (Rn (nd x 1)) (my x) (my x) ∈ WLs := by
      rcases m3 with ⟨h, -⟩ | ⟨-, h1, ⟨h, -⟩ | ⟨-, h2⟩⟩
      · omega
      · omega
      · exact ⟨wls_in h1 rfl, wls_in h2 rfl⟩
    have cw : CallW R s args (Rn (nd m 1)) (Rn (nd x 1)) k (my x) (byt x) (nd x 0) (mr x) (mws x) (mrm x M M3) (mN M3 - mN M) (mS M3 - mS M) (y - 1) :=
      ⟨callB_of (Ts := WLs) (ws' := WLs) (y - 1) hts (good_list fun w hw => by
        rcases List.mem_cons.mp hw with e | hw
        · rw [e]; exact wls_in m1 rfl
        · exact hw) rfl rfl rfl (hts _ (by rw [m2]; exact wls_in m4a rfl)) (hts _ (inM_ok o1)) ⟨by rw [m2]; exact m5, by rw [m2]; exact m6, by rw [m7, o3, o6]⟩ ⟨by show nd x 4 + 1 ≤ R.frames; omega, by show 8 + (nd x 0 + 11) + nd x 5 ≤ R.locals; omega⟩, hts _ hin1, hts _ hsel⟩
    obtain ⟨g1, g2, g3⟩ := gO_ok hga
    obtain ⟨cut1, cut2⟩ := head_cut hy e2 ha
    have hlt : (st.take (y - 1)).length = y - 1 := by rw [List.length_take]; omega
    have hw13 : w < 13 := by
      have h9 := hR.2.2.2.1 a g1 g2
      rw [g3] at h9
      exact h9
    have hav : (st.take y).reverse.map (cz sz b) = Value.ref (ad sz b a) :: (st.take (y - 1)).reverse.map (cz sz b) := by
      rw [cut1, List.reverse_append]
      show cz sz b (.inr a) :: _ = _
      show va_rf (rf sz b a) :: _ = _
      rw [rf_pos (by omega)]
      rfl
    have hws := wl_at (sz := sz) (b := b) (dA := dA) g1 g2
    rw [cell_obj g3] at hws
    have hrecv := va_recv hK hR.2.1 (vw_at hw13) hws
    refine callG (st0 := st.map (cz sz b)) (va_runV (b := ad sz b a) (As := (st.take (y - 1)).reverse.map (cz sz b)) (rest := (st.drop y).map (cz sz b)) (n := y - 1) ⟨hx, hb, hml, hown, hts⟩ (hM hmk) cw ⟨PW.blind, by rw [o5]; exact hrecv, fun U hU hW => ⟨by rw [hav], hpre U hU hW⟩⟩ rfl (by rw [List.length_map, List.length_reverse, hlt]) hL.1 ?_ (by rw [cat_sum]; show 2 * 0 + (st.drop y).length ≤ 8; omega) hd (by omega)) hS (k1 := mN M3 - n0) (k2 := mS M3 - s0) (by omega) (by omega) fun H1 locs1 a1 a2 a3 => ?_
    · show st.map (cz sz b) = _
      rw [List.map_reverse, List.reverse_reverse]
      have h8 : st.map (cz sz b) = (st.take (y - 1)).map (cz sz b) ++ (cz sz b (.inr a) :: (st.drop y).map (cz sz b)) := by
        rw [← List.map_cons, ← List.map_append, ← cut2]
      rw [h8]
      show _ ++ va_rf (rf sz b a) :: _ = _
      rw [rf_pos (by omega)]
      rfl
    · rw [fin]
      exact kk H1 locs1 ⟨a1, a3, hL, hVd _ rfl a2⟩
  · obtain ⟨e1, e2, e3, e4⟩ := calls_inv hc
    obtain rfl : n = 3 := lenOf hlen (by decide)
    cases e1
    obtain ⟨a, ha, hga⟩ := e4 _ rfl
    unfold okR at hok
    simp only [Bool.and_eq_true, Bool.or_eq_true] at hok
    obtain ⟨o1, o2⟩ := hok
    rcases o2 with o2 | ⟨⟨⟨⟨⟨⟨⟨⟨o2, o3⟩, o4⟩, o5⟩, o6⟩, o6a⟩, o7⟩, o8⟩, o9⟩
    · exact absurd (Nat.eq_of_beq_eq_true o2) h0
    have o3 := Nat.eq_of_beq_eq_true o3
    have o6 := Nat.eq_of_beq_eq_true o6
    have o6a := Nat.eq_of_beq_eq_true o6a
    have o7 : nd x 4 < nd m 4 := Nat.le_of_ble_eq_true o7
    have o8 := Nat.le_of_ble_eq_true o8
    have hmk := inS_ok o9
    obtain ⟨⟨⟨m1, m2⟩, m3⟩, ⟨⟨m4, m5⟩, m6⟩, m7⟩ := LAll.mem okM_all x hmk
    obtain ⟨m4a, m4b⟩ := m4
    obtain ⟨-, -, -, hy⟩ := okT_at (List.mem_append_left _ hmk)
    have hy : 1 ≤ y := by omega
    obtain ⟨hin1, hname, hnone⟩ : Cond.instanceMethod (my x) ∈ WLs ∧ (my x).name = "<init>" ∧ mr x = none := by
      rcases m3 with ⟨h, -⟩ | ⟨-, h1, ⟨-, h2, h3⟩ | ⟨h, -⟩⟩
      · omega
      · exact ⟨wls_in h1 rfl, h2, h3⟩
      · omega
    have hM2 := hM hmk
    unfold MtP mws at hM2
    rw [hnone] at hM2 m1
    have cw : CallB R s args (Rn (nd m 1)) k (my x) (byt x) (nd x 0) none (Cond.code (my x) (byt x) (nd x 0) none :: WLs) (mrm x M M3) (mN M3 - mN M) (mS M3 - mS M) (y - 1) ∧ (my x).name = "<init>" ∧ (Cond.instanceMethod (my x)).before args s = true :=
      ⟨callB_of (Ts := WLs) (ws' := WLs) (y - 1) hts (good_list fun w hw => by
        rcases List.mem_cons.mp hw with e | hw
        · rw [e]; exact wls_in m1 rfl
        · exact hw) rfl rfl rfl (hts _ (by rw [m2]; exact wls_in m4a rfl)) (hts _ (inM_ok o1)) ⟨by rw [m2]; exact m5, by rw [m2]; exact m6, by rw [m7, o3, o6]⟩ ⟨by show nd x 4 + 1 ≤ R.frames; omega, by show 8 + (nd x 0 + 11) + nd x 5 ≤ R.locals; omega⟩, hname, hts _ hin1⟩
    obtain ⟨g1, g2, g3⟩ := gO_ok hga
    obtain ⟨cut1, cut2⟩ := head_cut hy e2 ha
    have hlt : (st.take (y - 1)).length = y - 1 := by rw [List.length_take]; omega
    have hav : (st.take y).reverse.map (cz sz b) = Value.ref (ad sz b a) :: (st.take (y - 1)).reverse.map (cz sz b) := by
      rw [cut1, List.reverse_append]
      show cz sz b (.inr a) :: _ = _
      show va_rf (rf sz b a) :: _ = _
      rw [rf_pos (by omega)]
      rfl
    refine callG (st0 := st.map (cz sz b)) (va_runI (b := ad sz b a) (As := (st.take (y - 1)).reverse.map (cz sz b)) (rest := (st.drop y).map (cz sz b)) (n := y - 1) ⟨hx, hb, hml, hown, hts⟩ hM2 cw ⟨PW.blind, fun U hU hW => ⟨by rw [hav], hpre U hU hW⟩⟩ rfl (by rw [List.length_map, List.length_reverse, hlt]) hL.1 ?_ (by rw [cat_sum]; show 2 * 0 + (st.drop y).length ≤ 8; omega) hd (by omega)) hS (k1 := mN M3 - n0) (k2 := mS M3 - s0) (by omega) (by omega) fun H1 locs1 a1 a2 a3 => ?_
    · show st.map (cz sz b) = _
      rw [List.map_reverse, List.reverse_reverse]
      have h8 : st.map (cz sz b) = (st.take (y - 1)).map (cz sz b) ++ (cz sz b (.inr a) :: (st.drop y).map (cz sz b)) := by
        rw [← List.map_cons, ← List.map_append, ← cut2]
      rw [h8]
      show _ ++ va_rf (rf sz b a) :: _ = _
      rw [rf_pos (by omega)]
      rfl
    · rw [fin]
      exact kk H1 locs1 ⟨a1, a3, hL, hVd _ rfl a2⟩
end RUN2

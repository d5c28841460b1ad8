/-! ===== the claim out of a run of the pure machine (lw_P .. lw_At: out of the skeleton) ===== -/
def R_law : String := "DrivenRunsLaw"
def lw_P (b : Addr) (xs : List Int32) (args : Array Value) (s : State) : Prop := args = #[.ref b] ∧ s.IntsAt b xs ∧ xs.length ≤ 3072 ∧ (Jvm.Cond.and given_1 narrow_1).before args s = true
def lw_Q (_ : Array Value) (s : State) (o : Outcome) (t : State) : Prop := o = .returned (some (.int 1)) ∧ Framed s o t [] 600000 7302249
def lw_Z (below : List Frame) (a : Array Value) (s : State) : State → Prop := fun t => ∃ o, t.status = .running ∧ Ended t below o ∧ lw_Q a s o t
/-- what holds at the law's entry: the machine, the code, the tables' words (any of lw_tbl by 'hts w (by decide +kernel)'), the script of L ints xs at the cell b, what the Statement gives of the start (any of its parts by flat_of_before) -/
def lw_At (p : Program) (s : State) (m : MethodId) (meth : Method) (c : Code) (b L : Nat) (xs : Nat → Int32) : Prop :=
  p.tables.exec = Jvm.exec ∧ c.code = code ∧ meth.sig.returnType = ret ∧ c.maxLocals = 4 ∧ s.vm.findClass R_law = some m.cls ∧ (∀ w ∈ lw_tbl, w.before #[Value.ref b] s = true) ∧ va_X b L xs s s.heap ∧ b < s.heap.size ∧ meth.locks = false ∧ (Jvm.Cond.and given_1 narrow_1).before #[Value.ref b] s = true

def M00 (L : Nat) (xs : Nat → Int) : Mem := ((2, 0), (fun _ => .inr (9, L)), (fun a k => if a = 1 ∧ k < L then xs k else 0), fun _ _ => 0)
/-- what is to be shown of the pure machine -/
def LawRun : Prop := ∀ (L : Nat) (xs : Nat → Int), L ≤ 3072 → (∀ k, InR (xs k)) → ∃ M2, ev 317 0 [some (.inr 1), none, none, none] [] (M00 L xs) = some (some (.inl 1), M2) ∧ mN M2 ≤ 600002 ∧ mS M2 ≤ 7302249
theorem arr_in {s : State} {args : Array Value} (hts : ∀ w ∈ lw_tbl, w.before args s = true) : ∃ dA : Nat → ClassId, ∀ (k : Nat) (q : ClassId × FieldType), (atys dA)[k]? = some q → ArrOfT s q.1 q.2 ∧ va_RA s q.1 q.2 := by
  have prim : ∀ ty : FieldType, (∀ n, ty ≠ .object n) → Cond.arrayClass ty ∈ lw_tbl → ∃ c, ArrOfT s c ty ∧ va_RA s c ty := by
    intro ty hn hw
    obtain ⟨c, k, comp, h1, h2, h3⟩ := Cond.arrayClass_spec (hts _ hw)
    refine ⟨c, fun n z => ⟨fun q h => (by cases h), k, h2, comp, h3⟩, ?_⟩
    cases ty with
    | object n => exact absurd rfl (hn n)
    | _ => exact h1
  have obj : ∀ C : String, Cond.arrayOver (.object C) ∈ lw_tbl → ∃ c, ArrOfT s c (.object C) ∧ va_RA s c (.object C) := by
    intro C hw
    obtain ⟨comp, c, k, h1, -, h2, h3, h4⟩ := Cond.arrayOver_spec (hts _ hw)
    exact ⟨c, fun n z => ⟨fun q h => (by cases h), k, h2, comp, h3⟩, k, comp, h2, h3, h1, h4⟩
  obtain ⟨c0, h0⟩ := prim .int (fun n h => by cases h) arr_ok0
  obtain ⟨c1, h1⟩ := prim .byte (fun n h => by cases h) arr_ok1
  obtain ⟨c2, h2⟩ := prim .boolean (fun n h => by cases h) arr_ok2
  obtain ⟨c3, h3⟩ := obj RX2 arr_ok3
  obtain ⟨c4, h4⟩ := obj RX1 arr_ok4
  obtain ⟨c5, h5⟩ := obj RX4 arr_ok5
  refine ⟨fun k => match k with
    | 0 => c0
    | 1 => c1
    | 2 => c2
    | 3 => c3
    | 4 => c4
    | _ => c5, ?_⟩
  intro k q hq
  match k, hq with
  | 0, hq => cases hq; exact h0
  | 1, hq => cases hq; exact h1
  | 2, hq => cases hq; exact h2
  | 3, hq => cases hq; exact h3
  | 4, hq => cases hq; exact h4
  | 5, hq => cases hq; exact h5
  | k + 6, hq => simp [atys] at hq
theorem cls_in {s : State} {args : Array Value} (hts : ∀ w ∈ lw_tbl, w.before args s = true) : ∃ D : va_G, ∀ (c : Nat) (q : vw_C), vwCl[c]? = some q → u_Kn s q.1 q.2.1 q.2.2 (D.1 c) (D.2 c) := by
  have h : ∀ c : Nat, ∃ z : ClassId × (Nat → Nat), c < 13 → u_Kn s (Rn c) (Tn c) (Nn c) z.1 z.2 := by
    intro c
    by_cases hc : c < 13
    · obtain ⟨cC, iS, hk⟩ := u_known (C := Rn c) (T := Tn c) (N := Nn c) (n := Nn c) hts (fun w hw => (List.mem_filter.mp (ws_at hc w hw)).1) (hts _ (List.mem_filter.mp (in_at hc).1).1)
      exact ⟨(cC, iS), fun _ => hk⟩
    · exact ⟨(0, fun _ => 0), fun q => absurd q hc⟩
  obtain ⟨f, hf⟩ := Classical.axiomOfChoice h
  refine ⟨(fun c => (f c).1, fun c => (f c).2), fun c q hq => ?_⟩
  have hc : c < 13 := (List.getElem?_eq_some_iff.mp hq).1
  have h2 := vw_at hc
  rw [hq] at h2
  cases h2
  exact hf c hc
theorem code_317 : code = byt 317 := rfl
theorem ret_317 : ret = mr 317 := rfl
/-- the law's own walk out of a pure run -/
theorem start_of (hrun : LawRun) {p : Program} {e : Env} {s : State} {m : MethodId} {below : List Frame} {meth : Method} {c : Code} (l : Launch) {b L : Nat} {xs : Nat → Int32} (hL : L ≤ 3072) (C0 : lw_At p s m meth c b L xs) : W p l e room_1 s m #[Value.ref b] below meth c s.heap [] 0 0 (lw_Z below #[Value.ref b] s) (entryFrame m ([Value.ref b] : List Value).toArray 4) := by
  obtain ⟨hx, hb, hr, hml, hown, hts, hX, hbl, hlocks, hgv⟩ := id C0
  obtain ⟨dA, hdA⟩ := arr_in hts
  obtain ⟨D, hD⟩ := cls_in hts
  have hK : va_K D vwCl (atys dA) s := ⟨hD, hdA⟩
  have hAO : AO3 s := ⟨va_AO.of (hts _ arr_ok3), va_AO.of (hts _ arr_ok4), va_AO.of (hts _ arr_ok5)⟩
  obtain ⟨M2, hev, hN2, hS2⟩ := hrun L (fun k => (xs k).toInt) hL (fun k => inR_toInt _)
  obtain ⟨f, hf⟩ := ev_iff.mp hev
  have h317 : (317 : Nat) ∈ mks ++ [317] := List.mem_append_right _ List.mem_cons_self
  have hC : Cx s.heap.size b L xs D dA 317 p room_1 s m #[Value.ref b] meth c :=
    ⟨⟨hx, hb.trans code_317, hml, hown, fun w hw => hts w (List.mem_filter.mp hw).1⟩, hK, fun h => absurd h (by decide), ⟨Nat.le_of_ble_eq_true rfl, Nat.le_of_ble_eq_true rfl⟩, fun _ => hX, ⟨Nat.le_refl _, hbl⟩, LAll.mem okC_all 317 h317⟩
  have hS : Sm s.heap.size b L xs D dA 317 s (M00 L fun k => (xs k).toInt) s.heap [] ((lg_sl (([Sum.inr 1] : List PV).map (cz s.heap.size b)) ++ List.replicate (4 - (lg_sl (([Sum.inr 1] : List PV).map (cz s.heap.size b))).length) Slot.unset).toArray) (([Sum.inr 1] : List PV).map some ++ List.replicate (4 - 1) none) [] := by
    refine ⟨⟨⟨Nat.le_refl _, rfl⟩, fun k q h => ?_, fun a k => ?_, fun a h1 h2 => ?_, rfl, fun k hk => ?_⟩, va_S.rf, LR.entry (nL := 4) (A := [Sum.inr 1]) (by decide) (fun v hv => ?_), trivial⟩
    · exact absurd h (by unfold wl; simp [mN, M00])
    · show InR (if a = 1 ∧ k < L then (xs k).toInt else 0)
      split
      · exact inR_toInt _
      · exact inR_0
    · exact absurd h2 (Nat.not_lt.mpr h1)
    · show (if 1 = 1 ∧ k < L then (xs k).toInt else 0) = _
      rw [if_pos ⟨rfl, hk⟩]
    · rw [List.mem_singleton.mp hv]; trivial
  have h1 := sim_all (l := l) (by omega) hbl f 317 0 _ [] _ _ M2 hf h317 p e room_1 s m #[Value.ref b] below meth c 2 0 s.heap [] _ hC hAO (hr.trans ret_317) hlocks hS ⟨Nat.le_refl _, Nat.le_refl _, rfl⟩ (Nat.le_refl _) (by show mN M2 - 2 ≤ 600000; omega) (by show mS M2 - 0 ≤ 7302249; omega)
  have he : entryFrame m ([Value.ref b] : List Value).toArray 4 = F0 m 0 ((lg_sl (([Sum.inr 1] : List PV).map (cz s.heap.size b)) ++ List.replicate (4 - (lg_sl (([Sum.inr 1] : List PV).map (cz s.heap.size b))).length) Slot.unset).toArray) (([] : List PV).map (cz s.heap.size b)) := lg_entry_eq m [Value.ref b] 4
  rw [he]
  intro T hT X
  obtain ⟨t, st, o, q1, q2, ⟨⟨q3, -, -⟩, -⟩, L2, ⟨q4, q5, q6⟩, q7⟩ := h1 T hT X
  exact ⟨t, st, o, q1, q2, q3, q4, q5, q6.weaken (fun y hy hlt => absurd hlt (Nat.not_lt.mpr (q7 y hy))) (by omega) (by omega)⟩

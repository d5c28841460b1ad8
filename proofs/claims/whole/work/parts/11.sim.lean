/-! ===== a run of the pure machine is a run of the machine ===== -/
def MNle (M M' : Mem) : Prop := mN M ≤ mN M' ∧ mS M ≤ mS M'
def isRef : Option FieldType → Bool
  | some (.object _) => true
  | some (.array _) => true
  | _ => false
def isInt : Option FieldType → Bool
  | some .int => true
  | _ => false
def isBoo : Option FieldType → Bool
  | some .boolean => true
  | _ => false
noncomputable def okT (m : Nat) : Bool := (match nd m 8 with
  | 0 => (mr m).isNone
  | 1 => isInt (mr m)
  | 2 => isBoo (mr m)
  | 3 => isRef (mr m)
  | _ => false) && (Nat.ble 1 (nd m 4) && Nat.ble 60 (nd m 5)) && (Nat.ble (nd m 2) (nd m 0) && (Nat.beq (nd m 3) 1 || Nat.ble 1 (nd m 2)))
set_option maxRecDepth 100000 in
theorem okT_all : (mks ++ [317]).all okT = true := by decide +kernel
def plK (m pc : Nat) (ls : List LV) (st : List PV) (M : Mem) (p : Plan) : Prop := match p with
  | .inl q => q.2 = M ∧ ∃ n x y z w, ((∃ v, st = [.inl v] ∧ ins m pc = some (.ireturn, n, x, y, z, w) ∧ q.1 = some (.inl v) ∧ (x = 1 → v = 0 ∨ v = 1)) ∨ (∃ a, st = [.inr a] ∧ ins m pc = some (.areturn, n, x, y, z, w) ∧ q.1 = some (.inr a)) ∨ (st = [] ∧ ins m pc = some (.return_, n, x, y, z, w) ∧ q.1 = none))
  | .inr (.inl q) => MNle M q.2.2.2
  | .inr (.inr q) => ∃ i n x y z w, ins m pc = some (i, n, x, y, z, w) ∧ ((∃ k, i = .invokestatic k ∧ 4 ≤ x ∧ calls (pc + n) x y z (nd x 8) none ls st M = some (.inr (.inr q))) ∨ (∃ k, i = .invokevirtual k ∧ calls (pc + n) x y z (nd x 8) (some w) ls st M = some (.inr (.inr q))) ∨ (∃ k, i = .invokespecial k ∧ x ≠ 0 ∧ calls (pc + n) x y z (nd x 8) (some w) ls st M = some (.inr (.inr q))))
theorem calls_inv {pc k y z rk : Nat} {c : Option Nat} {ls : List LV} {st : List PV} {M : Mem} {p : Plan} (h : calls pc k y z rk c ls st M = some p) : p = .inr (.inr (k, (st.take y).reverse.map some ++ List.replicate (z - y) none, rk, pc, ls, st.drop y, M)) ∧ y ≤ st.length ∧ (st.drop y).length ≤ 8 ∧ ∀ cc, c = some cc → ∃ a, (st.drop (y - 1)).head? = some (.inr a) ∧ gO M a cc = true := by
  unfold calls at h
  obtain ⟨hg, h⟩ := Option.ite_none_right_eq_some.mp h
  cases h
  simp only [Bool.and_eq_true] at hg
  refine ⟨rfl, Nat.le_of_ble_eq_true hg.1.1, Nat.le_of_ble_eq_true hg.1.2, fun cc e => ?_⟩
  subst e
  have h2 := hg.2
  dsimp only at h2
  split at h2
  · rename_i a ha
    exact ⟨a, ha, h2⟩
  · cases h2
set_option maxHeartbeats 4000000 in
theorem plan_kind {m pc : Nat} {ls : List LV} {st : List PV} {M : Mem} {p : Plan} (h : plan m pc ls st M = some p) : plK m pc ls st M p := by
  unfold plan at h
  split at h
  · cases h
  · rename_i i n x y z w hi
    split at h
    case h_1 =>
      split at h
      · split at h
        · split at h
          · rename_i hx hv
            cases h
            exact ⟨rfl, _, _, _, _, _, Or.inl ⟨_, rfl, hi, rfl, fun _ => hv⟩⟩
          · cases h
        · rename_i hx
          cases h
          exact ⟨rfl, _, _, _, _, _, Or.inl ⟨_, rfl, hi, rfl, fun q => absurd q hx⟩⟩
      · cases h
    case h_2 =>
      split at h
      · cases h
        exact ⟨rfl, _, _, _, _, _, Or.inr (Or.inl ⟨_, rfl, hi, rfl⟩)⟩
      · cases h
    case h_3 =>
      split at h
      · cases h
        exact ⟨rfl, _, _, _, _, _, Or.inr (Or.inr ⟨rfl, hi, rfl⟩)⟩
      · cases h
    case h_4 =>
      split at h
      · split at h
        · split at h
          · cases h; exact ⟨Nat.le_refl _, Nat.le_refl _⟩
          · cases h
        · cases h
      · split at h
        · split at h
          · split at h
            · cases h; exact ⟨Nat.le_refl _, Nat.le_refl _⟩
            · cases h
          · cases h
        · split at h
          · split at h
            · split at h
              · cases h; exact ⟨Nat.le_refl _, Nat.le_refl _⟩
              · cases h
            · cases h
          · split at h
            · rename_i h4
              obtain ⟨e, -⟩ := calls_inv h
              subst e
              exact ⟨_, _, _, _, _, _, hi, Or.inl ⟨_, rfl, Nat.le_of_ble_eq_true h4, h⟩⟩
            · cases h
    case h_5 =>
      obtain ⟨e, -⟩ := calls_inv h
      subst e
      exact ⟨_, _, _, _, _, _, hi, Or.inr (Or.inl ⟨_, rfl, h⟩)⟩
    case h_6 =>
      split at h
      · split at h
        · split at h
          · cases h; exact ⟨Nat.le_refl _, Nat.le_refl _⟩
          · cases h
        · cases h
      · rename_i h0
        obtain ⟨e, -⟩ := calls_inv h
        subst e
        exact ⟨_, _, _, _, _, _, hi, Or.inr (Or.inr ⟨_, rfl, h0, h⟩)⟩
    all_goals (repeat' (split at h))
    all_goals first
      | (cases h; done)
      | (cases h; exact ⟨Nat.le_refl _, Nat.le_refl _⟩)
      | (cases h; exact ⟨Nat.le_succ _, Nat.le_add_right _ _⟩)
theorem MNle.trans {a b c : Mem} (h : MNle a b) (k : MNle b c) : MNle a c := ⟨Nat.le_trans h.1 k.1, Nat.le_trans h.2 k.2⟩
theorem back_inv {rk : Nat} {F : List PV → Mem → Res} {q : Option PV × Mem} {r : Option PV × Mem} (h : back rk F q = some r) : F q.1.toList q.2 = some r ∧ ((rk = 0 ∧ q.1 = none) ∨ ((rk = 1 ∨ rk = 2) ∧ ∃ v, q.1 = some (.inl v)) ∨ (rk = 3 ∧ ∃ a, q.1 = some (.inr a))) := by
  unfold back at h
  split at h
  · rename_i e
    split at h
    · rename_i h0; rw [e]; exact ⟨h, Or.inl ⟨h0, rfl⟩⟩
    · cases h
  · rename_i e
    split at h
    · rename_i h0; rw [e]; exact ⟨h, Or.inr (Or.inl ⟨h0, _, rfl⟩)⟩
    · cases h
  · rename_i e
    split at h
    · rename_i h0; rw [e]; exact ⟨h, Or.inr (Or.inr ⟨h0, _, rfl⟩)⟩
    · cases h
theorem px_le : ∀ (f m pc : Nat) (ls : List LV) (st : List PV) (M : Mem) (r : Option PV) (M2 : Mem), px f m pc ls st M = some (r, M2) → MNle M M2 := by
  intro f
  induction f with
  | zero => intro m pc ls st M r M2 h; cases h
  | succ f ih =>
    intro m pc ls st M r M2 h
    change Fx (px f) m pc ls st M = some (r, M2) at h
    unfold Fx at h
    split at h
    · cases h
    · rename_i q hp
      cases h
      have := (plan_kind hp).1
      rw [show M2 = M from this]
      exact ⟨Nat.le_refl _, Nat.le_refl _⟩
    · rename_i q hp
      have h1 : MNle M q.2.2.2 := plan_kind hp
      exact h1.trans (ih _ _ _ _ _ _ _ h)
    · rename_i k ls0 rk pc' ls' st' M' hp
      obtain ⟨i, n, x, y, z, w, -, h1⟩ := plan_kind hp
      have hM : M' = M := by
        rcases h1 with ⟨_, _, _, h1⟩ | ⟨_, _, h1⟩ | ⟨_, _, _, h1⟩ <;> (have h2 := (calls_inv h1).1; cases h2; rfl)
      subst hM
      cases hc : px f k 0 ls0 [] M' with
      | none => rw [hc] at h; cases h
      | some q =>
        obtain ⟨q1, q2⟩ := q
        rw [hc, Option.bind_some] at h
        have h3 := (back_inv h).1
        exact (ih _ _ _ _ _ _ _ hc).trans (ih _ _ _ _ _ _ _ h3)
def RO : Option PV → Prop
  | none => True
  | some v => VO v
def QW (sz b L : Nat) (xs : Nat → Int32) (D : va_G) (dA : Nat → ClassId) (r : Option PV) (M2 : Mem) : Array Value → State → Outcome → State → Prop := fun _ st o t => (o = .returned (r.map (cz sz b)) ∧ Rep sz b L xs D dA M2 t.heap ∧ RO r) ∧ va_F (fun q => sz ≤ q) st t
def AO3 (s : State) : Prop := va_AO (Rn 2) s ∧ va_AO (Rn 1) s ∧ va_AO (Rn 4) s
theorem AO3.moved {u U : State} (hvm : u.vm.Alike U.vm) (h : AO3 u) : AO3 U := ⟨va_AO.moved hvm h.1, va_AO.moved hvm h.2.1, va_AO.moved hvm h.2.2⟩
def PW (sz b L : Nat) (xs : Nat → Int32) (D : va_G) (dA : Nat → ClassId) (M : Mem) : State → Prop := fun U => Rep sz b L xs D dA M U.heap ∧ va_K D vwCl (atys dA) U ∧ AO3 U
theorem PW.blind {sz b L : Nat} {xs : Nat → Int32} {D : va_G} {dA : Nat → ClassId} {M : Mem} {av : List Value} : FrameBlind (va_Pc av (PW sz b L xs D dA M)) := fun a U g mk h => by
  obtain ⟨q0, q1, q2, q3⟩ := h
  exact ⟨q0, q1, va_K.moved (u := U) (U := U.calling g mk a) (Vm.Alike.refl U.vm) q2, AO3.moved (u := U) (U := U.calling g mk a) (Vm.Alike.refl U.vm) q3⟩
theorem VOs.mem : ∀ {st : List PV}, VOs st → ∀ v ∈ st, VO v := by
  intro st
  induction st with
  | nil => intro _ v h; cases h
  | cons a r ih =>
    intro h v hv
    rcases List.mem_cons.mp hv with e | hv
    · rw [e]; exact h.1
    · exact ih h.2 v hv
theorem VOs.of : ∀ {st : List PV}, (∀ v ∈ st, VO v) → VOs st := by
  intro st
  induction st with
  | nil => intro _; trivial
  | cons a r ih => intro h; exact ⟨h a List.mem_cons_self, ih fun v hv => h v (List.mem_cons_of_mem _ hv)⟩
theorem sl_map {sz b : Nat} : ∀ (A : List PV), lg_sl (A.map (cz sz b)) = (A.map (cz sz b)).map Slot.val := by
  intro A
  unfold lg_sl
  induction A with
  | nil => rfl
  | cons a r ih =>
    rw [List.map_cons, List.flatMap_cons, ih, List.map_cons]
    rw [if_neg (by rw [cz_cat]; decide)]
    rfl
theorem LR.entry {sz b nL : Nat} {A : List PV} (h : A.length ≤ nL) (hv : ∀ v ∈ A, VO v) : LR sz b nL ((lg_sl (A.map (cz sz b)) ++ List.replicate (nL - (lg_sl (A.map (cz sz b))).length) Slot.unset).toArray) (A.map some ++ List.replicate (nL - A.length) none) := by
  have hl : (lg_sl (A.map (cz sz b))).length = A.length := by rw [sl_map, List.length_map, List.length_map]
  have h1 := lv_entry (A.map (cz sz b)) (n := nL) (by rw [hl]; exact h)
  refine ⟨h1.1, h1.2.1, by rw [List.length_append, List.length_map, List.length_replicate]; omega, fun i v hi => ?_⟩
  by_cases hlt : i < A.length
  · rw [List.getElem?_append_left (by rw [List.length_map]; exact hlt), List.getElem?_map] at hi
    cases hA : A[i]? with
    | none => rw [hA] at hi; cases hi
    | some u =>
      rw [hA] at hi
      cases hi
      refine ⟨?_, hv _ (List.mem_of_getElem? hA)⟩
      rw [List.getElem?_toArray, List.getElem?_append_left (by rw [hl]; exact hlt), sl_map, List.getElem?_map, List.getElem?_map, hA]
      rfl
  · rw [List.getElem?_append_right (by rw [List.length_map]; omega)] at hi
    rw [List.getElem?_replicate] at hi
    split at hi <;> cases hi

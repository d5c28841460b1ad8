/-! ===== the whole run of the pure machine, and the claim out of it ===== -/
theorem back_some {rk : Nat} {F : List PV → Mem → Res} {g : Option (Option PV × Mem)} {r : Option PV × Mem} (h : g.bind (back rk F) = some r) : ∃ q1 q2, g = some (q1, q2) ∧ F q1.toList q2 = some r := by
  cases g with
  | none => cases h
  | some q =>
    obtain ⟨q1, q2⟩ := q
    exact ⟨q1, q2, rfl, (back_inv h).1⟩
def SimAt (l : Launch) (sz b L : Nat) (xs : Nat → Int32) (D : va_G) (dA : Nat → ClassId) (f : Nat) : Prop := ∀ (m pc : Nat) (ls : List LV) (st : List PV) (M : Mem) (r : Option PV) (M2 : Mem), px f m pc ls st M = some (r, M2) → m ∈ mks ++ [317] → ∀ (p : Program) (e : Env) (R : Room) (s : State) (mm : MethodId) (args : Array Value) (below : List Frame) (meth : Method) (c : Code) (n0 s0 : Nat) (H : Heap) (locs : List Loc) (lsC : Array Slot), Cx sz b L xs D dA m p R s mm args meth c → AO3 s → meth.sig.returnType = mr m → meth.locks = false → Sm sz b L xs D dA m s M H locs lsC ls st → (n0 ≤ mN M ∧ 2 ≤ n0 ∧ s.heap.size = sz + (n0 - 2)) → s0 ≤ mS M → mN M2 - n0 ≤ R.cells → mS M2 - s0 ≤ R.slots →
  W p l e R s mm args below meth c H locs (mN M - n0) (mS M - s0) (MQ below (QW sz b L xs D dA r M2) args s (mN M2 - n0) (mS M2 - s0) (fun q => sz ≤ q)) (F0 mm pc lsC (st.map (cz sz b)))
theorem st_init : ∀ k, k ∈ mks → nd k 6 = 1 → ¬ nd k 3 = 1 := by decide +kernel
theorem mks_317 : ∀ k, k ∈ mks → k ≠ 317 := by decide +kernel
theorem sim_met {l : Launch} {sz b L : Nat} {xs : Nat → Int32} {D : va_G} {dA : Nat → ClassId} {f : Nat} (hb0 : b < sz) (ih : SimAt l sz b L xs D dA f) {k : Nat} (hk : k ∈ mks) {A : List PV} {M : Mem} {r : Option PV} {M2 : Mem} (hA : ∀ v ∈ A, VO v) (hy : A.length = nd k 2) (h : px f k 0 (A.map some ++ List.replicate (nd k 0 - nd k 2) none) [] M = some (r, M2)) : MtP l sz b L xs D dA k A M r M2 := by
  obtain ⟨⟨⟨m1, m2⟩, m3⟩, ⟨⟨⟨m4a, m4b⟩, m5⟩, m6⟩, m7⟩ := LAll.mem okM_all k hk
  obtain ⟨-, -, hle, -⟩ := okT_at (List.mem_append_left _ hk)
  unfold MtP
  refine Met.ofW (cc := byt k) (maxL := nd k 0) (ret := mr k) m4b rfl ?_
  intro p e s mm args below meth c s₁ B hml hv
  obtain ⟨rfl, hR, hK, hAO⟩ := hv
  have hts := atoms_spec (ws := mws k) B.pre
  have hown : s.vm.findClass (Rn (nd k 1)) = some mm.cls := by rw [← m2]; exact findClass_of_methodNamed B.named
  have hz := hR.1.2
  have hz2 := hR.1.1
  have hC : Cx sz b L xs D dA k p (mrm k M M2) s mm (A.map (cz sz b)).toArray meth c :=
    ⟨⟨B.exec, B.bytes, hml, hown, fun w hw => hts w (List.mem_cons_of_mem _ hw)⟩, hK, fun h6 => by
      rcases m3 with ⟨h3, h3b⟩ | ⟨-, -, ⟨-, hn, -⟩ | ⟨h, -⟩⟩
      · exact absurd h6 (fun h6 => st_init k hk h6 h3)
      · exact (name_of_methodNamed B.named B.method).1.trans hn
      · omega, ⟨Nat.le_refl _, Nat.le_refl _⟩, fun e => absurd e (mks_317 k hk), ⟨by omega, hb0⟩, LAll.mem okC_all k (List.mem_append_left _ hk)⟩
  rw [lg_entry_eq]
  have hS : Sm sz b L xs D dA k s M s.heap [] ((lg_sl (A.map (cz sz b)) ++ List.replicate (nd k 0 - (lg_sl (A.map (cz sz b))).length) Slot.unset).toArray) (A.map some ++ List.replicate (nd k 0 - nd k 2) none) [] :=
    ⟨hR, va_S.rf, by rw [← hy]; exact LR.entry (by omega) hA, trivial⟩
  have h1 := ih k 0 _ [] M r M2 h (List.mem_append_left _ hk) p e (mrm k M M2) s mm _ below meth c (mN M) (mS M) s.heap [] _ hC hAO B.returns B.notSynchronized hS ⟨Nat.le_refl _, hz2, by omega⟩ (Nat.le_refl _) (Nat.le_refl _) (Nat.le_refl _)
  rw [Nat.sub_self, Nat.sub_self] at h1
  exact h1
theorem sim_all {l : Launch} {sz b L : Nat} {xs : Nat → Int32} {D : va_G} {dA : Nat → ClassId} (hL3 : L ≤ 100000) (hb0 : b < sz) : ∀ f : Nat, SimAt l sz b L xs D dA f := by
  intro f
  induction f with
  | zero => intro m pc ls st M r M2 h; cases h
  | succ f ih =>
    intro m pc ls st M r M2 h hm p e R s mm args below meth c n0 s0 H locs lsC C hAO hret hlk S hN hs0 hcell hslot
    change Fx (px f) m pc ls st M = some (r, M2) at h
    unfold Fx at h
    obtain ⟨-, ⟨hm1, hm2⟩, -⟩ := okT_at hm
    split at h
    · cases h
    · rename_i q hp
      cases h
      exact sim_ret C hm hret hlk S hp
    · rename_i q hp
      obtain ⟨pc', ls', st', M'⟩ := q
      have h1 : MNle M M' := plan_kind hp
      have h2 : MNle M' M2 := px_le _ _ _ _ _ _ _ _ h
      have h3 := h1.1
      have h4 := h1.2
      have h5 := h2.1
      have h6 := h2.2
      exact sim_step C S hp hN hs0 (by omega) (by omega) ⟨by omega, by omega⟩ hAO hL3 hm1 hm2 fun H' locs' lsC' S' => ih m pc' ls' st' M' r M2 h hm p e R s mm args below meth c n0 s0 H' locs' lsC' C hAO hret hlk S' ⟨by omega, hN.2⟩ (by omega) hcell hslot
    · rename_i k ls0 rk pc' ls' st' M' hp
      obtain ⟨i, n, x, y, z, w, hi, hc⟩ := plan_kind hp
      obtain ⟨q1, q2, h7, h8⟩ := back_some h
      have hall : ∃ c0, calls (pc + n) x y z (nd x 8) c0 ls st M = some (.inr (.inr (k, ls0, rk, pc', ls', st', M'))) := by
        rcases hc with ⟨_, _, _, h1⟩ | ⟨_, _, h1⟩ | ⟨_, _, _, h1⟩ <;> exact ⟨_, h1⟩
      obtain ⟨c0, hcc⟩ := hall
      obtain ⟨e1, e2, e3, -⟩ := calls_inv hcc
      cases e1
      have h1 : MNle M q2 := px_le _ _ _ _ _ _ _ _ h7
      have h2 : MNle q2 M2 := px_le _ _ _ _ _ _ _ _ h8
      have h3 := h1.1
      have h4 := h1.2
      have h5 := h2.1
      have h6 := h2.2
      have hyz : k ∈ mks → y = nd k 2 ∧ z = nd k 0 := fun _ => by
        obtain ⟨-, -, hok⟩ := okC_get C.2.2.2.2.2.2 hi
        rcases hc with ⟨_, rfl, h9, -⟩ | ⟨_, rfl, -⟩ | ⟨_, rfl, h9, -⟩
        · unfold okR at hok
          simp only [Bool.and_eq_true, Bool.or_eq_true] at hok
          rcases hok.2 with o | o
          · exact absurd (Nat.le_of_ble_eq_true o) (by omega)
          · exact ⟨(Nat.eq_of_beq_eq_true o.1.1.1.1.1.1).symm, (Nat.eq_of_beq_eq_true o.1.1.1.1.1.2).symm⟩
        · unfold okR at hok
          simp only [Bool.and_eq_true] at hok
          obtain ⟨o1, o2, ⟨⟨⟨⟨⟨⟨⟨o3, o4⟩, o5⟩, o6⟩, o6a⟩, o7⟩, o8⟩, o9⟩⟩ := hok
          exact ⟨(Nat.eq_of_beq_eq_true o3).symm, (Nat.eq_of_beq_eq_true o4).symm⟩
        · unfold okR at hok
          simp only [Bool.and_eq_true, Bool.or_eq_true] at hok
          obtain ⟨o1, o2⟩ := hok
          rcases o2 with o2 | ⟨⟨⟨⟨⟨⟨⟨⟨o2, o3⟩, o4⟩, o5⟩, o6⟩, o6a⟩, o7⟩, o8⟩, o9⟩
          · exact absurd (Nat.eq_of_beq_eq_true o2) h9
          · exact ⟨(Nat.eq_of_beq_eq_true o3).symm, (Nat.eq_of_beq_eq_true o4).symm⟩
      refine sim_call (r := q1) (M3 := q2) C hAO S hi hc (fun hk => ?_) h1 hN hs0 (by omega) (by omega) fun H' locs' S' => ?_
      · obtain ⟨y1, y2⟩ := hyz hk
        subst y1
        subst y2
        exact sim_met hb0 ih hk (fun v hv => S.2.2.2.mem v (List.mem_of_mem_take (List.mem_reverse.mp hv))) (by rw [List.length_reverse, List.length_take]; omega) h7
      · exact ih m (pc + n) ls (q1.toList ++ st.drop y) q2 r M2 h8 hm p e R s mm args below meth c n0 s0 H' locs' lsC C hAO hret hlk S' ⟨by omega, hN.2⟩ (by omega) hcell hslot

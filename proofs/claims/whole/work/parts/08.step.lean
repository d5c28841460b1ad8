/-! ===== one step of the bytecode is one step of the pure machine ===== -/
noncomputable def WLs : List Cond := lw_tbl.filter goodWord
theorem wls_in {w : Cond} (h : w ∈ lw_tbl) (hg : goodWord w = true) : w ∈ WLs := List.mem_filter.mpr ⟨h, hg⟩
def VO : PV → Prop
  | .inl x => InR x
  | .inr _ => True
def VOs : List PV → Prop
  | [] => True
  | v :: r => VO v ∧ VOs r
def LR (sz b nL : Nat) (lsC : Array Slot) (ls : List LV) : Prop := lsC.size = nL ∧ lv_wf lsC ∧ ls.length = nL ∧ ∀ (i : Nat) (v : PV), ls[i]? = some (some v) → lsC[i]? = some (.val (cz sz b v)) ∧ VO v
def lps (sz b : Nat) : Nat → List LV → List (Nat × Value)
  | _, [] => []
  | i, none :: r => lps sz b (i + 1) r
  | i, some v :: r => (i, cz sz b v) :: lps sz b (i + 1) r
theorem lps_mem {sz b : Nat} : ∀ (ls : List LV) (i j : Nat) (v : PV), ls[j]? = some (some v) → (i + j, cz sz b v) ∈ lps sz b i ls := by
  intro ls
  induction ls with
  | nil => intro i j v h; simp at h
  | cons a r ih =>
    intro i j v h
    cases j with
    | zero =>
      simp at h
      subst h
      exact List.mem_cons_self
    | succ j =>
      have h1 : r[j]? = some (some v) := by simpa using h
      have h2 := ih (i + 1) j v h1
      rw [show i + 1 + j = i + (j + 1) by omega] at h2
      cases a with
      | none => exact h2
      | some u => exact List.mem_cons_of_mem _ h2
theorem lps_of {sz b : Nat} : ∀ (ls : List LV) (i : Nat) (q : Nat × Value), q ∈ lps sz b i ls → ∃ (j : Nat) (v : PV), q = (i + j, cz sz b v) ∧ ls[j]? = some (some v) := by
  intro ls
  induction ls with
  | nil => intro i q h; cases h
  | cons a r ih =>
    intro i q h
    cases a with
    | none =>
      obtain ⟨j, v, h1, h2⟩ := ih (i + 1) q h
      exact ⟨j + 1, v, by rw [h1, show i + 1 + j = i + (j + 1) by omega], by simpa using h2⟩
    | some u =>
      rcases List.mem_cons.mp h with e | h
      · exact ⟨0, u, e, rfl⟩
      · obtain ⟨j, v, h1, h2⟩ := ih (i + 1) q h
        exact ⟨j + 1, v, by rw [h1, show i + 1 + j = i + (j + 1) by omega], by simpa using h2⟩
theorem cz_cat {sz b : Nat} (v : PV) : (cz sz b v).category = 1 := by
  cases v with
  | inl x => rfl
  | inr a =>
    show (va_rf (rf sz b a)).category = 1
    cases rf sz b a <;> rfl
theorem LR.lv {sz b nL : Nat} {lsC : Array Slot} {ls : List LV} (h : LR sz b nL lsC ls) : lv_has lsC nL (lps sz b 0 ls) :=
  ⟨h.1, h.2.1, fun q hq => by
    obtain ⟨j, v, rfl, h2⟩ := lps_of ls 0 q hq
    rw [Nat.zero_add]
    exact (h.2.2.2 j v h2).1⟩
theorem LR.set {sz b nL i : Nat} {lsC lsC' : Array Slot} {ls : List LV} {v : PV} (h : LR sz b nL lsC ls) (hi : i < nL) (hv : VO v) (h' : lv_has lsC' nL ((i, cz sz b v) :: (lps sz b 0 ls).filter (fun q => !(q.1 == i) && !(q.1 + 1 == i && q.2.category == 2)))) : LR sz b nL lsC' (ls.set i (some v)) := by
  refine ⟨h'.1, h'.2.1, by rw [List.length_set]; exact h.2.2.1, fun j u hj => ?_⟩
  rw [List.getElem?_set] at hj
  by_cases e : i = j
  · subst e
    rw [if_pos rfl, if_pos (by rw [h.2.2.1]; exact hi)] at hj
    cases hj
    exact ⟨h'.2.2 _ List.mem_cons_self, hv⟩
  · rw [if_neg e] at hj
    have h1 := lps_mem (sz := sz) (b := b) ls 0 j u hj
    rw [Nat.zero_add] at h1
    refine ⟨h'.2.2 (j, cz sz b u) (List.mem_cons_of_mem _ (List.mem_filter.mpr ⟨h1, ?_⟩)), (h.2.2.2 j u hj).2⟩
    have h2 : ((cz sz b u).category == 2) = false := by rw [cz_cat]; rfl
    have h3 : (j == i) = false := by simp; omega
    simp [h2, h3]
theorem lenOf {n k : Nat} (h : (Nat.beq n k || Nat.beq k 0) = true) (hk : 0 < k) : n = k := by
  rcases Bool.or_eq_true_iff.mp h with h | h
  · exact Nat.eq_of_beq_eq_true h
  · have := Nat.eq_of_beq_eq_true h; omega
theorem okC_get {m pc : Nat} {i : Instr} {n x y z w : Nat} (hC : okC m) (h : ins m pc = some (i, n, x, y, z, w)) : decode (byt m) pc = .ok (i, n) ∧ (Nat.beq n (ilen i) || Nat.beq (ilen i) 0) = true ∧ okR m pc i x y z w = true := by
  have hpc : pc < nd m 7 := by
    unfold ins at h
    cases hb : Nat.blt pc (nd m 7) with
    | true => exact Nat.le_of_ble_eq_true hb
    | false => rw [hb] at h; cases h
  have h1 := hC pc hpc
  rw [h] at h1
  unfold okI at h1
  simp only [Bool.and_eq_true, decide_eq_true_eq] at h1
  exact ⟨h1.1, h1.2.1, h1.2.2⟩
theorem goTo_inj {pc pc' : Nat} {ls ls' : List LV} {st st' : List PV} {M M' : Mem} (h : goTo pc ls st M = some (.inr (.inl (pc', ls', st', M')))) : pc = pc' ∧ ls = ls' ∧ st = st' ∧ M = M' := by
  unfold goTo at h
  cases h
  exact ⟨rfl, rfl, rfl, rfl⟩
/-- what stands around a method's run -/
def Cx (sz b L : Nat) (xs : Nat → Int32) (D : va_G) (dA : Nat → ClassId) (m : Nat) (p : Program) (R : Room) (s : State) (mm : MethodId) (args : Array Value) (meth : Method) (c : Code) : Prop :=
  (p.tables.exec = Jvm.exec ∧ c.code = byt m ∧ c.maxLocals = nd m 0 ∧ s.vm.findClass (Rn (nd m 1)) = some mm.cls ∧ ∀ w ∈ WLs, w.before args s = true) ∧ va_K D vwCl (atys dA) s ∧ (nd m 6 = 1 → meth.name = "<init>") ∧ (nd m 4 ≤ R.frames ∧ nd m 5 ≤ R.locals) ∧ (m = 317 → va_X b L xs s s.heap) ∧ (sz ≤ s.heap.size ∧ b < sz) ∧ okC m
def Sm (sz b L : Nat) (xs : Nat → Int32) (D : va_G) (dA : Nat → ClassId) (m : Nat) (s : State) (M : Mem) (H : Heap) (locs : List Loc) (lsC : Array Slot) (ls : List LV) (st : List PV) : Prop :=
  Rep sz b L xs D dA M H ∧ va_S (fun q => sz ≤ q) s.heap H locs ∧ LR sz b (nd m 0) lsC ls ∧ VOs st
theorem inK_ok {c k x : Nat} (h : inK c k x = true) : Cond.constant (Rn c) k (Int32.ofNat x) ∈ lw_tbl := by
  unfold inK at h
  rw [List.any_eq_true] at h
  obtain ⟨q, hq, h⟩ := h
  simp only [Bool.and_eq_true] at h
  have h1 := LAll.mem knT_ok q hq
  rw [Nat.eq_of_beq_eq_true h.1, Nat.eq_of_beq_eq_true h.2.1, Nat.eq_of_beq_eq_true h.2.2] at h1
  exact h1
theorem oi_inc (v c : Int) : Int32.ofInt v + Int32.ofInt c = Int32.ofInt (wr (v + c)) := oi_add v c
theorem rf_inj {sz b v1 v2 : Nat} (hb : b < sz) (h : rf sz b v1 = rf sz b v2) : v1 = v2 := by
  by_cases h1 : v1 = 0
  · by_cases h2 : v2 = 0
    · omega
    · rw [show rf sz b v1 = none from if_pos h1, show rf sz b v2 = some (ad sz b v2) from if_neg h2] at h
      cases h
  · by_cases h2 : v2 = 0
    · rw [show rf sz b v1 = some (ad sz b v1) from if_neg h1, show rf sz b v2 = none from if_pos h2] at h
      cases h
    · rw [show rf sz b v1 = some (ad sz b v1) from if_neg h1, show rf sz b v2 = some (ad sz b v2) from if_neg h2] at h
      have h := Option.some.inj h
      unfold ad at h
      split at h <;> split at h <;> omega
section STEP
variable {sz b L : Nat} {xs : Nat → Int32} {D : va_G} {dA : Nat → ClassId} {m : Nat} {p : Program} {l : Launch} {e : Env} {R : Room} {s : State} {mm : MethodId} {args : Array Value} {below : List Frame} {meth : Method} {c : Code} {Q : State → Prop}
variable {pc pc' n x y z w n0 s0 : Nat} {ls ls' : List LV} {st st' : List PV} {M M' : Mem} {H : Heap} {locs : List Loc} {lsC : Array Slot}
theorem sp_iadd (C : Cx sz b L xs D dA m p R s mm args meth c) (S : Sm sz b L xs D dA m s M H locs lsC ls st) (hi : ins m pc = some ((.iadd), n, x, y, z, w)) (hp : plan m pc ls st M = some (.inr (.inl (pc', ls', st', M'))))
    (kk : ∀ (H' : Heap) (locs' : List Loc) (lsC' : Array Slot), Sm sz b L xs D dA m s M' H' locs' lsC' ls' st' → W p l e R s mm args below meth c H' locs' (mN M' - n0) (mS M' - s0) Q (F0 mm pc' lsC' (st'.map (cz sz b)))) : W p l e R s mm args below meth c H locs (mN M - n0) (mS M - s0) Q (F0 mm pc lsC (st.map (cz sz b))) := by
  obtain ⟨⟨hx, hb, hml, hown, hts⟩, hK, hin, hRm, hScr, hsz, hC⟩ := id C
  obtain ⟨hR, hS, hL, hV⟩ := id S
  obtain ⟨hd, hlen, hok⟩ := okC_get hC hi
  obtain rfl : n = 1 := lenOf hlen (by decide)
  unfold plan at hp
  rw [hi] at hp
  dsimp only at hp
  split at hp
  · rename_i v2 v1 r
    obtain ⟨rfl, rfl, rfl, rfl⟩ := goTo_inj hp
    obtain ⟨hv2, hv1, hV⟩ := hV
    refine lv_iadd hx hb hd ?_
    rw [oi_add]
    exact kk H locs lsC ⟨hR, hS, hL, wr_inR _, hV⟩
  · cases hp

theorem sp_isub (C : Cx sz b L xs D dA m p R s mm args meth c) (S : Sm sz b L xs D dA m s M H locs lsC ls st) (hi : ins m pc = some ((.isub), n, x, y, z, w)) (hp : plan m pc ls st M = some (.inr (.inl (pc', ls', st', M'))))
    (kk : ∀ (H' : Heap) (locs' : List Loc) (lsC' : Array Slot), Sm sz b L xs D dA m s M' H' locs' lsC' ls' st' → W p l e R s mm args below meth c H' locs' (mN M' - n0) (mS M' - s0) Q (F0 mm pc' lsC' (st'.map (cz sz b)))) : W p l e R s mm args below meth c H locs (mN M - n0) (mS M - s0) Q (F0 mm pc lsC (st.map (cz sz b))) := by
  obtain ⟨⟨hx, hb, hml, hown, hts⟩, hK, hin, hRm, hScr, hsz, hC⟩ := id C
  obtain ⟨hR, hS, hL, hV⟩ := id S
  obtain ⟨hd, hlen, hok⟩ := okC_get hC hi
  obtain rfl : n = 1 := lenOf hlen (by decide)
  unfold plan at hp
  rw [hi] at hp
  dsimp only at hp
  split at hp
  · rename_i v2 v1 r
    obtain ⟨rfl, rfl, rfl, rfl⟩ := goTo_inj hp
    obtain ⟨hv2, hv1, hV⟩ := hV
    refine lv_isub hx hb hd ?_
    rw [oi_sub]
    exact kk H locs lsC ⟨hR, hS, hL, wr_inR _, hV⟩
  · cases hp

theorem sp_imul (C : Cx sz b L xs D dA m p R s mm args meth c) (S : Sm sz b L xs D dA m s M H locs lsC ls st) (hi : ins m pc = some ((.imul), n, x, y, z, w)) (hp : plan m pc ls st M = some (.inr (.inl (pc', ls', st', M'))))
    (kk : ∀ (H' : Heap) (locs' : List Loc) (lsC' : Array Slot), Sm sz b L xs D dA m s M' H' locs' lsC' ls' st' → W p l e R s mm args below meth c H' locs' (mN M' - n0) (mS M' - s0) Q (F0 mm pc' lsC' (st'.map (cz sz b)))) : W p l e R s mm args below meth c H locs (mN M - n0) (mS M - s0) Q (F0 mm pc lsC (st.map (cz sz b))) := by
  obtain ⟨⟨hx, hb, hml, hown, hts⟩, hK, hin, hRm, hScr, hsz, hC⟩ := id C
  obtain ⟨hR, hS, hL, hV⟩ := id S
  obtain ⟨hd, hlen, hok⟩ := okC_get hC hi
  obtain rfl : n = 1 := lenOf hlen (by decide)
  unfold plan at hp
  rw [hi] at hp
  dsimp only at hp
  split at hp
  · rename_i v2 v1 r
    obtain ⟨rfl, rfl, rfl, rfl⟩ := goTo_inj hp
    obtain ⟨hv2, hv1, hV⟩ := hV
    refine lv_imul hx hb hd ?_
    rw [oi_mul]
    exact kk H locs lsC ⟨hR, hS, hL, wr_inR _, hV⟩
  · cases hp

theorem sp_iand (C : Cx sz b L xs D dA m p R s mm args meth c) (S : Sm sz b L xs D dA m s M H locs lsC ls st) (hi : ins m pc = some ((.iand), n, x, y, z, w)) (hp : plan m pc ls st M = some (.inr (.inl (pc', ls', st', M'))))
    (kk : ∀ (H' : Heap) (locs' : List Loc) (lsC' : Array Slot), Sm sz b L xs D dA m s M' H' locs' lsC' ls' st' → W p l e R s mm args below meth c H' locs' (mN M' - n0) (mS M' - s0) Q (F0 mm pc' lsC' (st'.map (cz sz b)))) : W p l e R s mm args below meth c H locs (mN M - n0) (mS M - s0) Q (F0 mm pc lsC (st.map (cz sz b))) := by
  obtain ⟨⟨hx, hb, hml, hown, hts⟩, hK, hin, hRm, hScr, hsz, hC⟩ := id C
  obtain ⟨hR, hS, hL, hV⟩ := id S
  obtain ⟨hd, hlen, hok⟩ := okC_get hC hi
  obtain rfl : n = 1 := lenOf hlen (by decide)
  unfold plan at hp
  rw [hi] at hp
  dsimp only at hp
  split at hp
  · rename_i v2 v1 r
    obtain ⟨rfl, rfl, rfl, rfl⟩ := goTo_inj hp
    obtain ⟨hv2, hv1, hV⟩ := hV
    refine lv_iand hx hb hd ?_
    rw [show (Int32.ofInt v1 &&& Int32.ofInt v2) = Int32.ofInt (pand v1 v2) from (oi_back _).symm]
    exact kk H locs lsC ⟨hR, hS, hL, inR_toInt _, hV⟩
  · cases hp

theorem sp_ior (C : Cx sz b L xs D dA m p R s mm args meth c) (S : Sm sz b L xs D dA m s M H locs lsC ls st) (hi : ins m pc = some ((.ior), n, x, y, z, w)) (hp : plan m pc ls st M = some (.inr (.inl (pc', ls', st', M'))))
    (kk : ∀ (H' : Heap) (locs' : List Loc) (lsC' : Array Slot), Sm sz b L xs D dA m s M' H' locs' lsC' ls' st' → W p l e R s mm args below meth c H' locs' (mN M' - n0) (mS M' - s0) Q (F0 mm pc' lsC' (st'.map (cz sz b)))) : W p l e R s mm args below meth c H locs (mN M - n0) (mS M - s0) Q (F0 mm pc lsC (st.map (cz sz b))) := by
  obtain ⟨⟨hx, hb, hml, hown, hts⟩, hK, hin, hRm, hScr, hsz, hC⟩ := id C
  obtain ⟨hR, hS, hL, hV⟩ := id S
  obtain ⟨hd, hlen, hok⟩ := okC_get hC hi
  obtain rfl : n = 1 := lenOf hlen (by decide)
  unfold plan at hp
  rw [hi] at hp
  dsimp only at hp
  split at hp
  · rename_i v2 v1 r
    obtain ⟨rfl, rfl, rfl, rfl⟩ := goTo_inj hp
    obtain ⟨hv2, hv1, hV⟩ := hV
    refine lv_ior hx hb hd ?_
    rw [show (Int32.ofInt v1 ||| Int32.ofInt v2) = Int32.ofInt (por v1 v2) from (oi_back _).symm]
    exact kk H locs lsC ⟨hR, hS, hL, inR_toInt _, hV⟩
  · cases hp

theorem sp_ishl (C : Cx sz b L xs D dA m p R s mm args meth c) (S : Sm sz b L xs D dA m s M H locs lsC ls st) (hi : ins m pc = some ((.ishl), n, x, y, z, w)) (hp : plan m pc ls st M = some (.inr (.inl (pc', ls', st', M'))))
    (kk : ∀ (H' : Heap) (locs' : List Loc) (lsC' : Array Slot), Sm sz b L xs D dA m s M' H' locs' lsC' ls' st' → W p l e R s mm args below meth c H' locs' (mN M' - n0) (mS M' - s0) Q (F0 mm pc' lsC' (st'.map (cz sz b)))) : W p l e R s mm args below meth c H locs (mN M - n0) (mS M - s0) Q (F0 mm pc lsC (st.map (cz sz b))) := by
  obtain ⟨⟨hx, hb, hml, hown, hts⟩, hK, hin, hRm, hScr, hsz, hC⟩ := id C
  obtain ⟨hR, hS, hL, hV⟩ := id S
  obtain ⟨hd, hlen, hok⟩ := okC_get hC hi
  obtain rfl : n = 1 := lenOf hlen (by decide)
  unfold plan at hp
  rw [hi] at hp
  dsimp only at hp
  split at hp
  · rename_i v2 v1 r
    obtain ⟨rfl, rfl, rfl, rfl⟩ := goTo_inj hp
    obtain ⟨hv2, hv1, hV⟩ := hV
    refine lv_ishl hx hb hd ?_
    rw [show (Int32.ofInt v1 <<< (Int32.ofInt v2 &&& 31)) = Int32.ofInt (pshl v1 v2) from (oi_back _).symm]
    exact kk H locs lsC ⟨hR, hS, hL, inR_toInt _, hV⟩
  · cases hp

theorem sp_ishr (C : Cx sz b L xs D dA m p R s mm args meth c) (S : Sm sz b L xs D dA m s M H locs lsC ls st) (hi : ins m pc = some ((.ishr), n, x, y, z, w)) (hp : plan m pc ls st M = some (.inr (.inl (pc', ls', st', M'))))
    (kk : ∀ (H' : Heap) (locs' : List Loc) (lsC' : Array Slot), Sm sz b L xs D dA m s M' H' locs' lsC' ls' st' → W p l e R s mm args below meth c H' locs' (mN M' - n0) (mS M' - s0) Q (F0 mm pc' lsC' (st'.map (cz sz b)))) : W p l e R s mm args below meth c H locs (mN M - n0) (mS M - s0) Q (F0 mm pc lsC (st.map (cz sz b))) := by
  obtain ⟨⟨hx, hb, hml, hown, hts⟩, hK, hin, hRm, hScr, hsz, hC⟩ := id C
  obtain ⟨hR, hS, hL, hV⟩ := id S
  obtain ⟨hd, hlen, hok⟩ := okC_get hC hi
  obtain rfl : n = 1 := lenOf hlen (by decide)
  unfold plan at hp
  rw [hi] at hp
  dsimp only at hp
  split at hp
  · rename_i v2 v1 r
    obtain ⟨rfl, rfl, rfl, rfl⟩ := goTo_inj hp
    obtain ⟨hv2, hv1, hV⟩ := hV
    refine lv_ishr hx hb hd ?_
    rw [show (Int32.ofInt v1 >>> (Int32.ofInt v2 &&& 31)) = Int32.ofInt (pshr v1 v2) from (oi_back _).symm]
    exact kk H locs lsC ⟨hR, hS, hL, inR_toInt _, hV⟩
  · cases hp

theorem sp_idiv (C : Cx sz b L xs D dA m p R s mm args meth c) (S : Sm sz b L xs D dA m s M H locs lsC ls st) (hi : ins m pc = some ((.idiv), n, x, y, z, w)) (hp : plan m pc ls st M = some (.inr (.inl (pc', ls', st', M'))))
    (kk : ∀ (H' : Heap) (locs' : List Loc) (lsC' : Array Slot), Sm sz b L xs D dA m s M' H' locs' lsC' ls' st' → W p l e R s mm args below meth c H' locs' (mN M' - n0) (mS M' - s0) Q (F0 mm pc' lsC' (st'.map (cz sz b)))) : W p l e R s mm args below meth c H locs (mN M - n0) (mS M - s0) Q (F0 mm pc lsC (st.map (cz sz b))) := by
  obtain ⟨⟨hx, hb, hml, hown, hts⟩, hK, hin, hRm, hScr, hsz, hC⟩ := id C
  obtain ⟨hR, hS, hL, hV⟩ := id S
  obtain ⟨hd, hlen, hok⟩ := okC_get hC hi
  obtain rfl : n = 1 := lenOf hlen (by decide)
  unfold plan at hp
  rw [hi] at hp
  dsimp only at hp
  split at hp
  · rename_i v2 v1 r
    split at hp
    · cases hp
    · rename_i h0
      obtain ⟨rfl, rfl, rfl, rfl⟩ := goTo_inj hp
      obtain ⟨hv2, hv1, hV⟩ := hV
      refine lv_idiv hx hb hd (fun q => h0 ((oi_eq hv2 inR_0).mp q)) ?_
      rw [show (Int32.ofInt v1 / Int32.ofInt v2) = Int32.ofInt (pdiv v1 v2) from (oi_back _).symm]
      exact kk H locs lsC ⟨hR, hS, hL, inR_toInt _, hV⟩
  · cases hp

theorem sp_irem (C : Cx sz b L xs D dA m p R s mm args meth c) (S : Sm sz b L xs D dA m s M H locs lsC ls st) (hi : ins m pc = some ((.irem), n, x, y, z, w)) (hp : plan m pc ls st M = some (.inr (.inl (pc', ls', st', M'))))
    (kk : ∀ (H' : Heap) (locs' : List Loc) (lsC' : Array Slot), Sm sz b L xs D dA m s M' H' locs' lsC' ls' st' → W p l e R s mm args below meth c H' locs' (mN M' - n0) (mS M' - s0) Q (F0 mm pc' lsC' (st'.map (cz sz b)))) : W p l e R s mm args below meth c H locs (mN M - n0) (mS M - s0) Q (F0 mm pc lsC (st.map (cz sz b))) := by
  obtain ⟨⟨hx, hb, hml, hown, hts⟩, hK, hin, hRm, hScr, hsz, hC⟩ := id C
  obtain ⟨hR, hS, hL, hV⟩ := id S
  obtain ⟨hd, hlen, hok⟩ := okC_get hC hi
  obtain rfl : n = 1 := lenOf hlen (by decide)
  unfold plan at hp
  rw [hi] at hp
  dsimp only at hp
  split at hp
  · rename_i v2 v1 r
    split at hp
    · cases hp
    · rename_i h0
      obtain ⟨rfl, rfl, rfl, rfl⟩ := goTo_inj hp
      obtain ⟨hv2, hv1, hV⟩ := hV
      refine lv_irem hx hb hd (fun q => h0 ((oi_eq hv2 inR_0).mp q)) ?_
      rw [show (Int32.ofInt v1 - Int32.ofInt v1 / Int32.ofInt v2 * Int32.ofInt v2) = Int32.ofInt (prem v1 v2) from (oi_back _).symm]
      exact kk H locs lsC ⟨hR, hS, hL, inR_toInt _, hV⟩
  · cases hp

theorem sp_i2b (C : Cx sz b L xs D dA m p R s mm args meth c) (S : Sm sz b L xs D dA m s M H locs lsC ls st) (hi : ins m pc = some ((.i2b), n, x, y, z, w)) (hp : plan m pc ls st M = some (.inr (.inl (pc', ls', st', M'))))
    (kk : ∀ (H' : Heap) (locs' : List Loc) (lsC' : Array Slot), Sm sz b L xs D dA m s M' H' locs' lsC' ls' st' → W p l e R s mm args below meth c H' locs' (mN M' - n0) (mS M' - s0) Q (F0 mm pc' lsC' (st'.map (cz sz b)))) : W p l e R s mm args below meth c H locs (mN M - n0) (mS M - s0) Q (F0 mm pc lsC (st.map (cz sz b))) := by
  obtain ⟨⟨hx, hb, hml, hown, hts⟩, hK, hin, hRm, hScr, hsz, hC⟩ := id C
  obtain ⟨hR, hS, hL, hV⟩ := id S
  obtain ⟨hd, hlen, hok⟩ := okC_get hC hi
  obtain rfl : n = 1 := lenOf hlen (by decide)
  unfold plan at hp
  rw [hi] at hp
  dsimp only at hp
  split at hp
  · rename_i v1 r
    obtain ⟨rfl, rfl, rfl, rfl⟩ := goTo_inj hp
    obtain ⟨hv1, hV⟩ := hV
    refine lv_i2b hx hb hd (oi_byte v1) ?_
    exact kk H locs lsC ⟨hR, hS, hL, wb_inR _, hV⟩
  · cases hp

theorem sp_iconst {k : Int} (C : Cx sz b L xs D dA m p R s mm args meth c) (S : Sm sz b L xs D dA m s M H locs lsC ls st) (hi : ins m pc = some ((.iconst k), n, x, y, z, w)) (hp : plan m pc ls st M = some (.inr (.inl (pc', ls', st', M'))))
    (kk : ∀ (H' : Heap) (locs' : List Loc) (lsC' : Array Slot), Sm sz b L xs D dA m s M' H' locs' lsC' ls' st' → W p l e R s mm args below meth c H' locs' (mN M' - n0) (mS M' - s0) Q (F0 mm pc' lsC' (st'.map (cz sz b)))) : W p l e R s mm args below meth c H locs (mN M - n0) (mS M - s0) Q (F0 mm pc lsC (st.map (cz sz b))) := by
  obtain ⟨⟨hx, hb, hml, hown, hts⟩, hK, hin, hRm, hScr, hsz, hC⟩ := id C
  obtain ⟨hR, hS, hL, hV⟩ := id S
  obtain ⟨hd, hlen, hok⟩ := okC_get hC hi
  obtain rfl : n = 1 := lenOf hlen (by decide)
  unfold plan at hp
  rw [hi] at hp
  dsimp only at hp
  obtain ⟨rfl, rfl, rfl, rfl⟩ := goTo_inj hp
  have hk : InR k := by have h := of_decide_eq_true hok; unfold InR; omega
  refine lv_iconst hx hb hd rfl ?_
  exact kk H locs lsC ⟨hR, hS, hL, hk, hV⟩

theorem sp_bipush {k : Int} (C : Cx sz b L xs D dA m p R s mm args meth c) (S : Sm sz b L xs D dA m s M H locs lsC ls st) (hi : ins m pc = some ((.bipush k), n, x, y, z, w)) (hp : plan m pc ls st M = some (.inr (.inl (pc', ls', st', M'))))
    (kk : ∀ (H' : Heap) (locs' : List Loc) (lsC' : Array Slot), Sm sz b L xs D dA m s M' H' locs' lsC' ls' st' → W p l e R s mm args below meth c H' locs' (mN M' - n0) (mS M' - s0) Q (F0 mm pc' lsC' (st'.map (cz sz b)))) : W p l e R s mm args below meth c H locs (mN M - n0) (mS M - s0) Q (F0 mm pc lsC (st.map (cz sz b))) := by
  obtain ⟨⟨hx, hb, hml, hown, hts⟩, hK, hin, hRm, hScr, hsz, hC⟩ := id C
  obtain ⟨hR, hS, hL, hV⟩ := id S
  obtain ⟨hd, hlen, hok⟩ := okC_get hC hi
  obtain rfl : n = 2 := lenOf hlen (by decide)
  unfold plan at hp
  rw [hi] at hp
  dsimp only at hp
  obtain ⟨rfl, rfl, rfl, rfl⟩ := goTo_inj hp
  have hk : InR k := by have h := of_decide_eq_true hok; unfold InR; omega
  refine lv_bipush hx hb hd (oi_bi k (of_decide_eq_true hok)) ?_
  exact kk H locs lsC ⟨hR, hS, hL, hk, hV⟩

theorem sp_sipush {k : Int} (C : Cx sz b L xs D dA m p R s mm args meth c) (S : Sm sz b L xs D dA m s M H locs lsC ls st) (hi : ins m pc = some ((.sipush k), n, x, y, z, w)) (hp : plan m pc ls st M = some (.inr (.inl (pc', ls', st', M'))))
    (kk : ∀ (H' : Heap) (locs' : List Loc) (lsC' : Array Slot), Sm sz b L xs D dA m s M' H' locs' lsC' ls' st' → W p l e R s mm args below meth c H' locs' (mN M' - n0) (mS M' - s0) Q (F0 mm pc' lsC' (st'.map (cz sz b)))) : W p l e R s mm args below meth c H locs (mN M - n0) (mS M - s0) Q (F0 mm pc lsC (st.map (cz sz b))) := by
  obtain ⟨⟨hx, hb, hml, hown, hts⟩, hK, hin, hRm, hScr, hsz, hC⟩ := id C
  obtain ⟨hR, hS, hL, hV⟩ := id S
  obtain ⟨hd, hlen, hok⟩ := okC_get hC hi
  obtain rfl : n = 3 := lenOf hlen (by decide)
  unfold plan at hp
  rw [hi] at hp
  dsimp only at hp
  obtain ⟨rfl, rfl, rfl, rfl⟩ := goTo_inj hp
  have hk : InR k := by have h := of_decide_eq_true hok; unfold InR; omega
  refine lv_sipush hx hb hd (oi_si k (of_decide_eq_true hok)) ?_
  exact kk H locs lsC ⟨hR, hS, hL, hk, hV⟩

theorem sp_ldc {k : Nat} (C : Cx sz b L xs D dA m p R s mm args meth c) (S : Sm sz b L xs D dA m s M H locs lsC ls st) (hi : ins m pc = some ((.ldc k), n, x, y, z, w)) (hp : plan m pc ls st M = some (.inr (.inl (pc', ls', st', M'))))
    (kk : ∀ (H' : Heap) (locs' : List Loc) (lsC' : Array Slot), Sm sz b L xs D dA m s M' H' locs' lsC' ls' st' → W p l e R s mm args below meth c H' locs' (mN M' - n0) (mS M' - s0) Q (F0 mm pc' lsC' (st'.map (cz sz b)))) : W p l e R s mm args below meth c H locs (mN M - n0) (mS M - s0) Q (F0 mm pc lsC (st.map (cz sz b))) := by
  obtain ⟨⟨hx, hb, hml, hown, hts⟩, hK, hin, hRm, hScr, hsz, hC⟩ := id C
  obtain ⟨hR, hS, hL, hV⟩ := id S
  obtain ⟨hd, hlen, hok⟩ := okC_get hC hi
  obtain rfl : n = 2 := lenOf hlen (by decide)
  unfold plan at hp
  rw [hi] at hp
  dsimp only at hp
  obtain ⟨rfl, rfl, rfl, rfl⟩ := goTo_inj hp
  unfold okR at hok
  simp only [Bool.and_eq_true] at hok
  obtain ⟨h1, h2⟩ := hok
  have h2 : x < 2147483648 := Nat.le_of_ble_eq_true h2
  have hk : InR (x : Int) := by unfold InR; omega
  have hc : Cond.constant (Rn (nd m 1)) k (Int32.ofNat x) ∈ WLs := wls_in (inK_ok h1) rfl
  refine lv_ldc hx hb hown (hts _ hc) hd ?_
  exact kk H locs lsC ⟨hR, hS, hL, hk, hV⟩

theorem sp_ldc_w {k : Nat} (C : Cx sz b L xs D dA m p R s mm args meth c) (S : Sm sz b L xs D dA m s M H locs lsC ls st) (hi : ins m pc = some ((.ldc_w k), n, x, y, z, w)) (hp : plan m pc ls st M = some (.inr (.inl (pc', ls', st', M'))))
    (kk : ∀ (H' : Heap) (locs' : List Loc) (lsC' : Array Slot), Sm sz b L xs D dA m s M' H' locs' lsC' ls' st' → W p l e R s mm args below meth c H' locs' (mN M' - n0) (mS M' - s0) Q (F0 mm pc' lsC' (st'.map (cz sz b)))) : W p l e R s mm args below meth c H locs (mN M - n0) (mS M - s0) Q (F0 mm pc lsC (st.map (cz sz b))) := by
  obtain ⟨⟨hx, hb, hml, hown, hts⟩, hK, hin, hRm, hScr, hsz, hC⟩ := id C
  obtain ⟨hR, hS, hL, hV⟩ := id S
  obtain ⟨hd, hlen, hok⟩ := okC_get hC hi
  obtain rfl : n = 3 := lenOf hlen (by decide)
  unfold plan at hp
  rw [hi] at hp
  dsimp only at hp
  obtain ⟨rfl, rfl, rfl, rfl⟩ := goTo_inj hp
  unfold okR at hok
  simp only [Bool.and_eq_true] at hok
  obtain ⟨h1, h2⟩ := hok
  have h2 : x < 2147483648 := Nat.le_of_ble_eq_true h2
  have hk : InR (x : Int) := by unfold InR; omega
  have hc : Cond.constant (Rn (nd m 1)) k (Int32.ofNat x) ∈ WLs := wls_in (inK_ok h1) rfl
  refine lv_ldcw hx hb hown (hts _ hc) hd ?_
  exact kk H locs lsC ⟨hR, hS, hL, hk, hV⟩

theorem sp_aconst_null (C : Cx sz b L xs D dA m p R s mm args meth c) (S : Sm sz b L xs D dA m s M H locs lsC ls st) (hi : ins m pc = some ((.aconst_null), n, x, y, z, w)) (hp : plan m pc ls st M = some (.inr (.inl (pc', ls', st', M'))))
    (kk : ∀ (H' : Heap) (locs' : List Loc) (lsC' : Array Slot), Sm sz b L xs D dA m s M' H' locs' lsC' ls' st' → W p l e R s mm args below meth c H' locs' (mN M' - n0) (mS M' - s0) Q (F0 mm pc' lsC' (st'.map (cz sz b)))) : W p l e R s mm args below meth c H locs (mN M - n0) (mS M - s0) Q (F0 mm pc lsC (st.map (cz sz b))) := by
  obtain ⟨⟨hx, hb, hml, hown, hts⟩, hK, hin, hRm, hScr, hsz, hC⟩ := id C
  obtain ⟨hR, hS, hL, hV⟩ := id S
  obtain ⟨hd, hlen, hok⟩ := okC_get hC hi
  obtain rfl : n = 1 := lenOf hlen (by decide)
  unfold plan at hp
  rw [hi] at hp
  dsimp only at hp
  obtain ⟨rfl, rfl, rfl, rfl⟩ := goTo_inj hp
  exact lv_null hx hb hd (kk H locs lsC ⟨hR, hS, hL, trivial, hV⟩)

theorem sp_dup (C : Cx sz b L xs D dA m p R s mm args meth c) (S : Sm sz b L xs D dA m s M H locs lsC ls st) (hi : ins m pc = some ((.dup), n, x, y, z, w)) (hp : plan m pc ls st M = some (.inr (.inl (pc', ls', st', M'))))
    (kk : ∀ (H' : Heap) (locs' : List Loc) (lsC' : Array Slot), Sm sz b L xs D dA m s M' H' locs' lsC' ls' st' → W p l e R s mm args below meth c H' locs' (mN M' - n0) (mS M' - s0) Q (F0 mm pc' lsC' (st'.map (cz sz b)))) : W p l e R s mm args below meth c H locs (mN M - n0) (mS M - s0) Q (F0 mm pc lsC (st.map (cz sz b))) := by
  obtain ⟨⟨hx, hb, hml, hown, hts⟩, hK, hin, hRm, hScr, hsz, hC⟩ := id C
  obtain ⟨hR, hS, hL, hV⟩ := id S
  obtain ⟨hd, hlen, hok⟩ := okC_get hC hi
  obtain rfl : n = 1 := lenOf hlen (by decide)
  unfold plan at hp
  rw [hi] at hp
  dsimp only at hp
  split at hp
  · rename_i v r
    obtain ⟨rfl, rfl, rfl, rfl⟩ := goTo_inj hp
    exact lv_dup hx hb hd (cz_cat v) (kk H locs lsC ⟨hR, hS, hL, hV.1, hV⟩)
  · cases hp

theorem sp_dup2 (C : Cx sz b L xs D dA m p R s mm args meth c) (S : Sm sz b L xs D dA m s M H locs lsC ls st) (hi : ins m pc = some ((.dup2), n, x, y, z, w)) (hp : plan m pc ls st M = some (.inr (.inl (pc', ls', st', M'))))
    (kk : ∀ (H' : Heap) (locs' : List Loc) (lsC' : Array Slot), Sm sz b L xs D dA m s M' H' locs' lsC' ls' st' → W p l e R s mm args below meth c H' locs' (mN M' - n0) (mS M' - s0) Q (F0 mm pc' lsC' (st'.map (cz sz b)))) : W p l e R s mm args below meth c H locs (mN M - n0) (mS M - s0) Q (F0 mm pc lsC (st.map (cz sz b))) := by
  obtain ⟨⟨hx, hb, hml, hown, hts⟩, hK, hin, hRm, hScr, hsz, hC⟩ := id C
  obtain ⟨hR, hS, hL, hV⟩ := id S
  obtain ⟨hd, hlen, hok⟩ := okC_get hC hi
  obtain rfl : n = 1 := lenOf hlen (by decide)
  unfold plan at hp
  rw [hi] at hp
  dsimp only at hp
  split at hp
  · rename_i v u r
    obtain ⟨rfl, rfl, rfl, rfl⟩ := goTo_inj hp
    exact lv_dup2_11 hx hb hd (cz_cat v) (cz_cat u) (kk H locs lsC ⟨hR, hS, hL, hV.1, hV.2.1, hV⟩)
  · cases hp

theorem sp_pop (C : Cx sz b L xs D dA m p R s mm args meth c) (S : Sm sz b L xs D dA m s M H locs lsC ls st) (hi : ins m pc = some ((.pop), n, x, y, z, w)) (hp : plan m pc ls st M = some (.inr (.inl (pc', ls', st', M'))))
    (kk : ∀ (H' : Heap) (locs' : List Loc) (lsC' : Array Slot), Sm sz b L xs D dA m s M' H' locs' lsC' ls' st' → W p l e R s mm args below meth c H' locs' (mN M' - n0) (mS M' - s0) Q (F0 mm pc' lsC' (st'.map (cz sz b)))) : W p l e R s mm args below meth c H locs (mN M - n0) (mS M - s0) Q (F0 mm pc lsC (st.map (cz sz b))) := by
  obtain ⟨⟨hx, hb, hml, hown, hts⟩, hK, hin, hRm, hScr, hsz, hC⟩ := id C
  obtain ⟨hR, hS, hL, hV⟩ := id S
  obtain ⟨hd, hlen, hok⟩ := okC_get hC hi
  obtain rfl : n = 1 := lenOf hlen (by decide)
  unfold plan at hp
  rw [hi] at hp
  dsimp only at hp
  split at hp
  · rename_i v r
    obtain ⟨rfl, rfl, rfl, rfl⟩ := goTo_inj hp
    exact lv_pop hx hb hd (cz_cat v) (kk H locs lsC ⟨hR, hS, hL, hV.2⟩)
  · cases hp

theorem sp_iload_n {k : Fin 4} (C : Cx sz b L xs D dA m p R s mm args meth c) (S : Sm sz b L xs D dA m s M H locs lsC ls st) (hi : ins m pc = some ((.iload_n k), n, x, y, z, w)) (hp : plan m pc ls st M = some (.inr (.inl (pc', ls', st', M'))))
    (kk : ∀ (H' : Heap) (locs' : List Loc) (lsC' : Array Slot), Sm sz b L xs D dA m s M' H' locs' lsC' ls' st' → W p l e R s mm args below meth c H' locs' (mN M' - n0) (mS M' - s0) Q (F0 mm pc' lsC' (st'.map (cz sz b)))) : W p l e R s mm args below meth c H locs (mN M - n0) (mS M - s0) Q (F0 mm pc lsC (st.map (cz sz b))) := by
  obtain ⟨⟨hx, hb, hml, hown, hts⟩, hK, hin, hRm, hScr, hsz, hC⟩ := id C
  obtain ⟨hR, hS, hL, hV⟩ := id S
  obtain ⟨hd, hlen, hok⟩ := okC_get hC hi
  obtain rfl : n = 1 := lenOf hlen (by decide)
  unfold plan at hp
  rw [hi] at hp
  dsimp only at hp
  split at hp
  · rename_i v hv
    obtain ⟨rfl, rfl, rfl, rfl⟩ := goTo_inj hp
    have h1 := hL.2.2.2 _ _ hv
    exact lv_iload_n hx hb hd rfl h1.1 (kk H locs lsC ⟨hR, hS, hL, h1.2, hV⟩)
  · cases hp

theorem sp_iload {k : Nat} (C : Cx sz b L xs D dA m p R s mm args meth c) (S : Sm sz b L xs D dA m s M H locs lsC ls st) (hi : ins m pc = some ((.iload k), n, x, y, z, w)) (hp : plan m pc ls st M = some (.inr (.inl (pc', ls', st', M'))))
    (kk : ∀ (H' : Heap) (locs' : List Loc) (lsC' : Array Slot), Sm sz b L xs D dA m s M' H' locs' lsC' ls' st' → W p l e R s mm args below meth c H' locs' (mN M' - n0) (mS M' - s0) Q (F0 mm pc' lsC' (st'.map (cz sz b)))) : W p l e R s mm args below meth c H locs (mN M - n0) (mS M - s0) Q (F0 mm pc lsC (st.map (cz sz b))) := by
  obtain ⟨⟨hx, hb, hml, hown, hts⟩, hK, hin, hRm, hScr, hsz, hC⟩ := id C
  obtain ⟨hR, hS, hL, hV⟩ := id S
  obtain ⟨hd, hlen, hok⟩ := okC_get hC hi
  obtain rfl : n = 2 := lenOf hlen (by decide)
  unfold plan at hp
  rw [hi] at hp
  dsimp only at hp
  split at hp
  · rename_i v hv
    obtain ⟨rfl, rfl, rfl, rfl⟩ := goTo_inj hp
    have h1 := hL.2.2.2 _ _ hv
    exact lv_iload hx hb hd h1.1 (kk H locs lsC ⟨hR, hS, hL, h1.2, hV⟩)
  · cases hp

theorem sp_aload_n {k : Fin 4} (C : Cx sz b L xs D dA m p R s mm args meth c) (S : Sm sz b L xs D dA m s M H locs lsC ls st) (hi : ins m pc = some ((.aload_n k), n, x, y, z, w)) (hp : plan m pc ls st M = some (.inr (.inl (pc', ls', st', M'))))
    (kk : ∀ (H' : Heap) (locs' : List Loc) (lsC' : Array Slot), Sm sz b L xs D dA m s M' H' locs' lsC' ls' st' → W p l e R s mm args below meth c H' locs' (mN M' - n0) (mS M' - s0) Q (F0 mm pc' lsC' (st'.map (cz sz b)))) : W p l e R s mm args below meth c H locs (mN M - n0) (mS M - s0) Q (F0 mm pc lsC (st.map (cz sz b))) := by
  obtain ⟨⟨hx, hb, hml, hown, hts⟩, hK, hin, hRm, hScr, hsz, hC⟩ := id C
  obtain ⟨hR, hS, hL, hV⟩ := id S
  obtain ⟨hd, hlen, hok⟩ := okC_get hC hi
  obtain rfl : n = 1 := lenOf hlen (by decide)
  unfold plan at hp
  rw [hi] at hp
  dsimp only at hp
  split at hp
  · rename_i v hv
    obtain ⟨rfl, rfl, rfl, rfl⟩ := goTo_inj hp
    have h1 := hL.2.2.2 _ _ hv
    have h2 := kk H locs lsC ⟨hR, hS, hL, h1.2, hV⟩
    have h3 := h1.1
    rw [List.map_cons] at h2
    unfold cz at h2 h3
    dsimp only at h2 h3
    cases hr : rf sz b v with
    | none => rw [hr] at h2 h3; exact lv_aload_nN hx hb hd rfl h3 h2
    | some q => rw [hr] at h2 h3; exact lv_aload_n hx hb hd rfl h3 h2
  · cases hp

theorem sp_aload {k : Nat} (C : Cx sz b L xs D dA m p R s mm args meth c) (S : Sm sz b L xs D dA m s M H locs lsC ls st) (hi : ins m pc = some ((.aload k), n, x, y, z, w)) (hp : plan m pc ls st M = some (.inr (.inl (pc', ls', st', M'))))
    (kk : ∀ (H' : Heap) (locs' : List Loc) (lsC' : Array Slot), Sm sz b L xs D dA m s M' H' locs' lsC' ls' st' → W p l e R s mm args below meth c H' locs' (mN M' - n0) (mS M' - s0) Q (F0 mm pc' lsC' (st'.map (cz sz b)))) : W p l e R s mm args below meth c H locs (mN M - n0) (mS M - s0) Q (F0 mm pc lsC (st.map (cz sz b))) := by
  obtain ⟨⟨hx, hb, hml, hown, hts⟩, hK, hin, hRm, hScr, hsz, hC⟩ := id C
  obtain ⟨hR, hS, hL, hV⟩ := id S
  obtain ⟨hd, hlen, hok⟩ := okC_get hC hi
  obtain rfl : n = 2 := lenOf hlen (by decide)
  unfold plan at hp
  rw [hi] at hp
  dsimp only at hp
  split at hp
  · rename_i v hv
    obtain ⟨rfl, rfl, rfl, rfl⟩ := goTo_inj hp
    have h1 := hL.2.2.2 _ _ hv
    have h2 := kk H locs lsC ⟨hR, hS, hL, h1.2, hV⟩
    have h3 := h1.1
    rw [List.map_cons] at h2
    unfold cz at h2 h3
    dsimp only at h2 h3
    cases hr : rf sz b v with
    | none => rw [hr] at h2 h3; exact lv_aloadN hx hb hd h3 h2
    | some q => rw [hr] at h2 h3; exact lv_aload hx hb hd h3 h2
  · cases hp

theorem sp_istore_n {k : Fin 4} (C : Cx sz b L xs D dA m p R s mm args meth c) (S : Sm sz b L xs D dA m s M H locs lsC ls st) (hi : ins m pc = some ((.istore_n k), n, x, y, z, w)) (hp : plan m pc ls st M = some (.inr (.inl (pc', ls', st', M'))))
    (kk : ∀ (H' : Heap) (locs' : List Loc) (lsC' : Array Slot), Sm sz b L xs D dA m s M' H' locs' lsC' ls' st' → W p l e R s mm args below meth c H' locs' (mN M' - n0) (mS M' - s0) Q (F0 mm pc' lsC' (st'.map (cz sz b)))) : W p l e R s mm args below meth c H locs (mN M - n0) (mS M - s0) Q (F0 mm pc lsC (st.map (cz sz b))) := by
  obtain ⟨⟨hx, hb, hml, hown, hts⟩, hK, hin, hRm, hScr, hsz, hC⟩ := id C
  obtain ⟨hR, hS, hL, hV⟩ := id S
  obtain ⟨hd, hlen, hok⟩ := okC_get hC hi
  obtain rfl : n = 1 := lenOf hlen (by decide)
  unfold plan at hp
  rw [hi] at hp
  dsimp only at hp
  split at hp
  · rename_i v r
    split at hp
    · rename_i hk
      obtain ⟨rfl, rfl, rfl, rfl⟩ := goTo_inj hp
      have hk2 : k.val < nd m 0 := by rw [← hL.2.2.1]; exact Nat.le_of_ble_eq_true hk
      exact lv_istore_n hx hb hd rfl hL.lv hk2 rfl (fun ls2 h2 => kk H locs ls2 ⟨hR, hS, hL.set (v := .inl v) hk2 hV.1 h2, hV.2⟩)
    · cases hp
  · cases hp

theorem sp_istore {k : Nat} (C : Cx sz b L xs D dA m p R s mm args meth c) (S : Sm sz b L xs D dA m s M H locs lsC ls st) (hi : ins m pc = some ((.istore k), n, x, y, z, w)) (hp : plan m pc ls st M = some (.inr (.inl (pc', ls', st', M'))))
    (kk : ∀ (H' : Heap) (locs' : List Loc) (lsC' : Array Slot), Sm sz b L xs D dA m s M' H' locs' lsC' ls' st' → W p l e R s mm args below meth c H' locs' (mN M' - n0) (mS M' - s0) Q (F0 mm pc' lsC' (st'.map (cz sz b)))) : W p l e R s mm args below meth c H locs (mN M - n0) (mS M - s0) Q (F0 mm pc lsC (st.map (cz sz b))) := by
  obtain ⟨⟨hx, hb, hml, hown, hts⟩, hK, hin, hRm, hScr, hsz, hC⟩ := id C
  obtain ⟨hR, hS, hL, hV⟩ := id S
  obtain ⟨hd, hlen, hok⟩ := okC_get hC hi
  obtain rfl : n = 2 := lenOf hlen (by decide)
  unfold plan at hp
  rw [hi] at hp
  dsimp only at hp
  split at hp
  · rename_i v r
    split at hp
    · rename_i hk
      obtain ⟨rfl, rfl, rfl, rfl⟩ := goTo_inj hp
      have hk2 : k < nd m 0 := by rw [← hL.2.2.1]; exact Nat.le_of_ble_eq_true hk
      exact lv_istore hx hb hd hL.lv hk2 rfl (fun ls2 h2 => kk H locs ls2 ⟨hR, hS, hL.set (v := .inl v) hk2 hV.1 h2, hV.2⟩)
    · cases hp
  · cases hp

theorem sp_astore_n {k : Fin 4} (C : Cx sz b L xs D dA m p R s mm args meth c) (S : Sm sz b L xs D dA m s M H locs lsC ls st) (hi : ins m pc = some ((.astore_n k), n, x, y, z, w)) (hp : plan m pc ls st M = some (.inr (.inl (pc', ls', st', M'))))
    (kk : ∀ (H' : Heap) (locs' : List Loc) (lsC' : Array Slot), Sm sz b L xs D dA m s M' H' locs' lsC' ls' st' → W p l e R s mm args below meth c H' locs' (mN M' - n0) (mS M' - s0) Q (F0 mm pc' lsC' (st'.map (cz sz b)))) : W p l e R s mm args below meth c H locs (mN M - n0) (mS M - s0) Q (F0 mm pc lsC (st.map (cz sz b))) := by
  obtain ⟨⟨hx, hb, hml, hown, hts⟩, hK, hin, hRm, hScr, hsz, hC⟩ := id C
  obtain ⟨hR, hS, hL, hV⟩ := id S
  obtain ⟨hd, hlen, hok⟩ := okC_get hC hi
  obtain rfl : n = 1 := lenOf hlen (by decide)
  unfold plan at hp
  rw [hi] at hp
  dsimp only at hp
  split at hp
  · rename_i v r
    split at hp
    · rename_i hk
      obtain ⟨rfl, rfl, rfl, rfl⟩ := goTo_inj hp
      have hk2 : k.val < nd m 0 := by rw [← hL.2.2.1]; exact Nat.le_of_ble_eq_true hk
      have h4 : ∀ ls2 : Array Slot, lv_has ls2 (nd m 0) ((k.val, va_rf (rf sz b v)) :: (lps sz b 0 ls).filter (fun q => !(q.1 == k.val) && !(q.1 + 1 == k.val && q.2.category == 2))) → _ := fun ls2 h2 => kk H locs ls2 ⟨hR, hS, hL.set (v := .inr v) hk2 trivial h2, hV.2⟩
      show W p l e R s mm args below meth c H locs (mN M - n0) (mS M - s0) Q (F0 mm pc lsC (va_rf (rf sz b v) :: r.map (cz sz b)))
      cases hr : rf sz b v with
      | none => rw [hr] at h4; exact lv_astore_nN hx hb hd rfl hL.lv hk2 rfl h4
      | some q => rw [hr] at h4; exact lv_astore_n hx hb hd rfl hL.lv hk2 rfl h4
    · cases hp
  · cases hp

theorem sp_astore {k : Nat} (C : Cx sz b L xs D dA m p R s mm args meth c) (S : Sm sz b L xs D dA m s M H locs lsC ls st) (hi : ins m pc = some ((.astore k), n, x, y, z, w)) (hp : plan m pc ls st M = some (.inr (.inl (pc', ls', st', M'))))
    (kk : ∀ (H' : Heap) (locs' : List Loc) (lsC' : Array Slot), Sm sz b L xs D dA m s M' H' locs' lsC' ls' st' → W p l e R s mm args below meth c H' locs' (mN M' - n0) (mS M' - s0) Q (F0 mm pc' lsC' (st'.map (cz sz b)))) : W p l e R s mm args below meth c H locs (mN M - n0) (mS M - s0) Q (F0 mm pc lsC (st.map (cz sz b))) := by
  obtain ⟨⟨hx, hb, hml, hown, hts⟩, hK, hin, hRm, hScr, hsz, hC⟩ := id C
  obtain ⟨hR, hS, hL, hV⟩ := id S
  obtain ⟨hd, hlen, hok⟩ := okC_get hC hi
  obtain rfl : n = 2 := lenOf hlen (by decide)
  unfold plan at hp
  rw [hi] at hp
  dsimp only at hp
  split at hp
  · rename_i v r
    split at hp
    · rename_i hk
      obtain ⟨rfl, rfl, rfl, rfl⟩ := goTo_inj hp
      have hk2 : k < nd m 0 := by rw [← hL.2.2.1]; exact Nat.le_of_ble_eq_true hk
      have h4 : ∀ ls2 : Array Slot, lv_has ls2 (nd m 0) ((k, va_rf (rf sz b v)) :: (lps sz b 0 ls).filter (fun q => !(q.1 == k) && !(q.1 + 1 == k && q.2.category == 2))) → _ := fun ls2 h2 => kk H locs ls2 ⟨hR, hS, hL.set (v := .inr v) hk2 trivial h2, hV.2⟩
      show W p l e R s mm args below meth c H locs (mN M - n0) (mS M - s0) Q (F0 mm pc lsC (va_rf (rf sz b v) :: r.map (cz sz b)))
      cases hr : rf sz b v with
      | none => rw [hr] at h4; exact lv_astoreN hx hb hd hL.lv hk2 rfl h4
      | some q => rw [hr] at h4; exact lv_astore hx hb hd hL.lv hk2 rfl h4
    · cases hp
  · cases hp

theorem sp_iinc {k : Nat} {cc : Int} (C : Cx sz b L xs D dA m p R s mm args meth c) (S : Sm sz b L xs D dA m s M H locs lsC ls st) (hi : ins m pc = some ((.iinc k cc), n, x, y, z, w)) (hp : plan m pc ls st M = some (.inr (.inl (pc', ls', st', M'))))
    (kk : ∀ (H' : Heap) (locs' : List Loc) (lsC' : Array Slot), Sm sz b L xs D dA m s M' H' locs' lsC' ls' st' → W p l e R s mm args below meth c H' locs' (mN M' - n0) (mS M' - s0) Q (F0 mm pc' lsC' (st'.map (cz sz b)))) : W p l e R s mm args below meth c H locs (mN M - n0) (mS M - s0) Q (F0 mm pc lsC (st.map (cz sz b))) := by
  obtain ⟨⟨hx, hb, hml, hown, hts⟩, hK, hin, hRm, hScr, hsz, hC⟩ := id C
  obtain ⟨hR, hS, hL, hV⟩ := id S
  obtain ⟨hd, hlen, hok⟩ := okC_get hC hi
  obtain rfl : n = 3 := lenOf hlen (by decide)
  unfold plan at hp
  rw [hi] at hp
  dsimp only at hp
  split at hp
  · rename_i v hv
    obtain ⟨rfl, rfl, rfl, rfl⟩ := goTo_inj hp
    have hk2 : k < nd m 0 := by rw [← hL.2.2.1]; exact (List.getElem?_eq_some_iff.mp hv).1
    have h1 := lps_mem (sz := sz) (b := b) ls 0 k _ hv
    rw [Nat.zero_add] at h1
    obtain ⟨j, hj⟩ := List.getElem?_of_mem h1
    exact lv_iinc hx hb hd hL.lv hj (oi_inc v cc) hk2 rfl (fun ls2 h2 => kk H locs ls2 ⟨hR, hS, hL.set (v := .inl (wr (v + cc))) hk2 (wr_inR _) h2, hV⟩)
  · cases hp

theorem sp_goto {o : Int} (C : Cx sz b L xs D dA m p R s mm args meth c) (S : Sm sz b L xs D dA m s M H locs lsC ls st) (hi : ins m pc = some ((.goto o), n, x, y, z, w)) (hp : plan m pc ls st M = some (.inr (.inl (pc', ls', st', M'))))
    (kk : ∀ (H' : Heap) (locs' : List Loc) (lsC' : Array Slot), Sm sz b L xs D dA m s M' H' locs' lsC' ls' st' → W p l e R s mm args below meth c H' locs' (mN M' - n0) (mS M' - s0) Q (F0 mm pc' lsC' (st'.map (cz sz b)))) : W p l e R s mm args below meth c H locs (mN M - n0) (mS M - s0) Q (F0 mm pc lsC (st.map (cz sz b))) := by
  obtain ⟨⟨hx, hb, hml, hown, hts⟩, hK, hin, hRm, hScr, hsz, hC⟩ := id C
  obtain ⟨hR, hS, hL, hV⟩ := id S
  obtain ⟨hd, hlen, hok⟩ := okC_get hC hi
  obtain rfl : n = 3 := lenOf hlen (by decide)
  unfold plan at hp
  rw [hi] at hp
  dsimp only at hp
  obtain ⟨rfl, rfl, rfl, rfl⟩ := goTo_inj hp
  exact lv_goto hx hb hd (of_decide_eq_true hok) (kk H locs lsC ⟨hR, hS, hL, hV⟩)

theorem sp_if_eq {o : Int} (C : Cx sz b L xs D dA m p R s mm args meth c) (S : Sm sz b L xs D dA m s M H locs lsC ls st) (hi : ins m pc = some ((.ifCond .eq o), n, x, y, z, w)) (hp : plan m pc ls st M = some (.inr (.inl (pc', ls', st', M'))))
    (kk : ∀ (H' : Heap) (locs' : List Loc) (lsC' : Array Slot), Sm sz b L xs D dA m s M' H' locs' lsC' ls' st' → W p l e R s mm args below meth c H' locs' (mN M' - n0) (mS M' - s0) Q (F0 mm pc' lsC' (st'.map (cz sz b)))) : W p l e R s mm args below meth c H locs (mN M - n0) (mS M - s0) Q (F0 mm pc lsC (st.map (cz sz b))) := by
  obtain ⟨⟨hx, hb, hml, hown, hts⟩, hK, hin, hRm, hScr, hsz, hC⟩ := id C
  obtain ⟨hR, hS, hL, hV⟩ := id S
  obtain ⟨hd, hlen, hok⟩ := okC_get hC hi
  obtain rfl : n = 3 := lenOf hlen (by decide)
  unfold plan at hp
  rw [hi] at hp
  dsimp only at hp
  split at hp
  · rename_i v1 r
    obtain ⟨hpc, rfl, rfl, rfl⟩ := goTo_inj hp
    obtain ⟨hv1, hV⟩ := hV
    refine lv_if_eq hx hb hd (of_decide_eq_true hok) (fun h => ?_) (fun h => ?_)
    · rw [if_pos (show cnd .eq _ _ = true from decide_eq_true ((oi_eq hv1 inR_0).mp h))] at hpc
      subst hpc
      exact kk H locs lsC ⟨hR, hS, hL, hV⟩
    · rw [if_neg (show ¬ cnd .eq _ _ = true from fun q => absurd (of_decide_eq_true q) (fun q => h ((oi_eq hv1 inR_0).mpr q)))] at hpc
      subst hpc
      exact kk H locs lsC ⟨hR, hS, hL, hV⟩
  · cases hp

theorem sp_icmp_eq {o : Int} (C : Cx sz b L xs D dA m p R s mm args meth c) (S : Sm sz b L xs D dA m s M H locs lsC ls st) (hi : ins m pc = some ((.if_icmp .eq o), n, x, y, z, w)) (hp : plan m pc ls st M = some (.inr (.inl (pc', ls', st', M'))))
    (kk : ∀ (H' : Heap) (locs' : List Loc) (lsC' : Array Slot), Sm sz b L xs D dA m s M' H' locs' lsC' ls' st' → W p l e R s mm args below meth c H' locs' (mN M' - n0) (mS M' - s0) Q (F0 mm pc' lsC' (st'.map (cz sz b)))) : W p l e R s mm args below meth c H locs (mN M - n0) (mS M - s0) Q (F0 mm pc lsC (st.map (cz sz b))) := by
  obtain ⟨⟨hx, hb, hml, hown, hts⟩, hK, hin, hRm, hScr, hsz, hC⟩ := id C
  obtain ⟨hR, hS, hL, hV⟩ := id S
  obtain ⟨hd, hlen, hok⟩ := okC_get hC hi
  obtain rfl : n = 3 := lenOf hlen (by decide)
  unfold plan at hp
  rw [hi] at hp
  dsimp only at hp
  split at hp
  · rename_i v2 v1 r
    obtain ⟨hpc, rfl, rfl, rfl⟩ := goTo_inj hp
    obtain ⟨hv2, hv1, hV⟩ := hV
    refine lv_icmp_eq hx hb hd (of_decide_eq_true hok) (fun h => ?_) (fun h => ?_)
    · rw [if_pos (show cnd .eq _ _ = true from decide_eq_true ((oi_eq hv1 hv2).mp h))] at hpc
      subst hpc
      exact kk H locs lsC ⟨hR, hS, hL, hV⟩
    · rw [if_neg (show ¬ cnd .eq _ _ = true from fun q => absurd (of_decide_eq_true q) (fun q => h ((oi_eq hv1 hv2).mpr q)))] at hpc
      subst hpc
      exact kk H locs lsC ⟨hR, hS, hL, hV⟩
  · cases hp

theorem sp_if_ne {o : Int} (C : Cx sz b L xs D dA m p R s mm args meth c) (S : Sm sz b L xs D dA m s M H locs lsC ls st) (hi : ins m pc = some ((.ifCond .ne o), n, x, y, z, w)) (hp : plan m pc ls st M = some (.inr (.inl (pc', ls', st', M'))))
    (kk : ∀ (H' : Heap) (locs' : List Loc) (lsC' : Array Slot), Sm sz b L xs D dA m s M' H' locs' lsC' ls' st' → W p l e R s mm args below meth c H' locs' (mN M' - n0) (mS M' - s0) Q (F0 mm pc' lsC' (st'.map (cz sz b)))) : W p l e R s mm args below meth c H locs (mN M - n0) (mS M - s0) Q (F0 mm pc lsC (st.map (cz sz b))) := by
  obtain ⟨⟨hx, hb, hml, hown, hts⟩, hK, hin, hRm, hScr, hsz, hC⟩ := id C
  obtain ⟨hR, hS, hL, hV⟩ := id S
  obtain ⟨hd, hlen, hok⟩ := okC_get hC hi
  obtain rfl : n = 3 := lenOf hlen (by decide)
  unfold plan at hp
  rw [hi] at hp
  dsimp only at hp
  split at hp
  · rename_i v1 r
    obtain ⟨hpc, rfl, rfl, rfl⟩ := goTo_inj hp
    obtain ⟨hv1, hV⟩ := hV
    refine lv_if_ne hx hb hd (of_decide_eq_true hok) (fun h => ?_) (fun h => ?_)
    · rw [if_pos (show cnd .ne _ _ = true from decide_eq_true ((not_congr (oi_eq hv1 inR_0)).mp h))] at hpc
      subst hpc
      exact kk H locs lsC ⟨hR, hS, hL, hV⟩
    · rw [if_neg (show ¬ cnd .ne _ _ = true from fun q => absurd (of_decide_eq_true q) (fun q => q ((oi_eq hv1 inR_0).mp h)))] at hpc
      subst hpc
      exact kk H locs lsC ⟨hR, hS, hL, hV⟩
  · cases hp

theorem sp_icmp_ne {o : Int} (C : Cx sz b L xs D dA m p R s mm args meth c) (S : Sm sz b L xs D dA m s M H locs lsC ls st) (hi : ins m pc = some ((.if_icmp .ne o), n, x, y, z, w)) (hp : plan m pc ls st M = some (.inr (.inl (pc', ls', st', M'))))
    (kk : ∀ (H' : Heap) (locs' : List Loc) (lsC' : Array Slot), Sm sz b L xs D dA m s M' H' locs' lsC' ls' st' → W p l e R s mm args below meth c H' locs' (mN M' - n0) (mS M' - s0) Q (F0 mm pc' lsC' (st'.map (cz sz b)))) : W p l e R s mm args below meth c H locs (mN M - n0) (mS M - s0) Q (F0 mm pc lsC (st.map (cz sz b))) := by
  obtain ⟨⟨hx, hb, hml, hown, hts⟩, hK, hin, hRm, hScr, hsz, hC⟩ := id C
  obtain ⟨hR, hS, hL, hV⟩ := id S
  obtain ⟨hd, hlen, hok⟩ := okC_get hC hi
  obtain rfl : n = 3 := lenOf hlen (by decide)
  unfold plan at hp
  rw [hi] at hp
  dsimp only at hp
  split at hp
  · rename_i v2 v1 r
    obtain ⟨hpc, rfl, rfl, rfl⟩ := goTo_inj hp
    obtain ⟨hv2, hv1, hV⟩ := hV
    refine lv_icmp_ne hx hb hd (of_decide_eq_true hok) (fun h => ?_) (fun h => ?_)
    · rw [if_pos (show cnd .ne _ _ = true from decide_eq_true ((not_congr (oi_eq hv1 hv2)).mp h))] at hpc
      subst hpc
      exact kk H locs lsC ⟨hR, hS, hL, hV⟩
    · rw [if_neg (show ¬ cnd .ne _ _ = true from fun q => absurd (of_decide_eq_true q) (fun q => q ((oi_eq hv1 hv2).mp h)))] at hpc
      subst hpc
      exact kk H locs lsC ⟨hR, hS, hL, hV⟩
  · cases hp

theorem sp_if_lt {o : Int} (C : Cx sz b L xs D dA m p R s mm args meth c) (S : Sm sz b L xs D dA m s M H locs lsC ls st) (hi : ins m pc = some ((.ifCond .lt o), n, x, y, z, w)) (hp : plan m pc ls st M = some (.inr (.inl (pc', ls', st', M'))))
    (kk : ∀ (H' : Heap) (locs' : List Loc) (lsC' : Array Slot), Sm sz b L xs D dA m s M' H' locs' lsC' ls' st' → W p l e R s mm args below meth c H' locs' (mN M' - n0) (mS M' - s0) Q (F0 mm pc' lsC' (st'.map (cz sz b)))) : W p l e R s mm args below meth c H locs (mN M - n0) (mS M - s0) Q (F0 mm pc lsC (st.map (cz sz b))) := by
  obtain ⟨⟨hx, hb, hml, hown, hts⟩, hK, hin, hRm, hScr, hsz, hC⟩ := id C
  obtain ⟨hR, hS, hL, hV⟩ := id S
  obtain ⟨hd, hlen, hok⟩ := okC_get hC hi
  obtain rfl : n = 3 := lenOf hlen (by decide)
  unfold plan at hp
  rw [hi] at hp
  dsimp only at hp
  split at hp
  · rename_i v1 r
    obtain ⟨hpc, rfl, rfl, rfl⟩ := goTo_inj hp
    obtain ⟨hv1, hV⟩ := hV
    refine lv_if_lt hx hb hd (of_decide_eq_true hok) (fun h => ?_) (fun h => ?_)
    · rw [if_pos (show cnd .lt _ _ = true from decide_eq_true ((oi_lt hv1 inR_0).mp h))] at hpc
      subst hpc
      exact kk H locs lsC ⟨hR, hS, hL, hV⟩
    · rw [if_neg (show ¬ cnd .lt _ _ = true from fun q => absurd (of_decide_eq_true q) (fun q => h ((oi_lt hv1 inR_0).mpr q)))] at hpc
      subst hpc
      exact kk H locs lsC ⟨hR, hS, hL, hV⟩
  · cases hp

theorem sp_icmp_lt {o : Int} (C : Cx sz b L xs D dA m p R s mm args meth c) (S : Sm sz b L xs D dA m s M H locs lsC ls st) (hi : ins m pc = some ((.if_icmp .lt o), n, x, y, z, w)) (hp : plan m pc ls st M = some (.inr (.inl (pc', ls', st', M'))))
    (kk : ∀ (H' : Heap) (locs' : List Loc) (lsC' : Array Slot), Sm sz b L xs D dA m s M' H' locs' lsC' ls' st' → W p l e R s mm args below meth c H' locs' (mN M' - n0) (mS M' - s0) Q (F0 mm pc' lsC' (st'.map (cz sz b)))) : W p l e R s mm args below meth c H locs (mN M - n0) (mS M - s0) Q (F0 mm pc lsC (st.map (cz sz b))) := by
  obtain ⟨⟨hx, hb, hml, hown, hts⟩, hK, hin, hRm, hScr, hsz, hC⟩ := id C
  obtain ⟨hR, hS, hL, hV⟩ := id S
  obtain ⟨hd, hlen, hok⟩ := okC_get hC hi
  obtain rfl : n = 3 := lenOf hlen (by decide)
  unfold plan at hp
  rw [hi] at hp
  dsimp only at hp
  split at hp
  · rename_i v2 v1 r
    obtain ⟨hpc, rfl, rfl, rfl⟩ := goTo_inj hp
    obtain ⟨hv2, hv1, hV⟩ := hV
    refine lv_icmp_lt hx hb hd (of_decide_eq_true hok) (fun h => ?_) (fun h => ?_)
    · rw [if_pos (show cnd .lt _ _ = true from decide_eq_true ((oi_lt hv1 hv2).mp h))] at hpc
      subst hpc
      exact kk H locs lsC ⟨hR, hS, hL, hV⟩
    · rw [if_neg (show ¬ cnd .lt _ _ = true from fun q => absurd (of_decide_eq_true q) (fun q => h ((oi_lt hv1 hv2).mpr q)))] at hpc
      subst hpc
      exact kk H locs lsC ⟨hR, hS, hL, hV⟩
  · cases hp

theorem sp_if_ge {o : Int} (C : Cx sz b L xs D dA m p R s mm args meth c) (S : Sm sz b L xs D dA m s M H locs lsC ls st) (hi : ins m pc = some ((.ifCond .ge o), n, x, y, z, w)) (hp : plan m pc ls st M = some (.inr (.inl (pc', ls', st', M'))))
    (kk : ∀ (H' : Heap) (locs' : List Loc) (lsC' : Array Slot), Sm sz b L xs D dA m s M' H' locs' lsC' ls' st' → W p l e R s mm args below meth c H' locs' (mN M' - n0) (mS M' - s0) Q (F0 mm pc' lsC' (st'.map (cz sz b)))) : W p l e R s mm args below meth c H locs (mN M - n0) (mS M - s0) Q (F0 mm pc lsC (st.map (cz sz b))) := by
  obtain ⟨⟨hx, hb, hml, hown, hts⟩, hK, hin, hRm, hScr, hsz, hC⟩ := id C
  obtain ⟨hR, hS, hL, hV⟩ := id S
  obtain ⟨hd, hlen, hok⟩ := okC_get hC hi
  obtain rfl : n = 3 := lenOf hlen (by decide)
  unfold plan at hp
  rw [hi] at hp
  dsimp only at hp
  split at hp
  · rename_i v1 r
    obtain ⟨hpc, rfl, rfl, rfl⟩ := goTo_inj hp
    obtain ⟨hv1, hV⟩ := hV
    refine lv_if_ge hx hb hd (of_decide_eq_true hok) (fun h => ?_) (fun h => ?_)
    · rw [if_pos (show cnd .ge _ _ = true from decide_eq_true ((oi_le inR_0 hv1).mp h))] at hpc
      subst hpc
      exact kk H locs lsC ⟨hR, hS, hL, hV⟩
    · rw [if_neg (show ¬ cnd .ge _ _ = true from fun q => absurd (of_decide_eq_true q) (fun q => h ((oi_le inR_0 hv1).mpr q)))] at hpc
      subst hpc
      exact kk H locs lsC ⟨hR, hS, hL, hV⟩
  · cases hp

theorem sp_icmp_ge {o : Int} (C : Cx sz b L xs D dA m p R s mm args meth c) (S : Sm sz b L xs D dA m s M H locs lsC ls st) (hi : ins m pc = some ((.if_icmp .ge o), n, x, y, z, w)) (hp : plan m pc ls st M = some (.inr (.inl (pc', ls', st', M'))))
    (kk : ∀ (H' : Heap) (locs' : List Loc) (lsC' : Array Slot), Sm sz b L xs D dA m s M' H' locs' lsC' ls' st' → W p l e R s mm args below meth c H' locs' (mN M' - n0) (mS M' - s0) Q (F0 mm pc' lsC' (st'.map (cz sz b)))) : W p l e R s mm args below meth c H locs (mN M - n0) (mS M - s0) Q (F0 mm pc lsC (st.map (cz sz b))) := by
  obtain ⟨⟨hx, hb, hml, hown, hts⟩, hK, hin, hRm, hScr, hsz, hC⟩ := id C
  obtain ⟨hR, hS, hL, hV⟩ := id S
  obtain ⟨hd, hlen, hok⟩ := okC_get hC hi
  obtain rfl : n = 3 := lenOf hlen (by decide)
  unfold plan at hp
  rw [hi] at hp
  dsimp only at hp
  split at hp
  · rename_i v2 v1 r
    obtain ⟨hpc, rfl, rfl, rfl⟩ := goTo_inj hp
    obtain ⟨hv2, hv1, hV⟩ := hV
    refine lv_icmp_ge hx hb hd (of_decide_eq_true hok) (fun h => ?_) (fun h => ?_)
    · rw [if_pos (show cnd .ge _ _ = true from decide_eq_true ((oi_le hv2 hv1).mp h))] at hpc
      subst hpc
      exact kk H locs lsC ⟨hR, hS, hL, hV⟩
    · rw [if_neg (show ¬ cnd .ge _ _ = true from fun q => absurd (of_decide_eq_true q) (fun q => h ((oi_le hv2 hv1).mpr q)))] at hpc
      subst hpc
      exact kk H locs lsC ⟨hR, hS, hL, hV⟩
  · cases hp

theorem sp_if_gt {o : Int} (C : Cx sz b L xs D dA m p R s mm args meth c) (S : Sm sz b L xs D dA m s M H locs lsC ls st) (hi : ins m pc = some ((.ifCond .gt o), n, x, y, z, w)) (hp : plan m pc ls st M = some (.inr (.inl (pc', ls', st', M'))))
    (kk : ∀ (H' : Heap) (locs' : List Loc) (lsC' : Array Slot), Sm sz b L xs D dA m s M' H' locs' lsC' ls' st' → W p l e R s mm args below meth c H' locs' (mN M' - n0) (mS M' - s0) Q (F0 mm pc' lsC' (st'.map (cz sz b)))) : W p l e R s mm args below meth c H locs (mN M - n0) (mS M - s0) Q (F0 mm pc lsC (st.map (cz sz b))) := by
  obtain ⟨⟨hx, hb, hml, hown, hts⟩, hK, hin, hRm, hScr, hsz, hC⟩ := id C
  obtain ⟨hR, hS, hL, hV⟩ := id S
  obtain ⟨hd, hlen, hok⟩ := okC_get hC hi
  obtain rfl : n = 3 := lenOf hlen (by decide)
  unfold plan at hp
  rw [hi] at hp
  dsimp only at hp
  split at hp
  · rename_i v1 r
    obtain ⟨hpc, rfl, rfl, rfl⟩ := goTo_inj hp
    obtain ⟨hv1, hV⟩ := hV
    refine lv_if_gt hx hb hd (of_decide_eq_true hok) (fun h => ?_) (fun h => ?_)
    · rw [if_pos (show cnd .gt _ _ = true from decide_eq_true ((oi_lt inR_0 hv1).mp h))] at hpc
      subst hpc
      exact kk H locs lsC ⟨hR, hS, hL, hV⟩
    · rw [if_neg (show ¬ cnd .gt _ _ = true from fun q => absurd (of_decide_eq_true q) (fun q => h ((oi_lt inR_0 hv1).mpr q)))] at hpc
      subst hpc
      exact kk H locs lsC ⟨hR, hS, hL, hV⟩
  · cases hp

theorem sp_icmp_gt {o : Int} (C : Cx sz b L xs D dA m p R s mm args meth c) (S : Sm sz b L xs D dA m s M H locs lsC ls st) (hi : ins m pc = some ((.if_icmp .gt o), n, x, y, z, w)) (hp : plan m pc ls st M = some (.inr (.inl (pc', ls', st', M'))))
    (kk : ∀ (H' : Heap) (locs' : List Loc) (lsC' : Array Slot), Sm sz b L xs D dA m s M' H' locs' lsC' ls' st' → W p l e R s mm args below meth c H' locs' (mN M' - n0) (mS M' - s0) Q (F0 mm pc' lsC' (st'.map (cz sz b)))) : W p l e R s mm args below meth c H locs (mN M - n0) (mS M - s0) Q (F0 mm pc lsC (st.map (cz sz b))) := by
  obtain ⟨⟨hx, hb, hml, hown, hts⟩, hK, hin, hRm, hScr, hsz, hC⟩ := id C
  obtain ⟨hR, hS, hL, hV⟩ := id S
  obtain ⟨hd, hlen, hok⟩ := okC_get hC hi
  obtain rfl : n = 3 := lenOf hlen (by decide)
  unfold plan at hp
  rw [hi] at hp
  dsimp only at hp
  split at hp
  · rename_i v2 v1 r
    obtain ⟨hpc, rfl, rfl, rfl⟩ := goTo_inj hp
    obtain ⟨hv2, hv1, hV⟩ := hV
    refine lv_icmp_gt hx hb hd (of_decide_eq_true hok) (fun h => ?_) (fun h => ?_)
    · rw [if_pos (show cnd .gt _ _ = true from decide_eq_true ((oi_lt hv2 hv1).mp h))] at hpc
      subst hpc
      exact kk H locs lsC ⟨hR, hS, hL, hV⟩
    · rw [if_neg (show ¬ cnd .gt _ _ = true from fun q => absurd (of_decide_eq_true q) (fun q => h ((oi_lt hv2 hv1).mpr q)))] at hpc
      subst hpc
      exact kk H locs lsC ⟨hR, hS, hL, hV⟩
  · cases hp

theorem sp_if_le {o : Int} (C : Cx sz b L xs D dA m p R s mm args meth c) (S : Sm sz b L xs D dA m s M H locs lsC ls st) (hi : ins m pc = some ((.ifCond .le o), n, x, y, z, w)) (hp : plan m pc ls st M = some (.inr (.inl (pc', ls', st', M'))))
    (kk : ∀ (H' : Heap) (locs' : List Loc) (lsC' : Array Slot), Sm sz b L xs D dA m s M' H' locs' lsC' ls' st' → W p l e R s mm args below meth c H' locs' (mN M' - n0) (mS M' - s0) Q (F0 mm pc' lsC' (st'.map (cz sz b)))) : W p l e R s mm args below meth c H locs (mN M - n0) (mS M - s0) Q (F0 mm pc lsC (st.map (cz sz b))) := by
  obtain ⟨⟨hx, hb, hml, hown, hts⟩, hK, hin, hRm, hScr, hsz, hC⟩ := id C
  obtain ⟨hR, hS, hL, hV⟩ := id S
  obtain ⟨hd, hlen, hok⟩ := okC_get hC hi
  obtain rfl : n = 3 := lenOf hlen (by decide)
  unfold plan at hp
  rw [hi] at hp
  dsimp only at hp
  split at hp
  · rename_i v1 r
    obtain ⟨hpc, rfl, rfl, rfl⟩ := goTo_inj hp
    obtain ⟨hv1, hV⟩ := hV
    refine lv_if_le hx hb hd (of_decide_eq_true hok) (fun h => ?_) (fun h => ?_)
    · rw [if_pos (show cnd .le _ _ = true from decide_eq_true ((oi_le hv1 inR_0).mp h))] at hpc
      subst hpc
      exact kk H locs lsC ⟨hR, hS, hL, hV⟩
    · rw [if_neg (show ¬ cnd .le _ _ = true from fun q => absurd (of_decide_eq_true q) (fun q => h ((oi_le hv1 inR_0).mpr q)))] at hpc
      subst hpc
      exact kk H locs lsC ⟨hR, hS, hL, hV⟩
  · cases hp

theorem sp_icmp_le {o : Int} (C : Cx sz b L xs D dA m p R s mm args meth c) (S : Sm sz b L xs D dA m s M H locs lsC ls st) (hi : ins m pc = some ((.if_icmp .le o), n, x, y, z, w)) (hp : plan m pc ls st M = some (.inr (.inl (pc', ls', st', M'))))
    (kk : ∀ (H' : Heap) (locs' : List Loc) (lsC' : Array Slot), Sm sz b L xs D dA m s M' H' locs' lsC' ls' st' → W p l e R s mm args below meth c H' locs' (mN M' - n0) (mS M' - s0) Q (F0 mm pc' lsC' (st'.map (cz sz b)))) : W p l e R s mm args below meth c H locs (mN M - n0) (mS M - s0) Q (F0 mm pc lsC (st.map (cz sz b))) := by
  obtain ⟨⟨hx, hb, hml, hown, hts⟩, hK, hin, hRm, hScr, hsz, hC⟩ := id C
  obtain ⟨hR, hS, hL, hV⟩ := id S
  obtain ⟨hd, hlen, hok⟩ := okC_get hC hi
  obtain rfl : n = 3 := lenOf hlen (by decide)
  unfold plan at hp
  rw [hi] at hp
  dsimp only at hp
  split at hp
  · rename_i v2 v1 r
    obtain ⟨hpc, rfl, rfl, rfl⟩ := goTo_inj hp
    obtain ⟨hv2, hv1, hV⟩ := hV
    refine lv_icmp_le hx hb hd (of_decide_eq_true hok) (fun h => ?_) (fun h => ?_)
    · rw [if_pos (show cnd .le _ _ = true from decide_eq_true ((oi_le hv1 hv2).mp h))] at hpc
      subst hpc
      exact kk H locs lsC ⟨hR, hS, hL, hV⟩
    · rw [if_neg (show ¬ cnd .le _ _ = true from fun q => absurd (of_decide_eq_true q) (fun q => h ((oi_le hv1 hv2).mpr q)))] at hpc
      subst hpc
      exact kk H locs lsC ⟨hR, hS, hL, hV⟩
  · cases hp

theorem sp_acmp {o : Int} (C : Cx sz b L xs D dA m p R s mm args meth c) (S : Sm sz b L xs D dA m s M H locs lsC ls st) (hi : ins m pc = some ((.if_acmp .ne o), n, x, y, z, w)) (hp : plan m pc ls st M = some (.inr (.inl (pc', ls', st', M'))))
    (kk : ∀ (H' : Heap) (locs' : List Loc) (lsC' : Array Slot), Sm sz b L xs D dA m s M' H' locs' lsC' ls' st' → W p l e R s mm args below meth c H' locs' (mN M' - n0) (mS M' - s0) Q (F0 mm pc' lsC' (st'.map (cz sz b)))) : W p l e R s mm args below meth c H locs (mN M - n0) (mS M - s0) Q (F0 mm pc lsC (st.map (cz sz b))) := by
  obtain ⟨⟨hx, hb, hml, hown, hts⟩, hK, hin, hRm, hScr, hsz, hC⟩ := id C
  obtain ⟨hR, hS, hL, hV⟩ := id S
  obtain ⟨hd, hlen, hok⟩ := okC_get hC hi
  obtain rfl : n = 3 := lenOf hlen (by decide)
  unfold plan at hp
  rw [hi] at hp
  dsimp only at hp
  split at hp
  · rename_i v2 v1 r
    obtain ⟨hpc, rfl, rfl, rfl⟩ := goTo_inj hp
    refine lv_acmp_ne (rx := rf sz b v1) (ry := rf sz b v2) hx hb hd (of_decide_eq_true hok) (fun h => ?_) (fun h => ?_)
    · rw [if_neg (fun q => h (by rw [q]))] at hpc
      subst hpc
      exact kk H locs lsC ⟨hR, hS, hL, hV.2.2⟩
    · rw [if_pos (rf_inj hsz.2 h)] at hpc
      subst hpc
      exact kk H locs lsC ⟨hR, hS, hL, hV.2.2⟩
  · cases hp

theorem sp_ifnull {o : Int} (C : Cx sz b L xs D dA m p R s mm args meth c) (S : Sm sz b L xs D dA m s M H locs lsC ls st) (hi : ins m pc = some ((.ifnull o), n, x, y, z, w)) (hp : plan m pc ls st M = some (.inr (.inl (pc', ls', st', M'))))
    (kk : ∀ (H' : Heap) (locs' : List Loc) (lsC' : Array Slot), Sm sz b L xs D dA m s M' H' locs' lsC' ls' st' → W p l e R s mm args below meth c H' locs' (mN M' - n0) (mS M' - s0) Q (F0 mm pc' lsC' (st'.map (cz sz b)))) : W p l e R s mm args below meth c H locs (mN M - n0) (mS M - s0) Q (F0 mm pc lsC (st.map (cz sz b))) := by
  obtain ⟨⟨hx, hb, hml, hown, hts⟩, hK, hin, hRm, hScr, hsz, hC⟩ := id C
  obtain ⟨hR, hS, hL, hV⟩ := id S
  obtain ⟨hd, hlen, hok⟩ := okC_get hC hi
  obtain rfl : n = 3 := lenOf hlen (by decide)
  unfold plan at hp
  rw [hi] at hp
  dsimp only at hp
  split at hp
  · rename_i v r
    obtain ⟨hpc, rfl, rfl, rfl⟩ := goTo_inj hp
    show W p l e R s mm args below meth c H locs (mN M - n0) (mS M - s0) Q (F0 mm pc lsC (va_rf (rf sz b v) :: r.map (cz sz b)))
    by_cases h0 : v = 0
    · rw [if_pos h0] at hpc
      subst hpc
      rw [show rf sz b v = none from if_pos h0]
      exact lv_ifnullN hx hb hd (of_decide_eq_true hok) (kk H locs lsC ⟨hR, hS, hL, hV.2⟩)
    · rw [if_neg h0] at hpc
      subst hpc
      rw [show rf sz b v = some (ad sz b v) from if_neg h0]
      exact lv_ifnull hx hb hd (kk H locs lsC ⟨hR, hS, hL, hV.2⟩)
  · cases hp

theorem sp_ifnonnull {o : Int} (C : Cx sz b L xs D dA m p R s mm args meth c) (S : Sm sz b L xs D dA m s M H locs lsC ls st) (hi : ins m pc = some ((.ifnonnull o), n, x, y, z, w)) (hp : plan m pc ls st M = some (.inr (.inl (pc', ls', st', M'))))
    (kk : ∀ (H' : Heap) (locs' : List Loc) (lsC' : Array Slot), Sm sz b L xs D dA m s M' H' locs' lsC' ls' st' → W p l e R s mm args below meth c H' locs' (mN M' - n0) (mS M' - s0) Q (F0 mm pc' lsC' (st'.map (cz sz b)))) : W p l e R s mm args below meth c H locs (mN M - n0) (mS M - s0) Q (F0 mm pc lsC (st.map (cz sz b))) := by
  obtain ⟨⟨hx, hb, hml, hown, hts⟩, hK, hin, hRm, hScr, hsz, hC⟩ := id C
  obtain ⟨hR, hS, hL, hV⟩ := id S
  obtain ⟨hd, hlen, hok⟩ := okC_get hC hi
  obtain rfl : n = 3 := lenOf hlen (by decide)
  unfold plan at hp
  rw [hi] at hp
  dsimp only at hp
  split at hp
  · rename_i v r
    obtain ⟨hpc, rfl, rfl, rfl⟩ := goTo_inj hp
    show W p l e R s mm args below meth c H locs (mN M - n0) (mS M - s0) Q (F0 mm pc lsC (va_rf (rf sz b v) :: r.map (cz sz b)))
    by_cases h0 : v = 0
    · rw [if_pos h0] at hpc
      subst hpc
      rw [show rf sz b v = none from if_pos h0]
      exact lv_ifnonnullN hx hb hd (kk H locs lsC ⟨hR, hS, hL, hV.2⟩)
    · rw [if_neg h0] at hpc
      subst hpc
      rw [show rf sz b v = some (ad sz b v) from if_neg h0]
      exact lv_ifnonnull hx hb hd (of_decide_eq_true hok) (kk H locs lsC ⟨hR, hS, hL, hV.2⟩)
  · cases hp

end STEP

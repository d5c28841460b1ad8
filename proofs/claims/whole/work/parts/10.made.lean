/-! ===== one step: switches, lengths, what is made, the library's own calls ===== -/
theorem swt_in {pc d : Nat} {a o : Int} : ∀ (os : List Int) (lo : Int) (i : Nat), a = lo + i → os[i]? = some o → swt pc d a lo os = ((pc : Int) + o).toNat := by
  intro os
  induction os with
  | nil => intro lo i h1 h2; simp at h2
  | cons q os ih =>
    intro lo i h1 h2
    cases i with
    | zero =>
      unfold swt
      rw [if_pos (by simpa using h1)]
      simp at h2
      rw [h2]
    | succ i =>
      unfold swt
      rw [if_neg (by omega)]
      exact ih (lo + 1) i (by omega) (by simpa using h2)
theorem swt_out {pc d : Nat} {a : Int} : ∀ (os : List Int) (lo : Int), (a < lo ∨ lo + os.length ≤ a) → swt pc d a lo os = d := by
  intro os
  induction os with
  | nil => intro lo h; rfl
  | cons q os ih =>
    intro lo h
    unfold swt
    rw [List.length_cons] at h
    rw [if_neg (by omega)]
    exact ih (lo + 1) (by omega)
theorem cat_sum {sz b : Nat} : ∀ (st : List PV), ((st.map (cz sz b)).map fun v => v.category).sum = st.length := by
  intro st
  induction st with
  | nil => rfl
  | cons v r ih =>
    rw [List.map_cons, List.map_cons, List.sum_cons, cz_cat, ih, List.length_cons]
    omega
theorem vp_V_at {fs : List Value} {k : Nat} {v : Value} (h : fs[k]? = some v) : vp_V fs k = v := by
  unfold vp_V
  rw [List.getD_eq_getElem?_getD, h]
  rfl
theorem ra_in {s : State} {D : va_G} {dA : Nat → ClassId} (hK : va_K D vwCl (atys dA) s) {t : Nat} {ty : FieldType} {c : ClassId} (h : (atys dA)[t]? = some (c, ty)) : s.vm.findClass ("[" ++ ty.toString) = some c := by
  have h1 := (hK.2 t _ h).2
  cases ty with
  | object C =>
    obtain ⟨kA, comp, h2, h3, h4, h5⟩ := h1
    exact h5
  | _ => exact h1
theorem nwS {sz : Nat} {H0 H H1 : Heap} {locs : List Loc} (hS : va_S (fun q => sz ≤ q) H0 H locs) (hz : H1.size = H.size + 1) (ho : ∀ q, q < H.size → H1[q]? = H[q]?) : va_S (fun q => sz ≤ q) H0 H1 locs :=
  ⟨Nat.le_trans hS.1 (by omega), fun x h1 h2 => (ho x (Nat.lt_of_lt_of_le h1 hS.1)).trans (hS.2.1 x h1 h2), hS.2.2⟩
section STEP3
variable {sz b L : Nat} {xs : Nat → Int32} {D : va_G} {dA : Nat → ClassId} {m : Nat} {p : Program} {l : Launch} {e : Env} {R : Room} {s : State} {mm : MethodId} {args : Array Value} {below : List Frame} {meth : Method} {c : Code} {Q : State → Prop}
variable {pc pc' n x y z w n0 s0 : Nat} {ls ls' : List LV} {st st' : List PV} {M M' : Mem} {H : Heap} {locs : List Loc} {lsC : Array Slot}

theorem sp_new {k : Nat} (C : Cx sz b L xs D dA m p R s mm args meth c) (S : Sm sz b L xs D dA m s M H locs lsC ls st) (hi : ins m pc = some ((.new k), n, x, y, z, w)) (hp : plan m pc ls st M = some (.inr (.inl (pc', ls', st', M'))))
    (hN : n0 ≤ mN M ∧ 2 ≤ n0 ∧ s.heap.size = sz + (n0 - 2)) (hs0 : s0 ≤ mS M) (hcell : mN M' - n0 ≤ R.cells) (hslot : mS M' - s0 ≤ R.slots) (kk : ∀ (H' : Heap) (locs' : List Loc) (lsC' : Array Slot), Sm sz b L xs D dA m s M' H' locs' lsC' ls' st' → W p l e R s mm args below meth c H' locs' (mN M' - n0) (mS M' - s0) Q (F0 mm pc' lsC' (st'.map (cz sz b)))) : W p l e R s mm args below meth c H locs (mN M - n0) (mS M - s0) Q (F0 mm pc lsC (st.map (cz sz b))) := by
  obtain ⟨⟨hx, hb, hml, hown, hts⟩, hK, hin, hRm, hScr, hsz, hC⟩ := id C
  obtain ⟨hR, hS, hL, hV⟩ := id S
  obtain ⟨hd, hlen, hok⟩ := okC_get hC hi
  obtain rfl : n = 3 := lenOf hlen (by decide)
  unfold plan at hp
  rw [hi] at hp
  dsimp only at hp
  obtain ⟨rfl, rfl, rfl, rfl⟩ := goTo_inj hp
  unfold okR at hok
  simp only [Bool.and_eq_true] at hok
  obtain ⟨⟨o1, o2⟩, o3⟩ := hok
  have o3 : x < 13 := Nat.le_of_ble_eq_true o3
  have o2 := Nat.eq_of_beq_eq_true o2
  subst o2
  have hcell : mN M + 1 - n0 ≤ R.cells := hcell
  have hslot : mS M + Nn x - s0 ≤ R.slots := hslot
  have hKn := hK.1 x _ (vw_at o3)
  have hz := hR.1.2
  have h2 := hR.1.1
  refine W.newcK hx hb hown (hts _ (inC_ok o1)) (hts _ (in_at o3).1) (hts _ (in_at o3).2) rfl hd (by omega) (by omega) hKn.2.1 rfl fun H1 kC hkC e1 z1 oo => ?_
  refine W.cs (cells' := mN (nwC M (.inl x) (Nn x)) - n0) (slots' := mS (nwC M (.inl x) (Nn x)) - s0) (by show _ = mN M + 1 - n0; omega) (by show _ = mS M + Nn x - s0; omega) ?_
  have h9 := kk H1 locs lsC ⟨hR.new (H1 := H1) (h := .inl x) (sl := Nn x) o3 z1 oo ?_, nwS hS z1 oo, hL, trivial, hV⟩
  · rw [List.map_cons] at h9
    have e9 : cz sz b (.inr (mN M)) = .ref H.size := by
      show va_rf (rf sz b (mN M)) = _
      rw [rf_pos (by omega), ad_2 h2, hz]
      rfl
    rw [e9] at h9
    exact h9
  · rw [cell_obj (show mH (nwC M (.inl x) (Nn x)) (mN M) = .inl x from if_pos rfl)]
    refine ⟨_, vw_at o3, (u_born (Ty x) hts (ws_at o3) hKn hkC e1 (ty_at o3)).to fun j hj => ?_⟩
    rw [vp_V_at (fs_at hj)]
    have hi0 : mI (nwC M (.inl x) (Nn x)) (mN M) j = 0 := if_pos rfl
    have hr0 : mR (nwC M (.inl x) (Nn x)) (mN M) j = 0 := if_pos rfl
    obtain ⟨f1, f2, f3⟩ := fld_at x o3 j hj
    unfold fV
    rw [hi0, hr0]
    by_cases h1 : fk x j = 1
    · rw [if_pos h1, def_ref (f1.trans h1)]
      rfl
    · rw [if_neg h1, def_int f1 h1 (fk_ne9 x o3 j hj)]
      rfl

theorem sp_newa0 (C : Cx sz b L xs D dA m p R s mm args meth c) (S : Sm sz b L xs D dA m s M H locs lsC ls st) (hi : ins m pc = some ((.newarray .int), n, x, y, z, w)) (hp : plan m pc ls st M = some (.inr (.inl (pc', ls', st', M'))))
    (hN : n0 ≤ mN M ∧ 2 ≤ n0 ∧ s.heap.size = sz + (n0 - 2)) (hs0 : s0 ≤ mS M) (hcell : mN M' - n0 ≤ R.cells) (hslot : mS M' - s0 ≤ R.slots) (kk : ∀ (H' : Heap) (locs' : List Loc) (lsC' : Array Slot), Sm sz b L xs D dA m s M' H' locs' lsC' ls' st' → W p l e R s mm args below meth c H' locs' (mN M' - n0) (mS M' - s0) Q (F0 mm pc' lsC' (st'.map (cz sz b)))) : W p l e R s mm args below meth c H locs (mN M - n0) (mS M - s0) Q (F0 mm pc lsC (st.map (cz sz b))) := by
  obtain ⟨⟨hx, hb, hml, hown, hts⟩, hK, hin, hRm, hScr, hsz, hC⟩ := id C
  obtain ⟨hR, hS, hL, hV⟩ := id S
  obtain ⟨hd, hlen, hok⟩ := okC_get hC hi
  obtain rfl : n = 2 := lenOf hlen (by decide)
  unfold plan at hp
  rw [hi] at hp
  dsimp only at hp
  split at hp
  · rename_i v r
    split at hp
    · rename_i hg
      obtain ⟨rfl, rfl, rfl, rfl⟩ := goTo_inj hp
      simp only [Bool.and_eq_true, decide_eq_true_eq] at hg
      obtain ⟨hx0, -, hk0, hk1⟩ := hg
      have hx0 : 0 = x := Nat.eq_of_beq_eq_true hx0
      subst hx0
      have hcell : mN M + 1 - n0 ≤ R.cells := hcell
      have hslot : mS M + v.toNat - s0 ≤ R.slots := hslot
      have hz := hR.1.2
      have h2 := hR.1.1
      have hv : InR v := by unfold InR; omega
      have hw : Cond.arrayClass (newarray.typeOf .int) ∈ WLs := wls_in arr_ok0 rfl
      refine va_newaK hx hb (atype := .int) (hts _ hw) rfl hd rfl (fun q => by rw [← oi_0, oi_lt hv inR_0] at q; omega) (oi_clamp hv) (by show v.toNat * 4 ≤ 536870912; omega) (by omega) (by omega) rfl fun H1 cA e1 z1 oo hAr hfc => ?_
      have hcA : dA 0 = cA := Option.some.inj ((ra_in hK (t := 0) (ty := .int) rfl).symm.trans hfc)
      subst hcA
      refine W.cs (cells' := mN (nwC M (.inr (0, v.toNat)) v.toNat) - n0) (slots' := mS (nwC M (.inr (0, v.toNat)) v.toNat) - s0) (by show _ = mN M + 1 - n0; omega) (by show _ = mS M + v.toNat - s0; omega) ?_
      have h9 := kk H1 locs lsC ⟨hR.new (H1 := H1) (h := .inr (0, v.toNat)) (sl := v.toNat) ⟨by show 0 ≤ 5; omega, by show v.toNat ≤ 100000; omega⟩ z1 oo ?_, nwS hS z1 oo, hL, trivial, hV.2⟩
      · rw [List.map_cons] at h9
        have e9 : cz sz b (.inr (mN M)) = .ref H.size := by
          show va_rf (rf sz b (mN M)) = _
          rw [rf_pos (by omega), ad_2 h2, hz]
          rfl
        rw [e9] at h9
        exact h9
      · rw [cell_arr (show mH (nwC M (.inr (0, v.toNat)) v.toNat) (mN M) = .inr (0, v.toNat) from if_pos rfl) (by decide)]
        show H1[H.size]? = some (vp_cell _ _)
        rw [vp_cell_i, e1]
        have hi0 : ∀ j, mI (nwC M (.inr (0, v.toNat)) v.toNat) (mN M) j = 0 := fun j => if_pos rfl
        congr 2
        funext j
        rw [hi0]
        rfl
    · cases hp
  · cases hp

theorem sp_newa1 (C : Cx sz b L xs D dA m p R s mm args meth c) (S : Sm sz b L xs D dA m s M H locs lsC ls st) (hi : ins m pc = some ((.newarray .byte), n, x, y, z, w)) (hp : plan m pc ls st M = some (.inr (.inl (pc', ls', st', M'))))
    (hN : n0 ≤ mN M ∧ 2 ≤ n0 ∧ s.heap.size = sz + (n0 - 2)) (hs0 : s0 ≤ mS M) (hcell : mN M' - n0 ≤ R.cells) (hslot : mS M' - s0 ≤ R.slots) (kk : ∀ (H' : Heap) (locs' : List Loc) (lsC' : Array Slot), Sm sz b L xs D dA m s M' H' locs' lsC' ls' st' → W p l e R s mm args below meth c H' locs' (mN M' - n0) (mS M' - s0) Q (F0 mm pc' lsC' (st'.map (cz sz b)))) : W p l e R s mm args below meth c H locs (mN M - n0) (mS M - s0) Q (F0 mm pc lsC (st.map (cz sz b))) := by
  obtain ⟨⟨hx, hb, hml, hown, hts⟩, hK, hin, hRm, hScr, hsz, hC⟩ := id C
  obtain ⟨hR, hS, hL, hV⟩ := id S
  obtain ⟨hd, hlen, hok⟩ := okC_get hC hi
  obtain rfl : n = 2 := lenOf hlen (by decide)
  unfold plan at hp
  rw [hi] at hp
  dsimp only at hp
  split at hp
  · rename_i v r
    split at hp
    · rename_i hg
      obtain ⟨rfl, rfl, rfl, rfl⟩ := goTo_inj hp
      simp only [Bool.and_eq_true, decide_eq_true_eq] at hg
      obtain ⟨hx0, -, hk0, hk1⟩ := hg
      have hx0 : 1 = x := Nat.eq_of_beq_eq_true hx0
      subst hx0
      have hcell : mN M + 1 - n0 ≤ R.cells := hcell
      have hslot : mS M + v.toNat - s0 ≤ R.slots := hslot
      have hz := hR.1.2
      have h2 := hR.1.1
      have hv : InR v := by unfold InR; omega
      have hw : Cond.arrayClass (newarray.typeOf .byte) ∈ WLs := wls_in arr_ok1 rfl
      refine va_newaK hx hb (atype := .byte) (hts _ hw) rfl hd rfl (fun q => by rw [← oi_0, oi_lt hv inR_0] at q; omega) (oi_clamp hv) (by show v.toNat * 1 ≤ 536870912; omega) (by omega) (by omega) rfl fun H1 cA e1 z1 oo hAr hfc => ?_
      have hcA : dA 1 = cA := Option.some.inj ((ra_in hK (t := 1) (ty := .byte) rfl).symm.trans hfc)
      subst hcA
      refine W.cs (cells' := mN (nwC M (.inr (1, v.toNat)) v.toNat) - n0) (slots' := mS (nwC M (.inr (1, v.toNat)) v.toNat) - s0) (by show _ = mN M + 1 - n0; omega) (by show _ = mS M + v.toNat - s0; omega) ?_
      have h9 := kk H1 locs lsC ⟨hR.new (H1 := H1) (h := .inr (1, v.toNat)) (sl := v.toNat) ⟨by show 1 ≤ 5; omega, by show v.toNat ≤ 100000; omega⟩ z1 oo ?_, nwS hS z1 oo, hL, trivial, hV.2⟩
      · rw [List.map_cons] at h9
        have e9 : cz sz b (.inr (mN M)) = .ref H.size := by
          show va_rf (rf sz b (mN M)) = _
          rw [rf_pos (by omega), ad_2 h2, hz]
          rfl
        rw [e9] at h9
        exact h9
      · rw [cell_arr (show mH (nwC M (.inr (1, v.toNat)) v.toNat) (mN M) = .inr (1, v.toNat) from if_pos rfl) (by decide)]
        show H1[H.size]? = some (vp_cell _ _)
        rw [vp_cell_i, e1]
        have hi0 : ∀ j, mI (nwC M (.inr (1, v.toNat)) v.toNat) (mN M) j = 0 := fun j => if_pos rfl
        congr 2
        funext j
        rw [hi0]
        rfl
    · cases hp
  · cases hp

theorem sp_newa2 (C : Cx sz b L xs D dA m p R s mm args meth c) (S : Sm sz b L xs D dA m s M H locs lsC ls st) (hi : ins m pc = some ((.newarray .boolean), n, x, y, z, w)) (hp : plan m pc ls st M = some (.inr (.inl (pc', ls', st', M'))))
    (hN : n0 ≤ mN M ∧ 2 ≤ n0 ∧ s.heap.size = sz + (n0 - 2)) (hs0 : s0 ≤ mS M) (hcell : mN M' - n0 ≤ R.cells) (hslot : mS M' - s0 ≤ R.slots) (kk : ∀ (H' : Heap) (locs' : List Loc) (lsC' : Array Slot), Sm sz b L xs D dA m s M' H' locs' lsC' ls' st' → W p l e R s mm args below meth c H' locs' (mN M' - n0) (mS M' - s0) Q (F0 mm pc' lsC' (st'.map (cz sz b)))) : W p l e R s mm args below meth c H locs (mN M - n0) (mS M - s0) Q (F0 mm pc lsC (st.map (cz sz b))) := by
  obtain ⟨⟨hx, hb, hml, hown, hts⟩, hK, hin, hRm, hScr, hsz, hC⟩ := id C
  obtain ⟨hR, hS, hL, hV⟩ := id S
  obtain ⟨hd, hlen, hok⟩ := okC_get hC hi
  obtain rfl : n = 2 := lenOf hlen (by decide)
  unfold plan at hp
  rw [hi] at hp
  dsimp only at hp
  split at hp
  · rename_i v r
    split at hp
    · rename_i hg
      obtain ⟨rfl, rfl, rfl, rfl⟩ := goTo_inj hp
      simp only [Bool.and_eq_true, decide_eq_true_eq] at hg
      obtain ⟨hx0, -, hk0, hk1⟩ := hg
      have hx0 : 2 = x := Nat.eq_of_beq_eq_true hx0
      subst hx0
      have hcell : mN M + 1 - n0 ≤ R.cells := hcell
      have hslot : mS M + v.toNat - s0 ≤ R.slots := hslot
      have hz := hR.1.2
      have h2 := hR.1.1
      have hv : InR v := by unfold InR; omega
      have hw : Cond.arrayClass (newarray.typeOf .boolean) ∈ WLs := wls_in arr_ok2 rfl
      refine va_newaK hx hb (atype := .boolean) (hts _ hw) rfl hd rfl (fun q => by rw [← oi_0, oi_lt hv inR_0] at q; omega) (oi_clamp hv) (by show v.toNat * 1 ≤ 536870912; omega) (by omega) (by omega) rfl fun H1 cA e1 z1 oo hAr hfc => ?_
      have hcA : dA 2 = cA := Option.some.inj ((ra_in hK (t := 2) (ty := .boolean) rfl).symm.trans hfc)
      subst hcA
      refine W.cs (cells' := mN (nwC M (.inr (2, v.toNat)) v.toNat) - n0) (slots' := mS (nwC M (.inr (2, v.toNat)) v.toNat) - s0) (by show _ = mN M + 1 - n0; omega) (by show _ = mS M + v.toNat - s0; omega) ?_
      have h9 := kk H1 locs lsC ⟨hR.new (H1 := H1) (h := .inr (2, v.toNat)) (sl := v.toNat) ⟨by show 2 ≤ 5; omega, by show v.toNat ≤ 100000; omega⟩ z1 oo ?_, nwS hS z1 oo, hL, trivial, hV.2⟩
      · rw [List.map_cons] at h9
        have e9 : cz sz b (.inr (mN M)) = .ref H.size := by
          show va_rf (rf sz b (mN M)) = _
          rw [rf_pos (by omega), ad_2 h2, hz]
          rfl
        rw [e9] at h9
        exact h9
      · rw [cell_arr (show mH (nwC M (.inr (2, v.toNat)) v.toNat) (mN M) = .inr (2, v.toNat) from if_pos rfl) (by decide)]
        show H1[H.size]? = some (vp_cell _ _)
        rw [vp_cell_i, e1]
        have hi0 : ∀ j, mI (nwC M (.inr (2, v.toNat)) v.toNat) (mN M) j = 0 := fun j => if_pos rfl
        congr 2
        funext j
        rw [hi0]
        rfl
    · cases hp
  · cases hp

theorem sp_anew {k : Nat} (C : Cx sz b L xs D dA m p R s mm args meth c) (S : Sm sz b L xs D dA m s M H locs lsC ls st) (hi : ins m pc = some ((.anewarray k), n, x, y, z, w)) (hp : plan m pc ls st M = some (.inr (.inl (pc', ls', st', M'))))
    (hN : n0 ≤ mN M ∧ 2 ≤ n0 ∧ s.heap.size = sz + (n0 - 2)) (hs0 : s0 ≤ mS M) (hcell : mN M' - n0 ≤ R.cells) (hslot : mS M' - s0 ≤ R.slots) (hAO : va_AO (Rn 2) s ∧ va_AO (Rn 1) s ∧ va_AO (Rn 4) s) (kk : ∀ (H' : Heap) (locs' : List Loc) (lsC' : Array Slot), Sm sz b L xs D dA m s M' H' locs' lsC' ls' st' → W p l e R s mm args below meth c H' locs' (mN M' - n0) (mS M' - s0) Q (F0 mm pc' lsC' (st'.map (cz sz b)))) : W p l e R s mm args below meth c H locs (mN M - n0) (mS M - s0) Q (F0 mm pc lsC (st.map (cz sz b))) := by
  obtain ⟨⟨hx, hb, hml, hown, hts⟩, hK, hin, hRm, hScr, hsz, hC⟩ := id C
  obtain ⟨hR, hS, hL, hV⟩ := id S
  obtain ⟨hd, hlen, hok⟩ := okC_get hC hi
  obtain rfl : n = 3 := lenOf hlen (by decide)
  unfold plan at hp
  rw [hi] at hp
  dsimp only at hp
  split at hp
  · rename_i v r
    split at hp
    · rename_i hg
      obtain ⟨rfl, rfl, rfl, rfl⟩ := goTo_inj hp
      rw [decide_eq_true_eq] at hg
      obtain ⟨hk0, hk1⟩ := hg
      have hcell : mN M + 1 - n0 ≤ R.cells := hcell
      have hslot : mS M + v.toNat - s0 ≤ R.slots := hslot
      have hz := hR.1.2
      have h2 := hR.1.1
      have hv : InR v := by unfold InR; omega
      unfold okR at hok
      rcases Bool.or_eq_true_iff.mp hok with hok | o
      rcases Bool.or_eq_true_iff.mp hok with o | o
      · simp only [Bool.and_eq_true] at o
        obtain ⟨o1, o2⟩ := o
        have o1 := Nat.eq_of_beq_eq_true o1
        subst o1
        refine W.anew (C := Rn 2) hx hb hown (hts _ (inC_ok o2)) (va_AO.use hAO.1) rfl hd rfl (fun q => by rw [← oi_0, oi_lt hv inR_0] at q; omega) (by rw [oi_clamp hv]; omega) (by omega) (by rw [oi_clamp hv]; omega) fun cA kA comp f1 f2 f3 f4 => ?_
        have hcA : dA 3 = cA := Option.some.inj ((ra_in hK (t := 3) (ty := .object (Rn 2)) rfl).symm.trans f1)
        subst hcA
        rw [oi_clamp hv]
        generalize hH1 : H.push ({ cls := dA 3, slots := Array.replicate v.toNat .null, vm := .none } : Cell) = H1
        have z1 : H1.size = H.size + 1 := by rw [← hH1, Array.size_push]
        have e1 : H1[H.size]? = some (arrV (dA 3) v.toNat (fun _ => .null)) := by rw [← hH1, Array.getElem?_push_size, ← arrV_new]
        have oo : ∀ q : Nat, q < H.size → H1[q]? = H[q]? := fun q hq => by rw [← hH1, Array.getElem?_push, if_neg (Nat.ne_of_lt hq)]
        refine W.cs (cells' := mN (nwC M (.inr (3, v.toNat)) v.toNat) - n0) (slots' := mS (nwC M (.inr (3, v.toNat)) v.toNat) - s0) (by show _ = mN M + 1 - n0; omega) (by show _ = mS M + v.toNat - s0; omega) ?_
        have h9 := kk H1 locs lsC ⟨hR.new (H1 := H1) (h := .inr (3, v.toNat)) (sl := v.toNat) ⟨by show 3 ≤ 5; omega, by show v.toNat ≤ 100000; omega⟩ z1 oo ?_, nwS hS z1 oo, hL, trivial, hV.2⟩
        · rw [List.map_cons] at h9
          have e9 : cz sz b (.inr (mN M)) = .ref H.size := by
            show va_rf (rf sz b (mN M)) = _
            rw [rf_pos (by omega), ad_2 h2, hz]
            rfl
          rw [e9] at h9
          exact h9
        · rw [cell_arq (show mH (nwC M (.inr (3, v.toNat)) v.toNat) (mN M) = .inr (3, v.toNat) from if_pos rfl) (by decide)]
          show H1[H.size]? = some (vp_cell _ _)
          rw [vp_cell_q, e1]
          have hr0 : ∀ j, mR (nwC M (.inr (3, v.toNat)) v.toNat) (mN M) j = 0 := fun j => if_pos rfl
          congr 2
          funext j
          rw [hr0]
          rfl
      · simp only [Bool.and_eq_true] at o
        obtain ⟨o1, o2⟩ := o
        have o1 := Nat.eq_of_beq_eq_true o1
        subst o1
        refine W.anew (C := Rn 1) hx hb hown (hts _ (inC_ok o2)) (va_AO.use hAO.2.1) rfl hd rfl (fun q => by rw [← oi_0, oi_lt hv inR_0] at q; omega) (by rw [oi_clamp hv]; omega) (by omega) (by rw [oi_clamp hv]; omega) fun cA kA comp f1 f2 f3 f4 => ?_
        have hcA : dA 4 = cA := Option.some.inj ((ra_in hK (t := 4) (ty := .object (Rn 1)) rfl).symm.trans f1)
        subst hcA
        rw [oi_clamp hv]
        generalize hH1 : H.push ({ cls := dA 4, slots := Array.replicate v.toNat .null, vm := .none } : Cell) = H1
        have z1 : H1.size = H.size + 1 := by rw [← hH1, Array.size_push]
        have e1 : H1[H.size]? = some (arrV (dA 4) v.toNat (fun _ => .null)) := by rw [← hH1, Array.getElem?_push_size, ← arrV_new]
        have oo : ∀ q : Nat, q < H.size → H1[q]? = H[q]? := fun q hq => by rw [← hH1, Array.getElem?_push, if_neg (Nat.ne_of_lt hq)]
        refine W.cs (cells' := mN (nwC M (.inr (4, v.toNat)) v.toNat) - n0) (slots' := mS (nwC M (.inr (4, v.toNat)) v.toNat) - s0) (by show _ = mN M + 1 - n0; omega) (by show _ = mS M + v.toNat - s0; omega) ?_
        have h9 := kk H1 locs lsC ⟨hR.new (H1 := H1) (h := .inr (4, v.toNat)) (sl := v.toNat) ⟨by show 4 ≤ 5; omega, by show v.toNat ≤ 100000; omega⟩ z1 oo ?_, nwS hS z1 oo, hL, trivial, hV.2⟩
        · rw [List.map_cons] at h9
          have e9 : cz sz b (.inr (mN M)) = .ref H.size := by
            show va_rf (rf sz b (mN M)) = _
            rw [rf_pos (by omega), ad_2 h2, hz]
            rfl
          rw [e9] at h9
          exact h9
        · rw [cell_arq (show mH (nwC M (.inr (4, v.toNat)) v.toNat) (mN M) = .inr (4, v.toNat) from if_pos rfl) (by decide)]
          show H1[H.size]? = some (vp_cell _ _)
          rw [vp_cell_q, e1]
          have hr0 : ∀ j, mR (nwC M (.inr (4, v.toNat)) v.toNat) (mN M) j = 0 := fun j => if_pos rfl
          congr 2
          funext j
          rw [hr0]
          rfl
      · simp only [Bool.and_eq_true] at o
        obtain ⟨o1, o2⟩ := o
        have o1 := Nat.eq_of_beq_eq_true o1
        subst o1
        refine W.anew (C := Rn 4) hx hb hown (hts _ (inC_ok o2)) (va_AO.use hAO.2.2) rfl hd rfl (fun q => by rw [← oi_0, oi_lt hv inR_0] at q; omega) (by rw [oi_clamp hv]; omega) (by omega) (by rw [oi_clamp hv]; omega) fun cA kA comp f1 f2 f3 f4 => ?_
        have hcA : dA 5 = cA := Option.some.inj ((ra_in hK (t := 5) (ty := .object (Rn 4)) rfl).symm.trans f1)
        subst hcA
        rw [oi_clamp hv]
        generalize hH1 : H.push ({ cls := dA 5, slots := Array.replicate v.toNat .null, vm := .none } : Cell) = H1
        have z1 : H1.size = H.size + 1 := by rw [← hH1, Array.size_push]
        have e1 : H1[H.size]? = some (arrV (dA 5) v.toNat (fun _ => .null)) := by rw [← hH1, Array.getElem?_push_size, ← arrV_new]
        have oo : ∀ q : Nat, q < H.size → H1[q]? = H[q]? := fun q hq => by rw [← hH1, Array.getElem?_push, if_neg (Nat.ne_of_lt hq)]
        refine W.cs (cells' := mN (nwC M (.inr (5, v.toNat)) v.toNat) - n0) (slots' := mS (nwC M (.inr (5, v.toNat)) v.toNat) - s0) (by show _ = mN M + 1 - n0; omega) (by show _ = mS M + v.toNat - s0; omega) ?_
        have h9 := kk H1 locs lsC ⟨hR.new (H1 := H1) (h := .inr (5, v.toNat)) (sl := v.toNat) ⟨by show 5 ≤ 5; omega, by show v.toNat ≤ 100000; omega⟩ z1 oo ?_, nwS hS z1 oo, hL, trivial, hV.2⟩
        · rw [List.map_cons] at h9
          have e9 : cz sz b (.inr (mN M)) = .ref H.size := by
            show va_rf (rf sz b (mN M)) = _
            rw [rf_pos (by omega), ad_2 h2, hz]
            rfl
          rw [e9] at h9
          exact h9
        · rw [cell_arq (show mH (nwC M (.inr (5, v.toNat)) v.toNat) (mN M) = .inr (5, v.toNat) from if_pos rfl) (by decide)]
          show H1[H.size]? = some (vp_cell _ _)
          rw [vp_cell_q, e1]
          have hr0 : ∀ j, mR (nwC M (.inr (5, v.toNat)) v.toNat) (mN M) j = 0 := fun j => if_pos rfl
          congr 2
          funext j
          rw [hr0]
          rfl
    · cases hp
  · cases hp

theorem sp_alen (C : Cx sz b L xs D dA m p R s mm args meth c) (S : Sm sz b L xs D dA m s M H locs lsC ls st) (hi : ins m pc = some ((.arraylength), n, x, y, z, w)) (hp : plan m pc ls st M = some (.inr (.inl (pc', ls', st', M')))) (hL3 : L ≤ 100000)
    (kk : ∀ (H' : Heap) (locs' : List Loc) (lsC' : Array Slot), Sm sz b L xs D dA m s M' H' locs' lsC' ls' st' → W p l e R s mm args below meth c H' locs' (mN M' - n0) (mS M' - s0) Q (F0 mm pc' lsC' (st'.map (cz sz b)))) : W p l e R s mm args below meth c H locs (mN M - n0) (mS M - s0) Q (F0 mm pc lsC (st.map (cz sz b))) := by
  obtain ⟨⟨hx, hb, hml, hown, hts⟩, hK, hin, hRm, hScr, hsz, hC⟩ := id C
  obtain ⟨hR, hS, hL, hV⟩ := id S
  obtain ⟨hd, hlen, hok⟩ := okC_get hC hi
  obtain rfl : n = 1 := lenOf hlen (by decide)
  unfold plan at hp
  rw [hi] at hp
  dsimp only at hp
  split at hp
  · rename_i a r
    split at hp
    · rename_i hg
      obtain ⟨rfl, rfl, rfl, rfl⟩ := goTo_inj hp
      show W p l e R s mm args below meth c H locs (mN M - n0) (mS M - s0) Q (F0 mm pc lsC (va_rf (rf sz b a) :: r.map (cz sz b)))
      rcases Bool.or_eq_true_iff.mp hg with hg | hg
      · simp only [Bool.and_eq_true] at hg
        obtain ⟨g1, g2, g3⟩ := hg
        have g1 : 2 ≤ a := Nat.le_of_ble_eq_true g1
        have g2 : a < mN M := Nat.le_of_ble_eq_true g2
        have g3 : akd M a ≤ 5 := Nat.le_of_ble_eq_true g3
        have hm := akd_ok (M := M) (a := a) rfl (by omega)
        have ho := hR.2.2.2.1 a g1 g2
        rw [hm] at ho
        have ho : akd M a ≤ 5 ∧ alen M a ≤ 100000 := ho
        have h5 := kk H locs lsC ⟨hR, hS, hL, by show InR _; unfold InR; omega, hV.2⟩
        rw [List.map_cons] at h5
        rw [rf_pos (show 1 ≤ a by omega)]
        generalize hk : akd M a = kd at hm g3
        have hc : kd = 0 ∨ kd = 1 ∨ kd = 2 ∨ kd = 3 ∨ kd = 4 ∨ kd = 5 := by omega
        rcases hc with hk | hk | hk | hk | hk | hk
        · subst hk
          have hw := wl_at (sz := sz) (b := b) (dA := dA) g1 g2
          rw [cell_arr hm (by decide)] at hw
          exact va_alen hx hb hK hR.2.1 (a - 2) 0 hw rfl rfl hd h5
        · subst hk
          have hw := wl_at (sz := sz) (b := b) (dA := dA) g1 g2
          rw [cell_arr hm (by decide)] at hw
          exact va_alen hx hb hK hR.2.1 (a - 2) 1 hw rfl rfl hd h5
        · subst hk
          have hw := wl_at (sz := sz) (b := b) (dA := dA) g1 g2
          rw [cell_arr hm (by decide)] at hw
          exact va_alen hx hb hK hR.2.1 (a - 2) 2 hw rfl rfl hd h5
        · subst hk
          have hw := wl_at (sz := sz) (b := b) (dA := dA) g1 g2
          rw [cell_arq hm (by decide)] at hw
          exact va_alen hx hb hK hR.2.1 (a - 2) 3 hw rfl rfl hd h5
        · subst hk
          have hw := wl_at (sz := sz) (b := b) (dA := dA) g1 g2
          rw [cell_arq hm (by decide)] at hw
          exact va_alen hx hb hK hR.2.1 (a - 2) 4 hw rfl rfl hd h5
        · subst hk
          have hw := wl_at (sz := sz) (b := b) (dA := dA) g1 g2
          rw [cell_arq hm (by decide)] at hw
          exact va_alen hx hb hK hR.2.1 (a - 2) 5 hw rfl rfl hd h5
      · simp only [Bool.and_eq_true] at hg
        obtain ⟨g1, g2⟩ := hg
        have g1 := Nat.eq_of_beq_eq_true g1
        have g2 := Nat.eq_of_beq_eq_true g2
        subst g1
        have hal : alen M 1 = L := by unfold alen; rw [hR.2.2.2.2.1]
        have h5 := kk H locs lsC ⟨hR, hS, hL, by show InR _; rw [hal]; unfold InR; omega, hV.2⟩
        rw [hal, List.map_cons] at h5
        rw [rf_pos (show 1 ≤ 1 by omega)]
        exact va_slen hx hb (hScr g2) (Nat.lt_of_lt_of_le hsz.2 hsz.1) (Nat.not_le.mpr hsz.2) hS hd h5
    · cases hp
  · cases hp

theorem sp_table {d lo top : Int} {os : Array Int} (C : Cx sz b L xs D dA m p R s mm args meth c) (S : Sm sz b L xs D dA m s M H locs lsC ls st) (hi : ins m pc = some ((.tableswitch d lo top os), n, x, y, z, w)) (hp : plan m pc ls st M = some (.inr (.inl (pc', ls', st', M'))))
    (kk : ∀ (H' : Heap) (locs' : List Loc) (lsC' : Array Slot), Sm sz b L xs D dA m s M' H' locs' lsC' ls' st' → W p l e R s mm args below meth c H' locs' (mN M' - n0) (mS M' - s0) Q (F0 mm pc' lsC' (st'.map (cz sz b)))) : W p l e R s mm args below meth c H locs (mN M - n0) (mS M - s0) Q (F0 mm pc lsC (st.map (cz sz b))) := by
  obtain ⟨⟨hx, hb, hml, hown, hts⟩, hK, hin, hRm, hScr, hsz, hC⟩ := id C
  obtain ⟨hR, hS, hL, hV⟩ := id S
  obtain ⟨hd, hlen, hok⟩ := okC_get hC hi
  unfold plan at hp
  rw [hi] at hp
  dsimp only at hp
  split at hp
  · rename_i v r
    obtain ⟨hpc, rfl, rfl, rfl⟩ := goTo_inj hp
    unfold okR at hok
    simp only [Bool.and_eq_true, decide_eq_true_eq] at hok
    obtain ⟨⟨o1, o2⟩, o3⟩ := hok
    have hv := oi_toInt hV.1
    by_cases h1 : v < lo ∨ top < v
    · rw [swt_out _ _ (by rw [Array.length_toList]; omega)] at hpc
      subst hpc
      exact lv_tableOut hx hb hd (by rw [hv]; exact h1) o1 (kk H locs lsC ⟨hR, hS, hL, hV.2⟩)
    · have h2 : ¬ v < lo := fun q => h1 (Or.inl q)
      have h3 : ¬ top < v := fun q => h1 (Or.inr q)
      have hlt : (v - lo).toNat < os.size := by omega
      have ho : os[(v - lo).toNat]? = some os[(v - lo).toNat] := Array.getElem?_eq_getElem hlt
      rw [swt_in _ _ (v - lo).toNat (by omega) (by rw [Array.getElem?_toList]; exact ho)] at hpc
      have h4 := List.all_eq_true.mp o2 os[(v - lo).toNat] (by rw [Array.mem_toList_iff]; exact Array.getElem_mem hlt)
      rw [decide_eq_true_eq] at h4
      exact lv_tableIn hx hb hd (by rw [hv]; exact h2) (by rw [hv]; exact h3) (by rw [hv]; exact ho) (by omega) (kk H locs lsC ⟨hR, hS, hL, hV.2⟩)
  · cases hp

theorem sp_mmax {k : Nat} (C : Cx sz b L xs D dA m p R s mm args meth c) (S : Sm sz b L xs D dA m s M H locs lsC ls st) (hi : ins m pc = some ((.invokestatic k), n, 2, y, z, w)) (hp : plan m pc ls st M = some (.inr (.inl (pc', ls', st', M'))))
    (hm1 : 1 ≤ nd m 4) (hm2 : 60 ≤ nd m 5) (hcel : mN M - n0 ≤ R.cells ∧ mS M - s0 ≤ R.slots) (kk : ∀ (H' : Heap) (locs' : List Loc) (lsC' : Array Slot), Sm sz b L xs D dA m s M' H' locs' lsC' ls' st' → W p l e R s mm args below meth c H' locs' (mN M' - n0) (mS M' - s0) Q (F0 mm pc' lsC' (st'.map (cz sz b)))) : W p l e R s mm args below meth c H locs (mN M - n0) (mS M - s0) Q (F0 mm pc lsC (st.map (cz sz b))) := by
  obtain ⟨⟨hx, hb, hml, hown, hts⟩, hK, hin, hRm, hScr, hsz, hC⟩ := id C
  obtain ⟨hR, hS, hL, hV⟩ := id S
  obtain ⟨hd, hlen, hok⟩ := okC_get hC hi
  obtain rfl : n = 3 := lenOf hlen (by decide)
  unfold plan at hp
  rw [hi] at hp
  dsimp only at hp
  rw [if_neg (by decide), if_pos rfl] at hp
  split at hp
  · rename_i v2 v1 r
    split at hp
    · rename_i hg
      obtain ⟨rfl, rfl, rfl, rfl⟩ := goTo_inj hp
      have hg : r.length ≤ 8 := Nat.le_of_ble_eq_true hg
      obtain ⟨hv2, hv1, hV⟩ := hV
      unfold okR at hok
      simp only [Bool.and_eq_true] at hok
      have o1 : Cond.methodLink (Rn (nd m 1)) k Lib.Math.max.name ∈ WLs := inM_ok hok.1
      have h5 := kk H locs lsC ⟨hR, hS, hL, (by show InR (if v1 < v2 then v2 else v1); split <;> assumption), hV⟩
      rw [List.map_cons] at h5
      refine va_mmax hx hb (hml.trans hL.1.symm) hown (hts _ o1) (hts _ (wls_in mmax_stat rfl)) (hts _ (wls_in math_ini rfl)) (hts _ (wls_in mmax_code rfl)) (by omega) (by rw [cat_sum]; omega) hcel.1 hcel.2 hd ?_
      have e9 : cz sz b (.inl (if v1 < v2 then v2 else v1)) = .int (if Int32.ofInt v1 < Int32.ofInt v2 then Int32.ofInt v2 else Int32.ofInt v1) := by
        show Value.int _ = _
        by_cases h : v1 < v2
        · rw [if_pos h, if_pos ((oi_lt hv1 hv2).mpr h)]
        · rw [if_neg h, if_neg (fun q => h ((oi_lt hv1 hv2).mp q))]
      rw [e9] at h5
      exact h5
    · cases hp
  · cases hp

theorem sp_mmin {k : Nat} (C : Cx sz b L xs D dA m p R s mm args meth c) (S : Sm sz b L xs D dA m s M H locs lsC ls st) (hi : ins m pc = some ((.invokestatic k), n, 3, y, z, w)) (hp : plan m pc ls st M = some (.inr (.inl (pc', ls', st', M'))))
    (hm1 : 1 ≤ nd m 4) (hm2 : 60 ≤ nd m 5) (hcel : mN M - n0 ≤ R.cells ∧ mS M - s0 ≤ R.slots) (kk : ∀ (H' : Heap) (locs' : List Loc) (lsC' : Array Slot), Sm sz b L xs D dA m s M' H' locs' lsC' ls' st' → W p l e R s mm args below meth c H' locs' (mN M' - n0) (mS M' - s0) Q (F0 mm pc' lsC' (st'.map (cz sz b)))) : W p l e R s mm args below meth c H locs (mN M - n0) (mS M - s0) Q (F0 mm pc lsC (st.map (cz sz b))) := by
  obtain ⟨⟨hx, hb, hml, hown, hts⟩, hK, hin, hRm, hScr, hsz, hC⟩ := id C
  obtain ⟨hR, hS, hL, hV⟩ := id S
  obtain ⟨hd, hlen, hok⟩ := okC_get hC hi
  obtain rfl : n = 3 := lenOf hlen (by decide)
  unfold plan at hp
  rw [hi] at hp
  dsimp only at hp
  rw [if_neg (by decide), if_neg (by decide), if_pos rfl] at hp
  split at hp
  · rename_i v2 v1 r
    split at hp
    · rename_i hg
      obtain ⟨rfl, rfl, rfl, rfl⟩ := goTo_inj hp
      have hg : r.length ≤ 8 := Nat.le_of_ble_eq_true hg
      obtain ⟨hv2, hv1, hV⟩ := hV
      unfold okR at hok
      simp only [Bool.and_eq_true] at hok
      have o1 : Cond.methodLink (Rn (nd m 1)) k Lib.Math.min.name ∈ WLs := inM_ok hok.1
      have h5 := kk H locs lsC ⟨hR, hS, hL, (by show InR (if v2 < v1 then v2 else v1); split <;> assumption), hV⟩
      rw [List.map_cons] at h5
      refine va_mmin hx hb (hml.trans hL.1.symm) hown (hts _ o1) (hts _ (wls_in mmin_stat rfl)) (hts _ (wls_in math_ini rfl)) (hts _ (wls_in mmin_code rfl)) (by omega) (by rw [cat_sum]; omega) hcel.1 hcel.2 hd ?_
      have e9 : cz sz b (.inl (if v2 < v1 then v2 else v1)) = .int (if Int32.ofInt v2 < Int32.ofInt v1 then Int32.ofInt v2 else Int32.ofInt v1) := by
        show Value.int _ = _
        by_cases h : v2 < v1
        · rw [if_pos h, if_pos ((oi_lt hv2 hv1).mpr h)]
        · rw [if_neg h, if_neg (fun q => h ((oi_lt hv2 hv1).mp q))]
      rw [e9] at h5
      exact h5
    · cases hp
  · cases hp

theorem sp_copy {k : Nat} (C : Cx sz b L xs D dA m p R s mm args meth c) (S : Sm sz b L xs D dA m s M H locs lsC ls st) (hi : ins m pc = some ((.invokestatic k), n, 1, y, z, w)) (hp : plan m pc ls st M = some (.inr (.inl (pc', ls', st', M'))))
    (hm1 : 1 ≤ nd m 4) (hm2 : 60 ≤ nd m 5) (hN : n0 ≤ mN M ∧ 2 ≤ n0 ∧ s.heap.size = sz + (n0 - 2)) (kk : ∀ (H' : Heap) (locs' : List Loc) (lsC' : Array Slot), Sm sz b L xs D dA m s M' H' locs' lsC' ls' st' → W p l e R s mm args below meth c H' locs' (mN M' - n0) (mS M' - s0) Q (F0 mm pc' lsC' (st'.map (cz sz b)))) : W p l e R s mm args below meth c H locs (mN M - n0) (mS M - s0) Q (F0 mm pc lsC (st.map (cz sz b))) := by
  obtain ⟨⟨hx, hb, hml, hown, hts⟩, hK, hin, hRm, hScr, hsz, hC⟩ := id C
  obtain ⟨hR, hS, hL, hV⟩ := id S
  obtain ⟨hd, hlen, hok⟩ := okC_get hC hi
  obtain rfl : n = 3 := lenOf hlen (by decide)
  unfold plan at hp
  rw [hi] at hp
  dsimp only at hp
  rw [if_pos rfl] at hp
  split at hp
  · rename_i v1 dp d sp s1 r
    split at hp
    · rename_i hg
      obtain ⟨rfl, rfl, rfl, rfl⟩ := goTo_inj hp
      simp only [Bool.and_eq_true, decide_eq_true_eq] at hg
      obtain ⟨⟨⟨⟨s2, s3, s4⟩, d2, d3, d4⟩, hg⟩, c1, c2, c3, c4, c5⟩ := hg
      have s2 : 2 ≤ s1 := Nat.le_of_ble_eq_true s2
      have s3 : s1 < mN M := Nat.le_of_ble_eq_true s3
      have s4 := akd_ok (Nat.eq_of_beq_eq_true s4) (by decide)
      have d2 : 2 ≤ d := Nat.le_of_ble_eq_true d2
      have d3 : d < mN M := Nat.le_of_ble_eq_true d3
      have d4 := akd_ok (Nat.eq_of_beq_eq_true d4) (by decide)
      have hg : r.length ≤ 8 := Nat.le_of_ble_eq_true hg
      obtain ⟨w1, w2, -, w3, -, hV⟩ := hV
      have w1 : InR v1 := w1
      have w2 : InR dp := w2
      have w3 : InR sp := w3
      unfold okR at hok
      simp only [Bool.and_eq_true] at hok
      have o1 : Cond.methodLink (Rn (nd m 1)) k arraycopyName ∈ WLs := inM_ok hok.1
      have hs := wl_at (sz := sz) (b := b) (dA := dA) s2 s3
      rw [cell_arr s4 (by decide)] at hs
      have hdd := wl_at (sz := sz) (b := b) (dA := dA) d2 d3
      rw [cell_arr d4 (by decide)] at hdd
      show W p l e R s mm args below meth c H locs (mN M - n0) (mS M - s0) Q (F0 mm pc lsC (.int (Int32.ofInt v1) :: .int (Int32.ofInt dp) :: va_rf (rf sz b d) :: .int (Int32.ofInt sp) :: va_rf (rf sz b s1) :: r.map (cz sz b)))
      rw [rf_pos (show 1 ≤ d by omega), rf_pos (show 1 ≤ s1 by omega)]
      have nn : ∀ {q : Int}, InR q → 0 ≤ q → ¬ Int32.ofInt q < 0 := fun h1 h2 q => by rw [← oi_0, oi_lt h1 inR_0] at q; omega
      refine va_copyi hx hb (hml.trans hL.1.symm) hown (hts _ o1) (hts _ (wls_in ac_nat rfl)) (hts _ (wls_in ac_stat rfl)) (hts _ (wls_in ac_ini rfl)) hK hR.2.1 wl_D hS (s1 - 2) (d - 2) 0 0 (ty := .int) hs hdd rfl rfl rfl (nn w3 c1) (nn w2 c2) (nn w1 c3) (by rw [oi_clamp w3, oi_clamp w1]; omega) (by rw [oi_clamp w2, oi_clamp w1]; omega) (fun i _ => rfl) (by omega) (by rw [cat_sum]; show r.length + (7 + 11) ≤ R.locals; omega) hd fun H1 locs1 a1 _ a3 => ?_
      rw [oi_clamp w3, oi_clamp w1, oi_clamp w2] at a1
      have e1 : va_cpy (fun j => Int32.ofInt (mI M s1 j)) (fun j => Int32.ofInt (mI M d j)) sp.toNat dp.toNat v1.toNat = fun j => Int32.ofInt (mI (cpI M s1 sp.toNat d dp.toNat v1.toNat) d j) := by
        funext j
        show (if dp.toNat ≤ j ∧ j < dp.toNat + v1.toNat then Int32.ofInt (mI M s1 (sp.toNat + (j - dp.toNat))) else Int32.ofInt (mI M d j)) = Int32.ofInt (if d = d ∧ dp.toNat ≤ j ∧ j < dp.toNat + v1.toNat then mI M s1 (sp.toNat + (j - dp.toNat)) else mI M d j)
        by_cases h : dp.toNat ≤ j ∧ j < dp.toNat + v1.toNat
        · rw [if_pos h, if_pos ⟨rfl, h⟩]
        · rw [if_neg h, if_neg (fun q => h q.2)]
      rw [e1] at a1
      have h9 := wl_upd (sz := sz) (b := b) (dA := dA) (M := M) (M1 := cpI M s1 sp.toNat d dp.toNat v1.toNat) d2 rfl cell_cpI
      rw [cell_arr (show mH (cpI M s1 sp.toNat d dp.toNat v1.toNat) d = _ from d4) (by decide)] at h9
      rw [h9] at a1
      exact sz_fix hN (M1 := cpI M s1 sp.toNat d dp.toNat v1.toNat) rfl a1 a3.1 fun a4 => kk H1 locs1 lsC ⟨hR.cp d2 (a4.trans hR.1.2.symm) a1, a3, hL, hV⟩
    · cases hp
  · cases hp

theorem sp_objI {k : Nat} (C : Cx sz b L xs D dA m p R s mm args meth c) (S : Sm sz b L xs D dA m s M H locs lsC ls st) (hi : ins m pc = some ((.invokespecial k), n, 0, y, z, w)) (hp : plan m pc ls st M = some (.inr (.inl (pc', ls', st', M'))))
    (hm1 : 1 ≤ nd m 4) (hm2 : 60 ≤ nd m 5) (kk : ∀ (H' : Heap) (locs' : List Loc) (lsC' : Array Slot), Sm sz b L xs D dA m s M' H' locs' lsC' ls' st' → W p l e R s mm args below meth c H' locs' (mN M' - n0) (mS M' - s0) Q (F0 mm pc' lsC' (st'.map (cz sz b)))) : W p l e R s mm args below meth c H locs (mN M - n0) (mS M - s0) Q (F0 mm pc lsC (st.map (cz sz b))) := by
  obtain ⟨⟨hx, hb, hml, hown, hts⟩, hK, hin, hRm, hScr, hsz, hC⟩ := id C
  obtain ⟨hR, hS, hL, hV⟩ := id S
  obtain ⟨hd, hlen, hok⟩ := okC_get hC hi
  obtain rfl : n = 3 := lenOf hlen (by decide)
  unfold plan at hp
  rw [hi] at hp
  dsimp only at hp
  rw [if_pos rfl] at hp
  split at hp
  · rename_i a r
    split at hp
    · rename_i hg
      obtain ⟨rfl, rfl, rfl, rfl⟩ := goTo_inj hp
      simp only [Bool.and_eq_true] at hg
      have ha : 0 < a := Nat.le_of_ble_eq_true hg.1
      have hg : r.length ≤ 8 := Nat.le_of_ble_eq_true hg.2
      unfold okR at hok
      simp only [Bool.and_eq_true] at hok
      have o1 : Cond.methodLink (Rn (nd m 1)) k Lib.objectInit ∈ WLs := inM_ok hok.1
      show W p l e R s mm args below meth c H locs (mN M - n0) (mS M - s0) Q (F0 mm pc lsC (va_rf (rf sz b a) :: r.map (cz sz b)))
      rw [rf_pos (show 1 ≤ a by omega)]
      refine W.objInit hx hb hown (hts _ o1) (hts _ (wls_in objI_inst rfl)) (hts _ (wls_in objI_code rfl)) rfl (hL.1.trans hml.symm) rfl hd (by omega) (by rw [cat_sum]; show 2 * 0 + r.length + 12 ≤ R.locals; omega) ?_
      exact kk H locs lsC ⟨hR, hS, hL, hV.2⟩
    · cases hp
  · cases hp

end STEP3

/-! ===== one step at the memory ===== -/
noncomputable def TyT : List (Nat → FieldType) := [tyX0, tyX1, tyX2, tyX3, tyX4, tyX5, tyX6, tyX7, tyX8, tyX9, tyX10, tyX11, tyX12]
noncomputable def Ty (c k : Nat) : FieldType := (TyT.getD c (fun _ => .int)) k
def tyK : FieldType → Nat
  | .int => 0
  | .object _ => 1
  | .array _ => 1
  | .boolean => 2
  | _ => 9
theorem lt13 {c : Nat} (h : c < 13) : c = 0 ∨ c = 1 ∨ c = 2 ∨ c = 3 ∨ c = 4 ∨ c = 5 ∨ c = 6 ∨ c = 7 ∨ c = 8 ∨ c = 9 ∨ c = 10 ∨ c = 11 ∨ c = 12 := by omega
theorem vw_at {c : Nat} (h : c < 13) : vwCl[c]? = some (Rn c, Tn c, Nn c) := by
  rcases lt13 h with h | h | h | h | h | h | h | h | h | h | h | h | h <;> subst h <;> rfl
theorem ty_at {c : Nat} (h : c < 13) : ∀ k, k < Nn c → parseFieldDescriptor (Tn c k).2.2.1 = some (Ty c k) := by
  rcases lt13 h with h | h | h | h | h | h | h | h | h | h | h | h | h <;> subst h
  · exact tyX0_ok
  · exact tyX1_ok
  · exact tyX2_ok
  · exact tyX3_ok
  · exact tyX4_ok
  · exact tyX5_ok
  · exact tyX6_ok
  · exact tyX7_ok
  · exact tyX8_ok
  · exact tyX9_ok
  · exact tyX10_ok
  · exact tyX11_ok
  · exact tyX12_ok
theorem nm_at {c : Nat} (h : c < 13) : ∀ a, a < Nn c → ∀ b, b < Nn c → a ≠ b → (Tn c a).2.1 ≠ (Tn c b).2.1 := by
  rcases lt13 h with h | h | h | h | h | h | h | h | h | h | h | h | h <;> subst h
  · exact nmX0
  · exact nmX1
  · exact nmX2
  · exact nmX3
  · exact nmX4
  · exact nmX5
  · exact nmX6
  · exact nmX7
  · exact nmX8
  · exact nmX9
  · exact nmX10
  · exact nmX11
  · exact nmX12
theorem fld_at : ∀ c, c < 13 → ∀ k, k < Nn c → tyK (Ty c k) = fk c k ∧ (Tn c k).2.2.2 = Nat.beq (ff c k) 1 ∧ (Tn c k).1 = Rn c := by decide +kernel
theorem ws_at {c : Nat} (h : c < 13) : ∀ w ∈ u_ws (Rn c) (Tn c) (Nn c), w ∈ WLs := by
  intro w hw
  have h1 := LAll.mem cls_ok c (by rcases lt13 h with h | h | h | h | h | h | h | h | h | h | h | h | h <;> subst h <;> decide)
  refine wls_in (LAll.mem h1.2 w hw) ?_
  obtain ⟨k, -, rfl⟩ := List.mem_map.mp hw
  unfold u_lay
  split <;> rfl
theorem in_at {c : Nat} (h : c < 13) : Cond.instantiable (Rn c) (Nn c) ∈ WLs ∧ Cond.initialized (Rn c) ∈ WLs := by
  have h1 := LAll.mem cls_ok c (by rcases lt13 h with h | h | h | h | h | h | h | h | h | h | h | h | h <;> subst h <;> decide)
  exact ⟨wls_in h1.1.1 rfl, wls_in h1.1.2 rfl⟩
theorem inF_ok {c k x y : Nat} (h : inF c k x y = true) : Cond.fieldLink (Rn c) k (Tn x y).1 (Tn x y).2.1 (Tn x y).2.2.1 ∈ WLs := by
  unfold inF at h
  cases hq : flT[fpos c k]? with
  | none => rw [hq] at h; cases h
  | some q =>
    obtain ⟨a, b, d, e⟩ := q
    rw [hq] at h
    simp only [Bool.and_eq_true] at h
    have h1 := LAll.mem flT_ok _ (List.mem_of_getElem? hq)
    rw [Nat.eq_of_beq_eq_true h.1, Nat.eq_of_beq_eq_true h.2.1, Nat.eq_of_beq_eq_true h.2.2.1, Nat.eq_of_beq_eq_true h.2.2.2] at h1
    exact wls_in h1 rfl
theorem inM_ok {c k x : Nat} (h : inM c k x = true) : Cond.methodLink (Rn c) k (my x) ∈ WLs := by
  unfold inM at h
  cases hq : mlT[mpos c k]? with
  | none => rw [hq] at h; cases h
  | some q =>
    obtain ⟨a, b, d⟩ := q
    rw [hq] at h
    simp only [Bool.and_eq_true] at h
    have h1 := LAll.mem mlT_ok _ (List.mem_of_getElem? hq)
    rw [Nat.eq_of_beq_eq_true h.1, Nat.eq_of_beq_eq_true h.2.1, Nat.eq_of_beq_eq_true h.2.2] at h1
    exact wls_in h1 rfl
theorem inC_ok {c k x : Nat} (h : inC c k x = true) : Cond.classLink (Rn c) k (Rn x) ∈ WLs := by
  unfold inC at h
  rw [List.any_eq_true] at h
  obtain ⟨q, hq, h⟩ := h
  simp only [Bool.and_eq_true] at h
  have h1 := LAll.mem clT_ok q hq
  rw [Nat.eq_of_beq_eq_true h.1, Nat.eq_of_beq_eq_true h.2.1, Nat.eq_of_beq_eq_true h.2.2] at h1
  exact wls_in h1 rfl
theorem nar_ref {t : FieldType} (h : tyK t = 1) (r : Option Nat) : narrow t (va_rf r) = va_rf r ∧ fits t (va_rf r) = true := by
  cases t <;> first | exact absurd h (by decide) | (cases r <;> exact ⟨rfl, rfl⟩)
theorem nar_int {t : FieldType} {k : Nat} {v : Int} (h : tyK t = k) (hk : k ≠ 1) (hk9 : k ≠ 9) (hv : k = 0 ∨ (v = 0 ∨ v = 1)) : narrow t (.int (Int32.ofInt v)) = .int (Int32.ofInt v) ∧ fits t (.int (Int32.ofInt v)) = true := by
  cases t <;> first | exact absurd h.symm hk | exact absurd h.symm hk9 | exact ⟨rfl, rfl⟩ | skip
  rcases hv with q | q | q
  · rw [q] at h; cases h
  · subst q; exact ⟨by decide, by decide⟩
  · subst q; exact ⟨by decide, by decide⟩
theorem def_ref {t : FieldType} (h : tyK t = 1) : defaultValue t = .null := by
  cases t <;> first | exact absurd h (by decide) | rfl
theorem def_int {t : FieldType} {k : Nat} (h : tyK t = k) (hk : k ≠ 1) (hk9 : k ≠ 9) : defaultValue t = .int 0 := by
  cases t <;> first | exact absurd h.symm hk | exact absurd h.symm hk9 | rfl
theorem gO_ok {M : Mem} {a c : Nat} (h : gO M a c = true) : 2 ≤ a ∧ a < mN M ∧ mH M a = .inl c := by
  unfold gO at h
  simp only [Bool.and_eq_true, decide_eq_true_eq] at h
  exact ⟨Nat.le_of_ble_eq_true h.1, Nat.le_of_ble_eq_true h.2.1, h.2.2⟩
theorem akd_ok {M : Mem} {a kd : Nat} (h : akd M a = kd) (hk : kd < 100) : mH M a = .inr (kd, alen M a) := by
  unfold akd at h
  unfold alen
  split at h
  · rename_i q hq
    rw [hq]
    show Sum.inr q = Sum.inr (kd, q.2)
    rw [← h]
  · omega
theorem gS_ok {M : Mem} {a kd : Nat} {i : Int} (h : gS M a kd i = true) (hk : kd < 100) : 2 ≤ a ∧ a < mN M ∧ mH M a = .inr (kd, alen M a) ∧ 0 ≤ i ∧ i < (alen M a : Int) := by
  unfold gS at h
  simp only [Bool.and_eq_true, decide_eq_true_eq] at h
  exact ⟨Nat.le_of_ble_eq_true h.1, Nat.le_of_ble_eq_true h.2.1, akd_ok (Nat.eq_of_beq_eq_true h.2.2.1) hk, h.2.2.2⟩
section CELLS
variable {sz b : Nat} {dA : Nat → ClassId} {M : Mem} {a : Nat}
theorem cell_obj {c : Nat} (h : mH M a = .inl c) : cellOf sz b dA M a = .inr (c, (List.range (Nn c)).map (fV sz b M a c)) := by
  unfold cellOf; rw [h]
theorem cell_arr {kd n : Nat} (h : mH M a = .inr (kd, n)) (hk : kd ≤ 2) : cellOf sz b dA M a = .inl (dA kd, (n, .inl fun j => Int32.ofInt (mI M a j))) := by
  unfold cellOf; rw [h]; dsimp only; rw [if_pos hk]
theorem cell_arq {kd n : Nat} (h : mH M a = .inr (kd, n)) (hk : ¬ kd ≤ 2) : cellOf sz b dA M a = .inl (dA kd, (n, .inr (.inr (.inr (.inr fun j => rf sz b (mR M a j)))))) := by
  unfold cellOf; rw [h]; dsimp only; rw [if_neg hk]
theorem fs_at {c k : Nat} (hk : k < Nn c) : ((List.range (Nn c)).map (fV sz b M a c))[k]? = some (fV sz b M a c k) := by
  rw [List.getElem?_map, List.getElem?_range hk]; rfl
end CELLS
theorem upd_int {f : Nat → Int32} {M : Mem} {a k : Nat} {v : Int} (hf : f = fun j => Int32.ofInt (mI M a j)) : upd f k (Int32.ofInt v) = fun j => Int32.ofInt (mI (stI M a k v) a j) := by
  funext j
  subst hf
  show (if j = k then Int32.ofInt v else Int32.ofInt (mI M a j)) = Int32.ofInt (if a = a ∧ j = k then v else mI M a j)
  by_cases h : j = k
  · rw [if_pos h, if_pos ⟨rfl, h⟩]
  · rw [if_neg h, if_neg (fun q => h q.2)]
theorem fk_ne9 : ∀ c, c < 13 → ∀ k, k < Nn c → fk c k ≠ 9 := by decide +kernel
theorem beq_ff {q : Nat} (h : ¬ q = 1) : Nat.beq q 1 = false := by
  cases hb : Nat.beq q 1 with
  | false => rfl
  | true => exact absurd (Nat.eq_of_beq_eq_true hb) h
theorem upq_ref {sz b : Nat} {M : Mem} {a k v : Nat} (hv : 1 ≤ v) : va_up (fun j => rf sz b (mR M a j)) k (some (ad sz b v)) = fun j => rf sz b (mR (stR M a k v) a j) := by
  funext j
  show (if j = k then some (ad sz b v) else rf sz b (mR M a j)) = rf sz b (if a = a ∧ j = k then v else mR M a j)
  by_cases h : j = k
  · rw [if_pos h, if_pos ⟨rfl, h⟩, show rf sz b v = some (ad sz b v) from if_neg (by omega)]
  · rw [if_neg h, if_neg (fun q => h q.2)]
theorem ad_1 (sz b : Nat) : ad sz b 1 = b := rfl
theorem rf_pos {sz b a : Nat} (h : 1 ≤ a) : rf sz b a = some (ad sz b a) := if_neg (by omega)

theorem va_P.lt_at {D : va_G} {cl : List vw_C} {ws : va_W} {H : Heap} (h : va_P D cl ws H) {k : Nat} {q : Nat × va_E} (hq : ws[k]? = some q) : q.1 < H.size := (h k q hq).lt
section STEP2
variable {sz b L : Nat} {xs : Nat → Int32} {D : va_G} {dA : Nat → ClassId} {m : Nat} {p : Program} {l : Launch} {e : Env} {R : Room} {s : State} {mm : MethodId} {args : Array Value} {below : List Frame} {meth : Method} {c : Code} {Q : State → Prop}
variable {pc pc' n x y z w n0 s0 : Nat} {ls ls' : List LV} {st st' : List PV} {M M' : Mem} {H : Heap} {locs : List Loc} {lsC : Array Slot}

theorem sz_fix {M1 : Mem} {locs1 : List Loc} {H1 : Heap} {g : JFrame} (hN : n0 ≤ mN M ∧ 2 ≤ n0 ∧ s.heap.size = sz + (n0 - 2)) (hm : mN M1 = mN M) (hP : va_P D vwCl (wl sz b dA M1) H1) (hS : s.heap.size ≤ H1.size) (kk : H1.size = sz + (mN M - 2) → W p l e R s mm args below meth c H1 locs1 (mN M - n0) (mS M - s0) Q g) : W p l e R s mm args below meth c H1 locs1 (mN M - n0) (mS M - s0) Q g := by
  intro T hT X
  have h1 := X.heapSize
  rw [hT] at h1
  have h2 : sz + (mN M - 2) ≤ H1.size := by
    by_cases h3 : mN M = n0
    · rw [h3]; omega
    · have h4 := hP.lt_at (wl_at (sz := sz) (b := b) (dA := dA) (M := M1) (a := mN M - 1) (by omega) (by omega))
      rw [ad_2 (by omega)] at h4
      omega
  exact kk (by omega) T hT X

theorem sp_getfield {k : Nat} (C : Cx sz b L xs D dA m p R s mm args meth c) (S : Sm sz b L xs D dA m s M H locs lsC ls st) (hi : ins m pc = some ((.getfield k), n, x, y, z, w)) (hp : plan m pc ls st M = some (.inr (.inl (pc', ls', st', M'))))
    (kk : ∀ (H' : Heap) (locs' : List Loc) (lsC' : Array Slot), Sm sz b L xs D dA m s M' H' locs' lsC' ls' st' → W p l e R s mm args below meth c H' locs' (mN M' - n0) (mS M' - s0) Q (F0 mm pc' lsC' (st'.map (cz sz b)))) : W p l e R s mm args below meth c H locs (mN M - n0) (mS M - s0) Q (F0 mm pc lsC (st.map (cz sz b))) := by
  obtain ⟨⟨hx, hb, hml, hown, hts⟩, hK, hin, hRm, hScr, hsz, hC⟩ := id C
  obtain ⟨hR, hS, hL, hV⟩ := id S
  obtain ⟨hd, hlen, hok⟩ := okC_get hC hi
  obtain rfl : n = 3 := lenOf hlen (by decide)
  unfold plan at hp
  rw [hi] at hp
  dsimp only at hp
  split at hp
  · rename_i a r
    split at hp
    · rename_i hg
      obtain ⟨rfl, rfl, rfl, rfl⟩ := goTo_inj hp
      obtain ⟨g1, g2, g3⟩ := gO_ok hg
      unfold okR at hok
      simp only [Bool.and_eq_true] at hok
      obtain ⟨⟨⟨o1, o2⟩, o3⟩, o4⟩ := hok
      have o3 : y < Nn x := Nat.le_of_ble_eq_true o3
      have o4 : x < 13 := Nat.le_of_ble_eq_true o4
      have o2 := Nat.eq_of_beq_eq_true o2
      have hw := wl_at (sz := sz) (b := b) (dA := dA) g1 g2
      rw [cell_obj g3] at hw
      show W p l e R s mm args below meth c H locs (mN M - n0) (mS M - s0) Q (F0 mm pc lsC (va_rf (rf sz b a) :: r.map (cz sz b)))
      rw [rf_pos (show 1 ≤ a by omega)]
      refine va_get hx hb hts (ws_at o4) hown hK hR.2.1 (a - 2) hw (vw_at o4) y o3 (hts _ (inF_ok o1)) (fun x h => h) (fs_at o3) hd ?_
      have h5 := kk H locs lsC ⟨hR, hS, hL, by
        refine ⟨?_, hV.2⟩
        split
        · trivial
        · exact hR.2.2.1 _ _⟩
      rw [List.map_cons] at h5
      have e1 : cz sz b (if z = 1 then .inr (mR M a y) else .inl (mI M a y)) = fV sz b M a x y := by
        unfold fV
        rw [o2]
        split <;> rfl
      rw [e1] at h5
      exact h5
    · cases hp
  · cases hp

theorem sp_putfield {k : Nat} (C : Cx sz b L xs D dA m p R s mm args meth c) (S : Sm sz b L xs D dA m s M H locs lsC ls st) (hi : ins m pc = some ((.putfield k), n, x, y, z, w)) (hp : plan m pc ls st M = some (.inr (.inl (pc', ls', st', M'))))
    (hN : n0 ≤ mN M ∧ 2 ≤ n0 ∧ s.heap.size = sz + (n0 - 2)) (kk : ∀ (H' : Heap) (locs' : List Loc) (lsC' : Array Slot), Sm sz b L xs D dA m s M' H' locs' lsC' ls' st' → W p l e R s mm args below meth c H' locs' (mN M' - n0) (mS M' - s0) Q (F0 mm pc' lsC' (st'.map (cz sz b)))) : W p l e R s mm args below meth c H locs (mN M - n0) (mS M - s0) Q (F0 mm pc lsC (st.map (cz sz b))) := by
  obtain ⟨⟨hx, hb, hml, hown, hts⟩, hK, hin, hRm, hScr, hsz, hC⟩ := id C
  obtain ⟨hR, hS, hL, hV⟩ := id S
  obtain ⟨hd, hlen, hok⟩ := okC_get hC hi
  obtain rfl : n = 3 := lenOf hlen (by decide)
  unfold plan at hp
  rw [hi] at hp
  dsimp only at hp
  have hok2 := hok
  unfold okR at hok2
  simp only [Bool.and_eq_true] at hok2
  obtain ⟨⟨⟨⟨⟨o1, o2⟩, o3⟩, o4⟩, o5⟩, o6⟩ := hok2
  have o3 : y < Nn x := Nat.le_of_ble_eq_true o3
  have o4 : x < 13 := Nat.le_of_ble_eq_true o4
  have o2 := Nat.eq_of_beq_eq_true o2
  obtain ⟨f1, f2, f3⟩ := fld_at x o4 y o3
  have hne9 : fk x y ≠ 9 := fk_ne9 x o4 y o3
  split at hp
  · rename_i hz
    split at hp
    · rename_i v a r
      split at hp
      · rename_i hg
        obtain ⟨rfl, rfl, rfl, rfl⟩ := goTo_inj hp
        obtain ⟨g1, g2, g3⟩ := gO_ok hg
        have hw := wl_at (sz := sz) (b := b) (dA := dA) g1 g2
        rw [cell_obj g3] at hw
        have hn := nar_ref (f1.trans (o2.trans hz)) (rf sz b v)
        have e1 : (List.range (Nn x)).map (fV sz b (stR M a y v) a x) = ((List.range (Nn x)).map (fV sz b M a x)).set y (va_rf (rf sz b v)) := by
          refine map_set o3 ?_ ?_
          · unfold fV
            rw [if_pos (o2.trans hz)]
            show va_rf (rf sz b (if a = a ∧ y = y then v else mR M a y)) = _
            rw [if_pos ⟨rfl, rfl⟩]
          · intro j hj
            have hm : mR (stR M a y v) a j = mR M a j := if_neg (fun q => hj q.2)
            unfold fV
            rw [hm]
            rfl
        have e2 : (wl sz b dA M).set (a - 2) (ad sz b a, .inr (x, ((List.range (Nn x)).map (fV sz b M a x)).set y (va_rf (rf sz b v)))) = wl sz b dA (stR M a y v) := by
          rw [← e1]
          have h9 := wl_upd (sz := sz) (b := b) (dA := dA) (M := M) (M1 := stR M a y v) g1 rfl cell_stR
          rw [cell_obj (show mH (stR M a y v) a = .inl x from g3)] at h9
          exact h9
        show W p l e R s mm args below meth c H locs (mN M - n0) (mS M - s0) Q (F0 mm pc lsC (va_rf (rf sz b v) :: va_rf (rf sz b a) :: r.map (cz sz b)))
        rw [rf_pos (show 1 ≤ a by omega)]
        have kk2 : ∀ (H1 : Heap) (locs1 : List Loc), va_P D vwCl ((wl sz b dA M).set (a - 2) (ad sz b a, .inr (x, ((List.range (Nn x)).map (fV sz b M a x)).set y (va_rf (rf sz b v))))) H1 → va_D (fun q => sz ≤ q) ((wl sz b dA M).set (a - 2) (ad sz b a, .inr (x, ((List.range (Nn x)).map (fV sz b M a x)).set y (va_rf (rf sz b v))))) → va_S (fun q => sz ≤ q) s.heap H1 locs1 → W p l e R s mm args below meth c H1 locs1 (mN M - n0) (mS M - s0) Q (F0 mm (pc + 3) lsC (r.map (cz sz b))) := fun H1 locs1 a1 _ a3 => sz_fix hN (M1 := stR M a y v) rfl (e2 ▸ a1) a3.1 fun a4 => kk H1 locs1 lsC ⟨hR.ref (a4.trans hR.1.2.symm) (e2 ▸ a1), a3, hL, hV.2.2⟩
        by_cases hff : ff x y = 1
        · rw [hff] at o5 f2
          have hw1 : w = 1 := (Nat.eq_of_beq_eq_true o5).symm
          subst hw1
          have o6 : nd m 6 = 1 ∧ nd m 1 = x := by
            simp only [Bool.or_eq_true, Bool.and_eq_true] at o6
            rcases o6 with q | q
            · cases q
            · exact ⟨Nat.eq_of_beq_eq_true q.1, Nat.eq_of_beq_eq_true q.2⟩
          exact va_putF hx hb hts (ws_at o4) (Ty x) (ty_at o4) (nm_at o4) hown hK hR.2.1 wl_D hS (a - 2) hw (vw_at o4) y o3 (hts _ (inF_ok o1)) (fun x h => h) (f2.trans rfl) (hin o6.1) (f3.trans (by rw [o6.2])) (ty_at o4 y o3) hn.1 hn.2 (by rw [List.length_map, List.length_range]; exact o3) hd kk2
        · exact va_put hx hb hts (ws_at o4) (Ty x) (ty_at o4) (nm_at o4) hown hK hR.2.1 wl_D hS (a - 2) hw (vw_at o4) y o3 (hts _ (inF_ok o1)) (fun x h => h) (f2.trans (beq_ff hff)) (ty_at o4 y o3) hn.1 hn.2 (by rw [List.length_map, List.length_range]; exact o3) hd kk2
      · cases hp
    · cases hp
  · rename_i hz
    split at hp
    · rename_i v a r
      split at hp
      · rename_i hg
        obtain ⟨rfl, rfl, rfl, rfl⟩ := goTo_inj hp
        simp only [Bool.and_eq_true, Bool.or_eq_true, decide_eq_true_eq] at hg
        obtain ⟨hg, hg2⟩ := hg
        obtain ⟨g1, g2, g3⟩ := gO_ok hg
        have hw := wl_at (sz := sz) (b := b) (dA := dA) g1 g2
        rw [cell_obj g3] at hw
        have hz2 : fk x y ≠ 1 := fun q => hz (o2.symm.trans q)
        have hn := nar_int (v := v) f1 hz2 hne9 (hg2.imp (fun q => o2.trans (Nat.eq_of_beq_eq_true q)) id)
        have e1 : (List.range (Nn x)).map (fV sz b (stI M a y v) a x) = ((List.range (Nn x)).map (fV sz b M a x)).set y (.int (Int32.ofInt v)) := by
          refine map_set o3 ?_ ?_
          · unfold fV
            rw [if_neg hz2]
            show Value.int (Int32.ofInt (if a = a ∧ y = y then v else mI M a y)) = _
            rw [if_pos ⟨rfl, rfl⟩]
          · intro j hj
            have hm : mI (stI M a y v) a j = mI M a j := if_neg (fun q => hj q.2)
            unfold fV
            rw [hm]
            rfl
        have e2 : (wl sz b dA M).set (a - 2) (ad sz b a, .inr (x, ((List.range (Nn x)).map (fV sz b M a x)).set y (.int (Int32.ofInt v)))) = wl sz b dA (stI M a y v) := by
          rw [← e1]
          have h9 := wl_upd (sz := sz) (b := b) (dA := dA) (M := M) (M1 := stI M a y v) g1 rfl cell_stI
          rw [cell_obj (show mH (stI M a y v) a = .inl x from g3)] at h9
          exact h9
        show W p l e R s mm args below meth c H locs (mN M - n0) (mS M - s0) Q (F0 mm pc lsC (.int (Int32.ofInt v) :: va_rf (rf sz b a) :: r.map (cz sz b)))
        rw [rf_pos (show 1 ≤ a by omega)]
        have kk2 : ∀ (H1 : Heap) (locs1 : List Loc), va_P D vwCl ((wl sz b dA M).set (a - 2) (ad sz b a, .inr (x, ((List.range (Nn x)).map (fV sz b M a x)).set y (.int (Int32.ofInt v))))) H1 → va_D (fun q => sz ≤ q) ((wl sz b dA M).set (a - 2) (ad sz b a, .inr (x, ((List.range (Nn x)).map (fV sz b M a x)).set y (.int (Int32.ofInt v))))) → va_S (fun q => sz ≤ q) s.heap H1 locs1 → W p l e R s mm args below meth c H1 locs1 (mN M - n0) (mS M - s0) Q (F0 mm (pc + 3) lsC (r.map (cz sz b))) := fun H1 locs1 a1 _ a3 => sz_fix hN (M1 := stI M a y v) rfl (e2 ▸ a1) a3.1 fun a4 => kk H1 locs1 lsC ⟨hR.int g1 hV.1 (a4.trans hR.1.2.symm) (e2 ▸ a1), a3, hL, hV.2.2⟩
        by_cases hff : ff x y = 1
        · rw [hff] at o5 f2
          have hw1 : w = 1 := (Nat.eq_of_beq_eq_true o5).symm
          subst hw1
          have o6 : nd m 6 = 1 ∧ nd m 1 = x := by
            simp only [Bool.or_eq_true, Bool.and_eq_true] at o6
            rcases o6 with q | q
            · cases q
            · exact ⟨Nat.eq_of_beq_eq_true q.1, Nat.eq_of_beq_eq_true q.2⟩
          exact va_putF hx hb hts (ws_at o4) (Ty x) (ty_at o4) (nm_at o4) hown hK hR.2.1 wl_D hS (a - 2) hw (vw_at o4) y o3 (hts _ (inF_ok o1)) (fun x h => h) (f2.trans rfl) (hin o6.1) (f3.trans (by rw [o6.2])) (ty_at o4 y o3) hn.1 hn.2 (by rw [List.length_map, List.length_range]; exact o3) hd kk2
        · exact va_put hx hb hts (ws_at o4) (Ty x) (ty_at o4) (nm_at o4) hown hK hR.2.1 wl_D hS (a - 2) hw (vw_at o4) y o3 (hts _ (inF_ok o1)) (fun x h => h) (f2.trans (beq_ff hff)) (ty_at o4 y o3) hn.1 hn.2 (by rw [List.length_map, List.length_range]; exact o3) hd kk2
      · cases hp
    · cases hp

theorem sp_iaload (C : Cx sz b L xs D dA m p R s mm args meth c) (S : Sm sz b L xs D dA m s M H locs lsC ls st) (hi : ins m pc = some ((.iaload), n, x, y, z, w)) (hp : plan m pc ls st M = some (.inr (.inl (pc', ls', st', M'))))
    (kk : ∀ (H' : Heap) (locs' : List Loc) (lsC' : Array Slot), Sm sz b L xs D dA m s M' H' locs' lsC' ls' st' → W p l e R s mm args below meth c H' locs' (mN M' - n0) (mS M' - s0) Q (F0 mm pc' lsC' (st'.map (cz sz b)))) : W p l e R s mm args below meth c H locs (mN M - n0) (mS M - s0) Q (F0 mm pc lsC (st.map (cz sz b))) := by
  obtain ⟨⟨hx, hb, hml, hown, hts⟩, hK, hin, hRm, hScr, hsz, hC⟩ := id C
  obtain ⟨hR, hS, hL, hV⟩ := id S
  obtain ⟨hd, hlen, hok⟩ := okC_get hC hi
  obtain rfl : n = 1 := lenOf hlen (by decide)
  unfold plan at hp
  rw [hi] at hp
  dsimp only at hp
  split at hp
  · rename_i j a r
    split at hp
    · rename_i hg
      obtain ⟨rfl, rfl, rfl, rfl⟩ := goTo_inj hp
      show W p l e R s mm args below meth c H locs (mN M - n0) (mS M - s0) Q (F0 mm pc lsC (.int (Int32.ofInt j) :: va_rf (rf sz b a) :: r.map (cz sz b)))
      have h5 := kk H locs lsC ⟨hR, hS, hL, hR.2.2.1 _ _, hV.2.2⟩
      rw [List.map_cons] at h5
      unfold gA at hg
      rcases Bool.or_eq_true_iff.mp hg with hg | hg
      · obtain ⟨g1, g2, g3, g4⟩ := gS_ok hg (by decide)
        have hw := wl_at (sz := sz) (b := b) (dA := dA) g1 g2
        rw [cell_arr g3 (by decide)] at hw
        rw [rf_pos (show 1 ≤ a by omega)]
        refine va_iald hx hb hK hR.2.1 (a - 2) 0 hw rfl (oi_vpin hV.1 g4) hd ?_
        rw [oi_clamp hV.1]
        exact h5
      · simp only [Bool.and_eq_true, decide_eq_true_eq] at hg
        obtain ⟨g1, g2, g3⟩ := hg
        have g1 := Nat.eq_of_beq_eq_true g1
        have g2 := Nat.eq_of_beq_eq_true g2
        subst g1
        have hal : alen M 1 = L := by unfold alen; rw [hR.2.2.2.2.1]
        rw [hal] at g3
        rw [rf_pos (show 1 ≤ 1 by omega)]
        refine va_sld hx hb (hScr g2) (Nat.lt_of_lt_of_le hsz.2 hsz.1) (Nat.not_le.mpr hsz.2) hS (oi_vpin hV.1 g3) hd ?_
        rw [oi_clamp hV.1]
        have e3 : Int32.ofInt (mI M 1 j.toNat) = xs j.toNat := by rw [hR.2.2.2.2.2 _ (by omega), oi_back]
        rw [← e3]
        exact h5
    · cases hp
  · cases hp

theorem sp_baload (C : Cx sz b L xs D dA m p R s mm args meth c) (S : Sm sz b L xs D dA m s M H locs lsC ls st) (hi : ins m pc = some ((.baload), n, x, y, z, w)) (hp : plan m pc ls st M = some (.inr (.inl (pc', ls', st', M'))))
    (kk : ∀ (H' : Heap) (locs' : List Loc) (lsC' : Array Slot), Sm sz b L xs D dA m s M' H' locs' lsC' ls' st' → W p l e R s mm args below meth c H' locs' (mN M' - n0) (mS M' - s0) Q (F0 mm pc' lsC' (st'.map (cz sz b)))) : W p l e R s mm args below meth c H locs (mN M - n0) (mS M - s0) Q (F0 mm pc lsC (st.map (cz sz b))) := by
  obtain ⟨⟨hx, hb, hml, hown, hts⟩, hK, hin, hRm, hScr, hsz, hC⟩ := id C
  obtain ⟨hR, hS, hL, hV⟩ := id S
  obtain ⟨hd, hlen, hok⟩ := okC_get hC hi
  obtain rfl : n = 1 := lenOf hlen (by decide)
  unfold plan at hp
  rw [hi] at hp
  dsimp only at hp
  split at hp
  · rename_i j a r
    split at hp
    · rename_i hg
      obtain ⟨rfl, rfl, rfl, rfl⟩ := goTo_inj hp
      show W p l e R s mm args below meth c H locs (mN M - n0) (mS M - s0) Q (F0 mm pc lsC (.int (Int32.ofInt j) :: va_rf (rf sz b a) :: r.map (cz sz b)))
      have h5 := kk H locs lsC ⟨hR, hS, hL, hR.2.2.1 _ _, hV.2.2⟩
      rw [List.map_cons] at h5
      rcases Bool.or_eq_true_iff.mp hg with hg | hg
      · obtain ⟨g1, g2, g3, g4⟩ := gS_ok hg (by decide)
        have hw := wl_at (sz := sz) (b := b) (dA := dA) g1 g2
        rw [cell_arr g3 (by decide)] at hw
        rw [rf_pos (show 1 ≤ a by omega)]
        refine va_bald hx hb hK hR.2.1 (a - 2) 1 hw rfl (oi_vpin hV.1 g4) hd ?_
        rw [oi_clamp hV.1]
        exact h5
      · obtain ⟨g1, g2, g3, g4⟩ := gS_ok hg (by decide)
        have hw := wl_at (sz := sz) (b := b) (dA := dA) g1 g2
        rw [cell_arr g3 (by decide)] at hw
        rw [rf_pos (show 1 ≤ a by omega)]
        refine va_zald hx hb hK hR.2.1 (a - 2) 2 hw rfl (oi_vpin hV.1 g4) hd ?_
        rw [oi_clamp hV.1]
        exact h5
    · cases hp
  · cases hp

theorem sp_aaload (C : Cx sz b L xs D dA m p R s mm args meth c) (S : Sm sz b L xs D dA m s M H locs lsC ls st) (hi : ins m pc = some ((.aaload), n, x, y, z, w)) (hp : plan m pc ls st M = some (.inr (.inl (pc', ls', st', M'))))
    (kk : ∀ (H' : Heap) (locs' : List Loc) (lsC' : Array Slot), Sm sz b L xs D dA m s M' H' locs' lsC' ls' st' → W p l e R s mm args below meth c H' locs' (mN M' - n0) (mS M' - s0) Q (F0 mm pc' lsC' (st'.map (cz sz b)))) : W p l e R s mm args below meth c H locs (mN M - n0) (mS M - s0) Q (F0 mm pc lsC (st.map (cz sz b))) := by
  obtain ⟨⟨hx, hb, hml, hown, hts⟩, hK, hin, hRm, hScr, hsz, hC⟩ := id C
  obtain ⟨hR, hS, hL, hV⟩ := id S
  obtain ⟨hd, hlen, hok⟩ := okC_get hC hi
  obtain rfl : n = 1 := lenOf hlen (by decide)
  unfold plan at hp
  rw [hi] at hp
  dsimp only at hp
  split at hp
  · rename_i j a r
    split at hp
    · rename_i hg
      obtain ⟨rfl, rfl, rfl, rfl⟩ := goTo_inj hp
      show W p l e R s mm args below meth c H locs (mN M - n0) (mS M - s0) Q (F0 mm pc lsC (.int (Int32.ofInt j) :: va_rf (rf sz b a) :: r.map (cz sz b)))
      have h5 := kk H locs lsC ⟨hR, hS, hL, trivial, hV.2.2⟩
      rw [List.map_cons] at h5
      rw [Bool.or_eq_true_iff, Bool.or_eq_true_iff] at hg
      rcases hg with hg | hg | hg
      · obtain ⟨g1, g2, g3, g4⟩ := gS_ok hg (by decide)
        have hw := wl_at (sz := sz) (b := b) (dA := dA) g1 g2
        rw [cell_arq g3 (by decide)] at hw
        rw [rf_pos (show 1 ≤ a by omega)]
        refine va_aldq hx hb hK hR.2.1 (a - 2) 3 hw rfl (oi_vpin hV.1 g4) hd ?_
        rw [oi_clamp hV.1]
        exact h5
      · obtain ⟨g1, g2, g3, g4⟩ := gS_ok hg (by decide)
        have hw := wl_at (sz := sz) (b := b) (dA := dA) g1 g2
        rw [cell_arq g3 (by decide)] at hw
        rw [rf_pos (show 1 ≤ a by omega)]
        refine va_aldq hx hb hK hR.2.1 (a - 2) 4 hw rfl (oi_vpin hV.1 g4) hd ?_
        rw [oi_clamp hV.1]
        exact h5
      · obtain ⟨g1, g2, g3, g4⟩ := gS_ok hg (by decide)
        have hw := wl_at (sz := sz) (b := b) (dA := dA) g1 g2
        rw [cell_arq g3 (by decide)] at hw
        rw [rf_pos (show 1 ≤ a by omega)]
        refine va_aldq hx hb hK hR.2.1 (a - 2) 5 hw rfl (oi_vpin hV.1 g4) hd ?_
        rw [oi_clamp hV.1]
        exact h5
    · cases hp
  · cases hp

theorem sp_iastore (C : Cx sz b L xs D dA m p R s mm args meth c) (S : Sm sz b L xs D dA m s M H locs lsC ls st) (hi : ins m pc = some ((.iastore), n, x, y, z, w)) (hp : plan m pc ls st M = some (.inr (.inl (pc', ls', st', M'))))
    (hN : n0 ≤ mN M ∧ 2 ≤ n0 ∧ s.heap.size = sz + (n0 - 2)) (kk : ∀ (H' : Heap) (locs' : List Loc) (lsC' : Array Slot), Sm sz b L xs D dA m s M' H' locs' lsC' ls' st' → W p l e R s mm args below meth c H' locs' (mN M' - n0) (mS M' - s0) Q (F0 mm pc' lsC' (st'.map (cz sz b)))) : W p l e R s mm args below meth c H locs (mN M - n0) (mS M - s0) Q (F0 mm pc lsC (st.map (cz sz b))) := by
  obtain ⟨⟨hx, hb, hml, hown, hts⟩, hK, hin, hRm, hScr, hsz, hC⟩ := id C
  obtain ⟨hR, hS, hL, hV⟩ := id S
  obtain ⟨hd, hlen, hok⟩ := okC_get hC hi
  obtain rfl : n = 1 := lenOf hlen (by decide)
  unfold plan at hp
  rw [hi] at hp
  dsimp only at hp
  split at hp
  · rename_i v j a r
    split at hp
    · rename_i hg
      obtain ⟨rfl, rfl, rfl, rfl⟩ := goTo_inj hp
      show W p l e R s mm args below meth c H locs (mN M - n0) (mS M - s0) Q (F0 mm pc lsC (.int (Int32.ofInt v) :: .int (Int32.ofInt j) :: va_rf (rf sz b a) :: r.map (cz sz b)))
      · skip
        obtain ⟨g1, g2, g3, g4⟩ := gS_ok hg (by decide)
        have hw := wl_at (sz := sz) (b := b) (dA := dA) g1 g2
        rw [cell_arr g3 (by decide)] at hw
        rw [rf_pos (show 1 ≤ a by omega)]
        refine va_iast hx hb hK hR.2.1 wl_D hS (a - 2) 0 hw rfl (oi_vpin hV.2.1 g4) hd (fun H1 locs1 a1 _ a3 => ?_)
        rw [oi_clamp hV.2.1, upd_int rfl] at a1
        have h9 := wl_upd (sz := sz) (b := b) (dA := dA) (M := M) (M1 := stI M a j.toNat v) g1 rfl cell_stI
        rw [cell_arr (show mH (stI M a j.toNat v) a = _ from g3) (by decide)] at h9
        rw [h9] at a1
        exact sz_fix hN (M1 := stI M a j.toNat v) rfl a1 a3.1 fun a4 => kk H1 locs1 lsC ⟨hR.int g1 hV.1 (a4.trans hR.1.2.symm) a1, a3, hL, hV.2.2.2⟩
    · cases hp
  · cases hp

theorem sp_bastore (C : Cx sz b L xs D dA m p R s mm args meth c) (S : Sm sz b L xs D dA m s M H locs lsC ls st) (hi : ins m pc = some ((.bastore), n, x, y, z, w)) (hp : plan m pc ls st M = some (.inr (.inl (pc', ls', st', M'))))
    (hN : n0 ≤ mN M ∧ 2 ≤ n0 ∧ s.heap.size = sz + (n0 - 2)) (kk : ∀ (H' : Heap) (locs' : List Loc) (lsC' : Array Slot), Sm sz b L xs D dA m s M' H' locs' lsC' ls' st' → W p l e R s mm args below meth c H' locs' (mN M' - n0) (mS M' - s0) Q (F0 mm pc' lsC' (st'.map (cz sz b)))) : W p l e R s mm args below meth c H locs (mN M - n0) (mS M - s0) Q (F0 mm pc lsC (st.map (cz sz b))) := by
  obtain ⟨⟨hx, hb, hml, hown, hts⟩, hK, hin, hRm, hScr, hsz, hC⟩ := id C
  obtain ⟨hR, hS, hL, hV⟩ := id S
  obtain ⟨hd, hlen, hok⟩ := okC_get hC hi
  obtain rfl : n = 1 := lenOf hlen (by decide)
  unfold plan at hp
  rw [hi] at hp
  dsimp only at hp
  split at hp
  · rename_i v j a r
    show W p l e R s mm args below meth c H locs (mN M - n0) (mS M - s0) Q (F0 mm pc lsC (.int (Int32.ofInt v) :: .int (Int32.ofInt j) :: va_rf (rf sz b a) :: r.map (cz sz b)))
    split at hp
    · rename_i hg
      obtain ⟨rfl, rfl, rfl, rfl⟩ := goTo_inj hp
      · skip
        obtain ⟨g1, g2, g3, g4⟩ := gS_ok hg (by decide)
        have hw := wl_at (sz := sz) (b := b) (dA := dA) g1 g2
        rw [cell_arr g3 (by decide)] at hw
        rw [rf_pos (show 1 ≤ a by omega)]
        refine va_bast hx hb hK hR.2.1 wl_D hS (a - 2) 1 hw rfl (oi_vpin hV.2.1 g4) hd (fun H1 locs1 a1 _ a3 => ?_)
        rw [oi_clamp hV.2.1, nar_byte, upd_int rfl] at a1
        have h9 := wl_upd (sz := sz) (b := b) (dA := dA) (M := M) (M1 := stI M a j.toNat (wb v)) g1 rfl cell_stI
        rw [cell_arr (show mH (stI M a j.toNat (wb v)) a = _ from g3) (by decide)] at h9
        rw [h9] at a1
        exact sz_fix hN (M1 := stI M a j.toNat (wb v)) rfl a1 a3.1 fun a4 => kk H1 locs1 lsC ⟨hR.int g1 (wb_inR v) (a4.trans hR.1.2.symm) a1, a3, hL, hV.2.2.2⟩
    · split at hp
      · rename_i hg
        obtain ⟨rfl, rfl, rfl, rfl⟩ := goTo_inj hp
        simp only [Bool.and_eq_true, decide_eq_true_eq] at hg
        obtain ⟨hg, hb01⟩ := hg
        obtain ⟨g1, g2, g3, g4⟩ := gS_ok hg (by decide)
        have hw := wl_at (sz := sz) (b := b) (dA := dA) g1 g2
        rw [cell_arr g3 (by decide)] at hw
        rw [rf_pos (show 1 ≤ a by omega)]
        refine va_zast hx hb hK hR.2.1 wl_D hS (a - 2) 2 hw rfl (oi_vpin hV.2.1 g4) hd (fun H1 locs1 a1 _ a3 => ?_)
        rw [oi_clamp hV.2.1, nar_bool hb01, upd_int rfl] at a1
        have h9 := wl_upd (sz := sz) (b := b) (dA := dA) (M := M) (M1 := stI M a j.toNat v) g1 rfl cell_stI
        rw [cell_arr (show mH (stI M a j.toNat v) a = _ from g3) (by decide)] at h9
        rw [h9] at a1
        exact sz_fix hN (M1 := stI M a j.toNat v) rfl a1 a3.1 fun a4 => kk H1 locs1 lsC ⟨hR.int g1 hV.1 (a4.trans hR.1.2.symm) a1, a3, hL, hV.2.2.2⟩
      · cases hp
  · cases hp

theorem sp_aastore (C : Cx sz b L xs D dA m p R s mm args meth c) (S : Sm sz b L xs D dA m s M H locs lsC ls st) (hi : ins m pc = some ((.aastore), n, x, y, z, w)) (hp : plan m pc ls st M = some (.inr (.inl (pc', ls', st', M'))))
    (hN : n0 ≤ mN M ∧ 2 ≤ n0 ∧ s.heap.size = sz + (n0 - 2)) (kk : ∀ (H' : Heap) (locs' : List Loc) (lsC' : Array Slot), Sm sz b L xs D dA m s M' H' locs' lsC' ls' st' → W p l e R s mm args below meth c H' locs' (mN M' - n0) (mS M' - s0) Q (F0 mm pc' lsC' (st'.map (cz sz b)))) : W p l e R s mm args below meth c H locs (mN M - n0) (mS M - s0) Q (F0 mm pc lsC (st.map (cz sz b))) := by
  obtain ⟨⟨hx, hb, hml, hown, hts⟩, hK, hin, hRm, hScr, hsz, hC⟩ := id C
  obtain ⟨hR, hS, hL, hV⟩ := id S
  obtain ⟨hd, hlen, hok⟩ := okC_get hC hi
  obtain rfl : n = 1 := lenOf hlen (by decide)
  unfold plan at hp
  rw [hi] at hp
  dsimp only at hp
  split at hp
  · rename_i v j a r
    split at hp
    · rename_i hg
      obtain ⟨rfl, rfl, rfl, rfl⟩ := goTo_inj hp
      show W p l e R s mm args below meth c H locs (mN M - n0) (mS M - s0) Q (F0 mm pc lsC (va_rf (rf sz b v) :: .int (Int32.ofInt j) :: va_rf (rf sz b a) :: r.map (cz sz b)))
      rw [Bool.or_eq_true_iff, Bool.or_eq_true_iff] at hg
      rcases hg with hg | hg | hg
      · rw [Bool.and_eq_true] at hg
        obtain ⟨hg, hgv⟩ := hg
        obtain ⟨g1, g2, g3, g4⟩ := gS_ok hg (by decide)
        obtain ⟨v1, v2, v3⟩ := gO_ok hgv
        have hw := wl_at (sz := sz) (b := b) (dA := dA) g1 g2
        rw [cell_arq g3 (by decide)] at hw
        have hv := wl_at (sz := sz) (b := b) (dA := dA) v1 v2
        rw [cell_obj v3] at hv
        rw [rf_pos (show 1 ≤ a by omega), rf_pos (show 1 ≤ v by omega)]
        refine va_astq hx hb hK hR.2.1 wl_D hS (a - 2) 3 (v - 2) 2 (r := (Rn 2, Tn 2, Nn 2)) hw rfl hv rfl (oi_vpin hV.2.1 g4) hd (fun H1 locs1 a1 _ a3 => ?_)
        rw [oi_clamp hV.2.1, upq_ref (show 1 ≤ v by omega)] at a1
        have h9 := wl_upd (sz := sz) (b := b) (dA := dA) (M := M) (M1 := stR M a j.toNat v) g1 rfl cell_stR
        rw [cell_arq (show mH (stR M a j.toNat v) a = _ from g3) (by decide)] at h9
        rw [h9] at a1
        exact sz_fix hN (M1 := stR M a j.toNat v) rfl a1 a3.1 fun a4 => kk H1 locs1 lsC ⟨hR.ref (a4.trans hR.1.2.symm) a1, a3, hL, hV.2.2.2⟩
      · rw [Bool.and_eq_true] at hg
        obtain ⟨hg, hgv⟩ := hg
        obtain ⟨g1, g2, g3, g4⟩ := gS_ok hg (by decide)
        obtain ⟨v1, v2, v3⟩ := gO_ok hgv
        have hw := wl_at (sz := sz) (b := b) (dA := dA) g1 g2
        rw [cell_arq g3 (by decide)] at hw
        have hv := wl_at (sz := sz) (b := b) (dA := dA) v1 v2
        rw [cell_obj v3] at hv
        rw [rf_pos (show 1 ≤ a by omega), rf_pos (show 1 ≤ v by omega)]
        refine va_astq hx hb hK hR.2.1 wl_D hS (a - 2) 4 (v - 2) 1 (r := (Rn 1, Tn 1, Nn 1)) hw rfl hv rfl (oi_vpin hV.2.1 g4) hd (fun H1 locs1 a1 _ a3 => ?_)
        rw [oi_clamp hV.2.1, upq_ref (show 1 ≤ v by omega)] at a1
        have h9 := wl_upd (sz := sz) (b := b) (dA := dA) (M := M) (M1 := stR M a j.toNat v) g1 rfl cell_stR
        rw [cell_arq (show mH (stR M a j.toNat v) a = _ from g3) (by decide)] at h9
        rw [h9] at a1
        exact sz_fix hN (M1 := stR M a j.toNat v) rfl a1 a3.1 fun a4 => kk H1 locs1 lsC ⟨hR.ref (a4.trans hR.1.2.symm) a1, a3, hL, hV.2.2.2⟩
      · rw [Bool.and_eq_true] at hg
        obtain ⟨hg, hgv⟩ := hg
        obtain ⟨g1, g2, g3, g4⟩ := gS_ok hg (by decide)
        obtain ⟨v1, v2, v3⟩ := gO_ok hgv
        have hw := wl_at (sz := sz) (b := b) (dA := dA) g1 g2
        rw [cell_arq g3 (by decide)] at hw
        have hv := wl_at (sz := sz) (b := b) (dA := dA) v1 v2
        rw [cell_obj v3] at hv
        rw [rf_pos (show 1 ≤ a by omega), rf_pos (show 1 ≤ v by omega)]
        refine va_astq hx hb hK hR.2.1 wl_D hS (a - 2) 5 (v - 2) 4 (r := (Rn 4, Tn 4, Nn 4)) hw rfl hv rfl (oi_vpin hV.2.1 g4) hd (fun H1 locs1 a1 _ a3 => ?_)
        rw [oi_clamp hV.2.1, upq_ref (show 1 ≤ v by omega)] at a1
        have h9 := wl_upd (sz := sz) (b := b) (dA := dA) (M := M) (M1 := stR M a j.toNat v) g1 rfl cell_stR
        rw [cell_arq (show mH (stR M a j.toNat v) a = _ from g3) (by decide)] at h9
        rw [h9] at a1
        exact sz_fix hN (M1 := stR M a j.toNat v) rfl a1 a3.1 fun a4 => kk H1 locs1 lsC ⟨hR.ref (a4.trans hR.1.2.symm) a1, a3, hL, hV.2.2.2⟩
    · cases hp
  · cases hp

end STEP2

/-! ===== the pure memory and the heap ===== -/
def ad (sz b a : Nat) : Nat := if a = 1 then b else sz + (a - 2)
def rf (sz b a : Nat) : Option Nat := if a = 0 then none else some (ad sz b a)
def cz (sz b : Nat) : PV → Value
  | .inl x => .int (Int32.ofInt x)
  | .inr a => va_rf (rf sz b a)
def fV (sz b : Nat) (M : Mem) (a c k : Nat) : Value := if fk c k = 1 then va_rf (rf sz b (mR M a k)) else .int (Int32.ofInt (mI M a k))
def cellOf (sz b : Nat) (dA : Nat → ClassId) (M : Mem) (a : Nat) : va_E := match mH M a with
  | .inl c => .inr (c, (List.range (Nn c)).map (fV sz b M a c))
  | .inr q => .inl (dA q.1, (q.2, if q.1 ≤ 2 then .inl (fun j => Int32.ofInt (mI M a j)) else .inr (.inr (.inr (.inr fun j => rf sz b (mR M a j))))))
def wl (sz b : Nat) (dA : Nat → ClassId) (M : Mem) : va_W := (List.range (mN M - 2)).map fun k => (sz + k, cellOf sz b dA M (k + 2))
def atys (dA : Nat → ClassId) : List (ClassId × FieldType) := [(dA 0, .int), (dA 1, .byte), (dA 2, .boolean), (dA 3, .object RX2), (dA 4, .object RX1), (dA 5, .object RX4)]
def okH (h : Nat ⊕ (Nat × Nat)) : Prop := match h with
  | .inl c => c < 13
  | .inr q => q.1 ≤ 5 ∧ q.2 ≤ 100000
def Rep (sz b L : Nat) (xs : Nat → Int32) (D : va_G) (dA : Nat → ClassId) (M : Mem) (H : Heap) : Prop :=
  (2 ≤ mN M ∧ H.size = sz + (mN M - 2)) ∧ va_P D vwCl (wl sz b dA M) H ∧ (∀ a k, InR (mI M a k)) ∧ (∀ a, 2 ≤ a → a < mN M → okH (mH M a)) ∧ (mH M 1 = .inr (9, L) ∧ ∀ k, k < L → mI M 1 k = (xs k).toInt)
theorem ad_2 {sz b a : Nat} (h : 2 ≤ a) : ad sz b a = sz + (a - 2) := if_neg (by omega)
theorem wl_at {sz b : Nat} {dA : Nat → ClassId} {M : Mem} {a : Nat} (h : 2 ≤ a) (hn : a < mN M) : (wl sz b dA M)[a - 2]? = some (ad sz b a, cellOf sz b dA M a) := by
  unfold wl
  rw [List.getElem?_map, List.getElem?_range (by omega), ad_2 h]
  show some (sz + (a - 2), cellOf sz b dA M (a - 2 + 2)) = _
  rw [show a - 2 + 2 = a by omega]
theorem wl_D {sz b : Nat} {dA : Nat → ClassId} {M : Mem} : va_D (fun q => sz ≤ q) (wl sz b dA M) := by
  have key : ∀ (k : Nat) (q : Nat × va_E), (wl sz b dA M)[k]? = some q → q.1 = sz + k := by
    intro k q hq
    unfold wl at hq
    rw [List.getElem?_map] at hq
    cases hr : (List.range (mN M - 2))[k]? with
    | none => rw [hr] at hq; cases hq
    | some j =>
      rw [hr] at hq
      have hj : j = k := by
        obtain ⟨h1, h2⟩ := List.getElem?_eq_some_iff.mp hr
        rw [List.getElem_range] at h2
        exact h2.symm
      subst hj
      cases hq
      rfl
  constructor
  · intro i j p q hp hq e
    have h1 := key i p hp
    have h2 := key j q hq
    omega
  · intro k q hq
    have h1 := key k q hq
    show sz ≤ q.1
    omega
theorem wl_upd {sz b : Nat} {dA : Nat → ClassId} {M M1 : Mem} {a : Nat} (h2 : 2 ≤ a) (hn : mN M1 = mN M) (hc : ∀ a', a' ≠ a → cellOf sz b dA M1 a' = cellOf sz b dA M a') : (wl sz b dA M).set (a - 2) (ad sz b a, cellOf sz b dA M1 a) = wl sz b dA M1 := by
  apply List.ext_getElem?
  intro k
  unfold wl
  rw [List.getElem?_set, hn]
  by_cases hk : k < mN M - 2
  · rw [List.getElem?_map, List.getElem?_map, List.getElem?_range hk]
    by_cases e : a - 2 = k
    · rw [if_pos e, if_pos (by rw [List.length_map, List.length_range]; omega)]
      subst e
      show some (ad sz b a, cellOf sz b dA M1 a) = some (sz + (a - 2), cellOf sz b dA M1 (a - 2 + 2))
      rw [ad_2 h2, show a - 2 + 2 = a by omega]
    · rw [if_neg e]
      show some (sz + k, cellOf sz b dA M (k + 2)) = some (sz + k, cellOf sz b dA M1 (k + 2))
      rw [hc (k + 2) (by omega)]
  · rw [List.getElem?_eq_none (by rw [List.length_map, List.length_range]; omega), List.getElem?_eq_none (by rw [List.length_map, List.length_range]; omega)]
    split
    · split
      · rename_i h3 h4; rw [List.length_map, List.length_range] at h4; omega
      · rfl
    · rfl
theorem cell_stI {sz b : Nat} {dA : Nat → ClassId} {M : Mem} {a k : Nat} {v : Int} : ∀ a', a' ≠ a → cellOf sz b dA (stI M a k v) a' = cellOf sz b dA M a' := by
  intro a' h
  have h1 : ∀ j, mI (stI M a k v) a' j = mI M a' j := fun j => if_neg (fun q => h q.1)
  have h2 : ∀ j, mR (stI M a k v) a' j = mR M a' j := fun j => rfl
  have h3 : mH (stI M a k v) a' = mH M a' := rfl
  unfold cellOf fV
  rw [h3]
  split <;> simp only [h1, h2]
theorem cell_stR {sz b : Nat} {dA : Nat → ClassId} {M : Mem} {a k v : Nat} : ∀ a', a' ≠ a → cellOf sz b dA (stR M a k v) a' = cellOf sz b dA M a' := by
  intro a' h
  have h1 : ∀ j, mI (stR M a k v) a' j = mI M a' j := fun j => rfl
  have h2 : ∀ j, mR (stR M a k v) a' j = mR M a' j := fun j => if_neg (fun q => h q.1)
  have h3 : mH (stR M a k v) a' = mH M a' := rfl
  unfold cellOf fV
  rw [h3]
  split <;> simp only [h1, h2]
theorem cell_cpI {sz b : Nat} {dA : Nat → ClassId} {M : Mem} {s sp d dp n : Nat} : ∀ a', a' ≠ d → cellOf sz b dA (cpI M s sp d dp n) a' = cellOf sz b dA M a' := by
  intro a' h
  have h1 : ∀ j, mI (cpI M s sp d dp n) a' j = mI M a' j := fun j => if_neg (fun q => h q.1)
  have h2 : ∀ j, mR (cpI M s sp d dp n) a' j = mR M a' j := fun j => rfl
  have h3 : mH (cpI M s sp d dp n) a' = mH M a' := rfl
  unfold cellOf fV
  rw [h3]
  split <;> simp only [h1, h2]
theorem map_set {α : Type} {N k : Nat} {f g : Nat → α} {v : α} (hk : k < N) (hv : g k = v) (ho : ∀ j, j ≠ k → g j = f j) : (List.range N).map g = ((List.range N).map f).set k v := by
  apply List.ext_getElem?
  intro j
  rw [List.getElem?_set]
  by_cases hj : j < N
  · rw [List.getElem?_map, List.getElem?_map, List.getElem?_range hj]
    by_cases e : k = j
    · rw [if_pos e, if_pos (by rw [List.length_map, List.length_range]; omega)]
      subst e
      show some (g k) = _
      rw [hv]
    · rw [if_neg e]
      show some (g j) = some (f j)
      rw [ho j (fun q => e q.symm)]
  · rw [List.getElem?_eq_none (by rw [List.length_map, List.length_range]; omega), List.getElem?_eq_none (by rw [List.length_map, List.length_range]; omega)]
    split
    · split
      · rename_i h3 h4; rw [List.length_map, List.length_range] at h4; omega
      · rfl
    · rfl
/-- a store of an int keeps the picture -/
theorem Rep.int {sz b L : Nat} {xs : Nat → Int32} {D : va_G} {dA : Nat → ClassId} {M : Mem} {H H1 : Heap} {a k : Nat} {v : Int} (h : Rep sz b L xs D dA M H) (h2 : 2 ≤ a) (hv : InR v) (hz : H1.size = H.size) (hP : va_P D vwCl (wl sz b dA (stI M a k v)) H1) : Rep sz b L xs D dA (stI M a k v) H1 := by
  obtain ⟨⟨h3, h4⟩, h5, h6, h7, h8, h9⟩ := h
  refine ⟨⟨h3, by rw [hz]; exact h4⟩, hP, ?_, h7, h8, ?_⟩
  · intro a' j
    show InR (if a' = a ∧ j = k then v else mI M a' j)
    split
    · exact hv
    · exact h6 a' j
  · intro j hj
    show (if 1 = a ∧ j = k then v else mI M 1 j) = _
    rw [if_neg (by omega)]
    exact h9 j hj
theorem Rep.ref {sz b L : Nat} {xs : Nat → Int32} {D : va_G} {dA : Nat → ClassId} {M : Mem} {H H1 : Heap} {a k v : Nat} (h : Rep sz b L xs D dA M H) (hz : H1.size = H.size) (hP : va_P D vwCl (wl sz b dA (stR M a k v)) H1) : Rep sz b L xs D dA (stR M a k v) H1 := by
  obtain ⟨⟨h3, h4⟩, h5, h6, h7, h8, h9⟩ := h
  exact ⟨⟨h3, by rw [hz]; exact h4⟩, hP, h6, h7, h8, h9⟩
theorem Rep.cp {sz b L : Nat} {xs : Nat → Int32} {D : va_G} {dA : Nat → ClassId} {M : Mem} {H H1 : Heap} {s sp d dp n : Nat} (h : Rep sz b L xs D dA M H) (h2 : 2 ≤ d) (hz : H1.size = H.size) (hP : va_P D vwCl (wl sz b dA (cpI M s sp d dp n)) H1) : Rep sz b L xs D dA (cpI M s sp d dp n) H1 := by
  obtain ⟨⟨h3, h4⟩, h5, h6, h7, h8, h9⟩ := h
  refine ⟨⟨h3, by rw [hz]; exact h4⟩, hP, ?_, h7, h8, ?_⟩
  · intro a' j
    show InR (if a' = d ∧ dp ≤ j ∧ j < dp + n then mI M s (sp + (j - dp)) else mI M a' j)
    split
    · exact h6 _ _
    · exact h6 a' j
  · intro j hj
    show (if 1 = d ∧ dp ≤ j ∧ j < dp + n then mI M s (sp + (j - dp)) else mI M 1 j) = _
    rw [if_neg (by omega)]
    exact h9 j hj
theorem cell_nw {sz b : Nat} {dA : Nat → ClassId} {M : Mem} {h : Nat ⊕ (Nat × Nat)} {sl : Nat} : ∀ a', a' ≠ mN M → cellOf sz b dA (nwC M h sl) a' = cellOf sz b dA M a' := by
  intro a' e
  have h1 : ∀ j, mI (nwC M h sl) a' j = mI M a' j := fun j => if_neg e
  have h2 : ∀ j, mR (nwC M h sl) a' j = mR M a' j := fun j => if_neg e
  have h3 : mH (nwC M h sl) a' = mH M a' := if_neg e
  unfold cellOf fV
  rw [h3]
  split <;> simp only [h1, h2]
/-- a new cell keeps the picture -/
theorem Rep.new {sz b L : Nat} {xs : Nat → Int32} {D : va_G} {dA : Nat → ClassId} {M : Mem} {H H1 : Heap} {h : Nat ⊕ (Nat × Nat)} {sl : Nat} (R : Rep sz b L xs D dA M H) (ho : okH h) (hz : H1.size = H.size + 1) (hk : ∀ q, q < H.size → H1[q]? = H[q]?) (hc : va_at D vwCl (H.size, cellOf sz b dA (nwC M h sl) (mN M)) H1) : Rep sz b L xs D dA (nwC M h sl) H1 := by
  obtain ⟨⟨h3, h4⟩, h5, h6, h7, h8, h9⟩ := R
  have hN : mN (nwC M h sl) = mN M + 1 := rfl
  refine ⟨⟨by rw [hN]; omega, by rw [hz, h4, hN]; omega⟩, ?_, ?_, ?_, ?_, ?_⟩
  · have e : wl sz b dA (nwC M h sl) = wl sz b dA M ++ [(H.size, cellOf sz b dA (nwC M h sl) (mN M))] := by
      unfold wl
      rw [hN, show mN M + 1 - 2 = (mN M - 2) + 1 by omega, List.range_succ, List.map_append]
      congr 1
      · apply List.map_congr_left
        intro k hk2
        rw [List.mem_range] at hk2
        rw [cell_nw (k + 2) (by omega)]
      · show [(sz + (mN M - 2), cellOf sz b dA (nwC M h sl) (mN M - 2 + 2))] = _
        rw [show mN M - 2 + 2 = mN M by omega, h4]
    rw [e]
    exact (h5.kept (fun k q hq => hk q.1 ((h5 k q hq).lt))).app (fun k q hq => by
      have hz0 : k < 1 := (List.getElem?_eq_some_iff.mp hq).1
      rw [show k = 0 by omega] at hq
      cases hq
      exact hc)
  · intro a j
    show InR (if a = mN M then 0 else mI M a j)
    split
    · exact inR_0
    · exact h6 a j
  · intro a ha hb
    show okH (if a = mN M then h else mH M a)
    split
    · exact ho
    · rename_i e; rw [hN] at hb; exact h7 a ha (by omega)
  · show (if 1 = mN M then h else mH M 1) = _
    rw [if_neg (by omega)]
    exact h8
  · intro j hj
    show (if 1 = mN M then 0 else mI M 1 j) = _
    rw [if_neg (by omega)]
    exact h9 j hj

/-! ===== the reference reads programs ===== -/
/-- rows of clauses in the reference: arrays from F on, from the row o on, right sides w apart -/
def PMr (M : Mem) (F o w : Nat) (zs : List Clz) : Prop := ∀ i z, zs[i]? = some z → (mI M F (o + i) = cm z.1 ∧ mI M (F + 1) (o + i) = cc z.2.1 ∧ mI M (F + 2) (o + i) = (z.2.2.1.length : Int)) ∧ (∀ j, j < z.2.2.1.length → mI M (F + 3) (12 * (o + i) + j) = nmo (nth z.2.2.1 j)) ∧ mI M (F + 4) (o + i) = (z.2.2.2.length : Int) ∧ RM M (F + 5) (w * (o + i)) z.2.2.2
/-- a clause as it must be -/
def zok (n : Nat) (z : Clz) : Prop := (vc z.1 ∧ kd z.1 = 2) ∧ pcc z.2.1 ∧ (lvs z.2.2.1 ∧ z.2.2.1.length ≤ 11 ∧ (z.2.1 = -1 → z.2.2.1.length = arN z.1) ∧ (z.2.1 ≠ -1 → z.2.2.1.length + 1 = arN z.2.1 + arN z.1 ∧ 1 ≤ arN z.1)) ∧ (wf 1 z.2.2.2 ∧ av z.2.2.2 ∧ z.2.2.2.length ≤ n) ∧ ∀ c ∈ z.2.2.2, pcl (some z.2.2.1) false c
def zsk (n : Nat) (zs : List Clz) : Prop := ∀ z ∈ zs, zok n z
def NPm (M : Mem) (zs : List Clz) : Prop := (mI M 1269 28 = (zs.length : Int) ∧ zs.length ≤ 40) ∧ PMr M 1282 0 40 zs ∧ zsk 40 zs
def mcS : Nat → Nat → Prop := fun a k => (1271 ≤ a ∧ a ≤ 1273) ∨ (1281 ≤ a ∧ a ≤ 1287) ∨ (a = 1269 ∧ (k = 2 ∨ k = 3 ∨ k = 7 ∨ k = 8 ∨ k = 9 ∨ k = 19 ∨ k = 20 ∨ k = 21 ∨ k = 28))
theorem PMr.fj {M M1 : Mem} {S : Nat → Nat → Prop} {F o w : Nat} {zs : List Clz} (h : PMr M F o w zs) (f : Fj S M M1) (h0 : ∀ a k, F ≤ a ∧ a ≤ F + 5 → ¬ S a k) : PMr M1 F o w zs := fun i z hz => by
  obtain ⟨⟨h1, h2, h3⟩, h4, h5, h6⟩ := h i z hz
  exact ⟨⟨(f.2.2 _ _ (h0 _ _ (by omega))).trans h1, (f.2.2 _ _ (h0 _ _ (by omega))).trans h2, (f.2.2 _ _ (h0 _ _ (by omega))).trans h3⟩, fun j hj => (f.2.2 _ _ (h0 _ _ (by omega))).trans (h4 j hj), (f.2.2 _ _ (h0 _ _ (by omega))).trans h5, fun j hj => (f.2.2 _ _ (h0 _ _ (by omega))).trans (h6 j hj)⟩
theorem vls_len {T : List Int} : ∀ (n k p : Nat) (vs : List Int) (r : Nat × List Int × Nat), vls T n k p vs = .ok r → r.2.1.length + k = vs.length + r.2.2 := by
  intro n
  induction n with
  | zero =>
    intro k p vs r h
    unfold vls at h
    split at h
    · cases h; rfl
    · cases h
  | succ n ih =>
    intro k p vs r h
    unfold vls at h
    split at h
    · cases h; rfl
    · split at h
      · obtain ⟨a, h1, h2⟩ := ob_ok h
        have := (lvr_ok h1).1
        have := ih _ _ _ _ h2
        omega
      · cases h
theorem pat_ok2 {T : List Int} {p : Nat} {s : Nat × Int × List Int × Nat} (h : pat T p = .ok s) : pcc s.2.1 ∧ (s.2.1 = -1 → s.2.2.1.length = s.2.2.2) ∧ (s.2.1 ≠ -1 → s.2.2.1.length + 1 = arN s.2.1 + s.2.2.2 ∧ 1 ≤ s.2.2.2) := by
  unfold pat at h
  split at h
  · cases h
    exact ⟨Or.inl rfl, fun _ => rfl, fun q => absurd rfl q⟩
  · split at h
    · rename_i h1 hk
      have hk2 : 65 ≤ pek T p ∧ pek T p ≤ 90 := hk
      obtain ⟨r, h2, h3⟩ := ob_ok h
      obtain ⟨t, h4, h5⟩ := ob_ok h3
      obtain ⟨a1, a2, a3, a4, a5⟩ := pcn_ok hk h2
      obtain ⟨b1, b2, b3, b4, b5, b6⟩ := vls_ok _ _ _ _ _ h4
      have b7 := vls_len _ _ _ _ _ h4
      have a6 : r.2.1.length = r.2.2 := by
        unfold pcn at h2
        split at h2
        · obtain ⟨y, h6, h7⟩ := ob_ok h2
          have c1 : y.2.length = 1 := (lvr_ok h6).1
          have := vls_len _ _ _ _ _ h7
          omega
        · cases h2; rfl
      cases h5
      obtain ⟨e1, e2, e3⟩ := vc_mk (k := 1) (a := (r.2.2 : Int)) (s := pek T p - 65) (Or.inl (by omega)) (by omega) (by omega)
      obtain ⟨-, e4, -⟩ := kd_mk (k := 1) (a := (r.2.2 : Int)) (s := pek T p - 65) (by omega) (by omega) (by omega)
      rw [show (1 : Int) * 16777216 = 16777216 from rfl] at e1 e2 e4
      refine ⟨Or.inr ⟨e1, e2⟩, fun q => ?_, fun _ => ⟨?_, by show 1 ≤ t.2.2; omega⟩⟩
      · have q : 16777216 + (r.2.2 : Int) * 65536 + (pek T p - 65) = -1 := q
        omega
      · show t.2.1.length + 1 = arN (16777216 + (r.2.2 : Int) * 65536 + (pek T p - 65)) + t.2.2
        have := arN_ar (16777216 + (r.2.2 : Int) * 65536 + (pek T p - 65))
        rw [e4] at this
        omega
    · obtain ⟨r, h2, h3⟩ := ob_ok h
      obtain ⟨t, h4, h5⟩ := ob_ok h3
      have a1 : r.2.length = 1 := (lvr_ok h2).1
      have b7 := vls_len _ _ _ _ _ h4
      cases h5
      exact ⟨Or.inl rfl, fun _ => by show t.2.1.length = t.2.2; omega, fun q => absurd rfl q⟩
theorem rcl_ok {T : List Int} {zs : List Clz} {p : Nat} {r : Nat × Clz} (h : rcl T zs p = .ok r) : zok 40 r.2 ∧ p < r.1 ∧ r.1 ≤ T.length := by
  unfold rcl at h
  split at h
  · rename_i hf
    have hf2 : 97 ≤ pek T p ∧ pek T p ≤ 108 := hf.2
    obtain ⟨r1, r2⟩ := rdn_rng (T := T) (p := p) (f := 97) (k := 11) (by omega)
    obtain ⟨q1, q2⟩ := rdn_le (f := 97) (pek_F hf.2)
    obtain ⟨p1, h1, h2⟩ := ob_ok h
    obtain ⟨s, h3, h4⟩ := ob_ok h2
    obtain ⟨p2, h5, h6⟩ := ob_ok h4
    split at h6
    · cases h6
    · obtain ⟨x, h7, h8⟩ := ob_ok h6
      obtain ⟨p3, h9, h10⟩ := ob_ok h8
      obtain ⟨a1, a2, a3, a4, a5, a6⟩ := pat_ok h3
      obtain ⟨b1, b2, b3⟩ := pat_ok2 h3
      have hx : ∀ {c : Int} {q q2 : Nat}, c ≠ -1 → xpc T q c = .ok q2 → q2 = q + 1 ∧ q < T.length := by
        intro c q q2 hc e
        unfold xpc at e
        split at e
        · rename_i h
          cases e
          exact ⟨rfl, pek_lt (by omega)⟩
        · cases e
      obtain ⟨c1, c2⟩ := hx (by decide) h1
      obtain ⟨c3, c4⟩ := hx (by decide) h5
      obtain ⟨c5, c6⟩ := hx (by decide) h9
      obtain ⟨d1, d2, d3, d4⟩ := rxo_ok (by omega) h7
      cases h10
      obtain ⟨e1, e2, -⟩ := vc_mk (k := 2) (a := (s.2.2.2 : Int)) (s := (rdn T p 97).1) (Or.inr (by omega)) (by omega) (by omega)
      obtain ⟨-, e4, -⟩ := kd_mk (k := 2) (a := (s.2.2.2 : Int)) (s := (rdn T p 97).1) (by omega) (by omega) (by omega)
      rw [show (2 : Int) * 16777216 = 33554432 from rfl] at e1 e2 e4
      have e5 : arN (33554432 + (s.2.2.2 : Int) * 65536 + (rdn T p 97).1) = s.2.2.2 := by
        have := arN_ar (33554432 + (s.2.2.2 : Int) * 65536 + (rdn T p 97).1)
        rw [e4] at this
        omega
      refine ⟨⟨⟨e1, e2⟩, b1, ⟨a4, a1, fun q => ?_, fun q => ?_⟩, d1, d2⟩, by show p < p3; omega, by show p3 ≤ T.length; omega⟩
      · rw [e5]; exact b2 q
      · rw [e5]; exact b3 q
  · cases h
section MPG
variable {M : Mem} {T : List Int} {p : Nat} {zs : List Clz}
theorem arr_1282 : arr 1282 0 40 := arr_of _ _ _ (by decide)
theorem arr_1283 : arr 1283 0 40 := arr_of _ _ _ (by decide)
theorem arr_1284 : arr 1284 0 40 := arr_of _ _ _ (by decide)
theorem arr_1285 : arr 1285 0 480 := arr_of _ _ _ (by decide)
theorem arr_1286 : arr 1286 0 40 := arr_of _ _ _ (by decide)
theorem arr_1287 : arr 1287 0 1600 := arr_of _ _ _ (by decide)
theorem ctr_cons (z : Clz) (zs : List Clz) (f c : Int) : ctr (z :: zs) f c = true ↔ (z.1 = f ∧ (z.2.1 = -1 ∨ c = -1 ∨ z.2.1 = c)) ∨ ctr zs f c = true := by
  unfold ctr
  simp only [List.any_cons, Bool.or_eq_true, Bool.and_eq_true, decide_eq_true_eq]
theorem M_isFree_s (hG : Good M) (hN : NPm M zs) {f c : Int} (hf : vc f) (hc : pcc c) (h20 : mI M 1269 20 = cc c) : M_isFree 1269 (cm f) M = some (some (.inl (if ctr zs f c = true then 0 else 1)), M) := by
  obtain ⟨⟨hn, hl⟩, hr, hz⟩ := hN
  have key : ∀ (k i : Nat), zs.length - i = k → i ≤ zs.length → M_isFree_2 1269 (cm f) (i : Int) M = some (some (.inl (if ctr (zs.drop i) f c = true then 0 else 1)), M) := by
    intro k
    induction k with
    | zero =>
      intro i h1 h2
      rw [M_isFree_2_eq, hG.gM, gd_t, hn, if_neg (by omega), List.drop_eq_nil_of_le (by omega)]
      rfl
    | succ k ih =>
      intro i h1 h2
      have hlt : i < zs.length := by omega
      obtain ⟨z, hzi⟩ : ∃ z, zs[i]? = some z := ⟨zs[i], List.getElem?_eq_getElem hlt⟩
      obtain ⟨⟨r1, r2, r3⟩, -⟩ := hr i z hzi
      rw [Nat.zero_add] at r1 r2
      obtain ⟨⟨z1, z2⟩, z3, -⟩ := hz z (List.mem_of_getElem? hzi)
      have hi := ih (i + 1) (by omega) (by omega)
      have hd := drop_get hzi
      have e0 := cc_0 z3
      have e1 := cc_0 hc
      have e2 := cc_inj z3 hc
      have e3 := ctr_cons z (zs.drop (i + 1)) f c
      rw [M_isFree_2_eq, hG.gM, gd_t, hn, if_pos (by omega), gd_t, hG.m22, hG.tgS arr_1282 (by omega) (by omega), gd_t, toNat_n, r1, hd]
      by_cases q1 : z.1 = f
      · rw [if_pos (by rw [q1]), gd_t, hG.m23, hG.tgS arr_1283 (by omega) (by omega), gd_t, r2]
        by_cases q2 : z.2.1 = -1
        · rw [if_pos (e0.mpr q2), if_pos (e3.mpr (Or.inl ⟨q1, Or.inl q2⟩))]
        · rw [if_neg (fun q => q2 (e0.mp q)), gd_t, h20]
          by_cases q3 : c = -1
          · rw [if_pos (e1.mpr q3), if_pos (e3.mpr (Or.inl ⟨q1, Or.inr (Or.inl q3)⟩))]
          · rw [if_neg (fun q => q3 (e1.mp q)), gd_t, gd_t, gd_t]
            by_cases q4 : z.2.1 = c
            · rw [if_pos (e2.mpr q4), if_pos (e3.mpr (Or.inl ⟨q1, Or.inr (Or.inr q4)⟩))]
            · rw [if_neg (fun q => q4 (e2.mp q)), wr_s (by omega), hi]
              have : (ctr (z :: zs.drop (i + 1)) f c = true) ↔ (ctr (zs.drop (i + 1)) f c = true) := e3.trans ⟨fun h => h.elim (fun h => by rcases h.2 with h | h | h <;> contradiction) id, Or.inr⟩
              by_cases q5 : ctr (zs.drop (i + 1)) f c = true
              · rw [if_pos q5, if_pos (this.mpr q5)]
              · rw [if_neg q5, if_neg (fun q => q5 (this.mp q))]
      · rw [if_neg (fun q => q1 ((cm_inj z1 hf).mp q)), wr_s (by omega), hi]
        have : (ctr (z :: zs.drop (i + 1)) f c = true) ↔ (ctr (zs.drop (i + 1)) f c = true) := e3.trans ⟨fun h => h.elim (fun h => absurd h.1 q1) id, Or.inr⟩
        by_cases q5 : ctr (zs.drop (i + 1)) f c = true
        · rw [if_pos q5, if_pos (this.mpr q5)]
        · rw [if_neg q5, if_neg (fun q => q5 (this.mp q))]
  rw [M_isFree_eq]
  exact key _ 0 rfl (Nat.zero_le _)
/-- a clause comes to the rows -/
theorem M_keep_s (hG : Good M) (hN : NPm M zs) (hl : zs.length < 40) {z : Clz} (hz : zok 40 z) (h20 : mI M 1269 20 = cc z.2.1) (hV : LVm M z.2.2.1) (hx : mI M 1269 7 = (z.2.2.2.length : Int) ∧ RM M 1273 0 z.2.2.2) : ∃ M1 M2, M_copy 1281 0 (z.2.2.1.length : Int) 1285 ((12 * zs.length : Nat) : Int) (stI (stI (stI M 1282 zs.length (cm z.1)) 1283 zs.length (cc z.2.1)) 1284 zs.length (z.2.2.1.length : Int)) = some (none, M1) ∧ Good M1 ∧ mI M1 1269 7 = (z.2.2.2.length : Int) ∧ M_copy 1273 0 (z.2.2.2.length : Int) 1287 ((40 * zs.length : Nat) : Int) (stI M1 1286 zs.length (z.2.2.2.length : Int)) = some (none, M2) ∧ mI M2 1269 28 = (zs.length : Int) ∧ NPm (stI M2 1269 28 ((zs.length + 1 : Nat) : Int)) (zs ++ [z]) ∧ Fj (fun a k => (1282 ≤ a ∧ a ≤ 1287) ∨ (a = 1269 ∧ k = 28)) M (stI M2 1269 28 ((zs.length + 1 : Nat) : Int)) := by
  have hvl := hz.2.2.1.2.1
  have hrl := hz.2.2.2.1.2.2
  have hi3 : Fi (fun a => 1282 ≤ a ∧ a ≤ 1287) M (stI (stI (stI M 1282 zs.length (cm z.1)) 1283 zs.length (cc z.2.1)) 1284 zs.length (z.2.2.1.length : Int)) := ((Fi.ofI (S := fun a => 1282 ≤ a ∧ a ≤ 1287) (by omega)).trans (Fi.ofI (by omega))).trans (Fi.ofI (by omega))
  obtain ⟨M1, a1, a2, a3⟩ := M_copy_s (hG.fi hi3) (s := 1281) (d := 1285) (p := 0) (q := 12 * zs.length) (k := z.2.2.1.length) arr_1281 arr_1285 (by omega) (by omega) (by decide) (Or.inl (by decide))
  have F1 : Fi (fun a => 1282 ≤ a ∧ a ≤ 1287) M M1 := hi3.trans (a2.mono fun a q => by omega)
  have hG1 := hG.fi F1
  have F2 : Fi (fun a => 1282 ≤ a ∧ a ≤ 1287) M (stI M1 1286 zs.length (z.2.2.2.length : Int)) := F1.trans (Fi.ofI (by omega))
  obtain ⟨M2, b1, b2, b3⟩ := M_copy_s (hG.fi F2) (s := 1273) (d := 1287) (p := 0) (q := 40 * zs.length) (k := z.2.2.2.length) arr_1273 arr_1287 (by omega) (by omega) (by decide) (Or.inl (by decide))
  have F3 : Fi (fun a => 1282 ≤ a ∧ a ≤ 1287) M M2 := F2.trans (b2.mono fun a q => by omega)
  have FF : Fj (fun a k => (1282 ≤ a ∧ a ≤ 1287) ∨ (a = 1269 ∧ k = 28)) M (stI M2 1269 28 ((zs.length + 1 : Nat) : Int)) := (F3.fj fun a k q => Or.inl q).trans (Fj.ofI (by omega))
  refine ⟨M1, M2, a1, hG1, (F1.2.2 _ (by omega) _).trans hx.1, b1, (F3.2.2 _ (by omega) _).trans hN.1.1, ⟨⟨by rw [mI_at, List.length_append]; rfl, by rw [List.length_append, List.length_singleton]; omega⟩, ?_, ?_⟩, FF⟩
  · have m2 : ∀ a k, a ≠ 1287 → mI M2 a k = mI (stI M1 1286 zs.length (z.2.2.2.length : Int)) a k := fun a k h => b2.2.2 a h k
    have m1 : ∀ a k, a ≠ 1285 → mI M1 a k = mI (stI (stI (stI M 1282 zs.length (cm z.1)) 1283 zs.length (cc z.2.1)) 1284 zs.length (z.2.2.1.length : Int)) a k := fun a k h => a2.2.2 a h k
    intro i w hw
    have hi := (List.getElem?_eq_some_iff.mp hw).1
    rw [List.length_append, List.length_singleton] at hi
    rw [Nat.zero_add]
    by_cases q : i < zs.length
    · rw [List.getElem?_append_left q] at hw
      obtain ⟨⟨h1, h2, h3⟩, h4, h5, h6⟩ := hN.2.1 i w hw
      rw [Nat.zero_add] at h1 h2 h3 h4 h5 h6
      have hwk := hN.2.2 w (List.mem_of_getElem? hw)
      have hwl := hwk.2.2.1.2.1
      have hwr := hwk.2.2.2.1.2.2
      refine ⟨⟨?_, ?_, ?_⟩, fun j hj => ?_, ?_, fun j hj => ?_⟩
      · rw [mI_ne (by omega), m2 _ _ (by omega), mI_ne (by omega), m1 _ _ (by omega), mI_ne (by omega), mI_ne (by omega), mI_ne (by omega)]; exact h1
      · rw [mI_ne (by omega), m2 _ _ (by omega), mI_ne (by omega), m1 _ _ (by omega), mI_ne (by omega), mI_ne (by omega), mI_ne (by omega)]; exact h2
      · rw [mI_ne (by omega), m2 _ _ (by omega), mI_ne (by omega), m1 _ _ (by omega), mI_ne (by omega), mI_ne (by omega), mI_ne (by omega)]; exact h3
      · rw [mI_ne (by omega), m2 _ _ (by omega), mI_ne (by omega), a3, if_neg (by omega), mI_ne (by omega), mI_ne (by omega), mI_ne (by omega)]; exact h4 j hj
      · rw [mI_ne (by omega), m2 _ _ (by omega), mI_ne (by omega), m1 _ _ (by omega), mI_ne (by omega), mI_ne (by omega), mI_ne (by omega)]; exact h5
      · rw [mI_ne (by omega), b3, if_neg (by omega), mI_ne (by omega), m1 _ _ (by omega), mI_ne (by omega), mI_ne (by omega), mI_ne (by omega)]; exact h6 j hj
    · have h6 : i = zs.length := by omega
      subst h6
      rw [List.getElem?_append_right (Nat.le_refl _), Nat.sub_self] at hw
      cases hw
      refine ⟨⟨?_, ?_, ?_⟩, fun j hj => ?_, ?_, fun j hj => ?_⟩
      · rw [mI_ne (by omega), m2 _ _ (by omega), mI_ne (by omega), m1 _ _ (by omega), mI_ne (by omega), mI_ne (by omega), mI_at]
      · rw [mI_ne (by omega), m2 _ _ (by omega), mI_ne (by omega), m1 _ _ (by omega), mI_ne (by omega), mI_at]
      · rw [mI_ne (by omega), m2 _ _ (by omega), mI_ne (by omega), m1 _ _ (by omega), mI_at]
      · rw [mI_ne (by omega), m2 _ _ (by omega), mI_ne (by omega), a3, if_pos (by omega), mI_ne (by omega), mI_ne (by omega), mI_ne (by omega), show 0 + (12 * zs.length + j - 12 * zs.length) = j by omega]; exact hV.2.2.1 j hj
      · rw [mI_ne (by omega), m2 _ _ (by omega), mI_at]
      · rw [mI_ne (by omega), b3, if_pos (by omega), mI_ne (by omega), m1 _ _ (by omega), mI_ne (by omega), mI_ne (by omega), mI_ne (by omega), show 0 + (40 * zs.length + j - 40 * zs.length) = 0 + j by omega]; exact hx.2 j hj
  · intro w hw
    rcases List.mem_append.mp hw with hw | hw
    · exact hN.2.2 w hw
    · rw [List.mem_singleton.mp hw]; exact hz
end MPG

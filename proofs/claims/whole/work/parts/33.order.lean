/-! ===== frames by fields; the reference's order of VARS, its counts ===== -/
def Fj (S : Nat → Nat → Prop) (M M' : Mem) : Prop := (M'.1 = M.1 ∧ M'.2.1 = M.2.1) ∧ (∀ a k, mR M' a k = mR M a k) ∧ ∀ a k, ¬ S a k → mI M' a k = mI M a k
section FJ
variable {M M1 M2 : Mem} {S T : Nat → Nat → Prop}
theorem Fj.refl : Fj S M M := ⟨⟨rfl, rfl⟩, fun _ _ => rfl, fun _ _ _ => rfl⟩
theorem Fj.trans (h : Fj S M M1) (k : Fj S M1 M2) : Fj S M M2 := ⟨⟨k.1.1.trans h.1.1, k.1.2.trans h.1.2⟩, fun a j => (k.2.1 a j).trans (h.2.1 a j), fun a j hS => (k.2.2 a j hS).trans (h.2.2 a j hS)⟩
theorem Fj.mono (h : Fj S M M1) (hs : ∀ a k, S a k → T a k) : Fj T M M1 := ⟨h.1, h.2.1, fun a k hT => h.2.2 a k fun q => hT (hs a k q)⟩
theorem Fj.ofI {a k : Nat} {v : Int} (h : S a k) : Fj S M (stI M a k v) := ⟨⟨rfl, rfl⟩, fun _ _ => rfl, fun b j hb => if_neg (fun (q : b = a ∧ j = k) => hb (q.1 ▸ q.2 ▸ h))⟩
theorem Fi.fj {S : Nat → Prop} {T : Nat → Nat → Prop} (h : Fi S M M1) (hs : ∀ a k, S a → T a k) : Fj T M M1 := ⟨h.1, h.2.1, fun a k hT => h.2.2 a (fun q => hT (hs a k q)) k⟩
theorem Fj.fi {S : Nat → Nat → Prop} {T : Nat → Prop} (h : Fj S M M1) (hs : ∀ a k, S a k → T a) : Fi T M M1 := ⟨h.1, h.2.1, fun a hT k => h.2.2 a k (fun q => hT (hs a k q))⟩
theorem Good.fj (h : Good M) (f : Fj S M M1) : Good M1 := h.fi (f.fi (T := fun _ => True) fun _ _ _ => trivial)
theorem EX.fj {e : Nat} {xs : List Int} (h : EX M e xs) (f : Fj S M M1) (h1 : ¬ S e 1) (h2 : ∀ k, ¬ S (e + 1) k) : EX M1 e xs := ⟨(f.2.2 _ _ h1).trans h.1, fun i hi => (f.2.2 _ _ (h2 i)).trans (h.2 i hi)⟩
theorem XE.fj {e n : Nat} {xs : List Int} (h : XE M e n xs) (f : Fj S M M1) (h1 : ¬ S e 1) (h2 : ∀ k, ¬ S (e + 1) k) : XE M1 e n xs := ⟨h.1, h.2.1.fj f h1 h2, h.2.2⟩
theorem RW.fj {a o : Nat} {xs : List Int} (h : RW M a o xs) (f : Fj S M M1) (h1 : ∀ k, ¬ S a k) : RW M1 a o xs := fun i hi => (f.2.2 _ _ (h1 _)).trans (h i hi)
theorem RM.fj {a o : Nat} {xs : List Int} (h : RM M a o xs) (f : Fj S M M1) (h1 : ∀ k, ¬ S a k) : RM M1 a o xs := fun i hi => (f.2.2 _ _ (h1 _)).trans (h i hi)
theorem RX.fj {a n o : Nat} {xs : List Int} (h : RX M a n o xs) (f : Fj S M M1) (h1 : ∀ k, ¬ S a k) : RX M1 a n o xs := ⟨h.1, h.2.1.fj f h1, h.2.2⟩
end FJ
/-- the order that lies there -/
def OR (M : Mem) (vs : List Int) : Prop := mI M 1269 43 = (vs.length : Int) ∧ vs.length ≤ 120 ∧ (∀ i, i < vs.length → mI M 1297 i = nmo (nth vs i)) ∧ ∀ v ∈ vs, vc v ∧ kd v = 0
def oS : Nat → Nat → Prop := fun a k => a = 1297 ∨ (a = 1269 ∧ k = 43)
theorem obj_M : obj 1269 12 := obj_of _ _ (by decide)
theorem arr_1297 : arr 1297 0 120 := arr_of _ _ _ (by decide)
theorem Good.gM {M : Mem} (h : Good M) : gO M 1269 12 = true := h.tgO obj_M
section ORDER
variable {M : Mem}
theorem M_orderPlace_s (hG : Good M) {vs : List Int} (h : OR M vs) {v : Int} (hv : vc v) (h0 : kd v = 0) : M_orderPlace 1269 (nmo v) M = some (some (.inl (ix vs v)), M) := by
  have hl := h.2.1
  have key : ∀ (k i : Nat), vs.length - i = k → i ≤ vs.length → M_orderPlace_2 1269 (nmo v) (i : Int) M = some (some (.inl (ixo v (vs.drop i) i)), M) := by
    intro k
    induction k with
    | zero =>
      intro i h1 h2
      rw [M_orderPlace_2_eq, hG.gM, gd_t, h.1, if_neg (by omega), List.drop_eq_nil_of_le (by omega)]
      rfl
    | succ k ih =>
      intro i h1 h2
      have hlt : i < vs.length := by omega
      obtain ⟨c1, c2⟩ := h.2.2.2 _ (nth_mem hlt)
      rw [M_orderPlace_2_eq, hG.gM, gd_t, h.1, if_pos (by omega), gd_t, hG.m42, hG.tgS arr_1297 (by omega) (by omega), gd_t, toNat_n, h.2.2.1 i hlt, drop_cons hlt, wr_s (by omega)]
      unfold ixo
      by_cases e : nth vs i = v
      · rw [if_pos (by rw [e]), if_pos e]
      · rw [if_neg (fun q => e ((nmo_var c1 hv c2 h0).mp q)), if_neg e]
        exact ih (i + 1) (by omega) (by omega)
  rw [M_orderPlace_eq]
  exact key _ 0 rfl (Nat.zero_le _)
theorem OR.push {vs : List Int} (h : OR M vs) {v : Int} (hv : vc v) (h0 : kd v = 0) (hl : vs.length < 120) : OR (stI (stI M 1297 vs.length (nmo v)) 1269 43 ((vs.length + 1 : Nat) : Int)) (vs ++ [v]) := by
  refine ⟨by rw [mI_at, List.length_append]; rfl, by rw [List.length_append, List.length_singleton]; exact hl, fun i hi => ?_, fun w hw => ?_⟩
  · rw [List.length_append, List.length_singleton] at hi
    rw [mI_ne (by omega)]
    by_cases q : i = vs.length
    · subst q; rw [mI_at, nth_app2 (Nat.le_refl _), Nat.sub_self]; rfl
    · rw [mI_ne (by omega), nth_app1 (by omega)]
      exact h.2.2.1 i (by omega)
  · rcases List.mem_append.mp hw with q | q
    · exact h.2.2.2 w q
    · rw [List.mem_singleton.mp q]; exact ⟨hv, h0⟩
theorem M_orderMore_s (hG : Good M) {vs : List Int} (h : OR M vs) {a n o : Nat} {xs : List Int} (hx : RX M a n o xs) (ha : a ≠ 1297 ∧ a ≠ 1269) (hl : (ordo xs vs).length ≤ 120) : ∃ M', M_orderMore 1269 a (o : Int) (xs.length : Int) M = some (none, M') ∧ OR M' (ordo xs vs) ∧ Fj oS M M' := by
  have hn := hx.1.2
  have hol := hx.2.2.1
  have key : ∀ (k i : Nat) (M1 : Mem) (ws : List Int), xs.length - i = k → i ≤ xs.length → ordo (xs.drop i) ws = ordo xs vs → OR M1 ws → Fj oS M M1 → ∃ M', M_orderMore_3 1269 a (o : Int) (xs.length : Int) ((o + i : Nat) : Int) M1 = some (none, M') ∧ OR M' (ordo xs vs) ∧ Fj oS M M' := by
    intro k
    induction k with
    | zero =>
      intro i M1 ws h1 h2 h3 h4 hF
      rw [List.drop_eq_nil_of_le (by omega)] at h3
      have h3 : ws = ordo xs vs := h3
      subst h3
      exact ⟨M1, by rw [M_orderMore_3_eq, wr_id (x := (o : Int) + _) (by omega) (by omega), if_neg (by omega)], h4, hF⟩
    | succ k ih =>
      intro i M1 ws h1 h2 h3 h4 hF
      have hlt : i < xs.length := by omega
      have hG1 := hG.fj hF
      have hx1 := hx.fj hF (fun k q => by unfold oS at q; omega)
      have hvc := hx1.v hlt
      rw [drop_cons hlt] at h3
      have h3 : (if kd (nth xs i) = 0 ∧ nth xs i ∉ ws then ordo (xs.drop (i + 1)) (ws ++ [nth xs i]) else ordo (xs.drop (i + 1)) ws) = ordo xs vs := h3
      rw [M_orderMore_3_eq, wr_id (x := (o : Int) + _) (by omega) (by omega), if_pos (by omega), hx1.gs hG1 hlt, gd_t, toNat_n, hx1.2.1 i hlt, M_sortOf_s hvc, cI_s, wr_s (by omega)]
      by_cases h5 : kd (nth xs i) = 0
      · rw [if_pos h5, hx1.gs hG1 hlt, gd_t, hx1.2.1 i hlt, M_nameOf_s hvc, cI_s, hG1.gM, gd_t, M_orderPlace_s hG1 h4 hvc h5, cI_s]
        by_cases h6 : nth xs i ∈ ws
        · rw [if_neg (ix_mem.mpr h6)]
          rw [if_neg (fun q => q.2 h6)] at h3
          exact ih (i + 1) M1 ws (by omega) (by omega) h3 h4 hF
        · rw [if_pos (Classical.not_not.mp fun q => h6 (ix_mem.mp q))]
          rw [if_pos ⟨h5, h6⟩] at h3
          have hlen : ws.length < 120 := by
            have := (ordo_len (xs.drop (i + 1)) (ws ++ [nth xs i])).1
            rw [h3, List.length_append, List.length_singleton] at this
            omega
          have hF2 : Fj oS M1 (stI (stI M1 1297 ws.length (nmo (nth xs i))) 1269 43 ((ws.length + 1 : Nat) : Int)) := (Fj.ofI (Or.inl rfl)).trans (Fj.ofI (Or.inr ⟨rfl, rfl⟩))
          obtain ⟨M', a1, a2, a3⟩ := ih (i + 1) _ _ (by omega) (by omega) h3 (h4.push hvc h5 hlen) (hF.trans hF2)
          refine ⟨M', ?_, a2, a3⟩
          simp only [hG1.gM, gd_t, hG1.m42]
          rw [hx1.gs hG1 hlt, gd_t, hx1.2.1 i hlt, M_nameOf_s hvc, cI_s, h4.1, hG1.tgS arr_1297 (by omega) (by omega), gd_t, hG1.gM, gd_t, gd_t, toNat_n, mI_ne (by omega), h4.1, wr_s (i := ws.length) (by omega)]
          exact a1
      · rw [if_neg h5]
        rw [if_neg (fun q => h5 q.1)] at h3
        exact ih (i + 1) M1 ws (by omega) (by omega) h3 h4 hF
  rw [M_orderMore_eq]
  exact key _ 0 M vs rfl (Nat.zero_le _) rfl h Fj.refl
theorem M_layOrder_s (hG : Good M) {a n o : Nat} {xs : List Int} (hx : RX M a n o xs) (ha : a ≠ 1297 ∧ a ≠ 1269) (hl : (ord xs).length ≤ 120) : ∃ M', M_layOrder 1269 a (o : Int) (xs.length : Int) M = some (some (.inl ((ord xs).length : Nat)), M') ∧ OR M' (ord xs) ∧ Fj oS M M' := by
  have hF : Fj oS M (stI M 1269 43 0) := Fj.ofI (Or.inr ⟨rfl, rfl⟩)
  have h0 : OR (stI M 1269 43 0) [] := ⟨mI_at, Nat.zero_le _, fun i hi => absurd hi (Nat.not_lt_zero i), fun v hv => by cases hv⟩
  obtain ⟨M', h1, h2, h3⟩ := M_orderMore_s (hG.fj hF) h0 (hx.fj hF fun k q => by unfold oS at q; omega) ha hl
  refine ⟨M', ?_, h2, hF.trans h3⟩
  rw [M_layOrder_eq, hG.gM, gd_t, gd_t, h1, cV_s, (hG.fj (hF.trans h3)).gM, gd_t, h2.1]
  rfl
theorem M_callsIn_s (hG : Good M) {a n o : Nat} {xs : List Int} (hx : RX M a n o xs) : M_callsIn a (o : Int) (xs.length : Int) M = some (some (.inl (cco xs 0)), M) := by
  have hn := hx.1.2
  have hol := hx.2.2.1
  have key : ∀ (k i : Nat) (m : Int), xs.length - i = k → i ≤ xs.length → 0 ≤ m → m ≤ i → M_callsIn_5 a (o : Int) (xs.length : Int) m ((o + i : Nat) : Int) M = some (some (.inl (cco (xs.drop i) m)), M) := by
    intro k
    induction k with
    | zero =>
      intro i m h1 h2 h3 h4
      rw [M_callsIn_5_eq, wr_id (x := (o : Int) + _) (by omega) (by omega), if_neg (by omega), List.drop_eq_nil_of_le (by omega)]
      rfl
    | succ k ih =>
      intro i m h1 h2 h3 h4
      have hlt : i < xs.length := by omega
      rw [M_callsIn_5_eq, wr_id (x := (o : Int) + _) (by omega) (by omega), if_pos (by omega), hx.gs hG hlt, gd_t, toNat_n, hx.2.1 i hlt, M_sortOf_s (hx.v hlt), cI_s, wr_s (i := o + i) (by omega), drop_cons hlt]
      unfold cco
      by_cases h5 : kd (nth xs i) = 2
      · rw [if_pos h5, if_pos h5, wr_id (x := m + 1) (by omega) (by omega)]
        exact ih (i + 1) _ (by omega) (by omega) (by omega) (by omega)
      · rw [if_neg h5, if_neg h5, wr_id (x := m + 0) (by omega) (by omega), Int.add_zero]
        exact ih (i + 1) _ (by omega) (by omega) (by omega) (by omega)
  rw [M_callsIn_eq]
  exact key _ 0 0 rfl (Nat.zero_le _) (by omega) (by omega)
/-- the reference counts at q those ahead of it and itself -/
def cnn (xs : List Int) (p : Nat) : Nat → Nat
  | 0 => 0
  | i + 1 => cnn xs p i + (if (kd (nth xs i) = 2 ∨ 0 < ar (nth xs i)) ∧ p < beh xs i then 1 else 0)
theorem cnn_cnt {xs : List Int} {p : Nat} (hp : p < xs.length) : ∀ i, i ≤ p → cnn xs p i = cnt xs p i := by
  intro i
  induction i with
  | zero => intro _; rfl
  | succ i ih =>
    intro h
    unfold cnn cnt
    rw [ih (by omega)]
    by_cases h1 : p < beh xs i
    · rw [if_pos h1, if_pos]
      refine ⟨Or.inr ?_, h1⟩
      have h2 := beh_agp (xs := xs) (p := i) (by omega)
      have h3 := arN_ar (nth xs i)
      by_cases h4 : arN (nth xs i) = 0
      · rw [h4, agp_z] at h2; omega
      · omega
    · rw [if_neg h1, if_neg (fun q => h1 q.2)]
theorem M_deepIn_s (hG : Good M) {a n o : Nat} {xs : List Int} (hx : RX M a n o xs) (hw : wf 1 xs) : M_deepIn a (o : Int) (xs.length : Int) M = some (some (.inl (cno xs xs 0 0)), M) := by
  have hn := hx.1.2
  have hol := hx.2.2.1
  have hwd : ∀ p, p < xs.length → ∃ b, wf (1 + b) (xs.drop p) := fun p hp => by
    obtain ⟨b, hb⟩ := wf_drop xs 1 p hw (by omega)
    cases b with
    | zero => rw [drop_cons hp] at hb; exact hb.elim
    | succ b => exact ⟨b, by rw [Nat.add_comm]; exact hb⟩
  have key : ∀ (k p : Nat) (m : Int) (d5 d6 : LV), xs.length - p = k → p ≤ xs.length → 0 ≤ m → m ≤ 30000 → M_deepIn_5 a (o : Int) (xs.length : Int) m ((o + p : Nat) : Int) d5 d6 M = some (some (.inl (cno xs (xs.drop p) p m)), M) := by
    intro k
    induction k with
    | zero =>
      intro p m d5 d6 h1 h2 h3 h4
      rw [M_deepIn_5_eq, wr_id (x := (o : Int) + _) (by omega) (by omega), if_neg (by omega), List.drop_eq_nil_of_le (by omega)]
      rfl
    | succ k ih =>
      intro p m d5 d6 h1 h2 h3 h4
      have hlt : p < xs.length := by omega
      have hvc := hx.v hlt
      have inner : (kd (nth xs p) = 2 ∨ 0 < ar (nth xs p)) → M_deepIn_43 a (o : Int) (xs.length : Int) m ((o + p : Nat) : Int) 0 (o : Int) M = some (some (.inl (cno xs (xs.drop p) p m)), M) := by
        intro hcon
        have loop : ∀ (j q : Nat), p + 1 - q = j → q ≤ p + 1 → M_deepIn_43 a (o : Int) (xs.length : Int) m ((o + p : Nat) : Int) ((cnn xs p q : Nat) : Int) ((o + q : Nat) : Int) M = some (some (.inl (cno xs (xs.drop p) p m)), M) := by
          intro j
          induction j with
          | zero =>
            intro q g1 g2
            have : q = p + 1 := by omega
            subst this
            have e1 : (cnn xs p (p + 1) : Int) = dq xs p 1 0 := by
              rw [dq_dep hlt]
              show ((cnn xs p p + (if (kd (nth xs p) = 2 ∨ 0 < ar (nth xs p)) ∧ p < beh xs p then 1 else 0) : Nat) : Int) = _
              rw [if_pos ⟨hcon, beh_gt hlt⟩, cnn_cnt hlt p (Nat.le_refl _)]
              unfold dep
              omega
            have hc2 := cnt_le xs p p
            have e2 : (0 : Int) ≤ dq xs p 1 0 ∧ dq xs p 1 0 ≤ 30000 := by rw [dq_dep hlt]; unfold dep; omega
            rw [M_deepIn_43_eq, if_pos (by omega), e1, drop_cons hlt, wr_s (by omega), show o + p + 1 = o + (p + 1) by omega]
            unfold cno
            rw [if_pos hcon]
            by_cases h6 : m < dq xs p 1 0
            · rw [if_pos h6, if_pos h6]
              exact ih (p + 1) _ _ _ (by omega) (by omega) (by omega) (by omega)
            · rw [if_neg h6, if_neg h6]
              exact ih (p + 1) _ _ _ (by omega) (by omega) (by omega) (by omega)
          | succ j ihj =>
            intro q g1 g2
            have hq : q < xs.length := by omega
            have hqv := hx.v hq
            obtain ⟨b, hb⟩ := hwd q hq
            have hcl : cnn xs p q ≤ q := by
              have : ∀ i, cnn xs p i ≤ i := by
                intro i
                induction i with
                | zero => exact Nat.le_refl _
                | succ i ih => unfold cnn; split <;> omega
              exact this q
            have h73 : (kd (nth xs q) = 2 ∨ 0 < ar (nth xs q)) → ∀ (d : LV), M_deepIn_73 a (o : Int) (xs.length : Int) m ((o + p : Nat) : Int) ((o + q : Nat) : Int) ((cnn xs p q : Nat) : Int) d M = some (some (.inl (cno xs (xs.drop p) p m)), M) := by
              intro hcq d
              have g := ihj (q + 1) (by omega) (by omega)
              rw [M_deepIn_73_eq, M_behind_s hG hx hb, cI_s, wr_s (i := o + q) (by omega), show o + q + 1 = o + (q + 1) by omega]
              by_cases h7 : p < beh xs q
              · rw [if_pos (by omega), wr_s (by omega)]
                rw [show cnn xs p (q + 1) = cnn xs p q + 1 from by show cnn xs p q + _ = _; rw [if_pos ⟨hcq, h7⟩]] at g
                exact g
              · rw [if_neg (by omega), wr_id (x := ((cnn xs p q : Nat) : Int) + 0) (by omega) (by omega), Int.add_zero]
                rw [show cnn xs p (q + 1) = cnn xs p q from by show cnn xs p q + _ = _; rw [if_neg (fun z => h7 z.2)]; rfl] at g
                exact g
            rw [M_deepIn_43_eq, if_neg (by omega), hx.gs hG hq, gd_t, toNat_n, hx.2.1 q hq, M_sortOf_s hqv, cI_s]
            by_cases h8 : kd (nth xs q) = 2
            · rw [if_pos h8]; exact h73 (Or.inl h8) _
            · rw [if_neg h8, hx.gs hG hq, gd_t, hx.2.1 q hq, M_manyOf_s hqv, cI_s]
              by_cases h9 : 0 < ar (nth xs q)
              · rw [if_pos h9]; exact h73 (Or.inr h9) _
              · rw [if_neg h9]
                have g := ihj (q + 1) (by omega) (by omega)
                rw [show cnn xs p (q + 1) = cnn xs p q from by show cnn xs p q + _ = _; rw [if_neg (fun z => z.1.elim h8 h9)]; rfl] at g
                rw [wr_s (i := o + q) (by omega), wr_id (x := ((cnn xs p q : Nat) : Int) + 0) (by omega) (by omega), Int.add_zero]
                exact g
        have := loop _ 0 rfl (by omega)
        exact this
      have hskip : ¬ (kd (nth xs p) = 2 ∨ 0 < ar (nth xs p)) → ∀ d5 d6, M_deepIn_5 a (o : Int) (xs.length : Int) m (wr (((o + p : Nat) : Int) + 1)) d5 d6 M = some (some (.inl (cno xs (xs.drop p) p m)), M) := by
        intro hcon d5 d6
        rw [wr_s (by omega), show o + p + 1 = o + (p + 1) by omega, ih (p + 1) m _ _ (by omega) (by omega) h3 h4, drop_cons hlt]
        conv => rhs; unfold cno
        rw [if_neg hcon]
      have hnn := ar_nn (nth xs p)
      rw [M_deepIn_5_eq, wr_id (x := (o : Int) + _) (by omega) (by omega), if_pos (by omega), hx.gs hG hlt, gd_t, toNat_n, hx.2.1 p hlt, M_sortOf_s hvc, cI_s]
      by_cases h5 : kd (nth xs p) = 2
      · rw [if_pos h5]; exact inner (Or.inl h5)
      · rw [if_neg h5, hx.gs hG hlt, gd_t, hx.2.1 p hlt, M_manyOf_s hvc, cI_s]
        by_cases h6 : ar (nth xs p) = 0
        · rw [if_pos h6]; exact hskip (fun q => q.elim h5 (by omega)) _ _
        · rw [if_neg h6]; exact inner (Or.inr (by omega))
  rw [M_deepIn_eq]
  exact key _ 0 0 _ _ rfl (Nat.zero_le _) (by omega) (by omega)
end ORDER

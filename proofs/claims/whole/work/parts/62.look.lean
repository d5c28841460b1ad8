/-! ===== NEXT: the reference ===== -/
noncomputable def cof (f v : Int) : List Clz → Nat → Option Nat
  | [], _ => none
  | z :: zs, i => haveI := Classical.propDecidable; if z.1 = f ∧ (z.2.1 = -1 ∨ cc z.2.1 = v) then some i else cof f v zs (i + 1)
theorem cof_fo {f v : Int} : ∀ (zs : List Clz) (i k : Nat), fo f zs i = some k → (∀ z, zs[k - i]? = some z → z.2.1 = -1) → i ≤ k → cof f v zs i = some k := by
  intro zs
  induction zs with
  | nil => intro i k h; cases h
  | cons z zs ih =>
    intro i k h h2 h3
    unfold fo at h
    unfold cof
    by_cases q : z.1 = f
    · rw [if_pos q] at h
      cases h
      rw [if_pos ⟨q, Or.inl (h2 z (by rw [Nat.sub_self]; rfl))⟩]
    · rw [if_neg q] at h
      rw [if_neg (fun e => q e.1)]
      have h4 : i + 1 ≤ k := by
        rcases fo_spec f zs (i + 1) with ⟨g, -⟩ | ⟨j, w, g, -⟩
        · rw [g] at h; cases h
        · rw [g] at h; cases h; omega
      refine ih (i + 1) k h (fun w hw => h2 w ?_) h4
      rw [show k - i = (k - (i + 1)) + 1 by omega]
      exact hw
theorem cof_co {f a : Int} (ha : vc a ∧ kd a = 1) : ∀ (zs : List Clz) (i : Nat), (∀ z ∈ zs, pcc z.2.1) → (∀ z ∈ zs, z.1 = f → z.2.1 ≠ -1) → cof f (cm a) zs i = co f a zs i := by
  intro zs
  induction zs with
  | nil => intro i _ _; rfl
  | cons z zs ih =>
    intro i h1 h2
    have hi := ih (i + 1) (fun w hw => h1 w (List.mem_cons_of_mem _ hw)) (fun w hw => h2 w (List.mem_cons_of_mem _ hw))
    have ea : cc a = cm a := if_neg (fun q => by have := ha.1.1; omega)
    have hinj := cc_inj (h1 z (by simp)) (Or.inr ha)
    rw [ea] at hinj
    unfold cof co
    by_cases q : z.1 = f
    · have h3 := h2 z (by simp) q
      rw [if_pos q]
      by_cases q2 : z.2.1 = a
      · rw [if_pos q2, if_pos ⟨q, Or.inr (hinj.mpr q2)⟩]
      · rw [if_neg q2, if_neg (fun e => e.2.elim h3 (fun g => q2 (hinj.mp g)))]
        exact hi
    · rw [if_neg q, if_neg (fun e => q e.1)]
      exact hi
section LOOK
variable {M : Mem} {zs : List Clz} {p a n : Nat} {xs : List Int}
/-- a program's rows -/
def ROWP (M : Mem) (p : Nat) (zs : List Clz) : Prop := (mI M 1280 p = (zs.length : Int) ∧ p < 2 ∧ zs.length ≤ 40) ∧ PMr M 1274 (40 * p) 100 zs ∧ zsk 100 zs ∧ okP zs
theorem ROWP.fj {M1 : Mem} {S : Nat → Nat → Prop} (h : ROWP M p zs) (f : Fj S M M1) (h0 : ∀ a k, 1274 ≤ a ∧ a ≤ 1280 → ¬ S a k) : ROWP M1 p zs := ⟨⟨(f.2.2 _ _ (h0 _ _ (by omega))).trans h.1.1, h.1.2⟩, h.2.1.fj f fun a k q => h0 a k (by omega), h.2.2⟩
def tas (zs : List Clz) (f : Int) : Int := match fo f zs 0 with
  | none => -1
  | some k => if conAt zs k = -1 then 0 else 1
def tas0 (zs ws : List Clz) (f : Int) (i : Nat) : Int := match fo f ws i with
  | none => -1
  | some k => if conAt zs k = -1 then 0 else 1
theorem M_toldAs_s (hG : Good M) (h : ROWP M p zs) {f : Int} (hf : vc f) : M_toldAs 1269 (p : Int) (cm f) M = some (some (.inl (tas zs f)), M) := by
  obtain ⟨⟨h1, h2, h3⟩, h4, h5, h6⟩ := h
  have key : ∀ (t i : Nat), zs.length - i = t → i ≤ zs.length → M_toldAs_2 1269 (p : Int) (cm f) (i : Int) M = some (some (.inl (tas0 zs (zs.drop i) f i)), M) := by
    intro t
    induction t with
    | zero =>
      intro i e1 e2
      rw [M_toldAs_2_eq, hG.gM, gd_t, hG.m17, hG.tgS arr_1280 (by omega) (by omega), gd_t, toNat_n, h1, if_neg (by omega), List.drop_eq_nil_of_le (by omega)]
      rfl
    | succ t ih =>
      intro i e1 e2
      obtain ⟨z, hz⟩ : ∃ z, zs[i]? = some z := ⟨zs[i], List.getElem?_eq_getElem (by omega)⟩
      have hr := h4.row hz
      have hzk := h5 z (List.mem_of_getElem? hz)
      rw [M_toldAs_2_eq, hG.gM, gd_t, hG.m17, hG.tgS arr_1280 (by omega) (by omega), gd_t, toNat_n, h1, if_pos (by omega), gd_t, hG.m11, wr_id (x := 40 * (p : Int)) (by omega) (by omega), wr_id (x := 40 * (p : Int) + (i : Int)) (by omega) (by omega), show 40 * (p : Int) + (i : Int) = ((40 * p + i : Nat) : Int) by omega, hG.tgS arr_1274 (by omega) (by omega), gd_t, toNat_n, hr.1.1, drop_get hz]
      unfold tas0 fo
      by_cases q : z.1 = f
      · rw [if_pos (by rw [q]), if_pos q, gd_t, hG.m12, hG.tgS arr_1275 (by omega) (by omega), gd_t, hr.1.2.1]
        show _ = some (some (Sum.inl (if conAt zs i = -1 then 0 else 1)), M)
        rw [conAt_of hz]
        by_cases q2 : z.2.1 = -1
        · rw [if_pos ((cc_0 hzk.2.1).mpr q2), if_pos q2]
        · rw [if_neg (fun e => q2 ((cc_0 hzk.2.1).mp e)), if_neg q2]
      · rw [if_neg (fun e => q ((cm_inj hzk.1.1 hf).mp e)), if_neg q, wr_s (by omega)]
        exact ih (i + 1) (by omega) (by omega)
  rw [M_toldAs_eq]
  exact key _ 0 rfl (Nat.zero_le _)
def cfr (p : Nat) (o : Option Nat) : Int := match o with
  | none => -1
  | some k => ((40 * p + k : Nat) : Int)
theorem M_clauseOf_s (hG : Good M) (h : ROWP M p zs) {f v : Int} (hf : vc f) : M_clauseOf 1269 (p : Int) (cm f) v M = some (some (.inl (cfr p (cof f v zs 0))), M) := by
  obtain ⟨⟨h1, h2, h3⟩, h4, h5, h6⟩ := h
  have key : ∀ (t i : Nat), zs.length - i = t → i ≤ zs.length → M_clauseOf_6 1269 (p : Int) (cm f) v ((40 * p + i : Nat) : Int) M = some (some (.inl (cfr p (cof f v (zs.drop i) i))), M) := by
    intro t
    induction t with
    | zero =>
      intro i e1 e2
      rw [M_clauseOf_6_eq, hG.gM, gd_t, hG.m17, hG.tgS arr_1280 (by omega) (by omega), gd_t, toNat_n, h1, wr_id (x := 40 * (p : Int)) (by omega) (by omega), wr_id (x := 40 * (p : Int) + (zs.length : Int)) (by omega) (by omega), if_neg (by omega), List.drop_eq_nil_of_le (by omega)]
      rfl
    | succ t ih =>
      intro i e1 e2
      obtain ⟨z, hz⟩ : ∃ z, zs[i]? = some z := ⟨zs[i], List.getElem?_eq_getElem (by omega)⟩
      have hr := h4.row hz
      have hzk := h5 z (List.mem_of_getElem? hz)
      have hcc := cc_0 hzk.2.1
      rw [M_clauseOf_6_eq, hG.gM, gd_t, hG.m17, hG.tgS arr_1280 (by omega) (by omega), gd_t, toNat_n, h1, wr_id (x := 40 * (p : Int)) (by omega) (by omega), wr_id (x := 40 * (p : Int) + (zs.length : Int)) (by omega) (by omega), if_pos (by omega), gd_t, hG.m11, hG.tgS arr_1274 (by omega) (by omega), gd_t, toNat_n, hr.1.1, drop_get hz]
      unfold cof
      by_cases q : z.1 = f
      · rw [if_pos (by rw [q]), gd_t, hG.m12, hG.tgS arr_1275 (by omega) (by omega), gd_t, hr.1.2.1]
        by_cases q2 : z.2.1 = -1
        · rw [if_pos (hcc.mpr q2), if_pos ⟨q, Or.inl q2⟩]; rfl
        · rw [if_neg (fun e => q2 (hcc.mp e)), gd_t, gd_t]
          by_cases q3 : cc z.2.1 = v
          · rw [if_pos q3, if_pos ⟨q, Or.inr q3⟩]; rfl
          · rw [if_neg q3, if_neg (fun e => e.2.elim q2 q3), wr_s (by omega)]
            exact ih (i + 1) (by omega) (by omega)
      · rw [if_neg (fun e => q ((cm_inj hzk.1.1 hf).mp e)), if_neg (fun e => q e.1), wr_s (by omega)]
        exact ih (i + 1) (by omega) (by omega)
  rw [M_clauseOf_eq, wr_id (x := 40 * (p : Int)) (by omega) (by omega)]
  exact key _ 0 rfl (Nat.zero_le _)
def lkS : Nat → Nat → Prop := fun a k => a = 1269 ∧ (k = 47 ∨ k = 48 ∨ k = 49)
/-- how the reference calls the states -/
def lkR (s : Nat) : Int := if s = 4 then 2 else if s = 5 then 3 else 1
theorem tas_n {f : Int} (h : fo f zs 0 = none) : tas zs f = -1 := by unfold tas; rw [h]
theorem tas_k {f : Int} {k : Nat} (h : fo f zs 0 = some k) : tas zs f = if conAt zs k = -1 then 0 else 1 := by unfold tas; rw [h]
theorem M_lookCall_131_s (hG : Good M) (h : ROWP M p zs) {f v : Int} (hf : vc f) (d1 d2 d3 d4 : LV) : M_lookCall_131 1269 v (cm f) (p : Int) 1269 1269 d1 d2 d3 d4 M = some (some (.inl (if cof f v zs 0 = none then 1 else 2)), stI M 1269 49 (cfr p (cof f v zs 0))) := by
  rw [M_lookCall_131_eq, hG.gM, gd_t, M_clauseOf_s hG h hf, cI_s, hG.gM, gd_t, gd_t, mI_at]
  cases cof f v zs 0 with
  | none => rw [if_pos (show cfr p none = -1 from rfl), if_pos rfl]
  | some k => rw [if_neg (show ¬ cfr p (some k) = -1 by show ¬ ((40 * p + k : Nat) : Int) = -1; omega), if_neg (by simp)]
theorem M_lookCall_loop (ha : a ≠ 1269) (hv : av xs) : ∀ (t i : Nat) (M : Mem) (d3 d4 : LV) (dd b : Nat), xs.length - i = t → i < xs.length → wf (1 + b) (xs.drop i) → kd (nth xs i) = 2 → Good M → RX M a n 0 xs → ROWP M p zs → mI M 1269 47 = (i : Int) → mI M 1269 48 = (dd : Int) → dd + (xs.length - i) ≤ 20000 → ∃ M', M_lookCall_0 1269 (p : Int) a d3 d4 M = some (some (.inl (lkR (fnx zs (xs.drop i) i).1)), M') ∧ ((fnx zs (xs.drop i) i).1 = 4 → mI M' 1269 47 = ((fnx zs (xs.drop i) i).2.1 : Nat) ∧ mI M' 1269 48 = ((dd + ((fnx zs (xs.drop i) i).2.1 - i) : Nat) : Int) ∧ mI M' 1269 49 = ((40 * p + (fnx zs (xs.drop i) i).2.2 : Nat) : Int) ∧ i ≤ (fnx zs (xs.drop i) i).2.1) ∧ Fj lkS M M' := by
  intro t
  induction t with
  | zero => intro i M d3 d4 dd b h1 h2; omega
  | succ t ih =>
    intro i M d3 d4 dd b h1 hi hw hk2 hG hX hR h47 h48 hdd
    have hxl : xs.length ≤ 20480 := by have := hX.2.2.1; have := hX.1.2; omega
    have hc := hX.v hi
    have hcell : mI M a i = cm (nth xs i) := by have := hX.2.1 i hi; rwa [Nat.zero_add] at this
    have hgs : gS M a 0 (i : Int) = true := by have := hX.gs hG hi; rwa [Nat.zero_add] at this
    have hd := drop_cons hi
    rw [hd] at hw ⊢
    unfold fnx
    rw [if_pos hk2]
    have hw2 : wf (b + arN (nth xs i)) (xs.drop (i + 1)) := by
      have e : wf (b + 1) (nth xs i :: xs.drop (i + 1)) := by rw [Nat.add_comm b 1]; exact hw
      exact e
    -- the end of the loop
    have e53 : M_lookCall_53 1269 (p : Int) a d3 d4 M = if tas zs (nth xs i) = -1 then some (some (.inl 1), M) else if tas zs (nth xs i) = 0 then M_lookCall_91 1269 (p : Int) a (tas zs (nth xs i)) 1 d4 M else gd (gS M a 0 ((i + 1 : Nat) : Int)) (cI (M_sortOf (mI M a (i + 1)) M) fun r4 M3 => M_lookCall_91 1269 (p : Int) a (tas zs (nth xs i)) r4 d4 M3) := by
      rw [M_lookCall_53_eq, hG.gM, gd_t, h47, hgs, gd_t, gd_t, toNat_n, hcell, M_toldAs_s hG hR hc, cI_s, hG.gM, gd_t, h47, wr_s (by omega), toNat_n]
    rw [M_lookCall_0_eq, hG.gM, gd_t, h47, hgs, gd_t, gd_t, toNat_n, hcell, M_toldAs_s hG hR hc, cI_s]
    cases hf : fo (nth xs i) zs 0 with
    | none =>
      have ht := tas_n hf
      rw [ht, if_neg (by decide), e53, if_pos ht, fn1_n]
      exact ⟨M, rfl, fun q => (by cases q), Fj.refl⟩
    | some k =>
      have ht := tas_k hf
      obtain ⟨z, z1, z2⟩ : ∃ z, zs[k]? = some z ∧ z.1 = nth xs i := by
        rcases fo_spec (nth xs i) zs 0 with ⟨g, -⟩ | ⟨j, w, g1, g2, g3, -⟩
        · rw [g] at hf; cases hf
        · rw [g1, Nat.zero_add] at hf; cases hf; exact ⟨w, g2, g3⟩
      have hzk := hR.2.2.1 z (List.mem_of_getElem? z1)
      rw [conAt_of z1] at ht
      rw [fn1_s]
      by_cases hcon : z.2.1 = -1
      · rw [if_pos hcon] at ht
        have hcf : cof (nth xs i) 0 zs 0 = some k := cof_fo zs 0 k hf (fun w hw => by rw [Nat.sub_zero, z1] at hw; cases hw; exact hcon) (Nat.zero_le _)
        rw [ht, if_neg (by decide), e53, if_neg (by rw [ht]; decide), if_pos ht, M_lookCall_91_eq, if_neg (by decide), if_pos rfl, hG.gM, gd_t, h47, hgs, gd_t, if_pos ht, toNat_n, hcell, M_lookCall_131_s hG hR hc, hcf, if_neg (by simp)]
        have ec : conAt zs k = -1 := by rw [conAt_of z1]; exact hcon
        simp only [if_pos ec]
        exact ⟨_, rfl, fun _ => ⟨by rw [mI_ne (by omega)]; exact h47, by rw [mI_ne (by omega), Nat.sub_self]; exact h48, mI_at, Nat.le_refl _⟩, Fj.ofI (by unfold lkS; omega)⟩
      · rw [if_neg hcon] at ht
        have hal := (hzk.2.2.1.2.2.2 hcon).2
        rw [z2] at hal
        have hi1 : i + 1 < xs.length := by
          by_cases q : i + 1 < xs.length
          · exact q
          · rw [List.drop_eq_nil_of_le (by omega)] at hw2
            obtain ⟨m, hm⟩ : ∃ m, b + arN (nth xs i) = m + 1 := ⟨b + arN (nth xs i) - 1, by omega⟩
            rw [hm] at hw2
            exact absurd hw2 (fun h => h)
        have hd1 := drop_cons hi1
        have hc1 := hX.v hi1
        have hcell1 : mI M a (i + 1) = cm (nth xs (i + 1)) := by have := hX.2.1 (i + 1) hi1; rwa [Nat.zero_add] at this
        have hgs1 : gS M a 0 ((i + 1 : Nat) : Int) = true := by have := hX.gs hG hi1; rwa [Nat.zero_add] at this
        have ec : ¬ conAt zs k = -1 := by rw [conAt_of z1]; exact hcon
        have ehd : (xs.drop (i + 1)).headD 50331648 = nth xs (i + 1) := by rw [hd1]; rfl
        simp only [if_neg ec, ehd]
        rw [ht, if_pos rfl, hG.gM, gd_t, h47, wr_s (by omega), hgs1, gd_t, toNat_n, hcell1, M_sortOf_s hc1, cI_s]
        have hk4 := kd_nn (nth xs (i + 1))
        by_cases k2 : kd (nth xs (i + 1)) = 2
        · have f2 : Fj lkS M (stI (stI M 1269 47 ((i + 1 : Nat) : Int)) 1269 48 ((dd + 1 : Nat) : Int)) := (Fj.ofI (by unfold lkS; omega)).trans (Fj.ofI (by unfold lkS; omega))
          have hw3 : wf (1 + (b + arN (nth xs i) - 1)) (xs.drop (i + 1)) := by rw [show 1 + (b + arN (nth xs i) - 1) = b + arN (nth xs i) by omega]; exact hw2
          obtain ⟨M', a1, a2, a3⟩ := ih (i + 1) _ d3 d4 (dd + 1) (b + arN (nth xs i) - 1) (by omega) hi1 hw3 k2 (hG.fj f2) (hX.fj f2 (by unfold lkS; omega)) (hR.fj f2 (by unfold lkS; omega)) (by rw [mI_ne (by omega), mI_at]) mI_at (by omega)
          rw [if_pos k2, hG.gM, gd_t, gd_t, gd_t, gd_t, h47, wr_s (by omega), mI_ne (by omega), h48, wr_s (by omega), if_neg (show ¬ kd (nth xs (i + 1)) = 0 by omega), if_neg (show ¬ kd (nth xs (i + 1)) = 1 by omega)]
          refine ⟨M', a1, fun q => ?_, f2.trans a3⟩
          obtain ⟨b1, b2, b3, b4⟩ := a2 q
          refine ⟨b1, ?_, b3, by omega⟩
          rw [b2]
          congr 1
          omega
        · rw [if_neg k2, e53, if_neg (by rw [ht]; decide), if_neg (by rw [ht]; decide), hgs1, gd_t, hcell1, M_sortOf_s hc1, cI_s, M_lookCall_91_eq]
          by_cases k0 : kd (nth xs (i + 1)) = 0
          · rw [if_pos k0, if_pos k0]
            exact ⟨M, rfl, fun q => (by cases q), Fj.refl⟩
          rw [if_neg k0, if_neg k0]
          by_cases k1 : kd (nth xs (i + 1)) = 1
          · have hcf : cof (nth xs i) (cm (nth xs (i + 1))) zs 0 = co (nth xs i) (nth xs (i + 1)) zs 0 := cof_co ⟨hc1, k1⟩ zs 0 (fun w hw => (hR.2.2.1 w hw).2.1) (fun w hw e => by
              obtain ⟨j, hj⟩ := List.mem_iff_getElem?.mp hw
              by_cases e1 : j = k
              · subst e1; rw [z1] at hj; cases hj; exact hcon
              · by_cases e2 : j < k
                · exact (hR.2.2.2 j k w z e2 hj z1 (e.trans z2.symm)).1
                · exact (hR.2.2.2 k j z w (by omega) z1 hj (z2.trans e.symm)).2.1)
            rw [if_pos k1, if_pos k1, hG.gM, gd_t, h47, hgs, gd_t, if_neg (by rw [ht]; decide), gd_t, wr_s (by omega), hgs1, gd_t, toNat_n, toNat_n, hcell, hcell1, M_lookCall_131_s hG hR hc, hcf]
            have F2 : ∀ v, Fj lkS M (stI M 1269 49 v) := fun v => Fj.ofI (by unfold lkS; omega)
            cases hco : co (nth xs i) (nth xs (i + 1)) zs 0 with
            | none =>
              rw [if_pos rfl, fn2_n]
              exact ⟨_, rfl, fun q => (by cases q), F2 _⟩
            | some j =>
              rw [if_neg (by simp), fn2_s]
              exact ⟨_, rfl, fun _ => ⟨by rw [mI_ne (by omega)]; exact h47, by rw [mI_ne (by omega), Nat.sub_self]; exact h48, mI_at, Nat.le_refl _⟩, F2 _⟩
          · rw [if_neg k1, if_neg k1, hG.gM, gd_t, gd_t, mI_at, if_pos rfl, hd1]
            unfold fnx
            rw [if_neg k2]
            exact ⟨_, rfl, fun q => (by cases q), Fj.ofI (by unfold lkS; omega)⟩
theorem M_lookCall_s (ha : a ≠ 1269) (hv : av xs) {i dd b : Nat} (hi : i < xs.length) (hw : wf (1 + b) (xs.drop i)) (hk : kd (nth xs i) = 2) (hG : Good M) (hX : RX M a n 0 xs) (hR : ROWP M p zs) (h47 : mI M 1269 47 = (i : Int)) (h48 : mI M 1269 48 = (dd : Int)) (hdd : dd + (xs.length - i) ≤ 20000) : ∃ M', M_lookCall 1269 (p : Int) a M = some (some (.inl (lkR (fnx zs (xs.drop i) i).1)), M') ∧ ((fnx zs (xs.drop i) i).1 = 4 → mI M' 1269 47 = ((fnx zs (xs.drop i) i).2.1 : Nat) ∧ mI M' 1269 48 = ((dd + ((fnx zs (xs.drop i) i).2.1 - i) : Nat) : Int) ∧ mI M' 1269 49 = ((40 * p + (fnx zs (xs.drop i) i).2.2 : Nat) : Int) ∧ i ≤ (fnx zs (xs.drop i) i).2.1) ∧ Fj lkS M M' := by
  have e : M_lookCall 1269 (p : Int) a M = M_lookCall_0 1269 (p : Int) a none none M := (M_lookCall_eq 1269 (p : Int) a M).trans (M_lookCall_0_eq 1269 (p : Int) a none none M).symm
  rw [e]
  exact M_lookCall_loop ha hv _ i M none none dd b rfl hi hw hk hG hX hR h47 h48 hdd
end LOOK

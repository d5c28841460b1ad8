/-! ===== what comes of a node is an expression with its VARS ===== -/
def VIN (ys xs : List Int) : Prop := ∀ v ∈ ys, kd v = 0 → v ∈ xs
def cok (X C : Nat → List Int) (y : Nat) : Prop := (wf 1 (C y) ∧ av (C y)) ∧ VIN (C y) (X y)
theorem stx_vin {xs : List Int} {at0 m : Nat} {z : Clz} (hz : zok m z) : VIN (stx z xs at0) xs := by
  intro c h hk
  unfold stx at h
  rcases List.mem_append.mp h with q | q
  · exact List.mem_of_mem_take q
  rcases List.mem_append.mp q with q | q
  · obtain ⟨d, hd, h2⟩ := List.mem_flatMap.mp q
    unfold put1 at h2
    by_cases g : kd d = 0 ∧ ix z.2.2.1 d ≠ -1
    · rw [if_pos g] at h2
      exact sub_mem h2
    · rw [if_neg g] at h2
      have := List.mem_singleton.mp h2
      subst this
      have := ((hz.2.2.2.2 c hd).1 hk).2 _ rfl
      exact absurd (show kd c = 0 ∧ ix z.2.2.1 c ≠ -1 from ⟨hk, ix_mem.mpr this⟩) g
  · exact List.mem_of_mem_drop q
theorem VIN.sub {xs : List Int} {p : Nat} : VIN (sub xs p) xs := fun _ h _ => sub_mem h
theorem VIN.trans {a b c : List Int} (h : VIN a b) (k : VIN b c) : VIN a c := fun v hv hk => k v (h v hv hk) hk
theorem wf_vars : ∀ vs : List Int, (∀ v ∈ vs, arN v = 0) → wf vs.length vs := by
  intro vs
  induction vs with
  | nil => intro _; trivial
  | cons v vs ih =>
    intro h
    rw [List.length_cons, wf_cons, h v (by simp), Nat.add_zero]
    exact ih fun w hw => h w (List.mem_cons_of_mem _ hw)
theorem wf_cat {g : Nat → List Int} : ∀ (n : Nat), (∀ j, j < n → wf 1 (g j)) → wf n ((List.range n).flatMap g) := by
  intro n
  induction n with
  | zero => intro _; trivial
  | succ n ih =>
    intro h
    rw [List.range_succ, List.flatMap_append]
    have h1 := h n (by omega)
    rw [show ([n].flatMap g) = g n ++ [] from rfl, List.append_nil]
    exact wf_app _ _ _ _ (ih fun j hj => h j (by omega)) h1
theorem cmC_ok {fn : Int} {vs xs : List Int} (hf : -1 ≤ fn ∧ fn < 120) (hl : vs.length ≤ 8) (hv : ∀ v ∈ vs, vc v ∧ kd v = 0) : (wf 1 (cmC fn vs) ∧ av (cmC fn vs)) ∧ ((∀ v ∈ vs, v ∈ xs) → VIN (cmC fn vs) xs) := by
  obtain ⟨c1, c2⟩ := vc_mk (k := 2) (a := (vs.length : Int)) (s := 1 + fn) (Or.inr ⟨rfl, by omega, by omega⟩) (by omega) (by omega)
  have c1 : vc (33554432 + (vs.length : Int) * 65536 + (1 + fn)) := c1
  have hk : kd (33554432 + (vs.length : Int) * 65536 + (1 + fn)) = 2 := by unfold kd; omega
  have ha : arN (33554432 + (vs.length : Int) * 65536 + (1 + fn)) = vs.length := by unfold arN ar; omega
  refine ⟨⟨?_, fun c hc => ?_⟩, fun h v hv2 hk2 => ?_⟩
  · unfold cmC
    rw [wf_cons, ha, Nat.zero_add]
    exact wf_vars vs fun v h => var_ar (hv v h).1 (hv v h).2
  · rcases List.mem_cons.mp hc with e | e
    · rw [e]; exact c1
    · exact (hv c e).1
  · rcases List.mem_cons.mp hv2 with e | e
    · rw [e, hk] at hk2; omega
    · exact h v e
theorem sid_mem {xs : List Int} {b v : Int} (h : v ∈ sid xs b) : (v = b ∧ b ≠ -1) ∨ v ∈ ord xs := by
  unfold sid oth at h
  rcases List.mem_append.mp h with q | q
  · by_cases g : b = -1
    · rw [if_pos g] at q; cases q
    · rw [if_neg g] at q
      exact Or.inl ⟨List.mem_singleton.mp q, g⟩
  · exact Or.inr (List.mem_filter.mp q).1
theorem sid_in {xs : List Int} {b : Int} (hv : av xs) (hb : b = -1 ∨ (b ∈ xs ∧ kd b = 0)) : ∀ v ∈ sid xs b, (vc v ∧ kd v = 0) ∧ v ∈ xs := by
  intro v h
  rcases sid_mem h with ⟨e, h1⟩ | h1
  · obtain ⟨h2, h3⟩ := hb.resolve_left h1
    rw [e]
    exact ⟨⟨hv b h2, h3⟩, h2⟩
  · obtain ⟨h2, h3⟩ := ord_mem.mp h1
    exact ⟨⟨hv v h2, h3⟩, h2⟩
theorem argL_in {xs : List Int} : ∀ (t j : Nat), ∀ e ∈ argL xs t j, ∀ c ∈ e.1, c ∈ xs := by
  intro t
  induction t with
  | zero => intro j e he; cases he
  | succ t ih =>
    intro j e he c hc
    rcases List.mem_cons.mp he with q | q
    · rw [q] at hc; exact sub_mem hc
    · exact ih _ e q c hc
theorem argL_len {xs : List Int} : ∀ (t j : Nat), (argL xs t j).length = t := by
  intro t
  induction t with
  | zero => intro j; rfl
  | succ t ih => intro j; exact congrArg Nat.succ (ih (j + 1))
theorem KL.nkc {X : Nat → List Int} {F : FT} {x : Nat} {es : List Kd3} (h : KL X F x es) : nkc F x = es.length := by
  show (F x 8).toNat = _
  rw [h.1]; rfl
theorem cmo_ok {zs : List Clz} {X : Nat → List Int} {F : FT} {x : Nat} {C : Nat → List Int} (hzs : zsk 100 zs) (hX : eok (X x)) (hN : NS zs X F x) (hk : RK X F x) (hC : ∀ i, i < nkc F x → cok X C (nfk F x + i)) : (wf 1 (cmo X F C x) ∧ av (cmo X F C x)) ∧ VIN (cmo X F C x) (X x) := by
  obtain ⟨e1, e2, e3⟩ := hX
  have hlen := wf_len _ _ e1
  have h0v := av_nth e2 (show 0 < (X x).length by omega)
  have h0m := nth_mem (show 0 < (X x).length by omega)
  obtain ⟨⟨⟨-, -⟩, k3, k4⟩, ⟨k5, k6⟩, ⟨⟨k7, k8⟩, k9⟩, k10⟩ := hk
  -- a call
  have call : ∀ fn : Int, -1 ≤ fn ∧ fn < 120 → (sid (X x) (F x 10)).length ≤ 8 → (F x 10 = -1 ∨ (F x 10 ∈ X x ∧ kd (F x 10) = 0)) → (wf 1 (cmC fn (sid (X x) (F x 10))) ∧ av (cmC fn (sid (X x) (F x 10)))) ∧ VIN (cmC fn (sid (X x) (F x 10))) (X x) := by
    intro fn h1 h2 h3
    have hs := sid_in e2 h3
    obtain ⟨a, b⟩ := cmC_ok (xs := X x) h1 h2 fun v hv => (hs v hv).1
    exact ⟨a, b fun v hv => (hs v hv).2⟩
  -- those below, put together
  have cat : ∀ es : List Kd3, KL X F x es → (∀ e ∈ es, VIN e.1 (X x)) → wf es.length (kcat F C x) ∧ av (kcat F C x) ∧ VIN (kcat F C x) (X x) := by
    intro es hes hin
    have hn := hes.nkc
    refine ⟨?_, fun c hc => ?_, fun v hv hk => ?_⟩
    · unfold kcat
      rw [hn]
      exact wf_cat _ fun j hj => (hC j (by omega)).1.1
    · obtain ⟨j, hj, h2⟩ := List.mem_flatMap.mp hc
      exact (hC j (List.mem_range.mp hj)).1.2 c h2
    · obtain ⟨j, hj, h2⟩ := List.mem_flatMap.mp hv
      have hj := List.mem_range.mp hj
      have hg := List.getElem?_eq_getElem (show j < es.length by omega)
      have h3 := (hC j hj).2 v h2 hk
      rw [(hes.2 j _ hg).1] at h3
      exact hin _ (List.getElem_mem _) v h3 hk
  have blk : (fnx zs (X x) 0).1 = 5 → nth (X x) ((fnx zs (X x) 0).2.1 + 1) ∈ X x ∧ kd (nth (X x) ((fnx zs (X x) 0).2.1 + 1)) = 0 := by
    intro h5
    obtain ⟨⟨-, b1⟩, b2, -⟩ := fnx_blk (zs := zs) (xs := X x) _ 0 rfl (Nat.zero_le _) (by rw [List.drop_zero]; exact h5)
    rw [List.drop_zero] at b1 b2
    exact ⟨nth_mem b1, b2⟩
  unfold cmo
  rcases hN with ⟨h, h2, h3⟩ | ⟨h, h2, h3⟩ | ⟨h, ⟨h2, h2b, h2c⟩, h3⟩ | ⟨h, ⟨h2, h2b, h2c⟩, fr, h3, h4⟩ | ⟨h, h2⟩ | ⟨h, h2⟩ | ⟨h, h2⟩
  · rw [if_pos h]
    exact ⟨⟨wf_one (var_ar h0v h3), fun c hc => by rw [List.mem_singleton.mp hc]; exact h0v⟩, fun v hv _ => by rw [List.mem_singleton.mp hv]; exact h0m⟩
  · rw [if_neg (by omega), if_pos h]
    obtain ⟨a1, a2, a3⟩ := cat _ h3 fun e he v hv _ => argL_in _ _ e he v hv
    rw [argL_len] at a1
    refine ⟨⟨?_, fun c hc => ?_⟩, fun v hv hk => ?_⟩
    · rw [wf_cons, Nat.zero_add]; exact a1
    · rcases List.mem_cons.mp hc with q | q
      · rw [q]; exact h0v
      · exact a2 c q
    · rcases List.mem_cons.mp hv with q | q
      · rw [q]; exact h0m
      · exact a3 v q hk
  · rw [if_neg (by omega), if_neg (by omega), if_pos (by omega)]
    by_cases q9 : F x 9 = -1
    · rw [if_pos q9]
      obtain ⟨z, z1, z2, z3⟩ := fnx_clf (zs := zs) (xs := X x) _ 0 rfl (Nat.zero_le _) (by rw [List.drop_zero]; exact h2b)
      rw [List.drop_zero] at z1
      have ez : zs.getD (fnx zs (X x) 0).2.2 (0, -1, [], []) = z := by rw [List.getD_eq_getElem?_getD, z1]; rfl
      obtain ⟨a1, a2, a3⟩ := cat _ h3 fun e he => by
        rw [List.mem_singleton.mp he, ez]
        exact stx_vin (hzs z (List.mem_of_getElem? z1))
      exact ⟨⟨a1, a2⟩, a3⟩
    · rw [if_neg q9]
      exact call _ ⟨k7, k8⟩ (k10 (Or.inr q9)) (Or.inl h2c)
  · have q9 := k5 h
    rw [if_neg (by omega), if_neg (by omega), if_pos (by omega), if_neg q9]
    exact call _ ⟨k7, k8⟩ (k10 (Or.inr q9)) (Or.inr (by rw [h2c]; exact blk h2b))
  · rw [if_neg (by omega), if_neg (by omega), if_neg (by omega), if_pos h]
    obtain ⟨-, g2, -⟩ := h2
    refine call _ ((k9 h).2.2) (k10 (Or.inl h)) ?_
    rw [g2]
    by_cases s5 : (fnx zs (X x) 0).1 = 5
    · rw [if_pos s5]; exact Or.inr (blk s5)
    · rw [if_neg s5]; exact Or.inl rfl
  · rw [if_neg (by omega), if_neg (by omega), if_neg (by omega), if_neg (by omega), if_pos h]
    obtain ⟨b, ss, hK, hs1, hs2, hb1, hb2⟩ := h2
    have hn := hK.nkc
    have hpl : (prtL (X x) ss).length = ss.length := List.length_map ..
    rw [List.length_cons, hpl] at hn
    have hB := hC 0 (by omega)
    rw [Nat.add_zero] at hB
    have eB : X (nfk F x) = b := (hK.2 0 _ rfl).1
    -- what stands for a VAR of the body
    have val : ∀ n, n < ss.length → cok X C (nfk F x + 1 + n) ∧ VIN (X (nfk F x + 1 + n)) (X x) := by
      intro n hn2
      have h1 := hC (1 + n) (by omega)
      rw [← Nat.add_assoc] at h1
      refine ⟨h1, ?_⟩
      have hg : ((b, -1, -1) :: prtL (X x) ss : List Kd3)[1 + n]? = some (sub (X x) ss[n], -1, -1) := by
        rw [Nat.add_comm, List.getElem?_cons_succ]
        unfold prtL
        rw [List.getElem?_map, List.getElem?_eq_getElem hn2]
        rfl
      have := (hK.2 _ _ hg).1
      rw [← Nat.add_assoc] at this
      rw [this]
      exact VIN.sub
    have cases1 : ∀ c ∈ C (nfk F x), (clc X F C x c = [c] ∧ kd c ≠ 0) ∨ (kd c = 0 ∧ ∃ n, n < ss.length ∧ clc X F C x c = C (nfk F x + 1 + n)) := by
      intro c hc
      unfold clc
      by_cases q : kd c = 0
      · have hin : c ∈ ord (X (nfk F x)) := ord_mem.mpr ⟨hB.2 c hc q, q⟩
        have h1 := ix_mem.mpr hin
        have h2 := ix_rng (ord (X (nfk F x))) c
        rw [eB] at h1 h2 ⊢
        rw [if_pos (show kd c = 0 ∧ ix (ord b) c ≠ -1 from ⟨q, h1⟩)]
        exact Or.inr ⟨q, (ix (ord b) c).toNat, by omega, rfl⟩
      · rw [if_neg (fun h => q h.1)]
        exact Or.inl ⟨rfl, q⟩
    show (wf 1 ((C (nfk F x)).flatMap (clc X F C x)) ∧ av ((C (nfk F x)).flatMap (clc X F C x))) ∧ VIN ((C (nfk F x)).flatMap (clc X F C x)) (X x)
    refine ⟨⟨wf_flat _ _ hB.1.1 fun c hc => ?_, fun d hd => ?_⟩, fun v hv hk => ?_⟩
    · rcases cases1 c hc with ⟨h1, -⟩ | ⟨h1, n, h2, h3⟩
      · exact Or.inl h1
      · rw [h3]
        exact Or.inr ⟨var_ar (hB.1.2 c hc) h1, (val n h2).1.1.1⟩
    · obtain ⟨c, hc, h2⟩ := List.mem_flatMap.mp hd
      rcases cases1 c hc with ⟨h1, -⟩ | ⟨-, n, h3, h4⟩
      · rw [h1] at h2; rw [List.mem_singleton.mp h2]; exact hB.1.2 c hc
      · rw [h4] at h2; exact (val n h3).1.1.2 d h2
    · obtain ⟨c, hc, h2⟩ := List.mem_flatMap.mp hv
      rcases cases1 c hc with ⟨h1, h3⟩ | ⟨-, n, h3, h4⟩
      · rw [h1] at h2; rw [List.mem_singleton.mp h2] at hk; exact absurd hk h3
      · rw [h4] at h2; exact (val n h3).2 v ((val n h3).1.2 v h2 hk) hk
  · rw [if_neg (by omega), if_neg (by omega), if_neg (by omega), if_neg (by omega), if_neg (by omega)]
    have hs : kd (50331648 : Int) = 3 := by decide
    refine ⟨⟨wf_one (by decide), fun c hc => by rw [List.mem_singleton.mp hc]; exact vc_stuck⟩, fun v hv hk => ?_⟩
    rw [List.mem_singleton.mp hv, hs] at hk
    omega

/-! ===== the root's row stays ===== -/
def K0 (xs : List Int) (T : TS) : Prop := 1 ≤ T.2.2 ∧ T.1 0 = xs
theorem adL_0 {k : Nat} {xs : List Int} : ∀ (es : List Kd3) (T : TS), K0 xs T → K0 xs (adL k es T).2 := by
  intro es
  induction es with
  | nil => intro T h; exact h
  | cons x es ih =>
    intro T h
    unfold adL
    split
    · exact h
    · split
      · exact h
      · refine ih _ ⟨by show 1 ≤ T.2.2 + 1; omega, ?_⟩
        show upX T.1 T.2.2 x.1 0 = xs
        have := h.1
        rw [upX_ne (by omega)]
        exact h.2
theorem lok_0 {zs : List Clz} {T : TS} {k nl fr tu : Nat} {xs : List Int} (h : K0 xs T) : K0 xs (lok zs T k nl fr tu).2.1 := by
  have hB : K0 xs (bkS (fnx zs (T.1 k) 0) T k (T.1 k)) := by
    unfold bkS
    split
    · exact h
    · exact h
  unfold lok
  generalize (bkS (fnx zs (T.1 k) 0) T k (T.1 k)) = T2 at hB ⊢
  split
  · exact h
  · split
    · exact adL_0 _ _ h
    · split
      · split
        · exact h
        · unfold lkSp
          split
          · exact hB
          · split
            · unfold lkK
              split
              · exact adL_0 _ _ hB
              · exact adL_0 _ _ hB
            · unfold lkL
              split
              · exact adL_0 _ _ hB
              · exact adL_0 _ _ hB
      · exact h
theorem drl_0 {zs : List Clz} {xs : List Int} : ∀ (n : Nat) (st : Int) (T : TS) (nl fr tu : Nat), K0 xs T → K0 xs (drl zs n st T nl fr tu).2.1 := by
  intro n
  induction n with
  | zero => intro st T nl fr tu h; exact h
  | succ n ih =>
    intro st T nl fr tu h
    unfold drl
    split
    · exact ih _ _ _ _ _ (lok_0 h)
    · exact h
theorem grw_0 {zs : List Clz} {xs : List Int} (h : xs.length ≤ 40) : (grw zs xs).2.1.1 0 = xs := by
  unfold grw
  rw [if_neg (by omega)]
  refine (drl_0 (xs := xs) 80 0 (TS0 xs) 0 1414 0 ⟨Nat.le_refl _, ?_⟩).2
  show upX (fun _ => []) 0 xs 0 = xs
  exact upX_at
/-! ===== the new program is one that may be taken ===== -/
abbrev okq : Clz → Clz → Prop := fun y z => y.1 = z.1 → y.2.1 ≠ -1 ∧ z.2.1 ≠ -1 ∧ y.2.1 ≠ z.2.1
theorem okP_pw {zs : List Clz} : okP zs ↔ zs.Pairwise okq := by
  rw [List.pairwise_iff_getElem]
  constructor
  · intro h i j hi hj hij
    exact h i j _ _ hij (List.getElem?_eq_getElem hi) (List.getElem?_eq_getElem hj)
  · intro h i j y z hij hy hz
    obtain ⟨h1, rfl⟩ := List.getElem?_eq_some_iff.mp hy
    obtain ⟨h2, rfl⟩ := List.getElem?_eq_some_iff.mp hz
    exact h i j h1 h2 hij
theorem fnF_inj (L : List Nat) : ∀ (F : FT) (n : Nat), L.Nodup → (∀ x ∈ L, F x 9 = -1) → L.Pairwise fun x y => fnF F L n x 9 ≠ -1 → fnF F L n x 9 ≠ fnF F L n y 9 := by
  induction L with
  | nil => intro F n _ _; exact List.Pairwise.nil
  | cons a L ih =>
    intro F n hn h
    obtain ⟨n1, n2⟩ := List.nodup_cons.mp hn
    unfold fnF
    by_cases q : isFn F a
    · rw [if_pos q]
      refine List.Pairwise.cons (fun y hy => ?_) (ih _ _ n2 fun x hx => ?_)
      · have hya : y ≠ a := fun e => n1 (e ▸ hy)
        rw [fnF_out _ _ _ _ _ n1, upF_at]
        intro _
        obtain ⟨i1, i2⟩ := fnF_9 L (upF F a 9 (n : Int)) (n + 1) y n2 hy
        by_cases g : isFn (upF F a 9 (n : Int)) y
        · obtain ⟨k, k1, k2, k3⟩ := i1 g
          omega
        · have g2 := i2 g
          rw [upF_ne (fun q => hya q.1), h y (List.mem_cons_of_mem _ hy)] at g2
          omega
      · rw [upF_ne (fun q => n1 (by rw [← q.1]; exact hx))]
        exact h x (List.mem_cons_of_mem _ hx)
    · rw [if_neg q]
      refine List.Pairwise.cons (fun y hy h1 => ?_) (ih _ _ n2 fun x hx => h x (List.mem_cons_of_mem _ hx))
      rw [fnF_out _ _ _ _ _ n1] at h1
      exact absurd (h a List.mem_cons_self) h1
theorem spk_pw {f blk : Int} {xs : List Int} {p : Nat} : ∀ (zs : List Clz) (fr : Nat), zs.Pairwise okq → (∀ e ∈ spk f blk xs p zs fr, ∃ z ∈ zs, z.1 = f ∧ e.2.1 = z.2.1) ∧ (spk f blk xs p zs fr).Pairwise fun e d => e.2.1 ≠ d.2.1 := by
  intro zs
  induction zs with
  | nil => intro fr _; exact ⟨fun e he => absurd he List.not_mem_nil, List.Pairwise.nil⟩
  | cons z zs ih =>
    intro fr h
    obtain ⟨h1, h2⟩ := List.pairwise_cons.mp h
    unfold spk
    by_cases q : z.1 = f
    · rw [if_pos q]
      obtain ⟨i1, i2⟩ := ih (fr + arN z.2.1) h2
      refine ⟨fun e he => ?_, List.Pairwise.cons (fun d hd => ?_) i2⟩
      · rcases List.mem_cons.mp he with g | g
        · exact ⟨z, by simp, q, by rw [g]⟩
        · obtain ⟨w, w1, w2⟩ := i1 e g
          exact ⟨w, List.mem_cons_of_mem _ w1, w2⟩
      · obtain ⟨w, w1, w2, w3⟩ := i1 d hd
        show z.2.1 ≠ d.2.1
        rw [w3]
        exact (h1 w w1 (q.trans w2.symm)).2.2
    · rw [if_neg q]
      obtain ⟨i1, i2⟩ := ih fr h2
      refine ⟨fun e he => ?_, i2⟩
      obtain ⟨w, w1, w2⟩ := i1 e he
      exact ⟨w, List.mem_cons_of_mem _ w1, w2⟩
theorem cmg_ok {zs : List Clz} {X : Nat → List Int} {F : FT} {mk : Nat} (hzs : zsk 100 zs) (hT : TI F mk) (hX : XOK X F) (hN : ∀ x ∈ lnF F, NS zs X F x) (hk : ∀ x ∈ lnF F, RK X F x) : ∀ (R D : List Nat) (C : Nat → List Int), lnF F = R.reverse ++ D → (∀ y ∈ D, cok X C y ∧ (C y).length ≤ 100) → (cmg X F R C).1 = 0 → ∀ y ∈ lnF F, cok X (cmg X F R C).2 y ∧ ((cmg X F R C).2 y).length ≤ 100 := by
  intro R
  induction R with
  | nil => intro D C hL hD _ y hy; exact hD y (by rw [hL] at hy; exact hy)
  | cons x R ih =>
    intro D C hL hD h0
    have hL2 : lnF F = R.reverse ++ x :: D := by rw [hL, List.reverse_cons, List.append_assoc]; rfl
    have hx : x ∈ lnF F := by rw [hL2]; simp
    have hok := cmo_ok hzs (hX x hx) (hN x hx) (hk x hx) (fun i hi => (hD _ (hT.after hL2 hi)).1)
    unfold cmg at h0 ⊢
    by_cases q : 100 < (cmo X F C x).length
    · rw [if_pos q] at h0
      exact absurd (show (-6 : Int) = 0 from h0) (by decide)
    · rw [if_neg q] at h0 ⊢
      refine ih (x :: D) _ hL2 (fun y hy => ?_) h0
      unfold cok
      by_cases e : y = x
      · subst e
        rw [upX_at]
        exact ⟨hok, by omega⟩
      · rw [upX_ne e]
        exact hD y ((List.mem_cons.mp hy).resolve_left e)
theorem map_rnm_wf {vs : List Int} (hl : vs.length ≤ 40) : ∀ (cs : List Int) (w : Nat), av cs → wf w cs → wf w (cs.map (rnm vs)) := by
  intro cs
  induction cs with
  | nil => intro w _ h; exact h
  | cons c cs ih =>
    intro w hv h
    cases w with
    | zero => exact h
    | succ w =>
      rw [List.map_cons, wf_cons]
      rw [wf_cons] at h
      have e : arN (rnm vs c) = arN c := by
        unfold rnm
        by_cases q : kd c = 0 ∧ ix vs c ≠ -1
        · rw [if_pos q, var_ar (hv c (by simp)) q.1]
          have h1 := ix_rng vs c
          unfold arN ar
          omega
        · rw [if_neg q]
      rw [e]
      exact ih _ (fun d hd => hv d (List.mem_cons_of_mem _ hd)) h
theorem mkz_nm {X : Nat → List Int} {F : FT} {C : Nat → List Int} {x y n k : Nat} (h1 : (sid (X x) (F x 10)).length = n) (h2 : n ≤ 8) (h3 : F x 9 = (k : Int)) (h4 : k < 120) : (vc (mkz X F C x y).1 ∧ kd (mkz X F C x y).1 = 2) ∧ arN (mkz X F C x y).1 = n ∧ (mkz X F C x y).1 % 65536 = 1 + (k : Int) := by
  have e : (mkz X F C x y).1 = 2 * 16777216 + (n : Int) * 65536 + (1 + (k : Int)) := by
    show 33554432 + ((sid (X x) (F x 10)).length : Int) * 65536 + (1 + F x 9) = _
    rw [h1, h3]
    omega
  rw [e]
  obtain ⟨a1, a2, -⟩ := vc_mk (k := 2) (a := (n : Int)) (s := 1 + (k : Int)) (Or.inr ⟨rfl, by omega, by omega⟩) (by omega) (by omega)
  refine ⟨⟨a1, a2⟩, ?_, by omega⟩
  unfold arN ar
  omega
theorem mkz_ok {zs : List Clz} {X : Nat → List Int} {F : FT} {C : Nat → List Int} {x j : Nat} (hzs : zsk 100 zs) (hok : okP zs) (hzl : zs.length ≤ 40) (hv : av (X x)) (hN : NS zs X F x) (h4 : F x 4 = 2 ∨ F x 4 = 3) (h9 : 0 ≤ F x 9 ∧ F x 9 < 120) (hj : j < nkc F x) (hm : MK X F x (nfk F x + j)) (hC : cok X C (nfk F x + j)) (hl : (C (nfk F x + j)).length ≤ 100) : zok 100 (mkz X F C x (nfk F x + j)) := by
  obtain ⟨⟨m1, m2⟩, -⟩ := hm
  obtain ⟨k, hk⟩ : ∃ k : Nat, F x 9 = (k : Int) := ⟨(F x 9).toNat, by omega⟩
  obtain ⟨n1, n2, -⟩ := mkz_nm (X := X) (F := F) (C := C) (x := x) (y := nfk F x + j) rfl m1 hk (by omega)
  have hin := mka_in hzs hok hzl hv hN h4 hj hC.2
  obtain ⟨⟨c1, c2⟩, -⟩ := hC
  refine ⟨n1, ?_, ⟨?_, ?_, ?_, ?_⟩, ⟨?_, ?_, ?_⟩, ?_⟩
  · show pcc (if F x 4 = 3 then F (nfk F x + j) 11 else -1)
    by_cases q : F x 4 = 3
    · obtain ⟨-, z, z1, ⟨z2, z3, z4, z5, z6, z7⟩, -⟩ := split_kid hzs hok hzl hN q hj
      rw [if_pos q, z3]
      exact Or.inr ⟨z5, z6⟩
    · rw [if_neg q]
      exact Or.inl rfl
  · show lvs (vsq 1 _)
    intro v hv2
    obtain ⟨i, i1, i2⟩ := vsq_mem.mp hv2
    omega
  · show (vsq 1 _).length ≤ 11
    rw [vsq_len]
    exact m2
  · show (if F x 4 = 3 then F (nfk F x + j) 11 else -1) = -1 → (vsq 1 _).length = _
    rw [n2, vsq_len]
    by_cases q : F x 4 = 3
    · obtain ⟨-, z, z1, ⟨z2, z3, z4, z5, z6, z7⟩, -⟩ := split_kid hzs hok hzl hN q hj
      rw [if_pos q, z3]
      exact fun h => absurd h z4
    · intro _
      unfold mka
      rw [if_neg q]
  · show (if F x 4 = 3 then F (nfk F x + j) 11 else -1) ≠ -1 → (vsq 1 _).length + 1 = arN (if F x 4 = 3 then F (nfk F x + j) 11 else -1) + arN (mkz X F C x (nfk F x + j)).1 ∧ 1 ≤ arN (mkz X F C x (nfk F x + j)).1
    rw [n2, vsq_len]
    by_cases q : F x 4 = 3
    · obtain ⟨⟨b1, b2⟩, z, z1, ⟨z2, z3, z4, z5, z6, z7⟩, fr, y1, y2, y3⟩ := split_kid hzs hok hzl hN q hj
      rw [if_pos q]
      intro _
      have hb : F x 10 ≠ -1 := fun e => by rw [e] at b2; exact absurd b2 (by decide)
      unfold mka lfs sid
      rw [if_pos q, if_neg hb, List.length_append, List.length_append, vsq_len, List.length_singleton]
      omega
    · rw [if_neg q]
      exact fun h => absurd rfl h
  · show wf 1 ((C (nfk F x + j)).map (rnm (mka X F x (nfk F x + j))))
    exact map_rnm_wf (by omega) _ _ c2 c1
  · show av ((C (nfk F x + j)).map (rnm (mka X F x (nfk F x + j))))
    intro c hc
    obtain ⟨v, v1, rfl⟩ := List.mem_map.mp hc
    exact (rnm_ok (by omega) (c2 v v1) fun h => hin v v1 h).1
  · show ((C (nfk F x + j)).map (rnm (mka X F x (nfk F x + j)))).length ≤ 100
    rw [List.length_map]
    exact hl
  · show ∀ c ∈ ((C (nfk F x + j)).map (rnm (mka X F x (nfk F x + j)))), pcl (some (vsq 1 (mka X F x (nfk F x + j)).length)) false c
    intro c hc
    obtain ⟨v, v1, rfl⟩ := List.mem_map.mp hc
    obtain ⟨r1, r2⟩ := rnm_ok (vs := mka X F x (nfk F x + j)) (by omega) (c2 v v1) fun h => hin v v1 h
    refine ⟨fun h => ⟨⟨r1.1.1, r2 h⟩, fun vs e => ?_⟩, fun h => by cases h⟩
    cases e
    unfold rnm at h ⊢
    by_cases q : kd v = 0 ∧ ix (mka X F x (nfk F x + j)) v ≠ -1
    · rw [if_pos q]
      have h2 := ix_rng (mka X F x (nfk F x + j)) v
      refine vsq_mem.mpr ⟨(ix (mka X F x (nfk F x + j)) v).toNat, by omega, by omega⟩
    · rw [if_neg q] at h
      exact absurd ⟨h, ix_mem.mpr (hin v v1 h)⟩ q
theorem new_ok {zs : List Clz} {gl : List Int} (hzs : zsk 100 zs) (hok : okP zs) (hzl : zs.length ≤ 40) (hw : wf 1 gl) (hv : av gl) (hvl : vlo gl) (hd : isd zs gl) : nOK zs (nwP zs gl) (nwG zs gl) := by
  obtain ⟨h0, h1⟩ := hd
  have hg40 : gl.length ≤ 40 := by
    by_cases q : 40 < gl.length
    · exfalso
      unfold grw at h0
      rw [if_pos q] at h0
      unfold gst at h0
      rw [if_neg (fun h => absurd (show (-3 : Int) = 0 from h.1) (by decide))] at h0
      exact absurd (show (-3 : Int) = 0 from h0) (by decide)
    · omega
  have hGR := GRW_of hzs hok hzl hw hv h0
  have hN := hGR.all h0
  obtain ⟨⟨hT, hX, hV⟩, -⟩ := hGR
  have hr0 : (tof zs gl).1 0 = gl := grw_0 hg40
  obtain ⟨⟨f1, f2⟩, f3, f4⟩ := fin_ok hzs hok hzl hT hX hV hN
  show (rsP (tof zs gl).1 (tof zs gl).2.1).length ≤ 40 ∧ zsk 100 (rsP (tof zs gl).1 (tof zs gl).2.1) ∧ okP (rsP (tof zs gl).1 (tof zs gl).2.1) ∧ gok ((rsd (tof zs gl).1 (tof zs gl).2.1).2 0)
  unfold tof at h1 hr0 ⊢
  generalize (grw zs gl).2.1 = T at *
  -- the counts
  have hn0 : nst (nmR T.1 T.2.1).2.1 (nmR T.1 T.2.1).2.2 = 0 := by
    by_cases q : nst (nmR T.1 T.2.1).2.1 (nmR T.1 T.2.1).2.2 = 0
    · exact q
    · unfold rsd at h1
      rw [if_neg q] at h1
      exact h1
  have hcg : (rsd T.1 T.2.1) = cmg T.1 (F2of T.2.1) (lnF T.2.1).reverse (fun _ => []) := by unfold rsd; rw [if_pos hn0]
  have hmc : (nmR T.1 T.2.1).2.2 ≤ 8 ∧ (nmR T.1 T.2.1).2.1 ≤ 40 := by
    unfold nst at hn0
    by_cases q : 8 < (nmR T.1 T.2.1).2.2
    · rw [if_pos q] at hn0; exact absurd hn0 (by decide)
    · rw [if_neg q] at hn0
      by_cases q2 : 40 < (nmR T.1 T.2.1).2.1
      · rw [if_pos q2] at hn0; exact absurd hn0 (by decide)
      · omega
  have hor : ∀ x ∈ lnF T.2.1, isFn (nuF T.2.1 (lnF T.2.1)) x → (ord (T.1 x)).length ≤ 8 := fun x hx hf => by
    have := (nmf_most (X := T.1) (F := nuF T.2.1 (lnF T.2.1)) (lnF T.2.1) 0 0 0).2 x hx hf
    unfold nmR at hmc
    omega
  have f5 := f4 hor
  have hX2 : XOK T.1 (F2of T.2.1) := fun x hx => hX x (by rw [f2] at hx; exact hx)
  have hcm := cmg_ok hzs f1 hX2 (fun x hx => f3 x (by rw [f2] at hx; exact hx)) (fun x hx => (f5 x (by rw [f2] at hx; exact hx)).1.1) (lnF T.2.1).reverse [] (fun _ => []) (by rw [f2]; simp) (fun y hy => absurd hy List.not_mem_nil) (by rw [← hcg]; exact h1)
  rw [f2, ← hcg] at hcm
  generalize hC : (rsd T.1 T.2.1).2 = C at *
  have hkd : ∀ x ∈ lnF T.2.1, ∀ j, j < nkc (F2of T.2.1) x → nfk (F2of T.2.1) x + j ∈ lnF T.2.1 := fun x hx j hj => by
    have := f1.kid (x := x) (by rw [f2]; exact hx) hj
    rw [f2] at this
    exact this
  have hisf : ∀ x ∈ lnF T.2.1, F2of T.2.1 x 9 ≠ -1 → (F2of T.2.1 x 4 = 2 ∨ F2of T.2.1 x 4 = 3) ∧ (0 ≤ F2of T.2.1 x 9 ∧ F2of T.2.1 x 9 < 120) := fun x hx h9 => by
    obtain ⟨⟨hk, -⟩, hiff⟩ := f5 x hx
    have hf := hiff.mp h9
    obtain ⟨-, -, ⟨⟨k7, k8⟩, -⟩, -⟩ := hk
    have e4 : F2of T.2.1 x 4 = nuF T.2.1 (lnF T.2.1) x 4 := fnF_ne _ _ _ _ _ (by decide)
    rw [e4]
    unfold isFn at hf
    omega
  refine ⟨?_, ?_, ?_, ?_⟩
  · have := nmf_all (X := T.1) (F := nuF T.2.1 (lnF T.2.1)) (G := F2of T.2.1) (C := C) (lnF T.2.1) 0 0 0 fun x hx => ⟨(f5 x hx).2, by unfold nkc; rw [show F2of T.2.1 x 8 = nuF T.2.1 (lnF T.2.1) x 8 from fnF_ne _ _ _ _ _ (by decide)]⟩
    unfold rsP
    rw [hC]
    unfold nmR at hmc
    omega
  · intro z hz
    unfold rsP at hz
    rw [hC] at hz
    obtain ⟨x, hx, h2⟩ := List.mem_flatMap.mp hz
    unfold mcx at h2
    by_cases q : F2of T.2.1 x 9 = -1
    · rw [if_pos q] at h2; exact absurd h2 List.not_mem_nil
    · rw [if_neg q] at h2
      obtain ⟨j, j1, rfl⟩ := List.mem_map.mp h2
      have hj := List.mem_range.mp j1
      obtain ⟨i1, i2⟩ := hisf x hx q
      obtain ⟨g1, g2⟩ := hcm _ (hkd x hx j hj)
      exact mkz_ok hzs hok hzl (hX x hx).2.1 (f3 x hx) i1 i2 hj ((f5 x hx).1.2 q j hj) g1 g2
  · rw [okP_pw]
    unfold rsP
    rw [hC, List.pairwise_flatMap]
    constructor
    · intro x hx
      unfold mcx
      by_cases q : F2of T.2.1 x 9 = -1
      · rw [if_pos q]; exact List.Pairwise.nil
      · rw [if_neg q, List.pairwise_map]
        obtain ⟨i1, i2⟩ := hisf x hx q
        have hNx := f3 x hx
        rw [List.pairwise_iff_getElem]
        intro a b ha hb hab
        rw [List.length_range] at ha hb
        rw [List.getElem_range, List.getElem_range]
        intro _
        by_cases q3 : F2of T.2.1 x 4 = 3
        · obtain ⟨-, y, y1, ⟨y2, y3, y4, -⟩, -⟩ := split_kid hzs hok hzl hNx q3 ha
          obtain ⟨-, w, w1, ⟨w2, w3, w4, -⟩, -⟩ := split_kid hzs hok hzl hNx q3 hb
          show (if F2of T.2.1 x 4 = 3 then F2of T.2.1 (nfk (F2of T.2.1) x + a) 11 else -1) ≠ -1 ∧ (if F2of T.2.1 x 4 = 3 then F2of T.2.1 (nfk (F2of T.2.1) x + b) 11 else -1) ≠ -1 ∧ (if F2of T.2.1 x 4 = 3 then F2of T.2.1 (nfk (F2of T.2.1) x + a) 11 else -1) ≠ (if F2of T.2.1 x 4 = 3 then F2of T.2.1 (nfk (F2of T.2.1) x + b) 11 else -1)
          rw [if_pos q3, if_pos q3]
          refine ⟨by rw [y3]; exact y4, by rw [w3]; exact w4, ?_⟩
          unfold NS at hNx
          rcases hNx with h | h | h | ⟨-, -, fr0, h5, h6⟩ | h | h | h
          · omega
          · omega
          · omega
          · have hn := h6.nkc
            have hp := (List.pairwise_iff_getElem.mp (spk_pw (f := nth (T.1 x) (fnx zs (T.1 x) 0).2.1) (blk := nth (T.1 x) ((fnx zs (T.1 x) 0).2.1 + 1)) (xs := T.1 x) (p := (fnx zs (T.1 x) 0).2.1) zs fr0 (okP_pw.mp hok)).2) a b (by omega) (by omega) hab
            have e1 := (h6.2 a _ (List.getElem?_eq_getElem (by omega))).2.1
            have e2 := (h6.2 b _ (List.getElem?_eq_getElem (by omega))).2.1
            rw [e1, e2]
            exact hp
          · omega
          · omega
          · omega
        · exfalso
          have q2 := i1.resolve_right q3
          unfold NS at hNx
          rcases hNx with h | h | ⟨-, -, h6⟩ | h | h | h | h
          · omega
          · omega
          · have hn := h6.nkc
            rw [List.length_singleton] at hn
            omega
          · omega
          · omega
          · omega
          · omega
    · have hinj := fnF_inj (lnF T.2.1) (nuF T.2.1 (lnF T.2.1)) 0 hT.1.1 fun x hx => by rw [nuF_ne _ _ _ _ (by decide)]; exact (hV x hx).2.1
      refine hinj.imp_of_mem fun {x x'} hx hx' hne => ?_
      intro y hy z hz
      unfold mcx at hy hz
      by_cases q : F2of T.2.1 x 9 = -1
      · rw [if_pos q] at hy; exact absurd hy List.not_mem_nil
      by_cases q' : F2of T.2.1 x' 9 = -1
      · rw [if_pos q'] at hz; exact absurd hz List.not_mem_nil
      rw [if_neg q] at hy
      rw [if_neg q'] at hz
      obtain ⟨j, j1, rfl⟩ := List.mem_map.mp hy
      obtain ⟨j', j1', rfl⟩ := List.mem_map.mp hz
      have hj := List.mem_range.mp j1
      have hj' := List.mem_range.mp j1'
      obtain ⟨-, i2⟩ := hisf x hx q
      obtain ⟨-, i2'⟩ := hisf x' hx' q'
      intro he
      exfalso
      obtain ⟨k, hk⟩ : ∃ k : Nat, F2of T.2.1 x 9 = (k : Int) := ⟨(F2of T.2.1 x 9).toNat, by omega⟩
      obtain ⟨k', hk'⟩ : ∃ k : Nat, F2of T.2.1 x' 9 = (k : Int) := ⟨(F2of T.2.1 x' 9).toNat, by omega⟩
      obtain ⟨-, -, n3⟩ := mkz_nm (X := T.1) (F := F2of T.2.1) (C := C) (x := x) (y := nfk (F2of T.2.1) x + j) rfl ((f5 x hx).1.2 q j hj).1.1 hk (by omega)
      obtain ⟨-, -, n3'⟩ := mkz_nm (X := T.1) (F := F2of T.2.1) (C := C) (x := x') (y := nfk (F2of T.2.1) x' + j') rfl ((f5 x' hx').1.2 q' j' hj').1.1 hk' (by omega)
      rw [he] at n3
      have : F2of T.2.1 x 9 ≠ F2of T.2.1 x' 9 := hne q
      omega
  · obtain ⟨⟨⟨c1, c2⟩, c3⟩, c4⟩ := hcm 0 (pre_self _ 120 0)
    refine ⟨⟨c1, c2, c4⟩, fun c hc hk => ?_⟩
    have := c3 c hc hk
    rw [hr0] at this
    exact hvl c this hk

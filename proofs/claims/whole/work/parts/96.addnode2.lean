/-! ===== the class: a node more ===== -/
def upX (X : Nat → List Int) (k : Nat) (xs : List Int) : Nat → List Int := fun a => if a = k then xs else X a
theorem upX_at {X : Nat → List Int} {k : Nat} {xs : List Int} : upX X k xs k = xs := if_pos rfl
theorem upX_ne {X : Nat → List Int} {k a : Nat} {xs : List Int} (h : a ≠ k) : upX X k xs a = X a := if_neg h
/-- what a node more may change -/
def anS : Nat → Nat → Prop := fun a j => (30 ≤ a ∧ a < 750) ∨ (a = 27 ∧ (j = 8 ∨ j = 9))
def anR : Nat → Nat → Prop := fun a j => (30 ≤ a ∧ a < 750 ∧ 3 ≤ j) ∨ a = 29
theorem kls_len (F : FT) (k : Nat) : (kls F k).length = nkc F k := by unfold kls; rw [List.length_map, List.length_range]
section ADDN
variable {M : Mem} {X : Nat → List Int} {F : FT} {mk k e n : Nat} {xs : List Int}
theorem NDx.fq {M1 : Mem} {A R : Nat → Nat → Prop} {x : Nat} (h : NDx M xs x) (f : Fq A R M M1) (h0 : ∀ a j, (31 + 6 * x ≤ a ∧ a ≤ 33 + 6 * x) ∨ (a = 30 + 6 * x ∧ j = 3) → ¬ A a j) : NDx M1 xs x := ⟨h.1.ext fun a j q => f.2.2 a j (h0 a j (by omega)), fun i hi => (f.2.2 _ _ (h0 _ _ (Or.inl (by omega)))).trans (h.2.1 i hi), (f.2.2 _ _ (h0 _ _ (Or.inr ⟨rfl, rfl⟩))).trans h.2.2⟩
theorem TI.ndx {F : FT} {mk : Nat} (h : TI F mk) {x : Nat} (hx : x ∈ lnF F) (hx0 : x ≠ 0) : ∃ p j, p ∈ lnF F ∧ j < nkc F p ∧ x = nfk F p + j ∧ F x 15 = (p : Int) ∧ F x 5 = (j : Int) ∧ p < x := by
  rcases pre_up 120 0 hx with e | ⟨p, j, h1, h2, h3⟩
  · exact absurd e hx0
  · have hp := h.2.1 p h1
    have hlt := hp.lt (by omega)
    obtain ⟨⟨u1, u2⟩, -⟩ := hp.2.2 j h2
    rw [← h3] at u1 u2
    exact ⟨p, j, h1, h2, h3, u1, u2, by omega⟩
theorem deep_rng {F : FT} {mk : Nat} (h : TI F mk) : ∀ (n x : Nat), x < n → x ∈ lnF F → 0 ≤ F x 6 ∧ F x 6 ≤ (x : Int) := by
  intro n
  induction n with
  | zero => intro x hx; omega
  | succ n ih =>
    intro x hx hL
    by_cases x0 : x = 0
    · subst x0
      rw [h.2.2.2]
      omega
    · obtain ⟨p, j, t1, t2, t3, t4, t5, t6⟩ := h.ndx hL x0
      have := ih p (by omega) t1
      have h2 := ((h.2.1 p t1).2.2 j t2).2
      rw [← t3] at h2
      omega
theorem Tr_addNode_s (hG : Good M) (hT : TI F mk) (hk : AKp F k mk) (hR : TRc M X F mk) (hX : XE M e n xs) (hv : av xs) (he : 749 < e) : (40 < xs.length → Tr_addNode 27 (30 + 6 * k) e M = some (some (.inl (-3)), M)) ∧ (¬ 40 < xs.length → 120 ≤ mk → Tr_addNode 27 (30 + 6 * k) e M = some (some (.inl (-2)), M)) ∧ (¬ 40 < xs.length → mk < 120 → ∃ M', Tr_addNode 27 (30 + 6 * k) e M = some (some (.inl 0), M') ∧ TRc M' (upX X mk xs) (adF F k mk (-1) (-1)) (mk + 1) ∧ Good M' ∧ Fq anS anR M M') := by
  have hxl := hX.lt
  obtain ⟨⟨hLN, h9⟩, hnd, hwk⟩ := hR
  have hlen := hT.len
  have hmk120 := hT.1.2.2
  refine ⟨fun q => ?_, fun q q2 => ?_, fun q q2 => ?_⟩
  · rw [Tr_addNode_eq, hX.g hG, gd_t, hX.s, if_pos (by omega)]
  · rw [Tr_addNode_eq, hX.g hG, gd_t, hX.s, if_neg (by omega), hG.gT, gd_t, h9, if_neg (by omega)]
  obtain ⟨⟨hT1, hk1⟩, ⟨A, B, eF, eG⟩, ekc⟩ := hT.add hk q2 (-1) (-1)
  have hkL := hk.1.1
  have hkm := hT.1.2.1 k hkL
  have hTk := hT.2.1 k hkL
  have hkf := hk.1.2
  have hc8 : F k 8 = (nkc F k : Int) := by have := hTk.1; unfold nkc; omega
  have hlenF : (lnF F).length = A.length + 1 + nkc F k + B.length := by rw [eF]; simp only [List.length_append, List.length_cons, kls_len]; omega
  have hpool : mR M 28 mk = 30 + 6 * mk := hG.2.2.2.2 mk q2
  have hndr := hG.ndr q2
  -- it takes the expression
  have f0 : Fj (fun a j => a = 27 ∧ j = 9) M (stI M 27 9 ((mk + 1 : Nat) : Int)) := Fj.ofI ⟨rfl, rfl⟩
  have hG0 := hG.fj f0
  obtain ⟨⟨ys, hY⟩, -⟩ := hwk mk q2
  have hX0 := hX.fj f0 (by omega) (by omega)
  have hY0 := hY.fj f0 (by omega) (by omega)
  obtain ⟨M1, a1, a2, a3⟩ := Ex_become_s hG0 hY0 hX0 (by omega) (by omega) (by omega) (by omega)
  have hG1 := hG0.fi a3
  obtain ⟨M2, b2', b2, b3⟩ := Ex_listVars_s hG1 a2 hv (r := 33 + 6 * mk) (rm := 40) (by have := (nd_isN q2).2.2.1; rw [show 30 + 6 * mk + 3 = 33 + 6 * mk by omega] at this; exact this) (by decide) (by omega) (by omega) (by omega)
  have hG2 := hG1.fi b3
  have hX2 : XE M2 (31 + 6 * mk) 40 xs := a2.fi b3 (by omega) (by omega)
  have f3 : Fj (fun a j => a = 30 + 6 * mk ∧ j = 3) M2 (stI M2 (30 + 6 * mk) 3 ((ord xs).length : Nat)) := Fj.ofI ⟨rfl, rfl⟩
  have hG3 := hG2.fj f3
  have F13 : Fq (fun a j => (31 + 6 * mk ≤ a ∧ a ≤ 33 + 6 * mk) ∨ (a = 30 + 6 * mk ∧ j = 3) ∨ (a = 27 ∧ j = 9)) nor M (stI M2 (30 + 6 * mk) 3 ((ord xs).length : Nat)) := (((f0.mono (T := fun a j => (31 + 6 * mk ≤ a ∧ a ≤ 33 + 6 * mk) ∨ (a = 30 + 6 * mk ∧ j = 3) ∨ (a = 27 ∧ j = 9)) fun a j q => Or.inr (Or.inr q)).trans (a3.fj fun a j q => by unfold eS at q; omega)).trans (b3.fj fun a j q => by omega)).trans (f3.mono fun a j q => Or.inr (Or.inl q)) |>.fq fun a k q => q
  have hX3 : XE (stI M2 (30 + 6 * mk) 3 ((ord xs).length : Nat)) (31 + 6 * mk) 40 xs := hX2.fj f3 (by omega) (by omega)
  have hW3 : RW (stI M2 (30 + 6 * mk) 3 ((ord xs).length : Nat)) (33 + 6 * mk) 0 (ord xs) := b2.fj f3 (by omega)
  have h33 : mI (stI M2 (30 + 6 * mk) 3 ((ord xs).length : Nat)) (30 + 6 * mk) 3 = ((ord xs).length : Nat) := mI_at
  have r3 : mR M1 (30 + 6 * mk) 0 = 31 + 6 * mk ∧ mR M1 (30 + 6 * mk) 1 = 33 + 6 * mk ∧ mR M1 (30 + 6 * mk) 2 = 34 + 6 * mk := hG1.ndr q2
  generalize hM3 : stI M2 (30 + 6 * mk) 3 ((ord xs).length : Nat) = M3 at *
  -- it begins
  obtain ⟨ndxk, ⟨ndik, ndik4⟩, ⟨ndr1, ndr2⟩, ⟨ndr3, ndr4⟩, ndr5⟩ := hnd k hkL
  have i38 : mI M3 (30 + 6 * k) 8 = (nkc F k : Int) := (F13.2.2 _ _ (by omega)).trans ((ndik 8 (by unfold nf; omega)).trans hc8)
  have i36 : mI M3 (30 + 6 * k) 6 = F k 6 := (F13.2.2 _ _ (by omega)).trans (ndik 6 (by unfold nf; omega))
  obtain ⟨y, hy0, hy1⟩ : ∃ y : Nat, (nkc F k = 0 → y = mk) ∧ (nkc F k ≠ 0 → y = nfk F k + nkc F k - 1) := by
    by_cases q0 : nkc F k = 0
    · exact ⟨mk, fun _ => rfl, fun g => absurd q0 g⟩
    · exact ⟨_, fun g => absurd g q0, fun _ => rfl⟩
  have r317 : mR M3 (30 + 6 * k) 17 = if nkc F k = 0 then 0 else 30 + 6 * y := by
    rw [F13.2.1 _ _ (fun q => q), ndr4]
    by_cases q0 : nkc F k = 0
    · rw [if_pos q0, if_pos (by omega)]
    · rw [if_neg q0, if_neg (by omega), hy1 q0]
  have hdp : 0 ≤ F k 6 ∧ F k 6 < 1000 := by
    have := deep_rng hT (k + 1) k (Nat.lt_succ_self k) hkL
    omega
  have hyk : nkc F k ≠ 0 → y < 120 ∧ mk ≠ y := fun q0 => by have := hkf (by omega); have := hy1 q0; omega
  have hkids : nkc F k < 1000 := by
    by_cases q0 : nkc F k = 0
    · omega
    · have := hkf (by omega); omega
  obtain ⟨M4, c1, c2, c3, ⟨c4, c5⟩, ⟨⟨c6, c7⟩, ⟨c8, c9⟩, c10⟩, ⟨c11, c12⟩, c13, c14, c15, c16, c17⟩ := No_begin_s hG3 (m := mk) (k := k) (c := nkc F k) (y := y) q2 (by omega) hyk (by omega) i38 hkids i36 hdp r317
  -- it comes into the line
  have hLN4 : LN M4 (A ++ (k :: (kls F k ++ B))) := by
    rw [← eF]
    exact ⟨(c16 8).trans ((F13.2.2 _ _ (by omega)).trans hLN.1), fun i x hx => (c17 i).trans ((F13.2.1 _ _ (fun q => q)).trans (hLN.2 i x hx))⟩
  have hndF := hT.1.1
  have hkA : k ∉ A := by
    rw [eF] at hndF
    intro q
    exact (List.nodup_append.mp hndF).2.2 k q k (by simp) rfl
  have hidx := Tr_indexOf_s c2 hLN4 hkA (by rw [← eF]; omega)
  have hBm : ∀ x ∈ B, x < 120 := fun x hx => by
    have : x ∈ lnF F := by rw [eF]; simp [hx]
    have := hT.1.2.1 x this
    omega
  have hA'len : (A ++ (k :: kls F k)).length = A.length + 1 + nkc F k := by simp only [List.length_append, List.length_cons, kls_len]; omega
  have hsplit : A ++ (k :: (kls F k ++ B)) = (A ++ (k :: kls F k)) ++ B := by simp
  rw [hsplit] at hLN4
  obtain ⟨M5, d1, d2, d3, d4⟩ := Tr_insert_s (A := A ++ (k :: kls F k)) (B := B) (m := mk) (by rw [hA'len]; omega) q2 hBm (some (.inr (30 + 6 * k))) (some (.inr e)) B.length M4 (Nat.le_refl _) c2 (by rw [hLN4.1, List.length_append]) (fun i x hx => hLN4.2 i x (by rw [List.getElem?_append_left (List.getElem?_eq_some_iff.mp hx).1]; exact hx)) (fun i x hi hx => hLN4.2 _ x (by rw [List.getElem?_append_right (by omega), show (A ++ (k :: kls F k)).length + i - (A ++ (k :: kls F k)).length = i by omega]; exact hx)) (fun i x hi hx => by have := (List.getElem?_eq_some_iff.mp hx).1; omega)
  have e48 : mI M4 27 8 = ((A.length + 1 + nkc F k + B.length : Nat) : Int) := by rw [hLN4.1, List.length_append, hA'len]
  have e45 : mI M4 (30 + 6 * mk) 5 = (nkc F k : Int) := by rw [c4 5 (by decide) (by decide)]; rfl
  rw [hA'len] at d1
  have hLN5 : LN M5 (lnF (adF F k mk (-1) (-1))) := by
    rw [eG, show A ++ (k :: (kls F k ++ (mk :: B))) = (A ++ (k :: kls F k)) ++ (mk :: B) by simp]
    exact d2
  -- all frames
  have F5 : Fq (fun a j => adS mk k a j ∨ (a = 27 ∧ j = 8)) (fun a j => adR mk k y a j) M M5 := ((F13.mono (T := fun a j => adS mk k a j ∨ (a = 27 ∧ j = 8)) (U := fun a j => adR mk k y a j) (fun a j q => by unfold adS; omega) fun a j q => q.elim).trans (c3.mono (fun a j q => Or.inl q) fun a j q => q)).trans (d4.mono (fun a j q => Or.inr q) fun a j q => by unfold adR; omega)
  have h95 : mI M5 27 9 = ((mk + 1 : Nat) : Int) := by
    rw [d4.2.2 _ _ (by omega), c16 9, ← hM3, mI_ne (by omega), b3.2.2 _ (by omega), a3.2.2 _ (by unfold eS; omega), mI_at]
  have hold : ∀ x, x ∈ lnF F → x ≠ k → NDx M5 (upX X mk xs x) x ∧ NDi M5 (adF F k mk (-1) (-1)) x ∧ NDr M5 (adF F k mk (-1) (-1)) x := by
    intro x hx hne
    have hxm := hT.1.2.1 x hx
    obtain ⟨p1, ⟨p2, p3⟩, ⟨p4, p5⟩, ⟨p6, p7⟩, p8⟩ := hnd x hx
    have o : ∀ f, adF F k mk (-1) (-1) x f = F x f := fun f => adF_old (by omega) (by omega)
    have okc : nkc (adF F k mk (-1) (-1)) x = nkc F x := by unfold nkc; rw [o]
    have ofk : nfk (adF F k mk (-1) (-1)) x = nfk F x := by unfold nfk; rw [o]
    have iI : ∀ j, mI M5 (30 + 6 * x) j = mI M (30 + 6 * x) j := fun j => F5.2.2 _ _ (by unfold adS; omega)
    have iR : ∀ j, j ≠ 18 → mR M5 (30 + 6 * x) j = mR M (30 + 6 * x) j := fun j hj => F5.2.1 _ _ (by unfold adR; omega)
    refine ⟨by rw [upX_ne (by omega)]; exact p1.fq F5 (by unfold adS; omega), ⟨fun f hf => by rw [iI, o]; exact p2 f hf, by rw [iI, o]; exact p3⟩, ⟨by rw [iR _ (by decide), o]; exact p4, by rw [iR _ (by decide), o]; exact p5⟩, ⟨by rw [iR _ (by decide), o, ofk]; exact p6, by rw [iR _ (by decide), o, ofk, okc]; exact p7⟩, ?_⟩
    unfold ndx
    rw [o, o]
    by_cases x0 : x = 0
    · subst x0
      rw [if_neg (fun q => q.1 hT.2.2.1.1), F5.2.1 _ _ (by unfold adR; omega), p8]
      unfold ndx
      rw [if_neg (fun q => q.1 hT.2.2.1.1)]
    · obtain ⟨p, j, t1, t2, t3, t4, t5, t6⟩ := hT.ndx hx x0
      have hpm := hT.1.2.1 p t1
      rw [t4, t5, toNat_n]
      have hT2 := hT.2.1 p t1
      have hp8 : F p 8 = (nkc F p : Int) := by have := hT2.1; unfold nkc; omega
      by_cases pk : p = k
      · subst pk
        rw [adF_k8 (by omega)]
        have := hkf (by omega)
        rw [if_pos (by omega)]
        by_cases jl : j + 1 = nkc F p
        · have hxy : x = nfk F p + nkc F p - 1 := by omega
          have hyx : x = y := by have := hy1 (by omega); omega
          rw [d4.2.1 _ _ (by omega), hyx, c13 (by omega)]
          omega
        · rw [F5.2.1 _ _ (by unfold adR; omega), p8]
          unfold ndx
          rw [t4, t5, toNat_n, if_pos (by omega)]
      · rw [adF_old (a := p) (by omega) (by omega), d4.2.1 _ _ (by omega)]
        have hxy : x ≠ y := by
          intro hxy
          by_cases q0 : nkc F k = 0
          · have := hy0 q0; omega
          · have h1 := ((hTk.2.2 (nkc F k - 1) (by omega)).1).1
            have h2 := hy1 q0
            rw [show nfk F k + (nkc F k - 1) = x by omega, t4] at h1
            omega
        rw [c3.2.1 _ _ (by unfold adR; omega), F13.2.1 _ _ (fun q => q), p8]
        unfold ndx
        rw [t4, t5, toNat_n]
  have hnk : NDx M5 (upX X mk xs k) k ∧ NDi M5 (adF F k mk (-1) (-1)) k ∧ NDr M5 (adF F k mk (-1) (-1)) k := by
    have o : ∀ f, f ≠ 8 → f ≠ 16 → adF F k mk (-1) (-1) k f = F k f := fun f h1 h2 => adF_old (by omega) (by omega)
    have iI : ∀ j, j ≠ 8 → mI M5 (30 + 6 * k) j = mI M (30 + 6 * k) j := fun j hj => F5.2.2 _ _ (by unfold adS; omega)
    have e8' : adF F k mk (-1) (-1) k 8 = F k 8 + 1 := adF_k8 (by omega)
    have efk' : nfk (adF F k mk (-1) (-1)) k + nkc F k = mk := by
      have e16 := adF_k16 (F := F) (cn := -1) (cv := -1) (show k ≠ mk by omega)
      unfold nfk
      rw [e16]
      by_cases q0 : F k 8 = 0
      · rw [if_pos q0]; omega
      · rw [if_neg q0]; have := hkf (by omega); unfold nfk at this; omega
    refine ⟨by rw [upX_ne (by omega)]; exact ndxk.fq F5 (by unfold adS; omega), ⟨fun f hf => ?_, by rw [iI _ (by decide), o _ (by decide) (by decide)]; exact ndik4⟩, ⟨?_, ?_⟩, ⟨?_, ?_⟩, ?_⟩
    · by_cases f8 : f = 8
      · subst f8
        rw [e8', d4.2.2 _ _ (by omega), c5]
        omega
      · rw [iI _ f8, o f f8 (by unfold nf at hf; omega)]
        exact ndik f hf
    · rw [F5.2.1 _ _ (by unfold adR; omega), o _ (by decide) (by decide)]; exact ndr1
    · rw [F5.2.1 _ _ (by unfold adR; omega), o _ (by decide) (by decide)]; exact ndr2
    · rw [e8', if_neg (by omega), d4.2.1 _ _ (by omega), c12]
      by_cases q0 : nkc F k = 0
      · rw [if_pos q0]; omega
      · rw [if_neg q0, F13.2.1 _ _ (fun q => q), ndr3, if_neg (by omega)]
        have := hkf (by omega)
        omega
    · rw [e8', if_neg (by omega), d4.2.1 _ _ (by omega), c11, ekc]
      omega
    · have hky : k ≠ y := by
        intro h
        by_cases q0 : nkc F k = 0
        · have := hy0 q0; omega
        · have := hTk.lt (by omega); have := hy1 q0; omega
      rw [F5.2.1 _ _ (by unfold adR; omega), ndr5]
      unfold ndx
      rw [o _ (by decide) (by decide), o _ (by decide) (by decide)]
      by_cases k0 : k = 0
      · subst k0
        rw [if_neg (fun q => q.1 hT.2.2.1.1), if_neg (fun q => q.1 hT.2.2.1.1)]
      · obtain ⟨p, j, t1, t2, t3, t4, t5, t6⟩ := hT.ndx hkL k0
        have hpm := hT.1.2.1 p t1
        rw [t4, t5, toNat_n, adF_old (a := p) (by omega) (by omega)]
  have hnm : NDx M5 (upX X mk xs mk) mk ∧ NDi M5 (adF F k mk (-1) (-1)) mk ∧ NDr M5 (adF F k mk (-1) (-1)) mk := by
    have hI : ∀ j, 4 ≤ j → j ≤ 13 → mI M5 (30 + 6 * mk) j = if j = 5 then (nkc F k : Int) else if j = 6 then F k 6 + 1 else if j = 4 ∨ j = 8 ∨ j = 13 then 0 else -1 := fun j h1 h2 => by rw [d4.2.2 _ _ (by omega)]; exact c4 j h1 h2
    have hRr : ∀ j, mR M5 (30 + 6 * mk) j = mR M4 (30 + 6 * mk) j := fun j => d4.2.1 _ _ (by omega)
    have x4 : NDx M4 xs mk := by
      refine ⟨hX3.ext fun a j q => c15 a (by omega) (by omega) j, fun i hi => (c15 _ (by omega) (by omega) _).trans (hW3 i hi), c14.trans h33⟩
    refine ⟨by rw [upX_at]; exact x4.fq d4 (by omega), ⟨fun f hf => ?_, ?_⟩, ⟨?_, ?_⟩, ⟨?_, ?_⟩, ?_⟩
    · rw [adF_new]
      unfold nf at hf
      rcases hf with e | e | e | e | e | e | e | e <;> subst e
      · rw [hI _ (by decide) (by decide), if_pos rfl, if_pos rfl, hc8]
      · rw [hI _ (by decide) (by decide)]; rfl
      · rw [hI _ (by decide) (by decide)]; rfl
      · rw [hI _ (by decide) (by decide)]; rfl
      · rw [hI _ (by decide) (by decide)]; rfl
      · rw [hI _ (by decide) (by decide)]; rfl
      · rw [hI _ (by decide) (by decide)]; rfl
      · rw [hI _ (by decide) (by decide)]; rfl
    · rw [adF_new, hI _ (by decide) (by decide)]; rfl
    · rw [hRr, c6, adF_new]; rfl
    · rw [hRr, c7, adF_new]
      show 30 + 6 * k = ndf (k : Int)
      unfold ndf
      rw [if_neg (by omega), toNat_n]
    · rw [hRr, c8, adF_new]; rfl
    · rw [hRr, c9, adF_new]; rfl
    · rw [hRr, c10]
      unfold ndx
      rw [adF_new, adF_new, if_neg]
      intro q
      have q2 : F k 8 + 1 < adF F k mk (-1) (-1) (Int.toNat (k : Int)) 8 := q.2
      rw [toNat_n, adF_k8 (by omega)] at q2
      omega
  have hall : ∀ x ∈ lnF (adF F k mk (-1) (-1)), x = mk ∨ x ∈ lnF F := by
    intro x hx
    rw [eG] at hx
    rw [eF]
    simp only [List.mem_append, List.mem_cons] at hx ⊢
    rcases hx with q | q | q | q | q
    · exact Or.inr (Or.inl q)
    · exact Or.inr (Or.inr (Or.inl q))
    · exact Or.inr (Or.inr (Or.inr (Or.inl q)))
    · exact Or.inl q
    · exact Or.inr (Or.inr (Or.inr (Or.inr q)))
  refine ⟨M5, ?_, ⟨⟨hLN5, h95⟩, fun x hx => ?_, fun x hx => ?_⟩, d3, F5.mono (fun a j q => by unfold adS at q; unfold anS; omega) fun a j q => ?_⟩
  · rw [Tr_addNode_eq, hX.g hG, gd_t, hX.s, if_neg (by omega), hG.gT, gd_t, h9, if_pos (by omega), gd_t, hLN.1, if_pos (by omega), gd_t, gd_t, hG.r27_2, hG.a28 q2, gd_t, gd_t, gd_t, toNat_n, hpool, hG.nd q2, gd_t, hndr.1, hY.g hG, gd_t, wr_s (by omega), a1, cV_s, hG1.nd q2, gd_t, gd_t, r3.1, a2.g hG1, gd_t, r3.2.1, b2', cI_s, hG2.nd q2, gd_t, gd_t, hM3, c1, cV_s, if_neg (by omega), c2.gT, gd_t, hidx, cI_s, c2.nd q2, gd_t, c2.gT, gd_t, e45, e48, wr_s (by omega), wr_id (x := ((A.length + 1 : Nat) : Int) + (nkc F k : Int)) (by omega) (by omega), show ((A.length + 1 : Nat) : Int) + (nkc F k : Int) = ((A.length + 1 + nkc F k : Nat) : Int) by omega, d1]
  · rcases hall x hx with q | q
    · subst q; exact hnm
    · by_cases g : x = k
      · subst g; exact hnk
      · exact hold x q g
  · obtain ⟨⟨zs, w1⟩, us, w2⟩ := hwk x hx
    refine ⟨?_, ⟨us, w2.ext fun a j q => F5.2.2 a j (by unfold adS; omega)⟩⟩
    by_cases g : x = mk
    · subst g
      have := hnm.1.1
      exact ⟨_, this⟩
    · exact ⟨zs, w1.ext fun a j q => F5.2.2 a j (by unfold adS; omega)⟩
  · unfold adR at q
    unfold anR
    by_cases q0 : nkc F k = 0
    · have := hy0 q0; omega
    · have := hy1 q0; have := hkf (by omega); omega
end ADDN

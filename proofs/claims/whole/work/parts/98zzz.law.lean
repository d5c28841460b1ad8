/-! ===== the law's loop: what holds between two calls ===== -/
section LAWF
variable {M M1 : Mem} {S R : Nat → Nat → Prop} {T ws gl ng gc : List Int} {zs ns nc : List Clz} {bs : Bnd} {es : Nat → List Int} {f dr dp : Int}
theorem TPc.fq (h : TPc M T) (q : Fq S R M M1) (h0 : ∀ k, ¬ S 3 4 ∧ ¬ S 4 k) : TPc M1 T := ⟨(q.2.2 _ _ (h0 0).1).trans h.1, h.2.1, fun i hi => by rw [q.2.2 _ _ (h0 i).2]; exact h.2.2 i hi⟩
theorem CF.fq (h : CF M f dr) (q : Fq S R M M1) (h0 : ¬ S 2 15 ∧ ¬ S 2 16) : CF M1 f dr := ⟨(q.2.2 _ _ h0.2).trans h.1, (q.2.2 _ _ h0.1).trans h.2⟩
theorem TXc.fq (h : TXc M ws) (q : Fq S R M M1) (h0 : ∀ k, ¬ S 9 2 ∧ ¬ S 10 k) : TXc M1 ws := ⟨(q.2.2 _ _ (h0 0).1).trans h.1, h.2.1, fun i hi => (q.2.2 _ _ (h0 i).2).trans (h.2.2 i hi)⟩
theorem RUx.fq (h : RUx M) (q : Fq S R M M1) (h0 : ∀ a k, 23 ≤ a ∧ a ≤ 26 → ¬ S a k) (h1 : ¬ R 21 1 ∧ ¬ R 21 2) : RUx M1 := by
  obtain ⟨N, U, xs, h⟩ := h
  exact ⟨N, U, xs, h.fq q h0 h1⟩
theorem TKc.fq (h : TKc M) (q : Fq S R M M1) (h0 : ∀ a k, (30 ≤ a ∧ a < 754) ∨ a = 755 ∨ a = 756 → ¬ S a k) : TKc M1 := by
  obtain ⟨⟨h1, cs, h2⟩, ⟨us, h3⟩, vs, h4⟩ := h
  have o : ∀ a k, (30 ≤ a ∧ a < 754) ∨ a = 755 ∨ a = 756 → mI M1 a k = mI M a k := fun a k g => q.2.2 a k (h0 a k g)
  exact ⟨⟨h1.ext fun a j g1 g2 => o a j (by omega), cs, h2.ext fun a k g => o a k (by omega)⟩, ⟨us, h3.ext fun a k g => o a k (by omega)⟩, vs, h4.ext fun a k g => o a k (by omega)⟩
theorem DRc.fq (hzs : zsk 100 zs) (hok : okP zs) (hzl : zs.length ≤ 40) (hi : isd zs gl) (h : DRc M zs gl) (q : Fq S R M M1) (h0 : ∀ a j, (30 ≤ a ∧ a < 750) ∨ (a = 27 ∧ 8 ≤ j) ∨ (a = 754 ∧ j = 3) → ¬ S a j) (h1 : ∀ a j, (30 ≤ a ∧ a < 750) ∨ a = 29 → ¬ R a j) : DRc M1 zs gl := by
  have hT := (h.all hzs hok hzl hi).1.1
  have hm := hT.1.2.2
  have hl := (h.all hzs hok hzl hi).1.2
  obtain ⟨⟨d1, d2⟩, ⟨d3, d4⟩, d5, d6⟩ := h
  refine ⟨⟨d1.fq hT q (fun a j g => h0 a j (by omega)) h1, fun i x hx => ?_⟩, ⟨(q.2.2 _ _ (h0 _ _ (by omega))).trans d3, (q.2.2 _ _ (h0 _ _ (by omega))).trans d4⟩, (q.2.2 _ _ (h0 _ _ (by omega))).trans d5, d6⟩
  have hxm : x < (tof zs gl).2.2 := hT.1.2.1 x (by rw [hl]; exact List.mem_of_getElem? hx)
  exact (q.2.2 _ _ (h0 _ _ (by omega))).trans (d2 i x hx)
end LAWF
/-- the class's half -/
def CHf (M : Mem) (T : List Int) (zs nc : List Clz) (bs : Bnd) (gl gc : List Int) (es : Nat → List Int) (f dr : Int) (ws : List Int) (dp : Int) : Prop := IC M T zs nc bs gl gc es f dr ws dp ∧ (dr ≠ 0 → DRc M zs gl ∧ nc = nwP zs gl ∧ gc = nwG zs gl)
/-- the reference's half -/
def RHf (M : Mem) (T : List Int) (zs : List Clz) (bs : Bnd) (gl : List Int) (es : Nat → List Int) (f dr : Int) (ws : List Int) (dp : Int) : Prop := ((TPm M T ∧ MP M zs ∧ MB M bs) ∧ (MO M gl ∧ MX M es) ∧ (MF M f dr ∧ TXm M ws) ∧ mI M 1269 52 = dp) ∧ (dr ≠ 0 → DRm M zs gl ∧ MQn M (nwP zs gl) ∧ MG M (nwG zs gl))
/-- what holds of what is read -/
def PVL (zs : List Clz) (bs : Bnd) (gl : List Int) (es : Nat → List Int) (dr : Int) : Prop := (zsk 100 zs ∧ okP zs ∧ zs.length ≤ 40) ∧ (bok bs ∧ gok gl ∧ ∀ i, i < 4 → xok (es i)) ∧ (dr = 0 ∨ (dr = 1 ∧ isd zs gl))
def LIV (L : Nat) (xs : Nat → Int) (M : Mem) : Prop := (Good M ∧ SCR L xs M) ∧ ∃ (T : List Int) (zs nc : List Clz) (bs : Bnd) (gl gc : List Int) (es : Nat → List Int) (f dr : Int) (ws : List Int) (dp : Int), CHf M T zs nc bs gl gc es f dr ws dp ∧ RHf M T zs bs gl es f dr ws dp ∧ PVL zs bs gl es dr
/-- a call of each answers alike, and what holds goes on -/
def OPP (L : Nat) (xs : Nat → Int) (p g : Mem → Res) : Prop := ∀ M, LIV L xs M → ∃ v M1 M2, p M = some (some (.inl v), M1) ∧ g M1 = some (some (.inl v), M2) ∧ (Good M1 ∧ SCR L xs M1) ∧ LIV L xs M2
def loA : Nat → Nat → Prop := fun a _ => a < 1269
section LAWG
variable {L : Nat} {xs : Nat → Int} {M M1 : Mem} {S R : Nat → Nat → Prop} {T ws gl ng gc : List Int} {zs ns nc : List Clz} {bs : Bnd} {es : Nat → List Int} {f dr dp : Int}
theorem PVL.new (h : PVL zs bs gl es dr) (hd : dr ≠ 0) : nOK zs (nwP zs gl) (nwG zs gl) ∧ isd zs gl := by
  obtain ⟨⟨h1, h2, h3⟩, ⟨-, ⟨⟨h4, h5, -⟩, h6⟩, -⟩, h7⟩ := h
  obtain ⟨-, hi⟩ := h7.resolve_left hd
  exact ⟨new_ok h1 h2 h3 h4 h5 h6 hi, hi⟩
theorem SCR.fq (h : SCR L xs M) (q : Fq S R M M1) (h0 : ∀ k, ¬ S 1 k) : SCR L xs M1 := ⟨by
  have := q.1.2
  show mH M1 1 = _
  unfold mH
  rw [this]
  exact h.1, fun k => (q.2.2 _ _ (h0 k)).trans (h.2 k)⟩
/-- the class's half stays when only the reference works -/
theorem CHf.hi (h : CHf M T zs nc bs gl gc es f dr ws dp) (pv : PVL zs bs gl es dr) (q : Fj S M M1) (h0 : ∀ a k, S a k → 1269 ≤ a) : CHf M1 T zs nc bs gl gc es f dr ws dp := by
  have q2 : Fq S nor M M1 := q.fq fun a k g => g
  have n : ∀ a k, a < 1269 → ¬ S a k := fun a k g m => by have := h0 a k m; omega
  obtain ⟨⟨⟨a1, a2, a3, a4⟩, ⟨a5, a6, a7⟩, ⟨a8, a9⟩, b1⟩, b2⟩ := h
  have nr : ∀ a k, ¬ nor a k := fun a k g => g
  refine ⟨⟨⟨a1.fq q2 fun k => ⟨n _ _ (by omega), n _ _ (by omega)⟩, a2.fq q2 (fun a k g => n _ _ (by omega)) (fun k _ => nr _ _), a3.fq q2 (fun a k g => n _ _ (by omega)) (fun k _ => nr _ _), a4.fq q2 (fun a k g => n _ _ (by omega))⟩, ⟨a5.fq q2 (fun a k g => n _ _ (by omega)), a6.fq q2 ⟨n _ _ (by omega), n _ _ (by omega)⟩, a7.fq q2 fun k => ⟨n _ _ (by omega), n _ _ (by omega)⟩⟩, ⟨a8.fq q2 (fun a k g => n _ _ (by omega)) ⟨nr _ _, nr _ _⟩, a9.fq q2 (fun a k g => n _ _ (by omega))⟩, (q.2.2 _ _ (n _ _ (by omega))).trans b1⟩, fun hd => ?_⟩
  obtain ⟨c1, c2⟩ := b2 hd
  exact ⟨c1.fq pv.1.1 pv.1.2.1 pv.1.2.2 (pv.new hd).2 q2 (fun a j g => n _ _ (by omega)) (fun a j _ => nr _ _), c2⟩
/-- the reference's half stays where its cells stay -/
theorem RHf.same (h : RHf M T zs bs gl es f dr ws dp) (n : ∀ a k, 1269 ≤ a → mI M1 a k = mI M a k) (hs : M1.1 = M.1 ∧ M1.2.1 = M.2.1) : RHf M1 T zs bs gl es f dr ws dp := by
  -- references play no part: a memory that has this one's, and the other's ints
  have q : Fj loA M (M1.1, M1.2.1, M1.2.2.1, M.2.2.2) := ⟨hs, fun _ _ => rfl, fun a k g => n a k (by unfold loA at g; omega)⟩
  have nl : ∀ a k, 1269 ≤ a → ¬ loA a k := fun a k g m => by
    have : a < 1269 := m
    omega
  obtain ⟨⟨⟨a1, a2, a3⟩, ⟨a4, a5⟩, ⟨⟨a6, a6'⟩, a7⟩, a8⟩, b2⟩ := h
  have t1 := a2.2.fj q fun a k g => nl a k (by omega)
  refine ⟨⟨⟨⟨(n _ _ (by omega)).trans a1.1, a1.2.1, fun i hi => by rw [n _ _ (by omega)]; exact a1.2.2 i hi⟩, ⟨(n _ _ (by omega)).trans a2.1, t1⟩, (n _ _ (by omega)).trans a3.1, fun i u hu => ⟨(n _ _ (by omega)).trans (a3.2 i u hu).1, (n _ _ (by omega)).trans (a3.2 i u hu).2.1, fun j hj => (n _ _ (by omega)).trans ((a3.2 i u hu).2.2 j hj)⟩⟩, ⟨⟨(n _ _ (by omega)).trans a4.1, fun i hi => (n _ _ (by omega)).trans (a4.2 i hi)⟩, fun i hi => ⟨(n _ _ (by omega)).trans (a5 i hi).1, fun j hj => (n _ _ (by omega)).trans ((a5 i hi).2 j hj)⟩⟩, ⟨⟨(n _ _ (by omega)).trans a6, (n _ _ (by omega)).trans a6'⟩, ⟨(n _ _ (by omega)).trans a7.1, a7.2.1, fun i hi => (n _ _ (by omega)).trans (a7.2.2 i hi)⟩⟩, (n _ _ (by omega)).trans a8⟩, fun hd => ?_⟩
  obtain ⟨⟨d1, d2, d3⟩, ⟨d4, d5⟩, d6, d7⟩ := b2 hd
  have t2 := d1.fjo q fun a j g => nl a j (by unfold rzS at g; omega)
  have t3 := d5.fj q fun a k g => nl a k (by omega)
  exact ⟨⟨t2, (n _ _ (by omega)).trans d2, (n _ _ (by omega)).trans d3⟩, ⟨(n _ _ (by omega)).trans d4, t3⟩, (n _ _ (by omega)).trans d6, fun i hi => (n _ _ (by omega)).trans (d7 i hi)⟩
theorem RHf.lo (h : RHf M T zs bs gl es f dr ws dp) (q : Fq S R M M1) (h0 : ∀ a k, S a k → a < 1269) : RHf M1 T zs bs gl es f dr ws dp := h.same (fun a k g => q.2.2 a k fun m => by have := h0 a k m; omega) q.1
/-- a pair of calls, by halves -/
theorem OPP.of {p g : Mem → Res} (h : ∀ M, Good M → ∀ (T : List Int) (zs nc : List Clz) (bs : Bnd) (gl gc : List Int) (es : Nat → List Int) (f dr : Int) (ws : List Int) (dp : Int), CHf M T zs nc bs gl gc es f dr ws dp → RHf M T zs bs gl es f dr ws dp → PVL zs bs gl es dr → ∃ (v : Int) (M1 M2 : Mem) (S R A : Nat → Nat → Prop) (T' : List Int) (zs' nc' : List Clz) (bs' : Bnd) (gl' gc' : List Int) (es' : Nat → List Int) (f' dr' : Int) (ws' : List Int) (dp' : Int), (p M = some (some (.inl v), M1) ∧ g M1 = some (some (.inl v), M2)) ∧ (Good M1 ∧ Good M2) ∧ (Fq S R M M1 ∧ ∀ a k, S a k → 2 ≤ a ∧ a < 1269) ∧ (Fj A M1 M2 ∧ ∀ a k, A a k → 1269 ≤ a) ∧ CHf M1 T' zs' nc' bs' gl' gc' es' f' dr' ws' dp' ∧ (RHf M1 T zs bs gl es f dr ws dp → RHf M2 T' zs' bs' gl' es' f' dr' ws' dp') ∧ PVL zs' bs' gl' es' dr') : OPP L xs p g := by
  intro M hM
  obtain ⟨⟨hG, hS⟩, T, zs, nc, bs, gl, gc, es, f, dr, ws, dp, hC, hR, hP⟩ := hM
  obtain ⟨v, M1, M2, S, R, A, T', zs', nc', bs', gl', gc', es', f', dr', ws', dp', ⟨h1, h2⟩, ⟨h3, h4⟩, ⟨h5, h6⟩, ⟨h7, h8⟩, h9, i1, i2⟩ := h M hG T zs nc bs gl gc es f dr ws dp hC hR hP
  have s1 : SCR L xs M1 := hS.fq h5 fun k m => by have := h6 _ _ m; omega
  have q2 : Fq A nor M1 M2 := h7.fq fun a k g => g
  have s2 : SCR L xs M2 := s1.fq q2 fun k m => by have := h8 _ _ m; omega
  exact ⟨v, M1, M2, h1, h2, ⟨h3, s1⟩, ⟨h4, s2⟩, T', zs', nc', bs', gl', gc', es', f', dr', ws', dp', h9.hi i2 h7 h8, i1 (hR.lo h5 fun a k m => (h6 a k m).2), i2⟩
end LAWG

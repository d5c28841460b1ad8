/-! ===== what a text that was read keeps ===== -/
theorem whl_xok {T xs : List Int} (h : whl T = .ok xs) : xok xs := by
  obtain ⟨h1, h2, h3, h4⟩ := whl_ok h
  exact ⟨⟨h1, h2, h3⟩, fun c hc hk => ((h4 c hc).1 hk).1.2⟩
theorem setX_ok {es : Nat → List Int} {i : Nat} {xs : List Int} (h : ∀ i, i < 4 → xok (es i)) (hx : xok xs) : ∀ j, j < 4 → xok (setX es i xs j) := fun j hj => by
  unfold setX
  by_cases q : j = i
  · rw [if_pos q]; exact hx
  · rw [if_neg q]; exact h j hj
theorem zok.le {n m : Nat} {z : Clz} (h : zok n z) (hm : n ≤ m) : zok m z := ⟨h.1, h.2.1, h.2.2.1, ⟨h.2.2.2.1.1, h.2.2.2.1.2.1, Nat.le_trans h.2.2.2.1.2.2 hm⟩, h.2.2.2.2⟩
/-! ===== the law's loop: each pair of calls ===== -/
section LAWO
variable {L : Nat} {xs : Nat → Int}
theorem OPP_feed (a b c d e : Int) : OPP L xs (fun M => D_feed 2 a b c d e M) (fun M => M_feed 1269 a b c d e M) := by
  refine OPP.of fun M hG T zs nc bs gl gc es f dr ws dp hC hR pv => ?_
  obtain ⟨M1, S, R, h1, g1, c1, q1, s1⟩ := Lc_feed hG hC pv a b c d e
  obtain ⟨M2, A, h2, g2, c2, q2, s2⟩ := Lm_feed g1 (hR.lo q1 fun a k g => (s1 a k g).2) pv a b c d e
  exact ⟨_, M1, M2, S, R, A, _, _, _, _, _, _, _, _, _, _, _, ⟨h1, h2⟩, ⟨g1, g2⟩, ⟨q1, s1⟩, ⟨q2, s2⟩, c1, fun _ => c2, pv⟩
theorem OPP_end (n : Int) : OPP L xs (fun M => D_end 2 n M) (fun M => M_end 1269 n M) := by
  refine OPP.of fun M hG T zs nc bs gl gc es f dr ws dp hC hR pv => ?_
  obtain ⟨M1, S, R, h1, g1, c1, q1, s1⟩ := Lc_end hG hC pv n
  obtain ⟨M2, A, h2, g2, c2, q2, s2⟩ := Lm_end g1 (hR.lo q1 fun a k g => (s1 a k g).2) pv n
  exact ⟨_, M1, M2, S, R, A, _, _, _, _, _, _, _, _, _, _, _, ⟨h1, h2⟩, ⟨g1, g2⟩, ⟨q1, s1⟩, ⟨q2, s2⟩, c1, fun _ => c2, pv⟩
theorem OPP_relation (i j w : Int) : OPP L xs (fun M => D_relation 2 i j w M) (fun M => M_relation 1269 i j w M) := by
  refine OPP.of fun M hG T zs nc bs gl gc es f dr ws dp hC hR pv => ?_
  obtain ⟨M1, S, R, h1, g1, c1, q1, s1⟩ := Lc_relation hG hC pv i j w
  obtain ⟨M2, A, h2, g2, c2, q2, s2⟩ := Lm_relation g1 (hR.lo q1 fun a k g => (s1 a k g).2) pv i j w
  exact ⟨_, M1, M2, S, R, A, _, _, _, _, _, _, _, _, _, _, _, ⟨h1, h2⟩, ⟨g1, g2⟩, ⟨q1, s1⟩, ⟨q2, s2⟩, c1, fun _ => c2, pv⟩
theorem OPP_common (i j : Int) : OPP L xs (fun M => D_common 2 i j M) (fun M => M_common 1269 i j M) := by
  refine OPP.of fun M hG T zs nc bs gl gc es f dr ws dp hC hR pv => ?_
  obtain ⟨M1, S, R, h1, g1, c1, q1, s1⟩ := Lc_common hG hC pv i j
  obtain ⟨M2, A, h2, g2, c2, q2, s2⟩ := Lm_common g1 (hR.lo q1 fun a k g => (s1 a k g).2) pv i j
  exact ⟨_, M1, M2, S, R, A, _, _, _, _, _, _, _, _, _, _, _, ⟨h1, h2⟩, ⟨g1, g2⟩, ⟨q1, s1⟩, ⟨q2, s2⟩, c1, fun _ => c2, pv⟩
theorem OPP_commonOf (i j w : Int) : OPP L xs (fun M => D_commonOf 2 i j w M) (fun M => M_commonOf 1269 i j w M) := by
  refine OPP.of fun M hG T zs nc bs gl gc es f dr ws dp hC hR pv => ?_
  obtain ⟨M1, S, R, h1, g1, c1, q1, s1⟩ := Lc_commonOf hG hC pv i j w
  obtain ⟨M2, A, h2, g2, c2, q2, s2⟩ := Lm_commonOf g1 (hR.lo q1 fun a k g => (s1 a k g).2) pv i j w
  exact ⟨_, M1, M2, S, R, A, _, _, _, _, _, _, _, _, _, _, _, ⟨h1, h2⟩, ⟨g1, g2⟩, ⟨q1, s1⟩, ⟨q2, s2⟩, c1, fun _ => c2, pv⟩
theorem OPP_step (i k : Int) : OPP L xs (fun M => D_step 2 i k M) (fun M => M_step 1269 i k M) := by
  refine OPP.of fun M hG T zs nc bs gl gc es f dr ws dp hC hR pv => ?_
  obtain ⟨M1, S, R, h1, g1, c1, q1, s1⟩ := Lc_step hG hC pv i k
  obtain ⟨M2, A, h2, g2, c2, q2, s2⟩ := Lm_step g1 (hR.lo q1 fun a k g => (s1 a k g).2) pv i k
  exact ⟨_, M1, M2, S, R, A, _, _, _, _, _, _, _, _, _, _, _, ⟨h1, h2⟩, ⟨g1, g2⟩, ⟨q1, s1⟩, ⟨q2, s2⟩, c1, fun _ => c2, ⟨pv.1, ⟨pv.2.1.1, pv.2.1.2.1, stE_ok pv.1.1 pv.2.1.1 pv.2.1.2.2 i k⟩, pv.2.2⟩⟩
theorem OPP_write (i : Int) : OPP L xs (fun M => D_write 2 i M) (fun M => M_write 1269 i M) := by
  refine OPP.of fun M hG T zs nc bs gl gc es f dr ws dp hC hR pv => ?_
  obtain ⟨M1, S, R, h1, g1, c1, q1, s1⟩ := Lc_write hG hC pv i
  obtain ⟨M2, A, h2, g2, c2, q2, s2⟩ := Lm_write g1 (hR.lo q1 fun a k g => (s1 a k g).2) pv i
  exact ⟨_, M1, M2, S, R, A, _, _, _, _, _, _, _, _, _, _, _, ⟨h1, h2⟩, ⟨g1, g2⟩, ⟨q1, s1⟩, ⟨q2, s2⟩, c1, fun _ => c2, pv⟩
theorem OPP_text (w : Int) : OPP L xs (fun M => D_text 2 w M) (fun M => M_text 1269 w M) := by
  refine OPP.of fun M hG T zs nc bs gl gc es f dr ws dp hC hR pv => ?_
  obtain ⟨M1, S, R, h1, g1, c1, q1, s1⟩ := Lc_text hG hC pv w
  obtain ⟨M2, A, h2, g2, c2, q2, s2⟩ := Lm_text g1 (hR.lo q1 fun a k g => (s1 a k g).2) pv (fun hd => (hC.2 hd).2) w
  exact ⟨_, M1, M2, S, R, A, _, _, _, _, _, _, _, _, _, _, _, ⟨h1, h2⟩, ⟨g1, g2⟩, ⟨q1, s1⟩, ⟨q2, s2⟩, c1, fun _ => c2, pv⟩
theorem OPP_program  : OPP L xs (fun M => D_program 2 M) (fun M => M_program 1269 M) := by
  refine OPP.of fun M hG T zs nc bs gl gc es f dr ws dp hC hR pv => ?_
  obtain ⟨M1, h1, g1, c1, q1⟩ := Lc_program hG hC pv
  have s1 : ∀ a k, progS a k → 2 ≤ a ∧ a < 1269 := fun a k g => by unfold progS tlS at g; omega
  obtain ⟨M2, h2, g2, c2, q2⟩ := Lm_program g1 (hR.lo q1 fun a k g => (s1 a k g).2) pv
  have s2 : ∀ a k, mp1 a k → 1269 ≤ a := fun a k g => by unfold mp1 mp0 mbS mcS at g; omega
  cases hx : rpg T 41 [] 0 with
  | error e =>
    rw [hx] at c1 c2
    rw [hx] at h1 h2
    exact ⟨_, M1, M2, _, _, _, _, _, _, _, _, _, _, _, _, _, _, ⟨h1, h2⟩, ⟨g1, g2⟩, ⟨q1, s1⟩, ⟨q2, s2⟩, c1, fun _ => c2, pv⟩
  | ok ys =>
    rw [hx] at c1 c2
    rw [hx] at h1 h2
    obtain ⟨k1, c1⟩ := c1
    obtain ⟨⟨k2, k3⟩, c2⟩ := c2
    have k4 : zsk 100 ys := fun z hz => (k2 z hz).le (by decide)
    exact ⟨_, M1, M2, _, _, _, _, _, _, _, _, _, _, _, _, _, _, ⟨h1, h2⟩, ⟨g1, g2⟩, ⟨q1, s1⟩, ⟨q2, s2⟩, c1, fun _ => c2, ⟨⟨k4, k1, k3⟩, pv.2.1, Or.inl rfl⟩⟩
theorem OPP_goal  : OPP L xs (fun M => D_goal 2 M) (fun M => M_goal 1269 M) := by
  refine OPP.of fun M hG T zs nc bs gl gc es f dr ws dp hC hR pv => ?_
  obtain ⟨M1, h1, g1, c1, q1⟩ := Lc_goal hG hC pv
  have s1 : ∀ a k, goalS a k → 2 ≤ a ∧ a < 1269 := fun a k g => by unfold goalS tlS at g; omega
  obtain ⟨M2, h2, g2, c2, q2⟩ := Lm_goal g1 (hR.lo q1 fun a k g => (s1 a k g).2) pv
  have s2 : ∀ a k, mg1 a k → 1269 ≤ a := fun a k g => by unfold mg1 mp0 mbS mcS at g; omega
  cases hx : whl T with
  | error e =>
    rw [hx] at c1 c2
    rw [hx] at h1 h2
    exact ⟨_, M1, M2, _, _, _, _, _, _, _, _, _, _, _, _, _, _, ⟨h1, h2⟩, ⟨g1, g2⟩, ⟨q1, s1⟩, ⟨q2, s2⟩, c1, fun _ => c2, pv⟩
  | ok ys =>
    rw [hx] at c1 c2
    rw [hx] at h1 h2
    have k := whl_xok hx
    exact ⟨_, M1, M2, _, _, _, _, _, _, _, _, _, _, _, _, _, _, ⟨h1, h2⟩, ⟨g1, g2⟩, ⟨q1, s1⟩, ⟨q2, s2⟩, c1, fun _ => c2, ⟨pv.1, ⟨pv.2.1.1, ⟨⟨k.1.1, k.1.2.1, by have := k.1.2.2; omega⟩, k.2⟩, pv.2.1.2.2⟩, Or.inl rfl⟩⟩
theorem OPP_expr0 {i : Nat} (hi : i < 4) : OPP L xs (fun M => D_expression 2 (i : Int) M) (fun M => M_expression 1269 (i : Int) M) := by
  refine OPP.of fun M hG T zs nc bs gl gc es f dr ws dp hC hR pv => ?_
  obtain ⟨M1, h1, g1, c1, q1⟩ := Lc_expression hG hC pv hi
  have s1 : ∀ a k, exprS a k → 2 ≤ a ∧ a < 1269 := fun a k g => by unfold exprS tlS at g; omega
  obtain ⟨M2, h2, g2, c2, q2⟩ := Lm_expression g1 (hR.lo q1 fun a k g => (s1 a k g).2) pv hi
  have s2 : ∀ a k, mx1 a k → 1269 ≤ a := fun a k g => by unfold mx1 mp0 mbS mcS at g; omega
  cases hx : whl T with
  | error e =>
    rw [hx] at c1 c2
    rw [hx] at h1 h2
    exact ⟨_, M1, M2, _, _, _, _, _, _, _, _, _, _, _, _, _, _, ⟨h1, h2⟩, ⟨g1, g2⟩, ⟨q1, s1⟩, ⟨q2, s2⟩, c1, fun _ => c2, pv⟩
  | ok ys =>
    rw [hx] at c1 c2
    rw [hx] at h1 h2
    have k := whl_xok hx
    exact ⟨_, M1, M2, _, _, _, _, _, _, _, _, _, _, _, _, _, _, ⟨h1, h2⟩, ⟨g1, g2⟩, ⟨q1, s1⟩, ⟨q2, s2⟩, c1, fun _ => c2, ⟨pv.1, ⟨pv.2.1.1, pv.2.1.2.1, setX_ok pv.2.1.2.2 k⟩, pv.2.2⟩⟩
theorem OPP_bind  : OPP L xs (fun M => D_bind 2 M) (fun M => M_bind 1269 M) := by
  refine OPP.of fun M hG T zs nc bs gl gc es f dr ws dp hC hR pv => ?_
  obtain ⟨M1, h1, g1, c1, q1⟩ := Lc_bind hG hC pv
  have s1 : ∀ a k, bindS a k → 2 ≤ a ∧ a < 1269 := fun a k g => by unfold bindS tlS at g; omega
  obtain ⟨M2, h2, g2, c2, q2⟩ := Lm_bind g1 (hR.lo q1 fun a k g => (s1 a k g).2) pv
  have s2 : ∀ a k, md1 a k → 1269 ≤ a := fun a k g => by unfold md1 md0 mdS at g; omega
  cases hx : rbb T with
  | error e =>
    rw [hx] at c1 c2
    rw [hx] at h1 h2
    exact ⟨_, M1, M2, _, _, _, _, _, _, _, _, _, _, _, _, _, _, ⟨h1, h2⟩, ⟨g1, g2⟩, ⟨q1, s1⟩, ⟨q2, s2⟩, c1, fun _ => c2, pv⟩
  | ok ys =>
    rw [hx] at c1 c2
    rw [hx] at h1 h2
    obtain ⟨k1, c2⟩ := c2
    exact ⟨_, M1, M2, _, _, _, _, _, _, _, _, _, _, _, _, _, _, ⟨h1, h2⟩, ⟨g1, g2⟩, ⟨q1, s1⟩, ⟨q2, s2⟩, c1, fun _ => c2, ⟨pv.1, ⟨k1, pv.2.1.2⟩, pv.2.2⟩⟩
theorem OPP_is (w : Int) : OPP L xs (fun M => D_is 2 w M) (fun M => M_is 1269 w M) := by
  refine OPP.of fun M hG T zs nc bs gl gc es f dr ws dp hC hR pv => ?_
  have h1 := D_is_s hG hC.1.1.1 hC.1.1.2.1 hC.1.1.2.2.1 hC.1.1.2.2.2 pv.2.1.2.1.1.2.1 w
  obtain ⟨M2, A, h2, g2, c2, q2, s2⟩ := Lm_is hG hR pv w
  exact ⟨_, M, M2, noS, nor, A, _, _, _, _, _, _, _, _, _, _, _, ⟨h1, h2⟩, ⟨hG, g2⟩, ⟨noS_fq, fun a k g => absurd g id⟩, ⟨q2, s2⟩, hC, fun _ => c2, pv⟩
theorem OPP_of (i w : Int) : OPP L xs (fun M => D_of 2 i w M) (fun M => M_of 1269 i w M) := by
  refine OPP.of fun M hG T zs nc bs gl gc es f dr ws dp hC hR pv => ?_
  have h1 := D_of_s hG hC.1.1.2.2.2 pv.2.1.2.2 i w
  obtain ⟨M2, A, h2, g2, c2, q2, s2⟩ := Lm_of hG hR pv i w
  exact ⟨_, M, M2, noS, nor, A, _, _, _, _, _, _, _, _, _, _, _, ⟨h1, h2⟩, ⟨hG, g2⟩, ⟨noS_fq, fun a k g => absurd g id⟩, ⟨q2, s2⟩, hC, fun _ => c2, pv⟩
theorem OPP_fault  : OPP L xs (fun M => D_fault 2 M) (fun M => M_fault 1269 M) := by
  refine OPP.of fun M hG T zs nc bs gl gc es f dr ws dp hC hR pv => ?_
  have h1 := D_fault_s hG hC.1.2.1.2.1
  have h2 := M_fault_s hG hR.1.2.2.1.1
  exact ⟨_, M, M, noS, nor, noS, _, _, _, _, _, _, _, _, _, _, _, ⟨h1, h2⟩, ⟨hG, hG⟩, ⟨noS_fq, fun a k g => absurd g id⟩, ⟨Fj.refl, fun a k g => absurd g id⟩, hC, fun _ => hR, pv⟩
theorem OPP_clause (k w : Int) : OPP L xs (fun M => D_clause 2 k w M) (fun M => M_clause 1269 k w M) := by
  refine OPP.of fun M hG T zs nc bs gl gc es f dr ws dp hC hR pv => ?_
  have h1 := D_clause_s hG hC.1.1.2.1 pv.1.1 k w
  have h2 := M_clause_s hG hR.1.1.2.1 pv.1.2.2 pv.1.1 k w
  exact ⟨_, M, M, noS, nor, noS, _, _, _, _, _, _, _, _, _, _, _, ⟨h1, h2⟩, ⟨hG, hG⟩, ⟨noS_fq, fun a k g => absurd g id⟩, ⟨Fj.refl, fun a k g => absurd g id⟩, hC, fun _ => hR, pv⟩
theorem OPP_octet (i : Int) : OPP L xs (fun M => D_octet 2 i M) (fun M => M_octet 1269 i M) := by
  refine OPP.of fun M hG T zs nc bs gl gc es f dr ws dp hC hR pv => ?_
  have h1 := D_octet_s hG hC.1.2.1.2.2 i
  have h2 := M_octet_s hG hR.1.2.2.1.2 i
  exact ⟨_, M, M, noS, nor, noS, _, _, _, _, _, _, _, _, _, _, _, ⟨h1, h2⟩, ⟨hG, hG⟩, ⟨noS_fq, fun a k g => absurd g id⟩, ⟨Fj.refl, fun a k g => absurd g id⟩, hC, fun _ => hR, pv⟩
theorem OPP_deepest  : OPP L xs (fun M => D_deepest 2 M) (fun M => M_deepest 1269 M) := by
  refine OPP.of fun M hG T zs nc bs gl gc es f dr ws dp hC hR pv => ?_
  have h1 := (D_deepest_s hG).trans (by rw [hC.1.2.2.2])
  have h2 := (M_deepest_s hG).trans (by rw [hR.1.2.2.2])
  exact ⟨_, M, M, noS, nor, noS, _, _, _, _, _, _, _, _, _, _, _, ⟨h1, h2⟩, ⟨hG, hG⟩, ⟨noS_fq, fun a k g => absurd g id⟩, ⟨Fj.refl, fun a k g => absurd g id⟩, hC, fun _ => hR, pv⟩
theorem OPP_run (w v : Int) : OPP L xs (fun M => D_run 2 w v M) (fun M => M_run 1269 w v M) := by
  refine OPP.of fun M hG T zs nc bs gl gc es f dr ws dp hC hR pv => ?_
  have hc := Lc_run hG hC pv w v
  by_cases q : rGo w dr ∧ 0 ≤ v ∧ v ≤ 3
  · obtain ⟨M1, S, R, h1, g1, c1, q1, s1⟩ := hc.1 q
    obtain ⟨M2, A, h2, g2, c2, q2, s2⟩ := (Lm_run g1 (hR.lo q1 fun a k g => (s1 a k g).2) pv (fun hd => (hC.2 hd).2) w v).1 q
    exact ⟨_, M1, M2, S, R, A, _, _, _, _, _, _, _, _, _, _, _, ⟨h1, h2⟩, ⟨g1, g2⟩, ⟨q1, s1⟩, ⟨q2, s2⟩, c1, fun _ => c2, pv⟩
  · have h1 := hc.2 q
    have h2 := (Lm_run hG hR pv (fun hd => (hC.2 hd).2) w v).2 q
    exact ⟨_, M, M, noS, nor, noS, _, _, _, _, _, _, _, _, _, _, _, ⟨h1, h2⟩, ⟨hG, hG⟩, ⟨noS_fq, fun a k g => absurd g id⟩, ⟨Fj.refl, fun a k g => absurd g id⟩, hC, fun _ => hR, pv⟩
theorem OPP_result (w : Int) : OPP L xs (fun M => D_result 2 w M) (fun M => M_result 1269 w M) := by
  refine OPP.of fun M hG T zs nc bs gl gc es f dr ws dp hC hR pv => ?_
  have hc := Lc_result hG hC pv w
  by_cases q : rGo w dr
  · obtain ⟨M1, S, R, h1, g1, c1, q1, s1⟩ := hc.1 q
    obtain ⟨M2, A, h2, g2, c2, q2, s2⟩ := (Lm_result g1 (hR.lo q1 fun a k g => (s1 a k g).2) pv (fun hd => (hC.2 hd).2) w).1 q
    exact ⟨_, M1, M2, S, R, A, _, _, _, _, _, _, _, _, _, _, _, ⟨h1, h2⟩, ⟨g1, g2⟩, ⟨q1, s1⟩, ⟨q2, s2⟩, c1, fun _ => c2, pv⟩
  · have h1 := hc.2 q
    have h2 := (Lm_result hG hR pv (fun hd => (hC.2 hd).2) w).2 q
    exact ⟨_, M, M, noS, nor, noS, _, _, _, _, _, _, _, _, _, _, _, ⟨h1, h2⟩, ⟨hG, hG⟩, ⟨noS_fq, fun a k g => absurd g id⟩, ⟨Fj.refl, fun a k g => absurd g id⟩, hC, fun _ => hR, pv⟩
theorem OPP_runOf (i v : Int) : OPP L xs (fun M => D_runOf 2 i v M) (fun M => M_runOf 1269 i v M) := by
  refine OPP.of fun M hG T zs nc bs gl gc es f dr ws dp hC hR pv => ?_
  have hc := Lc_runOf hG hC pv i v
  by_cases q : isY i ∧ 0 ≤ v ∧ v ≤ 3
  · obtain ⟨M1, S, R, h1, g1, c1, q1, s1⟩ := hc.1 q
    obtain ⟨M2, A, h2, g2, c2, q2, s2⟩ := (Lm_runOf g1 (hR.lo q1 fun a k g => (s1 a k g).2) pv i v).1 q
    exact ⟨_, M1, M2, S, R, A, _, _, _, _, _, _, _, _, _, _, _, ⟨h1, h2⟩, ⟨g1, g2⟩, ⟨q1, s1⟩, ⟨q2, s2⟩, c1, fun _ => c2, pv⟩
  · have h1 := hc.2 q
    have h2 := (Lm_runOf hG hR pv i v).2 q
    exact ⟨_, M, M, noS, nor, noS, _, _, _, _, _, _, _, _, _, _, _, ⟨h1, h2⟩, ⟨hG, hG⟩, ⟨noS_fq, fun a k g => absurd g id⟩, ⟨Fj.refl, fun a k g => absurd g id⟩, hC, fun _ => hR, pv⟩
theorem OPP_saved  : OPP L xs (fun M => D_saved 2 M) (fun M => M_saved 1269 M) := by
  refine OPP.of fun M hG T zs nc bs gl gc es f dr ws dp hC hR pv => ?_
  have hc := Lc_saved hG hC pv
  by_cases q : dr ≠ 0
  · obtain ⟨M1, S, R, h1, g1, c1, q1, s1⟩ := hc.1 q
    obtain ⟨M2, A, h2, g2, c2, q2, s2⟩ := (Lm_saved g1 (hR.lo q1 fun a k g => (s1 a k g).2) pv (fun hd => (hC.2 hd).2)).1 q
    exact ⟨_, M1, M2, S, R, A, _, _, _, _, _, _, _, _, _, _, _, ⟨h1, h2⟩, ⟨g1, g2⟩, ⟨q1, s1⟩, ⟨q2, s2⟩, c1, fun _ => c2, pv⟩
  · have h1 := hc.2 (Classical.byContradiction q)
    have h2 := (Lm_saved hG hR pv (fun hd => (hC.2 hd).2)).2 (Classical.byContradiction q)
    exact ⟨_, M, M, noS, nor, noS, _, _, _, _, _, _, _, _, _, _, _, ⟨h1, h2⟩, ⟨hG, hG⟩, ⟨noS_fq, fun a k g => absurd g id⟩, ⟨Fj.refl, fun a k g => absurd g id⟩, hC, fun _ => hR, pv⟩
theorem OPP_drive  : OPP L xs (fun M => D_drive 2 M) (fun M => M_drive 1269 M) := by
  refine OPP.of fun M hG T zs nc bs gl gc es f dr ws dp hC hR pv => ?_
  obtain ⟨M1, h1, g1, c1, c1n, q1⟩ := Lc_drive hG hC pv
  have s1 : ∀ a k, ddS a k → 2 ≤ a ∧ a < 1269 := fun a k g => by unfold ddS dvS at g; omega
  obtain ⟨M2, h2, g2, c2, c2n, q2⟩ := Lm_drive g1 (hR.lo q1 fun a k g => (s1 a k g).2) pv
  have s2 : ∀ a k, mvS a k → 1269 ≤ a := fun a k g => by unfold mvS dkS dtS nbS lrS ncS rvS at g; omega
  by_cases hi : isd zs gl
  · exact ⟨_, M1, M2, _, _, _, _, _, _, _, _, _, _, _, _, _, _, ⟨h1, h2⟩, ⟨g1, g2⟩, ⟨q1, s1⟩, ⟨q2, s2⟩, c1 hi, fun _ => c2 hi, pv.drive.1 hi⟩
  · exact ⟨_, M1, M2, _, _, _, _, _, _, _, _, _, _, _, _, _, _, ⟨h1, h2⟩, ⟨g1, g2⟩, ⟨q1, s1⟩, ⟨q2, s2⟩, c1n hi, fun _ => c2n hi, pv.drive.2⟩
theorem OPP_take  : OPP L xs (fun M => D_take 2 M) (fun M => M_take 1269 M) := by
  refine OPP.of fun M hG T zs nc bs gl gc es f dr ws dp hC hR pv => ?_
  rcases pv.2.2 with hd | ⟨hd, -⟩
  · have h1 := D_take_0 hG (hC.1.2.1.2.1.2.trans hd)
    have h2 := M_take_0 hG (hR.1.2.2.1.1.2.trans hd)
    exact ⟨_, M, M, noS, nor, noS, _, _, _, _, _, _, _, _, _, _, _, ⟨h1, h2⟩, ⟨hG, hG⟩, ⟨noS_fq, fun a k g => absurd g id⟩, ⟨Fj.refl, fun a k g => absurd g id⟩, hC, fun _ => hR, pv⟩
  · obtain ⟨M1, h1, g1, c1, q1⟩ := Lc_take hG hC hd
    have s1 : ∀ a k, tcS a k → 2 ≤ a ∧ a < 1269 := fun a k g => by unfold tcS at g; omega
    obtain ⟨M2, h2, g2, c2, q2⟩ := Lm_take g1 (hR.lo q1 fun a k g => (s1 a k g).2) pv hd
    have s2 : ∀ a k, tkS a k → 1269 ≤ a := fun a k g => by unfold tkS at g; omega
    obtain ⟨-, e1, e2⟩ := hC.2 (by omega)
    rw [e1] at h1 c1
    rw [e2] at c1
    exact ⟨_, M1, M2, _, _, _, _, _, _, _, _, _, _, _, _, _, _, ⟨h1, h2⟩, ⟨g1, g2⟩, ⟨q1, s1⟩, ⟨q2, s2⟩, c1, fun _ => c2, pv.take hd⟩
end LAWO

/-! ===== the reference: the next node, the first new one ===== -/
def hdi : List Nat → Int
  | [] => -1
  | x :: _ => (x : Int)
theorem wlk_hd {F : FT} {x : Nat} {R : List Nat} (h : wlk F (x :: R) (-1)) : nxn F x = hdi R ∧ wlk F R (-1) := by
  cases R with
  | nil => exact ⟨h, trivial⟩
  | cons y l => exact h
section RNEXT
variable {M : Mem} {T : TS}
theorem M_climb_s (hG : Good M) (hT : TI T.2.1 T.2.2) (hR : RT M T) (d1 : LV) : ∀ (n p : Nat), p ∈ lnF T.2.1 → p < n → M_nextNode_18 1269 (p : Int) d1 M = some (some (.inl (clb T.2.1 n p)), M) := by
  have hm := hT.1.2.2
  intro n
  induction n with
  | zero => intro p _ h; omega
  | succ n ih =>
    intro p hp h
    have hpm := hT.1.2.1 p hp
    obtain ⟨-, ⟨r3, r4⟩, -, -⟩ := hR.2 p hp
    have gs : ∀ b, 1310 ≤ b ∧ b ≤ 1317 → ∀ q : Nat, q < 120 → gS M b 0 (q : Int) = true := fun b hb q hq => hG.tgS (arr_nd hb) (by omega) (by omega)
    by_cases p0 : p = 0
    · subst p0
      have u0 := hT.2.2.1.1
      have c : clb T.2.1 (n + 1) 0 = -1 := if_pos u0
      have r3 : mI M 1311 0 = -1 := r3.trans u0
      have g0 : gS M 1311 0 ((0 : Nat) : Int) = true := gs 1311 (by decide) 0 (by decide)
      rw [c, M_nextNode_18_eq, hG.gM, gd_t, hG.m65, g0, gd_t, toNat_n, r3, if_pos rfl, M_nextNode_60_eq, hG.gM, gd_t, hG.m65, g0, gd_t, toNat_n, r3, if_pos rfl]
    · obtain ⟨q, j, q1, q2, q3, q4, q5, q6⟩ := hT.ndx hp p0
      have hqm := hT.1.2.1 q q1
      obtain ⟨-, -, ⟨s5, s6⟩, -⟩ := hR.2 q q1
      have hq0 := (hT.2.1 q q1).1
      have hn : nkc T.2.1 q = (T.2.1 q 8).toNat := rfl
      have hf : nfk T.2.1 q = (T.2.1 q 16).toNat := rfl
      have hlt := (hT.2.1 q q1).2.1 (by omega)
      have s6 := s6 (by omega)
      have r3 : mI M 1311 p = (q : Int) := r3.trans q4
      have r4 : mI M 1312 p = (j : Int) := r4.trans q5
      have c : clb T.2.1 (n + 1) p = if (j : Int) + 1 = T.2.1 q 8 then clb T.2.1 n q else T.2.1 q 16 + (j : Int) + 1 := by
        show (if T.2.1 p 15 = -1 then (-1 : Int) else if T.2.1 p 5 + 1 = T.2.1 (T.2.1 p 15).toNat 8 then clb T.2.1 n (T.2.1 p 15).toNat else T.2.1 (T.2.1 p 15).toNat 16 + T.2.1 p 5 + 1) = _
        rw [q4, q5, toNat_n, if_neg (by omega)]
      have gp1 := gs 1311 (by decide) p (by omega)
      have gp2 := gs 1312 (by decide) p (by omega)
      have gq3 := gs 1313 (by decide) q (by omega)
      have gq4 := gs 1314 (by decide) q (by omega)
      rw [c, M_nextNode_18_eq, hG.gM, gd_t, hG.m65, gp1, gd_t, toNat_n, r3, if_neg (by omega), gd_t, hG.m66, gp2, gd_t, gd_t, gd_t, gd_t, hG.m67, gq3, gd_t, toNat_n, r4, s5, wr_s (by omega)]
      by_cases z : (j : Int) + 1 = T.2.1 q 8
      · rw [if_pos z, if_pos (by omega), gd_t, gd_t]
        exact ih q q1 (by omega)
      · rw [if_neg z, if_neg (by omega), M_nextNode_60_eq, hG.gM, gd_t, hG.m65, gp1, gd_t, toNat_n, r3, if_neg (by omega), gd_t, gd_t, gd_t, hG.m68, gq4, gd_t, gd_t, hG.m66, gp2, gd_t, toNat_n, s6, r4, wr_id (x := T.2.1 q 16 + (j : Int)) (by omega) (by omega), wr_id (x := T.2.1 q 16 + (j : Int) + 1) (by omega) (by omega)]
theorem M_nextNode_s (hG : Good M) (hT : TI T.2.1 T.2.2) (hR : RT M T) {x : Nat} (hx : x ∈ lnF T.2.1) : M_nextNode 1269 (x : Int) M = some (some (.inl (nxn T.2.1 x)), M) := by
  have hm := hT.1.2.2
  have hxm := hT.1.2.1 x hx
  obtain ⟨-, -, ⟨s5, s6⟩, -⟩ := hR.2 x hx
  have h0 := (hT.2.1 x hx).1
  have g3 : gS M 1313 0 (x : Int) = true := hG.tgS (arr_nd (by decide)) (by omega) (by omega)
  have g4 : gS M 1314 0 (x : Int) = true := hG.tgS (arr_nd (by decide)) (by omega) (by omega)
  rw [M_nextNode_eq, hG.gM, gd_t, hG.m67, g3, gd_t, toNat_n, s5]
  unfold nxn
  by_cases q : 0 < T.2.1 x 8
  · rw [if_pos q, if_pos q, gd_t, hG.m68, g4, gd_t, s6 (by omega)]
  · rw [if_neg q, if_neg q]
    exact M_climb_s hG hT hR _ 121 x hx (by omega)
theorem M_firstNew_loop (hG : Good M) (hT : TI T.2.1 T.2.2) (hR : RT M T) {N : List Nat} (hN : ∀ x ∈ N, T.2.1 x 4 = -1 ∧ x ∈ lnF T.2.1) : ∀ A : List Nat, wlk T.2.1 (A ++ N) (-1) → (∀ x ∈ A, ¬ T.2.1 x 4 = -1 ∧ x ∈ lnF T.2.1) → M_firstNew_2 1269 (hdi (A ++ N)) M = some (some (.inl (hdi N)), M) := by
  have hm := hT.1.2.2
  have g5 : ∀ x, x ∈ lnF T.2.1 → gS M 1315 0 (x : Int) = true := fun x hx => by
    have := hT.1.2.1 x hx
    exact hG.tgS (arr_nd (by decide)) (by omega) (by omega)
  intro A
  induction A with
  | nil =>
    intro hw _
    cases N with
    | nil => rw [M_firstNew_2_eq]; exact if_pos rfl
    | cons y R =>
      obtain ⟨h1, h2⟩ := hN y (by simp)
      have r7 : mI M 1315 y = -1 := (hR.2 y h2).2.2.2.1.trans h1
      show M_firstNew_2 1269 (y : Int) M = some (some (.inl (y : Int)), M)
      rw [M_firstNew_2_eq, if_neg (by omega), hG.gM, gd_t, hG.m69, g5 y h2, gd_t, toNat_n, r7, if_pos rfl]
  | cons x A ih =>
    intro hw hA
    obtain ⟨h1, h2⟩ := hA x (by simp)
    obtain ⟨w1, w2⟩ := wlk_hd hw
    have r7 : mI M 1315 x = T.2.1 x 4 := (hR.2 x h2).2.2.2.1
    show M_firstNew_2 1269 (x : Int) M = _
    rw [M_firstNew_2_eq, if_neg (by omega), hG.gM, gd_t, hG.m69, g5 x h2, gd_t, toNat_n, r7, if_neg h1, gd_t, M_nextNode_s hG hT hR h2, cI_s, w1]
    exact ih w2 fun y hy => hA y (List.mem_cons_of_mem _ hy)
theorem M_firstNew_s {zs : List Clz} {L1 N : List Nat} (hG : Good M) (hT : TI T.2.1 T.2.2) (hR : RT M T) (hL : LKD zs T L1 N) : M_firstNew 1269 M = some (some (.inl (hdi N)), M) := by
  obtain ⟨l1, l2, l3⟩ := hL
  have hw := hT.walk
  rw [l1] at hw
  have := M_firstNew_loop hG hT hR (N := N) (fun x hx => ⟨(l3 x hx).1.1, by rw [l1]; simp [hx]⟩) L1 hw fun x hx => ⟨by have := (l2 x hx).k.1; omega, by rw [l1]; simp [hx]⟩
  have h0 : hdi (L1 ++ N) = 0 := by
    rw [← l1]
    obtain ⟨r, hr⟩ := pre_head T.2.1 120 0
    show hdi (pre T.2.1 120 0) = 0
    rw [hr]; rfl
  rw [h0] at this
  rw [M_firstNew_eq]
  exact this
end RNEXT

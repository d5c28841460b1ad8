/-! ===== the class: what a tree is asked ===== -/
def ctk (F : FT) (k : Int) : List Nat → Nat → Nat
  | [], c => c
  | x :: R, c => if F x 4 = k then ctk F k R (c + 1) else ctk F k R c
def mea (X : Nat → List Int) (F : FT) (w : Int) (x : Nat) : Int := if w = 0 then ((X x).length : Int) else if w = 1 then F x 6 else ((ord (X x)).length : Int)
def grt (X : Nat → List Int) (F : FT) (w : Int) : List Nat → Int → Int
  | [], m => m
  | x :: R, m => grt X F w R (if m < mea X F w x then mea X F w x else m)
def rkc (X : Nat → List Int) (F : FT) (w own : Int) (k : Nat) : List Nat → Nat → Nat → Nat
  | [], _, c => c
  | x :: R, i, c => rkc X F w own k R (i + 1) (if own < mea X F w x ∨ (mea X F w x = own ∧ i < k) then c + 1 else c)
def nrk (X : Nat → List Int) (F : FT) (w place : Int) (L : List Nat) : List Nat → Nat → Int
  | [], _ => -1
  | x :: R, k => if (rkc X F w (mea X F w x) k L 0 0 : Int) = place then (k : Int) else nrk X F w place L R (k + 1)
theorem ite_out {c : Prop} [Decidable c] {a b : Int} {M : Mem} : (if c then some (some (Sum.inl a), M) else some (some (Sum.inl b), M) : Option (LV × Mem)) = some (some (Sum.inl (if c then a else b)), M) := by
  by_cases h : c
  · rw [if_pos h, if_pos h]
  · rw [if_neg h, if_neg h]
section QUERY
variable {M : Mem} {X : Nat → List Int} {F : FT} {mk : Nat}
theorem node_at (hG : Good M) (hT : TI F mk) (hR : TRc M X F mk) {A B : List Nat} {x : Nat} (hL : lnF F = A ++ x :: B) : (A.length < (lnF F).length ∧ (lnF F).length ≤ 120 ∧ x < 120) ∧ mI M 27 8 = ((lnF F).length : Int) ∧ (gS M 29 3 (A.length : Int) || (gS M 29 4 (A.length : Int) || gS M 29 5 (A.length : Int))) = true ∧ mR M 29 A.length = 30 + 6 * x := by
  have hlen := hT.len
  have hm := hT.1.2.2
  have hll : (lnF F).length = A.length + (B.length + 1) := by rw [hL]; simp
  have hxm := hT.1.2.1 x (by rw [hL]; simp)
  exact ⟨⟨by omega, by omega, by omega⟩, hR.1.1.1, hG.a29 (by omega), hR.1.1.2 A.length x (by rw [hL]; simp)⟩
theorem line_end (hG : Good M) (hR : TRc M X F mk) {A : List Nat} (hL : lnF F = A ++ []) : mI M 27 8 = (A.length : Int) := by
  have := hR.1.1.1
  rw [hL, List.append_nil] at this
  exact this
theorem Tr_count_loop (hG : Good M) (hT : TI F mk) (hR : TRc M X F mk) {k : Int} (hk : ∀ x ∈ lnF F, 0 ≤ F x 4) : ∀ (B A : List Nat) (c : Nat), lnF F = A ++ B → c ≤ A.length → Tr_countKind_4 27 k (c : Int) (A.length : Int) M = some (some (.inl (ctk F k B c : Int)), M) := by
  intro B
  induction B with
  | nil =>
    intro A c hL hc
    rw [Tr_countKind_4_eq, hG.gT, gd_t, line_end hG hR hL, if_neg (by omega)]
    rfl
  | cons x B ih =>
    intro A c hL hc
    obtain ⟨⟨n1, n2, n3⟩, n4, n5, n6⟩ := node_at hG hT hR hL
    have i4 : mI M (30 + 6 * x) 4 = F x 4 := by
      have h := hk x (by rw [hL]; simp)
      rw [(hR.2.1 x (by rw [hL]; simp)).2.1.2, if_neg (by omega)]
    have hl1 : (A ++ [x]).length = A.length + 1 := by simp
    have h2 : lnF F = (A ++ [x]) ++ B := by rw [hL]; simp
    rw [Tr_countKind_4_eq, hG.gT, gd_t, n4, if_pos (by omega), gd_t, hG.r27_3, n5, gd_t, toNat_n, n6, hG.nd n3, gd_t, i4]
    unfold ctk
    by_cases q : F x 4 = k
    · have := ih (A ++ [x]) (c + 1) h2 (by omega)
      rw [hl1] at this
      rw [if_pos q, if_pos q, wr_s (by omega), wr_s (by omega), this]
    · have := ih (A ++ [x]) c h2 (by omega)
      rw [hl1] at this
      rw [if_neg q, if_neg q, wr_s (by omega), this]
theorem No_measure_s (hG : Good M) (hR : TRc M X F mk) (hT : TI F mk) {x : Nat} (hx : x ∈ lnF F) (w : Int) : No_measure (30 + 6 * x) w M = some (some (.inl (mea X F w x)), M) := by
  have hxm := hT.1.2.1 x hx
  have hm := hT.1.2.2
  obtain ⟨⟨p1, p2, p3⟩, ⟨p4, -⟩, -⟩ := hR.2.1 x hx
  rw [No_measure_eq, hG.nd (by omega), gd_t, (hG.ndr (x := x) (by omega)).1, p1.g hG, gd_t, gd_t, p1.s, p3, p4 6 (by unfold nf; omega)]
  unfold mea
  by_cases q0 : w = 0
  · rw [if_pos q0, if_pos q0]
  · rw [if_neg q0, if_neg q0]
    by_cases q1 : w = 1
    · rw [if_pos q1, if_pos q1]
    · rw [if_neg q1, if_neg q1, gd_t]
theorem Tr_greatest_loop (hG : Good M) (hT : TI F mk) (hR : TRc M X F mk) {w : Int} : ∀ (B A : List Nat) (m : Int), lnF F = A ++ B → Tr_greatest_4 27 w m (A.length : Int) M = some (some (.inl (grt X F w B m)), M) := by
  intro B
  induction B with
  | nil =>
    intro A m hL
    rw [Tr_greatest_4_eq, hG.gT, gd_t, line_end hG hR hL, if_neg (by omega)]
    rfl
  | cons x B ih =>
    intro A m hL
    obtain ⟨⟨n1, n2, n3⟩, n4, n5, n6⟩ := node_at hG hT hR hL
    have hl1 : (A ++ [x]).length = A.length + 1 := by simp
    have := ih (A ++ [x]) (if m < mea X F w x then mea X F w x else m) (by rw [hL]; simp)
    rw [hl1] at this
    rw [Tr_greatest_4_eq, hG.gT, gd_t, n4, if_pos (by omega), gd_t, hG.r27_3, n5, gd_t, toNat_n, n6, hG.nd n3, gd_t, No_measure_s hG hR hT (by rw [hL]; simp), cI_s, wr_s (by omega), this]
    rfl
theorem Tr_rank_loop (hG : Good M) (hT : TI F mk) (hR : TRc M X F mk) {w own : Int} {k : Nat} : ∀ (B A : List Nat) (c : Nat) (d6 : LV), lnF F = A ++ B → c ≤ A.length → Tr_rankOf_17 27 (k : Int) w own (c : Int) (A.length : Int) d6 M = some (some (.inl (rkc X F w own k B A.length c : Int)), M) := by
  intro B
  induction B with
  | nil =>
    intro A c d6 hL hc
    rw [Tr_rankOf_17_eq, hG.gT, gd_t, line_end hG hR hL, if_neg (by omega)]
    rfl
  | cons x B ih =>
    intro A c d6 hL hc
    obtain ⟨⟨n1, n2, n3⟩, n4, n5, n6⟩ := node_at hG hT hR hL
    have hl1 : (A ++ [x]).length = A.length + 1 := by simp
    have h2 : lnF F = (A ++ [x]) ++ B := by rw [hL]; simp
    have up := ih (A ++ [x]) (c + 1) (some (.inl (mea X F w x))) h2 (by omega)
    have st := ih (A ++ [x]) c (some (.inl (mea X F w x))) h2 (by omega)
    rw [hl1] at up st
    rw [Tr_rankOf_17_eq, hG.gT, gd_t, n4, if_pos (by omega), gd_t, hG.r27_3, n5, gd_t, toNat_n, n6, hG.nd n3, gd_t, No_measure_s hG hR hT (by rw [hL]; simp), cI_s, wr_s (by omega), wr_s (by omega), up, st]
    have e : rkc X F w own k (x :: B) A.length c = rkc X F w own k B (A.length + 1) (if own < mea X F w x ∨ (mea X F w x = own ∧ A.length < k) then c + 1 else c) := rfl
    rw [e]
    by_cases q : own < mea X F w x
    · rw [if_pos q, if_pos (show own < mea X F w x ∨ (mea X F w x = own ∧ A.length < k) from Or.inl q)]
    · rw [if_neg q]
      by_cases q2 : mea X F w x = own
      · rw [if_pos q2]
        by_cases q3 : A.length < k
        · rw [if_pos (by omega), if_pos (show own < mea X F w x ∨ (mea X F w x = own ∧ A.length < k) from Or.inr ⟨q2, q3⟩)]
        · rw [if_neg (by omega), if_neg (show ¬ (own < mea X F w x ∨ (mea X F w x = own ∧ A.length < k)) from fun h => h.elim q fun h => q3 h.2)]
      · rw [if_neg q2, if_neg (show ¬ (own < mea X F w x ∨ (mea X F w x = own ∧ A.length < k)) from fun h => h.elim q fun h => q2 h.1)]
theorem Tr_atRank_loop (hG : Good M) (hT : TI F mk) (hR : TRc M X F mk) {w place : Int} : ∀ (B A : List Nat), lnF F = A ++ B → Tr_numberAtRank_2 27 place w (A.length : Int) M = some (some (.inl (nrk X F w place (lnF F) B A.length)), M) := by
  intro B
  induction B with
  | nil =>
    intro A hL
    rw [Tr_numberAtRank_2_eq, hG.gT, gd_t, line_end hG hR hL, if_neg (by omega)]
    rfl
  | cons x B ih =>
    intro A hL
    obtain ⟨⟨n1, n2, n3⟩, n4, n5, n6⟩ := node_at hG hT hR hL
    have hl1 : (A ++ [x]).length = A.length + 1 := by simp
    have nx := ih (A ++ [x]) (by rw [hL]; simp)
    rw [hl1] at nx
    have rl := Tr_rank_loop hG hT hR (w := w) (own := mea X F w x) (k := A.length) (lnF F) [] 0 none rfl (Nat.zero_le _)
    have rl : Tr_rankOf_17 27 (A.length : Int) w (mea X F w x) 0 0 none M = some (some (.inl (rkc X F w (mea X F w x) A.length (lnF F) 0 0 : Int)), M) := rl
    rw [Tr_numberAtRank_2_eq, hG.gT, gd_t, n4, if_pos (by omega), gd_t, Tr_rankOf_eq, hG.gT, gd_t, hG.r27_3, n5, gd_t, toNat_n, n6, hG.nd n3, gd_t, No_measure_s hG hR hT (by rw [hL]; simp), cI_s, rl, cI_s, wr_s (by omega), nx, ite_out]
    rfl
/-- tree -/
def trA (X : Nat → List Int) (F : FT) (lk tu fn np ng : Nat) (w : Int) : Int := if w = 0 then ((lnF F).length : Int) else if w = 1 then (lk : Int) else if w = 2 then (ctk F 4 (lnF F) 0 : Int) else if w = 3 then (ctk F 3 (lnF F) 0 : Int) else if w = 4 then (ctk F 5 (lnF F) 0 : Int) else if w = 5 then (tu : Int) else if w = 6 then grt X F 0 (lnF F) 0 else if w = 7 then grt X F 1 (lnF F) 0 else if w = 8 then (fn : Int) else if w = 9 then (np : Int) else if w = 10 then (ng : Int) else -1
theorem D_tree_0 (hG : Good M) (h15 : mI M 2 15 = 0) (w : Int) : D_tree 2 w M = some (some (.inl (-1)), M) := by
  rw [D_tree_eq, hG.gx, gd_t, h15, if_pos rfl]
theorem D_tree_1 {lk tu fn P n m : Nat} {ns : List Clz} {ng : List Int} (hG : Good M) (hT : TI F mk) (hR : TRc M X F mk) (hk : ∀ x ∈ lnF F, 0 ≤ F x 4) (h15 : mI M 2 15 = 1) (h10 : mI M 27 10 = (lk : Int)) (h11 : mI M 27 11 = (tu : Int)) (h3 : mI M 754 3 = (fn : Int)) (hr : mR M 2 11 = P) (hp : PRc M P ns) (hE : XE M 769 n ng) (w : Int) : D_tree 2 w M = some (some (.inl (trA X F lk tu fn ns.length ng.length w)), M) := by
  have ck : ∀ k : Int, Tr_countKind 27 k M = some (some (.inl (ctk F k (lnF F) 0 : Int)), M) := fun k => by
    rw [Tr_countKind_eq]
    exact Tr_count_loop hG hT hR hk (lnF F) [] 0 rfl (Nat.zero_le _)
  have gr : ∀ k : Int, Tr_greatest 27 k M = some (some (.inl (grt X F k (lnF F) 0)), M) := fun k => by
    rw [Tr_greatest_eq]
    exact Tr_greatest_loop hG hT hR (lnF F) [] 0 rfl
  rw [D_tree_eq]
  simp only [hG.gx, gd_t, h15, hG.r2_4, hG.gT, hR.1.1.1, h10, h11, ck, gr, cI_s, hG.r2_5, hG.gRs, h3, hr, hp.g hG, hp.1.2.1, hG.r2_8, hE.g hG, hE.s]
  rw [if_neg (by decide)]
  simp only [ite_out]
  rfl
end QUERY

/-! ===== what holds of the nodes when functions are named ===== -/
theorem ix_pre {vs ws : List Int} {v : Int} (h : v ∈ vs) : ix (vs ++ ws) v = ix vs v := by
  rcases ix_spec vs v with ⟨-, h1⟩ | ⟨k, k1, k2, k3, k4⟩
  · exact absurd h h1
  rcases ix_spec (vs ++ ws) v with ⟨-, h1⟩ | ⟨i, i1, i2, i3, i4⟩
  · exact absurd (List.mem_append_left _ h) h1
  rw [k2, i2]
  by_cases q : i < k
  · rw [nth_app1 (by omega)] at i3
    exact absurd i3 (k4 i q)
  · by_cases g : k < i
    · have := i4 k g
      rw [nth_app1 k1] at this
      exact absurd k3 this
    · rw [show i = k by omega]
theorem ordo_pre : ∀ (as acc : List Int), ∃ ws, ordo as acc = acc ++ ws := by
  intro as
  induction as with
  | nil => intro acc; exact ⟨[], by rw [List.append_nil]; rfl⟩
  | cons c cs ih =>
    intro acc
    unfold ordo
    split
    · obtain ⟨ws, h⟩ := ih (acc ++ [c])
      exact ⟨[c] ++ ws, by rw [h, List.append_assoc]⟩
    · exact ih acc
theorem rnc_ord : ∀ (xs ys vs os : List Int), vs.length = os.length → rnc xs ys vs os = true → (ordo xs vs).length = (ordo ys os).length ∧ ∀ i, i < xs.length → (kd (nth xs i) = 0 ∧ kd (nth ys i) = 0 ∧ ix (ordo xs vs) (nth xs i) = ix (ordo ys os) (nth ys i)) ∨ (nth xs i = nth ys i ∧ ¬ kd (nth xs i) = 0) := by
  intro xs
  induction xs with
  | nil =>
    intro ys vs os hl h
    cases ys with
    | nil => exact ⟨hl, fun i hi => absurd hi (Nat.not_lt_zero i)⟩
    | cons y ys => unfold rnc at h; cases h
  | cons x xs ih =>
    intro ys vs os hl h
    cases ys with
    | nil => unfold rnc at h; cases h
    | cons y ys =>
      unfold rnc at h
      unfold ordo
      by_cases q : kd x = 0 ∧ kd y = 0
      · rw [if_pos q] at h
        by_cases g : ix vs x = ix os y
        · rw [if_pos g] at h
          by_cases e : ix vs x = -1
          · rw [if_pos e] at h
            have hx : x ∉ vs := fun m => ix_mem.mpr m e
            have hy : y ∉ os := fun m => ix_mem.mpr m (g ▸ e)
            rw [if_pos (show kd x = 0 ∧ x ∉ vs from ⟨q.1, hx⟩), if_pos (show kd y = 0 ∧ y ∉ os from ⟨q.2, hy⟩)]
            obtain ⟨a1, a2⟩ := ih ys (vs ++ [x]) (os ++ [y]) (by simp [hl]) h
            refine ⟨a1, fun i hi => ?_⟩
            cases i with
            | zero =>
              left
              refine ⟨q.1, q.2, ?_⟩
              rw [nth_z, nth_z]
              obtain ⟨w1, e1⟩ := ordo_pre xs (vs ++ [x])
              obtain ⟨w2, e2⟩ := ordo_pre ys (os ++ [y])
              have n1 : ix (vs ++ [x]) x = (vs.length : Int) := by
                rcases ix_spec (vs ++ [x]) x with ⟨-, m⟩ | ⟨k, k1, k2, k3, -⟩
                · exact absurd (by simp) m
                · rw [List.length_append, List.length_singleton] at k1
                  by_cases z : k < vs.length
                  · rw [nth_app1 z] at k3
                    exact absurd (k3 ▸ nth_mem z) hx
                  · rw [k2, show k = vs.length by omega]
              have n2 : ix (os ++ [y]) y = (os.length : Int) := by
                rcases ix_spec (os ++ [y]) y with ⟨-, m⟩ | ⟨k, k1, k2, k3, -⟩
                · exact absurd (by simp) m
                · rw [List.length_append, List.length_singleton] at k1
                  by_cases z : k < os.length
                  · rw [nth_app1 z] at k3
                    exact absurd (k3 ▸ nth_mem z) hy
                  · rw [k2, show k = os.length by omega]
              rw [e1, e2, ix_pre (vs := vs ++ [x]) (v := x) (by simp), ix_pre (vs := os ++ [y]) (v := y) (by simp), n1, n2, hl]
            | succ i => exact a2 i (by rw [List.length_cons] at hi; omega)
          · rw [if_neg e] at h
            have hx : x ∈ vs := ix_mem.mp e
            have hy : y ∈ os := ix_mem.mp (g ▸ e)
            rw [if_neg (show ¬ (kd x = 0 ∧ x ∉ vs) from fun m => m.2 hx), if_neg (show ¬ (kd y = 0 ∧ y ∉ os) from fun m => m.2 hy)]
            obtain ⟨a1, a2⟩ := ih ys vs os hl h
            refine ⟨a1, fun i hi => ?_⟩
            cases i with
            | zero =>
              left
              refine ⟨q.1, q.2, ?_⟩
              rw [nth_z, nth_z]
              obtain ⟨w1, e1⟩ := ordo_pre xs vs
              obtain ⟨w2, e2⟩ := ordo_pre ys os
              rw [e1, e2, ix_pre hx, ix_pre hy, g]
            | succ i => exact a2 i (by rw [List.length_cons] at hi; omega)
        · rw [if_neg g] at h; exact absurd h (by decide)
      · rw [if_neg q] at h
        by_cases e : x = y
        · rw [if_pos e] at h
          subst e
          have hk : ¬ kd x = 0 := fun z => q ⟨z, z⟩
          rw [if_neg (show ¬ (kd x = 0 ∧ x ∉ vs) from fun m => hk m.1), if_neg (show ¬ (kd x = 0 ∧ x ∉ os) from fun m => hk m.1)]
          obtain ⟨a1, a2⟩ := ih ys vs os hl h
          refine ⟨a1, fun i hi => ?_⟩
          cases i with
          | zero => right; exact ⟨rfl, hk⟩
          | succ i => exact a2 i (by rw [List.length_cons] at hi; omega)
        · rw [if_neg e] at h; exact absurd h (by decide)
theorem oth_lt {xs : List Int} {b : Int} (hb : b ∈ xs ∧ kd b = 0) : (oth xs b).length + 1 ≤ (ord xs).length := by
  unfold oth
  have : ((ord xs).filter fun v => decide (v ≠ b)).length < (ord xs).length := List.length_filter_lt_length_iff_exists.mpr ⟨b, ord_mem.mpr hb, by simp⟩
  omega
theorem sid_len {xs : List Int} {b : Int} (hb : b = -1 ∨ (b ∈ xs ∧ kd b = 0)) : (sid xs b).length ≤ (ord xs).length := by
  unfold sid
  rw [List.length_append]
  by_cases q : b = -1
  · rw [if_pos q, List.length_nil, Nat.zero_add]
    exact oth_len _ _
  · rw [if_neg q, List.length_singleton]
    have := oth_lt (hb.resolve_left q)
    omega
/-- a function that blocks is told by cases -/
theorem blk_con {zs : List Clz} {xs : List Int} (hok : okP zs) (s5 : (fnx zs xs 0).1 = 5) : ∀ z ∈ zs, z.1 = nth xs (fnx zs xs 0).2.1 → z.2.1 ≠ -1 := by
  obtain ⟨⟨-, b1⟩, b2, b3, c0, z0, b4, b5, b6⟩ := fnx_blk (zs := zs) (xs := xs) _ 0 rfl (Nat.zero_le _) (by rw [List.drop_zero]; exact s5)
  rw [List.drop_zero] at b1 b2 b3 b4
  have hz0 : z0.1 = nth xs (fnx zs xs 0).2.1 := by
    rcases fo_spec (nth xs (fnx zs xs 0).2.1) zs 0 with ⟨g, -⟩ | ⟨j, w, t1, t2, t3, -⟩
    · rw [g] at b4; cases b4
    · rw [t1, Nat.zero_add] at b4; cases b4; rw [t2] at b5; cases b5; exact t3
  intro z hz hzf
  obtain ⟨j, hj⟩ := List.mem_iff_getElem?.mp hz
  by_cases t1 : j = c0
  · subst t1; rw [b5] at hj; cases hj; exact b6
  · by_cases t2 : j < c0
    · exact (hok j c0 z z0 t2 hj b5 (hzf.trans hz0.symm)).1
    · exact (hok c0 j z0 z (by omega) b5 hj (hz0.trans hzf.symm)).2.1
theorem spk_in {f blk : Int} {xs : List Int} {p : Nat} : ∀ (zs : List Clz) (fr : Nat), (∀ z ∈ zs, z.1 = f → arN z.2.1 ≤ 4) → ∀ e ∈ spk f blk xs p zs fr, ∃ z ∈ zs, z.1 = f ∧ e.2.1 = z.2.1 ∧ ∃ fr' : Nat, fr' ≤ fr + 4 * zs.length ∧ e.2.2 = (fr' : Int) ∧ e.1 = stx z (spl xs blk z.2.1 fr') p := by
  intro zs
  induction zs with
  | nil => intro fr _ e he; cases he
  | cons z zs ih =>
    intro fr h4 e he
    unfold spk at he
    rw [List.length_cons]
    by_cases q : z.1 = f
    · rw [if_pos q] at he
      have h := h4 z (by simp) q
      rcases List.mem_cons.mp he with g | g
      · exact ⟨z, by simp, q, by rw [g], fr, by omega, by rw [g], by rw [g]⟩
      · obtain ⟨w, w1, w2, w3, fr', w4, w5⟩ := ih _ (fun w hw => h4 w (List.mem_cons_of_mem _ hw)) e g
        exact ⟨w, List.mem_cons_of_mem _ w1, w2, w3, fr', by omega, w5⟩
    · rw [if_neg q] at he
      obtain ⟨w, w1, w2, w3, fr', w4, w5⟩ := ih _ (fun w hw => h4 w (List.mem_cons_of_mem _ hw)) e he
      exact ⟨w, List.mem_cons_of_mem _ w1, w2, w3, fr', by omega, w5⟩
theorem nmf_most {X : Nat → List Int} {F : FT} (L : List Nat) : ∀ (f c m : Nat), m ≤ (nmf X F L f c m).2.2 ∧ ∀ x ∈ L, isFn F x → (ord (X x)).length ≤ (nmf X F L f c m).2.2 := by
  induction L with
  | nil => intro f c m; exact ⟨Nat.le_refl _, fun x hx => by cases hx⟩
  | cons a L ih =>
    intro f c m
    unfold nmf
    by_cases q : isFn F a
    · rw [if_pos q]
      obtain ⟨h1, h2⟩ := ih (f + 1) (c + nkc F a) (if m < (ord (X a)).length then (ord (X a)).length else m)
      have h3 : m ≤ (if m < (ord (X a)).length then (ord (X a)).length else m) ∧ (ord (X a)).length ≤ (if m < (ord (X a)).length then (ord (X a)).length else m) := by split <;> omega
      generalize (if m < (ord (X a)).length then (ord (X a)).length else m) = m2 at *
      refine ⟨?_, fun x hx hf => ?_⟩
      · omega
      · rcases List.mem_cons.mp hx with e | e
        · subst e
          omega
        · exact h2 x e hf
    · rw [if_neg q]
      obtain ⟨h1, h2⟩ := ih f c m
      refine ⟨h1, fun x hx hf => ?_⟩
      rcases List.mem_cons.mp hx with e | e
      · subst e; exact absurd hf q
      · exact h2 x e hf
theorem nmf_all {X : Nat → List Int} {F G : FT} {C : Nat → List Int} (L : List Nat) : ∀ (f c m : Nat), (∀ x ∈ L, (G x 9 ≠ -1 ↔ isFn F x) ∧ nkc G x = nkc F x) → (nmf X F L f c m).2.1 = c + (L.flatMap (mcx X G C)).length := by
  induction L with
  | nil => intro f c m _; rfl
  | cons a L ih =>
    intro f c m h
    obtain ⟨h1, h2⟩ := h a (by simp)
    have h3 : ∀ x ∈ L, (G x 9 ≠ -1 ↔ isFn F x) ∧ nkc G x = nkc F x := fun x hx => h x (List.mem_cons_of_mem _ hx)
    unfold nmf
    rw [List.flatMap_cons, List.length_append]
    by_cases q : isFn F a
    · rw [if_pos q, ih _ _ _ h3]
      have : (mcx X G C a).length = nkc F a := by
        unfold mcx
        rw [if_neg (h1.mpr q), List.length_map, List.length_range, h2]
      omega
    · rw [if_neg q, ih _ _ _ h3]
      have : (mcx X G C a).length = 0 := by
        unfold mcx
        rw [if_pos (Classical.byContradiction fun g => q (h1.mp g))]
        rfl
      omega

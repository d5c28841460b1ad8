/-! ===== what a folded node's call calls with, told by the other one's VARS ===== -/
theorem fnx_al {zs : List Clz} {xs ys : List Int} (hl : xs.length = ys.length) (h : ∀ i, i < xs.length → (kd (nth xs i) = 0 ∧ kd (nth ys i) = 0) ∨ nth xs i = nth ys i) : ∀ (t i : Nat), xs.length - i = t → i ≤ xs.length → fnx zs (xs.drop i) i = fnx zs (ys.drop i) i := by
  intro t
  induction t with
  | zero => intro i h1 h2; rw [List.drop_eq_nil_of_le (by omega), List.drop_eq_nil_of_le (by omega)]
  | succ t ih =>
    intro i h1 h2
    have hi : i < xs.length := by omega
    have hi2 : i < ys.length := by omega
    have hh : (kd ((xs.drop (i + 1)).headD 50331648) = 0 ∧ kd ((ys.drop (i + 1)).headD 50331648) = 0) ∨ (xs.drop (i + 1)).headD 50331648 = (ys.drop (i + 1)).headD 50331648 := by
      by_cases q : i + 1 < xs.length
      · rw [drop_cons q, drop_cons (show i + 1 < ys.length by omega)]
        exact h _ q
      · rw [List.drop_eq_nil_of_le (by omega), List.drop_eq_nil_of_le (by omega)]
        exact Or.inr rfl
    have hr := ih (i + 1) (by omega) (by omega)
    rw [drop_cons hi, drop_cons hi2]
    unfold fnx
    rcases h i hi with ⟨a, b⟩ | e
    · rw [if_neg (by omega), if_neg (by omega)]
    · rw [e]
      by_cases hk : kd (nth ys i) = 2
      · rw [if_pos hk, if_pos hk]
        cases hf : fo (nth ys i) zs 0 with
        | none => rfl
        | some k =>
          rw [fn1_s, fn1_s]
          rcases hh with ⟨a, b⟩ | e2
          · rw [if_pos a, if_pos b]
          · rw [e2, hr]
      · rw [if_neg hk, if_neg hk]
theorem ix_nth {vs : List Int} {v : Int} (h : v ∈ vs) : nth vs (ix vs v).toNat = v ∧ (ix vs v).toNat < vs.length := by
  rcases ix_spec vs v with ⟨-, h2⟩ | ⟨k, h1, h2, h3, -⟩
  · exact absurd h h2
  · rw [h2, toNat_n]; exact ⟨h3, h1⟩
/-- what stands for a VAR -/
def sgm (xs ys : List Int) (v : Int) : Int := nth (ord xs) (ix (ord ys) v).toNat
section RSID
variable {xs ys : List Int}
theorem rnc_al (h : rnc xs ys [] [] = true) : xs.length = ys.length ∧ ∀ i, i < xs.length → (kd (nth xs i) = 0 ∧ kd (nth ys i) = 0) ∨ nth xs i = nth ys i := by
  refine ⟨rnc_len _ _ _ _ h, fun i hi => ?_⟩
  rcases (rnc_ord xs ys [] [] rfl h).2 i hi with ⟨a, b, -⟩ | ⟨a, -⟩
  · exact Or.inl ⟨a, b⟩
  · exact Or.inr a
theorem sgm_at (h : rnc xs ys [] [] = true) {i : Nat} (hi : i < xs.length) (hk : kd (nth ys i) = 0) : sgm xs ys (nth ys i) = nth xs i ∧ kd (nth xs i) = 0 := by
  rcases (rnc_ord xs ys [] [] rfl h).2 i hi with ⟨a, b, c⟩ | ⟨a, b⟩
  · have c : ix (ord xs) (nth xs i) = ix (ord ys) (nth ys i) := c
    refine ⟨?_, a⟩
    unfold sgm
    rw [← c]
    exact (ix_nth (ord_mem.mpr ⟨nth_mem hi, a⟩)).1
  · exact absurd (by rw [a]; exact hk) b
theorem sgm_ord (h : rnc xs ys [] [] = true) : (ord ys).map (sgm xs ys) = ord xs := by
  have hl : (ord xs).length = (ord ys).length := (rnc_ord xs ys [] [] rfl h).1
  refine List.ext_getElem? fun j => ?_
  by_cases q : j < (ord ys).length
  · rw [List.getElem?_map, List.getElem?_eq_getElem q, List.getElem?_eq_getElem (show j < (ord xs).length by omega)]
    show some (sgm xs ys (ord ys)[j]) = some (ord xs)[j]
    have e : (ord ys)[j] = nth (ord ys) j := (nth_lt q).symm
    unfold sgm
    rw [e, ix_at (ord_nodup ys) q, toNat_n, nth_lt (show j < (ord xs).length by omega)]
  · rw [List.getElem?_eq_none (by rw [List.length_map]; omega), List.getElem?_eq_none (by omega)]
theorem sgm_inj (h : rnc xs ys [] [] = true) {v w : Int} (hv : v ∈ ord ys) (hw : w ∈ ord ys) (e : sgm xs ys v = sgm xs ys w) : v = w := by
  have hl : (ord xs).length = (ord ys).length := (rnc_ord xs ys [] [] rfl h).1
  obtain ⟨v1, v2⟩ := ix_nth hv
  obtain ⟨w1, w2⟩ := ix_nth hw
  unfold sgm at e
  have a := ix_at (ord_nodup xs) (k := (ix (ord ys) v).toNat) (by omega)
  have b := ix_at (ord_nodup xs) (k := (ix (ord ys) w).toNat) (by omega)
  rw [e, b] at a
  rw [← v1, ← w1, show (ix (ord ys) v).toNat = (ix (ord ys) w).toNat by omega]
theorem oth_all (hv : av xs) : oth xs (-1) = ord xs := by
  unfold oth
  refine List.filter_eq_self.mpr fun v hm => ?_
  have := (hv v (ord_mem.mp hm).1).1
  rw [decide_eq_true_eq]
  omega
/-- of what BLOCKED, or none -/
theorem sgm_sid (h : rnc xs ys [] [] = true) (hvx : av xs) (hvy : av ys) {b : Int} (hb : b = -1 ∨ (b ∈ ys ∧ kd b = 0)) : (sid ys b).map (sgm xs ys) = sid xs (if b = -1 then -1 else sgm xs ys b) := by
  rcases hb with e | ⟨e1, e2⟩
  · subst e
    rw [if_pos rfl]
    unfold sid
    rw [if_pos rfl, List.nil_append, List.nil_append, oth_all hvx, oth_all hvy]
    exact sgm_ord h
  · have hbo : b ∈ ord ys := ord_mem.mpr ⟨e1, e2⟩
    have hb0 : b ≠ -1 := by have := (hvy b e1).1; omega
    have hso : sgm xs ys b ∈ ord xs := by rw [← sgm_ord h]; exact List.mem_map.mpr ⟨b, hbo, rfl⟩
    have hs0 : sgm xs ys b ≠ -1 := by have := (hvx _ (ord_mem.mp hso).1).1; omega
    rw [if_neg hb0]
    unfold sid
    rw [if_neg hb0, if_neg hs0, List.map_append]
    congr 1
    unfold oth
    rw [← sgm_ord h, List.filter_map]
    congr 1
    refine List.filter_congr fun v hv => ?_
    show decide (v ≠ b) = decide (sgm xs ys v ≠ sgm xs ys b)
    by_cases q : v = b
    · rw [q, decide_eq_false (fun z => z rfl), decide_eq_false (fun z => z rfl)]
    · rw [decide_eq_true (show v ≠ b from q), decide_eq_true (show sgm xs ys v ≠ sgm xs ys b from fun z => q (sgm_inj h hv hbo z))]
theorem insg_pos (hal : ∀ i, i < ys.length → kd (nth ys i) = 0 → arN (nth xs i) = 0 ∧ i < xs.length) : ∀ (t i : Nat) (ps qs : Prs), ys.length - i = t → i ≤ ys.length → insg xs (ys.drop i) i ps = some qs → ∀ q ∈ qs, q ∈ ps ∨ (q.2 < ys.length ∧ nth ys q.2 = q.1) := by
  intro t
  induction t with
  | zero =>
    intro i ps qs h1 h2 h q hq
    rw [List.drop_eq_nil_of_le (by omega)] at h
    cases h
    exact Or.inl hq
  | succ t ih =>
    intro i ps qs h1 h2 h q hq
    have hi : i < ys.length := by omega
    rw [drop_cons hi] at h
    unfold insg at h
    by_cases hk : kd (nth ys i) = 0
    · obtain ⟨a1, a2⟩ := hal i hi hk
      have eb : beh xs i = i + 1 := by rw [beh_agp a2, a1, agp_z]
      rw [if_pos hk, eb] at h
      split at h
      · rcases ih (i + 1) _ _ (by omega) (by omega) h q hq with g | g
        · rcases List.mem_append.mp g with g | g
          · exact Or.inl g
          · rw [List.mem_singleton.mp g]; exact Or.inr ⟨hi, rfl⟩
        · exact Or.inr g
      · split at h
        · exact ih (i + 1) _ _ (by omega) (by omega) h q hq
        · cases h
    · rw [if_neg hk] at h
      split at h
      · exact ih (i + 1) _ _ (by omega) (by omega) h q hq
      · cases h
/-- the parts that the matcher keeps, of a renaming -/
theorem rnc_parts (h : rnc xs ys [] [] = true) (hvx : av xs) {qs : Prs} (hi : insg xs ys 0 [] = some qs) : pvx qs = ord ys ∧ ∀ q ∈ qs, q.2 < xs.length ∧ nth xs q.2 = sgm xs ys q.1 := by
  obtain ⟨l1, l2⟩ := rnc_al h
  refine ⟨insg_ord _ _ _ _ hi, fun q hq => ?_⟩
  have := insg_pos (xs := xs) (ys := ys) (fun i h1 h2 => by
    have := (sgm_at h (show i < xs.length by omega) h2).2
    exact ⟨var_ar (av_nth hvx (by omega)) this, by omega⟩) ys.length 0 [] qs rfl (Nat.zero_le _) (by rw [List.drop_zero]; exact hi) q hq
  rcases this with g | ⟨g1, g2⟩
  · cases g
  · have hm : q.1 ∈ ord ys := by
      have e : pvx qs = ord ys := insg_ord _ _ _ _ hi
      rw [← e]
      exact List.mem_map.mpr ⟨q, hq, rfl⟩
    have hk : kd (nth ys q.2) = 0 := by rw [g2]; exact (ord_mem.mp hm).2
    have := (sgm_at h (show q.2 < xs.length by omega) hk).1
    rw [g2] at this
    exact ⟨by omega, this.symm⟩
end RSID

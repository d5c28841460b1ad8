/-! ===== blocks: many steps at once, up to places where ways meet ===== -/
def gd (b : Bool) (r : Res) : Res := match b with
  | true => r
  | false => none
def cV (r : Res) (F : Mem → Res) : Res := match r with
  | some (none, M) => F M
  | _ => none
def cI (r : Res) (F : Int → Mem → Res) : Res := match r with
  | some (some (.inl v), M) => F v M
  | _ => none
def cR (r : Res) (F : Nat → Mem → Res) : Res := match r with
  | some (some (.inr v), M) => F v M
  | _ => none
def cX (rk : Nat) (r : Res) (F : List PV → Mem → Res) : Res := match rk with
  | 0 => cV r fun M => F [] M
  | 1 => cI r fun v M => F [.inl v] M
  | 2 => cI r fun v M => F [.inl v] M
  | 3 => cR r fun v M => F [.inr v] M
  | _ => none
def gL (m : Nat) (M : Mem) (a : Nat) : Bool := (Nat.ble 2 a && (Nat.blt a (mN M) && Nat.ble (akd M a) 5)) || (Nat.beq a 1 && Nat.beq m 317)
def gC (M : Mem) (s : Nat) (sp : Int) (d : Nat) (dp n : Int) : Bool := (Nat.ble 2 s && (Nat.blt s (mN M) && Nat.beq (akd M s) 0)) && (Nat.ble 2 d && (Nat.blt d (mN M) && Nat.beq (akd M d) 0)) && decide (0 ≤ sp ∧ 0 ≤ dp ∧ 0 ≤ n ∧ sp + n ≤ (alen M s : Int) ∧ dp + n ≤ (alen M d : Int))
def cnK (c : ClassFile.Cond) (a b : Int) (J F : Res) : Res := match c with
  | .eq => if a = b then J else F
  | .ne => if a = b then F else J
  | .lt => if a < b then J else F
  | .ge => if a < b then F else J
  | .gt => if b < a then J else F
  | .le => if b < a then F else J
def swK (pc d : Nat) (x : Int) (J : Nat → Res) : Int → List Int → Res
  | _, [] => J d
  | lo, o :: os => if x = lo then J ((pc : Int) + o).toNat else swK pc d x J (lo + 1) os
def clK (pc k y z rk : Nat) (c : Option Nat) (ls : List LV) (st : List PV) (M : Mem) (K : Plan → Res) : Res :=
  gd (Nat.ble y st.length && Nat.ble (st.drop y).length 8) (match c with
    | none => K (.inr (.inr (k, (st.take y).reverse.map some ++ List.replicate (z - y) none, rk, pc, ls, st.drop y, M)))
    | some c => match (st.drop (y - 1)).head? with
      | some (.inr a) => gd (gO M a c) (K (.inr (.inr (k, (st.take y).reverse.map some ++ List.replicate (z - y) none, rk, pc, ls, st.drop y, M))))
      | _ => none)
def gK (pc : Nat) (ls : List LV) (st : List PV) (M : Mem) (K : Plan → Res) : Res := K (.inr (.inl (pc, ls, st, M)))
noncomputable def pK (m pc : Nat) (ls : List LV) (st : List PV) (M : Mem) (K : Plan → Res) : Res := match ins m pc with
  | none => none
  | some (i, n, x, y, z, w) => match i with
    | .ireturn => match st with
      | [.inl v] => match x with
        | 1 => gd (decide (v = 0 ∨ v = 1)) (K (.inl (some (.inl v), M)))
        | _ => K (.inl (some (.inl v), M))
      | _ => none
    | .areturn => match st with
      | [.inr a] => K (.inl (some (.inr a), M))
      | _ => none
    | .return_ => match st with
      | [] => K (.inl (none, M))
      | _ => none
    | .invokestatic _ => match x with
      | 1 => match st with
        | .inl n1 :: .inl dp :: .inr d :: .inl sp :: .inr s :: r => gd (Nat.ble r.length 8) (gd (gC M s sp d dp n1) (gK (pc + n) ls r (cpI M s sp.toNat d dp.toNat n1.toNat) K))
        | _ => none
      | 2 => match st with
        | .inl b :: .inl a :: r => gd (Nat.ble r.length 8) (gK (pc + n) ls (.inl (if a < b then b else a) :: r) M K)
        | _ => none
      | 3 => match st with
        | .inl b :: .inl a :: r => gd (Nat.ble r.length 8) (gK (pc + n) ls (.inl (if b < a then b else a) :: r) M K)
        | _ => none
      | _ => gd (Nat.ble 4 x) (clK (pc + n) x y z (nd x 8) none ls st M K)
    | .invokevirtual _ => clK (pc + n) x y z (nd x 8) (some w) ls st M K
    | .invokespecial _ => match x with
      | 0 => match st with
        | .inr a :: r => gd (Nat.ble r.length 8) (gd (Nat.blt 0 a) (gK (pc + n) ls r M K))
        | _ => none
      | _ => clK (pc + n) x y z (nd x 8) (some w) ls st M K
    | .if_icmp c _ => match st with
      | .inl b :: .inl a :: r => cnK c a b (gK x ls r M K) (gK (pc + n) ls r M K)
      | _ => none
    | .ifCond c _ => match st with
      | .inl a :: r => cnK c a 0 (gK x ls r M K) (gK (pc + n) ls r M K)
      | _ => none
    | .if_acmp c _ => match c with
      | .ne => match st with
        | .inr b :: .inr a :: r => if a = b then gK (pc + n) ls r M K else gK x ls r M K
        | _ => none
      | .eq => none
    | .ifnull _ => match st with
      | .inr a :: r => if a = 0 then gK x ls r M K else gK (pc + n) ls r M K
      | _ => none
    | .ifnonnull _ => match st with
      | .inr a :: r => if a = 0 then gK (pc + n) ls r M K else gK x ls r M K
      | _ => none
    | .idiv => match st with
      | .inl b :: .inl a :: r => if b = 0 then none else gK (pc + n) ls (.inl (pdiv a b) :: r) M K
      | _ => none
    | .irem => match st with
      | .inl b :: .inl a :: r => if b = 0 then none else gK (pc + n) ls (.inl (prem a b) :: r) M K
      | _ => none
    | .tableswitch _ lo _ os => match st with
      | .inl a :: r => swK pc x a (fun q => gK q ls r M K) lo os.toList
      | _ => none
    | .getfield _ => match st with
      | .inr a :: r => gd (gO M a x) (match z with
        | 1 => gK (pc + n) ls (.inr (mR M a y) :: r) M K
        | _ => gK (pc + n) ls (.inl (mI M a y) :: r) M K)
      | _ => none
    | .putfield _ => match z with
      | 1 => match st with
        | .inr v :: .inr a :: r => gd (gO M a x) (gK (pc + n) ls r (stR M a y v) K)
        | _ => none
      | 0 => match st with
        | .inl v :: .inr a :: r => gd (gO M a x) (gK (pc + n) ls r (stI M a y v) K)
        | _ => none
      | _ => match st with
        | .inl v :: .inr a :: r => gd (gO M a x) (gd (decide (v = 0 ∨ v = 1)) (gK (pc + n) ls r (stI M a y v) K))
        | _ => none
    | .iaload => match st with
      | .inl j :: .inr a :: r => match m with
        | 317 => gd (gA 317 M a j) (gK (pc + n) ls (.inl (mI M a j.toNat) :: r) M K)
        | _ => gd (gS M a 0 j) (gK (pc + n) ls (.inl (mI M a j.toNat) :: r) M K)
      | _ => none
    | .baload => match st with
      | .inl j :: .inr a :: r => gd (gS M a 1 j || gS M a 2 j) (gK (pc + n) ls (.inl (mI M a j.toNat) :: r) M K)
      | _ => none
    | .aaload => match st with
      | .inl j :: .inr a :: r => gd (gS M a 3 j || (gS M a 4 j || gS M a 5 j)) (gK (pc + n) ls (.inr (mR M a j.toNat) :: r) M K)
      | _ => none
    | .iastore => match st with
      | .inl v :: .inl j :: .inr a :: r => gd (gS M a 0 j) (gK (pc + n) ls r (stI M a j.toNat v) K)
      | _ => none
    | .bastore => match st with
      | .inl v :: .inl j :: .inr a :: r => if gS M a 1 j = true then gK (pc + n) ls r (stI M a j.toNat (wb v)) K else gd (gS M a 2 j) (gd (decide (v = 0 ∨ v = 1)) (gK (pc + n) ls r (stI M a j.toNat v) K))
      | _ => none
    | .aastore => match st with
      | .inr v :: .inl j :: .inr a :: r => gd ((gS M a 3 j && gO M v 2) || ((gS M a 4 j && gO M v 1) || (gS M a 5 j && gO M v 4))) (gK (pc + n) ls r (stR M a j.toNat v) K)
      | _ => none
    | .arraylength => match st with
      | .inr a :: r => gd (gL m M a) (gK (pc + n) ls (.inl (alen M a) :: r) M K)
      | _ => none
    | .newarray t => match st with
      | .inl k :: r => gd (Nat.beq (atk t) x && Nat.ble x 2) (gd (decide (0 ≤ k ∧ k ≤ 100000)) (gK (pc + n) ls (.inr (mN M) :: r) (nwC M (.inr (x, k.toNat)) k.toNat) K))
      | _ => none
    | .anewarray _ => match st with
      | .inl k :: r => gd (decide (0 ≤ k ∧ k ≤ 100000)) (gK (pc + n) ls (.inr (mN M) :: r) (nwC M (.inr (x, k.toNat)) k.toNat) K)
      | _ => none
    | .goto _ => gK x ls st M K
    | _ => match plan m pc ls st M with
      | none => none
      | some p => K p
def elK (o : Option Plan) (K : Plan → Res) : Res := match o with
  | none => none
  | some p => K p
theorem gd_elK {b : Bool} {o : Option Plan} {K : Plan → Res} : gd b (elK o K) = elK (if b = true then o else none) K := by
  cases b <;> rfl
theorem ite_elK {c : Prop} {h : Decidable c} {o1 o2 : Option Plan} {K : Plan → Res} : (if c then elK o1 K else elK o2 K) = elK (if c then o1 else o2) K := by
  split <;> rfl
theorem gK_elK {pc : Nat} {ls : List LV} {st : List PV} {M : Mem} {K : Plan → Res} : gK pc ls st M K = elK (goTo pc ls st M) K := rfl
theorem cnK_elK {c : ClassFile.Cond} {a b : Int} {x y : Nat} {ls : List LV} {st : List PV} {M : Mem} {K : Plan → Res} : cnK c a b (gK x ls st M K) (gK y ls st M K) = elK (goTo (if cnd c a b then x else y) ls st M) K := by
  unfold cnK cnd
  cases c <;> dsimp only <;> simp only [decide_eq_true_eq] <;> (repeat' split) <;> first | rfl | omega | contradiction
theorem swK_elK {pc d : Nat} {a : Int} {ls : List LV} {st : List PV} {M : Mem} {K : Plan → Res} : ∀ (os : List Int) (lo : Int), swK pc d a (fun q => gK q ls st M K) lo os = elK (goTo (swt pc d a lo os) ls st M) K := by
  intro os
  induction os with
  | nil => intro lo; rfl
  | cons o os ih =>
    intro lo
    unfold swK swt
    split
    · rfl
    · exact ih _
theorem clK_elK {pc k y z rk : Nat} {c : Option Nat} {ls : List LV} {st : List PV} {M : Mem} {K : Plan → Res} : clK pc k y z rk c ls st M K = elK (calls pc k y z rk c ls st M) K := by
  unfold clK calls
  cases c with
  | none =>
    dsimp only
    cases (Nat.ble y st.length && Nat.ble (st.drop y).length 8) <;> rfl
  | some c =>
    dsimp only
    cases (Nat.ble y st.length && Nat.ble (st.drop y).length 8)
    · rfl
    · cases (st.drop (y - 1)).head? with
      | none => rfl
      | some v =>
        cases v with
        | inl a => rfl
        | inr a =>
          show gd (gO M a c) _ = elK (if (true && gO M a c) = true then _ else none) K
          cases gO M a c <;> rfl
theorem gd_dec {p : Prop} {h : Decidable p} {o : Option Plan} {K : Plan → Res} : gd (decide p) (elK o K) = elK (if p then o else none) K := by
  by_cases q : p
  · rw [decide_eq_true q, if_pos q]; rfl
  · rw [decide_eq_false q, if_neg q]; rfl
theorem gd_gK {b : Bool} {pc : Nat} {ls : List LV} {st : List PV} {M : Mem} {K : Plan → Res} : gd b (gK pc ls st M K) = elK (if b = true then goTo pc ls st M else none) K := gd_elK (o := goTo pc ls st M)
theorem gdd_gK {p : Prop} {h : Decidable p} {pc : Nat} {ls : List LV} {st : List PV} {M : Mem} {K : Plan → Res} : gd (decide p) (gK pc ls st M K) = elK (if p then goTo pc ls st M else none) K := gd_dec (o := goTo pc ls st M)
theorem gdd_K {p : Prop} {h : Decidable p} {q : Plan} {K : Plan → Res} : gd (decide p) (K q) = elK (if p then some q else none) K := gd_dec (o := some q)
theorem gd_gd {a b : Bool} {r : Res} : gd a (gd b r) = gd (a && b) r := by
  cases a <;> rfl
set_option maxHeartbeats 4000000 in
theorem pK_eq {m pc : Nat} {ls : List LV} {st : List PV} {M : Mem} {K : Plan → Res} : pK m pc ls st M K = elK (plan m pc ls st M) K := by
  unfold pK
  cases hi : ins m pc with
  | none => unfold plan; rw [hi]; rfl
  | some I =>
    obtain ⟨i, n, x, y, z, w⟩ := I
    dsimp only
    cases i
    case ireturn =>
      unfold plan; rw [hi]; dsimp only
      rcases st with _ | ⟨v1 | v1, _ | ⟨v2, r⟩⟩ <;> try rfl
      rcases x with _ | _ | x <;> try rfl
      exact gdd_K
    case areturn => unfold plan; rw [hi]; dsimp only; rcases st with _ | ⟨v1 | v1, _ | ⟨v2, r⟩⟩ <;> rfl
    case return_ => unfold plan; rw [hi]; dsimp only; rcases st with _ | ⟨v1, r⟩ <;> rfl
    case invokestatic k =>
      unfold plan; rw [hi]; dsimp only
      by_cases h1 : x = 1
      · subst h1
        rcases st with _ | ⟨v1 | v1, _ | ⟨v2 | v2, _ | ⟨v3 | v3, _ | ⟨v4 | v4, _ | ⟨v5 | v5, r⟩⟩⟩⟩⟩ <;> try rfl
        show gd _ (gd (gC M v5 v4 v3 v2 v1) _) = elK (if _ then _ else none) K
        rw [gd_gd]
        refine gd_gK.trans ?_
        refine congrArg (fun o => elK o K) ?_
        rw [if_pos (rfl : 1 = 1)]
        show _ = (if _ then _ else none)
        refine ite_congr (propext ?_) (fun _ => rfl) (fun _ => rfl)
        unfold gC
        simp only [Bool.and_eq_true]
        exact ⟨fun h => ⟨⟨h.2.1, h.1⟩, h.2.2⟩, fun h => ⟨h.1.2, h.1.1, h.2⟩⟩
      by_cases h2 : x = 2
      · subst h2
        rcases st with _ | ⟨v1 | v1, _ | ⟨v2 | v2, r⟩⟩ <;> try rfl
        show gd _ _ = elK (if _ then _ else none) K
        exact gd_gK
      by_cases h3 : x = 3
      · subst h3
        rcases st with _ | ⟨v1 | v1, _ | ⟨v2 | v2, r⟩⟩ <;> try rfl
        show gd _ _ = elK (if _ then _ else none) K
        exact gd_gK
      rw [if_neg h1, if_neg h2, if_neg h3]
      rcases x with _ | _ | _ | _ | x
      · rfl
      · exact absurd rfl h1
      · exact absurd rfl h2
      · exact absurd rfl h3
      · exact (congrArg _ clK_elK).trans gd_elK
    case invokevirtual k => unfold plan; rw [hi]; exact clK_elK
    case invokespecial k =>
      unfold plan; rw [hi]; dsimp only
      rcases x with _ | x
      · rcases st with _ | ⟨v1 | v1, r⟩ <;> try rfl
        show gd _ (gd _ _) = elK (if _ then _ else none) K
        rw [gd_gd, Bool.and_comm]
        exact gd_gK
      · exact clK_elK
    case ifCond c o => unfold plan; rw [hi]; dsimp only; rcases st with _ | ⟨v1 | v1, r⟩ <;> first | rfl | exact cnK_elK
    case if_icmp c o => unfold plan; rw [hi]; dsimp only; rcases st with _ | ⟨v1 | v1, _ | ⟨v2 | v2, r⟩⟩ <;> first | rfl | exact cnK_elK
    case if_acmp c o =>
      unfold plan; rw [hi]; dsimp only
      cases c <;> try rfl
      rcases st with _ | ⟨v1 | v1, _ | ⟨v2 | v2, r⟩⟩ <;> try rfl
      dsimp only
      by_cases h : v2 = v1
      · rw [if_pos h, if_pos h]; rfl
      · rw [if_neg h, if_neg h]; rfl
    case ifnull o =>
      unfold plan; rw [hi]; dsimp only
      rcases st with _ | ⟨v1 | v1, r⟩ <;> try rfl
      dsimp only
      by_cases h : v1 = 0
      · rw [if_pos h, if_pos h]; rfl
      · rw [if_neg h, if_neg h]; rfl
    case ifnonnull o =>
      unfold plan; rw [hi]; dsimp only
      rcases st with _ | ⟨v1 | v1, r⟩ <;> try rfl
      dsimp only
      by_cases h : v1 = 0
      · rw [if_pos h, if_pos h]; rfl
      · rw [if_neg h, if_neg h]; rfl
    case idiv =>
      unfold plan; rw [hi]; dsimp only
      rcases st with _ | ⟨v1 | v1, _ | ⟨v2 | v2, r⟩⟩ <;> try rfl
      dsimp only
      by_cases h : v1 = 0
      · rw [if_pos h, if_pos h]; rfl
      · rw [if_neg h, if_neg h]; rfl
    case irem =>
      unfold plan; rw [hi]; dsimp only
      rcases st with _ | ⟨v1 | v1, _ | ⟨v2 | v2, r⟩⟩ <;> try rfl
      dsimp only
      by_cases h : v1 = 0
      · rw [if_pos h, if_pos h]; rfl
      · rw [if_neg h, if_neg h]; rfl
    case tableswitch d lo top os => unfold plan; rw [hi]; dsimp only; rcases st with _ | ⟨v1 | v1, r⟩ <;> first | rfl | exact swK_elK _ _
    case getfield k =>
      unfold plan; rw [hi]; dsimp only
      rcases st with _ | ⟨v1 | v1, r⟩ <;> try rfl
      dsimp only
      rcases z with _ | _ | z <;> first | exact gd_gK | (rw [if_neg (by omega)]; exact gd_gK) | (rw [if_pos rfl]; exact gd_gK)
    case putfield k =>
      unfold plan; rw [hi]; dsimp only
      rcases z with _ | _ | z
      · rcases st with _ | ⟨v1 | v1, _ | ⟨v2 | v2, r⟩⟩ <;> try rfl
        show gd _ _ = elK (if (gO M v2 x && true) = true then _ else none) K
        rw [Bool.and_true]
        exact gd_gK
      · rcases st with _ | ⟨v1 | v1, _ | ⟨v2 | v2, r⟩⟩ <;> first | rfl | exact gd_gK
      · rcases st with _ | ⟨v1 | v1, _ | ⟨v2 | v2, r⟩⟩ <;> try rfl
        show gd _ (gd _ _) = elK (if (gO M v2 x && (false || _)) = true then _ else none) K
        rw [gd_gd, Bool.false_or]
        exact gd_gK
    case iaload =>
      unfold plan; rw [hi]; dsimp only
      rcases st with _ | ⟨v1 | v1, _ | ⟨v2 | v2, r⟩⟩ <;> try rfl
      dsimp only
      split
      · exact gd_gK
      · rename_i h
        have h2 : gA m M v2 v1 = gS M v2 0 v1 := by
          unfold gA
          rw [show Nat.beq m 317 = false from by
            cases hb : Nat.beq m 317 with
            | false => rfl
            | true => exact absurd (Nat.eq_of_beq_eq_true hb) h]
          simp
        rw [h2]
        exact gd_gK
    case baload => unfold plan; rw [hi]; dsimp only; rcases st with _ | ⟨v1 | v1, _ | ⟨v2 | v2, r⟩⟩ <;> try rfl
                   exact gd_gK.trans (by simp only [Bool.or_eq_true])
    case aaload => unfold plan; rw [hi]; dsimp only; rcases st with _ | ⟨v1 | v1, _ | ⟨v2 | v2, r⟩⟩ <;> try rfl
                   exact gd_gK
    case iastore => unfold plan; rw [hi]; dsimp only; rcases st with _ | ⟨v1 | v1, _ | ⟨v2 | v2, _ | ⟨v3 | v3, r⟩⟩⟩ <;> first | rfl | exact gd_gK
    case bastore =>
      unfold plan; rw [hi]; dsimp only
      rcases st with _ | ⟨v1 | v1, _ | ⟨v2 | v2, _ | ⟨v3 | v3, r⟩⟩⟩ <;> try rfl
      dsimp only
      rw [gd_gd]
      by_cases h : gS M v3 1 v2 = true
      · rw [if_pos h, if_pos h]; rfl
      · rw [if_neg h, if_neg h]; exact gd_gK
    case aastore => unfold plan; rw [hi]; dsimp only; rcases st with _ | ⟨v1 | v1, _ | ⟨v2 | v2, _ | ⟨v3 | v3, r⟩⟩⟩ <;> try rfl
                    exact gd_gK.trans (by simp only [Bool.or_eq_true])
    case arraylength => unfold plan; rw [hi]; dsimp only; rcases st with _ | ⟨v1 | v1, r⟩ <;> try rfl
                        exact gd_gK.trans (by unfold gL; simp only [Bool.or_eq_true])
    case newarray t =>
      unfold plan; rw [hi]; dsimp only; rcases st with _ | ⟨v1 | v1, r⟩ <;> try rfl
      dsimp only
      rw [gd_gd, Bool.and_assoc]
      exact gd_gK
    case anewarray k =>
      unfold plan; rw [hi]; dsimp only; rcases st with _ | ⟨v1 | v1, r⟩ <;> try rfl
      exact gd_gK
    case goto o => unfold plan; rw [hi]; rfl
    all_goals rfl
/-- behind a step: on, or an answer, or a call and then on -/
noncomputable def kc (rec : Nat → List LV → List PV → Mem → Res) : Plan → Res := fun p => match p with
  | .inl r => some r
  | .inr (.inl q) => rec q.1 q.2.1 q.2.2.1 q.2.2.2
  | .inr (.inr (k, ls0, rk, pc', ls', st', M')) => cX rk (ev k 0 ls0 [] M') fun v M2 => rec pc' ls' (v ++ st') M2
noncomputable def xc (cuts : List Nat) (m : Nat) : Nat → Nat → List LV → List PV → Mem → Res
  | 0, pc, ls, st, M => ev m pc ls st M
  | f + 1, pc, ls, st, M => bif cuts.any (Nat.beq pc) then ev m pc ls st M else pK m pc ls st M (kc (xc cuts m f))
theorem cX_back {rk : Nat} {r : Res} {F : List PV → Mem → Res} : cX rk r F = r.bind (back rk F) := by
  rcases r with _ | ⟨_ | v | v, M⟩ <;> rcases rk with _ | _ | _ | _ | rk <;> try rfl
  all_goals (unfold cX back; simp [Option.bind])
theorem ev_pK {m pc : Nat} {ls : List LV} {st : List PV} {M : Mem} : ev m pc ls st M = pK m pc ls st M (kc (ev m)) := by
  rw [ev_eq, pK_eq]
  unfold Fx elK kc
  split
  · rename_i h; rw [h]
  · rename_i q h; rw [h]
  · rename_i q h; rw [h]
  · rename_i k ls0 rk pc' ls' st' M' h; rw [h]; exact cX_back.symm
theorem xc_ev {cuts : List Nat} {m : Nat} : ∀ f, xc cuts m f = ev m := by
  intro f
  induction f with
  | zero => rfl
  | succ f ih =>
    funext pc ls st M
    unfold xc
    rw [ih]
    cases cuts.any (Nat.beq pc)
    · exact ev_pK.symm
    · rfl
/-- many steps, to places among the cuts -/
theorem ev_blk (cuts : List Nat) (f m pc : Nat) (ls : List LV) (st : List PV) (M : Mem) : ev m pc ls st M = pK m pc ls st M (kc (xc cuts m f)) := by
  rw [xc_ev]
  exact ev_pK

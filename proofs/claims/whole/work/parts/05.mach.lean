/-! ===== a pure machine: its values, its memory, one step of it, its runs ===== -/
/-- an int, or a reference by its number (0: null; 1: the script; what is made: from 2 on) -/
abbrev PV : Type := Int ⊕ Nat
abbrev LV : Type := Option PV
/-- next number and slots made; what stands at a number (a class's object, or an array: kind, length); ints; references -/
abbrev Mem : Type := (Nat × Nat) × (Nat → Nat ⊕ (Nat × Nat)) × (Nat → Nat → Int) × (Nat → Nat → Nat)
abbrev Res : Type := Option (Option PV × Mem)
def mN (M : Mem) : Nat := M.1.1
def mS (M : Mem) : Nat := M.1.2
def mH (M : Mem) : Nat → Nat ⊕ (Nat × Nat) := M.2.1
def mI (M : Mem) : Nat → Nat → Int := M.2.2.1
def mR (M : Mem) : Nat → Nat → Nat := M.2.2.2
def stI (M : Mem) (a k : Nat) (v : Int) : Mem := (M.1, M.2.1, (fun b j => if b = a ∧ j = k then v else M.2.2.1 b j), M.2.2.2)
def stR (M : Mem) (a k : Nat) (v : Nat) : Mem := (M.1, M.2.1, M.2.2.1, fun b j => if b = a ∧ j = k then v else M.2.2.2 b j)
def nwC (M : Mem) (h : Nat ⊕ (Nat × Nat)) (sl : Nat) : Mem :=
  ((M.1.1 + 1, M.1.2 + sl), (fun b => if b = M.1.1 then h else M.2.1 b), (fun b j => if b = M.1.1 then 0 else M.2.2.1 b j), fun b j => if b = M.1.1 then 0 else M.2.2.2 b j)
def cpI (M : Mem) (s sp d dp n : Nat) : Mem := (M.1, M.2.1, (fun b j => if b = d ∧ dp ≤ j ∧ j < dp + n then M.2.2.1 s (sp + (j - dp)) else M.2.2.1 b j), M.2.2.2)
/-- what an int keeps -/
def wr (x : Int) : Int := (x + 2147483648) % 4294967296 - 2147483648
/-- what a byte keeps -/
def wb (x : Int) : Int := (x + 128) % 256 - 128
def pdiv (x y : Int) : Int := (Int32.ofInt x / Int32.ofInt y).toInt
def prem (x y : Int) : Int := (Int32.ofInt x - Int32.ofInt x / Int32.ofInt y * Int32.ofInt y).toInt
def pand (x y : Int) : Int := (Int32.ofInt x &&& Int32.ofInt y).toInt
def por (x y : Int) : Int := (Int32.ofInt x ||| Int32.ofInt y).toInt
def pshl (x y : Int) : Int := (Int32.ofInt x <<< (Int32.ofInt y &&& 31)).toInt
def pshr (x y : Int) : Int := (Int32.ofInt x >>> (Int32.ofInt y &&& 31)).toInt
def akd (M : Mem) (a : Nat) : Nat := match mH M a with
  | .inr q => q.1
  | .inl _ => 100
def alen (M : Mem) (a : Nat) : Nat := match mH M a with
  | .inr q => q.2
  | .inl _ => 0
/-- an object of a class -/
def gO (M : Mem) (a c : Nat) : Bool := Nat.ble 2 a && (Nat.blt a (mN M) && decide (mH M a = .inl c))
/-- an array of a kind, and an index within -/
def gS (M : Mem) (a kd : Nat) (i : Int) : Bool := Nat.ble 2 a && (Nat.blt a (mN M) && (Nat.beq (akd M a) kd && decide (0 ≤ i ∧ i < (alen M a : Int))))
/-- likewise, or the law's script -/
def gA (m : Nat) (M : Mem) (a : Nat) (i : Int) : Bool := gS M a 0 i || (Nat.beq a 1 && (Nat.beq m 317 && decide (0 ≤ i ∧ i < (alen M a : Int))))
def cnd (c : ClassFile.Cond) (x y : Int) : Bool := match c with
  | .eq => decide (x = y)
  | .ne => decide (x ≠ y)
  | .lt => decide (x < y)
  | .ge => decide (y ≤ x)
  | .gt => decide (y < x)
  | .le => decide (x ≤ y)
def atk : ArrayType → Nat
  | .int => 0
  | .byte => 1
  | .boolean => 2
  | _ => 9
/-- where a switch goes -/
def swt (pc : Nat) (d : Nat) (x : Int) : Int → List Int → Nat
  | _, [] => d
  | lo, o :: os => if x = lo then ((pc : Int) + o).toNat else swt pc d x (lo + 1) os
abbrev Plan : Type := (Option PV × Mem) ⊕ (Nat × List LV × List PV × Mem) ⊕ (Nat × List LV × Nat × Nat × List LV × List PV × Mem)
def goTo (pc : Nat) (ls : List LV) (st : List PV) (M : Mem) : Option Plan := some (.inr (.inl (pc, ls, st, M)))
/-- a call: how many arguments, what locals, which class's receiver (none: static) -/
def calls (pc k y z rk : Nat) (c : Option Nat) (ls : List LV) (st : List PV) (M : Mem) : Option Plan :=
  if (Nat.ble y st.length && Nat.ble (st.drop y).length 8) && (match c with
    | none => true
    | some c => match (st.drop (y - 1)).head? with
      | some (.inr a) => gO M a c
      | _ => false) then
    some (.inr (.inr (k, (st.take y).reverse.map some ++ List.replicate (z - y) none, rk, pc, ls, st.drop y, M)))
  else none
/-- one step: an answer, a next place, or a call -/
noncomputable def plan (m pc : Nat) (ls : List LV) (st : List PV) (M : Mem) : Option Plan := match ins m pc with
  | none => none
  | some (i, n, x, y, z, w) => match i with
    | .ireturn => match st with
      | [.inl v] => if x = 1 then (if v = 0 ∨ v = 1 then some (.inl (some (.inl v), M)) else none) else some (.inl (some (.inl v), M))
      | _ => none
    | .areturn => match st with
      | [.inr a] => some (.inl (some (.inr a), M))
      | _ => none
    | .return_ => match st with
      | [] => some (.inl (none, M))
      | _ => none
    | .invokestatic _ =>
      if x = 1 then match st with
        | .inl n1 :: .inl dp :: .inr d :: .inl sp :: .inr s :: r =>
          if (Nat.ble 2 s && (Nat.blt s (mN M) && Nat.beq (akd M s) 0)) && (Nat.ble 2 d && (Nat.blt d (mN M) && Nat.beq (akd M d) 0)) && Nat.ble r.length 8 && decide (0 ≤ sp ∧ 0 ≤ dp ∧ 0 ≤ n1 ∧ sp + n1 ≤ (alen M s : Int) ∧ dp + n1 ≤ (alen M d : Int)) then
            goTo (pc + n) ls r (cpI M s sp.toNat d dp.toNat n1.toNat) else none
        | _ => none
      else if x = 2 then match st with
        | .inl b :: .inl a :: r => if Nat.ble r.length 8 then goTo (pc + n) ls (.inl (if a < b then b else a) :: r) M else none
        | _ => none
      else if x = 3 then match st with
        | .inl b :: .inl a :: r => if Nat.ble r.length 8 then goTo (pc + n) ls (.inl (if b < a then b else a) :: r) M else none
        | _ => none
      else if Nat.ble 4 x then calls (pc + n) x y z (nd x 8) none ls st M else none
    | .invokevirtual _ => calls (pc + n) x y z (nd x 8) (some w) ls st M
    | .invokespecial _ =>
      if x = 0 then match st with
        | .inr a :: r => if Nat.blt 0 a && Nat.ble r.length 8 then goTo (pc + n) ls r M else none
        | _ => none
      else calls (pc + n) x y z (nd x 8) (some w) ls st M
    | .aload_n k => match ls[k.val]? with
      | some (some (.inr a)) => goTo (pc + n) ls (.inr a :: st) M
      | _ => none
    | .aload k => match ls[k]? with
      | some (some (.inr a)) => goTo (pc + n) ls (.inr a :: st) M
      | _ => none
    | .iload_n k => match ls[k.val]? with
      | some (some (.inl a)) => goTo (pc + n) ls (.inl a :: st) M
      | _ => none
    | .iload k => match ls[k]? with
      | some (some (.inl a)) => goTo (pc + n) ls (.inl a :: st) M
      | _ => none
    | .astore_n k => match st with
      | .inr a :: r => if Nat.blt k.val ls.length then goTo (pc + n) (ls.set k.val (some (.inr a))) r M else none
      | _ => none
    | .astore k => match st with
      | .inr a :: r => if Nat.blt k ls.length then goTo (pc + n) (ls.set k (some (.inr a))) r M else none
      | _ => none
    | .istore_n k => match st with
      | .inl a :: r => if Nat.blt k.val ls.length then goTo (pc + n) (ls.set k.val (some (.inl a))) r M else none
      | _ => none
    | .istore k => match st with
      | .inl a :: r => if Nat.blt k ls.length then goTo (pc + n) (ls.set k (some (.inl a))) r M else none
      | _ => none
    | .iinc k c => match ls[k]? with
      | some (some (.inl a)) => goTo (pc + n) (ls.set k (some (.inl (wr (a + c))))) st M
      | _ => none
    | .iconst c => goTo (pc + n) ls (.inl c :: st) M
    | .bipush c => goTo (pc + n) ls (.inl c :: st) M
    | .sipush c => goTo (pc + n) ls (.inl c :: st) M
    | .ldc _ => goTo (pc + n) ls (.inl x :: st) M
    | .ldc_w _ => goTo (pc + n) ls (.inl x :: st) M
    | .aconst_null => goTo (pc + n) ls (.inr 0 :: st) M
    | .dup => match st with
      | v :: r => goTo (pc + n) ls (v :: v :: r) M
      | _ => none
    | .dup2 => match st with
      | v :: u :: r => goTo (pc + n) ls (v :: u :: v :: u :: r) M
      | _ => none
    | .pop => match st with
      | _ :: r => goTo (pc + n) ls r M
      | _ => none
    | .iadd => match st with
      | .inl b :: .inl a :: r => goTo (pc + n) ls (.inl (wr (a + b)) :: r) M
      | _ => none
    | .isub => match st with
      | .inl b :: .inl a :: r => goTo (pc + n) ls (.inl (wr (a - b)) :: r) M
      | _ => none
    | .imul => match st with
      | .inl b :: .inl a :: r => goTo (pc + n) ls (.inl (wr (a * b)) :: r) M
      | _ => none
    | .idiv => match st with
      | .inl b :: .inl a :: r => if b = 0 then none else goTo (pc + n) ls (.inl (pdiv a b) :: r) M
      | _ => none
    | .irem => match st with
      | .inl b :: .inl a :: r => if b = 0 then none else goTo (pc + n) ls (.inl (prem a b) :: r) M
      | _ => none
    | .iand => match st with
      | .inl b :: .inl a :: r => goTo (pc + n) ls (.inl (pand a b) :: r) M
      | _ => none
    | .ior => match st with
      | .inl b :: .inl a :: r => goTo (pc + n) ls (.inl (por a b) :: r) M
      | _ => none
    | .ishl => match st with
      | .inl b :: .inl a :: r => goTo (pc + n) ls (.inl (pshl a b) :: r) M
      | _ => none
    | .ishr => match st with
      | .inl b :: .inl a :: r => goTo (pc + n) ls (.inl (pshr a b) :: r) M
      | _ => none
    | .i2b => match st with
      | .inl a :: r => goTo (pc + n) ls (.inl (wb a) :: r) M
      | _ => none
    | .goto _ => goTo x ls st M
    | .ifCond c _ => match st with
      | .inl a :: r => goTo (if cnd c a 0 then x else pc + n) ls r M
      | _ => none
    | .if_icmp c _ => match st with
      | .inl b :: .inl a :: r => goTo (if cnd c a b then x else pc + n) ls r M
      | _ => none
    | .if_acmp c _ => match c with
      | .ne => match st with
        | .inr b :: .inr a :: r => goTo (if a = b then pc + n else x) ls r M
        | _ => none
      | .eq => none
    | .ifnull _ => match st with
      | .inr a :: r => goTo (if a = 0 then x else pc + n) ls r M
      | _ => none
    | .ifnonnull _ => match st with
      | .inr a :: r => goTo (if a = 0 then pc + n else x) ls r M
      | _ => none
    | .tableswitch _ lo _ os => match st with
      | .inl a :: r => goTo (swt pc x a lo os.toList) ls r M
      | _ => none
    | .getfield _ => match st with
      | .inr a :: r => if gO M a x then goTo (pc + n) ls ((if z = 1 then .inr (mR M a y) else .inl (mI M a y)) :: r) M else none
      | _ => none
    | .putfield _ =>
      if z = 1 then match st with
        | .inr v :: .inr a :: r => if gO M a x then goTo (pc + n) ls r (stR M a y v) else none
        | _ => none
      else match st with
        | .inl v :: .inr a :: r => if gO M a x && (Nat.beq z 0 || decide (v = 0 ∨ v = 1)) then goTo (pc + n) ls r (stI M a y v) else none
        | _ => none
    | .iaload => match st with
      | .inl j :: .inr a :: r => if gA m M a j then goTo (pc + n) ls (.inl (mI M a j.toNat) :: r) M else none
      | _ => none
    | .baload => match st with
      | .inl j :: .inr a :: r => if gS M a 1 j || gS M a 2 j then goTo (pc + n) ls (.inl (mI M a j.toNat) :: r) M else none
      | _ => none
    | .aaload => match st with
      | .inl j :: .inr a :: r => if gS M a 3 j || (gS M a 4 j || gS M a 5 j) then goTo (pc + n) ls (.inr (mR M a j.toNat) :: r) M else none
      | _ => none
    | .iastore => match st with
      | .inl v :: .inl j :: .inr a :: r => if gS M a 0 j then goTo (pc + n) ls r (stI M a j.toNat v) else none
      | _ => none
    | .bastore => match st with
      | .inl v :: .inl j :: .inr a :: r =>
        if gS M a 1 j then goTo (pc + n) ls r (stI M a j.toNat (wb v))
        else if gS M a 2 j && decide (v = 0 ∨ v = 1) then goTo (pc + n) ls r (stI M a j.toNat v) else none
      | _ => none
    | .aastore => match st with
      | .inr v :: .inl j :: .inr a :: r =>
        if (gS M a 3 j && gO M v 2) || ((gS M a 4 j && gO M v 1) || (gS M a 5 j && gO M v 4)) then goTo (pc + n) ls r (stR M a j.toNat v) else none
      | _ => none
    | .arraylength => match st with
      | .inr a :: r => if (Nat.ble 2 a && (Nat.blt a (mN M) && Nat.ble (akd M a) 5)) || (Nat.beq a 1 && Nat.beq m 317) then goTo (pc + n) ls (.inl (alen M a) :: r) M else none
      | _ => none
    | .new _ => goTo (pc + n) ls (.inr (mN M) :: st) (nwC M (.inl x) y)
    | .newarray t => match st with
      | .inl k :: r => if Nat.beq (atk t) x && (Nat.ble x 2 && decide (0 ≤ k ∧ k ≤ 100000)) then goTo (pc + n) ls (.inr (mN M) :: r) (nwC M (.inr (x, k.toNat)) k.toNat) else none
      | _ => none
    | .anewarray _ => match st with
      | .inl k :: r => if decide (0 ≤ k ∧ k ≤ 100000) then goTo (pc + n) ls (.inr (mN M) :: r) (nwC M (.inr (x, k.toNat)) k.toNat) else none
      | _ => none
    | _ => none
/-- behind a call: what came back goes on the stack, if it is of the method's kind -/
def back (rk : Nat) (f : List PV → Mem → Res) (q : Option PV × Mem) : Res := match q.1 with
  | none => if rk = 0 then f [] q.2 else none
  | some (.inl r) => if rk = 1 ∨ rk = 2 then f [.inl r] q.2 else none
  | some (.inr a) => if rk = 3 then f [.inr a] q.2 else none
noncomputable def Fx (rec : Nat → Nat → List LV → List PV → Mem → Res) (m pc : Nat) (ls : List LV) (st : List PV) (M : Mem) : Res := match plan m pc ls st M with
  | none => none
  | some (.inl r) => some r
  | some (.inr (.inl q)) => rec m q.1 q.2.1 q.2.2.1 q.2.2.2
  | some (.inr (.inr (k, ls0, rk, pc', ls', st', M'))) => (rec k 0 ls0 [] M').bind (back rk fun v M2 => rec m pc' ls' (v ++ st') M2)
noncomputable def px : Nat → Nat → Nat → List LV → List PV → Mem → Res
  | 0, _, _, _, _, _ => none
  | f + 1, m, pc, ls, st, M => Fx (px f) m pc ls st M
theorem back_mono {rk : Nat} {f g : List PV → Mem → Res} {q : Option PV × Mem} {r : Option PV × Mem} (h : ∀ v M r, f v M = some r → g v M = some r) (hb : back rk f q = some r) : back rk g q = some r := by
  unfold back at hb ⊢
  split at hb
  · split at hb
    · rename_i h1; rw [if_pos h1]; exact h _ _ _ hb
    · cases hb
  · split at hb
    · rename_i h1; rw [if_pos h1]; exact h _ _ _ hb
    · cases hb
  · split at hb
    · rename_i h1; rw [if_pos h1]; exact h _ _ _ hb
    · cases hb
theorem Fx_mono {f g : Nat → Nat → List LV → List PV → Mem → Res} (h : ∀ m pc ls st M r, f m pc ls st M = some r → g m pc ls st M = some r) {m pc : Nat} {ls : List LV} {st : List PV} {M : Mem} {r : Option PV × Mem} (hf : Fx f m pc ls st M = some r) : Fx g m pc ls st M = some r := by
  unfold Fx at hf ⊢
  split at hf
  · cases hf
  · exact hf
  · exact h _ _ _ _ _ _ hf
  · cases hc : f _ 0 _ [] _ with
    | none => rw [hc] at hf; cases hf
    | some q =>
      rw [hc, Option.bind_some] at hf
      rw [h _ _ _ _ _ _ hc, Option.bind_some]
      exact back_mono (fun v M r => h _ _ _ _ _ _) hf
theorem px_mono1 : ∀ (f m pc : Nat) (ls : List LV) (st : List PV) (M : Mem) (r : Option PV × Mem), px f m pc ls st M = some r → px (f + 1) m pc ls st M = some r := by
  intro f
  induction f with
  | zero => intro m pc ls st M r h; cases h
  | succ f ih => intro m pc ls st M r h; exact Fx_mono ih h
theorem px_mono {f g : Nat} (h : f ≤ g) {m pc : Nat} {ls : List LV} {st : List PV} {M : Mem} {r : Option PV × Mem} (hr : px f m pc ls st M = some r) : px g m pc ls st M = some r := by
  induction g with
  | zero => rw [Nat.le_zero.mp h] at hr; exact hr
  | succ g ih =>
    by_cases e : f = g + 1
    · rw [← e]; exact hr
    · exact px_mono1 _ _ _ _ _ _ _ (ih (by omega))
/-- the run from a place on, without fuel -/
noncomputable def ev (m pc : Nat) (ls : List LV) (st : List PV) (M : Mem) : Res :=
  haveI := Classical.propDecidable (∃ f r, px f m pc ls st M = some r)
  if h : ∃ f r, px f m pc ls st M = some r then some (Classical.choose (Classical.choose_spec h)) else none
theorem ev_iff {m pc : Nat} {ls : List LV} {st : List PV} {M : Mem} {r : Option PV × Mem} : ev m pc ls st M = some r ↔ ∃ f, px f m pc ls st M = some r := by
  unfold ev
  constructor
  · intro h
    split at h
    · rename_i h1
      have h2 := Classical.choose_spec (Classical.choose_spec h1)
      refine ⟨_, h2.trans h⟩
    · cases h
  · intro ⟨f, h⟩
    have h1 : ∃ f r, px f m pc ls st M = some r := ⟨f, r, h⟩
    rw [dif_pos h1]
    have h2 := Classical.choose_spec (Classical.choose_spec h1)
    have a := px_mono (Nat.le_max_left f (Classical.choose h1)) h
    have b := px_mono (Nat.le_max_right f (Classical.choose h1)) h2
    exact b.symm.trans a
theorem ev_eq (m pc : Nat) (ls : List LV) (st : List PV) (M : Mem) : ev m pc ls st M = Fx ev m pc ls st M := by
  apply Option.ext
  intro r
  constructor
  · intro h
    obtain ⟨f, hf⟩ := ev_iff.mp h
    cases f with
    | zero => cases hf
    | succ f => exact Fx_mono (fun _ _ _ _ _ _ h => ev_iff.mpr ⟨f, h⟩) hf
  · intro h
    unfold Fx at h
    split at h
    · cases h
    · rename_i e
      exact ev_iff.mpr ⟨1, by show Fx (px 0) m pc ls st M = some r; unfold Fx; rw [e]; exact h⟩
    · rename_i e
      obtain ⟨f, hf⟩ := ev_iff.mp h
      exact ev_iff.mpr ⟨f + 1, by show Fx (px f) m pc ls st M = some r; unfold Fx; rw [e]; exact hf⟩
    · rename_i k ls0 rk pc' ls' st' M' e
      cases hc : ev k 0 ls0 [] M' with
      | none => rw [hc] at h; cases h
      | some q =>
        rw [hc, Option.bind_some] at h
        obtain ⟨f1, h1⟩ := ev_iff.mp hc
        have key : ∃ f2, back rk (fun v M2 => px f2 m pc' ls' (v ++ st') M2) q = some r := by
          unfold back at h ⊢
          split at h <;> split at h
          · rename_i h3; obtain ⟨f2, h2⟩ := ev_iff.mp h; exact ⟨f2, by rw [if_pos h3]; exact h2⟩
          · cases h
          · rename_i h3; obtain ⟨f2, h2⟩ := ev_iff.mp h; exact ⟨f2, by rw [if_pos h3]; exact h2⟩
          · cases h
          · rename_i h3; obtain ⟨f2, h2⟩ := ev_iff.mp h; exact ⟨f2, by rw [if_pos h3]; exact h2⟩
          · cases h
        obtain ⟨f2, h2⟩ := key
        refine ev_iff.mpr ⟨max f1 f2 + 1, ?_⟩
        show Fx (px (max f1 f2)) m pc ls st M = some r
        unfold Fx
        rw [e]
        show (px (max f1 f2) k 0 ls0 [] M').bind _ = some r
        rw [px_mono (Nat.le_max_left f1 f2) h1, Option.bind_some]
        exact back_mono (fun v M r hr => px_mono (Nat.le_max_right f1 f2) hr) h2

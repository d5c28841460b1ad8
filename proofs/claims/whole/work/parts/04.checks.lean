/-- what is said beside an instruction (x y z w) fits the tables -/
def okR (m pc : Nat) (i : Instr) (x y z w : Nat) : Bool := match i with
  | .getfield k => inF (nd m 1) k x y && Nat.beq (fk x y) z && Nat.blt y (Nn x) && Nat.blt x 13
  | .putfield k => inF (nd m 1) k x y && Nat.beq (fk x y) z && Nat.blt y (Nn x) && Nat.blt x 13 && Nat.beq (ff x y) w && (Nat.beq w 0 || (Nat.beq (nd m 6) 1 && Nat.beq (nd m 1) x))
  | .invokestatic k => inM (nd m 1) k x && (Nat.blt x 4 || (Nat.beq (nd x 2) y && Nat.beq (nd x 0) z && Nat.beq (nd x 1) w && Nat.beq (nd x 3) 1 && Nat.blt (nd x 4) (nd m 4) && Nat.ble (8 + (nd x 0 + 11) + nd x 5) (nd m 5) && inS x))
  | .invokevirtual k => inM (nd m 1) k x && (Nat.ble 4 x && (Nat.beq (nd x 2) y && Nat.beq (nd x 0) z && Nat.beq (nd x 1) w && Nat.beq (nd x 3) 0 && Nat.beq (nd x 6) 0 && Nat.blt (nd x 4) (nd m 4) && Nat.ble (8 + (nd x 0 + 11) + nd x 5) (nd m 5) && inS x))
  | .invokespecial k => inM (nd m 1) k x && (Nat.beq x 0 || (Nat.ble 4 x && Nat.beq (nd x 2) y && Nat.beq (nd x 0) z && Nat.beq (nd x 1) w && Nat.beq (nd x 3) 0 && Nat.beq (nd x 6) 1 && Nat.blt (nd x 4) (nd m 4) && Nat.ble (8 + (nd x 0 + 11) + nd x 5) (nd m 5) && inS x))
  | .new k => inC (nd m 1) k x && Nat.beq (Nn x) y && Nat.blt x 13
  | .newarray .int => Nat.beq x 0
  | .newarray .byte => Nat.beq x 1
  | .newarray .boolean => Nat.beq x 2
  | .anewarray k => (Nat.beq x 3 && inC (nd m 1) k 2) || (Nat.beq x 4 && inC (nd m 1) k 1) || (Nat.beq x 5 && inC (nd m 1) k 4)
  | .ldc k => inK (nd m 1) k x && Nat.blt x 2147483648
  | .ldc_w k => inK (nd m 1) k x && Nat.blt x 2147483648
  | .goto o => decide ((pc : Int) + o = (x : Int))
  | .ifnull o => decide ((pc : Int) + o = (x : Int))
  | .ifnonnull o => decide ((pc : Int) + o = (x : Int))
  | .if_icmp _ o => decide ((pc : Int) + o = (x : Int))
  | .ifCond _ o => decide ((pc : Int) + o = (x : Int))
  | .if_acmp _ o => decide ((pc : Int) + o = (x : Int))
  | .tableswitch d lo hi os => decide ((pc : Int) + d = (x : Int)) && os.toList.all (fun o => decide (0 ≤ (pc : Int) + o)) && decide (hi + 1 - lo = (os.size : Int))
  | .iconst n => decide (-1 ≤ n ∧ n ≤ 5)
  | .bipush n => decide (-128 ≤ n ∧ n < 128)
  | .sipush n => decide (-32768 ≤ n ∧ n < 32768)
  | .iinc _ n => decide (-128 ≤ n ∧ n < 128)
  | .ireturn => (Nat.beq (nd m 8) 1 && Nat.beq x 0) || (Nat.beq (nd m 8) 2 && Nat.beq x 1)
  | .areturn => Nat.beq (nd m 8) 3
  | .return_ => Nat.beq (nd m 8) 0
  | _ => true
def ilen : Instr → Nat
  | .bipush _ => 2
  | .iload _ => 2
  | .aload _ => 2
  | .istore _ => 2
  | .astore _ => 2
  | .ldc _ => 2
  | .newarray _ => 2
  | .sipush _ => 3
  | .iinc _ _ => 3
  | .ldc_w _ => 3
  | .getfield _ => 3
  | .putfield _ => 3
  | .invokestatic _ => 3
  | .invokevirtual _ => 3
  | .invokespecial _ => 3
  | .new _ => 3
  | .anewarray _ => 3
  | .goto _ => 3
  | .ifnull _ => 3
  | .ifnonnull _ => 3
  | .if_icmp _ _ => 3
  | .ifCond _ _ => 3
  | .if_acmp _ _ => 3
  | .tableswitch _ _ _ _ => 0
  | _ => 1
def okI (b : ByteArray) (m pc : Nat) (o : Option RI) : Bool := match o with
  | none => true
  | some (i, n, x, y, z, w) => decide (decode b pc = .ok (i, n)) && ((Nat.beq n (ilen i) || Nat.beq (ilen i) 0) && okR m pc i x y z w)
def okC (m : Nat) : Prop := ∀ pc, pc < nd m 7 → okI (byt m) m pc (ins m pc) = true
set_option maxRecDepth 100000 in
theorem okC_4 : okC 4 := by
  intro pc h
  have h2 : ∀ pc, pc < 42 → okI cX0_init 4 pc (ic_4 pc) = true := by decide +kernel
  have h3 : ins 4 pc = ic_4 pc := by show (bif Nat.blt pc (nd 4 7) then ic_4 pc else none) = _; rw [show Nat.blt pc (nd 4 7) = true from Nat.ble_eq_true_of_le h]; rfl
  rw [h3]; exact h2 pc h
set_option maxRecDepth 100000 in
theorem okC_5 : okC 5 := by
  intro pc h
  have h2 : ∀ pc, pc < 13 → okI cX0_clear 5 pc (ic_5 pc) = true := by decide +kernel
  have h3 : ins 5 pc = ic_5 pc := by show (bif Nat.blt pc (nd 5 7) then ic_5 pc else none) = _; rw [show Nat.blt pc (nd 5 7) = true from Nat.ble_eq_true_of_le h]; rfl
  rw [h3]; exact h2 pc h
set_option maxRecDepth 100000 in
theorem okC_6 : okC 6 := by
  intro pc h
  have h2 : ∀ pc, pc < 22 → okI cX0_has 6 pc (ic_6 pc) = true := by decide +kernel
  have h3 : ins 6 pc = ic_6 pc := by show (bif Nat.blt pc (nd 6 7) then ic_6 pc else none) = _; rw [show Nat.blt pc (nd 6 7) = true from Nat.ble_eq_true_of_le h]; rfl
  rw [h3]; exact h2 pc h
set_option maxRecDepth 100000 in
theorem okC_7 : okC 7 := by
  intro pc h
  have h2 : ∀ pc, pc < 55 → okI cX0_add 7 pc (ic_7 pc) = true := by decide +kernel
  have h3 : ins 7 pc = ic_7 pc := by show (bif Nat.blt pc (nd 7 7) then ic_7 pc else none) = _; rw [show Nat.blt pc (nd 7 7) = true from Nat.ble_eq_true_of_le h]; rfl
  rw [h3]; exact h2 pc h
set_option maxRecDepth 100000 in
theorem okC_8 : okC 8 := by
  intro pc h
  have h2 : ∀ pc, pc < 103 → okI cX0_fill 8 pc (ic_8 pc) = true := by decide +kernel
  have h3 : ins 8 pc = ic_8 pc := by show (bif Nat.blt pc (nd 8 7) then ic_8 pc else none) = _; rw [show Nat.blt pc (nd 8 7) = true from Nat.ble_eq_true_of_le h]; rfl
  rw [h3]; exact h2 pc h
set_option maxRecDepth 100000 in
theorem okC_9 : okC 9 := by
  intro pc h
  have h2 : ∀ pc, pc < 41 → okI cX1_init 9 pc (ic_9 pc) = true := by decide +kernel
  have h3 : ins 9 pc = ic_9 pc := by show (bif Nat.blt pc (nd 9 7) then ic_9 pc else none) = _; rw [show Nat.blt pc (nd 9 7) = true from Nat.ble_eq_true_of_le h]; rfl
  rw [h3]; exact h2 pc h
set_option maxRecDepth 100000 in
theorem okC_10 : okC 10 := by
  intro pc h
  have h2 : ∀ pc, pc < 23 → okI cX1_clear 10 pc (ic_10 pc) = true := by decide +kernel
  have h3 : ins 10 pc = ic_10 pc := by show (bif Nat.blt pc (nd 10 7) then ic_10 pc else none) = _; rw [show Nat.blt pc (nd 10 7) = true from Nat.ble_eq_true_of_le h]; rfl
  rw [h3]; exact h2 pc h
set_option maxRecDepth 100000 in
theorem okC_11 : okC 11 := by
  intro pc h
  have h2 : ∀ pc, pc < 14 → okI cX1_isCase 11 pc (ic_11 pc) = true := by decide +kernel
  have h3 : ins 11 pc = ic_11 pc := by show (bif Nat.blt pc (nd 11 7) then ic_11 pc else none) = _; rw [show Nat.blt pc (nd 11 7) = true from Nat.ble_eq_true_of_le h]; rfl
  rw [h3]; exact h2 pc h
set_option maxRecDepth 100000 in
theorem okC_12 : okC 12 := by
  intro pc h
  have h2 : ∀ pc, pc < 13 → okI cX1_indexOfVar 12 pc (ic_12 pc) = true := by decide +kernel
  have h3 : ins 12 pc = ic_12 pc := by show (bif Nat.blt pc (nd 12 7) then ic_12 pc else none) = _; rw [show Nat.blt pc (nd 12 7) = true from Nat.ble_eq_true_of_le h]; rfl
  rw [h3]; exact h2 pc h
set_option maxRecDepth 100000 in
theorem okC_13 : okC 13 := by
  intro pc h
  have h2 : ∀ pc, pc < 33 → okI cX1_addVar 13 pc (ic_13 pc) = true := by decide +kernel
  have h3 : ins 13 pc = ic_13 pc := by show (bif Nat.blt pc (nd 13 7) then ic_13 pc else none) = _; rw [show Nat.blt pc (nd 13 7) = true from Nat.ble_eq_true_of_le h]; rfl
  rw [h3]; exact h2 pc h
set_option maxRecDepth 100000 in
theorem okC_14 : okC 14 := by
  intro pc h
  have h2 : ∀ pc, pc < 21 → okI cX2_init 14 pc (ic_14 pc) = true := by decide +kernel
  have h3 : ins 14 pc = ic_14 pc := by show (bif Nat.blt pc (nd 14 7) then ic_14 pc else none) = _; rw [show Nat.blt pc (nd 14 7) = true from Nat.ble_eq_true_of_le h]; rfl
  rw [h3]; exact h2 pc h
set_option maxRecDepth 100000 in
theorem okC_15 : okC 15 := by
  intro pc h
  have h2 : ∀ pc, pc < 12 → okI cX2_cell 15 pc (ic_15 pc) = true := by decide +kernel
  have h3 : ins 15 pc = ic_15 pc := by show (bif Nat.blt pc (nd 15 7) then ic_15 pc else none) = _; rw [show Nat.blt pc (nd 15 7) = true from Nat.ble_eq_true_of_le h]; rfl
  rw [h3]; exact h2 pc h
set_option maxRecDepth 100000 in
theorem okC_16 : okC 16 := by
  intro pc h
  have h2 : ∀ pc, pc < 7 → okI cX2_kind 16 pc (ic_16 pc) = true := by decide +kernel
  have h3 : ins 16 pc = ic_16 pc := by show (bif Nat.blt pc (nd 16 7) then ic_16 pc else none) = _; rw [show Nat.blt pc (nd 16 7) = true from Nat.ble_eq_true_of_le h]; rfl
  rw [h3]; exact h2 pc h
set_option maxRecDepth 100000 in
theorem okC_17 : okC 17 := by
  intro pc h
  have h2 : ∀ pc, pc < 8 → okI cX2_arity 17 pc (ic_17 pc) = true := by decide +kernel
  have h3 : ins 17 pc = ic_17 pc := by show (bif Nat.blt pc (nd 17 7) then ic_17 pc else none) = _; rw [show Nat.blt pc (nd 17 7) = true from Nat.ble_eq_true_of_le h]; rfl
  rw [h3]; exact h2 pc h
set_option maxRecDepth 100000 in
theorem okC_18 : okC 18 := by
  intro pc h
  have h2 : ∀ pc, pc < 5 → okI cX2_symbol 18 pc (ic_18 pc) = true := by decide +kernel
  have h3 : ins 18 pc = ic_18 pc := by show (bif Nat.blt pc (nd 18 7) then ic_18 pc else none) = _; rw [show Nat.blt pc (nd 18 7) = true from Nat.ble_eq_true_of_le h]; rfl
  rw [h3]; exact h2 pc h
set_option maxRecDepth 100000 in
theorem okC_19 : okC 19 := by
  intro pc h
  have h2 : ∀ pc, pc < 30 → okI cX2_indexOf 19 pc (ic_19 pc) = true := by decide +kernel
  have h3 : ins 19 pc = ic_19 pc := by show (bif Nat.blt pc (nd 19 7) then ic_19 pc else none) = _; rw [show Nat.blt pc (nd 19 7) = true from Nat.ble_eq_true_of_le h]; rfl
  rw [h3]; exact h2 pc h
set_option maxRecDepth 100000 in
theorem okC_20 : okC 20 := by
  intro pc h
  have h2 : ∀ pc, pc < 24 → okI cX2_cellAt 20 pc (ic_20 pc) = true := by decide +kernel
  have h3 : ins 20 pc = ic_20 pc := by show (bif Nat.blt pc (nd 20 7) then ic_20 pc else none) = _; rw [show Nat.blt pc (nd 20 7) = true from Nat.ble_eq_true_of_le h]; rfl
  rw [h3]; exact h2 pc h
set_option maxRecDepth 100000 in
theorem okC_21 : okC 21 := by
  intro pc h
  have h2 : ∀ pc, pc < 9 → okI cX2_kindAt 21 pc (ic_21 pc) = true := by decide +kernel
  have h3 : ins 21 pc = ic_21 pc := by show (bif Nat.blt pc (nd 21 7) then ic_21 pc else none) = _; rw [show Nat.blt pc (nd 21 7) = true from Nat.ble_eq_true_of_le h]; rfl
  rw [h3]; exact h2 pc h
set_option maxRecDepth 100000 in
theorem okC_22 : okC 22 := by
  intro pc h
  have h2 : ∀ pc, pc < 6 → okI cX2_clear 22 pc (ic_22 pc) = true := by decide +kernel
  have h3 : ins 22 pc = ic_22 pc := by show (bif Nat.blt pc (nd 22 7) then ic_22 pc else none) = _; rw [show Nat.blt pc (nd 22 7) = true from Nat.ble_eq_true_of_le h]; rfl
  rw [h3]; exact h2 pc h
set_option maxRecDepth 100000 in
theorem okC_23 : okC 23 := by
  intro pc h
  have h2 : ∀ pc, pc < 33 → okI cX2_add 23 pc (ic_23 pc) = true := by decide +kernel
  have h3 : ins 23 pc = ic_23 pc := by show (bif Nat.blt pc (nd 23 7) then ic_23 pc else none) = _; rw [show Nat.blt pc (nd 23 7) = true from Nat.ble_eq_true_of_le h]; rfl
  rw [h3]; exact h2 pc h
set_option maxRecDepth 100000 in
theorem okC_24 : okC 24 := by
  intro pc h
  have h2 : ∀ pc, pc < 68 → okI cX2_addPart 24 pc (ic_24 pc) = true := by decide +kernel
  have h3 : ins 24 pc = ic_24 pc := by show (bif Nat.blt pc (nd 24 7) then ic_24 pc else none) = _; rw [show Nat.blt pc (nd 24 7) = true from Nat.ble_eq_true_of_le h]; rfl
  rw [h3]; exact h2 pc h
set_option maxRecDepth 100000 in
theorem okC_25 : okC 25 := by
  intro pc h
  have h2 : ∀ pc, pc < 11 → okI cX2_addAll 25 pc (ic_25 pc) = true := by decide +kernel
  have h3 : ins 25 pc = ic_25 pc := by show (bif Nat.blt pc (nd 25 7) then ic_25 pc else none) = _; rw [show Nat.blt pc (nd 25 7) = true from Nat.ble_eq_true_of_le h]; rfl
  rw [h3]; exact h2 pc h
set_option maxRecDepth 100000 in
theorem okC_26 : okC 26 := by
  intro pc h
  have h2 : ∀ pc, pc < 67 → okI cX2_addRenamed 26 pc (ic_26 pc) = true := by decide +kernel
  have h3 : ins 26 pc = ic_26 pc := by show (bif Nat.blt pc (nd 26 7) then ic_26 pc else none) = _; rw [show Nat.blt pc (nd 26 7) = true from Nat.ble_eq_true_of_le h]; rfl
  rw [h3]; exact h2 pc h
set_option maxRecDepth 100000 in
theorem okC_27 : okC 27 := by
  intro pc h
  have h2 : ∀ pc, pc < 34 → okI cX2_become 27 pc (ic_27 pc) = true := by decide +kernel
  have h3 : ins 27 pc = ic_27 pc := by show (bif Nat.blt pc (nd 27 7) then ic_27 pc else none) = _; rw [show Nat.blt pc (nd 27 7) = true from Nat.ble_eq_true_of_le h]; rfl
  rw [h3]; exact h2 pc h
set_option maxRecDepth 100000 in
theorem okC_28 : okC 28 := by
  intro pc h
  have h2 : ∀ pc, pc < 41 → okI cX2_setArity 28 pc (ic_28 pc) = true := by decide +kernel
  have h3 : ins 28 pc = ic_28 pc := by show (bif Nat.blt pc (nd 28 7) then ic_28 pc else none) = _; rw [show Nat.blt pc (nd 28 7) = true from Nat.ble_eq_true_of_le h]; rfl
  rw [h3]; exact h2 pc h
set_option maxRecDepth 100000 in
theorem okC_29 : okC 29 := by
  intro pc h
  have h2 : ∀ pc, pc < 49 → okI cX2_behind 29 pc (ic_29 pc) = true := by decide +kernel
  have h3 : ins 29 pc = ic_29 pc := by show (bif Nat.blt pc (nd 29 7) then ic_29 pc else none) = _; rw [show Nat.blt pc (nd 29 7) = true from Nat.ble_eq_true_of_le h]; rfl
  rw [h3]; exact h2 pc h
set_option maxRecDepth 100000 in
theorem okC_30 : okC 30 := by
  intro pc h
  have h2 : ∀ pc, pc < 65 → okI cX2_samePart 30 pc (ic_30 pc) = true := by decide +kernel
  have h3 : ins 30 pc = ic_30 pc := by show (bif Nat.blt pc (nd 30 7) then ic_30 pc else none) = _; rw [show Nat.blt pc (nd 30 7) = true from Nat.ble_eq_true_of_le h]; rfl
  rw [h3]; exact h2 pc h
set_option maxRecDepth 100000 in
theorem okC_31 : okC 31 := by
  intro pc h
  have h2 : ∀ pc, pc < 40 → okI cX2_firstUndone 31 pc (ic_31 pc) = true := by decide +kernel
  have h3 : ins 31 pc = ic_31 pc := by show (bif Nat.blt pc (nd 31 7) then ic_31 pc else none) = _; rw [show Nat.blt pc (nd 31 7) = true from Nat.ble_eq_true_of_le h]; rfl
  rw [h3]; exact h2 pc h
set_option maxRecDepth 100000 in
theorem okC_32 : okC 32 := by
  intro pc h
  have h2 : ∀ pc, pc < 54 → okI cX2_deepAt 32 pc (ic_32 pc) = true := by decide +kernel
  have h3 : ins 32 pc = ic_32 pc := by show (bif Nat.blt pc (nd 32 7) then ic_32 pc else none) = _; rw [show Nat.blt pc (nd 32 7) = true from Nat.ble_eq_true_of_le h]; rfl
  rw [h3]; exact h2 pc h
set_option maxRecDepth 100000 in
theorem okC_33 : okC 33 := by
  intro pc h
  have h2 : ∀ pc, pc < 55 → okI cX2_countNested 33 pc (ic_33 pc) = true := by decide +kernel
  have h3 : ins 33 pc = ic_33 pc := by show (bif Nat.blt pc (nd 33 7) then ic_33 pc else none) = _; rw [show Nat.blt pc (nd 33 7) = true from Nat.ble_eq_true_of_le h]; rfl
  rw [h3]; exact h2 pc h
set_option maxRecDepth 100000 in
theorem okC_34 : okC 34 := by
  intro pc h
  have h2 : ∀ pc, pc < 36 → okI cX2_countCalls 34 pc (ic_34 pc) = true := by decide +kernel
  have h3 : ins 34 pc = ic_34 pc := by show (bif Nat.blt pc (nd 34 7) then ic_34 pc else none) = _; rw [show Nat.blt pc (nd 34 7) = true from Nat.ble_eq_true_of_le h]; rfl
  rw [h3]; exact h2 pc h
set_option maxRecDepth 100000 in
theorem okC_35 : okC 35 := by
  intro pc h
  have h2 : ∀ pc, pc < 53 → okI cX2_countVars 35 pc (ic_35 pc) = true := by decide +kernel
  have h3 : ins 35 pc = ic_35 pc := by show (bif Nat.blt pc (nd 35 7) then ic_35 pc else none) = _; rw [show Nat.blt pc (nd 35 7) = true from Nat.ble_eq_true_of_le h]; rfl
  rw [h3]; exact h2 pc h
set_option maxRecDepth 100000 in
theorem okC_36 : okC 36 := by
  intro pc h
  have h2 : ∀ pc, pc < 77 → okI cX2_listVars 36 pc (ic_36 pc) = true := by decide +kernel
  have h3 : ins 36 pc = ic_36 pc := by show (bif Nat.blt pc (nd 36 7) then ic_36 pc else none) = _; rw [show Nat.blt pc (nd 36 7) = true from Nat.ble_eq_true_of_le h]; rfl
  rw [h3]; exact h2 pc h
set_option maxRecDepth 100000 in
theorem okC_37 : okC 37 := by
  intro pc h
  have h2 : ∀ pc, pc < 86 → okI cX3_init 37 pc (ic_37 pc) = true := by decide +kernel
  have h3 : ins 37 pc = ic_37 pc := by show (bif Nat.blt pc (nd 37 7) then ic_37 pc else none) = _; rw [show Nat.blt pc (nd 37 7) = true from Nat.ble_eq_true_of_le h]; rfl
  rw [h3]; exact h2 pc h
set_option maxRecDepth 100000 in
theorem okC_38 : okC 38 := by
  intro pc h
  have h2 : ∀ pc, pc < 88 → okI cX3_isRenaming 38 pc (ic_38 pc) = true := by decide +kernel
  have h3 : ins 38 pc = ic_38 pc := by show (bif Nat.blt pc (nd 38 7) then ic_38 pc else none) = _; rw [show Nat.blt pc (nd 38 7) = true from Nat.ble_eq_true_of_le h]; rfl
  rw [h3]; exact h2 pc h
set_option maxRecDepth 100000 in
theorem okC_39 : okC 39 := by
  intro pc h
  have h2 : ∀ pc, pc < 105 → okI cX3_isInstance 39 pc (ic_39 pc) = true := by decide +kernel
  have h3 : ins 39 pc = ic_39 pc := by show (bif Nat.blt pc (nd 39 7) then ic_39 pc else none) = _; rw [show Nat.blt pc (nd 39 7) = true from Nat.ble_eq_true_of_le h]; rfl
  rw [h3]; exact h2 pc h
set_option maxRecDepth 100000 in
theorem okC_40 : okC 40 := by
  intro pc h
  have h2 : ∀ pc, pc < 127 → okI cX3_makeCommon 40 pc (ic_40 pc) = true := by decide +kernel
  have h3 : ins 40 pc = ic_40 pc := by show (bif Nat.blt pc (nd 40 7) then ic_40 pc else none) = _; rw [show Nat.blt pc (nd 40 7) = true from Nat.ble_eq_true_of_le h]; rfl
  rw [h3]; exact h2 pc h
set_option maxRecDepth 100000 in
theorem okC_41 : okC 41 := by
  intro pc h
  have h2 : ∀ pc, pc < 77 → okI cX3_pairVars 41 pc (ic_41 pc) = true := by decide +kernel
  have h3 : ins 41 pc = ic_41 pc := by show (bif Nat.blt pc (nd 41 7) then ic_41 pc else none) = _; rw [show Nat.blt pc (nd 41 7) = true from Nat.ble_eq_true_of_le h]; rfl
  rw [h3]; exact h2 pc h
set_option maxRecDepth 100000 in
theorem okC_42 : okC 42 := by
  intro pc h
  have h2 : ∀ pc, pc < 89 → okI cX3_standFor 42 pc (ic_42 pc) = true := by decide +kernel
  have h3 : ins 42 pc = ic_42 pc := by show (bif Nat.blt pc (nd 42 7) then ic_42 pc else none) = _; rw [show Nat.blt pc (nd 42 7) = true from Nat.ble_eq_true_of_le h]; rfl
  rw [h3]; exact h2 pc h
set_option maxRecDepth 100000 in
theorem okC_43 : okC 43 := by
  intro pc h
  have h2 : ∀ pc, pc < 117 → okI cX3_indexOfPair 43 pc (ic_43 pc) = true := by decide +kernel
  have h3 : ins 43 pc = ic_43 pc := by show (bif Nat.blt pc (nd 43 7) then ic_43 pc else none) = _; rw [show Nat.blt pc (nd 43 7) = true from Nat.ble_eq_true_of_le h]; rfl
  rw [h3]; exact h2 pc h
theorem okC_44_0 : ∀ j, j < 64 → okI cX3_compare 44 (0 + j) (ic_44 (0 + j)) = true := by decide +kernel
theorem okC_44_1 : ∀ j, j < 64 → okI cX3_compare 44 (64 + j) (ic_44 (64 + j)) = true := by decide +kernel
theorem okC_44_2 : ∀ j, j < 64 → okI cX3_compare 44 (128 + j) (ic_44 (128 + j)) = true := by decide +kernel
theorem okC_44_3 : ∀ j, j < 64 → okI cX3_compare 44 (192 + j) (ic_44 (192 + j)) = true := by decide +kernel
set_option maxRecDepth 100000 in
theorem okC_44 : okC 44 := by
  intro pc h
  have h3 : ins 44 pc = ic_44 pc := by show (bif Nat.blt pc (nd 44 7) then ic_44 pc else none) = _; rw [show Nat.blt pc (nd 44 7) = true from Nat.ble_eq_true_of_le h]; rfl
  rw [h3]
  have h6 : pc < 214 := h
  show okI cX3_compare 44 pc (ic_44 pc) = true
  by_cases q0 : pc < 64
  · have h5 := okC_44_0 (pc - 0) (by omega)
    rw [show 0 + (pc - 0) = pc by omega] at h5
    exact h5
  by_cases q1 : pc < 128
  · have h5 := okC_44_1 (pc - 64) (by omega)
    rw [show 64 + (pc - 64) = pc by omega] at h5
    exact h5
  by_cases q2 : pc < 192
  · have h5 := okC_44_2 (pc - 128) (by omega)
    rw [show 128 + (pc - 128) = pc by omega] at h5
    exact h5
  by_cases q3 : pc < 256
  · have h5 := okC_44_3 (pc - 192) (by omega)
    rw [show 192 + (pc - 192) = pc by omega] at h5
    exact h5
  omega
set_option maxRecDepth 100000 in
theorem okC_45 : okC 45 := by
  intro pc h
  have h2 : ∀ pc, pc < 128 → okI cX3_arePartsCoupled 45 pc (ic_45 pc) = true := by decide +kernel
  have h3 : ins 45 pc = ic_45 pc := by show (bif Nat.blt pc (nd 45 7) then ic_45 pc else none) = _; rw [show Nat.blt pc (nd 45 7) = true from Nat.ble_eq_true_of_le h]; rfl
  rw [h3]; exact h2 pc h
set_option maxRecDepth 100000 in
theorem okC_46 : okC 46 := by
  intro pc h
  have h2 : ∀ pc, pc < 66 → okI cX3_isInArgument 46 pc (ic_46 pc) = true := by decide +kernel
  have h3 : ins 46 pc = ic_46 pc := by show (bif Nat.blt pc (nd 46 7) then ic_46 pc else none) = _; rw [show Nat.blt pc (nd 46 7) = true from Nat.ble_eq_true_of_le h]; rfl
  rw [h3]; exact h2 pc h
set_option maxRecDepth 100000 in
theorem okC_47 : okC 47 := by
  intro pc h
  have h2 : ∀ pc, pc < 49 → okI cX4_init 47 pc (ic_47 pc) = true := by decide +kernel
  have h3 : ins 47 pc = ic_47 pc := by show (bif Nat.blt pc (nd 47 7) then ic_47 pc else none) = _; rw [show Nat.blt pc (nd 47 7) = true from Nat.ble_eq_true_of_le h]; rfl
  rw [h3]; exact h2 pc h
set_option maxRecDepth 100000 in
theorem okC_48 : okC 48 := by
  intro pc h
  have h2 : ∀ pc, pc < 98 → okI cX4_begin 48 pc (ic_48 pc) = true := by decide +kernel
  have h3 : ins 48 pc = ic_48 pc := by show (bif Nat.blt pc (nd 48 7) then ic_48 pc else none) = _; rw [show Nat.blt pc (nd 48 7) = true from Nat.ble_eq_true_of_le h]; rfl
  rw [h3]; exact h2 pc h
set_option maxRecDepth 100000 in
theorem okC_49 : okC 49 := by
  intro pc h
  have h2 : ∀ pc, pc < 16 → okI cX4_dropBelow 49 pc (ic_49 pc) = true := by decide +kernel
  have h3 : ins 49 pc = ic_49 pc := by show (bif Nat.blt pc (nd 49 7) then ic_49 pc else none) = _; rw [show Nat.blt pc (nd 49 7) = true from Nat.ble_eq_true_of_le h]; rfl
  rw [h3]; exact h2 pc h
set_option maxRecDepth 100000 in
theorem okC_50 : okC 50 := by
  intro pc h
  have h2 : ∀ pc, pc < 29 → okI cX4_measure 50 pc (ic_50 pc) = true := by decide +kernel
  have h3 : ins 50 pc = ic_50 pc := by show (bif Nat.blt pc (nd 50 7) then ic_50 pc else none) = _; rw [show Nat.blt pc (nd 50 7) = true from Nat.ble_eq_true_of_le h]; rfl
  rw [h3]; exact h2 pc h
set_option maxRecDepth 100000 in
theorem okC_51 : okC 51 := by
  intro pc h
  have h2 : ∀ pc, pc < 39 → okI cX4_addBelow 51 pc (ic_51 pc) = true := by decide +kernel
  have h3 : ins 51 pc = ic_51 pc := by show (bif Nat.blt pc (nd 51 7) then ic_51 pc else none) = _; rw [show Nat.blt pc (nd 51 7) = true from Nat.ble_eq_true_of_le h]; rfl
  rw [h3]; exact h2 pc h
set_option maxRecDepth 100000 in
theorem okC_52 : okC 52 := by
  intro pc h
  have h2 : ∀ pc, pc < 46 → okI cX5_init 52 pc (ic_52 pc) = true := by decide +kernel
  have h3 : ins 52 pc = ic_52 pc := by show (bif Nat.blt pc (nd 52 7) then ic_52 pc else none) = _; rw [show Nat.blt pc (nd 52 7) = true from Nat.ble_eq_true_of_le h]; rfl
  rw [h3]; exact h2 pc h
set_option maxRecDepth 100000 in
theorem okC_53 : okC 53 := by
  intro pc h
  have h2 : ∀ pc, pc < 6 → okI cX5_clear 53 pc (ic_53 pc) = true := by decide +kernel
  have h3 : ins 53 pc = ic_53 pc := by show (bif Nat.blt pc (nd 53 7) then ic_53 pc else none) = _; rw [show Nat.blt pc (nd 53 7) = true from Nat.ble_eq_true_of_le h]; rfl
  rw [h3]; exact h2 pc h
set_option maxRecDepth 100000 in
theorem okC_54 : okC 54 := by
  intro pc h
  have h2 : ∀ pc, pc < 32 → okI cX5_clauseAt 54 pc (ic_54 pc) = true := by decide +kernel
  have h3 : ins 54 pc = ic_54 pc := by show (bif Nat.blt pc (nd 54 7) then ic_54 pc else none) = _; rw [show Nat.blt pc (nd 54 7) = true from Nat.ble_eq_true_of_le h]; rfl
  rw [h3]; exact h2 pc h
set_option maxRecDepth 100000 in
theorem okC_55 : okC 55 := by
  intro pc h
  have h2 : ∀ pc, pc < 36 → okI cX5_spareClause 55 pc (ic_55 pc) = true := by decide +kernel
  have h3 : ins 55 pc = ic_55 pc := by show (bif Nat.blt pc (nd 55 7) then ic_55 pc else none) = _; rw [show Nat.blt pc (nd 55 7) = true from Nat.ble_eq_true_of_le h]; rfl
  rw [h3]; exact h2 pc h
set_option maxRecDepth 100000 in
theorem okC_56 : okC 56 := by
  intro pc h
  have h2 : ∀ pc, pc < 23 → okI cX5_keepSpare 56 pc (ic_56 pc) = true := by decide +kernel
  have h3 : ins 56 pc = ic_56 pc := by show (bif Nat.blt pc (nd 56 7) then ic_56 pc else none) = _; rw [show Nat.blt pc (nd 56 7) = true from Nat.ble_eq_true_of_le h]; rfl
  rw [h3]; exact h2 pc h
set_option maxRecDepth 100000 in
theorem okC_57 : okC 57 := by
  intro pc h
  have h2 : ∀ pc, pc < 38 → okI cX5_firstOf 57 pc (ic_57 pc) = true := by decide +kernel
  have h3 : ins 57 pc = ic_57 pc := by show (bif Nat.blt pc (nd 57 7) then ic_57 pc else none) = _; rw [show Nat.blt pc (nd 57 7) = true from Nat.ble_eq_true_of_le h]; rfl
  rw [h3]; exact h2 pc h
set_option maxRecDepth 100000 in
theorem okC_58 : okC 58 := by
  intro pc h
  have h2 : ∀ pc, pc < 51 → okI cX5_caseOf 58 pc (ic_58 pc) = true := by decide +kernel
  have h3 : ins 58 pc = ic_58 pc := by show (bif Nat.blt pc (nd 58 7) then ic_58 pc else none) = _; rw [show Nat.blt pc (nd 58 7) = true from Nat.ble_eq_true_of_le h]; rfl
  rw [h3]; exact h2 pc h
set_option maxRecDepth 100000 in
theorem okC_59 : okC 59 := by
  intro pc h
  have h2 : ∀ pc, pc < 50 → okI cX5_contradicts 59 pc (ic_59 pc) = true := by decide +kernel
  have h3 : ins 59 pc = ic_59 pc := by show (bif Nat.blt pc (nd 59 7) then ic_59 pc else none) = _; rw [show Nat.blt pc (nd 59 7) = true from Nat.ble_eq_true_of_le h]; rfl
  rw [h3]; exact h2 pc h
set_option maxRecDepth 100000 in
theorem okC_60 : okC 60 := by
  intro pc h
  have h2 : ∀ pc, pc < 45 → okI cX5_countFunctions 60 pc (ic_60 pc) = true := by decide +kernel
  have h3 : ins 60 pc = ic_60 pc := by show (bif Nat.blt pc (nd 60 7) then ic_60 pc else none) = _; rw [show Nat.blt pc (nd 60 7) = true from Nat.ble_eq_true_of_le h]; rfl
  rw [h3]; exact h2 pc h
set_option maxRecDepth 100000 in
theorem okC_61 : okC 61 := by
  intro pc h
  have h2 : ∀ pc, pc < 35 → okI cX5_countAtOnce 61 pc (ic_61 pc) = true := by decide +kernel
  have h3 : ins 61 pc = ic_61 pc := by show (bif Nat.blt pc (nd 61 7) then ic_61 pc else none) = _; rw [show Nat.blt pc (nd 61 7) = true from Nat.ble_eq_true_of_le h]; rfl
  rw [h3]; exact h2 pc h
set_option maxRecDepth 100000 in
theorem okC_62 : okC 62 := by
  intro pc h
  have h2 : ∀ pc, pc < 35 → okI cX5_countRight 62 pc (ic_62 pc) = true := by decide +kernel
  have h3 : ins 62 pc = ic_62 pc := by show (bif Nat.blt pc (nd 62 7) then ic_62 pc else none) = _; rw [show Nat.blt pc (nd 62 7) = true from Nat.ble_eq_true_of_le h]; rfl
  rw [h3]; exact h2 pc h
set_option maxRecDepth 100000 in
theorem okC_63 : okC 63 := by
  intro pc h
  have h2 : ∀ pc, pc < 63 → okI cX6_init 63 pc (ic_63 pc) = true := by decide +kernel
  have h3 : ins 63 pc = ic_63 pc := by show (bif Nat.blt pc (nd 63 7) then ic_63 pc else none) = _; rw [show Nat.blt pc (nd 63 7) = true from Nat.ble_eq_true_of_le h]; rfl
  rw [h3]; exact h2 pc h
set_option maxRecDepth 100000 in
theorem okC_64 : okC 64 := by
  intro pc h
  have h2 : ∀ pc, pc < 47 → okI cX6_addWord 64 pc (ic_64 pc) = true := by decide +kernel
  have h3 : ins 64 pc = ic_64 pc := by show (bif Nat.blt pc (nd 64 7) then ic_64 pc else none) = _; rw [show Nat.blt pc (nd 64 7) = true from Nat.ble_eq_true_of_le h]; rfl
  rw [h3]; exact h2 pc h
set_option maxRecDepth 100000 in
theorem okC_65 : okC 65 := by
  intro pc h
  have h2 : ∀ pc, pc < 21 → okI cX6_cut 65 pc (ic_65 pc) = true := by decide +kernel
  have h3 : ins 65 pc = ic_65 pc := by show (bif Nat.blt pc (nd 65 7) then ic_65 pc else none) = _; rw [show Nat.blt pc (nd 65 7) = true from Nat.ble_eq_true_of_le h]; rfl
  rw [h3]; exact h2 pc h
set_option maxRecDepth 100000 in
theorem okC_66 : okC 66 := by
  intro pc h
  have h2 : ∀ pc, pc < 46 → okI cX6_readProgram 66 pc (ic_66 pc) = true := by decide +kernel
  have h3 : ins 66 pc = ic_66 pc := by show (bif Nat.blt pc (nd 66 7) then ic_66 pc else none) = _; rw [show Nat.blt pc (nd 66 7) = true from Nat.ble_eq_true_of_le h]; rfl
  rw [h3]; exact h2 pc h
set_option maxRecDepth 100000 in
theorem okC_67 : okC 67 := by
  intro pc h
  have h2 : ∀ pc, pc < 43 → okI cX6_readWhole 67 pc (ic_67 pc) = true := by decide +kernel
  have h3 : ins 67 pc = ic_67 pc := by show (bif Nat.blt pc (nd 67 7) then ic_67 pc else none) = _; rw [show Nat.blt pc (nd 67 7) = true from Nat.ble_eq_true_of_le h]; rfl
  rw [h3]; exact h2 pc h
set_option maxRecDepth 100000 in
theorem okC_68 : okC 68 := by
  intro pc h
  have h2 : ∀ pc, pc < 76 → okI cX6_readBound 68 pc (ic_68 pc) = true := by decide +kernel
  have h3 : ins 68 pc = ic_68 pc := by show (bif Nat.blt pc (nd 68 7) then ic_68 pc else none) = _; rw [show Nat.blt pc (nd 68 7) = true from Nat.ble_eq_true_of_le h]; rfl
  rw [h3]; exact h2 pc h
set_option maxRecDepth 100000 in
theorem okC_69 : okC 69 := by
  intro pc h
  have h2 : ∀ pc, pc < 80 → okI cX6_readBinding 69 pc (ic_69 pc) = true := by decide +kernel
  have h3 : ins 69 pc = ic_69 pc := by show (bif Nat.blt pc (nd 69 7) then ic_69 pc else none) = _; rw [show Nat.blt pc (nd 69 7) = true from Nat.ble_eq_true_of_le h]; rfl
  rw [h3]; exact h2 pc h
set_option maxRecDepth 100000 in
theorem okC_70 : okC 70 := by
  intro pc h
  have h2 : ∀ pc, pc < 134 → okI cX6_readClause 70 pc (ic_70 pc) = true := by decide +kernel
  have h3 : ins 70 pc = ic_70 pc := by show (bif Nat.blt pc (nd 70 7) then ic_70 pc else none) = _; rw [show Nat.blt pc (nd 70 7) = true from Nat.ble_eq_true_of_le h]; rfl
  rw [h3]; exact h2 pc h
set_option maxRecDepth 100000 in
theorem okC_71 : okC 71 := by
  intro pc h
  have h2 : ∀ pc, pc < 141 → okI cX6_readPatterns 71 pc (ic_71 pc) = true := by decide +kernel
  have h3 : ins 71 pc = ic_71 pc := by show (bif Nat.blt pc (nd 71 7) then ic_71 pc else none) = _; rw [show Nat.blt pc (nd 71 7) = true from Nat.ble_eq_true_of_le h]; rfl
  rw [h3]; exact h2 pc h
set_option maxRecDepth 100000 in
theorem okC_72 : okC 72 := by
  intro pc h
  have h2 : ∀ pc, pc < 139 → okI cX6_readCase 72 pc (ic_72 pc) = true := by decide +kernel
  have h3 : ins 72 pc = ic_72 pc := by show (bif Nat.blt pc (nd 72 7) then ic_72 pc else none) = _; rw [show Nat.blt pc (nd 72 7) = true from Nat.ble_eq_true_of_le h]; rfl
  rw [h3]; exact h2 pc h
set_option maxRecDepth 100000 in
theorem okC_73 : okC 73 := by
  intro pc h
  have h2 : ∀ pc, pc < 53 → okI cX6_readLeftVar 73 pc (ic_73 pc) = true := by decide +kernel
  have h3 : ins 73 pc = ic_73 pc := by show (bif Nat.blt pc (nd 73 7) then ic_73 pc else none) = _; rw [show Nat.blt pc (nd 73 7) = true from Nat.ble_eq_true_of_le h]; rfl
  rw [h3]; exact h2 pc h
set_option maxRecDepth 100000 in
theorem okC_74 : okC 74 := by
  intro pc h
  have h2 : ∀ pc, pc < 110 → okI cX6_readExpr 74 pc (ic_74 pc) = true := by decide +kernel
  have h3 : ins 74 pc = ic_74 pc := by show (bif Nat.blt pc (nd 74 7) then ic_74 pc else none) = _; rw [show Nat.blt pc (nd 74 7) = true from Nat.ble_eq_true_of_le h]; rfl
  rw [h3]; exact h2 pc h
set_option maxRecDepth 100000 in
theorem okC_75 : okC 75 := by
  intro pc h
  have h2 : ∀ pc, pc < 62 → okI cX6_readThing 75 pc (ic_75 pc) = true := by decide +kernel
  have h3 : ins 75 pc = ic_75 pc := by show (bif Nat.blt pc (nd 75 7) then ic_75 pc else none) = _; rw [show Nat.blt pc (nd 75 7) = true from Nat.ble_eq_true_of_le h]; rfl
  rw [h3]; exact h2 pc h
set_option maxRecDepth 100000 in
theorem okC_76 : okC 76 := by
  intro pc h
  have h2 : ∀ pc, pc < 48 → okI cX6_readVar 76 pc (ic_76 pc) = true := by decide +kernel
  have h3 : ins 76 pc = ic_76 pc := by show (bif Nat.blt pc (nd 76 7) then ic_76 pc else none) = _; rw [show Nat.blt pc (nd 76 7) = true from Nat.ble_eq_true_of_le h]; rfl
  rw [h3]; exact h2 pc h
set_option maxRecDepth 100000 in
theorem okC_77 : okC 77 := by
  intro pc h
  have h2 : ∀ pc, pc < 66 → okI cX6_readCon 77 pc (ic_77 pc) = true := by decide +kernel
  have h3 : ins 77 pc = ic_77 pc := by show (bif Nat.blt pc (nd 77 7) then ic_77 pc else none) = _; rw [show Nat.blt pc (nd 77 7) = true from Nat.ble_eq_true_of_le h]; rfl
  rw [h3]; exact h2 pc h
set_option maxRecDepth 100000 in
theorem okC_78 : okC 78 := by
  intro pc h
  have h2 : ∀ pc, pc < 74 → okI cX6_readCall 78 pc (ic_78 pc) = true := by decide +kernel
  have h3 : ins 78 pc = ic_78 pc := by show (bif Nat.blt pc (nd 78 7) then ic_78 pc else none) = _; rw [show Nat.blt pc (nd 78 7) = true from Nat.ble_eq_true_of_le h]; rfl
  rw [h3]; exact h2 pc h
set_option maxRecDepth 100000 in
theorem okC_79 : okC 79 := by
  intro pc h
  have h2 : ∀ pc, pc < 56 → okI cX6_openThing 79 pc (ic_79 pc) = true := by decide +kernel
  have h3 : ins 79 pc = ic_79 pc := by show (bif Nat.blt pc (nd 79 7) then ic_79 pc else none) = _; rw [show Nat.blt pc (nd 79 7) = true from Nat.ble_eq_true_of_le h]; rfl
  rw [h3]; exact h2 pc h
set_option maxRecDepth 100000 in
theorem okC_80 : okC 80 := by
  intro pc h
  have h2 : ∀ pc, pc < 128 → okI cX6_closeThings 80 pc (ic_80 pc) = true := by decide +kernel
  have h3 : ins 80 pc = ic_80 pc := by show (bif Nat.blt pc (nd 80 7) then ic_80 pc else none) = _; rw [show Nat.blt pc (nd 80 7) = true from Nat.ble_eq_true_of_le h]; rfl
  rw [h3]; exact h2 pc h
set_option maxRecDepth 100000 in
theorem okC_81 : okC 81 := by
  intro pc h
  have h2 : ∀ pc, pc < 97 → okI cX6_readName 81 pc (ic_81 pc) = true := by decide +kernel
  have h3 : ins 81 pc = ic_81 pc := by show (bif Nat.blt pc (nd 81 7) then ic_81 pc else none) = _; rw [show Nat.blt pc (nd 81 7) = true from Nat.ble_eq_true_of_le h]; rfl
  rw [h3]; exact h2 pc h
set_option maxRecDepth 100000 in
theorem okC_82 : okC 82 := by
  intro pc h
  have h2 : ∀ pc, pc < 46 → okI cX6_peek 82 pc (ic_82 pc) = true := by decide +kernel
  have h3 : ins 82 pc = ic_82 pc := by show (bif Nat.blt pc (nd 82 7) then ic_82 pc else none) = _; rw [show Nat.blt pc (nd 82 7) = true from Nat.ble_eq_true_of_le h]; rfl
  rw [h3]; exact h2 pc h
set_option maxRecDepth 100000 in
theorem okC_83 : okC 83 := by
  intro pc h
  have h2 : ∀ pc, pc < 29 → okI cX6_expect 83 pc (ic_83 pc) = true := by decide +kernel
  have h3 : ins 83 pc = ic_83 pc := by show (bif Nat.blt pc (nd 83 7) then ic_83 pc else none) = _; rw [show Nat.blt pc (nd 83 7) = true from Nat.ble_eq_true_of_le h]; rfl
  rw [h3]; exact h2 pc h
set_option maxRecDepth 100000 in
theorem okC_84 : okC 84 := by
  intro pc h
  have h2 : ∀ pc, pc < 7 → okI cX6_fail 84 pc (ic_84 pc) = true := by decide +kernel
  have h3 : ins 84 pc = ic_84 pc := by show (bif Nat.blt pc (nd 84 7) then ic_84 pc else none) = _; rw [show Nat.blt pc (nd 84 7) = true from Nat.ble_eq_true_of_le h]; rfl
  rw [h3]; exact h2 pc h
set_option maxRecDepth 100000 in
theorem okC_85 : okC 85 := by
  intro pc h
  have h2 : ∀ pc, pc < 18 → okI cX6_isFunctionLetter 85 pc (ic_85 pc) = true := by decide +kernel
  have h3 : ins 85 pc = ic_85 pc := by show (bif Nat.blt pc (nd 85 7) then ic_85 pc else none) = _; rw [show Nat.blt pc (nd 85 7) = true from Nat.ble_eq_true_of_le h]; rfl
  rw [h3]; exact h2 pc h
set_option maxRecDepth 100000 in
theorem okC_86 : okC 86 := by
  intro pc h
  have h2 : ∀ pc, pc < 18 → okI cX6_isVarLetter 86 pc (ic_86 pc) = true := by decide +kernel
  have h3 : ins 86 pc = ic_86 pc := by show (bif Nat.blt pc (nd 86 7) then ic_86 pc else none) = _; rw [show Nat.blt pc (nd 86 7) = true from Nat.ble_eq_true_of_le h]; rfl
  rw [h3]; exact h2 pc h
set_option maxRecDepth 100000 in
theorem okC_87 : okC 87 := by
  intro pc h
  have h2 : ∀ pc, pc < 18 → okI cX6_isConLetter 87 pc (ic_87 pc) = true := by decide +kernel
  have h3 : ins 87 pc = ic_87 pc := by show (bif Nat.blt pc (nd 87 7) then ic_87 pc else none) = _; rw [show Nat.blt pc (nd 87 7) = true from Nat.ble_eq_true_of_le h]; rfl
  rw [h3]; exact h2 pc h
set_option maxRecDepth 100000 in
theorem okC_88 : okC 88 := by
  intro pc h
  have h2 : ∀ pc, pc < 18 → okI cX6_isDigit 88 pc (ic_88 pc) = true := by decide +kernel
  have h3 : ins 88 pc = ic_88 pc := by show (bif Nat.blt pc (nd 88 7) then ic_88 pc else none) = _; rw [show Nat.blt pc (nd 88 7) = true from Nat.ble_eq_true_of_le h]; rfl
  rw [h3]; exact h2 pc h
set_option maxRecDepth 100000 in
theorem okC_89 : okC 89 := by
  intro pc h
  have h2 : ∀ pc, pc < 37 → okI cX7_init 89 pc (ic_89 pc) = true := by decide +kernel
  have h3 : ins 89 pc = ic_89 pc := by show (bif Nat.blt pc (nd 89 7) then ic_89 pc else none) = _; rw [show Nat.blt pc (nd 89 7) = true from Nat.ble_eq_true_of_le h]; rfl
  rw [h3]; exact h2 pc h
set_option maxRecDepth 100000 in
theorem okC_90 : okC 90 := by
  intro pc h
  have h2 : ∀ pc, pc < 52 → okI cX7_make 90 pc (ic_90 pc) = true := by decide +kernel
  have h3 : ins 90 pc = ic_90 pc := by show (bif Nat.blt pc (nd 90 7) then ic_90 pc else none) = _; rw [show Nat.blt pc (nd 90 7) = true from Nat.ble_eq_true_of_le h]; rfl
  rw [h3]; exact h2 pc h
set_option maxRecDepth 100000 in
theorem okC_91 : okC 91 := by
  intro pc h
  have h2 : ∀ pc, pc < 22 → okI cX7_goalOf 91 pc (ic_91 pc) = true := by decide +kernel
  have h3 : ins 91 pc = ic_91 pc := by show (bif Nat.blt pc (nd 91 7) then ic_91 pc else none) = _; rw [show Nat.blt pc (nd 91 7) = true from Nat.ble_eq_true_of_le h]; rfl
  rw [h3]; exact h2 pc h
set_option maxRecDepth 100000 in
theorem okC_92 : okC 92 := by
  intro pc h
  have h2 : ∀ pc, pc < 107 → okI cX7_nameFunctions 92 pc (ic_92 pc) = true := by decide +kernel
  have h3 : ins 92 pc = ic_92 pc := by show (bif Nat.blt pc (nd 92 7) then ic_92 pc else none) = _; rw [show Nat.blt pc (nd 92 7) = true from Nat.ble_eq_true_of_le h]; rfl
  rw [h3]; exact h2 pc h
set_option maxRecDepth 100000 in
theorem okC_93 : okC 93 := by
  intro pc h
  have h2 : ∀ pc, pc < 29 → okI cX7_isFunction 93 pc (ic_93 pc) = true := by decide +kernel
  have h3 : ins 93 pc = ic_93 pc := by show (bif Nat.blt pc (nd 93 7) then ic_93 pc else none) = _; rw [show Nat.blt pc (nd 93 7) = true from Nat.ble_eq_true_of_le h]; rfl
  rw [h3]; exact h2 pc h
set_option maxRecDepth 100000 in
theorem okC_94 : okC 94 := by
  intro pc h
  have h2 : ∀ pc, pc < 46 → okI cX7_findComing 94 pc (ic_94 pc) = true := by decide +kernel
  have h3 : ins 94 pc = ic_94 pc := by show (bif Nat.blt pc (nd 94 7) then ic_94 pc else none) = _; rw [show Nat.blt pc (nd 94 7) = true from Nat.ble_eq_true_of_le h]; rfl
  rw [h3]; exact h2 pc h
set_option maxRecDepth 100000 in
theorem okC_95 : okC 95 := by
  intro pc h
  have h2 : ∀ pc, pc < 157 → okI cX7_fillComing 95 pc (ic_95 pc) = true := by decide +kernel
  have h3 : ins 95 pc = ic_95 pc := by show (bif Nat.blt pc (nd 95 7) then ic_95 pc else none) = _; rw [show Nat.blt pc (nd 95 7) = true from Nat.ble_eq_true_of_le h]; rfl
  rw [h3]; exact h2 pc h
set_option maxRecDepth 100000 in
theorem okC_96 : okC 96 := by
  intro pc h
  have h2 : ∀ pc, pc < 29 → okI cX7_addBelow 96 pc (ic_96 pc) = true := by decide +kernel
  have h3 : ins 96 pc = ic_96 pc := by show (bif Nat.blt pc (nd 96 7) then ic_96 pc else none) = _; rw [show Nat.blt pc (nd 96 7) = true from Nat.ble_eq_true_of_le h]; rfl
  rw [h3]; exact h2 pc h
set_option maxRecDepth 100000 in
theorem okC_97 : okC 97 := by
  intro pc h
  have h2 : ∀ pc, pc < 53 → okI cX7_addCall 97 pc (ic_97 pc) = true := by decide +kernel
  have h3 : ins 97 pc = ic_97 pc := by show (bif Nat.blt pc (nd 97 7) then ic_97 pc else none) = _; rw [show Nat.blt pc (nd 97 7) = true from Nat.ble_eq_true_of_le h]; rfl
  rw [h3]; exact h2 pc h
set_option maxRecDepth 100000 in
theorem okC_98 : okC 98 := by
  intro pc h
  have h2 : ∀ pc, pc < 139 → okI cX7_addLet 98 pc (ic_98 pc) = true := by decide +kernel
  have h3 : ins 98 pc = ic_98 pc := by show (bif Nat.blt pc (nd 98 7) then ic_98 pc else none) = _; rw [show Nat.blt pc (nd 98 7) = true from Nat.ble_eq_true_of_le h]; rfl
  rw [h3]; exact h2 pc h
set_option maxRecDepth 100000 in
theorem okC_99 : okC 99 := by
  intro pc h
  have h2 : ∀ pc, pc < 27 → okI cX7_listArguments 99 pc (ic_99 pc) = true := by decide +kernel
  have h3 : ins 99 pc = ic_99 pc := by show (bif Nat.blt pc (nd 99 7) then ic_99 pc else none) = _; rw [show Nat.blt pc (nd 99 7) = true from Nat.ble_eq_true_of_le h]; rfl
  rw [h3]; exact h2 pc h
set_option maxRecDepth 100000 in
theorem okC_100 : okC 100 := by
  intro pc h
  have h2 : ∀ pc, pc < 40 → okI cX7_listLeftVars 100 pc (ic_100 pc) = true := by decide +kernel
  have h3 : ins 100 pc = ic_100 pc := by show (bif Nat.blt pc (nd 100 7) then ic_100 pc else none) = _; rw [show Nat.blt pc (nd 100 7) = true from Nat.ble_eq_true_of_le h]; rfl
  rw [h3]; exact h2 pc h
set_option maxRecDepth 100000 in
theorem okC_101 : okC 101 := by
  intro pc h
  have h2 : ∀ pc, pc < 49 → okI cX7_listOthers 101 pc (ic_101 pc) = true := by decide +kernel
  have h3 : ins 101 pc = ic_101 pc := by show (bif Nat.blt pc (nd 101 7) then ic_101 pc else none) = _; rw [show Nat.blt pc (nd 101 7) = true from Nat.ble_eq_true_of_le h]; rfl
  rw [h3]; exact h2 pc h
set_option maxRecDepth 100000 in
theorem okC_102 : okC 102 := by
  intro pc h
  have h2 : ∀ pc, pc < 33 → okI cX7_addArgument 102 pc (ic_102 pc) = true := by decide +kernel
  have h3 : ins 102 pc = ic_102 pc := by show (bif Nat.blt pc (nd 102 7) then ic_102 pc else none) = _; rw [show Nat.blt pc (nd 102 7) = true from Nat.ble_eq_true_of_le h]; rfl
  rw [h3]; exact h2 pc h
set_option maxRecDepth 100000 in
theorem okC_103 : okC 103 := by
  intro pc h
  have h2 : ∀ pc, pc < 73 → okI cX7_makeClauses 103 pc (ic_103 pc) = true := by decide +kernel
  have h3 : ins 103 pc = ic_103 pc := by show (bif Nat.blt pc (nd 103 7) then ic_103 pc else none) = _; rw [show Nat.blt pc (nd 103 7) = true from Nat.ble_eq_true_of_le h]; rfl
  rw [h3]; exact h2 pc h
set_option maxRecDepth 100000 in
theorem okC_104 : okC 104 := by
  intro pc h
  have h2 : ∀ pc, pc < 115 → okI cX7_makeClause 104 pc (ic_104 pc) = true := by decide +kernel
  have h3 : ins 104 pc = ic_104 pc := by show (bif Nat.blt pc (nd 104 7) then ic_104 pc else none) = _; rw [show Nat.blt pc (nd 104 7) = true from Nat.ble_eq_true_of_le h]; rfl
  rw [h3]; exact h2 pc h
set_option maxRecDepth 100000 in
theorem okC_105 : okC 105 := by
  intro pc h
  have h2 : ∀ pc, pc < 76 → okI cX8_init 105 pc (ic_105 pc) = true := by decide +kernel
  have h3 : ins 105 pc = ic_105 pc := by show (bif Nat.blt pc (nd 105 7) then ic_105 pc else none) = _; rw [show Nat.blt pc (nd 105 7) = true from Nat.ble_eq_true_of_le h]; rfl
  rw [h3]; exact h2 pc h
set_option maxRecDepth 100000 in
theorem okC_106 : okC 106 := by
  intro pc h
  have h2 : ∀ pc, pc < 141 → okI cX8_perform 106 pc (ic_106 pc) = true := by decide +kernel
  have h3 : ins 106 pc = ic_106 pc := by show (bif Nat.blt pc (nd 106 7) then ic_106 pc else none) = _; rw [show Nat.blt pc (nd 106 7) = true from Nat.ble_eq_true_of_le h]; rfl
  rw [h3]; exact h2 pc h
set_option maxRecDepth 100000 in
theorem okC_107 : okC 107 := by
  intro pc h
  have h2 : ∀ pc, pc < 29 → okI cX8_performOne 107 pc (ic_107 pc) = true := by decide +kernel
  have h3 : ins 107 pc = ic_107 pc := by show (bif Nat.blt pc (nd 107 7) then ic_107 pc else none) = _; rw [show Nat.blt pc (nd 107 7) = true from Nat.ble_eq_true_of_le h]; rfl
  rw [h3]; exact h2 pc h
set_option maxRecDepth 100000 in
theorem okC_108 : okC 108 := by
  intro pc h
  have h2 : ∀ pc, pc < 57 → okI cX8_answer 108 pc (ic_108 pc) = true := by decide +kernel
  have h3 : ins 108 pc = ic_108 pc := by show (bif Nat.blt pc (nd 108 7) then ic_108 pc else none) = _; rw [show Nat.blt pc (nd 108 7) = true from Nat.ble_eq_true_of_le h]; rfl
  rw [h3]; exact h2 pc h
set_option maxRecDepth 100000 in
theorem okC_109 : okC 109 := by
  intro pc h
  have h2 : ∀ pc, pc < 144 → okI cX8_findNext 109 pc (ic_109 pc) = true := by decide +kernel
  have h3 : ins 109 pc = ic_109 pc := by show (bif Nat.blt pc (nd 109 7) then ic_109 pc else none) = _; rw [show Nat.blt pc (nd 109 7) = true from Nat.ble_eq_true_of_le h]; rfl
  rw [h3]; exact h2 pc h
set_option maxRecDepth 100000 in
theorem okC_110 : okC 110 := by
  intro pc h
  have h2 : ∀ pc, pc < 107 → okI cX8_makeStep 110 pc (ic_110 pc) = true := by decide +kernel
  have h3 : ins 110 pc = ic_110 pc := by show (bif Nat.blt pc (nd 110 7) then ic_110 pc else none) = _; rw [show Nat.blt pc (nd 110 7) = true from Nat.ble_eq_true_of_le h]; rfl
  rw [h3]; exact h2 pc h
set_option maxRecDepth 100000 in
theorem okC_111 : okC 111 := by
  intro pc h
  have h2 : ∀ pc, pc < 103 → okI cX8_addRight 111 pc (ic_111 pc) = true := by decide +kernel
  have h3 : ins 111 pc = ic_111 pc := by show (bif Nat.blt pc (nd 111 7) then ic_111 pc else none) = _; rw [show Nat.blt pc (nd 111 7) = true from Nat.ble_eq_true_of_le h]; rfl
  rw [h3]; exact h2 pc h
set_option maxRecDepth 100000 in
theorem okC_112 : okC 112 := by
  intro pc h
  have h2 : ∀ pc, pc < 22 → okI cX8_stateOf 112 pc (ic_112 pc) = true := by decide +kernel
  have h3 : ins 112 pc = ic_112 pc := by show (bif Nat.blt pc (nd 112 7) then ic_112 pc else none) = _; rw [show Nat.blt pc (nd 112 7) = true from Nat.ble_eq_true_of_le h]; rfl
  rw [h3]; exact h2 pc h
set_option maxRecDepth 100000 in
theorem okC_113 : okC 113 := by
  intro pc h
  have h2 : ∀ pc, pc < 35 → okI cX8_undoneState 113 pc (ic_113 pc) = true := by decide +kernel
  have h3 : ins 113 pc = ic_113 pc := by show (bif Nat.blt pc (nd 113 7) then ic_113 pc else none) = _; rw [show Nat.blt pc (nd 113 7) = true from Nat.ble_eq_true_of_le h]; rfl
  rw [h3]; exact h2 pc h
set_option maxRecDepth 100000 in
theorem okC_114 : okC 114 := by
  intro pc h
  have h2 : ∀ pc, pc < 47 → okI cX8_replaceNext 114 pc (ic_114 pc) = true := by decide +kernel
  have h3 : ins 114 pc = ic_114 pc := by show (bif Nat.blt pc (nd 114 7) then ic_114 pc else none) = _; rw [show Nat.blt pc (nd 114 7) = true from Nat.ble_eq_true_of_le h]; rfl
  rw [h3]; exact h2 pc h
set_option maxRecDepth 100000 in
theorem okC_115 : okC 115 := by
  intro pc h
  have h2 : ∀ pc, pc < 114 → okI cX9_init 115 pc (ic_115 pc) = true := by decide +kernel
  have h3 : ins 115 pc = ic_115 pc := by show (bif Nat.blt pc (nd 115 7) then ic_115 pc else none) = _; rw [show Nat.blt pc (nd 115 7) = true from Nat.ble_eq_true_of_le h]; rfl
  rw [h3]; exact h2 pc h
set_option maxRecDepth 100000 in
theorem okC_116 : okC 116 := by
  intro pc h
  have h2 : ∀ pc, pc < 116 → okI cX9_grow 116 pc (ic_116 pc) = true := by decide +kernel
  have h3 : ins 116 pc = ic_116 pc := by show (bif Nat.blt pc (nd 116 7) then ic_116 pc else none) = _; rw [show Nat.blt pc (nd 116 7) = true from Nat.ble_eq_true_of_le h]; rfl
  rw [h3]; exact h2 pc h
set_option maxRecDepth 100000 in
theorem okC_117 : okC 117 := by
  intro pc h
  have h2 : ∀ pc, pc < 32 → okI cX9_nodeAt 117 pc (ic_117 pc) = true := by decide +kernel
  have h3 : ins 117 pc = ic_117 pc := by show (bif Nat.blt pc (nd 117 7) then ic_117 pc else none) = _; rw [show Nat.blt pc (nd 117 7) = true from Nat.ble_eq_true_of_le h]; rfl
  rw [h3]; exact h2 pc h
set_option maxRecDepth 100000 in
theorem okC_118 : okC 118 := by
  intro pc h
  have h2 : ∀ pc, pc < 36 → okI cX9_countKind 118 pc (ic_118 pc) = true := by decide +kernel
  have h3 : ins 118 pc = ic_118 pc := by show (bif Nat.blt pc (nd 118 7) then ic_118 pc else none) = _; rw [show Nat.blt pc (nd 118 7) = true from Nat.ble_eq_true_of_le h]; rfl
  rw [h3]; exact h2 pc h
set_option maxRecDepth 100000 in
theorem okC_119 : okC 119 := by
  intro pc h
  have h2 : ∀ pc, pc < 35 → okI cX9_greatest 119 pc (ic_119 pc) = true := by decide +kernel
  have h3 : ins 119 pc = ic_119 pc := by show (bif Nat.blt pc (nd 119 7) then ic_119 pc else none) = _; rw [show Nat.blt pc (nd 119 7) = true from Nat.ble_eq_true_of_le h]; rfl
  rw [h3]; exact h2 pc h
set_option maxRecDepth 100000 in
theorem okC_120 : okC 120 := by
  intro pc h
  have h2 : ∀ pc, pc < 30 → okI cX9_numberAtRank 120 pc (ic_120 pc) = true := by decide +kernel
  have h3 : ins 120 pc = ic_120 pc := by show (bif Nat.blt pc (nd 120 7) then ic_120 pc else none) = _; rw [show Nat.blt pc (nd 120 7) = true from Nat.ble_eq_true_of_le h]; rfl
  rw [h3]; exact h2 pc h
set_option maxRecDepth 100000 in
theorem okC_121 : okC 121 := by
  intro pc h
  have h2 : ∀ pc, pc < 69 → okI cX9_rankOf 121 pc (ic_121 pc) = true := by decide +kernel
  have h3 : ins 121 pc = ic_121 pc := by show (bif Nat.blt pc (nd 121 7) then ic_121 pc else none) = _; rw [show Nat.blt pc (nd 121 7) = true from Nat.ble_eq_true_of_le h]; rfl
  rw [h3]; exact h2 pc h
set_option maxRecDepth 100000 in
theorem okC_122 : okC 122 := by
  intro pc h
  have h2 : ∀ pc, pc < 33 → okI cX9_clear 122 pc (ic_122 pc) = true := by decide +kernel
  have h3 : ins 122 pc = ic_122 pc := by show (bif Nat.blt pc (nd 122 7) then ic_122 pc else none) = _; rw [show Nat.blt pc (nd 122 7) = true from Nat.ble_eq_true_of_le h]; rfl
  rw [h3]; exact h2 pc h
set_option maxRecDepth 100000 in
theorem okC_123 : okC 123 := by
  intro pc h
  have h2 : ∀ pc, pc < 52 → okI cX9_numberNodes 123 pc (ic_123 pc) = true := by decide +kernel
  have h3 : ins 123 pc = ic_123 pc := by show (bif Nat.blt pc (nd 123 7) then ic_123 pc else none) = _; rw [show Nat.blt pc (nd 123 7) = true from Nat.ble_eq_true_of_le h]; rfl
  rw [h3]; exact h2 pc h
set_option maxRecDepth 100000 in
theorem okC_124 : okC 124 := by
  intro pc h
  have h2 : ∀ pc, pc < 49 → okI cX9_findKind 124 pc (ic_124 pc) = true := by decide +kernel
  have h3 : ins 124 pc = ic_124 pc := by show (bif Nat.blt pc (nd 124 7) then ic_124 pc else none) = _; rw [show Nat.blt pc (nd 124 7) = true from Nat.ble_eq_true_of_le h]; rfl
  rw [h3]; exact h2 pc h
set_option maxRecDepth 100000 in
theorem okC_125 : okC 125 := by
  intro pc h
  have h2 : ∀ pc, pc < 94 → okI cX9_findKindOfCall 125 pc (ic_125 pc) = true := by decide +kernel
  have h3 : ins 125 pc = ic_125 pc := by show (bif Nat.blt pc (nd 125 7) then ic_125 pc else none) = _; rw [show Nat.blt pc (nd 125 7) = true from Nat.ble_eq_true_of_le h]; rfl
  rw [h3]; exact h2 pc h
set_option maxRecDepth 100000 in
theorem okC_126 : okC 126 := by
  intro pc h
  have h2 : ∀ pc, pc < 47 → okI cX9_nearestRenamed 126 pc (ic_126 pc) = true := by decide +kernel
  have h3 : ins 126 pc = ic_126 pc := by show (bif Nat.blt pc (nd 126 7) then ic_126 pc else none) = _; rw [show Nat.blt pc (nd 126 7) = true from Nat.ble_eq_true_of_le h]; rfl
  rw [h3]; exact h2 pc h
set_option maxRecDepth 100000 in
theorem okC_127 : okC 127 := by
  intro pc h
  have h2 : ∀ pc, pc < 90 → okI cX9_nearestCoupled 127 pc (ic_127 pc) = true := by decide +kernel
  have h3 : ins 127 pc = ic_127 pc := by show (bif Nat.blt pc (nd 127 7) then ic_127 pc else none) = _; rw [show Nat.blt pc (nd 127 7) = true from Nat.ble_eq_true_of_le h]; rfl
  rw [h3]; exact h2 pc h
set_option maxRecDepth 100000 in
theorem okC_128 : okC 128 := by
  intro pc h
  have h2 : ∀ pc, pc < 66 → okI cX9_addBelow 128 pc (ic_128 pc) = true := by decide +kernel
  have h3 : ins 128 pc = ic_128 pc := by show (bif Nat.blt pc (nd 128 7) then ic_128 pc else none) = _; rw [show Nat.blt pc (nd 128 7) = true from Nat.ble_eq_true_of_le h]; rfl
  rw [h3]; exact h2 pc h
set_option maxRecDepth 100000 in
theorem okC_129 : okC 129 := by
  intro pc h
  have h2 : ∀ pc, pc < 138 → okI cX9_addLet 129 pc (ic_129 pc) = true := by decide +kernel
  have h3 : ins 129 pc = ic_129 pc := by show (bif Nat.blt pc (nd 129 7) then ic_129 pc else none) = _; rw [show Nat.blt pc (nd 129 7) = true from Nat.ble_eq_true_of_le h]; rfl
  rw [h3]; exact h2 pc h
set_option maxRecDepth 100000 in
theorem okC_130 : okC 130 := by
  intro pc h
  have h2 : ∀ pc, pc < 82 → okI cX9_addParts 130 pc (ic_130 pc) = true := by decide +kernel
  have h3 : ins 130 pc = ic_130 pc := by show (bif Nat.blt pc (nd 130 7) then ic_130 pc else none) = _; rw [show Nat.blt pc (nd 130 7) = true from Nat.ble_eq_true_of_le h]; rfl
  rw [h3]; exact h2 pc h
set_option maxRecDepth 100000 in
theorem okC_131 : okC 131 := by
  intro pc h
  have h2 : ∀ pc, pc < 83 → okI cX9_addArguments 131 pc (ic_131 pc) = true := by decide +kernel
  have h3 : ins 131 pc = ic_131 pc := by show (bif Nat.blt pc (nd 131 7) then ic_131 pc else none) = _; rw [show Nat.blt pc (nd 131 7) = true from Nat.ble_eq_true_of_le h]; rfl
  rw [h3]; exact h2 pc h
set_option maxRecDepth 100000 in
theorem okC_132 : okC 132 := by
  intro pc h
  have h2 : ∀ pc, pc < 51 → okI cX9_addStepped 132 pc (ic_132 pc) = true := by decide +kernel
  have h3 : ins 132 pc = ic_132 pc := by show (bif Nat.blt pc (nd 132 7) then ic_132 pc else none) = _; rw [show Nat.blt pc (nd 132 7) = true from Nat.ble_eq_true_of_le h]; rfl
  rw [h3]; exact h2 pc h
theorem okC_133_0 : ∀ j, j < 64 → okI cX9_addCases 133 (0 + j) (ic_133 (0 + j)) = true := by decide +kernel
theorem okC_133_1 : ∀ j, j < 64 → okI cX9_addCases 133 (64 + j) (ic_133 (64 + j)) = true := by decide +kernel
theorem okC_133_2 : ∀ j, j < 64 → okI cX9_addCases 133 (128 + j) (ic_133 (128 + j)) = true := by decide +kernel
set_option maxRecDepth 100000 in
theorem okC_133 : okC 133 := by
  intro pc h
  have h3 : ins 133 pc = ic_133 pc := by show (bif Nat.blt pc (nd 133 7) then ic_133 pc else none) = _; rw [show Nat.blt pc (nd 133 7) = true from Nat.ble_eq_true_of_le h]; rfl
  rw [h3]
  have h6 : pc < 165 := h
  show okI cX9_addCases 133 pc (ic_133 pc) = true
  by_cases q0 : pc < 64
  · have h5 := okC_133_0 (pc - 0) (by omega)
    rw [show 0 + (pc - 0) = pc by omega] at h5
    exact h5
  by_cases q1 : pc < 128
  · have h5 := okC_133_1 (pc - 64) (by omega)
    rw [show 64 + (pc - 64) = pc by omega] at h5
    exact h5
  by_cases q2 : pc < 192
  · have h5 := okC_133_2 (pc - 128) (by omega)
    rw [show 128 + (pc - 128) = pc by omega] at h5
    exact h5
  omega
set_option maxRecDepth 100000 in
theorem okC_134 : okC 134 := by
  intro pc h
  have h2 : ∀ pc, pc < 103 → okI cX9_fillSplit 134 pc (ic_134 pc) = true := by decide +kernel
  have h3 : ins 134 pc = ic_134 pc := by show (bif Nat.blt pc (nd 134 7) then ic_134 pc else none) = _; rw [show Nat.blt pc (nd 134 7) = true from Nat.ble_eq_true_of_le h]; rfl
  rw [h3]; exact h2 pc h
set_option maxRecDepth 100000 in
theorem okC_135 : okC 135 := by
  intro pc h
  have h2 : ∀ pc, pc < 158 → okI cX9_addNode 135 pc (ic_135 pc) = true := by decide +kernel
  have h3 : ins 135 pc = ic_135 pc := by show (bif Nat.blt pc (nd 135 7) then ic_135 pc else none) = _; rw [show Nat.blt pc (nd 135 7) = true from Nat.ble_eq_true_of_le h]; rfl
  rw [h3]; exact h2 pc h
set_option maxRecDepth 100000 in
theorem okC_136 : okC 136 := by
  intro pc h
  have h2 : ∀ pc, pc < 108 → okI cX9_removeBelow 136 pc (ic_136 pc) = true := by decide +kernel
  have h3 : ins 136 pc = ic_136 pc := by show (bif Nat.blt pc (nd 136 7) then ic_136 pc else none) = _; rw [show Nat.blt pc (nd 136 7) = true from Nat.ble_eq_true_of_le h]; rfl
  rw [h3]; exact h2 pc h
set_option maxRecDepth 100000 in
theorem okC_137 : okC 137 := by
  intro pc h
  have h2 : ∀ pc, pc < 30 → okI cX9_indexOf 137 pc (ic_137 pc) = true := by decide +kernel
  have h3 : ins 137 pc = ic_137 pc := by show (bif Nat.blt pc (nd 137 7) then ic_137 pc else none) = _; rw [show Nat.blt pc (nd 137 7) = true from Nat.ble_eq_true_of_le h]; rfl
  rw [h3]; exact h2 pc h
set_option maxRecDepth 100000 in
theorem okC_138 : okC 138 := by
  intro pc h
  have h2 : ∀ pc, pc < 27 → okI cX10_init 138 pc (ic_138 pc) = true := by decide +kernel
  have h3 : ins 138 pc = ic_138 pc := by show (bif Nat.blt pc (nd 138 7) then ic_138 pc else none) = _; rw [show Nat.blt pc (nd 138 7) = true from Nat.ble_eq_true_of_le h]; rfl
  rw [h3]; exact h2 pc h
set_option maxRecDepth 100000 in
theorem okC_139 : okC 139 := by
  intro pc h
  have h2 : ∀ pc, pc < 29 → okI cX10_byteAt 139 pc (ic_139 pc) = true := by decide +kernel
  have h3 : ins 139 pc = ic_139 pc := by show (bif Nat.blt pc (nd 139 7) then ic_139 pc else none) = _; rw [show Nat.blt pc (nd 139 7) = true from Nat.ble_eq_true_of_le h]; rfl
  rw [h3]; exact h2 pc h
set_option maxRecDepth 100000 in
theorem okC_140 : okC 140 := by
  intro pc h
  have h2 : ∀ pc, pc < 6 → okI cX10_clear 140 pc (ic_140 pc) = true := by decide +kernel
  have h3 : ins 140 pc = ic_140 pc := by show (bif Nat.blt pc (nd 140 7) then ic_140 pc else none) = _; rw [show Nat.blt pc (nd 140 7) = true from Nat.ble_eq_true_of_le h]; rfl
  rw [h3]; exact h2 pc h
set_option maxRecDepth 100000 in
theorem okC_141 : okC 141 := by
  intro pc h
  have h2 : ∀ pc, pc < 31 → okI cX10_put 141 pc (ic_141 pc) = true := by decide +kernel
  have h3 : ins 141 pc = ic_141 pc := by show (bif Nat.blt pc (nd 141 7) then ic_141 pc else none) = _; rw [show Nat.blt pc (nd 141 7) = true from Nat.ble_eq_true_of_le h]; rfl
  rw [h3]; exact h2 pc h
set_option maxRecDepth 100000 in
theorem okC_142 : okC 142 := by
  intro pc h
  have h2 : ∀ pc, pc < 52 → okI cX10_putProgram 142 pc (ic_142 pc) = true := by decide +kernel
  have h3 : ins 142 pc = ic_142 pc := by show (bif Nat.blt pc (nd 142 7) then ic_142 pc else none) = _; rw [show Nat.blt pc (nd 142 7) = true from Nat.ble_eq_true_of_le h]; rfl
  rw [h3]; exact h2 pc h
set_option maxRecDepth 100000 in
theorem okC_143 : okC 143 := by
  intro pc h
  have h2 : ∀ pc, pc < 77 → okI cX10_putExpr 143 pc (ic_143 pc) = true := by decide +kernel
  have h3 : ins 143 pc = ic_143 pc := by show (bif Nat.blt pc (nd 143 7) then ic_143 pc else none) = _; rw [show Nat.blt pc (nd 143 7) = true from Nat.ble_eq_true_of_le h]; rfl
  rw [h3]; exact h2 pc h
set_option maxRecDepth 100000 in
theorem okC_144 : okC 144 := by
  intro pc h
  have h2 : ∀ pc, pc < 51 → okI cX10_closeThings 144 pc (ic_144 pc) = true := by decide +kernel
  have h3 : ins 144 pc = ic_144 pc := by show (bif Nat.blt pc (nd 144 7) then ic_144 pc else none) = _; rw [show Nat.blt pc (nd 144 7) = true from Nat.ble_eq_true_of_le h]; rfl
  rw [h3]; exact h2 pc h
set_option maxRecDepth 100000 in
theorem okC_145 : okC 145 := by
  intro pc h
  have h2 : ∀ pc, pc < 113 → okI cX10_putLeft 145 pc (ic_145 pc) = true := by decide +kernel
  have h3 : ins 145 pc = ic_145 pc := by show (bif Nat.blt pc (nd 145 7) then ic_145 pc else none) = _; rw [show Nat.blt pc (nd 145 7) = true from Nat.ble_eq_true_of_le h]; rfl
  rw [h3]; exact h2 pc h
set_option maxRecDepth 100000 in
theorem okC_146 : okC 146 := by
  intro pc h
  have h2 : ∀ pc, pc < 51 → okI cX10_putVars 146 pc (ic_146 pc) = true := by decide +kernel
  have h3 : ins 146 pc = ic_146 pc := by show (bif Nat.blt pc (nd 146 7) then ic_146 pc else none) = _; rw [show Nat.blt pc (nd 146 7) = true from Nat.ble_eq_true_of_le h]; rfl
  rw [h3]; exact h2 pc h
set_option maxRecDepth 100000 in
theorem okC_147 : okC 147 := by
  intro pc h
  have h2 : ∀ pc, pc < 82 → okI cX10_putThing 147 pc (ic_147 pc) = true := by decide +kernel
  have h3 : ins 147 pc = ic_147 pc := by show (bif Nat.blt pc (nd 147 7) then ic_147 pc else none) = _; rw [show Nat.blt pc (nd 147 7) = true from Nat.ble_eq_true_of_le h]; rfl
  rw [h3]; exact h2 pc h
set_option maxRecDepth 100000 in
theorem okC_148 : okC 148 := by
  intro pc h
  have h2 : ∀ pc, pc < 50 → okI cX10_putName 148 pc (ic_148 pc) = true := by decide +kernel
  have h3 : ins 148 pc = ic_148 pc := by show (bif Nat.blt pc (nd 148 7) then ic_148 pc else none) = _; rw [show Nat.blt pc (nd 148 7) = true from Nat.ble_eq_true_of_le h]; rfl
  rw [h3]; exact h2 pc h
theorem okC_149_0 : ∀ j, j < 64 → okI cX11_init 149 (0 + j) (ic_149 (0 + j)) = true := by decide +kernel
theorem okC_149_1 : ∀ j, j < 64 → okI cX11_init 149 (64 + j) (ic_149 (64 + j)) = true := by decide +kernel
theorem okC_149_2 : ∀ j, j < 64 → okI cX11_init 149 (128 + j) (ic_149 (128 + j)) = true := by decide +kernel
theorem okC_149_3 : ∀ j, j < 64 → okI cX11_init 149 (192 + j) (ic_149 (192 + j)) = true := by decide +kernel
set_option maxRecDepth 100000 in
theorem okC_149 : okC 149 := by
  intro pc h
  have h3 : ins 149 pc = ic_149 pc := by show (bif Nat.blt pc (nd 149 7) then ic_149 pc else none) = _; rw [show Nat.blt pc (nd 149 7) = true from Nat.ble_eq_true_of_le h]; rfl
  rw [h3]
  have h6 : pc < 239 := h
  show okI cX11_init 149 pc (ic_149 pc) = true
  by_cases q0 : pc < 64
  · have h5 := okC_149_0 (pc - 0) (by omega)
    rw [show 0 + (pc - 0) = pc by omega] at h5
    exact h5
  by_cases q1 : pc < 128
  · have h5 := okC_149_1 (pc - 64) (by omega)
    rw [show 64 + (pc - 64) = pc by omega] at h5
    exact h5
  by_cases q2 : pc < 192
  · have h5 := okC_149_2 (pc - 128) (by omega)
    rw [show 128 + (pc - 128) = pc by omega] at h5
    exact h5
  by_cases q3 : pc < 256
  · have h5 := okC_149_3 (pc - 192) (by omega)
    rw [show 192 + (pc - 192) = pc by omega] at h5
    exact h5
  omega
set_option maxRecDepth 100000 in
theorem okC_150 : okC 150 := by
  intro pc h
  have h2 : ∀ pc, pc < 68 → okI cX11_feed 150 pc (ic_150 pc) = true := by decide +kernel
  have h3 : ins 150 pc = ic_150 pc := by show (bif Nat.blt pc (nd 150 7) then ic_150 pc else none) = _; rw [show Nat.blt pc (nd 150 7) = true from Nat.ble_eq_true_of_le h]; rfl
  rw [h3]; exact h2 pc h
set_option maxRecDepth 100000 in
theorem okC_151 : okC 151 := by
  intro pc h
  have h2 : ∀ pc, pc < 17 → okI cX11_end 151 pc (ic_151 pc) = true := by decide +kernel
  have h3 : ins 151 pc = ic_151 pc := by show (bif Nat.blt pc (nd 151 7) then ic_151 pc else none) = _; rw [show Nat.blt pc (nd 151 7) = true from Nat.ble_eq_true_of_le h]; rfl
  rw [h3]; exact h2 pc h
set_option maxRecDepth 100000 in
theorem okC_152 : okC 152 := by
  intro pc h
  have h2 : ∀ pc, pc < 51 → okI cX11_program 152 pc (ic_152 pc) = true := by decide +kernel
  have h3 : ins 152 pc = ic_152 pc := by show (bif Nat.blt pc (nd 152 7) then ic_152 pc else none) = _; rw [show Nat.blt pc (nd 152 7) = true from Nat.ble_eq_true_of_le h]; rfl
  rw [h3]; exact h2 pc h
set_option maxRecDepth 100000 in
theorem okC_153 : okC 153 := by
  intro pc h
  have h2 : ∀ pc, pc < 44 → okI cX11_goal 153 pc (ic_153 pc) = true := by decide +kernel
  have h3 : ins 153 pc = ic_153 pc := by show (bif Nat.blt pc (nd 153 7) then ic_153 pc else none) = _; rw [show Nat.blt pc (nd 153 7) = true from Nat.ble_eq_true_of_le h]; rfl
  rw [h3]; exact h2 pc h
set_option maxRecDepth 100000 in
theorem okC_154 : okC 154 := by
  intro pc h
  have h2 : ∀ pc, pc < 46 → okI cX11_bind 154 pc (ic_154 pc) = true := by decide +kernel
  have h3 : ins 154 pc = ic_154 pc := by show (bif Nat.blt pc (nd 154 7) then ic_154 pc else none) = _; rw [show Nat.blt pc (nd 154 7) = true from Nat.ble_eq_true_of_le h]; rfl
  rw [h3]; exact h2 pc h
set_option maxRecDepth 100000 in
theorem okC_155 : okC 155 := by
  intro pc h
  have h2 : ∀ pc, pc < 56 → okI cX11_expression 155 pc (ic_155 pc) = true := by decide +kernel
  have h3 : ins 155 pc = ic_155 pc := by show (bif Nat.blt pc (nd 155 7) then ic_155 pc else none) = _; rw [show Nat.blt pc (nd 155 7) = true from Nat.ble_eq_true_of_le h]; rfl
  rw [h3]; exact h2 pc h
set_option maxRecDepth 100000 in
theorem okC_156 : okC 156 := by
  intro pc h
  have h2 : ∀ pc, pc < 5 → okI cX11_fault 156 pc (ic_156 pc) = true := by decide +kernel
  have h3 : ins 156 pc = ic_156 pc := by show (bif Nat.blt pc (nd 156 7) then ic_156 pc else none) = _; rw [show Nat.blt pc (nd 156 7) = true from Nat.ble_eq_true_of_le h]; rfl
  rw [h3]; exact h2 pc h
set_option maxRecDepth 100000 in
theorem okC_157 : okC 157 := by
  intro pc h
  have h2 : ∀ pc, pc < 114 → okI cX11_is 157 pc (ic_157 pc) = true := by decide +kernel
  have h3 : ins 157 pc = ic_157 pc := by show (bif Nat.blt pc (nd 157 7) then ic_157 pc else none) = _; rw [show Nat.blt pc (nd 157 7) = true from Nat.ble_eq_true_of_le h]; rfl
  rw [h3]; exact h2 pc h
set_option maxRecDepth 100000 in
theorem okC_158 : okC 158 := by
  intro pc h
  have h2 : ∀ pc, pc < 118 → okI cX11_clause 158 pc (ic_158 pc) = true := by decide +kernel
  have h3 : ins 158 pc = ic_158 pc := by show (bif Nat.blt pc (nd 158 7) then ic_158 pc else none) = _; rw [show Nat.blt pc (nd 158 7) = true from Nat.ble_eq_true_of_le h]; rfl
  rw [h3]; exact h2 pc h
set_option maxRecDepth 100000 in
theorem okC_159 : okC 159 := by
  intro pc h
  have h2 : ∀ pc, pc < 28 → okI cX11_run 159 pc (ic_159 pc) = true := by decide +kernel
  have h3 : ins 159 pc = ic_159 pc := by show (bif Nat.blt pc (nd 159 7) then ic_159 pc else none) = _; rw [show Nat.blt pc (nd 159 7) = true from Nat.ble_eq_true_of_le h]; rfl
  rw [h3]; exact h2 pc h
set_option maxRecDepth 100000 in
theorem okC_160 : okC 160 := by
  intro pc h
  have h2 : ∀ pc, pc < 22 → okI cX11_result 160 pc (ic_160 pc) = true := by decide +kernel
  have h3 : ins 160 pc = ic_160 pc := by show (bif Nat.blt pc (nd 160 7) then ic_160 pc else none) = _; rw [show Nat.blt pc (nd 160 7) = true from Nat.ble_eq_true_of_le h]; rfl
  rw [h3]; exact h2 pc h
set_option maxRecDepth 100000 in
theorem okC_161 : okC 161 := by
  intro pc h
  have h2 : ∀ pc, pc < 48 → okI cX11_runOf 161 pc (ic_161 pc) = true := by decide +kernel
  have h3 : ins 161 pc = ic_161 pc := by show (bif Nat.blt pc (nd 161 7) then ic_161 pc else none) = _; rw [show Nat.blt pc (nd 161 7) = true from Nat.ble_eq_true_of_le h]; rfl
  rw [h3]; exact h2 pc h
set_option maxRecDepth 100000 in
theorem okC_162 : okC 162 := by
  intro pc h
  have h2 : ∀ pc, pc < 150 → okI cX11_relation 162 pc (ic_162 pc) = true := by decide +kernel
  have h3 : ins 162 pc = ic_162 pc := by show (bif Nat.blt pc (nd 162 7) then ic_162 pc else none) = _; rw [show Nat.blt pc (nd 162 7) = true from Nat.ble_eq_true_of_le h]; rfl
  rw [h3]; exact h2 pc h
set_option maxRecDepth 100000 in
theorem okC_163 : okC 163 := by
  intro pc h
  have h2 : ∀ pc, pc < 49 → okI cX11_common 163 pc (ic_163 pc) = true := by decide +kernel
  have h3 : ins 163 pc = ic_163 pc := by show (bif Nat.blt pc (nd 163 7) then ic_163 pc else none) = _; rw [show Nat.blt pc (nd 163 7) = true from Nat.ble_eq_true_of_le h]; rfl
  rw [h3]; exact h2 pc h
set_option maxRecDepth 100000 in
theorem okC_164 : okC 164 := by
  intro pc h
  have h2 : ∀ pc, pc < 71 → okI cX11_commonOf 164 pc (ic_164 pc) = true := by decide +kernel
  have h3 : ins 164 pc = ic_164 pc := by show (bif Nat.blt pc (nd 164 7) then ic_164 pc else none) = _; rw [show Nat.blt pc (nd 164 7) = true from Nat.ble_eq_true_of_le h]; rfl
  rw [h3]; exact h2 pc h
set_option maxRecDepth 100000 in
theorem okC_165 : okC 165 := by
  intro pc h
  have h2 : ∀ pc, pc < 89 → okI cX11_step 165 pc (ic_165 pc) = true := by decide +kernel
  have h3 : ins 165 pc = ic_165 pc := by show (bif Nat.blt pc (nd 165 7) then ic_165 pc else none) = _; rw [show Nat.blt pc (nd 165 7) = true from Nat.ble_eq_true_of_le h]; rfl
  rw [h3]; exact h2 pc h
set_option maxRecDepth 100000 in
theorem okC_166 : okC 166 := by
  intro pc h
  have h2 : ∀ pc, pc < 22 → okI cX11_write 166 pc (ic_166 pc) = true := by decide +kernel
  have h3 : ins 166 pc = ic_166 pc := by show (bif Nat.blt pc (nd 166 7) then ic_166 pc else none) = _; rw [show Nat.blt pc (nd 166 7) = true from Nat.ble_eq_true_of_le h]; rfl
  rw [h3]; exact h2 pc h
set_option maxRecDepth 100000 in
theorem okC_167 : okC 167 := by
  intro pc h
  have h2 : ∀ pc, pc < 80 → okI cX11_of 167 pc (ic_167 pc) = true := by decide +kernel
  have h3 : ins 167 pc = ic_167 pc := by show (bif Nat.blt pc (nd 167 7) then ic_167 pc else none) = _; rw [show Nat.blt pc (nd 167 7) = true from Nat.ble_eq_true_of_le h]; rfl
  rw [h3]; exact h2 pc h
set_option maxRecDepth 100000 in
theorem okC_168 : okC 168 := by
  intro pc h
  have h2 : ∀ pc, pc < 78 → okI cX11_drive 168 pc (ic_168 pc) = true := by decide +kernel
  have h3 : ins 168 pc = ic_168 pc := by show (bif Nat.blt pc (nd 168 7) then ic_168 pc else none) = _; rw [show Nat.blt pc (nd 168 7) = true from Nat.ble_eq_true_of_le h]; rfl
  rw [h3]; exact h2 pc h
theorem okC_169_0 : ∀ j, j < 64 → okI cX11_tree 169 (0 + j) (ic_169 (0 + j)) = true := by decide +kernel
theorem okC_169_1 : ∀ j, j < 64 → okI cX11_tree 169 (64 + j) (ic_169 (64 + j)) = true := by decide +kernel
theorem okC_169_2 : ∀ j, j < 64 → okI cX11_tree 169 (128 + j) (ic_169 (128 + j)) = true := by decide +kernel
set_option maxRecDepth 100000 in
theorem okC_169 : okC 169 := by
  intro pc h
  have h3 : ins 169 pc = ic_169 pc := by show (bif Nat.blt pc (nd 169 7) then ic_169 pc else none) = _; rw [show Nat.blt pc (nd 169 7) = true from Nat.ble_eq_true_of_le h]; rfl
  rw [h3]
  have h6 : pc < 163 := h
  show okI cX11_tree 169 pc (ic_169 pc) = true
  by_cases q0 : pc < 64
  · have h5 := okC_169_0 (pc - 0) (by omega)
    rw [show 0 + (pc - 0) = pc by omega] at h5
    exact h5
  by_cases q1 : pc < 128
  · have h5 := okC_169_1 (pc - 64) (by omega)
    rw [show 64 + (pc - 64) = pc by omega] at h5
    exact h5
  by_cases q2 : pc < 192
  · have h5 := okC_169_2 (pc - 128) (by omega)
    rw [show 128 + (pc - 128) = pc by omega] at h5
    exact h5
  omega
set_option maxRecDepth 100000 in
theorem okC_170 : okC 170 := by
  intro pc h
  have h2 : ∀ pc, pc < 159 → okI cX11_node 170 pc (ic_170 pc) = true := by decide +kernel
  have h3 : ins 170 pc = ic_170 pc := by show (bif Nat.blt pc (nd 170 7) then ic_170 pc else none) = _; rw [show Nat.blt pc (nd 170 7) = true from Nat.ble_eq_true_of_le h]; rfl
  rw [h3]; exact h2 pc h
set_option maxRecDepth 100000 in
theorem okC_171 : okC 171 := by
  intro pc h
  have h2 : ∀ pc, pc < 61 → okI cX11_writeNode 171 pc (ic_171 pc) = true := by decide +kernel
  have h3 : ins 171 pc = ic_171 pc := by show (bif Nat.blt pc (nd 171 7) then ic_171 pc else none) = _; rw [show Nat.blt pc (nd 171 7) = true from Nat.ble_eq_true_of_le h]; rfl
  rw [h3]; exact h2 pc h
set_option maxRecDepth 100000 in
theorem okC_172 : okC 172 := by
  intro pc h
  have h2 : ∀ pc, pc < 28 → okI cX11_ranked 172 pc (ic_172 pc) = true := by decide +kernel
  have h3 : ins 172 pc = ic_172 pc := by show (bif Nat.blt pc (nd 172 7) then ic_172 pc else none) = _; rw [show Nat.blt pc (nd 172 7) = true from Nat.ble_eq_true_of_le h]; rfl
  rw [h3]; exact h2 pc h
set_option maxRecDepth 100000 in
theorem okC_173 : okC 173 := by
  intro pc h
  have h2 : ∀ pc, pc < 91 → okI cX11_text 173 pc (ic_173 pc) = true := by decide +kernel
  have h3 : ins 173 pc = ic_173 pc := by show (bif Nat.blt pc (nd 173 7) then ic_173 pc else none) = _; rw [show Nat.blt pc (nd 173 7) = true from Nat.ble_eq_true_of_le h]; rfl
  rw [h3]; exact h2 pc h
set_option maxRecDepth 100000 in
theorem okC_174 : okC 174 := by
  intro pc h
  have h2 : ∀ pc, pc < 9 → okI cX11_octet 174 pc (ic_174 pc) = true := by decide +kernel
  have h3 : ins 174 pc = ic_174 pc := by show (bif Nat.blt pc (nd 174 7) then ic_174 pc else none) = _; rw [show Nat.blt pc (nd 174 7) = true from Nat.ble_eq_true_of_le h]; rfl
  rw [h3]; exact h2 pc h
set_option maxRecDepth 100000 in
theorem okC_175 : okC 175 := by
  intro pc h
  have h2 : ∀ pc, pc < 51 → okI cX11_take 175 pc (ic_175 pc) = true := by decide +kernel
  have h3 : ins 175 pc = ic_175 pc := by show (bif Nat.blt pc (nd 175 7) then ic_175 pc else none) = _; rw [show Nat.blt pc (nd 175 7) = true from Nat.ble_eq_true_of_le h]; rfl
  rw [h3]; exact h2 pc h
set_option maxRecDepth 100000 in
theorem okC_176 : okC 176 := by
  intro pc h
  have h2 : ∀ pc, pc < 109 → okI cX11_saved 176 pc (ic_176 pc) = true := by decide +kernel
  have h3 : ins 176 pc = ic_176 pc := by show (bif Nat.blt pc (nd 176 7) then ic_176 pc else none) = _; rw [show Nat.blt pc (nd 176 7) = true from Nat.ble_eq_true_of_le h]; rfl
  rw [h3]; exact h2 pc h
set_option maxRecDepth 100000 in
theorem okC_177 : okC 177 := by
  intro pc h
  have h2 : ∀ pc, pc < 8 → okI cX11_deepest 177 pc (ic_177 pc) = true := by decide +kernel
  have h3 : ins 177 pc = ic_177 pc := by show (bif Nat.blt pc (nd 177 7) then ic_177 pc else none) = _; rw [show Nat.blt pc (nd 177 7) = true from Nat.ble_eq_true_of_le h]; rfl
  rw [h3]; exact h2 pc h
set_option maxRecDepth 100000 in
theorem okC_178 : okC 178 := by
  intro pc h
  have h2 : ∀ pc, pc < 15 → okI cX11_isExpression 178 pc (ic_178 pc) = true := by decide +kernel
  have h3 : ins 178 pc = ic_178 pc := by show (bif Nat.blt pc (nd 178 7) then ic_178 pc else none) = _; rw [show Nat.blt pc (nd 178 7) = true from Nat.ble_eq_true_of_le h]; rfl
  rw [h3]; exact h2 pc h
set_option maxRecDepth 100000 in
theorem okC_179 : okC 179 := by
  intro pc h
  have h2 : ∀ pc, pc < 30 → okI cX11_emptyTape 179 pc (ic_179 pc) = true := by decide +kernel
  have h3 : ins 179 pc = ic_179 pc := by show (bif Nat.blt pc (nd 179 7) then ic_179 pc else none) = _; rw [show Nat.blt pc (nd 179 7) = true from Nat.ble_eq_true_of_le h]; rfl
  rw [h3]; exact h2 pc h
set_option maxRecDepth 100000 in
theorem okC_180 : okC 180 := by
  intro pc h
  have h2 : ∀ pc, pc < 60 → okI cX11_runGoal 180 pc (ic_180 pc) = true := by decide +kernel
  have h3 : ins 180 pc = ic_180 pc := by show (bif Nat.blt pc (nd 180 7) then ic_180 pc else none) = _; rw [show Nat.blt pc (nd 180 7) = true from Nat.ble_eq_true_of_le h]; rfl
  rw [h3]; exact h2 pc h
set_option maxRecDepth 100000 in
theorem okC_181 : okC 181 := by
  intro pc h
  have h2 : ∀ pc, pc < 23 → okI cX11_writeExpr 181 pc (ic_181 pc) = true := by decide +kernel
  have h3 : ins 181 pc = ic_181 pc := by show (bif Nat.blt pc (nd 181 7) then ic_181 pc else none) = _; rw [show Nat.blt pc (nd 181 7) = true from Nat.ble_eq_true_of_le h]; rfl
  rw [h3]; exact h2 pc h
set_option maxRecDepth 100000 in
theorem okC_182 : okC 182 := by
  intro pc h
  have h2 : ∀ pc, pc < 11 → okI cX12_thing 182 pc (ic_182 pc) = true := by decide +kernel
  have h3 : ins 182 pc = ic_182 pc := by show (bif Nat.blt pc (nd 182 7) then ic_182 pc else none) = _; rw [show Nat.blt pc (nd 182 7) = true from Nat.ble_eq_true_of_le h]; rfl
  rw [h3]; exact h2 pc h
set_option maxRecDepth 100000 in
theorem okC_183 : okC 183 := by
  intro pc h
  have h2 : ∀ pc, pc < 4 → okI cX12_sortOf 183 pc (ic_183 pc) = true := by decide +kernel
  have h3 : ins 183 pc = ic_183 pc := by show (bif Nat.blt pc (nd 183 7) then ic_183 pc else none) = _; rw [show Nat.blt pc (nd 183 7) = true from Nat.ble_eq_true_of_le h]; rfl
  rw [h3]; exact h2 pc h
set_option maxRecDepth 100000 in
theorem okC_184 : okC 184 := by
  intro pc h
  have h2 : ∀ pc, pc < 7 → okI cX12_manyOf 184 pc (ic_184 pc) = true := by decide +kernel
  have h3 : ins 184 pc = ic_184 pc := by show (bif Nat.blt pc (nd 184 7) then ic_184 pc else none) = _; rw [show Nat.blt pc (nd 184 7) = true from Nat.ble_eq_true_of_le h]; rfl
  rw [h3]; exact h2 pc h
set_option maxRecDepth 100000 in
theorem okC_185 : okC 185 := by
  intro pc h
  have h2 : ∀ pc, pc < 5 → okI cX12_nameOf 185 pc (ic_185 pc) = true := by decide +kernel
  have h3 : ins 185 pc = ic_185 pc := by show (bif Nat.blt pc (nd 185 7) then ic_185 pc else none) = _; rw [show Nat.blt pc (nd 185 7) = true from Nat.ble_eq_true_of_le h]; rfl
  rw [h3]; exact h2 pc h
set_option maxRecDepth 100000 in
theorem okC_186 : okC 186 := by
  intro pc h
  have h2 : ∀ pc, pc < 16 → okI cX12_isIn 186 pc (ic_186 pc) = true := by decide +kernel
  have h3 : ins 186 pc = ic_186 pc := by show (bif Nat.blt pc (nd 186 7) then ic_186 pc else none) = _; rw [show Nat.blt pc (nd 186 7) = true from Nat.ble_eq_true_of_le h]; rfl
  rw [h3]; exact h2 pc h
set_option maxRecDepth 100000 in
theorem okC_187 : okC 187 := by
  intro pc h
  have h2 : ∀ pc, pc < 27 → okI cX12_behind 187 pc (ic_187 pc) = true := by decide +kernel
  have h3 : ins 187 pc = ic_187 pc := by show (bif Nat.blt pc (nd 187 7) then ic_187 pc else none) = _; rw [show Nat.blt pc (nd 187 7) = true from Nat.ble_eq_true_of_le h]; rfl
  rw [h3]; exact h2 pc h
set_option maxRecDepth 100000 in
theorem okC_188 : okC 188 := by
  intro pc h
  have h2 : ∀ pc, pc < 27 → okI cX12_argument 188 pc (ic_188 pc) = true := by decide +kernel
  have h3 : ins 188 pc = ic_188 pc := by show (bif Nat.blt pc (nd 188 7) then ic_188 pc else none) = _; rw [show Nat.blt pc (nd 188 7) = true from Nat.ble_eq_true_of_le h]; rfl
  rw [h3]; exact h2 pc h
set_option maxRecDepth 100000 in
theorem okC_189 : okC 189 := by
  intro pc h
  have h2 : ∀ pc, pc < 33 → okI cX12_isDone 189 pc (ic_189 pc) = true := by decide +kernel
  have h3 : ins 189 pc = ic_189 pc := by show (bif Nat.blt pc (nd 189 7) then ic_189 pc else none) = _; rw [show Nat.blt pc (nd 189 7) = true from Nat.ble_eq_true_of_le h]; rfl
  rw [h3]; exact h2 pc h
set_option maxRecDepth 100000 in
theorem okC_190 : okC 190 := by
  intro pc h
  have h2 : ∀ pc, pc < 42 → okI cX12_areLike 190 pc (ic_190 pc) = true := by decide +kernel
  have h3 : ins 190 pc = ic_190 pc := by show (bif Nat.blt pc (nd 190 7) then ic_190 pc else none) = _; rw [show Nat.blt pc (nd 190 7) = true from Nat.ble_eq_true_of_le h]; rfl
  rw [h3]; exact h2 pc h
set_option maxRecDepth 100000 in
theorem okC_191 : okC 191 := by
  intro pc h
  have h2 : ∀ pc, pc < 29 → okI cX12_copy 191 pc (ic_191 pc) = true := by decide +kernel
  have h3 : ins 191 pc = ic_191 pc := by show (bif Nat.blt pc (nd 191 7) then ic_191 pc else none) = _; rw [show Nat.blt pc (nd 191 7) = true from Nat.ble_eq_true_of_le h]; rfl
  rw [h3]; exact h2 pc h
set_option maxRecDepth 100000 in
theorem okC_192 : okC 192 := by
  intro pc h
  have h2 : ∀ pc, pc < 37 → okI cX12_four 192 pc (ic_192 pc) = true := by decide +kernel
  have h3 : ins 192 pc = ic_192 pc := by show (bif Nat.blt pc (nd 192 7) then ic_192 pc else none) = _; rw [show Nat.blt pc (nd 192 7) = true from Nat.ble_eq_true_of_le h]; rfl
  rw [h3]; exact h2 pc h
set_option maxRecDepth 100000 in
theorem okC_193 : okC 193 := by
  intro pc h
  have h2 : ∀ pc, pc < 47 → okI cX12_feed 193 pc (ic_193 pc) = true := by decide +kernel
  have h3 : ins 193 pc = ic_193 pc := by show (bif Nat.blt pc (nd 193 7) then ic_193 pc else none) = _; rw [show Nat.blt pc (nd 193 7) = true from Nat.ble_eq_true_of_le h]; rfl
  rw [h3]; exact h2 pc h
set_option maxRecDepth 100000 in
theorem okC_194 : okC 194 := by
  intro pc h
  have h2 : ∀ pc, pc < 21 → okI cX12_end 194 pc (ic_194 pc) = true := by decide +kernel
  have h3 : ins 194 pc = ic_194 pc := by show (bif Nat.blt pc (nd 194 7) then ic_194 pc else none) = _; rw [show Nat.blt pc (nd 194 7) = true from Nat.ble_eq_true_of_le h]; rfl
  rw [h3]; exact h2 pc h
set_option maxRecDepth 100000 in
theorem okC_195 : okC 195 := by
  intro pc h
  have h2 : ∀ pc, pc < 29 → okI cX12_here 195 pc (ic_195 pc) = true := by decide +kernel
  have h3 : ins 195 pc = ic_195 pc := by show (bif Nat.blt pc (nd 195 7) then ic_195 pc else none) = _; rw [show Nat.blt pc (nd 195 7) = true from Nat.ble_eq_true_of_le h]; rfl
  rw [h3]; exact h2 pc h
set_option maxRecDepth 100000 in
theorem okC_196 : okC 196 := by
  intro pc h
  have h2 : ∀ pc, pc < 18 → okI cX12_isFigure 196 pc (ic_196 pc) = true := by decide +kernel
  have h3 : ins 196 pc = ic_196 pc := by show (bif Nat.blt pc (nd 196 7) then ic_196 pc else none) = _; rw [show Nat.blt pc (nd 196 7) = true from Nat.ble_eq_true_of_le h]; rfl
  rw [h3]; exact h2 pc h
set_option maxRecDepth 100000 in
theorem okC_197 : okC 197 := by
  intro pc h
  have h2 : ∀ pc, pc < 18 → okI cX12_isVarLetter 197 pc (ic_197 pc) = true := by decide +kernel
  have h3 : ins 197 pc = ic_197 pc := by show (bif Nat.blt pc (nd 197 7) then ic_197 pc else none) = _; rw [show Nat.blt pc (nd 197 7) = true from Nat.ble_eq_true_of_le h]; rfl
  rw [h3]; exact h2 pc h
set_option maxRecDepth 100000 in
theorem okC_198 : okC 198 := by
  intro pc h
  have h2 : ∀ pc, pc < 18 → okI cX12_isFunctionLetter 198 pc (ic_198 pc) = true := by decide +kernel
  have h3 : ins 198 pc = ic_198 pc := by show (bif Nat.blt pc (nd 198 7) then ic_198 pc else none) = _; rw [show Nat.blt pc (nd 198 7) = true from Nat.ble_eq_true_of_le h]; rfl
  rw [h3]; exact h2 pc h
set_option maxRecDepth 100000 in
theorem okC_199 : okC 199 := by
  intro pc h
  have h2 : ∀ pc, pc < 18 → okI cX12_isConLetter 199 pc (ic_199 pc) = true := by decide +kernel
  have h3 : ins 199 pc = ic_199 pc := by show (bif Nat.blt pc (nd 199 7) then ic_199 pc else none) = _; rw [show Nat.blt pc (nd 199 7) = true from Nat.ble_eq_true_of_le h]; rfl
  rw [h3]; exact h2 pc h
set_option maxRecDepth 100000 in
theorem okC_200 : okC 200 := by
  intro pc h
  have h2 : ∀ pc, pc < 7 → okI cX12_fails 200 pc (ic_200 pc) = true := by decide +kernel
  have h3 : ins 200 pc = ic_200 pc := by show (bif Nat.blt pc (nd 200 7) then ic_200 pc else none) = _; rw [show Nat.blt pc (nd 200 7) = true from Nat.ble_eq_true_of_le h]; rfl
  rw [h3]; exact h2 pc h
set_option maxRecDepth 100000 in
theorem okC_201 : okC 201 := by
  intro pc h
  have h2 : ∀ pc, pc < 29 → okI cX12_takes 201 pc (ic_201 pc) = true := by decide +kernel
  have h3 : ins 201 pc = ic_201 pc := by show (bif Nat.blt pc (nd 201 7) then ic_201 pc else none) = _; rw [show Nat.blt pc (nd 201 7) = true from Nat.ble_eq_true_of_le h]; rfl
  rw [h3]; exact h2 pc h
set_option maxRecDepth 100000 in
theorem okC_202 : okC 202 := by
  intro pc h
  have h2 : ∀ pc, pc < 97 → okI cX12_readName 202 pc (ic_202 pc) = true := by decide +kernel
  have h3 : ins 202 pc = ic_202 pc := by show (bif Nat.blt pc (nd 202 7) then ic_202 pc else none) = _; rw [show Nat.blt pc (nd 202 7) = true from Nat.ble_eq_true_of_le h]; rfl
  rw [h3]; exact h2 pc h
set_option maxRecDepth 100000 in
theorem okC_203 : okC 203 := by
  intro pc h
  have h2 : ∀ pc, pc < 22 → okI cX12_mayVar 203 pc (ic_203 pc) = true := by decide +kernel
  have h3 : ins 203 pc = ic_203 pc := by show (bif Nat.blt pc (nd 203 7) then ic_203 pc else none) = _; rw [show Nat.blt pc (nd 203 7) = true from Nat.ble_eq_true_of_le h]; rfl
  rw [h3]; exact h2 pc h
set_option maxRecDepth 100000 in
theorem okC_204 : okC 204 := by
  intro pc h
  have h2 : ∀ pc, pc < 42 → okI cX12_readExpression 204 pc (ic_204 pc) = true := by decide +kernel
  have h3 : ins 204 pc = ic_204 pc := by show (bif Nat.blt pc (nd 204 7) then ic_204 pc else none) = _; rw [show Nat.blt pc (nd 204 7) = true from Nat.ble_eq_true_of_le h]; rfl
  rw [h3]; exact h2 pc h
theorem okC_205_0 : ∀ j, j < 64 → okI cX12_readThing 205 (0 + j) (ic_205 (0 + j)) = true := by decide +kernel
theorem okC_205_1 : ∀ j, j < 64 → okI cX12_readThing 205 (64 + j) (ic_205 (64 + j)) = true := by decide +kernel
theorem okC_205_2 : ∀ j, j < 64 → okI cX12_readThing 205 (128 + j) (ic_205 (128 + j)) = true := by decide +kernel
theorem okC_205_3 : ∀ j, j < 64 → okI cX12_readThing 205 (192 + j) (ic_205 (192 + j)) = true := by decide +kernel
set_option maxRecDepth 100000 in
theorem okC_205 : okC 205 := by
  intro pc h
  have h3 : ins 205 pc = ic_205 pc := by show (bif Nat.blt pc (nd 205 7) then ic_205 pc else none) = _; rw [show Nat.blt pc (nd 205 7) = true from Nat.ble_eq_true_of_le h]; rfl
  rw [h3]
  have h6 : pc < 210 := h
  show okI cX12_readThing 205 pc (ic_205 pc) = true
  by_cases q0 : pc < 64
  · have h5 := okC_205_0 (pc - 0) (by omega)
    rw [show 0 + (pc - 0) = pc by omega] at h5
    exact h5
  by_cases q1 : pc < 128
  · have h5 := okC_205_1 (pc - 64) (by omega)
    rw [show 64 + (pc - 64) = pc by omega] at h5
    exact h5
  by_cases q2 : pc < 192
  · have h5 := okC_205_2 (pc - 128) (by omega)
    rw [show 128 + (pc - 128) = pc by omega] at h5
    exact h5
  by_cases q3 : pc < 256
  · have h5 := okC_205_3 (pc - 192) (by omega)
    rw [show 192 + (pc - 192) = pc by omega] at h5
    exact h5
  omega
theorem okC_206_0 : ∀ j, j < 64 → okI cX12_hasMore 206 (0 + j) (ic_206 (0 + j)) = true := by decide +kernel
theorem okC_206_1 : ∀ j, j < 64 → okI cX12_hasMore 206 (64 + j) (ic_206 (64 + j)) = true := by decide +kernel
theorem okC_206_2 : ∀ j, j < 64 → okI cX12_hasMore 206 (128 + j) (ic_206 (128 + j)) = true := by decide +kernel
theorem okC_206_3 : ∀ j, j < 64 → okI cX12_hasMore 206 (192 + j) (ic_206 (192 + j)) = true := by decide +kernel
theorem okC_206_4 : ∀ j, j < 64 → okI cX12_hasMore 206 (256 + j) (ic_206 (256 + j)) = true := by decide +kernel
set_option maxRecDepth 100000 in
theorem okC_206 : okC 206 := by
  intro pc h
  have h3 : ins 206 pc = ic_206 pc := by show (bif Nat.blt pc (nd 206 7) then ic_206 pc else none) = _; rw [show Nat.blt pc (nd 206 7) = true from Nat.ble_eq_true_of_le h]; rfl
  rw [h3]
  have h6 : pc < 291 := h
  show okI cX12_hasMore 206 pc (ic_206 pc) = true
  by_cases q0 : pc < 64
  · have h5 := okC_206_0 (pc - 0) (by omega)
    rw [show 0 + (pc - 0) = pc by omega] at h5
    exact h5
  by_cases q1 : pc < 128
  · have h5 := okC_206_1 (pc - 64) (by omega)
    rw [show 64 + (pc - 64) = pc by omega] at h5
    exact h5
  by_cases q2 : pc < 192
  · have h5 := okC_206_2 (pc - 128) (by omega)
    rw [show 128 + (pc - 128) = pc by omega] at h5
    exact h5
  by_cases q3 : pc < 256
  · have h5 := okC_206_3 (pc - 192) (by omega)
    rw [show 192 + (pc - 192) = pc by omega] at h5
    exact h5
  by_cases q4 : pc < 320
  · have h5 := okC_206_4 (pc - 256) (by omega)
    rw [show 256 + (pc - 256) = pc by omega] at h5
    exact h5
  omega
set_option maxRecDepth 100000 in
theorem okC_207 : okC 207 := by
  intro pc h
  have h2 : ∀ pc, pc < 30 → okI cX12_leftPlace 207 pc (ic_207 pc) = true := by decide +kernel
  have h3 : ins 207 pc = ic_207 pc := by show (bif Nat.blt pc (nd 207 7) then ic_207 pc else none) = _; rw [show Nat.blt pc (nd 207 7) = true from Nat.ble_eq_true_of_le h]; rfl
  rw [h3]; exact h2 pc h
set_option maxRecDepth 100000 in
theorem okC_208 : okC 208 := by
  intro pc h
  have h2 : ∀ pc, pc < 63 → okI cX12_readLeftVar 208 pc (ic_208 pc) = true := by decide +kernel
  have h3 : ins 208 pc = ic_208 pc := by show (bif Nat.blt pc (nd 208 7) then ic_208 pc else none) = _; rw [show Nat.blt pc (nd 208 7) = true from Nat.ble_eq_true_of_le h]; rfl
  rw [h3]; exact h2 pc h
set_option maxRecDepth 100000 in
theorem okC_209 : okC 209 := by
  intro pc h
  have h2 : ∀ pc, pc < 43 → okI cX12_readVars 209 pc (ic_209 pc) = true := by decide +kernel
  have h3 : ins 209 pc = ic_209 pc := by show (bif Nat.blt pc (nd 209 7) then ic_209 pc else none) = _; rw [show Nat.blt pc (nd 209 7) = true from Nat.ble_eq_true_of_le h]; rfl
  rw [h3]; exact h2 pc h
set_option maxRecDepth 100000 in
theorem okC_210 : okC 210 := by
  intro pc h
  have h2 : ∀ pc, pc < 151 → okI cX12_readPatterns 210 pc (ic_210 pc) = true := by decide +kernel
  have h3 : ins 210 pc = ic_210 pc := by show (bif Nat.blt pc (nd 210 7) then ic_210 pc else none) = _; rw [show Nat.blt pc (nd 210 7) = true from Nat.ble_eq_true_of_le h]; rfl
  rw [h3]; exact h2 pc h
set_option maxRecDepth 100000 in
theorem okC_211 : okC 211 := by
  intro pc h
  have h2 : ∀ pc, pc < 59 → okI cX12_isFree 211 pc (ic_211 pc) = true := by decide +kernel
  have h3 : ins 211 pc = ic_211 pc := by show (bif Nat.blt pc (nd 211 7) then ic_211 pc else none) = _; rw [show Nat.blt pc (nd 211 7) = true from Nat.ble_eq_true_of_le h]; rfl
  rw [h3]; exact h2 pc h
theorem okC_212_0 : ∀ j, j < 64 → okI cX12_readClause 212 (0 + j) (ic_212 (0 + j)) = true := by decide +kernel
theorem okC_212_1 : ∀ j, j < 64 → okI cX12_readClause 212 (64 + j) (ic_212 (64 + j)) = true := by decide +kernel
theorem okC_212_2 : ∀ j, j < 64 → okI cX12_readClause 212 (128 + j) (ic_212 (128 + j)) = true := by decide +kernel
theorem okC_212_3 : ∀ j, j < 64 → okI cX12_readClause 212 (192 + j) (ic_212 (192 + j)) = true := by decide +kernel
set_option maxRecDepth 100000 in
theorem okC_212 : okC 212 := by
  intro pc h
  have h3 : ins 212 pc = ic_212 pc := by show (bif Nat.blt pc (nd 212 7) then ic_212 pc else none) = _; rw [show Nat.blt pc (nd 212 7) = true from Nat.ble_eq_true_of_le h]; rfl
  rw [h3]
  have h6 : pc < 243 := h
  show okI cX12_readClause 212 pc (ic_212 pc) = true
  by_cases q0 : pc < 64
  · have h5 := okC_212_0 (pc - 0) (by omega)
    rw [show 0 + (pc - 0) = pc by omega] at h5
    exact h5
  by_cases q1 : pc < 128
  · have h5 := okC_212_1 (pc - 64) (by omega)
    rw [show 64 + (pc - 64) = pc by omega] at h5
    exact h5
  by_cases q2 : pc < 192
  · have h5 := okC_212_2 (pc - 128) (by omega)
    rw [show 128 + (pc - 128) = pc by omega] at h5
    exact h5
  by_cases q3 : pc < 256
  · have h5 := okC_212_3 (pc - 192) (by omega)
    rw [show 192 + (pc - 192) = pc by omega] at h5
    exact h5
  omega
set_option maxRecDepth 100000 in
theorem okC_213 : okC 213 := by
  intro pc h
  have h2 : ∀ pc, pc < 32 → okI cX12_readProgram 213 pc (ic_213 pc) = true := by decide +kernel
  have h3 : ins 213 pc = ic_213 pc := by show (bif Nat.blt pc (nd 213 7) then ic_213 pc else none) = _; rw [show Nat.blt pc (nd 213 7) = true from Nat.ble_eq_true_of_le h]; rfl
  rw [h3]; exact h2 pc h
set_option maxRecDepth 100000 in
theorem okC_214 : okC 214 := by
  intro pc h
  have h2 : ∀ pc, pc < 21 → okI cX12_beginText 214 pc (ic_214 pc) = true := by decide +kernel
  have h3 : ins 214 pc = ic_214 pc := by show (bif Nat.blt pc (nd 214 7) then ic_214 pc else none) = _; rw [show Nat.blt pc (nd 214 7) = true from Nat.ble_eq_true_of_le h]; rfl
  rw [h3]; exact h2 pc h
set_option maxRecDepth 100000 in
theorem okC_215 : okC 215 := by
  intro pc h
  have h2 : ∀ pc, pc < 142 → okI cX12_program 215 pc (ic_215 pc) = true := by decide +kernel
  have h3 : ins 215 pc = ic_215 pc := by show (bif Nat.blt pc (nd 215 7) then ic_215 pc else none) = _; rw [show Nat.blt pc (nd 215 7) = true from Nat.ble_eq_true_of_le h]; rfl
  rw [h3]; exact h2 pc h
set_option maxRecDepth 100000 in
theorem okC_216 : okC 216 := by
  intro pc h
  have h2 : ∀ pc, pc < 40 → okI cX12_readWhole 216 pc (ic_216 pc) = true := by decide +kernel
  have h3 : ins 216 pc = ic_216 pc := by show (bif Nat.blt pc (nd 216 7) then ic_216 pc else none) = _; rw [show Nat.blt pc (nd 216 7) = true from Nat.ble_eq_true_of_le h]; rfl
  rw [h3]; exact h2 pc h
theorem okC_217_0 : ∀ j, j < 64 → okI cX12_init 217 (0 + j) (ic_217 (0 + j)) = true := by decide +kernel
theorem okC_217_1 : ∀ j, j < 64 → okI cX12_init 217 (64 + j) (ic_217 (64 + j)) = true := by decide +kernel
theorem okC_217_2 : ∀ j, j < 64 → okI cX12_init 217 (128 + j) (ic_217 (128 + j)) = true := by decide +kernel
theorem okC_217_3 : ∀ j, j < 64 → okI cX12_init 217 (192 + j) (ic_217 (192 + j)) = true := by decide +kernel
theorem okC_217_4 : ∀ j, j < 64 → okI cX12_init 217 (256 + j) (ic_217 (256 + j)) = true := by decide +kernel
theorem okC_217_5 : ∀ j, j < 64 → okI cX12_init 217 (320 + j) (ic_217 (320 + j)) = true := by decide +kernel
theorem okC_217_6 : ∀ j, j < 64 → okI cX12_init 217 (384 + j) (ic_217 (384 + j)) = true := by decide +kernel
theorem okC_217_7 : ∀ j, j < 64 → okI cX12_init 217 (448 + j) (ic_217 (448 + j)) = true := by decide +kernel
theorem okC_217_8 : ∀ j, j < 64 → okI cX12_init 217 (512 + j) (ic_217 (512 + j)) = true := by decide +kernel
set_option maxRecDepth 100000 in
theorem okC_217 : okC 217 := by
  intro pc h
  have h3 : ins 217 pc = ic_217 pc := by show (bif Nat.blt pc (nd 217 7) then ic_217 pc else none) = _; rw [show Nat.blt pc (nd 217 7) = true from Nat.ble_eq_true_of_le h]; rfl
  rw [h3]
  have h6 : pc < 560 := h
  show okI cX12_init 217 pc (ic_217 pc) = true
  by_cases q0 : pc < 64
  · have h5 := okC_217_0 (pc - 0) (by omega)
    rw [show 0 + (pc - 0) = pc by omega] at h5
    exact h5
  by_cases q1 : pc < 128
  · have h5 := okC_217_1 (pc - 64) (by omega)
    rw [show 64 + (pc - 64) = pc by omega] at h5
    exact h5
  by_cases q2 : pc < 192
  · have h5 := okC_217_2 (pc - 128) (by omega)
    rw [show 128 + (pc - 128) = pc by omega] at h5
    exact h5
  by_cases q3 : pc < 256
  · have h5 := okC_217_3 (pc - 192) (by omega)
    rw [show 192 + (pc - 192) = pc by omega] at h5
    exact h5
  by_cases q4 : pc < 320
  · have h5 := okC_217_4 (pc - 256) (by omega)
    rw [show 256 + (pc - 256) = pc by omega] at h5
    exact h5
  by_cases q5 : pc < 384
  · have h5 := okC_217_5 (pc - 320) (by omega)
    rw [show 320 + (pc - 320) = pc by omega] at h5
    exact h5
  by_cases q6 : pc < 448
  · have h5 := okC_217_6 (pc - 384) (by omega)
    rw [show 384 + (pc - 384) = pc by omega] at h5
    exact h5
  by_cases q7 : pc < 512
  · have h5 := okC_217_7 (pc - 448) (by omega)
    rw [show 448 + (pc - 448) = pc by omega] at h5
    exact h5
  by_cases q8 : pc < 576
  · have h5 := okC_217_8 (pc - 512) (by omega)
    rw [show 512 + (pc - 512) = pc by omega] at h5
    exact h5
  omega
set_option maxRecDepth 100000 in
theorem okC_218 : okC 218 := by
  intro pc h
  have h2 : ∀ pc, pc < 51 → okI cX12_goal 218 pc (ic_218 pc) = true := by decide +kernel
  have h3 : ins 218 pc = ic_218 pc := by show (bif Nat.blt pc (nd 218 7) then ic_218 pc else none) = _; rw [show Nat.blt pc (nd 218 7) = true from Nat.ble_eq_true_of_le h]; rfl
  rw [h3]; exact h2 pc h
set_option maxRecDepth 100000 in
theorem okC_219 : okC 219 := by
  intro pc h
  have h2 : ∀ pc, pc < 72 → okI cX12_expression 219 pc (ic_219 pc) = true := by decide +kernel
  have h3 : ins 219 pc = ic_219 pc := by show (bif Nat.blt pc (nd 219 7) then ic_219 pc else none) = _; rw [show Nat.blt pc (nd 219 7) = true from Nat.ble_eq_true_of_le h]; rfl
  rw [h3]; exact h2 pc h
set_option maxRecDepth 100000 in
theorem okC_220 : okC 220 := by
  intro pc h
  have h2 : ∀ pc, pc < 144 → okI cX12_readBound 220 pc (ic_220 pc) = true := by decide +kernel
  have h3 : ins 220 pc = ic_220 pc := by show (bif Nat.blt pc (nd 220 7) then ic_220 pc else none) = _; rw [show Nat.blt pc (nd 220 7) = true from Nat.ble_eq_true_of_le h]; rfl
  rw [h3]; exact h2 pc h
set_option maxRecDepth 100000 in
theorem okC_221 : okC 221 := by
  intro pc h
  have h2 : ∀ pc, pc < 99 → okI cX12_readBounds 221 pc (ic_221 pc) = true := by decide +kernel
  have h3 : ins 221 pc = ic_221 pc := by show (bif Nat.blt pc (nd 221 7) then ic_221 pc else none) = _; rw [show Nat.blt pc (nd 221 7) = true from Nat.ble_eq_true_of_le h]; rfl
  rw [h3]; exact h2 pc h
set_option maxRecDepth 100000 in
theorem okC_222 : okC 222 := by
  intro pc h
  have h2 : ∀ pc, pc < 80 → okI cX12_bind 222 pc (ic_222 pc) = true := by decide +kernel
  have h3 : ins 222 pc = ic_222 pc := by show (bif Nat.blt pc (nd 222 7) then ic_222 pc else none) = _; rw [show Nat.blt pc (nd 222 7) = true from Nat.ble_eq_true_of_le h]; rfl
  rw [h3]; exact h2 pc h
set_option maxRecDepth 100000 in
theorem okC_223 : okC 223 := by
  intro pc h
  have h2 : ∀ pc, pc < 5 → okI cX12_fault 223 pc (ic_223 pc) = true := by decide +kernel
  have h3 : ins 223 pc = ic_223 pc := by show (bif Nat.blt pc (nd 223 7) then ic_223 pc else none) = _; rw [show Nat.blt pc (nd 223 7) = true from Nat.ble_eq_true_of_le h]; rfl
  rw [h3]; exact h2 pc h
set_option maxRecDepth 100000 in
theorem okC_224 : okC 224 := by
  intro pc h
  have h2 : ∀ pc, pc < 30 → okI cX12_orderPlace 224 pc (ic_224 pc) = true := by decide +kernel
  have h3 : ins 224 pc = ic_224 pc := by show (bif Nat.blt pc (nd 224 7) then ic_224 pc else none) = _; rw [show Nat.blt pc (nd 224 7) = true from Nat.ble_eq_true_of_le h]; rfl
  rw [h3]; exact h2 pc h
set_option maxRecDepth 100000 in
theorem okC_225 : okC 225 := by
  intro pc h
  have h2 : ∀ pc, pc < 72 → okI cX12_orderMore 225 pc (ic_225 pc) = true := by decide +kernel
  have h3 : ins 225 pc = ic_225 pc := by show (bif Nat.blt pc (nd 225 7) then ic_225 pc else none) = _; rw [show Nat.blt pc (nd 225 7) = true from Nat.ble_eq_true_of_le h]; rfl
  rw [h3]; exact h2 pc h
set_option maxRecDepth 100000 in
theorem okC_226 : okC 226 := by
  intro pc h
  have h2 : ∀ pc, pc < 17 → okI cX12_layOrder 226 pc (ic_226 pc) = true := by decide +kernel
  have h3 : ins 226 pc = ic_226 pc := by show (bif Nat.blt pc (nd 226 7) then ic_226 pc else none) = _; rw [show Nat.blt pc (nd 226 7) = true from Nat.ble_eq_true_of_le h]; rfl
  rw [h3]; exact h2 pc h
set_option maxRecDepth 100000 in
theorem okC_227 : okC 227 := by
  intro pc h
  have h2 : ∀ pc, pc < 40 → okI cX12_callsIn 227 pc (ic_227 pc) = true := by decide +kernel
  have h3 : ins 227 pc = ic_227 pc := by show (bif Nat.blt pc (nd 227 7) then ic_227 pc else none) = _; rw [show Nat.blt pc (nd 227 7) = true from Nat.ble_eq_true_of_le h]; rfl
  rw [h3]; exact h2 pc h
set_option maxRecDepth 100000 in
theorem okC_228 : okC 228 := by
  intro pc h
  have h2 : ∀ pc, pc < 98 → okI cX12_functionsTold 228 pc (ic_228 pc) = true := by decide +kernel
  have h3 : ins 228 pc = ic_228 pc := by show (bif Nat.blt pc (nd 228 7) then ic_228 pc else none) = _; rw [show Nat.blt pc (nd 228 7) = true from Nat.ble_eq_true_of_le h]; rfl
  rw [h3]; exact h2 pc h
set_option maxRecDepth 100000 in
theorem okC_229 : okC 229 := by
  intro pc h
  have h2 : ∀ pc, pc < 129 → okI cX12_is 229 pc (ic_229 pc) = true := by decide +kernel
  have h3 : ins 229 pc = ic_229 pc := by show (bif Nat.blt pc (nd 229 7) then ic_229 pc else none) = _; rw [show Nat.blt pc (nd 229 7) = true from Nat.ble_eq_true_of_le h]; rfl
  rw [h3]; exact h2 pc h
set_option maxRecDepth 100000 in
theorem okC_230 : okC 230 := by
  intro pc h
  have h2 : ∀ pc, pc < 109 → okI cX12_clause 230 pc (ic_230 pc) = true := by decide +kernel
  have h3 : ins 230 pc = ic_230 pc := by show (bif Nat.blt pc (nd 230 7) then ic_230 pc else none) = _; rw [show Nat.blt pc (nd 230 7) = true from Nat.ble_eq_true_of_le h]; rfl
  rw [h3]; exact h2 pc h
set_option maxRecDepth 100000 in
theorem okC_231 : okC 231 := by
  intro pc h
  have h2 : ∀ pc, pc < 55 → okI cX12_toldAs 231 pc (ic_231 pc) = true := by decide +kernel
  have h3 : ins 231 pc = ic_231 pc := by show (bif Nat.blt pc (nd 231 7) then ic_231 pc else none) = _; rw [show Nat.blt pc (nd 231 7) = true from Nat.ble_eq_true_of_le h]; rfl
  rw [h3]; exact h2 pc h
set_option maxRecDepth 100000 in
theorem okC_232 : okC 232 := by
  intro pc h
  have h2 : ∀ pc, pc < 65 → okI cX12_clauseOf 232 pc (ic_232 pc) = true := by decide +kernel
  have h3 : ins 232 pc = ic_232 pc := by show (bif Nat.blt pc (nd 232 7) then ic_232 pc else none) = _; rw [show Nat.blt pc (nd 232 7) = true from Nat.ble_eq_true_of_le h]; rfl
  rw [h3]; exact h2 pc h
set_option maxRecDepth 100000 in
theorem okC_233 : okC 233 := by
  intro pc h
  have h2 : ∀ pc, pc < 42 → okI cX12_firstOpen 233 pc (ic_233 pc) = true := by decide +kernel
  have h3 : ins 233 pc = ic_233 pc := by show (bif Nat.blt pc (nd 233 7) then ic_233 pc else none) = _; rw [show Nat.blt pc (nd 233 7) = true from Nat.ble_eq_true_of_le h]; rfl
  rw [h3]; exact h2 pc h
set_option maxRecDepth 100000 in
theorem okC_234 : okC 234 := by
  intro pc h
  have h2 : ∀ pc, pc < 96 → okI cX12_look 234 pc (ic_234 pc) = true := by decide +kernel
  have h3 : ins 234 pc = ic_234 pc := by show (bif Nat.blt pc (nd 234 7) then ic_234 pc else none) = _; rw [show Nat.blt pc (nd 234 7) = true from Nat.ble_eq_true_of_le h]; rfl
  rw [h3]; exact h2 pc h
set_option maxRecDepth 100000 in
theorem okC_235 : okC 235 := by
  intro pc h
  have h2 : ∀ pc, pc < 155 → okI cX12_lookCall 235 pc (ic_235 pc) = true := by decide +kernel
  have h3 : ins 235 pc = ic_235 pc := by show (bif Nat.blt pc (nd 235 7) then ic_235 pc else none) = _; rw [show Nat.blt pc (nd 235 7) = true from Nat.ble_eq_true_of_le h]; rfl
  rw [h3]; exact h2 pc h
set_option maxRecDepth 100000 in
theorem okC_236 : okC 236 := by
  intro pc h
  have h2 : ∀ pc, pc < 110 → okI cX12_layArguments 236 pc (ic_236 pc) = true := by decide +kernel
  have h3 : ins 236 pc = ic_236 pc := by show (bif Nat.blt pc (nd 236 7) then ic_236 pc else none) = _; rw [show Nat.blt pc (nd 236 7) = true from Nat.ble_eq_true_of_le h]; rfl
  rw [h3]; exact h2 pc h
set_option maxRecDepth 100000 in
theorem okC_237 : okC 237 := by
  intro pc h
  have h2 : ∀ pc, pc < 25 → okI cX12_leftOf 237 pc (ic_237 pc) = true := by decide +kernel
  have h3 : ins 237 pc = ic_237 pc := by show (bif Nat.blt pc (nd 237 7) then ic_237 pc else none) = _; rw [show Nat.blt pc (nd 237 7) = true from Nat.ble_eq_true_of_le h]; rfl
  rw [h3]; exact h2 pc h
theorem okC_238_0 : ∀ j, j < 64 → okI cX12_stepOf 238 (0 + j) (ic_238 (0 + j)) = true := by decide +kernel
theorem okC_238_1 : ∀ j, j < 64 → okI cX12_stepOf 238 (64 + j) (ic_238 (64 + j)) = true := by decide +kernel
theorem okC_238_2 : ∀ j, j < 64 → okI cX12_stepOf 238 (128 + j) (ic_238 (128 + j)) = true := by decide +kernel
set_option maxRecDepth 100000 in
theorem okC_238 : okC 238 := by
  intro pc h
  have h3 : ins 238 pc = ic_238 pc := by show (bif Nat.blt pc (nd 238 7) then ic_238 pc else none) = _; rw [show Nat.blt pc (nd 238 7) = true from Nat.ble_eq_true_of_le h]; rfl
  rw [h3]
  have h6 : pc < 170 := h
  show okI cX12_stepOf 238 pc (ic_238 pc) = true
  by_cases q0 : pc < 64
  · have h5 := okC_238_0 (pc - 0) (by omega)
    rw [show 0 + (pc - 0) = pc by omega] at h5
    exact h5
  by_cases q1 : pc < 128
  · have h5 := okC_238_1 (pc - 64) (by omega)
    rw [show 64 + (pc - 64) = pc by omega] at h5
    exact h5
  by_cases q2 : pc < 192
  · have h5 := okC_238_2 (pc - 128) (by omega)
    rw [show 128 + (pc - 128) = pc by omega] at h5
    exact h5
  omega
set_option maxRecDepth 100000 in
theorem okC_239 : okC 239 := by
  intro pc h
  have h2 : ∀ pc, pc < 125 → okI cX12_stepLong 239 pc (ic_239 pc) = true := by decide +kernel
  have h3 : ins 239 pc = ic_239 pc := by show (bif Nat.blt pc (nd 239 7) then ic_239 pc else none) = _; rw [show Nat.blt pc (nd 239 7) = true from Nat.ble_eq_true_of_le h]; rfl
  rw [h3]; exact h2 pc h
set_option maxRecDepth 100000 in
theorem okC_240 : okC 240 := by
  intro pc h
  have h2 : ∀ pc, pc < 122 → okI cX12_layBound 240 pc (ic_240 pc) = true := by decide +kernel
  have h3 : ins 240 pc = ic_240 pc := by show (bif Nat.blt pc (nd 240 7) then ic_240 pc else none) = _; rw [show Nat.blt pc (nd 240 7) = true from Nat.ble_eq_true_of_le h]; rfl
  rw [h3]; exact h2 pc h
set_option maxRecDepth 100000 in
theorem okC_241 : okC 241 := by
  intro pc h
  have h2 : ∀ pc, pc < 30 → okI cX12_boundPlace 241 pc (ic_241 pc) = true := by decide +kernel
  have h3 : ins 241 pc = ic_241 pc := by show (bif Nat.blt pc (nd 241 7) then ic_241 pc else none) = _; rw [show Nat.blt pc (nd 241 7) = true from Nat.ble_eq_true_of_le h]; rfl
  rw [h3]; exact h2 pc h
theorem okC_242_0 : ∀ j, j < 64 → okI cX12_runNow 242 (0 + j) (ic_242 (0 + j)) = true := by decide +kernel
theorem okC_242_1 : ∀ j, j < 64 → okI cX12_runNow 242 (64 + j) (ic_242 (64 + j)) = true := by decide +kernel
theorem okC_242_2 : ∀ j, j < 64 → okI cX12_runNow 242 (128 + j) (ic_242 (128 + j)) = true := by decide +kernel
theorem okC_242_3 : ∀ j, j < 64 → okI cX12_runNow 242 (192 + j) (ic_242 (192 + j)) = true := by decide +kernel
set_option maxRecDepth 100000 in
theorem okC_242 : okC 242 := by
  intro pc h
  have h3 : ins 242 pc = ic_242 pc := by show (bif Nat.blt pc (nd 242 7) then ic_242 pc else none) = _; rw [show Nat.blt pc (nd 242 7) = true from Nat.ble_eq_true_of_le h]; rfl
  rw [h3]
  have h6 : pc < 253 := h
  show okI cX12_runNow 242 pc (ic_242 pc) = true
  by_cases q0 : pc < 64
  · have h5 := okC_242_0 (pc - 0) (by omega)
    rw [show 0 + (pc - 0) = pc by omega] at h5
    exact h5
  by_cases q1 : pc < 128
  · have h5 := okC_242_1 (pc - 64) (by omega)
    rw [show 64 + (pc - 64) = pc by omega] at h5
    exact h5
  by_cases q2 : pc < 192
  · have h5 := okC_242_2 (pc - 128) (by omega)
    rw [show 128 + (pc - 128) = pc by omega] at h5
    exact h5
  by_cases q3 : pc < 256
  · have h5 := okC_242_3 (pc - 192) (by omega)
    rw [show 192 + (pc - 192) = pc by omega] at h5
    exact h5
  omega
set_option maxRecDepth 100000 in
theorem okC_243 : okC 243 := by
  intro pc h
  have h2 : ∀ pc, pc < 22 → okI cX12_isRun 243 pc (ic_243 pc) = true := by decide +kernel
  have h3 : ins 243 pc = ic_243 pc := by show (bif Nat.blt pc (nd 243 7) then ic_243 pc else none) = _; rw [show Nat.blt pc (nd 243 7) = true from Nat.ble_eq_true_of_le h]; rfl
  rw [h3]; exact h2 pc h
set_option maxRecDepth 100000 in
theorem okC_244 : okC 244 := by
  intro pc h
  have h2 : ∀ pc, pc < 36 → okI cX12_runGoal 244 pc (ic_244 pc) = true := by decide +kernel
  have h3 : ins 244 pc = ic_244 pc := by show (bif Nat.blt pc (nd 244 7) then ic_244 pc else none) = _; rw [show Nat.blt pc (nd 244 7) = true from Nat.ble_eq_true_of_le h]; rfl
  rw [h3]; exact h2 pc h
set_option maxRecDepth 100000 in
theorem okC_245 : okC 245 := by
  intro pc h
  have h2 : ∀ pc, pc < 31 → okI cX12_run 245 pc (ic_245 pc) = true := by decide +kernel
  have h3 : ins 245 pc = ic_245 pc := by show (bif Nat.blt pc (nd 245 7) then ic_245 pc else none) = _; rw [show Nat.blt pc (nd 245 7) = true from Nat.ble_eq_true_of_le h]; rfl
  rw [h3]; exact h2 pc h
set_option maxRecDepth 100000 in
theorem okC_246 : okC 246 := by
  intro pc h
  have h2 : ∀ pc, pc < 38 → okI cX12_result 246 pc (ic_246 pc) = true := by decide +kernel
  have h3 : ins 246 pc = ic_246 pc := by show (bif Nat.blt pc (nd 246 7) then ic_246 pc else none) = _; rw [show Nat.blt pc (nd 246 7) = true from Nat.ble_eq_true_of_le h]; rfl
  rw [h3]; exact h2 pc h
set_option maxRecDepth 100000 in
theorem okC_247 : okC 247 := by
  intro pc h
  have h2 : ∀ pc, pc < 7 → okI cX12_isTold 247 pc (ic_247 pc) = true := by decide +kernel
  have h3 : ins 247 pc = ic_247 pc := by show (bif Nat.blt pc (nd 247 7) then ic_247 pc else none) = _; rw [show Nat.blt pc (nd 247 7) = true from Nat.ble_eq_true_of_le h]; rfl
  rw [h3]; exact h2 pc h
set_option maxRecDepth 100000 in
theorem okC_248 : okC 248 := by
  intro pc h
  have h2 : ∀ pc, pc < 45 → okI cX12_runOf 248 pc (ic_248 pc) = true := by decide +kernel
  have h3 : ins 248 pc = ic_248 pc := by show (bif Nat.blt pc (nd 248 7) then ic_248 pc else none) = _; rw [show Nat.blt pc (nd 248 7) = true from Nat.ble_eq_true_of_le h]; rfl
  rw [h3]; exact h2 pc h
theorem okC_249_0 : ∀ j, j < 64 → okI cX12_step 249 (0 + j) (ic_249 (0 + j)) = true := by decide +kernel
theorem okC_249_1 : ∀ j, j < 64 → okI cX12_step 249 (64 + j) (ic_249 (64 + j)) = true := by decide +kernel
theorem okC_249_2 : ∀ j, j < 64 → okI cX12_step 249 (128 + j) (ic_249 (128 + j)) = true := by decide +kernel
set_option maxRecDepth 100000 in
theorem okC_249 : okC 249 := by
  intro pc h
  have h3 : ins 249 pc = ic_249 pc := by show (bif Nat.blt pc (nd 249 7) then ic_249 pc else none) = _; rw [show Nat.blt pc (nd 249 7) = true from Nat.ble_eq_true_of_le h]; rfl
  rw [h3]
  have h6 : pc < 173 := h
  show okI cX12_step 249 pc (ic_249 pc) = true
  by_cases q0 : pc < 64
  · have h5 := okC_249_0 (pc - 0) (by omega)
    rw [show 0 + (pc - 0) = pc by omega] at h5
    exact h5
  by_cases q1 : pc < 128
  · have h5 := okC_249_1 (pc - 64) (by omega)
    rw [show 64 + (pc - 64) = pc by omega] at h5
    exact h5
  by_cases q2 : pc < 192
  · have h5 := okC_249_2 (pc - 128) (by omega)
    rw [show 128 + (pc - 128) = pc by omega] at h5
    exact h5
  omega
set_option maxRecDepth 100000 in
theorem okC_250 : okC 250 := by
  intro pc h
  have h2 : ∀ pc, pc < 65 → okI cX12_saved 250 pc (ic_250 pc) = true := by decide +kernel
  have h3 : ins 250 pc = ic_250 pc := by show (bif Nat.blt pc (nd 250 7) then ic_250 pc else none) = _; rw [show Nat.blt pc (nd 250 7) = true from Nat.ble_eq_true_of_le h]; rfl
  rw [h3]; exact h2 pc h
set_option maxRecDepth 100000 in
theorem okC_251 : okC 251 := by
  intro pc h
  have h2 : ∀ pc, pc < 5 → okI cX12_deepest 251 pc (ic_251 pc) = true := by decide +kernel
  have h3 : ins 251 pc = ic_251 pc := by show (bif Nat.blt pc (nd 251 7) then ic_251 pc else none) = _; rw [show Nat.blt pc (nd 251 7) = true from Nat.ble_eq_true_of_le h]; rfl
  rw [h3]; exact h2 pc h
theorem okC_252_0 : ∀ j, j < 64 → okI cX12_isInstance 252 (0 + j) (ic_252 (0 + j)) = true := by decide +kernel
theorem okC_252_1 : ∀ j, j < 64 → okI cX12_isInstance 252 (64 + j) (ic_252 (64 + j)) = true := by decide +kernel
theorem okC_252_2 : ∀ j, j < 64 → okI cX12_isInstance 252 (128 + j) (ic_252 (128 + j)) = true := by decide +kernel
set_option maxRecDepth 100000 in
theorem okC_252 : okC 252 := by
  intro pc h
  have h3 : ins 252 pc = ic_252 pc := by show (bif Nat.blt pc (nd 252 7) then ic_252 pc else none) = _; rw [show Nat.blt pc (nd 252 7) = true from Nat.ble_eq_true_of_le h]; rfl
  rw [h3]
  have h6 : pc < 177 := h
  show okI cX12_isInstance 252 pc (ic_252 pc) = true
  by_cases q0 : pc < 64
  · have h5 := okC_252_0 (pc - 0) (by omega)
    rw [show 0 + (pc - 0) = pc by omega] at h5
    exact h5
  by_cases q1 : pc < 128
  · have h5 := okC_252_1 (pc - 64) (by omega)
    rw [show 64 + (pc - 64) = pc by omega] at h5
    exact h5
  by_cases q2 : pc < 192
  · have h5 := okC_252_2 (pc - 128) (by omega)
    rw [show 128 + (pc - 128) = pc by omega] at h5
    exact h5
  omega
set_option maxRecDepth 100000 in
theorem okC_253 : okC 253 := by
  intro pc h
  have h2 : ∀ pc, pc < 90 → okI cX12_isRenaming 253 pc (ic_253 pc) = true := by decide +kernel
  have h3 : ins 253 pc = ic_253 pc := by show (bif Nat.blt pc (nd 253 7) then ic_253 pc else none) = _; rw [show Nat.blt pc (nd 253 7) = true from Nat.ble_eq_true_of_le h]; rfl
  rw [h3]; exact h2 pc h
set_option maxRecDepth 100000 in
theorem okC_254 : okC 254 := by
  intro pc h
  have h2 : ∀ pc, pc < 129 → okI cX12_coupledAt 254 pc (ic_254 pc) = true := by decide +kernel
  have h3 : ins 254 pc = ic_254 pc := by show (bif Nat.blt pc (nd 254 7) then ic_254 pc else none) = _; rw [show Nat.blt pc (nd 254 7) = true from Nat.ble_eq_true_of_le h]; rfl
  rw [h3]; exact h2 pc h
set_option maxRecDepth 100000 in
theorem okC_255 : okC 255 := by
  intro pc h
  have h2 : ∀ pc, pc < 140 → okI cX12_layEmbedded 255 pc (ic_255 pc) = true := by decide +kernel
  have h3 : ins 255 pc = ic_255 pc := by show (bif Nat.blt pc (nd 255 7) then ic_255 pc else none) = _; rw [show Nat.blt pc (nd 255 7) = true from Nat.ble_eq_true_of_le h]; rfl
  rw [h3]; exact h2 pc h
set_option maxRecDepth 100000 in
theorem okC_256 : okC 256 := by
  intro pc h
  have h2 : ∀ pc, pc < 43 → okI cX12_isCoupled 256 pc (ic_256 pc) = true := by decide +kernel
  have h3 : ins 256 pc = ic_256 pc := by show (bif Nat.blt pc (nd 256 7) then ic_256 pc else none) = _; rw [show Nat.blt pc (nd 256 7) = true from Nat.ble_eq_true_of_le h]; rfl
  rw [h3]; exact h2 pc h
set_option maxRecDepth 100000 in
theorem okC_257 : okC 257 := by
  intro pc h
  have h2 : ∀ pc, pc < 131 → okI cX12_layCommon 257 pc (ic_257 pc) = true := by decide +kernel
  have h3 : ins 257 pc = ic_257 pc := by show (bif Nat.blt pc (nd 257 7) then ic_257 pc else none) = _; rw [show Nat.blt pc (nd 257 7) = true from Nat.ble_eq_true_of_le h]; rfl
  rw [h3]; exact h2 pc h
set_option maxRecDepth 100000 in
theorem okC_258 : okC 258 := by
  intro pc h
  have h2 : ∀ pc, pc < 95 → okI cX12_pairOf 258 pc (ic_258 pc) = true := by decide +kernel
  have h3 : ins 258 pc = ic_258 pc := by show (bif Nat.blt pc (nd 258 7) then ic_258 pc else none) = _; rw [show Nat.blt pc (nd 258 7) = true from Nat.ble_eq_true_of_le h]; rfl
  rw [h3]; exact h2 pc h
set_option maxRecDepth 100000 in
theorem okC_259 : okC 259 := by
  intro pc h
  have h2 : ∀ pc, pc < 33 → okI cX12_isSameAt 259 pc (ic_259 pc) = true := by decide +kernel
  have h3 : ins 259 pc = ic_259 pc := by show (bif Nat.blt pc (nd 259 7) then ic_259 pc else none) = _; rw [show Nat.blt pc (nd 259 7) = true from Nat.ble_eq_true_of_le h]; rfl
  rw [h3]; exact h2 pc h
theorem okC_260_0 : ∀ j, j < 64 → okI cX12_relation 260 (0 + j) (ic_260 (0 + j)) = true := by decide +kernel
theorem okC_260_1 : ∀ j, j < 64 → okI cX12_relation 260 (64 + j) (ic_260 (64 + j)) = true := by decide +kernel
theorem okC_260_2 : ∀ j, j < 64 → okI cX12_relation 260 (128 + j) (ic_260 (128 + j)) = true := by decide +kernel
set_option maxRecDepth 100000 in
theorem okC_260 : okC 260 := by
  intro pc h
  have h3 : ins 260 pc = ic_260 pc := by show (bif Nat.blt pc (nd 260 7) then ic_260 pc else none) = _; rw [show Nat.blt pc (nd 260 7) = true from Nat.ble_eq_true_of_le h]; rfl
  rw [h3]
  have h6 : pc < 168 := h
  show okI cX12_relation 260 pc (ic_260 pc) = true
  by_cases q0 : pc < 64
  · have h5 := okC_260_0 (pc - 0) (by omega)
    rw [show 0 + (pc - 0) = pc by omega] at h5
    exact h5
  by_cases q1 : pc < 128
  · have h5 := okC_260_1 (pc - 64) (by omega)
    rw [show 64 + (pc - 64) = pc by omega] at h5
    exact h5
  by_cases q2 : pc < 192
  · have h5 := okC_260_2 (pc - 128) (by omega)
    rw [show 128 + (pc - 128) = pc by omega] at h5
    exact h5
  omega
set_option maxRecDepth 100000 in
theorem okC_261 : okC 261 := by
  intro pc h
  have h2 : ∀ pc, pc < 64 → okI cX12_common 261 pc (ic_261 pc) = true := by decide +kernel
  have h3 : ins 261 pc = ic_261 pc := by show (bif Nat.blt pc (nd 261 7) then ic_261 pc else none) = _; rw [show Nat.blt pc (nd 261 7) = true from Nat.ble_eq_true_of_le h]; rfl
  rw [h3]; exact h2 pc h
set_option maxRecDepth 100000 in
theorem okC_262 : okC 262 := by
  intro pc h
  have h2 : ∀ pc, pc < 66 → okI cX12_commonOf 262 pc (ic_262 pc) = true := by decide +kernel
  have h3 : ins 262 pc = ic_262 pc := by show (bif Nat.blt pc (nd 262 7) then ic_262 pc else none) = _; rw [show Nat.blt pc (nd 262 7) = true from Nat.ble_eq_true_of_le h]; rfl
  rw [h3]; exact h2 pc h
set_option maxRecDepth 100000 in
theorem okC_263 : okC 263 := by
  intro pc h
  have h2 : ∀ pc, pc < 6 → okI cX12_beginWriting 263 pc (ic_263 pc) = true := by decide +kernel
  have h3 : ins 263 pc = ic_263 pc := by show (bif Nat.blt pc (nd 263 7) then ic_263 pc else none) = _; rw [show Nat.blt pc (nd 263 7) = true from Nat.ble_eq_true_of_le h]; rfl
  rw [h3]; exact h2 pc h
set_option maxRecDepth 100000 in
theorem okC_264 : okC 264 := by
  intro pc h
  have h2 : ∀ pc, pc < 22 → okI cX12_put 264 pc (ic_264 pc) = true := by decide +kernel
  have h3 : ins 264 pc = ic_264 pc := by show (bif Nat.blt pc (nd 264 7) then ic_264 pc else none) = _; rw [show Nat.blt pc (nd 264 7) = true from Nat.ble_eq_true_of_le h]; rfl
  rw [h3]; exact h2 pc h
set_option maxRecDepth 100000 in
theorem okC_265 : okC 265 := by
  intro pc h
  have h2 : ∀ pc, pc < 49 → okI cX12_putNumber 265 pc (ic_265 pc) = true := by decide +kernel
  have h3 : ins 265 pc = ic_265 pc := by show (bif Nat.blt pc (nd 265 7) then ic_265 pc else none) = _; rw [show Nat.blt pc (nd 265 7) = true from Nat.ble_eq_true_of_le h]; rfl
  rw [h3]; exact h2 pc h
set_option maxRecDepth 100000 in
theorem okC_266 : okC 266 := by
  intro pc h
  have h2 : ∀ pc, pc < 29 → okI cX12_putName 266 pc (ic_266 pc) = true := by decide +kernel
  have h3 : ins 266 pc = ic_266 pc := by show (bif Nat.blt pc (nd 266 7) then ic_266 pc else none) = _; rw [show Nat.blt pc (nd 266 7) = true from Nat.ble_eq_true_of_le h]; rfl
  rw [h3]; exact h2 pc h
set_option maxRecDepth 100000 in
theorem okC_267 : okC 267 := by
  intro pc h
  have h2 : ∀ pc, pc < 26 → okI cX12_putVar 267 pc (ic_267 pc) = true := by decide +kernel
  have h3 : ins 267 pc = ic_267 pc := by show (bif Nat.blt pc (nd 267 7) then ic_267 pc else none) = _; rw [show Nat.blt pc (nd 267 7) = true from Nat.ble_eq_true_of_le h]; rfl
  rw [h3]; exact h2 pc h
set_option maxRecDepth 100000 in
theorem okC_268 : okC 268 := by
  intro pc h
  have h2 : ∀ pc, pc < 23 → okI cX12_writeRow 268 pc (ic_268 pc) = true := by decide +kernel
  have h3 : ins 268 pc = ic_268 pc := by show (bif Nat.blt pc (nd 268 7) then ic_268 pc else none) = _; rw [show Nat.blt pc (nd 268 7) = true from Nat.ble_eq_true_of_le h]; rfl
  rw [h3]; exact h2 pc h
theorem okC_269_0 : ∀ j, j < 64 → okI cX12_writeThings 269 (0 + j) (ic_269 (0 + j)) = true := by decide +kernel
theorem okC_269_1 : ∀ j, j < 64 → okI cX12_writeThings 269 (64 + j) (ic_269 (64 + j)) = true := by decide +kernel
theorem okC_269_2 : ∀ j, j < 64 → okI cX12_writeThings 269 (128 + j) (ic_269 (128 + j)) = true := by decide +kernel
set_option maxRecDepth 100000 in
theorem okC_269 : okC 269 := by
  intro pc h
  have h3 : ins 269 pc = ic_269 pc := by show (bif Nat.blt pc (nd 269 7) then ic_269 pc else none) = _; rw [show Nat.blt pc (nd 269 7) = true from Nat.ble_eq_true_of_le h]; rfl
  rw [h3]
  have h6 : pc < 174 := h
  show okI cX12_writeThings 269 pc (ic_269 pc) = true
  by_cases q0 : pc < 64
  · have h5 := okC_269_0 (pc - 0) (by omega)
    rw [show 0 + (pc - 0) = pc by omega] at h5
    exact h5
  by_cases q1 : pc < 128
  · have h5 := okC_269_1 (pc - 64) (by omega)
    rw [show 64 + (pc - 64) = pc by omega] at h5
    exact h5
  by_cases q2 : pc < 192
  · have h5 := okC_269_2 (pc - 128) (by omega)
    rw [show 128 + (pc - 128) = pc by omega] at h5
    exact h5
  omega
set_option maxRecDepth 100000 in
theorem okC_270 : okC 270 := by
  intro pc h
  have h2 : ∀ pc, pc < 51 → okI cX12_closeAll 270 pc (ic_270 pc) = true := by decide +kernel
  have h3 : ins 270 pc = ic_270 pc := by show (bif Nat.blt pc (nd 270 7) then ic_270 pc else none) = _; rw [show Nat.blt pc (nd 270 7) = true from Nat.ble_eq_true_of_le h]; rfl
  rw [h3]; exact h2 pc h
set_option maxRecDepth 100000 in
theorem okC_271 : okC 271 := by
  intro pc h
  have h2 : ∀ pc, pc < 38 → okI cX12_write 271 pc (ic_271 pc) = true := by decide +kernel
  have h3 : ins 271 pc = ic_271 pc := by show (bif Nat.blt pc (nd 271 7) then ic_271 pc else none) = _; rw [show Nat.blt pc (nd 271 7) = true from Nat.ble_eq_true_of_le h]; rfl
  rw [h3]; exact h2 pc h
set_option maxRecDepth 100000 in
theorem okC_272 : okC 272 := by
  intro pc h
  have h2 : ∀ pc, pc < 25 → okI cX12_octet 272 pc (ic_272 pc) = true := by decide +kernel
  have h3 : ins 272 pc = ic_272 pc := by show (bif Nat.blt pc (nd 272 7) then ic_272 pc else none) = _; rw [show Nat.blt pc (nd 272 7) = true from Nat.ble_eq_true_of_le h]; rfl
  rw [h3]; exact h2 pc h
set_option maxRecDepth 100000 in
theorem okC_273 : okC 273 := by
  intro pc h
  have h2 : ∀ pc, pc < 119 → okI cX12_deepIn 273 pc (ic_273 pc) = true := by decide +kernel
  have h3 : ins 273 pc = ic_273 pc := by show (bif Nat.blt pc (nd 273 7) then ic_273 pc else none) = _; rw [show Nat.blt pc (nd 273 7) = true from Nat.ble_eq_true_of_le h]; rfl
  rw [h3]; exact h2 pc h
set_option maxRecDepth 100000 in
theorem okC_274 : okC 274 := by
  intro pc h
  have h2 : ∀ pc, pc < 117 → okI cX12_of 274 pc (ic_274 pc) = true := by decide +kernel
  have h3 : ins 274 pc = ic_274 pc := by show (bif Nat.blt pc (nd 274 7) then ic_274 pc else none) = _; rw [show Nat.blt pc (nd 274 7) = true from Nat.ble_eq_true_of_le h]; rfl
  rw [h3]; exact h2 pc h
set_option maxRecDepth 100000 in
theorem okC_275 : okC 275 := by
  intro pc h
  have h2 : ∀ pc, pc < 140 → okI cX12_make 275 pc (ic_275 pc) = true := by decide +kernel
  have h3 : ins 275 pc = ic_275 pc := by show (bif Nat.blt pc (nd 275 7) then ic_275 pc else none) = _; rw [show Nat.blt pc (nd 275 7) = true from Nat.ble_eq_true_of_le h]; rfl
  rw [h3]; exact h2 pc h
set_option maxRecDepth 100000 in
theorem okC_276 : okC 276 := by
  intro pc h
  have h2 : ∀ pc, pc < 14 → okI cX12_breaks 276 pc (ic_276 pc) = true := by decide +kernel
  have h3 : ins 276 pc = ic_276 pc := by show (bif Nat.blt pc (nd 276 7) then ic_276 pc else none) = _; rw [show Nat.blt pc (nd 276 7) = true from Nat.ble_eq_true_of_le h]; rfl
  rw [h3]; exact h2 pc h
set_option maxRecDepth 100000 in
theorem okC_277 : okC 277 := by
  intro pc h
  have h2 : ∀ pc, pc < 47 → okI cX12_makeBelow 277 pc (ic_277 pc) = true := by decide +kernel
  have h3 : ins 277 pc = ic_277 pc := by show (bif Nat.blt pc (nd 277 7) then ic_277 pc else none) = _; rw [show Nat.blt pc (nd 277 7) = true from Nat.ble_eq_true_of_le h]; rfl
  rw [h3]; exact h2 pc h
set_option maxRecDepth 100000 in
theorem okC_278 : okC 278 := by
  intro pc h
  have h2 : ∀ pc, pc < 95 → okI cX12_nextNode 278 pc (ic_278 pc) = true := by decide +kernel
  have h3 : ins 278 pc = ic_278 pc := by show (bif Nat.blt pc (nd 278 7) then ic_278 pc else none) = _; rw [show Nat.blt pc (nd 278 7) = true from Nat.ble_eq_true_of_le h]; rfl
  rw [h3]; exact h2 pc h
set_option maxRecDepth 100000 in
theorem okC_279 : okC 279 := by
  intro pc h
  have h2 : ∀ pc, pc < 28 → okI cX12_firstNew 279 pc (ic_279 pc) = true := by decide +kernel
  have h3 : ins 279 pc = ic_279 pc := by show (bif Nat.blt pc (nd 279 7) then ic_279 pc else none) = _; rw [show Nat.blt pc (nd 279 7) = true from Nat.ble_eq_true_of_le h]; rfl
  rw [h3]; exact h2 pc h
set_option maxRecDepth 100000 in
theorem okC_280 : okC 280 := by
  intro pc h
  have h2 : ∀ pc, pc < 100 → okI cX12_nearest 280 pc (ic_280 pc) = true := by decide +kernel
  have h3 : ins 280 pc = ic_280 pc := by show (bif Nat.blt pc (nd 280 7) then ic_280 pc else none) = _; rw [show Nat.blt pc (nd 280 7) = true from Nat.ble_eq_true_of_le h]; rfl
  rw [h3]; exact h2 pc h
theorem okC_281_0 : ∀ j, j < 64 → okI cX12_lookAt 281 (0 + j) (ic_281 (0 + j)) = true := by decide +kernel
theorem okC_281_1 : ∀ j, j < 64 → okI cX12_lookAt 281 (64 + j) (ic_281 (64 + j)) = true := by decide +kernel
theorem okC_281_2 : ∀ j, j < 64 → okI cX12_lookAt 281 (128 + j) (ic_281 (128 + j)) = true := by decide +kernel
theorem okC_281_3 : ∀ j, j < 64 → okI cX12_lookAt 281 (192 + j) (ic_281 (192 + j)) = true := by decide +kernel
set_option maxRecDepth 100000 in
theorem okC_281 : okC 281 := by
  intro pc h
  have h3 : ins 281 pc = ic_281 pc := by show (bif Nat.blt pc (nd 281 7) then ic_281 pc else none) = _; rw [show Nat.blt pc (nd 281 7) = true from Nat.ble_eq_true_of_le h]; rfl
  rw [h3]
  have h6 : pc < 201 := h
  show okI cX12_lookAt 281 pc (ic_281 pc) = true
  by_cases q0 : pc < 64
  · have h5 := okC_281_0 (pc - 0) (by omega)
    rw [show 0 + (pc - 0) = pc by omega] at h5
    exact h5
  by_cases q1 : pc < 128
  · have h5 := okC_281_1 (pc - 64) (by omega)
    rw [show 64 + (pc - 64) = pc by omega] at h5
    exact h5
  by_cases q2 : pc < 192
  · have h5 := okC_281_2 (pc - 128) (by omega)
    rw [show 128 + (pc - 128) = pc by omega] at h5
    exact h5
  by_cases q3 : pc < 256
  · have h5 := okC_281_3 (pc - 192) (by omega)
    rw [show 192 + (pc - 192) = pc by omega] at h5
    exact h5
  omega
set_option maxRecDepth 100000 in
theorem okC_282 : okC 282 := by
  intro pc h
  have h2 : ∀ pc, pc < 94 → okI cX12_lookBelow 282 pc (ic_282 pc) = true := by decide +kernel
  have h3 : ins 282 pc = ic_282 pc := by show (bif Nat.blt pc (nd 282 7) then ic_282 pc else none) = _; rw [show Nat.blt pc (nd 282 7) = true from Nat.ble_eq_true_of_le h]; rfl
  rw [h3]; exact h2 pc h
set_option maxRecDepth 100000 in
theorem okC_283 : okC 283 := by
  intro pc h
  have h2 : ∀ pc, pc < 99 → okI cX12_letBelow 283 pc (ic_283 pc) = true := by decide +kernel
  have h3 : ins 283 pc = ic_283 pc := by show (bif Nat.blt pc (nd 283 7) then ic_283 pc else none) = _; rw [show Nat.blt pc (nd 283 7) = true from Nat.ble_eq_true_of_le h]; rfl
  rw [h3]; exact h2 pc h
set_option maxRecDepth 100000 in
theorem okC_284 : okC 284 := by
  intro pc h
  have h2 : ∀ pc, pc < 148 → okI cX12_turnUp 284 pc (ic_284 pc) = true := by decide +kernel
  have h3 : ins 284 pc = ic_284 pc := by show (bif Nat.blt pc (nd 284 7) then ic_284 pc else none) = _; rw [show Nat.blt pc (nd 284 7) = true from Nat.ble_eq_true_of_le h]; rfl
  rw [h3]; exact h2 pc h
set_option maxRecDepth 100000 in
theorem okC_285 : okC 285 := by
  intro pc h
  have h2 : ∀ pc, pc < 123 → okI cX12_goBelow 285 pc (ic_285 pc) = true := by decide +kernel
  have h3 : ins 285 pc = ic_285 pc := by show (bif Nat.blt pc (nd 285 7) then ic_285 pc else none) = _; rw [show Nat.blt pc (nd 285 7) = true from Nat.ble_eq_true_of_le h]; rfl
  rw [h3]; exact h2 pc h
set_option maxRecDepth 100000 in
theorem okC_286 : okC 286 := by
  intro pc h
  have h2 : ∀ pc, pc < 46 → okI cX12_stepBelow 286 pc (ic_286 pc) = true := by decide +kernel
  have h3 : ins 286 pc = ic_286 pc := by show (bif Nat.blt pc (nd 286 7) then ic_286 pc else none) = _; rw [show Nat.blt pc (nd 286 7) = true from Nat.ble_eq_true_of_le h]; rfl
  rw [h3]; exact h2 pc h
theorem okC_287_0 : ∀ j, j < 64 → okI cX12_splitBelow 287 (0 + j) (ic_287 (0 + j)) = true := by decide +kernel
theorem okC_287_1 : ∀ j, j < 64 → okI cX12_splitBelow 287 (64 + j) (ic_287 (64 + j)) = true := by decide +kernel
theorem okC_287_2 : ∀ j, j < 64 → okI cX12_splitBelow 287 (128 + j) (ic_287 (128 + j)) = true := by decide +kernel
theorem okC_287_3 : ∀ j, j < 64 → okI cX12_splitBelow 287 (192 + j) (ic_287 (192 + j)) = true := by decide +kernel
set_option maxRecDepth 100000 in
theorem okC_287 : okC 287 := by
  intro pc h
  have h3 : ins 287 pc = ic_287 pc := by show (bif Nat.blt pc (nd 287 7) then ic_287 pc else none) = _; rw [show Nat.blt pc (nd 287 7) = true from Nat.ble_eq_true_of_le h]; rfl
  rw [h3]
  have h6 : pc < 196 := h
  show okI cX12_splitBelow 287 pc (ic_287 pc) = true
  by_cases q0 : pc < 64
  · have h5 := okC_287_0 (pc - 0) (by omega)
    rw [show 0 + (pc - 0) = pc by omega] at h5
    exact h5
  by_cases q1 : pc < 128
  · have h5 := okC_287_1 (pc - 64) (by omega)
    rw [show 64 + (pc - 64) = pc by omega] at h5
    exact h5
  by_cases q2 : pc < 192
  · have h5 := okC_287_2 (pc - 128) (by omega)
    rw [show 128 + (pc - 128) = pc by omega] at h5
    exact h5
  by_cases q3 : pc < 256
  · have h5 := okC_287_3 (pc - 192) (by omega)
    rw [show 192 + (pc - 192) = pc by omega] at h5
    exact h5
  omega
set_option maxRecDepth 100000 in
theorem okC_288 : okC 288 := by
  intro pc h
  have h2 : ∀ pc, pc < 102 → okI cX12_driveTree 288 pc (ic_288 pc) = true := by decide +kernel
  have h3 : ins 288 pc = ic_288 pc := by show (bif Nat.blt pc (nd 288 7) then ic_288 pc else none) = _; rw [show Nat.blt pc (nd 288 7) = true from Nat.ble_eq_true_of_le h]; rfl
  rw [h3]; exact h2 pc h
set_option maxRecDepth 100000 in
theorem okC_289 : okC 289 := by
  intro pc h
  have h2 : ∀ pc, pc < 66 → okI cX12_drive 289 pc (ic_289 pc) = true := by decide +kernel
  have h3 : ins 289 pc = ic_289 pc := by show (bif Nat.blt pc (nd 289 7) then ic_289 pc else none) = _; rw [show Nat.blt pc (nd 289 7) = true from Nat.ble_eq_true_of_le h]; rfl
  rw [h3]; exact h2 pc h
set_option maxRecDepth 100000 in
theorem okC_290 : okC 290 := by
  intro pc h
  have h2 : ∀ pc, pc < 35 → okI cX12_isFoldedTo 290 pc (ic_290 pc) = true := by decide +kernel
  have h3 : ins 290 pc = ic_290 pc := by show (bif Nat.blt pc (nd 290 7) then ic_290 pc else none) = _; rw [show Nat.blt pc (nd 290 7) = true from Nat.ble_eq_true_of_le h]; rfl
  rw [h3]; exact h2 pc h
theorem okC_291_0 : ∀ j, j < 64 → okI cX12_number 291 (0 + j) (ic_291 (0 + j)) = true := by decide +kernel
theorem okC_291_1 : ∀ j, j < 64 → okI cX12_number 291 (64 + j) (ic_291 (64 + j)) = true := by decide +kernel
theorem okC_291_2 : ∀ j, j < 64 → okI cX12_number 291 (128 + j) (ic_291 (128 + j)) = true := by decide +kernel
set_option maxRecDepth 100000 in
theorem okC_291 : okC 291 := by
  intro pc h
  have h3 : ins 291 pc = ic_291 pc := by show (bif Nat.blt pc (nd 291 7) then ic_291 pc else none) = _; rw [show Nat.blt pc (nd 291 7) = true from Nat.ble_eq_true_of_le h]; rfl
  rw [h3]
  have h6 : pc < 179 := h
  show okI cX12_number 291 pc (ic_291 pc) = true
  by_cases q0 : pc < 64
  · have h5 := okC_291_0 (pc - 0) (by omega)
    rw [show 0 + (pc - 0) = pc by omega] at h5
    exact h5
  by_cases q1 : pc < 128
  · have h5 := okC_291_1 (pc - 64) (by omega)
    rw [show 64 + (pc - 64) = pc by omega] at h5
    exact h5
  by_cases q2 : pc < 192
  · have h5 := okC_291_2 (pc - 128) (by omega)
    rw [show 128 + (pc - 128) = pc by omega] at h5
    exact h5
  omega
set_option maxRecDepth 100000 in
theorem okC_292 : okC 292 := by
  intro pc h
  have h2 : ∀ pc, pc < 121 → okI cX12_laySides 292 pc (ic_292 pc) = true := by decide +kernel
  have h3 : ins 292 pc = ic_292 pc := by show (bif Nat.blt pc (nd 292 7) then ic_292 pc else none) = _; rw [show Nat.blt pc (nd 292 7) = true from Nat.ble_eq_true_of_le h]; rfl
  rw [h3]; exact h2 pc h
set_option maxRecDepth 100000 in
theorem okC_293 : okC 293 := by
  intro pc h
  have h2 : ∀ pc, pc < 21 → okI cX12_clausesOf 293 pc (ic_293 pc) = true := by decide +kernel
  have h3 : ins 293 pc = ic_293 pc := by show (bif Nat.blt pc (nd 293 7) then ic_293 pc else none) = _; rw [show Nat.blt pc (nd 293 7) = true from Nat.ble_eq_true_of_le h]; rfl
  rw [h3]; exact h2 pc h
theorem okC_294_0 : ∀ j, j < 64 → okI cX12_layResidue 294 (0 + j) (ic_294 (0 + j)) = true := by decide +kernel
theorem okC_294_1 : ∀ j, j < 64 → okI cX12_layResidue 294 (64 + j) (ic_294 (64 + j)) = true := by decide +kernel
theorem okC_294_2 : ∀ j, j < 64 → okI cX12_layResidue 294 (128 + j) (ic_294 (128 + j)) = true := by decide +kernel
theorem okC_294_3 : ∀ j, j < 64 → okI cX12_layResidue 294 (192 + j) (ic_294 (192 + j)) = true := by decide +kernel
set_option maxRecDepth 100000 in
theorem okC_294 : okC 294 := by
  intro pc h
  have h3 : ins 294 pc = ic_294 pc := by show (bif Nat.blt pc (nd 294 7) then ic_294 pc else none) = _; rw [show Nat.blt pc (nd 294 7) = true from Nat.ble_eq_true_of_le h]; rfl
  rw [h3]
  have h6 : pc < 198 := h
  show okI cX12_layResidue 294 pc (ic_294 pc) = true
  by_cases q0 : pc < 64
  · have h5 := okC_294_0 (pc - 0) (by omega)
    rw [show 0 + (pc - 0) = pc by omega] at h5
    exact h5
  by_cases q1 : pc < 128
  · have h5 := okC_294_1 (pc - 64) (by omega)
    rw [show 64 + (pc - 64) = pc by omega] at h5
    exact h5
  by_cases q2 : pc < 192
  · have h5 := okC_294_2 (pc - 128) (by omega)
    rw [show 128 + (pc - 128) = pc by omega] at h5
    exact h5
  by_cases q3 : pc < 256
  · have h5 := okC_294_3 (pc - 192) (by omega)
    rw [show 192 + (pc - 192) = pc by omega] at h5
    exact h5
  omega
set_option maxRecDepth 100000 in
theorem okC_295 : okC 295 := by
  intro pc h
  have h2 : ∀ pc, pc < 9 → okI cX12_nameOfFunction 295 pc (ic_295 pc) = true := by decide +kernel
  have h3 : ins 295 pc = ic_295 pc := by show (bif Nat.blt pc (nd 295 7) then ic_295 pc else none) = _; rw [show Nat.blt pc (nd 295 7) = true from Nat.ble_eq_true_of_le h]; rfl
  rw [h3]; exact h2 pc h
set_option maxRecDepth 100000 in
theorem okC_296 : okC 296 := by
  intro pc h
  have h2 : ∀ pc, pc < 160 → okI cX12_layCall 296 pc (ic_296 pc) = true := by decide +kernel
  have h3 : ins 296 pc = ic_296 pc := by show (bif Nat.blt pc (nd 296 7) then ic_296 pc else none) = _; rw [show Nat.blt pc (nd 296 7) = true from Nat.ble_eq_true_of_le h]; rfl
  rw [h3]; exact h2 pc h
theorem okC_297_0 : ∀ j, j < 64 → okI cX12_layComes 297 (0 + j) (ic_297 (0 + j)) = true := by decide +kernel
theorem okC_297_1 : ∀ j, j < 64 → okI cX12_layComes 297 (64 + j) (ic_297 (64 + j)) = true := by decide +kernel
theorem okC_297_2 : ∀ j, j < 64 → okI cX12_layComes 297 (128 + j) (ic_297 (128 + j)) = true := by decide +kernel
theorem okC_297_3 : ∀ j, j < 64 → okI cX12_layComes 297 (192 + j) (ic_297 (192 + j)) = true := by decide +kernel
set_option maxRecDepth 100000 in
theorem okC_297 : okC 297 := by
  intro pc h
  have h3 : ins 297 pc = ic_297 pc := by show (bif Nat.blt pc (nd 297 7) then ic_297 pc else none) = _; rw [show Nat.blt pc (nd 297 7) = true from Nat.ble_eq_true_of_le h]; rfl
  rw [h3]
  have h6 : pc < 199 := h
  show okI cX12_layComes 297 pc (ic_297 pc) = true
  by_cases q0 : pc < 64
  · have h5 := okC_297_0 (pc - 0) (by omega)
    rw [show 0 + (pc - 0) = pc by omega] at h5
    exact h5
  by_cases q1 : pc < 128
  · have h5 := okC_297_1 (pc - 64) (by omega)
    rw [show 64 + (pc - 64) = pc by omega] at h5
    exact h5
  by_cases q2 : pc < 192
  · have h5 := okC_297_2 (pc - 128) (by omega)
    rw [show 128 + (pc - 128) = pc by omega] at h5
    exact h5
  by_cases q3 : pc < 256
  · have h5 := okC_297_3 (pc - 192) (by omega)
    rw [show 192 + (pc - 192) = pc by omega] at h5
    exact h5
  omega
set_option maxRecDepth 100000 in
theorem okC_298 : okC 298 := by
  intro pc h
  have h2 : ∀ pc, pc < 74 → okI cX12_comesMore 298 pc (ic_298 pc) = true := by decide +kernel
  have h3 : ins 298 pc = ic_298 pc := by show (bif Nat.blt pc (nd 298 7) then ic_298 pc else none) = _; rw [show Nat.blt pc (nd 298 7) = true from Nat.ble_eq_true_of_le h]; rfl
  rw [h3]; exact h2 pc h
set_option maxRecDepth 100000 in
theorem okC_299 : okC 299 := by
  intro pc h
  have h2 : ∀ pc, pc < 129 → okI cX12_layLet 299 pc (ic_299 pc) = true := by decide +kernel
  have h3 : ins 299 pc = ic_299 pc := by show (bif Nat.blt pc (nd 299 7) then ic_299 pc else none) = _; rw [show Nat.blt pc (nd 299 7) = true from Nat.ble_eq_true_of_le h]; rfl
  rw [h3]; exact h2 pc h
set_option maxRecDepth 100000 in
theorem okC_300 : okC 300 := by
  intro pc h
  have h2 : ∀ pc, pc < 47 → okI cX12_comesOne 300 pc (ic_300 pc) = true := by decide +kernel
  have h3 : ins 300 pc = ic_300 pc := by show (bif Nat.blt pc (nd 300 7) then ic_300 pc else none) = _; rw [show Nat.blt pc (nd 300 7) = true from Nat.ble_eq_true_of_le h]; rfl
  rw [h3]; exact h2 pc h
theorem okC_301_0 : ∀ j, j < 64 → okI cX12_layClauses 301 (0 + j) (ic_301 (0 + j)) = true := by decide +kernel
theorem okC_301_1 : ∀ j, j < 64 → okI cX12_layClauses 301 (64 + j) (ic_301 (64 + j)) = true := by decide +kernel
theorem okC_301_2 : ∀ j, j < 64 → okI cX12_layClauses 301 (128 + j) (ic_301 (128 + j)) = true := by decide +kernel
theorem okC_301_3 : ∀ j, j < 64 → okI cX12_layClauses 301 (192 + j) (ic_301 (192 + j)) = true := by decide +kernel
theorem okC_301_4 : ∀ j, j < 64 → okI cX12_layClauses 301 (256 + j) (ic_301 (256 + j)) = true := by decide +kernel
set_option maxRecDepth 100000 in
theorem okC_301 : okC 301 := by
  intro pc h
  have h3 : ins 301 pc = ic_301 pc := by show (bif Nat.blt pc (nd 301 7) then ic_301 pc else none) = _; rw [show Nat.blt pc (nd 301 7) = true from Nat.ble_eq_true_of_le h]; rfl
  rw [h3]
  have h6 : pc < 303 := h
  show okI cX12_layClauses 301 pc (ic_301 pc) = true
  by_cases q0 : pc < 64
  · have h5 := okC_301_0 (pc - 0) (by omega)
    rw [show 0 + (pc - 0) = pc by omega] at h5
    exact h5
  by_cases q1 : pc < 128
  · have h5 := okC_301_1 (pc - 64) (by omega)
    rw [show 64 + (pc - 64) = pc by omega] at h5
    exact h5
  by_cases q2 : pc < 192
  · have h5 := okC_301_2 (pc - 128) (by omega)
    rw [show 128 + (pc - 128) = pc by omega] at h5
    exact h5
  by_cases q3 : pc < 256
  · have h5 := okC_301_3 (pc - 192) (by omega)
    rw [show 192 + (pc - 192) = pc by omega] at h5
    exact h5
  by_cases q4 : pc < 320
  · have h5 := okC_301_4 (pc - 256) (by omega)
    rw [show 256 + (pc - 256) = pc by omega] at h5
    exact h5
  omega
set_option maxRecDepth 100000 in
theorem okC_302 : okC 302 := by
  intro pc h
  have h2 : ∀ pc, pc < 6 → okI cX12_varAt 302 pc (ic_302 pc) = true := by decide +kernel
  have h3 : ins 302 pc = ic_302 pc := by show (bif Nat.blt pc (nd 302 7) then ic_302 pc else none) = _; rw [show Nat.blt pc (nd 302 7) = true from Nat.ble_eq_true_of_le h]; rfl
  rw [h3]; exact h2 pc h
theorem okC_303_0 : ∀ j, j < 64 → okI cX12_conBelow 303 (0 + j) (ic_303 (0 + j)) = true := by decide +kernel
theorem okC_303_1 : ∀ j, j < 64 → okI cX12_conBelow 303 (64 + j) (ic_303 (64 + j)) = true := by decide +kernel
theorem okC_303_2 : ∀ j, j < 64 → okI cX12_conBelow 303 (128 + j) (ic_303 (128 + j)) = true := by decide +kernel
set_option maxRecDepth 100000 in
theorem okC_303 : okC 303 := by
  intro pc h
  have h3 : ins 303 pc = ic_303 pc := by show (bif Nat.blt pc (nd 303 7) then ic_303 pc else none) = _; rw [show Nat.blt pc (nd 303 7) = true from Nat.ble_eq_true_of_le h]; rfl
  rw [h3]
  have h6 : pc < 165 := h
  show okI cX12_conBelow 303 pc (ic_303 pc) = true
  by_cases q0 : pc < 64
  · have h5 := okC_303_0 (pc - 0) (by omega)
    rw [show 0 + (pc - 0) = pc by omega] at h5
    exact h5
  by_cases q1 : pc < 128
  · have h5 := okC_303_1 (pc - 64) (by omega)
    rw [show 64 + (pc - 64) = pc by omega] at h5
    exact h5
  by_cases q2 : pc < 192
  · have h5 := okC_303_2 (pc - 128) (by omega)
    rw [show 128 + (pc - 128) = pc by omega] at h5
    exact h5
  omega
set_option maxRecDepth 100000 in
theorem okC_304 : okC 304 := by
  intro pc h
  have h2 : ∀ pc, pc < 43 → okI cX12_countKind 304 pc (ic_304 pc) = true := by decide +kernel
  have h3 : ins 304 pc = ic_304 pc := by show (bif Nat.blt pc (nd 304 7) then ic_304 pc else none) = _; rw [show Nat.blt pc (nd 304 7) = true from Nat.ble_eq_true_of_le h]; rfl
  rw [h3]; exact h2 pc h
set_option maxRecDepth 100000 in
theorem okC_305 : okC 305 := by
  intro pc h
  have h2 : ∀ pc, pc < 64 → okI cX12_greatest 305 pc (ic_305 pc) = true := by decide +kernel
  have h3 : ins 305 pc = ic_305 pc := by show (bif Nat.blt pc (nd 305 7) then ic_305 pc else none) = _; rw [show Nat.blt pc (nd 305 7) = true from Nat.ble_eq_true_of_le h]; rfl
  rw [h3]; exact h2 pc h
set_option maxRecDepth 100000 in
theorem okC_306 : okC 306 := by
  intro pc h
  have h2 : ∀ pc, pc < 132 → okI cX12_tree 306 pc (ic_306 pc) = true := by decide +kernel
  have h3 : ins 306 pc = ic_306 pc := by show (bif Nat.blt pc (nd 306 7) then ic_306 pc else none) = _; rw [show Nat.blt pc (nd 306 7) = true from Nat.ble_eq_true_of_le h]; rfl
  rw [h3]; exact h2 pc h
set_option maxRecDepth 100000 in
theorem okC_307 : okC 307 := by
  intro pc h
  have h2 : ∀ pc, pc < 27 → okI cX12_isNumber 307 pc (ic_307 pc) = true := by decide +kernel
  have h3 : ins 307 pc = ic_307 pc := by show (bif Nat.blt pc (nd 307 7) then ic_307 pc else none) = _; rw [show Nat.blt pc (nd 307 7) = true from Nat.ble_eq_true_of_le h]; rfl
  rw [h3]; exact h2 pc h
set_option maxRecDepth 100000 in
theorem okC_308 : okC 308 := by
  intro pc h
  have h2 : ∀ pc, pc < 19 → okI cX12_varsOf 308 pc (ic_308 pc) = true := by decide +kernel
  have h3 : ins 308 pc = ic_308 pc := by show (bif Nat.blt pc (nd 308 7) then ic_308 pc else none) = _; rw [show Nat.blt pc (nd 308 7) = true from Nat.ble_eq_true_of_le h]; rfl
  rw [h3]; exact h2 pc h
theorem okC_309_0 : ∀ j, j < 64 → okI cX12_node 309 (0 + j) (ic_309 (0 + j)) = true := by decide +kernel
theorem okC_309_1 : ∀ j, j < 64 → okI cX12_node 309 (64 + j) (ic_309 (64 + j)) = true := by decide +kernel
theorem okC_309_2 : ∀ j, j < 64 → okI cX12_node 309 (128 + j) (ic_309 (128 + j)) = true := by decide +kernel
set_option maxRecDepth 100000 in
theorem okC_309 : okC 309 := by
  intro pc h
  have h3 : ins 309 pc = ic_309 pc := by show (bif Nat.blt pc (nd 309 7) then ic_309 pc else none) = _; rw [show Nat.blt pc (nd 309 7) = true from Nat.ble_eq_true_of_le h]; rfl
  rw [h3]
  have h6 : pc < 171 := h
  show okI cX12_node 309 pc (ic_309 pc) = true
  by_cases q0 : pc < 64
  · have h5 := okC_309_0 (pc - 0) (by omega)
    rw [show 0 + (pc - 0) = pc by omega] at h5
    exact h5
  by_cases q1 : pc < 128
  · have h5 := okC_309_1 (pc - 64) (by omega)
    rw [show 64 + (pc - 64) = pc by omega] at h5
    exact h5
  by_cases q2 : pc < 192
  · have h5 := okC_309_2 (pc - 128) (by omega)
    rw [show 128 + (pc - 128) = pc by omega] at h5
    exact h5
  omega
set_option maxRecDepth 100000 in
theorem okC_310 : okC 310 := by
  intro pc h
  have h2 : ∀ pc, pc < 48 → okI cX12_writeNode 310 pc (ic_310 pc) = true := by decide +kernel
  have h3 : ins 310 pc = ic_310 pc := by show (bif Nat.blt pc (nd 310 7) then ic_310 pc else none) = _; rw [show Nat.blt pc (nd 310 7) = true from Nat.ble_eq_true_of_le h]; rfl
  rw [h3]; exact h2 pc h
set_option maxRecDepth 100000 in
theorem okC_311 : okC 311 := by
  intro pc h
  have h2 : ∀ pc, pc < 48 → okI cX12_rankOf 311 pc (ic_311 pc) = true := by decide +kernel
  have h3 : ins 311 pc = ic_311 pc := by show (bif Nat.blt pc (nd 311 7) then ic_311 pc else none) = _; rw [show Nat.blt pc (nd 311 7) = true from Nat.ble_eq_true_of_le h]; rfl
  rw [h3]; exact h2 pc h
set_option maxRecDepth 100000 in
theorem okC_312 : okC 312 := by
  intro pc h
  have h2 : ∀ pc, pc < 113 → okI cX12_ranked 312 pc (ic_312 pc) = true := by decide +kernel
  have h3 : ins 312 pc = ic_312 pc := by show (bif Nat.blt pc (nd 312 7) then ic_312 pc else none) = _; rw [show Nat.blt pc (nd 312 7) = true from Nat.ble_eq_true_of_le h]; rfl
  rw [h3]; exact h2 pc h
set_option maxRecDepth 100000 in
theorem okC_313 : okC 313 := by
  intro pc h
  have h2 : ∀ pc, pc < 152 → okI cX12_writeLeft 313 pc (ic_313 pc) = true := by decide +kernel
  have h3 : ins 313 pc = ic_313 pc := by show (bif Nat.blt pc (nd 313 7) then ic_313 pc else none) = _; rw [show Nat.blt pc (nd 313 7) = true from Nat.ble_eq_true_of_le h]; rfl
  rw [h3]; exact h2 pc h
set_option maxRecDepth 100000 in
theorem okC_314 : okC 314 := by
  intro pc h
  have h2 : ∀ pc, pc < 57 → okI cX12_writeProgram 314 pc (ic_314 pc) = true := by decide +kernel
  have h3 : ins 314 pc = ic_314 pc := by show (bif Nat.blt pc (nd 314 7) then ic_314 pc else none) = _; rw [show Nat.blt pc (nd 314 7) = true from Nat.ble_eq_true_of_le h]; rfl
  rw [h3]; exact h2 pc h
set_option maxRecDepth 100000 in
theorem okC_315 : okC 315 := by
  intro pc h
  have h2 : ∀ pc, pc < 93 → okI cX12_text 315 pc (ic_315 pc) = true := by decide +kernel
  have h3 : ins 315 pc = ic_315 pc := by show (bif Nat.blt pc (nd 315 7) then ic_315 pc else none) = _; rw [show Nat.blt pc (nd 315 7) = true from Nat.ble_eq_true_of_le h]; rfl
  rw [h3]; exact h2 pc h
theorem okC_316_0 : ∀ j, j < 64 → okI cX12_take 316 (0 + j) (ic_316 (0 + j)) = true := by decide +kernel
theorem okC_316_1 : ∀ j, j < 64 → okI cX12_take 316 (64 + j) (ic_316 (64 + j)) = true := by decide +kernel
theorem okC_316_2 : ∀ j, j < 64 → okI cX12_take 316 (128 + j) (ic_316 (128 + j)) = true := by decide +kernel
set_option maxRecDepth 100000 in
theorem okC_316 : okC 316 := by
  intro pc h
  have h3 : ins 316 pc = ic_316 pc := by show (bif Nat.blt pc (nd 316 7) then ic_316 pc else none) = _; rw [show Nat.blt pc (nd 316 7) = true from Nat.ble_eq_true_of_le h]; rfl
  rw [h3]
  have h6 : pc < 184 := h
  show okI cX12_take 316 pc (ic_316 pc) = true
  by_cases q0 : pc < 64
  · have h5 := okC_316_0 (pc - 0) (by omega)
    rw [show 0 + (pc - 0) = pc by omega] at h5
    exact h5
  by_cases q1 : pc < 128
  · have h5 := okC_316_1 (pc - 64) (by omega)
    rw [show 64 + (pc - 64) = pc by omega] at h5
    exact h5
  by_cases q2 : pc < 192
  · have h5 := okC_316_2 (pc - 128) (by omega)
    rw [show 128 + (pc - 128) = pc by omega] at h5
    exact h5
  omega
theorem okC_317_0 : ∀ j, j < 64 → okI cL_law 317 (0 + j) (ic_317 (0 + j)) = true := by decide +kernel
theorem okC_317_1 : ∀ j, j < 64 → okI cL_law 317 (64 + j) (ic_317 (64 + j)) = true := by decide +kernel
theorem okC_317_2 : ∀ j, j < 64 → okI cL_law 317 (128 + j) (ic_317 (128 + j)) = true := by decide +kernel
theorem okC_317_3 : ∀ j, j < 64 → okI cL_law 317 (192 + j) (ic_317 (192 + j)) = true := by decide +kernel
theorem okC_317_4 : ∀ j, j < 64 → okI cL_law 317 (256 + j) (ic_317 (256 + j)) = true := by decide +kernel
theorem okC_317_5 : ∀ j, j < 64 → okI cL_law 317 (320 + j) (ic_317 (320 + j)) = true := by decide +kernel
theorem okC_317_6 : ∀ j, j < 64 → okI cL_law 317 (384 + j) (ic_317 (384 + j)) = true := by decide +kernel
theorem okC_317_7 : ∀ j, j < 64 → okI cL_law 317 (448 + j) (ic_317 (448 + j)) = true := by decide +kernel
theorem okC_317_8 : ∀ j, j < 64 → okI cL_law 317 (512 + j) (ic_317 (512 + j)) = true := by decide +kernel
theorem okC_317_9 : ∀ j, j < 64 → okI cL_law 317 (576 + j) (ic_317 (576 + j)) = true := by decide +kernel
theorem okC_317_10 : ∀ j, j < 64 → okI cL_law 317 (640 + j) (ic_317 (640 + j)) = true := by decide +kernel
theorem okC_317_11 : ∀ j, j < 64 → okI cL_law 317 (704 + j) (ic_317 (704 + j)) = true := by decide +kernel
theorem okC_317_12 : ∀ j, j < 64 → okI cL_law 317 (768 + j) (ic_317 (768 + j)) = true := by decide +kernel
theorem okC_317_13 : ∀ j, j < 64 → okI cL_law 317 (832 + j) (ic_317 (832 + j)) = true := by decide +kernel
set_option maxRecDepth 100000 in
theorem okC_317 : okC 317 := by
  intro pc h
  have h3 : ins 317 pc = ic_317 pc := by show (bif Nat.blt pc (nd 317 7) then ic_317 pc else none) = _; rw [show Nat.blt pc (nd 317 7) = true from Nat.ble_eq_true_of_le h]; rfl
  rw [h3]
  have h6 : pc < 892 := h
  show okI cL_law 317 pc (ic_317 pc) = true
  by_cases q0 : pc < 64
  · have h5 := okC_317_0 (pc - 0) (by omega)
    rw [show 0 + (pc - 0) = pc by omega] at h5
    exact h5
  by_cases q1 : pc < 128
  · have h5 := okC_317_1 (pc - 64) (by omega)
    rw [show 64 + (pc - 64) = pc by omega] at h5
    exact h5
  by_cases q2 : pc < 192
  · have h5 := okC_317_2 (pc - 128) (by omega)
    rw [show 128 + (pc - 128) = pc by omega] at h5
    exact h5
  by_cases q3 : pc < 256
  · have h5 := okC_317_3 (pc - 192) (by omega)
    rw [show 192 + (pc - 192) = pc by omega] at h5
    exact h5
  by_cases q4 : pc < 320
  · have h5 := okC_317_4 (pc - 256) (by omega)
    rw [show 256 + (pc - 256) = pc by omega] at h5
    exact h5
  by_cases q5 : pc < 384
  · have h5 := okC_317_5 (pc - 320) (by omega)
    rw [show 320 + (pc - 320) = pc by omega] at h5
    exact h5
  by_cases q6 : pc < 448
  · have h5 := okC_317_6 (pc - 384) (by omega)
    rw [show 384 + (pc - 384) = pc by omega] at h5
    exact h5
  by_cases q7 : pc < 512
  · have h5 := okC_317_7 (pc - 448) (by omega)
    rw [show 448 + (pc - 448) = pc by omega] at h5
    exact h5
  by_cases q8 : pc < 576
  · have h5 := okC_317_8 (pc - 512) (by omega)
    rw [show 512 + (pc - 512) = pc by omega] at h5
    exact h5
  by_cases q9 : pc < 640
  · have h5 := okC_317_9 (pc - 576) (by omega)
    rw [show 576 + (pc - 576) = pc by omega] at h5
    exact h5
  by_cases q10 : pc < 704
  · have h5 := okC_317_10 (pc - 640) (by omega)
    rw [show 640 + (pc - 640) = pc by omega] at h5
    exact h5
  by_cases q11 : pc < 768
  · have h5 := okC_317_11 (pc - 704) (by omega)
    rw [show 704 + (pc - 704) = pc by omega] at h5
    exact h5
  by_cases q12 : pc < 832
  · have h5 := okC_317_12 (pc - 768) (by omega)
    rw [show 768 + (pc - 768) = pc by omega] at h5
    exact h5
  by_cases q13 : pc < 896
  · have h5 := okC_317_13 (pc - 832) (by omega)
    rw [show 832 + (pc - 832) = pc by omega] at h5
    exact h5
  omega
set_option maxRecDepth 100000 in
theorem okC_all : LAll okC (mks ++ [317]) := ⟨okC_4, okC_5, okC_6, okC_7, okC_8, okC_9, okC_10, okC_11, okC_12, okC_13, okC_14, okC_15, okC_16, okC_17, okC_18, okC_19, okC_20, okC_21, okC_22, okC_23, okC_24, okC_25, okC_26, okC_27, okC_28, okC_29, okC_30, okC_31, okC_32, okC_33, okC_34, okC_35, okC_36, okC_37, okC_38, okC_39, okC_40, okC_41, okC_42, okC_43, okC_44, okC_45, okC_46, okC_47, okC_48, okC_49, okC_50, okC_51, okC_52, okC_53, okC_54, okC_55, okC_56, okC_57, okC_58, okC_59, okC_60, okC_61, okC_62, okC_63, okC_64, okC_65, okC_66, okC_67, okC_68, okC_69, okC_70, okC_71, okC_72, okC_73, okC_74, okC_75, okC_76, okC_77, okC_78, okC_79, okC_80, okC_81, okC_82, okC_83, okC_84, okC_85, okC_86, okC_87, okC_88, okC_89, okC_90, okC_91, okC_92, okC_93, okC_94, okC_95, okC_96, okC_97, okC_98, okC_99, okC_100, okC_101, okC_102, okC_103, okC_104, okC_105, okC_106, okC_107, okC_108, okC_109, okC_110, okC_111, okC_112, okC_113, okC_114, okC_115, okC_116, okC_117, okC_118, okC_119, okC_120, okC_121, okC_122, okC_123, okC_124, okC_125, okC_126, okC_127, okC_128, okC_129, okC_130, okC_131, okC_132, okC_133, okC_134, okC_135, okC_136, okC_137, okC_138, okC_139, okC_140, okC_141, okC_142, okC_143, okC_144, okC_145, okC_146, okC_147, okC_148, okC_149, okC_150, okC_151, okC_152, okC_153, okC_154, okC_155, okC_156, okC_157, okC_158, okC_159, okC_160, okC_161, okC_162, okC_163, okC_164, okC_165, okC_166, okC_167, okC_168, okC_169, okC_170, okC_171, okC_172, okC_173, okC_174, okC_175, okC_176, okC_177, okC_178, okC_179, okC_180, okC_181, okC_182, okC_183, okC_184, okC_185, okC_186, okC_187, okC_188, okC_189, okC_190, okC_191, okC_192, okC_193, okC_194, okC_195, okC_196, okC_197, okC_198, okC_199, okC_200, okC_201, okC_202, okC_203, okC_204, okC_205, okC_206, okC_207, okC_208, okC_209, okC_210, okC_211, okC_212, okC_213, okC_214, okC_215, okC_216, okC_217, okC_218, okC_219, okC_220, okC_221, okC_222, okC_223, okC_224, okC_225, okC_226, okC_227, okC_228, okC_229, okC_230, okC_231, okC_232, okC_233, okC_234, okC_235, okC_236, okC_237, okC_238, okC_239, okC_240, okC_241, okC_242, okC_243, okC_244, okC_245, okC_246, okC_247, okC_248, okC_249, okC_250, okC_251, okC_252, okC_253, okC_254, okC_255, okC_256, okC_257, okC_258, okC_259, okC_260, okC_261, okC_262, okC_263, okC_264, okC_265, okC_266, okC_267, okC_268, okC_269, okC_270, okC_271, okC_272, okC_273, okC_274, okC_275, okC_276, okC_277, okC_278, okC_279, okC_280, okC_281, okC_282, okC_283, okC_284, okC_285, okC_286, okC_287, okC_288, okC_289, okC_290, okC_291, okC_292, okC_293, okC_294, okC_295, okC_296, okC_297, okC_298, okC_299, okC_300, okC_301, okC_302, okC_303, okC_304, okC_305, okC_306, okC_307, okC_308, okC_309, okC_310, okC_311, okC_312, okC_313, okC_314, okC_315, okC_316, okC_317, trivial⟩

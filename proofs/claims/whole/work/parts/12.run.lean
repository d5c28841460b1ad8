/-! ===== the step by its instruction; answers; calls; the whole run ===== -/
section SIM
variable {sz b L : Nat} {xs : Nat → Int32} {D : va_G} {dA : Nat → ClassId} {m : Nat} {p : Program} {l : Launch} {e : Env} {R : Room} {s : State} {mm : MethodId} {args : Array Value} {below : List Frame} {meth : Method} {c : Code} {Q : State → Prop}
variable {pc pc' n x y z w n0 s0 : Nat} {ls ls' : List LV} {st st' : List PV} {M M' : Mem} {H : Heap} {locs : List Loc} {lsC : Array Slot}

theorem bad_newa {t : ArrayType} {q : Plan} (hi : ins m pc = some (.newarray t, n, x, y, z, w)) (h0 : t ≠ .int) (h1 : t ≠ .byte) (h2 : t ≠ .boolean) : ¬ plan m pc ls st M = some q := by
  intro hp
  unfold plan at hp
  rw [hi] at hp
  dsimp only at hp
  split at hp
  · split at hp
    · rename_i hg
      rw [Bool.and_eq_true, Bool.and_eq_true] at hg
      have h3 := Nat.eq_of_beq_eq_true hg.1
      have h5 : x ≤ 2 := Nat.le_of_ble_eq_true hg.2.1
      have h4 : atk t = 9 := by cases t <;> first | rfl | contradiction
      omega
    · cases hp
  · cases hp

theorem sim_step (C : Cx sz b L xs D dA m p R s mm args meth c) (S : Sm sz b L xs D dA m s M H locs lsC ls st) (hp : plan m pc ls st M = some (.inr (.inl (pc', ls', st', M')))) (hN : n0 ≤ mN M ∧ 2 ≤ n0 ∧ s.heap.size = sz + (n0 - 2)) (hs0 : s0 ≤ mS M) (hcell : mN M' - n0 ≤ R.cells) (hslot : mS M' - s0 ≤ R.slots) (hcel : mN M - n0 ≤ R.cells ∧ mS M - s0 ≤ R.slots) (hAO : AO3 s) (hL3 : L ≤ 100000) (hm1 : 1 ≤ nd m 4) (hm2 : 60 ≤ nd m 5)
    (kk : ∀ (H' : Heap) (locs' : List Loc) (lsC' : Array Slot), Sm sz b L xs D dA m s M' H' locs' lsC' ls' st' → W p l e R s mm args below meth c H' locs' (mN M' - n0) (mS M' - s0) Q (F0 mm pc' lsC' (st'.map (cz sz b)))) : W p l e R s mm args below meth c H locs (mN M - n0) (mS M - s0) Q (F0 mm pc lsC (st.map (cz sz b))) := by
  cases hi : ins m pc with
  | none => unfold plan at hp; rw [hi] at hp; cases hp
  | some I =>
    obtain ⟨i, n, x, y, z, w⟩ := I
    cases i with
    | iadd => exact sp_iadd C S hi hp kk
    | isub => exact sp_isub C S hi hp kk
    | imul => exact sp_imul C S hi hp kk
    | iand => exact sp_iand C S hi hp kk
    | ior => exact sp_ior C S hi hp kk
    | ishl => exact sp_ishl C S hi hp kk
    | ishr => exact sp_ishr C S hi hp kk
    | idiv => exact sp_idiv C S hi hp kk
    | irem => exact sp_irem C S hi hp kk
    | i2b => exact sp_i2b C S hi hp kk
    | aconst_null => exact sp_aconst_null C S hi hp kk
    | dup => exact sp_dup C S hi hp kk
    | dup2 => exact sp_dup2 C S hi hp kk
    | pop => exact sp_pop C S hi hp kk
    | iaload => exact sp_iaload C S hi hp kk
    | baload => exact sp_baload C S hi hp kk
    | aaload => exact sp_aaload C S hi hp kk
    | iconst k => exact sp_iconst C S hi hp kk
    | bipush k => exact sp_bipush C S hi hp kk
    | sipush k => exact sp_sipush C S hi hp kk
    | ldc k => exact sp_ldc C S hi hp kk
    | ldc_w k => exact sp_ldc_w C S hi hp kk
    | iload_n k => exact sp_iload_n C S hi hp kk
    | iload k => exact sp_iload C S hi hp kk
    | aload_n k => exact sp_aload_n C S hi hp kk
    | aload k => exact sp_aload C S hi hp kk
    | istore_n k => exact sp_istore_n C S hi hp kk
    | istore k => exact sp_istore C S hi hp kk
    | astore_n k => exact sp_astore_n C S hi hp kk
    | astore k => exact sp_astore C S hi hp kk
    | goto k => exact sp_goto C S hi hp kk
    | ifnull k => exact sp_ifnull C S hi hp kk
    | ifnonnull k => exact sp_ifnonnull C S hi hp kk
    | getfield k => exact sp_getfield C S hi hp kk
    | iinc k cc => exact sp_iinc C S hi hp kk
    | putfield k => exact sp_putfield C S hi hp hN kk
    | iastore => exact sp_iastore C S hi hp hN kk
    | bastore => exact sp_bastore C S hi hp hN kk
    | aastore => exact sp_aastore C S hi hp hN kk
    | ifCond cc o =>
      cases cc with
      | eq => exact sp_if_eq C S hi hp kk
      | ne => exact sp_if_ne C S hi hp kk
      | lt => exact sp_if_lt C S hi hp kk
      | ge => exact sp_if_ge C S hi hp kk
      | gt => exact sp_if_gt C S hi hp kk
      | le => exact sp_if_le C S hi hp kk
    | if_icmp cc o =>
      cases cc with
      | eq => exact sp_icmp_eq C S hi hp kk
      | ne => exact sp_icmp_ne C S hi hp kk
      | lt => exact sp_icmp_lt C S hi hp kk
      | ge => exact sp_icmp_ge C S hi hp kk
      | gt => exact sp_icmp_gt C S hi hp kk
      | le => exact sp_icmp_le C S hi hp kk
    | if_acmp cc o =>
      cases cc with
      | ne => exact sp_acmp C S hi hp kk
      | _ => unfold plan at hp; rw [hi] at hp; cases hp
    | arraylength => exact sp_alen C S hi hp hL3 kk
    | tableswitch d lo top os => exact sp_table C S hi hp kk
    | new k => exact sp_new C S hi hp hN hs0 hcell hslot kk
    | newarray t =>
      cases t with
      | int => exact sp_newa0 C S hi hp hN hs0 hcell hslot kk
      | byte => exact sp_newa1 C S hi hp hN hs0 hcell hslot kk
      | boolean => exact sp_newa2 C S hi hp hN hs0 hcell hslot kk
      | _ =>
        exact absurd hp (bad_newa hi (by intro q; cases q) (by intro q; cases q) (by intro q; cases q))
    | anewarray k => exact sp_anew C S hi hp hN hs0 hcell hslot hAO kk
    | invokestatic k =>
      by_cases h1 : x = 1
      · subst h1; exact sp_copy C S hi hp hm1 hm2 hN kk
      by_cases h2 : x = 2
      · subst h2; exact sp_mmax C S hi hp hm1 hm2 hcel kk
      by_cases h3 : x = 3
      · subst h3; exact sp_mmin C S hi hp hm1 hm2 hcel kk
      unfold plan at hp
      rw [hi] at hp
      dsimp only at hp
      rw [if_neg h1, if_neg h2, if_neg h3] at hp
      split at hp
      · exact absurd (calls_inv hp).1 (by intro q; cases q)
      · cases hp
    | invokevirtual k =>
      unfold plan at hp
      rw [hi] at hp
      exact absurd (calls_inv hp).1 (by intro q; cases q)
    | invokespecial k =>
      by_cases h1 : x = 0
      · subst h1; exact sp_objI C S hi hp hm1 hm2 kk
      unfold plan at hp
      rw [hi] at hp
      dsimp only at hp
      rw [if_neg h1] at hp
      exact absurd (calls_inv hp).1 (by intro q; cases q)
    | ireturn =>
      have h1 : MNle M M' := plan_kind hp
      unfold plan at hp
      rw [hi] at hp
      dsimp only at hp
      repeat' (split at hp)
      all_goals (cases hp)
    | areturn =>
      unfold plan at hp
      rw [hi] at hp
      dsimp only at hp
      repeat' (split at hp)
      all_goals (cases hp)
    | return_ =>
      unfold plan at hp
      rw [hi] at hp
      dsimp only at hp
      repeat' (split at hp)
      all_goals (cases hp)
    | _ => unfold plan at hp; rw [hi] at hp; cases hp
end SIM

/-! ===== a node is looked at: what comes of it; the class finds its kind ===== -/
abbrev LkR : Type := Int × TS × Nat × Nat × Nat
def upK (T : TS) (k : Nat) (v : Int) : TS := (T.1, upF T.2.1 k 4 v, T.2.2)
def lkA (k : Nat) (es : List Kd3) (T : TS) (nl fr tu : Nat) : LkR := ((adL k es T).1, (adL k es T).2, nl, fr, tu)
/-- a STEP or the cases -/
def lkK (zs : List Clz) (s : Nat × Nat × Nat) (T : TS) (k : Nat) (xs : List Int) (nl fr tu : Nat) : LkR := if s.1 = 5 then lkA k (spk (nth xs s.2.1) (nth xs (s.2.1 + 1)) xs s.2.1 zs fr) (upK T k 3) (nl + 1) (spf (nth xs s.2.1) zs fr) tu else lkA k [(stx (zs.getD s.2.2 (0, -1, [], [])) xs s.2.1, -1, -1)] (upK T k 2) (nl + 1) fr tu
/-- it has grown from one above -/
def lkL (T : TS) (k g : Nat) (xs : List Int) (nl fr tu : Nat) : LkR := match insg xs (T.1 g) 0 [] with
  | some ps => lkA k ((T.1 g, -1, -1) :: prtL xs (ps.map fun q => q.2)) (upK T k 5) (nl + 1) fr tu
  | none => lkA g (((com (T.1 g) xs fr (T.1 g).length 0 0 []).1, -1, -1) :: prtL (T.1 g) ((com (T.1 g) xs fr (T.1 g).length 0 0 []).2.map fun q => q.1)) (T.1, upF (upF T.2.1 g 8 0) g 4 5, T.2.2) ((lnF T.2.1).idxOf g + 1) (fr + (com (T.1 g) xs fr (T.1 g).length 0 0 []).2.length) (tu + 1)
def itS (s : Nat × Nat × Nat) : Int := if s.1 = 5 then 3 else 2
def foS (T : TS) (k : Nat) (xs : List Int) (its : Int) : Int := nrs (pRen T.1 T.2.1 xs its) T.2.1 121 (T.2.1 k 15)
def cpS (T : TS) (k : Nat) (xs : List Int) (its : Int) : Int := nrs (pCpl T.1 T.2.1 xs its) T.2.1 121 (T.2.1 k 15)
def upB (T : TS) (k f : Nat) (v : Int) : TS := (T.1, upF T.2.1 k f v, T.2.2)
def lkSp (zs : List Clz) (s : Nat × Nat × Nat) (T : TS) (k : Nat) (xs : List Int) (nl fr tu : Nat) : LkR := if foS T k xs (itS s) ≠ -1 then (0, upK (upB T k 14 (foS T k xs (itS s))) k 4, nl + 1, fr, tu) else if cpS T k xs (itS s) = -1 then lkK zs s (upB T k 14 (-1)) k xs nl fr tu else lkL (upB T k 14 (-1)) k (cpS T k xs (itS s)).toNat xs nl fr tu
def bkS (s : Nat × Nat × Nat) (T : TS) (k : Nat) (xs : List Int) : TS := if s.1 = 5 then upB T k 10 (nth xs (s.2.1 + 1)) else T
def lok (zs : List Clz) (T : TS) (k nl fr tu : Nat) : LkR := if kd (nth (T.1 k) 0) = 0 then (0, upK T k 0, nl + 1, fr, tu) else if kd (nth (T.1 k) 0) = 1 then lkA k (argL (T.1 k) (arN (nth (T.1 k) 0)) 0) (upK T k 1) (nl + 1) fr tu else if kd (nth (T.1 k) 0) = 2 then (if (fnx zs (T.1 k) 0).1 = 1 then (0, upK T k 6, nl + 1, fr, tu) else lkSp zs (fnx zs (T.1 k) 0) (bkS (fnx zs (T.1 k) 0) T k (T.1 k)) k (T.1 k) nl fr tu) else (0, upK T k 6, nl + 1, fr, tu)
section LOOKC
variable {M : Mem} {X : Nat → List Int} {F : FT} {mk k P : Nat} {T : TS} {zs : List Clz}
theorem TRc.setR (h : TRc M X F mk) {m : Nat} {v : Int} (hm : m < 120) : TRc (stR M (30 + 6 * m) 14 (ndf v)) X (upF F m 14 v) mk := by
  obtain ⟨⟨hLN, h9⟩, hnd, hwk⟩ := h
  have ne : ∀ {a b : Nat}, ¬ (a = m ∧ b = 14) → upF F m 14 v a b = F a b := fun h => upF_ne h
  have hl : lnF (upF F m 14 v) = lnF F := lnF_cong fun x _ => ⟨ne (by omega), ne (by omega)⟩
  refine ⟨⟨by rw [hl]; exact ⟨hLN.1, fun i x hx => by rw [mR_ne (by omega)]; exact hLN.2 i x hx⟩, h9⟩, fun x hx => ?_, fun x hx => ?_⟩
  · rw [hl] at hx
    obtain ⟨p1, ⟨p2, p3⟩, ⟨p4, p5⟩, ⟨p6, p7⟩, p8⟩ := hnd x hx
    have e1 : nfk (upF F m 14 v) x = nfk F x := by unfold nfk; rw [ne (by omega)]
    have e2 : nkc (upF F m 14 v) x = nkc F x := by unfold nkc; rw [ne (by omega)]
    refine ⟨p1, ⟨fun g hg => ?_, by rw [ne (by omega)]; exact p3⟩, ⟨?_, by rw [mR_ne (by omega), ne (by omega)]; exact p5⟩, ⟨by rw [mR_ne (by omega), ne (by omega), e1]; exact p6, by rw [mR_ne (by omega), ne (by omega), e1, e2]; exact p7⟩, ?_⟩
    · rw [ne (by unfold nf at hg; omega)]
      exact p2 g hg
    · by_cases q : x = m
      · subst q
        rw [mR_at, upF_at]
      · rw [mR_ne (by omega), ne (by omega)]
        exact p4
    · rw [mR_ne (by omega), p8]
      unfold ndx
      rw [ne (a := x) (b := 15) (by omega), ne (a := x) (b := 5) (by omega), ne (b := 8) (by omega)]
  · obtain ⟨⟨zs, w1⟩, us, w2⟩ := hwk x hx
    exact ⟨⟨zs, w1⟩, us, w2⟩
theorem ndf_0 {v : Int} (h : -1 ≤ v) : ndf v = 0 ↔ v = -1 := by
  unfold ndf
  split
  · exact ⟨fun _ => ‹_›, fun _ => rfl⟩
  · omega
/-- the shape is not touched by fields that tell nothing of it -/
theorem TI.up1 {F : FT} {mk : Nat} (h : TI F mk) {m f : Nat} {v : Int} (hf : ¬ (f = 5 ∨ f = 6 ∨ f = 8 ∨ f = 15 ∨ f = 16)) : TI (upF F m f v) mk ∧ lnF (upF F m f v) = lnF F := h.upd fun x g hg => upF_ne (by omega)
theorem CTs.mkT {M1 : Mem} {T1 : TS} {A R : Nat → Nat → Prop} (h : CTs M T) (f : Fq A R M M1) (h0 : ∀ a j, 750 ≤ a ∧ a < 754 → ¬ A a j) (h1 : TRc M1 T1.1 T1.2.1 T1.2.2) : CTs M1 T1 := by
  obtain ⟨-, ⟨ys, b⟩, zs, c⟩ := h
  exact ⟨h1, ⟨ys, b.ext fun a j q => f.2.2 a j (h0 a j (by omega))⟩, zs, c.ext fun a j q => f.2.2 a j (h0 a j (by omega))⟩
/-- what finding a kind may change -/
def fkS : Nat → Nat → Prop := fun a j => (12 ≤ a ∧ a ≤ 20) ∨ (a = 21 ∧ (j = 3 ∨ j = 5)) ∨ (30 ≤ a ∧ a < 750)
def fkR : Nat → Nat → Prop := fun a j => (a = 21 ∧ j = 4) ∨ (a = 27 ∧ j = 7) ∨ (30 ≤ a ∧ a < 750 ∧ 3 ≤ j)
theorem Tr_find52_s (hG : Good M) (hT : TI T.2.1 T.2.2) (hX : XOK T.1 T.2.1) (hC : CTs M T) (hk : k ∈ lnF T.2.1) {its : Int} (hits : isS its) (hS : ∀ p ∈ lnF T.2.1, T.2.1 p 4 = its → kd (nth (T.1 p) 0) = 2) (d2 : LV) : ∃ M', Tr_findKindOfCall_52 27 (30 + 6 * k) its d2 M = some (some (.inl (if foS T k (T.1 k) its ≠ -1 then 4 else if cpS T k (T.1 k) its = -1 then its else 5)), M') ∧ CTs M' (upB T k 14 (foS T k (T.1 k) its)) ∧ (foS T k (T.1 k) its = -1 → mR M' 27 7 = ndf (cpS T k (T.1 k) its)) ∧ Good M' ∧ Fq (fun a j => (12 ≤ a ∧ a ≤ 20)) (fun a j => (a = 27 ∧ j = 7) ∨ (a = 30 + 6 * k ∧ j = 14)) M M' := by
  have hm := hT.1.2.2
  have hkm := hT.1.2.1 k hk
  have hu := hT.uok k hk
  have hu1 : T.2.1 k 15 = -1 ∨ (0 ≤ T.2.1 k 15 ∧ (T.2.1 k 15).toNat ∈ lnF T.2.1) := hu.imp_right fun q => ⟨q.1, q.2.2⟩
  have hu2 : T.2.1 k 15 < ((121 : Nat) : Int) := by rcases hu with e | e <;> omega
  have hup := (hC.1.2.1 k hk).2.2.1.2
  obtain ⟨M1, a1, a2, a3, a4⟩ := Tr_nearestRenamed_s hT hX hk hits 121 (T.2.1 k 15) M hu1 hu2 hG hC.1
  have a1 : Tr_nearestRenamed_5 27 (30 + 6 * k) its (ndf (T.2.1 k 15)) M = some (some (.inr (ndf (foS T k (T.1 k) its))), M1) := a1
  have hfo : foS T k (T.1 k) its = -1 ∨ (0 ≤ foS T k (T.1 k) its ∧ (foS T k (T.1 k) its).toNat ∈ lnF T.2.1 ∧ pRen T.1 T.2.1 (T.1 k) its (foS T k (T.1 k) its).toNat = true ∧ foS T k (T.1 k) its ≤ T.2.1 k 15) := nrs_spec (P := pRen T.1 T.2.1 (T.1 k) its) hT.uok 121 (T.2.1 k 15) hu1
  have hG2 : Good (stR M1 (30 + 6 * k) 14 (ndf (foS T k (T.1 k) its))) := a3.ofR (nd_mtb (by omega) (by decide))
  have F1 : Fq (fun a j => (12 ≤ a ∧ a ≤ 20)) (fun a j => (a = 27 ∧ j = 7) ∨ (a = 30 + 6 * k ∧ j = 14)) M (stR M1 (30 + 6 * k) 14 (ndf (foS T k (T.1 k) its))) := (a4.fq (R := fun a j => (a = 27 ∧ j = 7) ∨ (a = 30 + 6 * k ∧ j = 14)) fun a j q => by unfold rnS at q; omega).trans (Fq.ofR (Or.inr ⟨rfl, rfl⟩))
  have hC2 : CTs (stR M1 (30 + 6 * k) 14 (ndf (foS T k (T.1 k) its))) (upB T k 14 (foS T k (T.1 k) its)) := hC.mkT F1 (by omega) (a2.setR (by omega))
  rw [Tr_findKindOfCall_52_eq, hG.gT, gd_t, Tr_nearestRenamed_eq, hG.nd (by omega), gd_t, hup, a1, cR_s, a3.nd (by omega), gd_t, gd_t, mR_at]
  by_cases h : foS T k (T.1 k) its = -1
  · have hT2 := (hT.up1 (m := k) (f := 14) (v := foS T k (T.1 k) its) (by omega))
    have hX2 : XOK T.1 (upF T.2.1 k 14 (foS T k (T.1 k) its)) := fun x hx => hX x (by rw [hT2.2] at hx; exact hx)
    have ne : ∀ {a b : Nat}, b ≠ 14 → upF T.2.1 k 14 (foS T k (T.1 k) its) a b = T.2.1 a b := fun h => upF_ne (by omega)
    obtain ⟨M3, b1, b2, b3, b4⟩ := Tr_nearestCoupled_s (k := k) hT2.1 hX2 (by rw [hT2.2]; exact hk) hits (fun p hp hq => hS p (by rw [hT2.2] at hp; exact hp) (by rw [ne (by decide)] at hq; exact hq)) 121 (T.2.1 k 15) _ (by rw [hT2.2]; exact hu1) hu2 hG2 hC2.1
    have ecp : nrs (pCpl T.1 (upF T.2.1 k 14 (foS T k (T.1 k) its)) (T.1 k) its) (upF T.2.1 k 14 (foS T k (T.1 k) its)) 121 (T.2.1 k 15) = cpS T k (T.1 k) its := by
      have : ∀ (n : Nat) (u : Int), nrs (pCpl T.1 (upF T.2.1 k 14 (foS T k (T.1 k) its)) (T.1 k) its) (upF T.2.1 k 14 (foS T k (T.1 k) its)) n u = nrs (pCpl T.1 T.2.1 (T.1 k) its) T.2.1 n u := by
        intro n
        induction n with
        | zero => intro u; rfl
        | succ n ih =>
          intro u
          unfold nrs
          rw [ih, ne (by decide)]
          have : pCpl T.1 (upF T.2.1 k 14 (foS T k (T.1 k) its)) (T.1 k) its u.toNat = pCpl T.1 T.2.1 (T.1 k) its u.toNat := by
            unfold pCpl
            rw [ne (by decide)]
          rw [this]
      exact this _ _
    rw [ecp] at b1
    have hcp : cpS T k (T.1 k) its = -1 ∨ (0 ≤ cpS T k (T.1 k) its ∧ (cpS T k (T.1 k) its).toNat ∈ lnF T.2.1 ∧ pCpl T.1 T.2.1 (T.1 k) its (cpS T k (T.1 k) its).toNat = true ∧ cpS T k (T.1 k) its ≤ T.2.1 k 15) := nrs_spec (P := pCpl T.1 T.2.1 (T.1 k) its) hT.uok 121 (T.2.1 k 15) hu1
    have hup2 : mR (stR M1 (30 + 6 * k) 14 (ndf (foS T k (T.1 k) its))) (30 + 6 * k) 15 = ndf (T.2.1 k 15) := by rw [mR_ne (by omega), a4.2.1]; exact hup
    have hG4 : Good (stR M3 27 7 (ndf (cpS T k (T.1 k) its))) := b3.ofR (by unfold mtb; omega)
    have F2 : Fq (fun a j => (12 ≤ a ∧ a ≤ 20)) (fun a j => (a = 27 ∧ j = 7) ∨ (a = 30 + 6 * k ∧ j = 14)) (stR M1 (30 + 6 * k) 14 (ndf (foS T k (T.1 k) its))) (stR M3 27 7 (ndf (cpS T k (T.1 k) its))) := (b4.fq (R := fun a j => (a = 27 ∧ j = 7) ∨ (a = 30 + 6 * k ∧ j = 14)) fun a j q => by unfold cmS at q; omega).trans (Fq.ofR (Or.inl ⟨rfl, rfl⟩))
    have hC4 : CTs (stR M3 27 7 (ndf (cpS T k (T.1 k) its))) (upB T k 14 (foS T k (T.1 k) its)) := hC2.mkT F2 (by omega) (b2.fq (A := nor) (R := fun a j => a = 27 ∧ j = 7) hT2.1 (Fq.ofR ⟨rfl, rfl⟩) (fun a j _ q => q) (by omega))
    rw [if_pos ((ndf_0 (by omega)).mpr h), a3.gT, gd_t, Tr_nearestCoupled_eq, hG2.nd (by omega), gd_t, hup2, b1, cR_s, b3.gT, gd_t, gd_t, mR_at, if_neg (show ¬ (foS T k (T.1 k) its ≠ -1) from fun q => q h)]
    by_cases g : cpS T k (T.1 k) its = -1
    · rw [if_pos ((ndf_0 (by omega)).mpr g), if_pos g]
      exact ⟨_, rfl, hC4, fun _ => mR_at, hG4, F1.trans F2⟩
    · rw [if_neg (fun q => g ((ndf_0 (by omega)).mp q)), if_neg g]
      exact ⟨_, rfl, hC4, fun _ => mR_at, hG4, F1.trans F2⟩
  · rw [if_neg (fun q => h ((ndf_0 (by omega)).mp q)), if_pos h]
    exact ⟨_, rfl, hC2, fun q => absurd q h, hG2, F1⟩
end LOOKC

/-! ===== a program, a goal, an expression and what is bound are told: the class ===== -/
/-- what of integers and of references may have changed -/
def Fq (S R : Nat → Nat → Prop) (M M' : Mem) : Prop := (M'.1 = M.1 ∧ M'.2.1 = M.2.1) ∧ (∀ a k, ¬ R a k → mR M' a k = mR M a k) ∧ ∀ a k, ¬ S a k → mI M' a k = mI M a k
def nor : Nat → Nat → Prop := fun _ _ => False
section FQ
variable {M M1 M2 : Mem} {S T R U : Nat → Nat → Prop}
theorem Fq.refl : Fq S R M M := ⟨⟨rfl, rfl⟩, fun _ _ _ => rfl, fun _ _ _ => rfl⟩
theorem Fq.trans (h : Fq S R M M1) (k : Fq S R M1 M2) : Fq S R M M2 := ⟨⟨k.1.1.trans h.1.1, k.1.2.trans h.1.2⟩, fun a j hS => (k.2.1 a j hS).trans (h.2.1 a j hS), fun a j hS => (k.2.2 a j hS).trans (h.2.2 a j hS)⟩
theorem Fq.mono (h : Fq S R M M1) (hs : ∀ a k, S a k → T a k) (hr : ∀ a k, R a k → U a k) : Fq T U M M1 := ⟨h.1, fun a k hT => h.2.1 a k fun q => hT (hr a k q), fun a k hT => h.2.2 a k fun q => hT (hs a k q)⟩
theorem Fj.fq (h : Fj S M M1) (hs : ∀ a k, S a k → T a k) : Fq T R M M1 := ⟨h.1, fun a k _ => h.2.1 a k, fun a k hT => h.2.2 a k fun q => hT (hs a k q)⟩
theorem Fq.ofR {a k v : Nat} (h : R a k) : Fq S R M (stR M a k v) := ⟨⟨rfl, rfl⟩, fun b j hb => if_neg (fun (q : b = a ∧ j = k) => hb (q.1 ▸ q.2 ▸ h)), fun _ _ _ => rfl⟩
end FQ
/-- the addresses of three programs; of two tables of what is bound -/
def prm (a b c : Nat) : Prop := (a = 773 ∨ a = 935 ∨ a = 1097) ∧ (b = 773 ∨ b = 935 ∨ b = 1097) ∧ (c = 773 ∨ c = 935 ∨ c = 1097) ∧ a ≠ b ∧ a ≠ c ∧ b ≠ c
def brm (a b : Nat) : Prop := (a = 1259 ∨ a = 1264) ∧ (b = 1259 ∨ b = 1264) ∧ a ≠ b
def CP (M : Mem) (zs ns : List Clz) : Prop := ∃ P0 P1 P2, prm P0 P1 P2 ∧ (mR M 2 10 = P0 ∧ mR M 2 11 = P1 ∧ mR M 2 12 = P2) ∧ PRx M P0 zs ∧ PRx M P1 ns ∧ ∃ ws, PRx M P2 ws
def CB (M : Mem) (bs : Bnd) : Prop := ∃ B0 B1, brm B0 B1 ∧ (mR M 2 13 = B0 ∧ mR M 2 14 = B1) ∧ BDc M B0 bs ∧ ∃ cs, BDc M B1 cs
def CE (M : Mem) (gl ng : List Int) (es : Nat → List Int) : Prop := XE M 767 100 gl ∧ XE M 769 100 ng ∧ ∀ i, i < 4 → XE M (759 + 2 * i) 40 (es i)
def CS (M : Mem) : Prop := (∃ ys, XE M 771 100 ys) ∧ ∃ ys, XE M 7 40 ys
theorem PRx.ext {M M1 : Mem} {P : Nat} {zs : List Clz} (h : PRx M P zs) (f : ∀ a k, pS P a → mI M1 a k = mI M a k) : PRx M1 P zs := by
  have g : Fj (fun a k => ¬ pS P a) M (M.1, M.2.1, M1.2.2.1, M.2.2.2) := ⟨⟨rfl, rfl⟩, fun _ _ => rfl, fun a k q => f a k (Classical.not_not.mp q)⟩
  have r : PRx (M.1, M.2.1, M1.2.2.1, M.2.2.2) P zs := h.fj g fun a k q z => z q
  exact r
theorem BDc.ext {M M1 : Mem} {b : Nat} {bs : Bnd} (h : BDc M b bs) (f : ∀ a k, bS b a → mI M1 a k = mI M a k) : BDc M1 b bs := by
  have g : Fj (fun a k => ¬ bS b a) M (M.1, M.2.1, M1.2.2.1, M.2.2.2) := ⟨⟨rfl, rfl⟩, fun _ _ => rfl, fun a k q => f a k (Classical.not_not.mp q)⟩
  have r : BDc (M.1, M.2.1, M1.2.2.1, M.2.2.2) b bs := h.fj g fun a k q z => z q
  exact r
theorem XE.ext {M M1 : Mem} {e n : Nat} {xs : List Int} (h : XE M e n xs) (f : ∀ a k, a = e ∨ a = e + 1 → mI M1 a k = mI M a k) : XE M1 e n xs := by
  have g : Fj (fun a k => ¬ (a = e ∨ a = e + 1)) M (M.1, M.2.1, M1.2.2.1, M.2.2.2) := ⟨⟨rfl, rfl⟩, fun _ _ => rfl, fun a k q => f a k (Classical.not_not.mp q)⟩
  have r : XE (M.1, M.2.1, M1.2.2.1, M.2.2.2) e n xs := h.fj g (by omega) (by omega)
  exact r
theorem CP.fq {M M1 : Mem} {S R : Nat → Nat → Prop} {zs ns : List Clz} (h : CP M zs ns) (f : Fq S R M M1) (h0 : ∀ a k, 773 ≤ a ∧ a < 1259 → ¬ S a k) (h1 : ∀ k, 10 ≤ k ∧ k ≤ 12 → ¬ R 2 k) : CP M1 zs ns := by
  obtain ⟨P0, P1, P2, p, ⟨r0, r1, r2⟩, a0, a1, ws, a2⟩ := h
  exact ⟨P0, P1, P2, p, ⟨(f.2.1 _ _ (h1 _ (by omega))).trans r0, (f.2.1 _ _ (h1 _ (by omega))).trans r1, (f.2.1 _ _ (h1 _ (by omega))).trans r2⟩, a0.ext fun a k q => f.2.2 _ _ (h0 _ _ (by unfold prm at p; unfold pS at q; omega)), a1.ext fun a k q => f.2.2 _ _ (h0 _ _ (by unfold prm at p; unfold pS at q; omega)), ws, a2.ext fun a k q => f.2.2 _ _ (h0 _ _ (by unfold prm at p; unfold pS at q; omega))⟩
theorem CB.fq {M M1 : Mem} {S R : Nat → Nat → Prop} {bs : Bnd} (h : CB M bs) (f : Fq S R M M1) (h0 : ∀ a k, 1259 ≤ a ∧ a < 1269 → ¬ S a k) (h1 : ∀ k, 13 ≤ k ∧ k ≤ 14 → ¬ R 2 k) : CB M1 bs := by
  obtain ⟨P0, P1, p, ⟨r0, r1⟩, a0, ws, a2⟩ := h
  exact ⟨P0, P1, p, ⟨(f.2.1 _ _ (h1 _ (by omega))).trans r0, (f.2.1 _ _ (h1 _ (by omega))).trans r1⟩, a0.ext fun a k q => f.2.2 _ _ (h0 _ _ (by unfold brm at p; unfold bS at q; omega)), ws, a2.ext fun a k q => f.2.2 _ _ (h0 _ _ (by unfold brm at p; unfold bS at q; omega))⟩
theorem CE.fq {M M1 : Mem} {S R : Nat → Nat → Prop} {gl ng : List Int} {es : Nat → List Int} (h : CE M gl ng es) (f : Fq S R M M1) (h0 : ∀ a k, 759 ≤ a ∧ a < 771 → ¬ S a k) : CE M1 gl ng es :=
  ⟨h.1.ext fun a k q => f.2.2 _ _ (h0 _ _ (by omega)), h.2.1.ext fun a k q => f.2.2 _ _ (h0 _ _ (by omega)), fun i hi => (h.2.2 i hi).ext fun a k q => f.2.2 _ _ (h0 _ _ (by omega))⟩
theorem CS.fq {M M1 : Mem} {S R : Nat → Nat → Prop} (h : CS M) (f : Fq S R M M1) (h0 : ∀ a k, a = 771 ∨ a = 772 ∨ a = 7 ∨ a = 8 → ¬ S a k) : CS M1 := by
  obtain ⟨⟨ys, h1⟩, zs, h2⟩ := h
  exact ⟨⟨ys, h1.ext fun a k q => f.2.2 _ _ (h0 _ _ (by omega))⟩, zs, h2.ext fun a k q => f.2.2 _ _ (h0 _ _ (by omega))⟩
theorem Good.fq {M M1 : Mem} {S : Nat → Nat → Prop} (h : Good M) (f : Fq S nor M M1) : Good M1 := h.fj (M1 := M1) (S := S) ⟨f.1, fun a k => f.2.1 a k (fun q => q), f.2.2⟩
/-- what a told thing answers, and the place of a fault -/
def okr {α : Type} (x : Except Nat α) (f : α → Int) : Int := match x with
  | .error _ => -1
  | .ok a => f a
def okf {α : Type} (x : Except Nat α) : Int := match x with
  | .error e => (e : Int)
  | .ok _ => -1
section CTELL
variable {M : Mem} {T : List Int} {zs ns : List Clz} {bs : Bnd} {gl ng : List Int} {es : Nat → List Int} {f dr : Int}
def CF (M : Mem) (f dr : Int) : Prop := mI M 2 16 = f ∧ mI M 2 15 = dr
def tlS : Nat → Nat → Prop := fun a k => a = 3 ∨ a = 5 ∨ a = 6 ∨ (a = 2 ∧ (k = 15 ∨ k = 16))
theorem oki_01 {α : Type} (x : Except Nat α) : oki x = 0 ∨ oki x = 1 := by cases x with
  | error e => exact Or.inl rfl
  | ok a => exact Or.inr rfl
def progS : Nat → Nat → Prop := fun a k => tlS a k ∨ (773 ≤ a ∧ a < 1259)
theorem D_program_s (hG : Good M) (hT : TPc M T) (hP : CP M zs ns) (hF : CF M f dr) : ∃ M', D_program 2 M = some (some (.inl (okr (rpg T 41 [] 0) fun ws => (ws.length : Int))), M') ∧ Good M' ∧ TPc M' [] ∧ (match rpg T 41 [] 0 with
    | .error e => CP M' zs ns ∧ CF M' (e : Int) dr
    | .ok ws => CP M' ws ns ∧ okP ws ∧ CF M' (-1) 0) ∧ Fq progS (fun a k => a = 2 ∧ (k = 10 ∨ k = 12)) M M' := by
  obtain ⟨P0, P1, P2, hp, ⟨r0, r1, r2⟩, p0, p1, ws, p2⟩ := hP
  unfold prm at hp
  have hP2 : 6 < P2 := by omega
  obtain ⟨M1, a1, a2, a3⟩ := Re_readProgram_s hG hT hP2 p2
  have hG1 := hG.fj a3
  have hT1 : TPc M1 T := hT.fj a3 (by unfold pgS rS pS; omega) (by unfold pgS rS pS; omega)
  obtain ⟨M2, b1, b2, b3, b4⟩ := D_emptyTape_s hG1 hT1 (oki_01 (rpg T 41 [] 0))
  have hG2 := hG1.fj b4
  have F2 : Fj (fun a k => (a = 3 ∨ a = 5 ∨ a = 6 ∨ (a = 2 ∧ k = 16)) ∨ pS P2 a) M M2 := (a3.mono fun a k q => by unfold pgS rS pS at q; unfold pS; omega).trans (b4.mono fun a k q => by unfold pS; omega)
  have hS : ∀ a k, ((a = 3 ∨ a = 5 ∨ a = 6 ∨ (a = 2 ∧ k = 16)) ∨ pS P2 a) → progS a k := fun a k q => by unfold pS at q; unfold progS tlS; omega
  have k0 : PRx M2 P0 zs := p0.fj F2 fun a k q => by unfold pS at q; unfold pS; omega
  have k1 : PRx M2 P1 ns := p1.fj F2 fun a k q => by unfold pS at q; unfold pS; omega
  have k2 : ∀ {us}, PRx M1 P2 us → PRx M2 P2 us := fun h => h.fj b4 fun a k q => by unfold pS at q; omega
  have c15 : mI M2 2 15 = dr := (F2.2.2 _ _ (by unfold pS; omega)).trans hF.2
  have r10 : mR M2 2 10 = P0 := (F2.2.1 _ _).trans r0
  have r11 : mR M2 2 11 = P1 := (F2.2.1 _ _).trans r1
  have r12 : mR M2 2 12 = P2 := (F2.2.1 _ _).trans r2
  rw [D_program_eq, hG.gx, gd_t, gd_t, hG.r2_0, hG.gR, gd_t, r2, a1, cI_s, hG1.gx, gd_t, b1, cI_s]
  cases hx : rpg T 41 [] 0 with
  | error e =>
    rw [hx] at a2 b3
    obtain ⟨a4, us, a5⟩ := a2
    rw [if_pos (oki_er e)] at b3 ⊢
    exact ⟨M2, rfl, hG2, b2, ⟨⟨P0, P1, P2, hp, ⟨r10, r11, r12⟩, k0, k1, us, k2 a5⟩, b3.trans a4, c15⟩, F2.fq hS⟩
  | ok us =>
    rw [hx] at a2 b3
    obtain ⟨a4, a5⟩ : PRx M1 P2 us ∧ okP us := a2
    have b3 : mI M2 2 16 = -1 := by rw [if_neg (oki_ok us)] at b3; exact b3
    have q2 := k2 a4
    have eR : mR (stR (stR M2 2 12 P0) 2 10 P2) 2 10 = P2 := by
      show (if (2 : Nat) = 2 ∧ (10 : Nat) = 10 then P2 else mR (stR M2 2 12 P0) 2 10) = P2
      exact if_pos ⟨rfl, rfl⟩
    have hG3 : Good (stR (stR M2 2 12 P0) 2 10 P2) := (hG2.ofR (by unfold mtb; omega)).ofR (by unfold mtb; omega)
    have f4 : Fj (fun a k => a = 2 ∧ k = 15) (stR (stR M2 2 12 P0) 2 10 P2) (stI (stR (stR M2 2 12 P0) 2 10 P2) 2 15 0) := Fj.ofI ⟨rfl, rfl⟩
    have gP : gO M2 P2 5 = true := q2.1.g hG2
    rw [if_neg (oki_ok us), hG2.gx, r10, r12]
    rw [gd_t, gd_t, gd_t, gd_t, gd_t, gd_t, eR, gP, gd_t]
    have eC : mI (stI M2 2 15 0) P2 1 = (us.length : Int) := by rw [mI_ne (by omega)]; exact q2.1.1.2.1
    rw [eC]
    refine ⟨_, rfl, hG3.fj f4, TPc.fj (M := stR (stR M2 2 12 P0) 2 10 P2) b2 f4 (by omega) (by omega), ⟨⟨P2, P1, P0, by unfold prm; omega, ⟨?_, ?_, ?_⟩, ?_, ?_, zs, ?_⟩, a5, ?_, mI_at⟩, ?_⟩
    · exact eR
    · exact r11
    · show (if (2 : Nat) = 2 ∧ (12 : Nat) = 10 then P2 else if (2 : Nat) = 2 ∧ (12 : Nat) = 12 then P0 else mR M2 2 12) = P0
      rw [if_neg (by decide), if_pos (by decide)]
    · exact PRx.fj (M := stR (stR M2 2 12 P0) 2 10 P2) q2 f4 fun a k q => by unfold pS at q; omega
    · exact PRx.fj (M := stR (stR M2 2 12 P0) 2 10 P2) k1 f4 fun a k q => by unfold pS at q; omega
    · exact PRx.fj (M := stR (stR M2 2 12 P0) 2 10 P2) k0 f4 fun a k q => by unfold pS at q; omega
    · rw [mI_ne (by omega)]; exact b3
    · exact (((F2.fq hS).trans (Fq.ofR (by omega))).trans (Fq.ofR (by omega))).trans (f4.fq fun a k q => by unfold progS tlS; omega)
end CTELL

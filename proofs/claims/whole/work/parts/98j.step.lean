/-! ===== one look keeps what holds ===== -/
def UNL (F : FT) (x : Nat) : Prop := (F x 4 = -1 ∧ F x 8 = 0) ∧ F x 10 = -1 ∧ F x 14 = -1
def LKD (zs : List Clz) (T : TS) (L1 L2 : List Nat) : Prop := lnF T.2.1 = L1 ++ L2 ∧ (∀ x ∈ L1, NS zs T.1 T.2.1 x) ∧ ∀ x ∈ L2, UNL T.2.1 x
def FVL (F : FT) : Prop := ∀ x ∈ lnF F, (-1 ≤ F x 14 ∧ F x 14 < 120) ∧ F x 9 = -1 ∧ F x 13 = 0 ∧ (F x 14 = -1 ∨ F x 4 = 4)
theorem nkc_0 {F : FT} {k : Nat} (h : F k 8 = 0) : nkc F k = 0 ∧ kls F k = [] := by
  have : nkc F k = 0 := by unfold nkc; rw [h]; rfl
  exact ⟨this, by unfold kls; rw [this]; rfl⟩
theorem TOK.of0 {T : TS} {k : Nat} (hT : TI T.2.1 T.2.2) (hX : XOK T.1 T.2.1) (hk : k ∈ lnF T.2.1) (h8 : T.2.1 k 8 = 0) : TOK T k := ⟨hT, ⟨⟨hk, fun q => by rw [(nkc_0 h8).1] at q; exact absurd q (Nat.lt_irrefl 0)⟩, fun j hj => by rw [(nkc_0 h8).1] at hj; exact absurd hj (Nat.not_lt_zero j)⟩, hX⟩
theorem KL_of {T : TS} {k n : Nat} {es : List Kd3} (h8 : T.2.1 k 8 = 0) (hn : n = es.length) (h6 : ∀ j e, j < n → es[j]? = some e → (adL k es T).2.1 (T.2.2 + j) = e.1 ∧ newF (adL k es T).2.2.1 (T.2.2 + j) k (T.2.1 k 8 + (j : Int)) e) (h7 : (adL k es T).2.2.1 k 8 = T.2.1 k 8 + (n : Int)) (h9 : T.2.1 k 8 = 0 → 0 < n → (adL k es T).2.2.1 k 16 = (T.2.2 : Int)) : KL (adL k es T).2.1 (adL k es T).2.2.1 k es := by
  refine ⟨by rw [h7, h8, hn]; omega, fun j e he => ?_⟩
  have hj := (List.getElem?_eq_some_iff.mp he).1
  have hfk : nfk (adL k es T).2.2.1 k = T.2.2 := by unfold nfk; rw [h9 h8 (by omega), toNat_n]
  obtain ⟨a, ⟨-, -, b, c⟩, -⟩ := h6 j e (by omega) he
  rw [hfk]
  exact ⟨a, b, c⟩
theorem step_add {zs : List Clz} {T T1 : TS} {k : Nat} {L1 R : List Nat} {es : List Kd3} (hT : TI T.2.1 T.2.2) (hX : XOK T.1 T.2.1) (hL : LKD zs T L1 (k :: R)) (hV : FVL T.2.1) (h1 : T1.1 = T.1 ∧ T1.2.2 = T.2.2) (hF1 : ∀ x f, ¬ (x = k ∧ (f = 4 ∨ f = 10 ∨ f = 14)) → T1.2.1 x f = T.2.1 x f) (hv : (-1 ≤ T1.2.1 k 14 ∧ T1.2.1 k 14 < 120) ∧ (T1.2.1 k 14 = -1 ∨ T1.2.1 k 4 = 4)) (hes : ∀ e ∈ es, wf 1 e.1 ∧ av e.1) (hk : ∀ (Y : Nat → List Int) (G : FT), (∀ a, a < T.2.2 → Y a = T.1 a) → (∀ f, f ≠ 8 → f ≠ 16 → G k f = T1.2.1 k f) → (∀ a, a < T.2.2 → a ≠ k → ∀ f, G a f = T.2.1 a f) → KL Y G k es → NS zs Y G k) : (TI (adL k es T1).2.2.1 (adL k es T1).2.2.2 ∧ XOK (adL k es T1).2.1 (adL k es T1).2.2.1 ∧ FVL (adL k es T1).2.2.1) ∧ ((adL k es T1).1 = 0 → ∃ N, LKD zs (adL k es T1).2 (L1 ++ [k]) N) := by
  obtain ⟨l1, l2, l3⟩ := hL
  obtain ⟨hT1, hl1⟩ : TI T1.2.1 T.2.2 ∧ lnF T1.2.1 = lnF T.2.1 := hT.upd fun x f hf => hF1 x f (by omega)
  have hT1 : TI T1.2.1 T1.2.2 := by rw [h1.2]; exact hT1
  have hX1 : XOK T1.1 T1.2.1 := fun x hx => by rw [h1.1]; exact hX x (by rw [hl1] at hx; exact hx)
  have hkL : k ∈ lnF T.2.1 := by rw [l1]; simp
  have hu := l3 k (by simp)
  have h8 : T1.2.1 k 8 = 0 := by rw [hF1 k 8 (by omega)]; exact hu.1.2
  have hTok := TOK.of0 hT1 hX1 (by rw [hl1]; exact hkL) h8
  obtain ⟨n, ⟨n1, n2⟩, n3, n4, n5, n6, n7, n8, n9⟩ := adL_spec es T1 hTok hes
  have hTok2 := TOK.addL es _ hTok hes
  have hln : lnF (adL k es T1).2.2.1 = L1 ++ (k :: (List.range' T1.2.2 n ++ R)) := by
    have := n4 L1 R (by rw [(nkc_0 h8).2, hl1, l1]; rfl)
    rw [(nkc_0 h8).2] at this
    exact this
  have hkm := hT.1.2.1 k hkL
  have hnd := hT.1.1
  have hlt : ∀ x, x ∈ L1 ++ (k :: R) → x < T.2.2 := fun x hx => hT.1.2.1 x (by rw [l1]; exact hx)
  have hkL1 : k ∉ L1 := fun q => by rw [l1] at hnd; exact (List.nodup_append.mp hnd).2.2 k q k (by simp) rfl
  have hkR : k ∉ R := fun q => by rw [l1] at hnd; exact (List.nodup_cons.mp (List.nodup_append.mp hnd).2.1).1 q
  have eX : ∀ a, a < T.2.2 → (adL k es T1).2.1 a = T.1 a := fun a ha => (n5 a (by omega)).1.trans (by rw [h1.1])
  have eF : ∀ a, a < T.2.2 → a ≠ k → ∀ f, (adL k es T1).2.2.1 a f = T.2.1 a f := fun a ha hne f => ((n5 a (by omega)).2 f (by omega)).trans (hF1 a f (by omega))
  have eK : ∀ f, f ≠ 8 → f ≠ 16 → (adL k es T1).2.2.1 k f = T1.2.1 k f := fun f f8 f16 => (n5 k (by omega)).2 f (by omega)
  have new : ∀ x, x ∈ List.range' T1.2.2 n → UNL (adL k es T1).2.2.1 x ∧ ((adL k es T1).2.2.1 x 9 = -1 ∧ (adL k es T1).2.2.1 x 13 = 0) := by
    intro x hx
    obtain ⟨i, hi, rfl⟩ := List.mem_range'.mp hx
    have hie : i < es.length := by omega
    obtain ⟨-, ⟨⟨m1, m2⟩, ⟨m3, m4⟩, -⟩, -, m5⟩ := n6 i es[i] hi (List.getElem?_eq_getElem hie)
    rw [Nat.one_mul]
    exact ⟨⟨⟨m1, m2⟩, m3, m4⟩, m5⟩
  refine ⟨⟨hTok2.1, hTok2.2.2, fun x hx => ?_⟩, fun hst => ⟨List.range' T1.2.2 n ++ R, by rw [hln]; simp, fun x hx => ?_, fun x hx => ?_⟩⟩
  · rw [hln] at hx
    have old : x ∈ lnF T.2.1 → (-1 ≤ (adL k es T1).2.2.1 x 14 ∧ (adL k es T1).2.2.1 x 14 < 120) ∧ (adL k es T1).2.2.1 x 9 = -1 ∧ (adL k es T1).2.2.1 x 13 = 0 ∧ ((adL k es T1).2.2.1 x 14 = -1 ∨ (adL k es T1).2.2.1 x 4 = 4) := fun h => by
      by_cases q : x = k
      · subst q; rw [eK 14 (by decide) (by decide), eK 9 (by decide) (by decide), eK 13 (by decide) (by decide), eK 4 (by decide) (by decide), hF1 _ 9 (by omega), hF1 _ 13 (by omega)]; exact ⟨hv.1, (hV _ h).2.1, (hV _ h).2.2.1, hv.2⟩
      · rw [eF x (hT.1.2.1 x h) q, eF x (hT.1.2.1 x h) q, eF x (hT.1.2.1 x h) q, eF x (hT.1.2.1 x h) q]; exact hV x h
    simp only [List.mem_append, List.mem_cons] at hx
    rcases hx with q | q | q | q
    · exact old (by rw [l1]; simp [q])
    · exact old (by rw [l1]; simp [q])
    · have := new x q; exact ⟨by have := this.1.2.2; omega, this.2.1, this.2.2, Or.inl this.1.2.2⟩
    · exact old (by rw [l1]; simp [q])
  · rcases List.mem_append.mp hx with q | q
    · have hxL : x ∈ lnF T.2.1 := by rw [l1]; simp [q]
      have hne : x ≠ k := fun e => hkL1 (e ▸ q)
      refine (l2 x q).keep hT hxL hne eX (fun a ha f f4 f8 f10 f14 f16 => ?_) eF (fun m _ hs => ?_)
      · by_cases g : a = k
        · subst g
          rw [eK f f8 f16]
          exact hF1 a f (by omega)
        · exact eF a ha g f
      · rw [hu.1.1] at hs
        unfold isS at hs
        omega
    · have := List.mem_singleton.mp q
      subst this
      exact hk _ _ eX eK eF (KL_of h8 (n2 hst) n6 n7 n8)
  · rcases List.mem_append.mp hx with q | q
    · exact (new x q).1
    · have hne : x ≠ k := fun e => hkR (e ▸ q)
      have hxm := hlt x (by simp [q])
      unfold UNL
      rw [eF x hxm hne, eF x hxm hne, eF x hxm hne, eF x hxm hne]
      exact l3 x (List.mem_cons_of_mem _ q)
theorem step_turn {zs : List Clz} {T T1 : TS} {k g : Nat} {L1 R : List Nat} {b : List Int} {ss : List Nat} (hT : TI T.2.1 T.2.2) (hX : XOK T.1 T.2.1) (hL : LKD zs T L1 (k :: R)) (hV : FVL T.2.1) (h1 : T1.1 = T.1 ∧ T1.2.2 = T.2.2) (hF1 : ∀ x f, ¬ (x = k ∧ (f = 4 ∨ f = 10 ∨ f = 14)) → T1.2.1 x f = T.2.1 x f) (hv : (-1 ≤ T1.2.1 k 14 ∧ T1.2.1 k 14 < 120) ∧ (T1.2.1 k 14 = -1 ∨ T1.2.1 k 4 = 4)) (hg14 : T1.2.1 g 14 = -1) (hg : g ∈ lnF T.2.1) (hgk : g < k) (hkg : k ∉ lnF (upF T1.2.1 g 8 0)) (hb : wf 1 b ∧ av b) (hss : ∀ s ∈ ss, s < (T.1 g).length) (hsl : ss.length = (ord b).length) : (TI (adL g ((b, -1, -1) :: prtL (T.1 g) ss) (T1.1, upF (upF T1.2.1 g 8 0) g 4 5, T1.2.2)).2.2.1 (adL g ((b, -1, -1) :: prtL (T.1 g) ss) (T1.1, upF (upF T1.2.1 g 8 0) g 4 5, T1.2.2)).2.2.2 ∧ XOK (adL g ((b, -1, -1) :: prtL (T.1 g) ss) (T1.1, upF (upF T1.2.1 g 8 0) g 4 5, T1.2.2)).2.1 (adL g ((b, -1, -1) :: prtL (T.1 g) ss) (T1.1, upF (upF T1.2.1 g 8 0) g 4 5, T1.2.2)).2.2.1 ∧ FVL (adL g ((b, -1, -1) :: prtL (T.1 g) ss) (T1.1, upF (upF T1.2.1 g 8 0) g 4 5, T1.2.2)).2.2.1) ∧ ((adL g ((b, -1, -1) :: prtL (T.1 g) ss) (T1.1, upF (upF T1.2.1 g 8 0) g 4 5, T1.2.2)).1 = 0 → ∃ A N, A.length = (lnF T1.2.1).idxOf g ∧ LKD zs (adL g ((b, -1, -1) :: prtL (T.1 g) ss) (T1.1, upF (upF T1.2.1 g 8 0) g 4 5, T1.2.2)).2 (A ++ [g]) N) := by
  obtain ⟨l1, l2, l3⟩ := hL
  obtain ⟨hT1, hl1⟩ : TI T1.2.1 T.2.2 ∧ lnF T1.2.1 = lnF T.2.1 := hT.upd fun x f hf => hF1 x f (by omega)
  have hg1 : g ∈ lnF T1.2.1 := by rw [hl1]; exact hg
  have hgm := hT.1.2.1 g hg
  obtain ⟨f1, f2, f3⟩ := hX g hg
  have hes : ∀ e ∈ ((b, -1, -1) :: prtL (T.1 g) ss : List Kd3), wf 1 e.1 ∧ av e.1 := by
    intro e he
    rcases List.mem_cons.mp he with q | q
    · rw [q]; exact hb
    · exact prtL_ok f1 f2 hss e q
  obtain ⟨hTr, A, S, B, eA, eB, -⟩ := hT1.rem hg1
  obtain ⟨hT2, hl2⟩ := hTr.up1 (m := g) (f := 4) (v := 5) (by omega)
  have hsub : ∀ x, x ∈ lnF (upF T1.2.1 g 8 0) → x ∈ lnF T.2.1 := by
    intro x hx
    rw [eB] at hx
    rw [← hl1, eA]
    simp only [List.mem_append, List.mem_cons] at hx ⊢
    rcases hx with q | q | q
    · exact Or.inl q
    · exact Or.inr (Or.inl q)
    · exact Or.inr (Or.inr (Or.inr q))
  have g8 : upF (upF T1.2.1 g 8 0) g 4 5 g 8 = 0 := by rw [upF_ne (by omega), upF_at]
  have ht1 : T1.1 = T.1 := h1.1
  have ht2 : T1.2.2 = T.2.2 := h1.2
  generalize hes0 : ((b, -1, -1) :: prtL (T.1 g) ss : List Kd3) = es at *
  generalize hT2e : ((T1.1, upF (upF T1.2.1 g 8 0) g 4 5, T1.2.2) : TS) = U at *
  have u1 : U.1 = T.1 := by rw [← hT2e]; exact ht1
  have u2 : U.2.1 = upF (upF T1.2.1 g 8 0) g 4 5 := by rw [← hT2e]
  have u3 : U.2.2 = T.2.2 := by rw [← hT2e]; exact ht2
  have hTok : TOK U g := by
    refine TOK.of0 (by rw [u2, u3]; exact hT2) (fun x hx => ?_) (by rw [u2, hl2, eB]; simp) (by rw [u2]; exact g8)
    rw [u2, hl2] at hx
    rw [u1]
    exact hX x (hsub x hx)
  have h8 : U.2.1 g 8 = 0 := by rw [u2]; exact g8
  obtain ⟨n, ⟨n1, n2⟩, n3, n4, n5, n6, n7, n8, n9⟩ := adL_spec es U hTok hes
  have hTok2 := TOK.addL es _ hTok hes
  have hln : lnF (adL g es U).2.2.1 = A ++ (g :: (List.range' U.2.2 n ++ B)) := by
    have := n4 A B (by rw [(nkc_0 h8).2, u2, hl2, eB]; rfl)
    rw [(nkc_0 h8).2] at this
    exact this
  have new : ∀ x, x ∈ List.range' U.2.2 n → UNL (adL g es U).2.2.1 x ∧ ((adL g es U).2.2.1 x 9 = -1 ∧ (adL g es U).2.2.1 x 13 = 0) := by
    intro x hx
    obtain ⟨i, hi, rfl⟩ := List.mem_range'.mp hx
    have hie : i < es.length := by omega
    obtain ⟨-, ⟨⟨m1, m2⟩, ⟨m3, m4⟩, -⟩, -, m5⟩ := n6 i es[i] hi (List.getElem?_eq_getElem hie)
    rw [Nat.one_mul]
    exact ⟨⟨⟨m1, m2⟩, m3, m4⟩, m5⟩
  have hnd := hT.1.1
  have hndA : (A ++ (g :: (S ++ B))).Nodup := by rw [← eA, hl1]; exact hnd
  have hgA : g ∉ A := fun q => (List.nodup_append.mp hndA).2.2 g q g (by simp) rfl
  -- the one that is looked at lies below
  have hkL : k ∈ A ++ (g :: (S ++ B)) := by rw [← eA, hl1, l1]; simp
  have hkS : k ∈ S := by
    rw [eB] at hkg
    simp only [List.mem_append, List.mem_cons] at hkL hkg
    rcases hkL with q | q | q | q
    · exact absurd (Or.inl q) hkg
    · exact absurd (Or.inr (Or.inl q)) hkg
    · exact q
    · exact absurd (Or.inr (Or.inr q)) hkg
  obtain ⟨S1, S2, hS⟩ := List.append_of_mem hkS
  have hkk : L1 ++ (k :: R) = (A ++ (g :: S1)) ++ (k :: (S2 ++ B)) := by
    rw [← l1, ← hl1, eA, hS]
    simp
  have hk1 : k ∉ L1 := fun q => by rw [l1] at hnd; exact (List.nodup_append.mp hnd).2.2 k q k (by simp) rfl
  have hk2 : k ∉ A ++ (g :: S1) := fun q => by
    have h : ((A ++ (g :: S1)) ++ (k :: (S2 ++ B))).Nodup := by rw [← hkk, ← l1]; exact hnd
    exact (List.nodup_append.mp h).2.2 k q k (by simp) rfl
  obtain ⟨q1, q2⟩ := app_cancel hkk hk1 hk2
  have eX : ∀ a, a < T.2.2 → (adL g es U).2.1 a = T.1 a := fun a ha => (n5 a (by omega)).1.trans (by rw [u1])
  have eU : ∀ a f, ¬ (a = g ∧ (f = 4 ∨ f = 8)) → U.2.1 a f = T1.2.1 a f := fun a f h => by rw [u2, upF_ne (by omega), upF_ne (by omega)]
  have eF : ∀ a, a < T.2.2 → a ≠ g → ∀ f, (adL g es U).2.2.1 a f = T1.2.1 a f := fun a ha hne f => ((n5 a (by omega)).2 f (by omega)).trans (eU a f (by omega))
  have eG : ∀ f, f ≠ 8 → f ≠ 16 → (adL g es U).2.2.1 g f = U.2.1 g f := fun f f8 f16 => (n5 g (by omega)).2 f (by omega)
  have hinL : ∀ x, x ∈ A ∨ x ∈ B → x ∈ lnF T.2.1 := fun x hx => hsub x (by rw [eB]; simp only [List.mem_append, List.mem_cons]; rcases hx with q | q; exact Or.inl q; exact Or.inr (Or.inr q))
  have hk14 : ∀ x, x ∈ lnF T.2.1 → (-1 ≤ T1.2.1 x 14 ∧ T1.2.1 x 14 < 120) ∧ T1.2.1 x 9 = -1 ∧ T1.2.1 x 13 = 0 ∧ (T1.2.1 x 14 = -1 ∨ T1.2.1 x 4 = 4) := fun x hx => by
    rw [hF1 x 9 (by omega), hF1 x 13 (by omega)]
    by_cases q : x = k
    · subst q; exact ⟨hv.1, (hV x hx).2.1, (hV x hx).2.2.1, hv.2⟩
    · rw [hF1 x 14 (by omega), hF1 x 4 (by omega)]; exact hV x hx
  have hgB : g ∉ B := fun q => by
    have := (List.nodup_append.mp hndA).2.1
    exact (List.nodup_cons.mp this).1 (by simp [q])
  refine ⟨⟨hTok2.1, hTok2.2.2, fun x hx => ?_⟩, fun hst => ⟨A, List.range' U.2.2 n ++ B, ?_, by rw [hln]; simp, fun x hx => ?_, fun x hx => ?_⟩⟩
  · rw [hln] at hx
    simp only [List.mem_append, List.mem_cons] at hx
    rcases hx with q | q | q | q
    · have hxL := hinL x (Or.inl q)
      rw [eF x (hT.1.2.1 x hxL) (fun e => hgA (e ▸ q)), eF x (hT.1.2.1 x hxL) (fun e => hgA (e ▸ q)), eF x (hT.1.2.1 x hxL) (fun e => hgA (e ▸ q)), eF x (hT.1.2.1 x hxL) (fun e => hgA (e ▸ q))]; exact hk14 x hxL
    · subst q
      rw [eG 14 (by decide) (by decide), eG 9 (by decide) (by decide), eG 13 (by decide) (by decide), eU _ 14 (by omega), eU _ 9 (by omega), eU _ 13 (by omega)]; exact ⟨(hk14 x hg).1, (hk14 x hg).2.1, (hk14 x hg).2.2.1, Or.inl hg14⟩
    · have := new x q; exact ⟨by have := this.1.2.2; omega, this.2.1, this.2.2, Or.inl this.1.2.2⟩
    · have hxL := hinL x (Or.inr q)
      rw [eF x (hT.1.2.1 x hxL) (fun e => hgB (e ▸ q)), eF x (hT.1.2.1 x hxL) (fun e => hgB (e ▸ q)), eF x (hT.1.2.1 x hxL) (fun e => hgB (e ▸ q)), eF x (hT.1.2.1 x hxL) (fun e => hgB (e ▸ q))]; exact hk14 x hxL
  · rw [eA]
    exact (idxOf_mid A _ g hgA).symm
  · rcases List.mem_append.mp hx with q | q
    · have hxL := hinL x (Or.inl q)
      have hne : x ≠ g := fun e => hgA (e ▸ q)
      have hxk : x ≠ k := fun e => hk2 (by simp [← e, q])
      have hx1 : x ∈ L1 := by rw [q1]; simp [q]
      have hu := l3 k (by simp)
      have s1 : NS zs T.1 T1.2.1 x := (l2 x hx1).keep hT hxL hxk (fun a _ => rfl) (fun a _ f f4 f8 f10 f14 f16 => hF1 a f (by omega)) (fun a _ hne f => hF1 a f (by omega)) (fun m _ hs => by
        rw [hu.1.1] at hs
        unfold isS at hs
        omega)
      refine s1.keep hT1 (by rw [hl1]; exact hxL) hne eX (fun a ha f f4 f8 f10 f14 f16 => ?_) eF (fun m hm _ => ?_)
      · by_cases e : a = g
        · subst e
          rw [eG f f8 f16, eU _ _ (by omega)]
        · exact eF a ha e f
      · exact anc_rem hT1 hg1 m x (by rw [eB]; simp [q]) hm
    · have := List.mem_singleton.mp q
      subst this
      have hKL := KL_of h8 (n2 hst) n6 n7 n8
      refine Or.inr (Or.inr (Or.inr (Or.inr (Or.inr (Or.inl ⟨?_, b, ss, ?_, hsl, ?_, hb.1, hb.2⟩)))))
      · rw [eG 4 (by decide) (by decide), u2, upF_at]
      · rw [eX x hgm, hes0]
        exact hKL
      · rw [eX x hgm]
        exact hss
  · rcases List.mem_append.mp hx with q | q
    · exact (new x q).1
    · have hxL := hinL x (Or.inr q)
      have hxm := hT.1.2.1 x hxL
      have hne : x ≠ g := fun e => hgB (e ▸ q)
      have hxR : x ∈ R := by rw [q2]; simp [q]
      have hxk : x ≠ k := fun e => by
        rw [l1] at hnd
        exact (List.nodup_cons.mp (List.nodup_append.mp hnd).2.1).1 (e ▸ hxR)
      unfold UNL
      rw [eF x hxm hne, eF x hxm hne, eF x hxm hne, eF x hxm hne, hF1 _ _ (by omega), hF1 _ _ (by omega), hF1 _ _ (by omega), hF1 _ _ (by omega)]
      exact l3 x (List.mem_cons_of_mem _ hxR)

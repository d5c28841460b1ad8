/-! ===== the law's loop: the class's half ===== -/
section LAWC
variable {L : Nat} {xs : Nat → Int} {M M1 : Mem} {T ws gl gc : List Int} {zs nc : List Clz} {bs : Bnd} {es : Nat → List Int} {f dr dp : Int}
theorem Lc_feed (hG : Good M) (h : CHf M T zs nc bs gl gc es f dr ws dp) (pv : PVL zs bs gl es dr) (a b c d e : Int) : ∃ (M1 : Mem) (S R : Nat → Nat → Prop), D_feed 2 a b c d e M = some (some (.inl (fedR T)), M1) ∧ Good M1 ∧ CHf M1 (fed T a b c d e) zs nc bs gl gc es f dr ws dp ∧ Fq S R M M1 ∧ ∀ a k, S a k → 2 ≤ a ∧ a < 1269 := by
  obtain ⟨⟨⟨a1, a2, a3, a4⟩, ⟨a5, a6, a7⟩, ⟨a8, a9⟩, b1⟩, b2⟩ := h
  obtain ⟨M1, h1, h2, h3⟩ := D_feed_s hG a1 a b c d e
  have q : Fq (fun a k => a = 4 ∨ (a = 3 ∧ k = 4)) nor M M1 := h3.fq fun a k g => g
  exact ⟨M1, _, nor, h1, hG.fj h3, ⟨⟨⟨h2, a2.fq q (fun a k g => by omega) (fun k g => fun g => g), a3.fq q (fun a k g => by omega) (fun k g => fun g => g), a4.fq q (fun a k g => by omega)⟩, ⟨a5.fq q (fun a k g => by omega), a6.fq q ⟨by omega, by omega⟩, a7.fq q fun k => ⟨by omega, by omega⟩⟩, ⟨a8.fq q (fun a k g => by omega) ⟨fun g => g, fun g => g⟩, a9.fq q (fun a k g => by omega)⟩, (q.2.2 _ _ (by omega)).trans b1⟩, fun hd => ⟨(b2 hd).1.fq pv.1.1 pv.1.2.1 pv.1.2.2 (pv.new hd).2 q (fun a j g => by omega) (fun a j g => fun g => g), (b2 hd).2⟩⟩, q, by omega⟩
theorem Lc_end (hG : Good M) (h : CHf M T zs nc bs gl gc es f dr ws dp) (pv : PVL zs bs gl es dr) (n : Int) : ∃ (M1 : Mem) (S R : Nat → Nat → Prop), D_end 2 n M = some (some (.inl (cutR T n)), M1) ∧ Good M1 ∧ CHf M1 (cutT T n) zs nc bs gl gc es f dr ws dp ∧ Fq S R M M1 ∧ ∀ a k, S a k → 2 ≤ a ∧ a < 1269 := by
  obtain ⟨⟨⟨a1, a2, a3, a4⟩, ⟨a5, a6, a7⟩, ⟨a8, a9⟩, b1⟩, b2⟩ := h
  obtain ⟨M1, h1, h2, h3⟩ := D_end_s hG a1 n
  have q : Fq (fun a k => a = 3 ∧ k = 4) nor M M1 := h3.fq fun a k g => g
  exact ⟨M1, _, nor, h1, hG.fj h3, ⟨⟨⟨h2, a2.fq q (fun a k g => by omega) (fun k g => fun g => g), a3.fq q (fun a k g => by omega) (fun k g => fun g => g), a4.fq q (fun a k g => by omega)⟩, ⟨a5.fq q (fun a k g => by omega), a6.fq q ⟨by omega, by omega⟩, a7.fq q fun k => ⟨by omega, by omega⟩⟩, ⟨a8.fq q (fun a k g => by omega) ⟨fun g => g, fun g => g⟩, a9.fq q (fun a k g => by omega)⟩, (q.2.2 _ _ (by omega)).trans b1⟩, fun hd => ⟨(b2 hd).1.fq pv.1.1 pv.1.2.1 pv.1.2.2 (pv.new hd).2 q (fun a j g => by omega) (fun a j g => fun g => g), (b2 hd).2⟩⟩, q, by omega⟩
def prR : Nat → Nat → Prop := fun a k => a = 2 ∧ (k = 10 ∨ k = 12)
def bdR : Nat → Nat → Prop := fun a k => a = 2 ∧ (k = 13 ∨ k = 14)
theorem Lc_program (hG : Good M) (h : CHf M T zs nc bs gl gc es f dr ws dp) (pv : PVL zs bs gl es dr) : ∃ M1, D_program 2 M = some (some (.inl (okr (rpg T 41 [] 0) fun ws => (ws.length : Int))), M1) ∧ Good M1 ∧ (match rpg T 41 [] 0 with
    | .error e => CHf M1 [] zs nc bs gl gc es (e : Int) dr ws dp
    | .ok us => okP us ∧ CHf M1 [] us nc bs gl gc es (-1) 0 ws dp) ∧ Fq progS prR M M1 := by
  obtain ⟨⟨⟨a1, a2, a3, a4⟩, ⟨a5, a6, a7⟩, ⟨a8, a9⟩, b1⟩, b2⟩ := h
  obtain ⟨M1, h1, h2, h3, h4, q⟩ := D_program_s hG a1 a2 a6
  have q : Fq progS prR M M1 := q
  refine ⟨M1, h1, h2, ?_, q⟩
  cases hx : rpg T 41 [] 0 with
  | error e =>
    rw [hx] at h4
    obtain ⟨h4, h5⟩ := h4
    exact ⟨⟨⟨h3, h4, a3.fq q (fun a k g => by unfold progS tlS; omega) (fun k g => by unfold prR; omega), a4.fq q (fun a k g => by unfold progS tlS; omega)⟩, ⟨a5.fq q (fun a k g => by unfold progS tlS; omega), h5, a7.fq q fun k => ⟨by unfold progS tlS; omega, by unfold progS tlS; omega⟩⟩, ⟨a8.fq q (fun a k g => by unfold progS tlS; omega) ⟨by unfold prR; omega, by unfold prR; omega⟩, a9.fq q (fun a k g => by unfold progS tlS; omega)⟩, (q.2.2 _ _ (by unfold progS tlS; omega)).trans b1⟩, fun hd => ⟨(b2 hd).1.fq pv.1.1 pv.1.2.1 pv.1.2.2 (pv.new hd).2 q (fun a j g => by unfold progS tlS; omega) (fun a j g => by unfold prR; omega), (b2 hd).2⟩⟩
  | ok us =>
    rw [hx] at h4
    obtain ⟨h4, h6, h5⟩ := h4
    exact ⟨h6, ⟨⟨⟨h3, h4, a3.fq q (fun a k g => by unfold progS tlS; omega) (fun k g => by unfold prR; omega), a4.fq q (fun a k g => by unfold progS tlS; omega)⟩, ⟨a5.fq q (fun a k g => by unfold progS tlS; omega), h5, a7.fq q fun k => ⟨by unfold progS tlS; omega, by unfold progS tlS; omega⟩⟩, ⟨a8.fq q (fun a k g => by unfold progS tlS; omega) ⟨by unfold prR; omega, by unfold prR; omega⟩, a9.fq q (fun a k g => by unfold progS tlS; omega)⟩, (q.2.2 _ _ (by unfold progS tlS; omega)).trans b1⟩, fun hd => absurd rfl hd⟩⟩
theorem Lc_goal (hG : Good M) (h : CHf M T zs nc bs gl gc es f dr ws dp) (pv : PVL zs bs gl es dr) : ∃ M1, D_goal 2 M = some (some (.inl (okr (whl T) fun xs => (xs.length : Int))), M1) ∧ Good M1 ∧ (match whl T with
    | .error e => CHf M1 [] zs nc bs gl gc es (e : Int) dr ws dp
    | .ok ys => CHf M1 [] zs nc bs ys gc es (-1) 0 ws dp) ∧ Fq goalS nor M M1 := by
  obtain ⟨⟨⟨a1, a2, a3, a4⟩, ⟨a5, a6, a7⟩, ⟨a8, a9⟩, b1⟩, b2⟩ := h
  obtain ⟨M1, h1, h2, h3, hS, h4, q⟩ := D_goal_s hG a1 a4 a5 a6 (fun xs h => (whl_ok h).2.2.1)
  refine ⟨M1, h1, h2, ?_, q⟩
  cases hx : whl T with
  | error e =>
    rw [hx] at h4
    obtain ⟨h4, h5⟩ := h4
    exact ⟨⟨⟨h3, a2.fq q (fun a k g => by unfold goalS tlS; omega) (fun k g => fun g => g), a3.fq q (fun a k g => by unfold goalS tlS; omega) (fun k g => fun g => g), h4⟩, ⟨hS, h5, a7.fq q fun k => ⟨by unfold goalS tlS; omega, by unfold goalS tlS; omega⟩⟩, ⟨a8.fq q (fun a k g => by unfold goalS tlS; omega) ⟨fun g => g, fun g => g⟩, a9.fq q (fun a k g => by unfold goalS tlS; omega)⟩, (q.2.2 _ _ (by unfold goalS tlS; omega)).trans b1⟩, fun hd => ⟨(b2 hd).1.fq pv.1.1 pv.1.2.1 pv.1.2.2 (pv.new hd).2 q (fun a j g => by unfold goalS tlS; omega) (fun a j g => fun g => g), (b2 hd).2⟩⟩
  | ok ys =>
    rw [hx] at h4
    obtain ⟨h4, h5⟩ := h4
    exact ⟨⟨⟨h3, a2.fq q (fun a k g => by unfold goalS tlS; omega) (fun k g => fun g => g), a3.fq q (fun a k g => by unfold goalS tlS; omega) (fun k g => fun g => g), h4⟩, ⟨hS, h5, a7.fq q fun k => ⟨by unfold goalS tlS; omega, by unfold goalS tlS; omega⟩⟩, ⟨a8.fq q (fun a k g => by unfold goalS tlS; omega) ⟨fun g => g, fun g => g⟩, a9.fq q (fun a k g => by unfold goalS tlS; omega)⟩, (q.2.2 _ _ (by unfold goalS tlS; omega)).trans b1⟩, fun hd => absurd rfl hd⟩
theorem Lc_expression (hG : Good M) (h : CHf M T zs nc bs gl gc es f dr ws dp) (pv : PVL zs bs gl es dr) {i : Nat} (hi : i < 4) : ∃ M1, D_expression 2 (i : Int) M = some (some (.inl (okr (whl T) fun xs => (xs.length : Int))), M1) ∧ Good M1 ∧ (match whl T with
    | .error e => CHf M1 [] zs nc bs gl gc es (e : Int) dr ws dp
    | .ok ys => CHf M1 [] zs nc bs gl gc (setX es i ys) (-1) dr ws dp) ∧ Fq exprS nor M M1 := by
  obtain ⟨⟨⟨a1, a2, a3, a4⟩, ⟨a5, a6, a7⟩, ⟨a8, a9⟩, b1⟩, b2⟩ := h
  obtain ⟨M1, h1, h2, h3, hS, h4, q⟩ := D_expression_s hG a1 a4 a5 a6 (fun xs h => (whl_ok h).2.2.1) hi
  refine ⟨M1, h1, h2, ?_, q⟩
  cases hx : whl T with
  | error e =>
    rw [hx] at h4
    obtain ⟨h4, h5⟩ := h4
    exact ⟨⟨⟨h3, a2.fq q (fun a k g => by unfold exprS tlS; omega) (fun k g => fun g => g), a3.fq q (fun a k g => by unfold exprS tlS; omega) (fun k g => fun g => g), h4⟩, ⟨hS, h5, a7.fq q fun k => ⟨by unfold exprS tlS; omega, by unfold exprS tlS; omega⟩⟩, ⟨a8.fq q (fun a k g => by unfold exprS tlS; omega) ⟨fun g => g, fun g => g⟩, a9.fq q (fun a k g => by unfold exprS tlS; omega)⟩, (q.2.2 _ _ (by unfold exprS tlS; omega)).trans b1⟩, fun hd => ⟨(b2 hd).1.fq pv.1.1 pv.1.2.1 pv.1.2.2 (pv.new hd).2 q (fun a j g => by unfold exprS tlS; omega) (fun a j g => fun g => g), (b2 hd).2⟩⟩
  | ok ys =>
    rw [hx] at h4
    obtain ⟨h4, h5⟩ := h4
    exact ⟨⟨⟨h3, a2.fq q (fun a k g => by unfold exprS tlS; omega) (fun k g => fun g => g), a3.fq q (fun a k g => by unfold exprS tlS; omega) (fun k g => fun g => g), h4⟩, ⟨hS, h5, a7.fq q fun k => ⟨by unfold exprS tlS; omega, by unfold exprS tlS; omega⟩⟩, ⟨a8.fq q (fun a k g => by unfold exprS tlS; omega) ⟨fun g => g, fun g => g⟩, a9.fq q (fun a k g => by unfold exprS tlS; omega)⟩, (q.2.2 _ _ (by unfold exprS tlS; omega)).trans b1⟩, fun hd => ⟨(b2 hd).1.fq pv.1.1 pv.1.2.1 pv.1.2.2 (pv.new hd).2 q (fun a j g => by unfold exprS tlS; omega) (fun a j g => fun g => g), (b2 hd).2⟩⟩
theorem Lc_bind (hG : Good M) (h : CHf M T zs nc bs gl gc es f dr ws dp) (pv : PVL zs bs gl es dr) : ∃ M1, D_bind 2 M = some (some (.inl (okr (rbb T) fun cs => (cs.length : Int))), M1) ∧ Good M1 ∧ (match rbb T with
    | .error e => CHf M1 [] zs nc bs gl gc es (e : Int) dr ws dp
    | .ok cs => CHf M1 [] zs nc cs gl gc es (-1) dr ws dp) ∧ Fq bindS bdR M M1 := by
  obtain ⟨⟨⟨a1, a2, a3, a4⟩, ⟨a5, a6, a7⟩, ⟨a8, a9⟩, b1⟩, b2⟩ := h
  obtain ⟨M1, h1, h2, h3, hS, h4, q⟩ := D_bind_s hG a1 a3 a5 a6
  have q : Fq bindS bdR M M1 := q
  refine ⟨M1, h1, h2, ?_, q⟩
  cases hx : rbb T with
  | error e =>
    rw [hx] at h4
    obtain ⟨h4, h5⟩ := h4
    exact ⟨⟨⟨h3, a2.fq q (fun a k g => by unfold bindS tlS; omega) (fun k g => by unfold bdR; omega), h4, a4.fq q (fun a k g => by unfold bindS tlS; omega)⟩, ⟨hS, h5, a7.fq q fun k => ⟨by unfold bindS tlS; omega, by unfold bindS tlS; omega⟩⟩, ⟨a8.fq q (fun a k g => by unfold bindS tlS; omega) ⟨by unfold bdR; omega, by unfold bdR; omega⟩, a9.fq q (fun a k g => by unfold bindS tlS; omega)⟩, (q.2.2 _ _ (by unfold bindS tlS; omega)).trans b1⟩, fun hd => ⟨(b2 hd).1.fq pv.1.1 pv.1.2.1 pv.1.2.2 (pv.new hd).2 q (fun a j g => by unfold bindS tlS; omega) (fun a j g => by unfold bdR; omega), (b2 hd).2⟩⟩
  | ok cs =>
    rw [hx] at h4
    obtain ⟨h4, h5⟩ := h4
    exact ⟨⟨⟨h3, a2.fq q (fun a k g => by unfold bindS tlS; omega) (fun k g => by unfold bdR; omega), h4, a4.fq q (fun a k g => by unfold bindS tlS; omega)⟩, ⟨hS, h5, a7.fq q fun k => ⟨by unfold bindS tlS; omega, by unfold bindS tlS; omega⟩⟩, ⟨a8.fq q (fun a k g => by unfold bindS tlS; omega) ⟨by unfold bdR; omega, by unfold bdR; omega⟩, a9.fq q (fun a k g => by unfold bindS tlS; omega)⟩, (q.2.2 _ _ (by unfold bindS tlS; omega)).trans b1⟩, fun hd => ⟨(b2 hd).1.fq pv.1.1 pv.1.2.1 pv.1.2.2 (pv.new hd).2 q (fun a j g => by unfold bindS tlS; omega) (fun a j g => by unfold bdR; omega), (b2 hd).2⟩⟩
theorem Lc_relation (hG : Good M) (h : CHf M T zs nc bs gl gc es f dr ws dp) (pv : PVL zs bs gl es dr) (i j w : Int) : ∃ (M1 : Mem) (S R : Nat → Nat → Prop), D_relation 2 i j w M = some (some (.inl (relA es i j w)), M1) ∧ Good M1 ∧ CHf M1 T zs nc bs gl gc es f dr ws dp ∧ Fq S R M M1 ∧ ∀ a k, S a k → 2 ≤ a ∧ a < 1269 := by
  obtain ⟨⟨⟨a1, a2, a3, a4⟩, ⟨a5, a6, a7⟩, ⟨a8, a9⟩, b1⟩, b2⟩ := h
  obtain ⟨M1, h1, q0⟩ := D_relation_s hG a4 pv.2.1.2.2 i j w
  have q : Fq reS nor M M1 := q0.fq fun a k g => g
  exact ⟨M1, _, _, h1, hG.fj q0, ⟨⟨⟨a1.fq q fun k => ⟨by unfold reS; omega, by unfold reS; omega⟩, a2.fq q (fun a k g => by unfold reS; omega) (fun k g => fun g => g), a3.fq q (fun a k g => by unfold reS; omega) (fun k g => fun g => g), a4.fq q (fun a k g => by unfold reS; omega)⟩, ⟨a5.fq q (fun a k g => by unfold reS; omega), a6.fq q ⟨by unfold reS; omega, by unfold reS; omega⟩, a7.fq q fun k => ⟨by unfold reS; omega, by unfold reS; omega⟩⟩, ⟨a8.fq q (fun a k g => by unfold reS; omega) ⟨fun g => g, fun g => g⟩, a9.fq q (fun a k g => by unfold reS; omega)⟩, (q.2.2 _ _ (by unfold reS; omega)).trans b1⟩, fun hd => ⟨(b2 hd).1.fq pv.1.1 pv.1.2.1 pv.1.2.2 (pv.new hd).2 q (fun a j g => by unfold reS; omega) (fun a j g => fun g => g), (b2 hd).2⟩⟩, q, fun a k g => by unfold reS at g; omega⟩
theorem Lc_common (hG : Good M) (h : CHf M T zs nc bs gl gc es f dr ws dp) (pv : PVL zs bs gl es dr) (i j : Int) : ∃ (M1 : Mem) (S R : Nat → Nat → Prop), D_common 2 i j M = some (some (.inl (cmnA es i j)), M1) ∧ Good M1 ∧ CHf M1 T zs nc bs gl gc es f dr (cmnT es ws i j) dp ∧ Fq S R M M1 ∧ ∀ a k, S a k → 2 ≤ a ∧ a < 1269 := by
  obtain ⟨⟨⟨a1, a2, a3, a4⟩, ⟨a5, a6, a7⟩, ⟨a8, a9⟩, b1⟩, b2⟩ := h
  obtain ⟨M1, h1, h2, h3, q0⟩ := D_common_s hG a4 a5 a7 pv.2.1.2.2 i j
  have q : Fq coS nor M M1 := q0.fq fun a k g => g
  exact ⟨M1, _, _, h1, hG.fj q0, ⟨⟨⟨a1.fq q fun k => ⟨by unfold coS reS wcL wcS; omega, by unfold coS reS wcL wcS; omega⟩, a2.fq q (fun a k g => by unfold coS reS wcL wcS; omega) (fun k g => fun g => g), a3.fq q (fun a k g => by unfold coS reS wcL wcS; omega) (fun k g => fun g => g), a4.fq q (fun a k g => by unfold coS reS wcL wcS; omega)⟩, ⟨h3, a6.fq q ⟨by unfold coS reS wcL wcS; omega, by unfold coS reS wcL wcS; omega⟩, h2⟩, ⟨a8.fq q (fun a k g => by unfold coS reS wcL wcS; omega) ⟨fun g => g, fun g => g⟩, a9.fq q (fun a k g => by unfold coS reS wcL wcS; omega)⟩, (q.2.2 _ _ (by unfold coS reS wcL wcS; omega)).trans b1⟩, fun hd => ⟨(b2 hd).1.fq pv.1.1 pv.1.2.1 pv.1.2.2 (pv.new hd).2 q (fun a j g => by unfold coS reS wcL wcS; omega) (fun a j g => fun g => g), (b2 hd).2⟩⟩, q, fun a k g => by unfold coS reS wcL wcS at g; omega⟩
theorem Lc_commonOf (hG : Good M) (h : CHf M T zs nc bs gl gc es f dr ws dp) (pv : PVL zs bs gl es dr) (i j w : Int) : ∃ (M1 : Mem) (S R : Nat → Nat → Prop), D_commonOf 2 i j w M = some (some (.inl (cmoA es i j w)), M1) ∧ Good M1 ∧ CHf M1 T zs nc bs gl gc es f dr ws dp ∧ Fq S R M M1 ∧ ∀ a k, S a k → 2 ≤ a ∧ a < 1269 := by
  obtain ⟨⟨⟨a1, a2, a3, a4⟩, ⟨a5, a6, a7⟩, ⟨a8, a9⟩, b1⟩, b2⟩ := h
  obtain ⟨M1, h1, h3, q0⟩ := D_commonOf_s hG a4 a5 pv.2.1.2.2 i j w
  have q : Fq coT nor M M1 := q0.fq fun a k g => g
  exact ⟨M1, _, _, h1, hG.fj q0, ⟨⟨⟨a1.fq q fun k => ⟨by unfold coT reS; omega, by unfold coT reS; omega⟩, a2.fq q (fun a k g => by unfold coT reS; omega) (fun k g => fun g => g), a3.fq q (fun a k g => by unfold coT reS; omega) (fun k g => fun g => g), a4.fq q (fun a k g => by unfold coT reS; omega)⟩, ⟨h3, a6.fq q ⟨by unfold coT reS; omega, by unfold coT reS; omega⟩, a7.fq q fun k => ⟨by unfold coT reS; omega, by unfold coT reS; omega⟩⟩, ⟨a8.fq q (fun a k g => by unfold coT reS; omega) ⟨fun g => g, fun g => g⟩, a9.fq q (fun a k g => by unfold coT reS; omega)⟩, (q.2.2 _ _ (by unfold coT reS; omega)).trans b1⟩, fun hd => ⟨(b2 hd).1.fq pv.1.1 pv.1.2.1 pv.1.2.2 (pv.new hd).2 q (fun a j g => by unfold coT reS; omega) (fun a j g => fun g => g), (b2 hd).2⟩⟩, q, fun a k g => by unfold coT reS at g; omega⟩
theorem Lc_step (hG : Good M) (h : CHf M T zs nc bs gl gc es f dr ws dp) (pv : PVL zs bs gl es dr) (i k : Int) : ∃ (M1 : Mem) (S R : Nat → Nat → Prop), D_step 2 i k M = some (some (.inl (stA zs bs es i k)), M1) ∧ Good M1 ∧ CHf M1 T zs nc bs gl gc (stE zs bs es i k) f dr ws dp ∧ Fq S R M M1 ∧ ∀ a k, S a k → 2 ≤ a ∧ a < 1269 := by
  obtain ⟨⟨⟨a1, a2, a3, a4⟩, ⟨a5, a6, a7⟩, ⟨a8, a9⟩, b1⟩, b2⟩ := h
  obtain ⟨M1, h1, h2, h3, h4, h5, q0⟩ := D_step_s hG a2 a3 a4 a8 pv.1.1 pv.2.1.1 pv.2.1.2.2 i k
  have q : Fq stS ruR M M1 := q0
  exact ⟨M1, _, _, h1, h5, ⟨⟨⟨a1.fq q fun k => ⟨by unfold stS ruS; omega, by unfold stS ruS; omega⟩, a2.fq q (fun a k g => by unfold stS ruS; omega) (fun k g => by unfold ruR; omega), a3.fq q (fun a k g => by unfold stS ruS; omega) (fun k g => by unfold ruR; omega), h2⟩, ⟨a5.fq q (fun a k g => by unfold stS ruS; omega), a6.fq q ⟨by unfold stS ruS; omega, by unfold stS ruS; omega⟩, a7.fq q fun k => ⟨by unfold stS ruS; omega, by unfold stS ruS; omega⟩⟩, ⟨h3, a9.fq q (fun a k g => by unfold stS ruS; omega)⟩, h4.trans b1⟩, fun hd => ⟨(b2 hd).1.fq pv.1.1 pv.1.2.1 pv.1.2.2 (pv.new hd).2 q (fun a j g => by unfold stS ruS; omega) (fun a j g => by unfold ruR; omega), (b2 hd).2⟩⟩, q, fun a k g => by unfold stS ruS at g; omega⟩
theorem Lc_write (hG : Good M) (h : CHf M T zs nc bs gl gc es f dr ws dp) (pv : PVL zs bs gl es dr) (i : Int) : ∃ (M1 : Mem) (S R : Nat → Nat → Prop), D_write 2 i M = some (some (.inl (wrA es i)), M1) ∧ Good M1 ∧ CHf M1 T zs nc bs gl gc es f dr (wrT es ws i) dp ∧ Fq S R M M1 ∧ ∀ a k, S a k → 2 ≤ a ∧ a < 1269 := by
  obtain ⟨⟨⟨a1, a2, a3, a4⟩, ⟨a5, a6, a7⟩, ⟨a8, a9⟩, b1⟩, b2⟩ := h
  obtain ⟨M1, h1, h2, q0⟩ := D_write_s hG a4 pv.2.1.2.2 a7 i
  have q : Fq wcL nor M M1 := q0.fq fun a k g => g
  exact ⟨M1, _, _, h1, hG.fj q0, ⟨⟨⟨a1.fq q fun k => ⟨by unfold wcL wcS; omega, by unfold wcL wcS; omega⟩, a2.fq q (fun a k g => by unfold wcL wcS; omega) (fun k g => fun g => g), a3.fq q (fun a k g => by unfold wcL wcS; omega) (fun k g => fun g => g), a4.fq q (fun a k g => by unfold wcL wcS; omega)⟩, ⟨a5.fq q (fun a k g => by unfold wcL wcS; omega), a6.fq q ⟨by unfold wcL wcS; omega, by unfold wcL wcS; omega⟩, h2⟩, ⟨a8.fq q (fun a k g => by unfold wcL wcS; omega) ⟨fun g => g, fun g => g⟩, a9.fq q (fun a k g => by unfold wcL wcS; omega)⟩, (q.2.2 _ _ (by unfold wcL wcS; omega)).trans b1⟩, fun hd => ⟨(b2 hd).1.fq pv.1.1 pv.1.2.1 pv.1.2.2 (pv.new hd).2 q (fun a j g => by unfold wcL wcS; omega) (fun a j g => fun g => g), (b2 hd).2⟩⟩, q, fun a k g => by unfold wcL wcS at g; omega⟩
theorem Lc_text (hG : Good M) (h : CHf M T zs nc bs gl gc es f dr ws dp) (pv : PVL zs bs gl es dr) (w : Int) : ∃ (M1 : Mem) (S R : Nat → Nat → Prop), D_text 2 w M = some (some (.inl (txA dr zs nc gl gc w)), M1) ∧ Good M1 ∧ CHf M1 T zs nc bs gl gc es f dr (txT dr zs nc gl gc ws w) dp ∧ Fq S R M M1 ∧ ∀ a k, S a k → 2 ≤ a ∧ a < 1269 := by
  obtain ⟨⟨⟨a1, a2, a3, a4⟩, ⟨a5, a6, a7⟩, ⟨a8, a9⟩, b1⟩, b2⟩ := h
  obtain ⟨M1, h1, h2, q0⟩ := D_text_s hG a2 a4 a6 pv.1.1 (fun hd => ⟨by rw [(b2 hd).2.1]; exact (pv.new hd).1.2.1, by rw [(b2 hd).2.2]; exact (pv.new hd).1.2.2.2⟩) pv.2.1.2.1 a7 w
  have q : Fq wcL nor M M1 := q0.fq fun a k g => g
  exact ⟨M1, _, _, h1, hG.fj q0, ⟨⟨⟨a1.fq q fun k => ⟨by unfold wcL wcS; omega, by unfold wcL wcS; omega⟩, a2.fq q (fun a k g => by unfold wcL wcS; omega) (fun k g => fun g => g), a3.fq q (fun a k g => by unfold wcL wcS; omega) (fun k g => fun g => g), a4.fq q (fun a k g => by unfold wcL wcS; omega)⟩, ⟨a5.fq q (fun a k g => by unfold wcL wcS; omega), a6.fq q ⟨by unfold wcL wcS; omega, by unfold wcL wcS; omega⟩, h2⟩, ⟨a8.fq q (fun a k g => by unfold wcL wcS; omega) ⟨fun g => g, fun g => g⟩, a9.fq q (fun a k g => by unfold wcL wcS; omega)⟩, (q.2.2 _ _ (by unfold wcL wcS; omega)).trans b1⟩, fun hd => ⟨(b2 hd).1.fq pv.1.1 pv.1.2.1 pv.1.2.2 (pv.new hd).2 q (fun a j g => by unfold wcL wcS; omega) (fun a j g => fun g => g), (b2 hd).2⟩⟩, q, fun a k g => by unfold wcL wcS at g; omega⟩
def rsX : Nat → Nat → Prop := fun a k => rpS a k ∨ wcL a k
theorem Lc_run (hG : Good M) (h : CHf M T zs nc bs gl gc es f dr ws dp) (pv : PVL zs bs gl es dr) (w v : Int) : ((rGo w dr ∧ 0 ≤ v ∧ v ≤ 3) → ∃ (M1 : Mem) (S R : Nat → Nat → Prop), D_run 2 w v M = some (some (.inl (rAn (rEn w zs nc bs gl gc) v)), M1) ∧ Good M1 ∧ CHf M1 T zs nc bs gl gc es f dr ws ((rEn w zs nc bs gl gc).2.2.2.2 : Int) ∧ Fq S R M M1 ∧ ∀ a k, S a k → 2 ≤ a ∧ a < 1269) ∧ (¬ (rGo w dr ∧ 0 ≤ v ∧ v ≤ 3) → D_run 2 w v M = some (some (.inl (-1)), M)) := by
  obtain ⟨⟨⟨a1, a2, a3, a4⟩, ⟨a5, a6, a7⟩, ⟨a8, a9⟩, b1⟩, b2⟩ := h
  have hs := D_run_s hG a2 a3 a4 a6 a8 pv.1.1 pv.2.1.1 pv.2.1.2.1 (fun hd => ⟨by rw [(b2 hd).2.1]; exact (pv.new hd).1.2.1, by rw [(b2 hd).2.2]; exact (pv.new hd).1.2.2.2⟩) w v
  refine ⟨fun hc => ?_, hs.2⟩
  obtain ⟨M1, h1, h2, h3, q⟩ := hs.1 hc
  exact ⟨M1, _, _, h1, h3, ⟨⟨⟨a1.fq q fun k => ⟨by unfold rpS; omega, by unfold rpS; omega⟩, a2.fq q (fun a k g => by unfold rpS; omega) (fun k g => by unfold ruR; omega), a3.fq q (fun a k g => by unfold rpS; omega) (fun k g => by unfold ruR; omega), a4.fq q (fun a k g => by unfold rpS; omega)⟩, ⟨a5.fq q (fun a k g => by unfold rpS; omega), a6.fq q ⟨by unfold rpS; omega, by unfold rpS; omega⟩, a7.fq q fun k => ⟨by unfold rpS; omega, by unfold rpS; omega⟩⟩, ⟨h2.x, a9.fq q (fun a k g => by unfold rpS; omega)⟩, h2.2.2.2⟩, fun hd => ⟨(b2 hd).1.fq pv.1.1 pv.1.2.1 pv.1.2.2 (pv.new hd).2 q (fun a j g => by unfold rpS; omega) (fun a j g => by unfold ruR; omega), (b2 hd).2⟩⟩, q, fun a k g => by unfold rpS at g; omega⟩
theorem Lc_result (hG : Good M) (h : CHf M T zs nc bs gl gc es f dr ws dp) (pv : PVL zs bs gl es dr) (w : Int) : (rGo w dr → ∃ (M1 : Mem) (S R : Nat → Nat → Prop), D_result 2 w M = some (some (.inl ((wtx (rEn w zs nc bs gl gc).1 []).length)), M1) ∧ Good M1 ∧ CHf M1 T zs nc bs gl gc es f dr (wtx (rEn w zs nc bs gl gc).1 []) ((rEn w zs nc bs gl gc).2.2.2.2 : Int) ∧ Fq S R M M1 ∧ ∀ a k, S a k → 2 ≤ a ∧ a < 1269) ∧ (¬ rGo w dr → D_result 2 w M = some (some (.inl (-1)), M)) := by
  obtain ⟨⟨⟨a1, a2, a3, a4⟩, ⟨a5, a6, a7⟩, ⟨a8, a9⟩, b1⟩, b2⟩ := h
  have hs := D_result_s hG a2 a3 a4 a6 a8 a7 pv.1.1 pv.2.1.1 pv.2.1.2.1 (fun hd => ⟨by rw [(b2 hd).2.1]; exact (pv.new hd).1.2.1, by rw [(b2 hd).2.2]; exact (pv.new hd).1.2.2.2⟩) w
  refine ⟨fun hc => ?_, hs.2⟩
  obtain ⟨M1, h1, h2, h4, h3, q⟩ := hs.1 hc
  have q : Fq rsX ruR M M1 := q
  exact ⟨M1, _, _, h1, h3, ⟨⟨⟨a1.fq q fun k => ⟨by unfold rsX rpS wcL wcS; omega, by unfold rsX rpS wcL wcS; omega⟩, a2.fq q (fun a k g => by unfold rsX rpS wcL wcS; omega) (fun k g => by unfold ruR; omega), a3.fq q (fun a k g => by unfold rsX rpS wcL wcS; omega) (fun k g => by unfold ruR; omega), a4.fq q (fun a k g => by unfold rsX rpS wcL wcS; omega)⟩, ⟨a5.fq q (fun a k g => by unfold rsX rpS wcL wcS; omega), a6.fq q ⟨by unfold rsX rpS wcL wcS; omega, by unfold rsX rpS wcL wcS; omega⟩, h4⟩, ⟨h2.x, a9.fq q (fun a k g => by unfold rsX rpS wcL wcS; omega)⟩, h2.2.2.2⟩, fun hd => ⟨(b2 hd).1.fq pv.1.1 pv.1.2.1 pv.1.2.2 (pv.new hd).2 q (fun a j g => by unfold rsX rpS wcL wcS; omega) (fun a j g => by unfold ruR; omega), (b2 hd).2⟩⟩, q, fun a k g => by unfold rsX rpS wcL wcS at g; omega⟩
theorem Lc_runOf (hG : Good M) (h : CHf M T zs nc bs gl gc es f dr ws dp) (pv : PVL zs bs gl es dr) (i v : Int) : ((isY i ∧ 0 ≤ v ∧ v ≤ 3) → ∃ (M1 : Mem) (S R : Nat → Nat → Prop), D_runOf 2 i v M = some (some (.inl (rAn (run0 zs bs (es i.toNat)) v)), M1) ∧ Good M1 ∧ CHf M1 T zs nc bs gl gc es f dr ws ((run0 zs bs (es i.toNat)).2.2.2.2 : Int) ∧ Fq S R M M1 ∧ ∀ a k, S a k → 2 ≤ a ∧ a < 1269) ∧ (¬ (isY i ∧ 0 ≤ v ∧ v ≤ 3) → D_runOf 2 i v M = some (some (.inl (-1)), M)) := by
  obtain ⟨⟨⟨a1, a2, a3, a4⟩, ⟨a5, a6, a7⟩, ⟨a8, a9⟩, b1⟩, b2⟩ := h
  have hs := D_runOf_s hG a2 a3 a4 a8 pv.1.1 pv.2.1.1 pv.2.1.2.2 i v
  refine ⟨fun hc => ?_, hs.2⟩
  obtain ⟨M1, h1, h2, h3, q⟩ := hs.1 hc
  exact ⟨M1, _, _, h1, h3, ⟨⟨⟨a1.fq q fun k => ⟨by unfold rpS; omega, by unfold rpS; omega⟩, a2.fq q (fun a k g => by unfold rpS; omega) (fun k g => by unfold ruR; omega), a3.fq q (fun a k g => by unfold rpS; omega) (fun k g => by unfold ruR; omega), a4.fq q (fun a k g => by unfold rpS; omega)⟩, ⟨a5.fq q (fun a k g => by unfold rpS; omega), a6.fq q ⟨by unfold rpS; omega, by unfold rpS; omega⟩, a7.fq q fun k => ⟨by unfold rpS; omega, by unfold rpS; omega⟩⟩, ⟨h2.x, a9.fq q (fun a k g => by unfold rpS; omega)⟩, h2.2.2.2⟩, fun hd => ⟨(b2 hd).1.fq pv.1.1 pv.1.2.1 pv.1.2.2 (pv.new hd).2 q (fun a j g => by unfold rpS; omega) (fun a j g => by unfold ruR; omega), (b2 hd).2⟩⟩, q, fun a k g => by unfold rpS at g; omega⟩
theorem Lc_saved (hG : Good M) (h : CHf M T zs nc bs gl gc es f dr ws dp) (pv : PVL zs bs gl es dr) : (dr ≠ 0 → ∃ (M1 : Mem) (S R : Nat → Nat → Prop), D_saved 2 M = some (some (.inl ((svA dr (run0 zs bs gl) (run0 nc bs gc)))), M1) ∧ Good M1 ∧ CHf M1 T zs nc bs gl gc es f dr ws ((run0 nc bs gc).2.2.2.2 : Int) ∧ Fq S R M M1 ∧ ∀ a k, S a k → 2 ≤ a ∧ a < 1269) ∧ (dr = 0 → D_saved 2 M = some (some (.inl (svA dr (run0 zs bs gl) (run0 nc bs gc))), M)) := by
  obtain ⟨⟨⟨a1, a2, a3, a4⟩, ⟨a5, a6, a7⟩, ⟨a8, a9⟩, b1⟩, b2⟩ := h
  have hs := D_saved_s hG a2 a3 a4 a6 a8 pv.1.1 pv.2.1.1 pv.2.1.2.1 (fun hd => ⟨by rw [(b2 hd).2.1]; exact (pv.new hd).1.2.1, by rw [(b2 hd).2.2]; exact (pv.new hd).1.2.2.2⟩)
  refine ⟨fun hc => ?_, hs.2⟩
  obtain ⟨M1, h1, h2, h3, q⟩ := hs.1 hc
  exact ⟨M1, _, _, h1, h3, ⟨⟨⟨a1.fq q fun k => ⟨by unfold rpS; omega, by unfold rpS; omega⟩, a2.fq q (fun a k g => by unfold rpS; omega) (fun k g => by unfold ruR; omega), a3.fq q (fun a k g => by unfold rpS; omega) (fun k g => by unfold ruR; omega), a4.fq q (fun a k g => by unfold rpS; omega)⟩, ⟨a5.fq q (fun a k g => by unfold rpS; omega), a6.fq q ⟨by unfold rpS; omega, by unfold rpS; omega⟩, a7.fq q fun k => ⟨by unfold rpS; omega, by unfold rpS; omega⟩⟩, ⟨h2.x, a9.fq q (fun a k g => by unfold rpS; omega)⟩, h2.2.2.2⟩, fun hd => ⟨(b2 hd).1.fq pv.1.1 pv.1.2.1 pv.1.2.2 (pv.new hd).2 q (fun a j g => by unfold rpS; omega) (fun a j g => by unfold ruR; omega), (b2 hd).2⟩⟩, q, fun a k g => by unfold rpS at g; omega⟩
end LAWC

/-! ===== the law's loop: what is asked of a tree ===== -/
section LAWT
variable {L : Nat} {xs : Nat → Int}
theorem isd_len {zs : List Clz} {gl : List Int} (h : isd zs gl) : gl.length ≤ 40 := by
  obtain ⟨h0, -⟩ := h
  by_cases q : 40 < gl.length
  · exfalso
    unfold grw at h0
    rw [if_pos q] at h0
    unfold gst at h0
    rw [if_neg (fun h => absurd (show (-3 : Int) = 0 from h.1) (by decide))] at h0
    exact absurd (show (-3 : Int) = 0 from h0) (by decide)
  · omega
theorem OPP_tree (w : Int) : OPP L xs (fun M => D_tree 2 w M) (fun M => M_tree 1269 w M) := by
  refine OPP.of fun M hG T zs nc bs gl gc es f dr ws dp hC hR pv => ?_
  rcases pv.2.2 with hd | ⟨hd, hi⟩
  · have h1 := D_tree_0 hG (hC.1.2.1.2.1.2.trans hd) w
    have h2 := M_tree_0 hG (hR.1.2.2.1.1.2.trans hd) w
    exact ⟨_, M, M, noS, nor, noS, _, _, _, _, _, _, _, _, _, _, _, ⟨h1, h2⟩, ⟨hG, hG⟩, ⟨noS_fq, fun a k g => absurd g id⟩, ⟨Fj.refl, fun a k g => absurd g id⟩, hC, fun _ => hR, pv⟩
  · have hn : dr ≠ 0 := by omega
    obtain ⟨d1, e1, e2⟩ := hC.2 hn
    obtain ⟨⟨t1, t2⟩, t3, t4⟩ := d1.all pv.1.1 pv.1.2.1 pv.1.2.2 hi
    obtain ⟨⟨u1, u2⟩, u3⟩ := d1.has pv hn
    obtain ⟨⟨c1, c2⟩, ⟨c3, c4⟩, c5, -⟩ := d1
    obtain ⟨⟨m1, m2, m3⟩, m4, m5⟩ := hR.2 hn
    obtain ⟨P, -, p1, p2⟩ := hC.1.1.2.1.new
    have h1 := D_tree_1 (m := 0) hG t1 c1 (fun x hx => (t4 x hx).1.1) (hC.1.2.1.2.1.2.trans hd) c3 c4 c5 p2 p1 hC.1.1.2.2.2.2.1 w
    have h2 := M_tree_1 hG u1 m1 (hR.1.2.2.1.1.2.trans hd) m2 m3 m4 m5 w
    rw [e1, e2] at h1
    exact ⟨_, M, M, noS, nor, noS, _, _, _, _, _, _, _, _, _, _, _, ⟨h1, h2⟩, ⟨hG, hG⟩, ⟨noS_fq, fun a k g => absurd g id⟩, ⟨Fj.refl, fun a k g => absurd g id⟩, hC, fun _ => hR, pv⟩
/-- the reference's half stays where only the order of VARS is found -/
theorem RHf.os {M M1 : Mem} {T ws gl : List Int} {zs : List Clz} {bs : Bnd} {es : Nat → List Int} {f dr dp : Int} (h : RHf M T zs bs gl es f dr ws dp) (q : Fj oS M M1) : RHf M1 T zs bs gl es f dr ws dp := by
  obtain ⟨⟨⟨r1, r2, r3⟩, ⟨r4, r5⟩, ⟨r6, r7⟩, r8⟩, s⟩ := h
  exact ⟨⟨⟨r1.fj q (by unfold oS; omega) (fun k => by unfold oS; omega), ⟨(q.2.2 _ _ (by unfold oS; omega)).trans r2.1, r2.2.fj q fun a k g => by unfold oS; omega⟩, r3.fj q (by unfold oS; omega) (fun k => by unfold oS; omega)⟩, ⟨⟨(q.2.2 _ _ (by unfold oS; omega)).trans r4.1, fun i hi => (q.2.2 _ _ (by unfold oS; omega)).trans (r4.2 i hi)⟩, r5.fj q fun k => by unfold oS; omega⟩, ⟨⟨(q.2.2 _ _ (by unfold oS; omega)).trans r6.1, (q.2.2 _ _ (by unfold oS; omega)).trans r6.2⟩, r7.fj q (by unfold oS; omega) (fun k => by unfold oS; omega)⟩, (q.2.2 _ _ (by unfold oS; omega)).trans r8⟩, fun hd => ⟨⟨(s hd).1.1.os q, (q.2.2 _ _ (by unfold oS; omega)).trans (s hd).1.2.1, (q.2.2 _ _ (by unfold oS; omega)).trans (s hd).1.2.2⟩, ⟨(q.2.2 _ _ (by unfold oS; omega)).trans (s hd).2.1.1, (s hd).2.1.2.fj q fun a k g => by unfold oS; omega⟩, ⟨(q.2.2 _ _ (by unfold oS; omega)).trans (s hd).2.2.1, fun i hi => (q.2.2 _ _ (by unfold oS; omega)).trans ((s hd).2.2.2 i hi)⟩⟩⟩
theorem os_hi : ∀ a k, oS a k → 1269 ≤ a := fun a k g => by unfold oS at g; omega
theorem OPP_node (k w : Int) : OPP L xs (fun M => D_node 2 k w M) (fun M => M_node 1269 k w M) := by
  refine OPP.of fun M hG T zs nc bs gl gc es f dr ws dp hC hR pv => ?_
  rcases pv.2.2 with hd | ⟨hd, hi⟩
  · have h1 := D_node_0 hG (hC.1.2.1.2.1.2.trans hd) k w
    have h2 := M_node_0 hG (hR.1.2.2.1.1.2.trans hd) k w
    exact ⟨_, M, M, noS, nor, noS, _, _, _, _, _, _, _, _, _, _, _, ⟨h1, h2⟩, ⟨hG, hG⟩, ⟨noS_fq, fun a k g => absurd g id⟩, ⟨Fj.refl, fun a k g => absurd g id⟩, hC, fun _ => hR, pv⟩
  · have hn : dr ≠ 0 := by omega
    obtain ⟨d1, e1, e2⟩ := hC.2 hn
    obtain ⟨⟨t1, t2⟩, t3, t4⟩ := d1.all pv.1.1 pv.1.2.1 pv.1.2.2 hi
    obtain ⟨⟨u1, u2⟩, u3⟩ := d1.has pv hn
    obtain ⟨⟨c1, c2⟩, ⟨c3, c4⟩, c5, -⟩ := d1
    obtain ⟨⟨m1, m2, m3⟩, m4, m5⟩ := hR.2 hn
    have h1 := D_node_1 hG t1 c1 (by rw [t2]; exact c2) (fun x hx => (t4 x hx).1) (hC.1.2.1.2.1.2.trans hd) k w
    obtain ⟨M2, h2, g2, q2⟩ := M_node_1 hG u1 u2 m1 u3 (hR.1.2.2.1.1.2.trans hd) k w
    exact ⟨_, M, M2, noS, nor, oS, _, _, _, _, _, _, _, _, _, _, _, ⟨h1, h2⟩, ⟨hG, g2⟩, ⟨noS_fq, fun a k g => absurd g id⟩, ⟨q2, os_hi⟩, hC, fun _ => hR.os q2, pv⟩
theorem OPP_ranked (p w : Int) : OPP L xs (fun M => D_ranked 2 p w M) (fun M => M_ranked 1269 p w M) := by
  refine OPP.of fun M hG T zs nc bs gl gc es f dr ws dp hC hR pv => ?_
  rcases pv.2.2 with hd | ⟨hd, hi⟩
  · have h1 := D_ranked_0 hG (hC.1.2.1.2.1.2.trans hd) p w
    have h2 := M_ranked_0 hG (hR.1.2.2.1.1.2.trans hd) p w
    exact ⟨_, M, M, noS, nor, noS, _, _, _, _, _, _, _, _, _, _, _, ⟨h1, h2⟩, ⟨hG, hG⟩, ⟨noS_fq, fun a k g => absurd g id⟩, ⟨Fj.refl, fun a k g => absurd g id⟩, hC, fun _ => hR, pv⟩
  · have hn : dr ≠ 0 := by omega
    obtain ⟨d1, e1, e2⟩ := hC.2 hn
    obtain ⟨⟨t1, t2⟩, t3, t4⟩ := d1.all pv.1.1 pv.1.2.1 pv.1.2.2 hi
    obtain ⟨⟨u1, u2⟩, u3⟩ := d1.has pv hn
    obtain ⟨⟨c1, c2⟩, ⟨c3, c4⟩, c5, -⟩ := d1
    obtain ⟨⟨m1, m2, m3⟩, m4, m5⟩ := hR.2 hn
    have h1 := D_ranked_1 hG t1 c1 (hC.1.2.1.2.1.2.trans hd) p w
    obtain ⟨M2, h2, g2, q2⟩ := M_ranked_1 hG u1 u2 m1 (hR.1.2.2.1.1.2.trans hd) p w
    exact ⟨_, M, M2, noS, nor, oS, _, _, _, _, _, _, _, _, _, _, _, ⟨h1, h2⟩, ⟨hG, g2⟩, ⟨noS_fq, fun a k g => absurd g id⟩, ⟨q2, os_hi⟩, hC, fun _ => hR.os q2, pv⟩
def wnS : Nat → Nat → Prop := fun a j => wcL a j ∨ a = 771 ∨ a = 772
theorem OPP_writeNode (k : Int) : OPP L xs (fun M => D_writeNode 2 k M) (fun M => M_writeNode 1269 k M) := by
  refine OPP.of fun M hG T zs nc bs gl gc es f dr ws dp hC hR pv => ?_
  rcases pv.2.2 with hd | ⟨hd, hi⟩
  · have h1 := D_wnode_0 hG (hC.1.2.1.2.1.2.trans hd) k
    have h2 := M_wnode_0 hG (hR.1.2.2.1.1.2.trans hd) k
    exact ⟨_, M, M, noS, nor, noS, _, _, _, _, _, _, _, _, _, _, _, ⟨h1, h2⟩, ⟨hG, hG⟩, ⟨noS_fq, fun a k g => absurd g id⟩, ⟨Fj.refl, fun a k g => absurd g id⟩, hC, fun _ => hR, pv⟩
  · have hn : dr ≠ 0 := by omega
    obtain ⟨d1, e1, e2⟩ := hC.2 hn
    obtain ⟨⟨t1, t2⟩, t3, t4⟩ := d1.all pv.1.1 pv.1.2.1 pv.1.2.2 hi
    obtain ⟨⟨u1, u2⟩, u3⟩ := d1.has pv hn
    have c1 := d1.1.1
    obtain ⟨⟨⟨a1, a2, a3, a4⟩, ⟨a5, a6, a7⟩, ⟨a8, a9⟩, b1⟩, b2⟩ := hC
    obtain ⟨M1, h1, h3, h4, g1, q0⟩ := D_wnode_1 hG t1 c1 t3 a5.1 a7 (a6.2.trans hd) k
    have q : Fq wnS nor M M1 := q0.fq fun a k g => g
    have s1 : ∀ a k, wnS a k → 2 ≤ a ∧ a < 1269 := fun a k g => by unfold wnS wcL wcS at g; omega
    have hR1 := hR.lo q fun a k g => (s1 a k g).2
    obtain ⟨⟨m1, m2, m3⟩, m4, m5⟩ := hR1.2 hn
    obtain ⟨M2, h2, h5, g2, q2⟩ := M_wnode_1 g1 u1 u2 m1 hR1.1.2.2.1.2 (hR1.1.2.2.1.1.2.trans hd) k
    have s2 : ∀ a k, woS a k → 1269 ≤ a := fun a k g => by unfold woS wmL wmS oS at g; omega
    have hC1 : CHf M1 T zs nc bs gl gc es f dr (wnT (tof zs gl).1 (F2of (tof zs gl).2.1) ws k) dp := ⟨⟨⟨a1.fq q fun k => ⟨by unfold wnS wcL wcS; omega, by unfold wnS wcL wcS; omega⟩, a2.fq q (fun a k g => by unfold wnS wcL wcS; omega) (fun k g => fun g => g), a3.fq q (fun a k g => by unfold wnS wcL wcS; omega) (fun k g => fun g => g), a4.fq q (fun a k g => by unfold wnS wcL wcS; omega)⟩, ⟨⟨h4, by obtain ⟨ys, h⟩ := a5.2; exact ⟨ys, h.ext fun a k g => q.2.2 a k (by unfold wnS wcL wcS; omega)⟩⟩, a6.fq q ⟨by unfold wnS wcL wcS; omega, by unfold wnS wcL wcS; omega⟩, h3⟩, ⟨a8.fq q (fun a k g => by unfold wnS wcL wcS; omega) ⟨fun g => g, fun g => g⟩, a9.fq q (fun a k g => by unfold wnS wcL wcS; omega)⟩, (q.2.2 _ _ (by unfold wnS wcL wcS; omega)).trans b1⟩, fun hd => ⟨(b2 hd).1.fq pv.1.1 pv.1.2.1 pv.1.2.2 (pv.new hd).2 q (fun a j g => by unfold wnS wcL wcS; omega) (fun a j g => fun g => g), (b2 hd).2⟩⟩
    have hR2 : RHf M2 T zs bs gl es f dr (wnT (tof zs gl).1 (F2of (tof zs gl).2.1) ws k) dp := by
      obtain ⟨⟨⟨r1, r2, r3⟩, ⟨r4, r5⟩, ⟨r6, r7⟩, r8⟩, s⟩ := hR1
      have q := q2
      exact ⟨⟨⟨r1.fj q (by unfold woS wmL wmS oS; omega) (fun k => by unfold woS wmL wmS oS; omega), ⟨(q.2.2 _ _ (by unfold woS wmL wmS oS; omega)).trans r2.1, r2.2.fj q fun a k g => by unfold woS wmL wmS oS; omega⟩, r3.fj q (by unfold woS wmL wmS oS; omega) (fun k => by unfold woS wmL wmS oS; omega)⟩, ⟨⟨(q.2.2 _ _ (by unfold woS wmL wmS oS; omega)).trans r4.1, fun i hi => (q.2.2 _ _ (by unfold woS wmL wmS oS; omega)).trans (r4.2 i hi)⟩, r5.fj q fun k => by unfold woS wmL wmS oS; omega⟩, ⟨⟨(q.2.2 _ _ (by unfold woS wmL wmS oS; omega)).trans r6.1, (q.2.2 _ _ (by unfold woS wmL wmS oS; omega)).trans r6.2⟩, h5⟩, (q.2.2 _ _ (by unfold woS wmL wmS oS; omega)).trans r8⟩, fun hd => ⟨⟨(s hd).1.1.fjo q fun a j g => by unfold rzS at g; unfold woS wmL wmS oS; omega, (q.2.2 _ _ (by unfold woS wmL wmS oS; omega)).trans (s hd).1.2.1, (q.2.2 _ _ (by unfold woS wmL wmS oS; omega)).trans (s hd).1.2.2⟩, ⟨(q.2.2 _ _ (by unfold woS wmL wmS oS; omega)).trans (s hd).2.1.1, (s hd).2.1.2.fj q fun a k g => by unfold woS wmL wmS oS; omega⟩, ⟨(q.2.2 _ _ (by unfold woS wmL wmS oS; omega)).trans (s hd).2.2.1, fun i hi => (q.2.2 _ _ (by unfold woS wmL wmS oS; omega)).trans ((s hd).2.2.2 i hi)⟩⟩⟩
    exact ⟨_, M1, M2, wnS, nor, woS, _, _, _, _, _, _, _, _, _, _, _, ⟨h1, h2⟩, ⟨g1, g2⟩, ⟨q, s1⟩, ⟨q2, s2⟩, hC1, fun _ => hR2, pv⟩
end LAWT

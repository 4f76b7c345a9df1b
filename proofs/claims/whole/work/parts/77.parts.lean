/-! ===== local, row, weigh, shift ===== -/
/-- the places of a part in the reference's rows -/
def Cq (q : Int) (k : Nat) (i : Int) : Prop := (k = 8 ∧ i = q) ∨ (k = 9 ∧ 3 * q ≤ i ∧ i < 3 * q + 3) ∨ (k = 10 ∧ i = q) ∨ (k = 11 ∧ 4 * q ≤ i ∧ i < 4 * q + 4) ∨ (k = 12 ∧ 4 * q ≤ i ∧ i < 4 * q + 4) ∨ (k = 13 ∧ i = q) ∨ (k = 14 ∧ 6 * q ≤ i ∧ i < 6 * q + 6) ∨ (k = 15 ∧ 24 * q ≤ i ∧ i < 24 * q + 24) ∨ (k = 16 ∧ 36 * q ≤ i ∧ i < 36 * q + 36)
theorem MPa.off {σ σ' : Mem} {q : Int} (h : MPa σ q) (hj : σ 3 q 0 0 ≤ 3) (e3 : ∀ k : Nat, k < 10 → ∀ i, σ' 3 q k i = σ 3 q k i) (e6 : ∀ k i, Cq q k i → σ' 6 0 k i = σ 6 0 k i) (e17 : ∀ f r, 0 ≤ f → f < 4 → 0 ≤ r → r < 6 → σ' 6 0 17 (24 * f + 6 * q + r) = σ 6 0 17 (24 * f + 6 * q + r)) : MPa σ' q := by
  obtain ⟨hA, hB, hC, hD, hE, hF⟩ := h
  refine ⟨?_, fun j j0 j1 => ?_, ?_, fun i i0 i1 => ?_, ?_, fun r r0 r1 => ?_⟩
  · rw [e6 8 _ (by unfold Cq; omega), e3 0 (by omega)]; exact hA
  · rw [e3 0 (by omega)] at j1
    rw [e6 9 _ (by unfold Cq; omega), e3 1 (by omega)]; exact hB j j0 j1
  · rw [e6 10 _ (by unfold Cq; omega), e3 3 (by omega)]; exact hC
  · rw [e6 11 _ (by unfold Cq; omega), e6 12 _ (by unfold Cq; omega), e3 4 (by omega), e3 5 (by omega)]; exact hD i i0 i1
  · rw [e6 13 _ (by unfold Cq; omega), e3 6 (by omega)]; exact hE
  · obtain ⟨f1, f2, f3, f4⟩ := hF r r0 r1
    refine ⟨?_, fun i i0 i1 => ?_, fun c c0 c1 => ?_, fun f f0 f1' => ?_⟩
    · rw [e6 14 _ (by unfold Cq; omega), e3 7 (by omega)]; exact f1
    · rw [e6 15 _ (by unfold Cq; omega), e3 8 (by omega)]; exact f2 i i0 i1
    · rw [e6 16 _ (by unfold Cq; omega), e3 8 (by omega)]; exact f3 c c0 c1
    · rw [e17 f r f0 f1' r0 r1, e3 9 (by omega)]; exact f4 f f0 f1'
set_option maxHeartbeats 1000000 in
theorem op_local {σ : Mem} {N p t x : Int} {Q : Int → Mem → Prop} (hI : Inv σ N) (hN : 0 ≤ N ∧ N ≤ 1000) (hp : InR p) (ht : InR t) (hx : InR x) (hQ : ∀ r1 σ1, After (Mo_local p t x) (N + 1) r1 σ1 → Q r1 σ1) : Sr_local p t x σ Q := by
  obtain ⟨s, hs⟩ := hI
  obtain ⟨a1, a2, a3, a4, a5, a6, a7⟩ := id hs
  have c3 := a4.2.2.1
  have m2 := a5.2.1
  have m3 := a5.2.2.1
  obtain ⟨d0, d1, d2, d3, d5, d7, dP⟩ := id a3
  have hpp := a1.2.2.1
  have hpb : ∀ c ∈ s.1, InR c.1 := fun c hc => by have := (m3 c hc).1; exact ⟨by omega, by omega⟩
  unfold Sr_local Sr_local_30
  refine w_Sr_knowsPart hp hpp (fun b0 b1 => ⟨⟨by omega, by omega⟩, fun _ => ?_, fun y => absurd y (by omega)⟩) (fun z => ⟨⟨by omega, by omega⟩, fun y => absurd rfl y, fun _ => hQ (-1) σ ⟨⟨by omega, by omega⟩, fun Q2 h2 => ?_⟩⟩)
  rotate_left
  · unfold Mo_local
    exact w_Mo_noPart hp d7 hpp (fun _ => ⟨⟨by omega, by omega⟩, fun y => absurd y (by omega), fun _ => h2 σ hs.here⟩) (fun y0 y1 => absurd (⟨y0, y1⟩ : 0 ≤ p ∧ p < σ 5 0 3 0) z)
  have way : ∀ (μ : Mem) (Q2 : Int → Mem → Prop), μ 6 0 7 0 = σ 6 0 7 0 → 1 ≤ t → t ≤ 3 → 0 ≤ x → x ≤ 50 → (0 ≤ p ∧ p < 4 ∧ InR (μ 6 0 10 p) ∧ ((μ 6 0 10 p ≠ 4 → 0 ≤ p ∧ p < 4 ∧ 0 ≤ 4 * p + μ 6 0 10 p ∧ 4 * p + μ 6 0 10 p < 16 ∧ ∀ σ11 : Mem, σ11 = up μ 6 0 11 (4 * p + μ 6 0 10 p) t → 0 ≤ p ∧ p < 4 ∧ 0 ≤ 4 * p + σ11 6 0 10 p ∧ 4 * p + σ11 6 0 10 p < 16 ∧ ∀ σ13 : Mem, σ13 = up σ11 6 0 12 (4 * p + σ11 6 0 10 p) x → 0 ≤ p ∧ p < 4 ∧ 0 ≤ p ∧ p < 4 ∧ ∀ σ15 : Mem, σ15 = up σ13 6 0 10 p (σ13 6 0 10 p + 1) → Mo_without p σ15 (fun σ16 => 0 ≤ p ∧ p < 4 ∧ Q2 (σ16 6 0 10 p - 1) σ16)) ∧ (μ 6 0 10 p = 4 → Q2 (-3) μ))) → Mo_local p t x μ Q2 := by
    intro μ Q2 e7 t0 t1 x0 x1 hin
    unfold Mo_local
    refine w_Mo_noPart hp (by rw [e7]; exact d7) hpp (fun y => absurd (⟨b0, b1⟩ : 0 ≤ p ∧ p < σ 5 0 3 0) y) (fun _ _ => ⟨⟨by omega, by omega⟩, fun _ => ?_, fun y => absurd rfl y⟩)
    refine w_Mo_beyond ht ⟨by omega, by omega⟩ ⟨by omega, by omega⟩ (fun y => absurd y (by omega)) (fun _ _ => ⟨⟨by omega, by omega⟩, fun y => absurd rfl y, fun _ => ?_⟩)
    exact w_Mo_beyond hx ⟨by omega, by omega⟩ ⟨by omega, by omega⟩ (fun y => absurd y (by omega)) (fun _ _ => ⟨⟨by omega, by omega⟩, fun _ => hin, fun y => absurd rfl y⟩)
  have no2 : ¬ (1 ≤ t ∧ t ≤ 3 ∧ 0 ≤ x ∧ x ≤ 50) → Q (-2) σ := by
    intro z
    refine hQ (-2) σ ⟨⟨by omega, by omega⟩, fun Q2 h2 => ?_⟩
    unfold Mo_local Mo_local_29
    refine w_Mo_noPart hp d7 hpp (fun y => absurd (⟨b0, b1⟩ : 0 ≤ p ∧ p < σ 5 0 3 0) y) (fun _ _ => ⟨⟨by omega, by omega⟩, fun _ => ?_, fun y => absurd rfl y⟩)
    refine w_Mo_beyond ht ⟨by omega, by omega⟩ ⟨by omega, by omega⟩ (fun _ => ⟨⟨by omega, by omega⟩, fun _ => h2 σ hs.here, fun y => absurd y (by omega)⟩) (fun y0 y1 => ⟨⟨by omega, by omega⟩, fun y => absurd rfl y, fun _ => ?_⟩)
    exact w_Mo_beyond hx ⟨by omega, by omega⟩ ⟨by omega, by omega⟩ (fun _ => ⟨⟨by omega, by omega⟩, fun y => absurd y (by omega), fun _ => h2 σ hs.here⟩) (fun y2 y3 => absurd (⟨y0, y1, y2, y3⟩ : 1 ≤ t ∧ t ≤ 3 ∧ 0 ≤ x ∧ x ≤ 50) z)
  obtain ⟨e1, e2, e3, e4⟩ := a1.2.2.2 p b0 (by omega)
  have hMp := dP p b0 (by omega)
  have bl := e1.2.1
  refine ⟨ht, fun z => no2 (by omega), fun z1 => ⟨ht, fun z => no2 (by omega), fun z2 => ⟨hx, fun z => no2 (by omega), fun z3 => ⟨hx, fun z4 => ⟨by omega, by omega, ⟨by omega, by omega⟩, fun z5 => ⟨by omega, by omega, fun σ13 f13 => ?_⟩, fun z5 => hQ (-3) σ ⟨⟨by omega, by omega⟩, fun Q2 h2 => way σ Q2 rfl z1 z2 z3 z4 ?_⟩⟩, fun z => no2 (by omega)⟩⟩⟩⟩
  · have f130 : σ13 3 p 3 0 = σ 3 p 3 0 := by rw [f13, up_ne (by omega)]
    rw [f130]
    refine ⟨by omega, by omega, fun σ14 f14 σ15 f15 => ?_⟩
    have f140 : σ14 3 p 3 0 = σ 3 p 3 0 := by rw [f14, up_ne (by omega)]; exact f130
    rw [f140] at f15
    have hE : ∀ c q k i, ¬ (c = 3 ∧ q = p ∧ (k = 3 ∨ k = 4 ∨ k = 5)) → σ15 c q k i = σ c q k i := fun c q k i y => by rw [f15, up_ne (by omega), f14, up_ne (by omega), f13, up_ne (by omega)]
    refine w_Sr_retell b0 (by omega) (c3.eo (fun k i => hE _ _ _ _ (by omega))) hpb (fun σ9 g9 hL9 z10 k2 k3 k4 k5 => ?_)
    have q3 : σ9 3 p 3 0 = σ 3 p 3 0 + 1 := by rw [g9 _ _ _ _ (by omega) (by omega) (by omega), f15, up_at]
    have q4 : σ9 3 p 4 (σ 3 p 3 0) = t := by rw [g9 _ _ _ _ (by omega) (by omega) (by omega), f15, up_ne (by omega), f14, up_ne (by omega), f13, up_at]
    have q5 : σ9 3 p 5 (σ 3 p 3 0) = x := by rw [g9 _ _ _ _ (by omega) (by omega) (by omega), f15, up_ne (by omega), f14, up_at]
    have q45 : ∀ k i, k = 4 ∨ k = 5 → i ≠ σ 3 p 3 0 → σ9 3 p k i = σ 3 p k i := fun k i hk hi => by rw [g9 _ _ _ _ (by omega) (by omega) (by omega), f15, up_ne (by omega), f14, up_ne (by omega), f13, up_ne (by omega)]
    have q6 : ∀ k i, σ9 6 0 k i = σ 6 0 k i := fun k i => by rw [g9 _ _ _ _ (by omega) (by omega) (by omega)]; exact hE _ _ _ _ (by omega)
    have er : σ 3 p 3 0 + 1 - 1 = σ 3 p 3 0 := by omega
    rw [q3, er]
    refine hQ _ σ9 ⟨⟨by omega, by omega⟩, fun Q2 h2 => way σ9 Q2 (q6 7 0) z1 z2 z3 z4 ?_⟩
    rw [q6, hMp.2.2.1]
    refine ⟨by omega, by omega, ⟨by omega, by omega⟩, fun _ => ⟨by omega, by omega, by omega, by omega, fun σ11 e11 => ?_⟩, fun y => absurd y (by omega)⟩
    have e110 : σ11 6 0 10 p = σ 3 p 3 0 := by rw [e11, up_ne (by omega), q6]; exact hMp.2.2.1
    rw [e110]
    refine ⟨by omega, by omega, by omega, by omega, fun σ13' e13 => ⟨by omega, by omega, by omega, by omega, fun σ15' e15 => ?_⟩⟩
    have e130 : σ13' 6 0 10 p = σ 3 p 3 0 := by rw [e13, up_ne (by omega)]; exact e110
    rw [e130] at e15
    have hE6 : ∀ c q k i, ¬ (c = 6 ∧ q = 0 ∧ k = 10 ∧ i = p) → ¬ (c = 6 ∧ q = 0 ∧ (k = 11 ∨ k = 12) ∧ i = 4 * p + σ 3 p 3 0) → σ15' c q k i = σ9 c q k i := fun c q k i y y2 => by rw [e15, up_ne (by omega), e13, up_ne (by omega), e11, up_ne (by omega)]
    refine w_Mo_without ⟨by omega, by omega⟩ (L := s.1) (m2.eo (fun k hk hk2 i => by rw [hE6 _ _ _ _ (by omega) (by omega)]; exact q6 k i)) hpb (fun σ' g' hM' r2 r3 r4 r5 => ⟨by omega, by omega, ?_⟩)
    have w10 : σ' 6 0 10 p = σ 3 p 3 0 + 1 := by rw [g' _ _ _ _ (by omega) (by omega), e15, up_at]
    have w11 : σ' 6 0 11 (4 * p + σ 3 p 3 0) = t := by rw [g' _ _ _ _ (by omega) (by omega), e15, up_ne (by omega), e13, up_ne (by omega), e11, up_at]
    have w12 : σ' 6 0 12 (4 * p + σ 3 p 3 0) = x := by rw [g' _ _ _ _ (by omega) (by omega), e15, up_ne (by omega), e13, up_at]
    have g6 : ∀ k i, k < 18 ∨ 31 ≤ k → ¬ (k = 10 ∧ i = p) → ¬ ((k = 11 ∨ k = 12) ∧ i = 4 * p + σ 3 p 3 0) → σ' 6 0 k i = σ 6 0 k i := fun k i y0 y1 y2 => by rw [g' _ _ _ _ (by omega) (by omega), hE6 _ _ _ _ (by omega) (by omega)]; exact q6 k i
    have gc : ∀ c q k i, ¬ (c = 6 ∧ q = 0) → σ' c q k i = σ9 c q k i := fun c q k i y => by rw [g' _ _ _ _ (by omega) (by omega)]; exact hE6 _ _ _ _ (by omega) (by omega)
    have gn : ∀ c q k i, ¬ (c = 6 ∧ q = 0) → ¬ (c = 1 ∧ q = 0) → ¬ (c = 4 ∧ q = 0 ∧ k < 4 ∧ i = 0) → ¬ (c = 3 ∧ q = p ∧ (k = 3 ∨ k = 4 ∨ k = 5 ∨ k = 10 ∨ k = 11)) → σ' c q k i = σ c q k i := fun c q k i y1 y2 y3 y4 => by rw [gc _ _ _ _ y1, g9 _ _ _ _ y2 y3 (by omega)]; exact hE _ _ _ _ (by omega)
    rw [w10, er]
    have p3 : ∀ k i, k < 10 → k ≠ 3 → k ≠ 4 → k ≠ 5 → σ' 3 p k i = σ 3 p k i := fun k i y1 y2 y3 y4 => gn _ _ _ _ (by omega) (by omega) (by omega) (by omega)
    have w3 : σ' 3 p 3 0 = σ 3 p 3 0 + 1 := by rw [gc _ _ _ _ (by omega)]; exact q3
    have w45 : ∀ i, σ' 3 p 4 i = (if i = σ 3 p 3 0 then t else σ 3 p 4 i) ∧ σ' 3 p 5 i = (if i = σ 3 p 3 0 then x else σ 3 p 5 i) := fun i => by
      rw [gc _ _ _ _ (by omega), gc _ _ _ _ (by omega)]
      by_cases q : i = σ 3 p 3 0
      · rw [if_pos q, if_pos q, q]; exact ⟨q4, q5⟩
      · rw [if_neg q, if_neg q]; exact ⟨q45 4 i (by omega) q, q45 5 i (by omega) q⟩
    refine h2 σ' (Inv.mk2 (p := p) hs hN.1 b0 b1 (fun c q k i y1 y2 y3 y4 => gn _ _ _ _ y1 y3 y2 (by omega)) (fun k i hk => g6 k i (by omega) (by omega) (by omega)) ?_ ?_ (fun j j0 j1 => ?_) (fun q x0 x1 => ?_) (fun i i0 i1 => by rw [gc _ _ _ _ (by omega), gc _ _ _ _ (by omega)]; exact z10 i i0 i1) (hL9.eo (fun k i => gc _ _ _ _ (by omega))) hM' ⟨by rw [gc _ _ _ _ (by omega)]; exact k2, by rw [gc _ _ _ _ (by omega)]; exact k3, by rw [gc _ _ _ _ (by omega)]; exact k4, by rw [gc _ _ _ _ (by omega)]; exact k5⟩ ⟨r2, r3, r4, r5⟩)
    · obtain ⟨t1, t2, t3, t4, t5, t6, t7, t8⟩ := e1
      refine ⟨by rw [p3 0 _ (by omega) (by omega) (by omega) (by omega)]; exact t1, by omega, by rw [p3 6 _ (by omega) (by omega) (by omega) (by omega)]; exact t3, fun j j0 j1 => ?_, fun i i0 i1 => ?_, fun r r0 r1 => by rw [p3 7 _ (by omega) (by omega) (by omega) (by omega)]; exact t6 r r0 r1, fun i i0 i1 => by rw [p3 8 _ (by omega) (by omega) (by omega) (by omega)]; exact t7 i i0 i1, fun i i0 i1 => by rw [p3 9 _ (by omega) (by omega) (by omega) (by omega)]; exact t8 i i0 i1⟩
      · rw [p3 0 _ (by omega) (by omega) (by omega) (by omega)] at j1
        rw [p3 1 _ (by omega) (by omega) (by omega) (by omega), p3 2 _ (by omega) (by omega) (by omega) (by omega)]
        exact t4 j j0 j1
      · rw [(w45 i).1, (w45 i).2]
        by_cases q : i = σ 3 p 3 0
        · rw [if_pos q, if_pos q]; omega
        · rw [if_neg q, if_neg q]; exact t5 i i0 (by omega)
    · exact e4.of (by rw [gn 0 _ _ _ (by omega) (by omega) (by omega) (by omega)]; exact Int.le_refl _) (fun k j hk => p3 k j (by omega) (by omega) (by omega) (by omega))
    · rw [p3 0 _ (by omega) (by omega) (by omega) (by omega)] at j1
      rw [p3 2 _ (by omega) (by omega) (by omega) (by omega), p3 1 _ (by omega) (by omega) (by omega) (by omega), gn 0 _ _ _ (by omega) (by omega) (by omega) (by omega)]
      exact a2 p b0 (by omega) j j0 j1
    · by_cases q' : q = p
      · subst q'
        obtain ⟨hA, hB, hC, hD, hE', hF⟩ := hMp
        refine ⟨?_, fun j j0 j1 => ?_, by rw [w10, w3], fun i i0 i1 => ?_, ?_, fun r r0 r1 => ?_⟩
        · rw [g6 8 _ (by omega) (by omega) (by omega), p3 0 _ (by omega) (by omega) (by omega) (by omega)]; exact hA
        · rw [p3 0 _ (by omega) (by omega) (by omega) (by omega)] at j1
          rw [g6 9 _ (by omega) (by omega) (by omega), p3 1 _ (by omega) (by omega) (by omega) (by omega)]; exact hB j j0 j1
        · rw [(w45 i).1, (w45 i).2]
          by_cases y : i = σ 3 q 3 0
          · rw [if_pos y, if_pos y, y]; exact ⟨w11, w12⟩
          · rw [if_neg y, if_neg y, g6 11 _ (by omega) (by omega) (by omega), g6 12 _ (by omega) (by omega) (by omega)]; exact hD i i0 i1
        · rw [g6 13 _ (by omega) (by omega) (by omega), p3 6 _ (by omega) (by omega) (by omega) (by omega)]; exact hE'
        · obtain ⟨f1, f2, f3, f4⟩ := hF r r0 r1
          refine ⟨?_, fun i i0 i1 => ?_, fun c c0 c1 => ?_, fun f f0 f1' => ?_⟩
          · rw [g6 14 _ (by omega) (by omega) (by omega), p3 7 _ (by omega) (by omega) (by omega) (by omega)]; exact f1
          · rw [g6 15 _ (by omega) (by omega) (by omega), p3 8 _ (by omega) (by omega) (by omega) (by omega)]; exact f2 i i0 i1
          · rw [g6 16 _ (by omega) (by omega) (by omega), p3 8 _ (by omega) (by omega) (by omega) (by omega)]; exact f3 c c0 c1
          · rw [g6 17 _ (by omega) (by omega) (by omega), p3 9 _ (by omega) (by omega) (by omega) (by omega)]; exact f4 f f0 f1'
      · exact (dP q x0 x1).off (a1.2.2.2 q x0 x1).1.1.2 (fun k hk i => gn _ _ _ _ (by omega) (by omega) (by omega) (by omega)) (fun k i hc => g6 k i (by unfold Cq at hc; omega) (by unfold Cq at hc; omega) (by unfold Cq at hc; omega)) (fun f r f0 f1 r0 r1 => g6 17 _ (by omega) (by omega) (by omega))
  · rw [hMp.2.2.1]
    exact ⟨by omega, by omega, ⟨by omega, by omega⟩, fun y => absurd y (by omega), fun _ => h2 σ hs.here⟩

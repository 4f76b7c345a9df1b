set_option maxHeartbeats 1000000 in
theorem op_row {σ : Mem} {N p t : Int} {Q : Int → Mem → Prop} (hI : Inv σ N) (hN : 0 ≤ N ∧ N ≤ 1000) (hp : InR p) (ht : InR t) (hQ : ∀ r1 σ1, After (Mo_row p t) (N + 1) r1 σ1 → Q r1 σ1) : Sr_row p t σ Q := by
  obtain ⟨s, hs⟩ := hI
  obtain ⟨a1, a2, a3, a4, a5, a6, a7⟩ := id hs
  have c3 := a4.2.2.1
  have m2 := a5.2.1
  have m3 := a5.2.2.1
  obtain ⟨d0, d1, d2, d3, d5, d7, dP⟩ := id a3
  have hpp := a1.2.2.1
  have hpb : ∀ c ∈ s.1, InR c.1 := fun c hc => by have := (m3 c hc).1; exact ⟨by omega, by omega⟩
  unfold Sr_row
  refine w_Sr_knowsPart hp hpp (fun b0 b1 => ⟨⟨by omega, by omega⟩, fun _ => ?_, fun y => absurd y (by omega)⟩) (fun z => ⟨⟨by omega, by omega⟩, fun y => absurd rfl y, fun _ => hQ (-1) σ ⟨⟨by omega, by omega⟩, fun Q2 h2 => ?_⟩⟩)
  rotate_left
  · unfold Mo_row
    exact w_Mo_noPart hp d7 hpp (fun _ => ⟨⟨by omega, by omega⟩, fun y => absurd y (by omega), fun _ => h2 σ hs.here⟩) (fun y0 y1 => absurd (⟨y0, y1⟩ : 0 ≤ p ∧ p < σ 5 0 3 0) z)
  obtain ⟨e1, e2, e3, e4⟩ := a1.2.2.2 p b0 (by omega)
  have hMp := dP p b0 (by omega)
  have bl := e1.2.2.1
  have e13 := hMp.2.2.2.2.1
  refine w_Sr_isWithin ht (by omega) (fun z1 z2 => ⟨⟨by omega, by omega⟩, fun _ => ⟨by omega, by omega, ⟨by omega, by omega⟩, fun z5 => ⟨by omega, by omega, fun σ8 f8 σ15 f15 => ?_⟩, fun z5 => hQ (-3) σ ⟨⟨by omega, by omega⟩, fun Q2 h2 => ?_⟩⟩, fun y => absurd y (by omega)⟩) (fun z => ⟨⟨by omega, by omega⟩, fun y => absurd rfl y, fun _ => hQ (-2) σ ⟨⟨by omega, by omega⟩, fun Q2 h2 => ?_⟩⟩)
  · have f80 : σ8 3 p 6 0 = σ 3 p 6 0 := by rw [f8, up_ne (by omega)]
    rw [f80] at f15
    have hE : ∀ c q k i, ¬ (c = 3 ∧ q = p ∧ (k = 6 ∨ k = 7)) → σ15 c q k i = σ c q k i := fun c q k i y => by rw [f15, up_ne (by omega), f8, up_ne (by omega)]
    refine w_Sr_retell b0 (by omega) (c3.eo (fun k i => hE _ _ _ _ (by omega))) hpb (fun σ9 g9 hL9 z10 k2 k3 k4 k5 => ?_)
    have q3 : σ9 3 p 6 0 = σ 3 p 6 0 + 1 := by rw [g9 _ _ _ _ (by omega) (by omega) (by omega), f15, up_at]
    have q4 : σ9 3 p 7 (σ 3 p 6 0) = t := by rw [g9 _ _ _ _ (by omega) (by omega) (by omega), f15, up_ne (by omega), f8, up_at]
    have q45 : ∀ i, i ≠ σ 3 p 6 0 → σ9 3 p 7 i = σ 3 p 7 i := fun i hi => by rw [g9 _ _ _ _ (by omega) (by omega) (by omega), f15, up_ne (by omega), f8, up_ne (by omega)]
    have q6 : ∀ k i, σ9 6 0 k i = σ 6 0 k i := fun k i => by rw [g9 _ _ _ _ (by omega) (by omega) (by omega)]; exact hE _ _ _ _ (by omega)
    have er : σ 3 p 6 0 + 1 - 1 = σ 3 p 6 0 := by omega
    rw [q3, er]
    refine hQ _ σ9 ⟨⟨by omega, by omega⟩, fun Q2 h2 => ?_⟩
    unfold Mo_row
    refine w_Mo_noPart hp (by rw [q6]; exact d7) hpp (fun y => absurd (⟨b0, b1⟩ : 0 ≤ p ∧ p < σ 5 0 3 0) y) (fun _ _ => ⟨⟨by omega, by omega⟩, fun _ => ?_, fun y => absurd rfl y⟩)
    refine w_Mo_beyond ht ⟨by omega, by omega⟩ ⟨by omega, by omega⟩ (fun y => absurd y (by omega)) (fun _ _ => ⟨⟨by omega, by omega⟩, fun _ => ?_, fun y => absurd rfl y⟩)
    rw [q6, e13]
    refine ⟨by omega, by omega, ⟨by omega, by omega⟩, fun _ => ⟨by omega, by omega, by omega, by omega, fun σ11 e11 => ⟨by omega, by omega, by omega, by omega, fun σ15' e15 => ?_⟩⟩, fun y => absurd y (by omega)⟩
    have e130 : σ11 6 0 13 p = σ 3 p 6 0 := by rw [e11, up_ne (by omega), q6]; exact e13
    rw [e130] at e15
    have hE6 : ∀ c q k i, ¬ (c = 6 ∧ q = 0 ∧ k = 13 ∧ i = p) → ¬ (c = 6 ∧ q = 0 ∧ k = 14 ∧ i = 6 * p + σ 3 p 6 0) → σ15' c q k i = σ9 c q k i := fun c q k i y y2 => by rw [e15, up_ne (by omega), e11, up_ne (by omega)]
    refine w_Mo_without ⟨by omega, by omega⟩ (L := s.1) (m2.eo (fun k hk hk2 i => by rw [hE6 _ _ _ _ (by omega) (by omega)]; exact q6 k i)) hpb (fun σ' g' hM' r2 r3 r4 r5 => ⟨by omega, by omega, ?_⟩)
    have w13 : σ' 6 0 13 p = σ 3 p 6 0 + 1 := by rw [g' _ _ _ _ (by omega) (by omega), e15, up_at]
    have w14 : σ' 6 0 14 (6 * p + σ 3 p 6 0) = t := by rw [g' _ _ _ _ (by omega) (by omega), e15, up_ne (by omega), e11, up_at]
    have g6 : ∀ k i, k < 18 ∨ 31 ≤ k → ¬ (k = 13 ∧ i = p) → ¬ (k = 14 ∧ i = 6 * p + σ 3 p 6 0) → σ' 6 0 k i = σ 6 0 k i := fun k i y0 y1 y2 => by rw [g' _ _ _ _ (by omega) (by omega), hE6 _ _ _ _ (by omega) (by omega)]; exact q6 k i
    have gc : ∀ c q k i, ¬ (c = 6 ∧ q = 0) → σ' c q k i = σ9 c q k i := fun c q k i y => by rw [g' _ _ _ _ (by omega) (by omega)]; exact hE6 _ _ _ _ (by omega) (by omega)
    have gn : ∀ c q k i, ¬ (c = 6 ∧ q = 0) → ¬ (c = 1 ∧ q = 0) → ¬ (c = 4 ∧ q = 0 ∧ k < 4 ∧ i = 0) → ¬ (c = 3 ∧ q = p ∧ (k = 6 ∨ k = 7 ∨ k = 10 ∨ k = 11)) → σ' c q k i = σ c q k i := fun c q k i y1 y2 y3 y4 => by rw [gc _ _ _ _ y1, g9 _ _ _ _ y2 y3 (by omega)]; exact hE _ _ _ _ (by omega)
    rw [w13, er]
    have p3 : ∀ k i, k < 10 → k ≠ 6 → k ≠ 7 → σ' 3 p k i = σ 3 p k i := fun k i y1 y2 y3 => gn _ _ _ _ (by omega) (by omega) (by omega) (by omega)
    have w3 : σ' 3 p 6 0 = σ 3 p 6 0 + 1 := by rw [gc _ _ _ _ (by omega)]; exact q3
    have w45 : ∀ i, σ' 3 p 7 i = (if i = σ 3 p 6 0 then t else σ 3 p 7 i) := fun i => by
      rw [gc _ _ _ _ (by omega)]
      by_cases q : i = σ 3 p 6 0
      · rw [if_pos q, q]; exact q4
      · rw [if_neg q]; exact q45 i q
    refine h2 σ' (Inv.mk2 (p := p) hs hN.1 b0 b1 (fun c q k i y1 y2 y3 y4 => gn _ _ _ _ y1 y3 y2 (by omega)) (fun k i hk => g6 k i (by omega) (by omega) (by omega)) ?_ ?_ (fun j j0 j1 => ?_) (fun q x0 x1 => ?_) (fun i i0 i1 => by rw [gc _ _ _ _ (by omega), gc _ _ _ _ (by omega)]; exact z10 i i0 i1) (hL9.eo (fun k i => gc _ _ _ _ (by omega))) hM' ⟨by rw [gc _ _ _ _ (by omega)]; exact k2, by rw [gc _ _ _ _ (by omega)]; exact k3, by rw [gc _ _ _ _ (by omega)]; exact k4, by rw [gc _ _ _ _ (by omega)]; exact k5⟩ ⟨r2, r3, r4, r5⟩)
    · obtain ⟨t1, t2, t3, t4, t5, t6, t7, t8⟩ := e1
      refine ⟨by rw [p3 0 _ (by omega) (by omega) (by omega)]; exact t1, by rw [p3 3 _ (by omega) (by omega) (by omega)]; exact t2, by omega, fun j j0 j1 => ?_, fun i i0 i1 => ?_, fun r r0 r1 => ?_, fun i i0 i1 => by rw [p3 8 _ (by omega) (by omega) (by omega)]; exact t7 i i0 i1, fun i i0 i1 => by rw [p3 9 _ (by omega) (by omega) (by omega)]; exact t8 i i0 i1⟩
      · rw [p3 0 _ (by omega) (by omega) (by omega)] at j1
        rw [p3 1 _ (by omega) (by omega) (by omega), p3 2 _ (by omega) (by omega) (by omega)]
        exact t4 j j0 j1
      · rw [p3 3 _ (by omega) (by omega) (by omega)] at i1
        rw [p3 4 _ (by omega) (by omega) (by omega), p3 5 _ (by omega) (by omega) (by omega)]
        exact t5 i i0 i1
      · rw [w45 r]
        by_cases q : r = σ 3 p 6 0
        · rw [if_pos q]; omega
        · rw [if_neg q]; exact t6 r r0 r1
    · exact e4.of (by rw [gn 0 _ _ _ (by omega) (by omega) (by omega) (by omega)]; exact Int.le_refl _) (fun k j hk => p3 k j (by omega) (by omega) (by omega))
    · rw [p3 0 _ (by omega) (by omega) (by omega)] at j1
      rw [p3 2 _ (by omega) (by omega) (by omega), p3 1 _ (by omega) (by omega) (by omega), gn 0 _ _ _ (by omega) (by omega) (by omega) (by omega)]
      exact a2 p b0 (by omega) j j0 j1
    · by_cases q' : q = p
      · subst q'
        obtain ⟨hA, hB, hC, hD, hE', hF⟩ := hMp
        refine ⟨?_, fun j j0 j1 => ?_, ?_, fun i i0 i1 => ?_, by rw [w13, w3], fun r r0 r1 => ?_⟩
        · rw [g6 8 _ (by omega) (by omega) (by omega), p3 0 _ (by omega) (by omega) (by omega)]; exact hA
        · rw [p3 0 _ (by omega) (by omega) (by omega)] at j1
          rw [g6 9 _ (by omega) (by omega) (by omega), p3 1 _ (by omega) (by omega) (by omega)]; exact hB j j0 j1
        · rw [g6 10 _ (by omega) (by omega) (by omega), p3 3 _ (by omega) (by omega) (by omega)]; exact hC
        · rw [g6 11 _ (by omega) (by omega) (by omega), g6 12 _ (by omega) (by omega) (by omega), p3 4 _ (by omega) (by omega) (by omega), p3 5 _ (by omega) (by omega) (by omega)]; exact hD i i0 i1
        · obtain ⟨f1, f2, f3, f4⟩ := hF r r0 r1
          refine ⟨?_, fun i i0 i1 => ?_, fun c c0 c1 => ?_, fun f f0 f1' => ?_⟩
          · rw [w45 r]
            by_cases y : r = σ 3 q 6 0
            · rw [if_pos y, y]; exact w14
            · rw [if_neg y, g6 14 _ (by omega) (by omega) (by omega)]; exact f1
          · rw [g6 15 _ (by omega) (by omega) (by omega), p3 8 _ (by omega) (by omega) (by omega)]; exact f2 i i0 i1
          · rw [g6 16 _ (by omega) (by omega) (by omega), p3 8 _ (by omega) (by omega) (by omega)]; exact f3 c c0 c1
          · rw [g6 17 _ (by omega) (by omega) (by omega), p3 9 _ (by omega) (by omega) (by omega)]; exact f4 f f0 f1'
      · exact (dP q x0 x1).off (a1.2.2.2 q x0 x1).1.1.2 (fun k hk i => gn _ _ _ _ (by omega) (by omega) (by omega) (by omega)) (fun k i hc => g6 k i (by unfold Cq at hc; omega) (by unfold Cq at hc; omega) (by unfold Cq at hc; omega)) (fun f r f0 f1 r0 r1 => g6 17 _ (by omega) (by omega) (by omega))
  · unfold Mo_row
    refine w_Mo_noPart hp d7 hpp (fun y => absurd (⟨b0, b1⟩ : 0 ≤ p ∧ p < σ 5 0 3 0) y) (fun _ _ => ⟨⟨by omega, by omega⟩, fun _ => ?_, fun y => absurd rfl y⟩)
    refine w_Mo_beyond ht ⟨by omega, by omega⟩ ⟨by omega, by omega⟩ (fun y => absurd y (by omega)) (fun _ _ => ⟨⟨by omega, by omega⟩, fun _ => ?_, fun y => absurd rfl y⟩)
    rw [e13]
    exact ⟨by omega, by omega, ⟨by omega, by omega⟩, fun y => absurd y (by omega), fun _ => h2 σ hs.here⟩
  · unfold Mo_row
    refine w_Mo_noPart hp d7 hpp (fun y => absurd (⟨b0, b1⟩ : 0 ≤ p ∧ p < σ 5 0 3 0) y) (fun _ _ => ⟨⟨by omega, by omega⟩, fun _ => ?_, fun y => absurd rfl y⟩)
    exact w_Mo_beyond ht ⟨by omega, by omega⟩ ⟨by omega, by omega⟩ (fun _ => ⟨⟨by omega, by omega⟩, fun y => absurd y (by omega), fun _ => h2 σ hs.here⟩) (fun y0 y1 => absurd (⟨y0, y1⟩ : -99 ≤ t ∧ t ≤ 99) z)
/-- one place of the weighings or shifts of a part is told anew on both sides -/
theorem Inv.mk3 {σ σ' σ9 : Mem} {N p : Int} {s : St} (hs : IS σ N s) (hN : 0 ≤ N) (p0 : 0 ≤ p) (p1 : p < σ 5 0 3 0) (gc : ∀ c q k i, ¬ (c = 6 ∧ q = 0) → σ' c q k i = σ9 c q k i) (gn : ∀ c q k i, ¬ (c = 6 ∧ q = 0) → ¬ (c = 1 ∧ q = 0) → ¬ (c = 4 ∧ q = 0 ∧ k < 4 ∧ i = 0) → ¬ (c = 3 ∧ q = p ∧ (k = 8 ∨ k = 9 ∨ k = 10 ∨ k = 11)) → σ' c q k i = σ c q k i) (g6 : ∀ k i, k < 15 ∨ 31 ≤ k → σ' 6 0 k i = σ 6 0 k i) (h8 : ∀ i, 0 ≤ i → i < 60 → -9 ≤ σ' 3 p 8 i ∧ σ' 3 p 8 i ≤ 9) (h9 : ∀ i, 0 ≤ i → i < 24 → -99 ≤ σ' 3 p 9 i ∧ σ' 3 p 9 i ≤ 99) (hMw : ∀ q r, 0 ≤ q → q < 4 → 0 ≤ r → r < 6 → (∀ i, 0 ≤ i → i < 4 → σ' 6 0 15 (4 * (6 * q + r) + i) = σ' 3 q 8 (r * 10 + i)) ∧ (∀ c, 0 ≤ c → c < 6 → σ' 6 0 16 (6 * (6 * q + r) + c) = σ' 3 q 8 (r * 10 + 4 + c)) ∧ ∀ f, 0 ≤ f → f < 4 → σ' 6 0 17 (24 * f + 6 * q + r) = σ' 3 q 9 (f * 6 + r)) (z10 : ∀ i, 0 ≤ i → i < 256 → σ9 3 p 10 i = -9 ∧ σ9 3 p 11 i = 0) (hL9 : RepC σ9 (keepP p s.1)) (hM' : RepM σ' (keepP p s.1)) (z1 : σ9 4 0 0 0 = 0 ∧ σ9 4 0 1 0 = 0 ∧ σ9 4 0 2 0 = -4 ∧ σ9 4 0 3 0 = -4) (z2 : σ' 6 0 27 0 = 0 ∧ σ' 6 0 28 0 = 0 ∧ σ' 6 0 29 0 = 0 ∧ σ' 6 0 30 0 = 0) : Inv σ' (N + 1) := by
  obtain ⟨a1, a2, a3, a4, a5, a6, a7⟩ := id hs
  obtain ⟨d0, d1, d2, d3, d5, d7, dP⟩ := id a3
  have hpp := a1.2.2.1
  obtain ⟨e1, e2, e3, e4⟩ := a1.2.2.2 p p0 (by omega)
  have p3 : ∀ k i, k < 8 → σ' 3 p k i = σ 3 p k i := fun k i y1 => gn _ _ _ _ (by omega) (by omega) (by omega) (by omega)
  refine Inv.mk2 (p := p) hs hN p0 p1 (fun c q k i y1 y2 y3 y4 => gn _ _ _ _ y1 y3 y2 (by omega)) (fun k i hk => g6 k i (by omega)) ?_ ?_ (fun j j0 j1 => ?_) (fun q x0 x1 => ?_) (fun i i0 i1 => by rw [gc _ _ _ _ (by omega), gc _ _ _ _ (by omega)]; exact z10 i i0 i1) (hL9.eo (fun k i => gc _ _ _ _ (by omega))) hM' ⟨by rw [gc _ _ _ _ (by omega)]; exact z1.1, by rw [gc _ _ _ _ (by omega)]; exact z1.2.1, by rw [gc _ _ _ _ (by omega)]; exact z1.2.2.1, by rw [gc _ _ _ _ (by omega)]; exact z1.2.2.2⟩ z2
  · obtain ⟨t1, t2, t3, t4, t5, t6, t7, t8⟩ := e1
    refine ⟨by rw [p3 0 _ (by omega)]; exact t1, by rw [p3 3 _ (by omega)]; exact t2, by rw [p3 6 _ (by omega)]; exact t3, fun j j0 j1 => ?_, fun i i0 i1 => ?_, fun r r0 r1 => by rw [p3 7 _ (by omega)]; exact t6 r r0 r1, h8, h9⟩
    · rw [p3 0 _ (by omega)] at j1
      rw [p3 1 _ (by omega), p3 2 _ (by omega)]
      exact t4 j j0 j1
    · rw [p3 3 _ (by omega)] at i1
      rw [p3 4 _ (by omega), p3 5 _ (by omega)]
      exact t5 i i0 i1
  · exact e4.of (by rw [gn 0 _ _ _ (by omega) (by omega) (by omega) (by omega)]; exact Int.le_refl _) (fun k j hk => p3 k j (by omega))
  · rw [p3 0 _ (by omega)] at j1
    rw [p3 2 _ (by omega), p3 1 _ (by omega), gn 0 _ _ _ (by omega) (by omega) (by omega) (by omega)]
    exact a2 p p0 (by omega) j j0 j1
  · have q3 : ∀ k i, k < 8 → σ' 3 q k i = σ 3 q k i := fun k i y1 => gn _ _ _ _ (by omega) (by omega) (by omega) (by omega)
    obtain ⟨hA, hB, hC, hD, hE', hF⟩ := dP q x0 x1
    refine ⟨?_, fun j j0 j1 => ?_, ?_, fun i i0 i1 => ?_, ?_, fun r r0 r1 => ⟨?_, hMw q r x0 x1 r0 r1⟩⟩
    · rw [g6 8 _ (by omega), q3 0 _ (by omega)]; exact hA
    · rw [q3 0 _ (by omega)] at j1
      rw [g6 9 _ (by omega), q3 1 _ (by omega)]; exact hB j j0 j1
    · rw [g6 10 _ (by omega), q3 3 _ (by omega)]; exact hC
    · rw [g6 11 _ (by omega), g6 12 _ (by omega), q3 4 _ (by omega), q3 5 _ (by omega)]; exact hD i i0 i1
    · rw [g6 13 _ (by omega), q3 6 _ (by omega)]; exact hE'
    · rw [g6 14 _ (by omega), q3 7 _ (by omega)]; exact (hF r r0 r1).1
set_option maxHeartbeats 1000000 in
theorem op_shift {σ : Mem} {N f p r v : Int} {Q : Int → Mem → Prop} (hI : Inv σ N) (hN : 0 ≤ N ∧ N ≤ 1000) (hf : InR f) (hp : InR p) (hr' : InR r) (hv : InR v) (hQ : ∀ r1 σ1, After (Mo_shift f p r v) (N + 1) r1 σ1 → Q r1 σ1) : Sr_shift f p r v σ Q := by
  obtain ⟨s, hs⟩ := hI
  obtain ⟨a1, a2, a3, a4, a5, a6, a7⟩ := id hs
  have c3 := a4.2.2.1
  have m2 := a5.2.1
  have m3 := a5.2.2.1
  obtain ⟨d0, d1, d2, d3, ⟨d5, d6⟩, d7, dP⟩ := id a3
  have hpp := a1.2.2.1
  have hff := a1.2.1.1
  have hrows : ∀ p, 0 ≤ p → p < σ 5 0 3 0 → σ 6 0 13 p = σ 3 p 6 0 := fun p x0 x1 => (dP p x0 (by omega)).2.2.2.2.1
  have hrb : ∀ p, 0 ≤ p → p < σ 5 0 3 0 → 0 ≤ σ 3 p 6 0 ∧ σ 3 p 6 0 ≤ 6 := fun p x0 x1 => (a1.2.2.2 p x0 (by omega)).1.2.2.1
  have hpb : ∀ c ∈ s.1, InR c.1 := fun c hc => by have := (m3 c hc).1; exact ⟨by omega, by omega⟩
  have no1 : ¬ (0 ≤ f ∧ f < σ 2 0 0 0 ∧ 0 ≤ p ∧ p < σ 5 0 3 0 ∧ 0 ≤ r ∧ r < σ 3 p 6 0) → Q (-1) σ := by
    intro z
    refine hQ (-1) σ ⟨⟨by omega, by omega⟩, fun Q2 h2 => ?_⟩
    unfold Mo_shift Mo_shift_17
    refine w_Mo_noFuture hf d5 hff (fun _ => ⟨⟨by omega, by omega⟩, fun _ => h2 σ hs.here, fun y => absurd y (by omega)⟩) (fun y0 y1 => ⟨⟨by omega, by omega⟩, fun y => absurd rfl y, fun _ => ?_⟩)
    exact w_Mo_noRow hp hr' d7 hrows hpp hrb (fun _ => ⟨⟨by omega, by omega⟩, fun y => absurd y (by omega), fun _ => h2 σ hs.here⟩) (fun y2 y3 y4 y5 => absurd (⟨y0, y1, y2, y3, y4, y5⟩ : 0 ≤ f ∧ f < σ 2 0 0 0 ∧ 0 ≤ p ∧ p < σ 5 0 3 0 ∧ 0 ≤ r ∧ r < σ 3 p 6 0) z)
  unfold Sr_shift Sr_shift_20
  refine w_Fu_knows hf a1.2.1 (fun b0 b1 => ⟨⟨by omega, by omega⟩, fun y => absurd y (by omega), fun _ => ?_⟩) (fun z => ⟨⟨by omega, by omega⟩, fun _ => no1 (by omega), fun y => absurd rfl y⟩)
  refine w_Sr_knowsRow hp hr' a1 (fun b2 b3 b4 b5 => ⟨⟨by omega, by omega⟩, fun _ => ?_, fun y => absurd y (by omega)⟩) (fun z => ⟨⟨by omega, by omega⟩, fun y => absurd rfl y, fun _ => no1 (by omega)⟩)
  obtain ⟨e1, e2, e3, e4⟩ := a1.2.2.2 p b2 (by omega)
  have hMp := dP p b2 (by omega)
  have br := e1.2.2.1
  refine w_Sr_isWithin hv (by omega) (fun z1 z2 => ⟨⟨by omega, by omega⟩, fun _ => fun x7 e7 => ⟨by omega, by omega, by omega, by omega, fun x10 e10 => ⟨by omega, by omega, by omega, by omega, fun σ15 f15 => ?_⟩⟩, fun y => absurd y (by omega)⟩) (fun z => ⟨⟨by omega, by omega⟩, fun y => absurd rfl y, fun _ => hQ (-2) σ ⟨⟨by omega, by omega⟩, fun Q2 h2 => ?_⟩⟩)
  · have hE : ∀ c q k i, ¬ (c = 3 ∧ q = p ∧ k = 9 ∧ i = x7) → σ15 c q k i = σ c q k i := fun c q k i y => by rw [f15, up_ne y]
    have b9 := e1.2.2.2.2.2.2.2 x7 (by omega) (by omega)
    refine w_Sr_retell b2 (by omega) (c3.eo (fun k i => hE _ _ _ _ (by omega))) hpb (fun σ9 g9 hL9 z10 k2 k3 k4 k5 => ?_)
    have q9 : σ9 3 p 9 x7 = v := by rw [g9 _ _ _ _ (by omega) (by omega) (by omega), f15, up_at]
    have q6 : ∀ k i, σ9 6 0 k i = σ 6 0 k i := fun k i => by rw [g9 _ _ _ _ (by omega) (by omega) (by omega)]; exact hE _ _ _ _ (by omega)
    refine hQ _ σ9 ⟨⟨by omega, by omega⟩, fun Q2 h2 => ?_⟩
    unfold Mo_shift Mo_shift_17
    refine w_Mo_noFuture hf (by rw [q6]; exact d5) hff (fun y => absurd (⟨b0, b1⟩ : 0 ≤ f ∧ f < σ 2 0 0 0) y) (fun _ _ => ⟨⟨by omega, by omega⟩, fun y => absurd rfl y, fun _ => ?_⟩)
    refine w_Mo_noRow hp hr' (by rw [q6]; exact d7) (fun p x0 x1 => by rw [q6]; exact hrows p x0 x1) hpp hrb (fun y => absurd (⟨b2, b3, b4, b5⟩ : 0 ≤ p ∧ p < σ 5 0 3 0 ∧ 0 ≤ r ∧ r < σ 3 p 6 0) y) (fun _ _ _ _ => ⟨⟨by omega, by omega⟩, fun _ => ?_, fun y => absurd rfl y⟩)
    refine w_Mo_beyond hv ⟨by omega, by omega⟩ ⟨by omega, by omega⟩ (fun y => absurd y (by omega)) (fun _ _ => ⟨⟨by omega, by omega⟩, fun _ => fun y7 ey7 => ⟨by omega, by omega, fun y9 ey9 => ⟨by omega, by omega, fun σ10 f10 => ?_⟩⟩, fun y => absurd rfl y⟩)
    have ew := (hMp.2.2.2.2.2 r b4 (by omega)).2.2.2 f b0 (by omega)
    have ex : y9 = x10 := by rw [ey9, q6, ey7, ew, e10, e7]
    have hE6 : ∀ c q k i, ¬ (c = 6 ∧ q = 0 ∧ k = 17 ∧ i = y7) → σ10 c q k i = σ9 c q k i := fun c q k i y => by rw [f10, up_ne y]
    refine w_Mo_without ⟨by omega, by omega⟩ (L := s.1) (m2.eo (fun k hk hk2 i => by rw [hE6 _ _ _ _ (by omega)]; exact q6 k i)) hpb (fun σ' g' hM' r2 r3 r4 r5 => ?_)
    have w17 : σ' 6 0 17 y7 = v := by rw [g' _ _ _ _ (by omega) (by omega), f10, up_at]
    have g6 : ∀ k i, k < 18 ∨ 31 ≤ k → ¬ (k = 17 ∧ i = y7) → σ' 6 0 k i = σ 6 0 k i := fun k i y0 y1 => by rw [g' _ _ _ _ (by omega) (by omega), hE6 _ _ _ _ (by omega)]; exact q6 k i
    have gc : ∀ c q k i, ¬ (c = 6 ∧ q = 0) → σ' c q k i = σ9 c q k i := fun c q k i y => by rw [g' _ _ _ _ (by omega) (by omega)]; exact hE6 _ _ _ _ (by omega)
    have gn2 : ∀ c q k i, ¬ (c = 6 ∧ q = 0) → ¬ (c = 1 ∧ q = 0) → ¬ (c = 4 ∧ q = 0 ∧ k < 4 ∧ i = 0) → ¬ (c = 3 ∧ q = p ∧ (k = 10 ∨ k = 11)) → ¬ (c = 3 ∧ q = p ∧ k = 9 ∧ i = x7) → σ' c q k i = σ c q k i := fun c q k i y1 y2 y3 y4 y5 => by rw [gc _ _ _ _ y1, g9 _ _ _ _ y2 y3 y4]; exact hE _ _ _ _ y5
    have w9 : σ' 3 p 9 x7 = v := by rw [gc _ _ _ _ (by omega)]; exact q9
    rw [ex]
    refine h2 σ' (Inv.mk3 hs hN.1 b2 b3 gc (fun c q k i y1 y2 y3 y4 => gn2 _ _ _ _ y1 y2 y3 (by omega) (by omega)) (fun k i hk => g6 k i (by omega) (by omega)) (fun i i0 i1 => by rw [gn2 _ _ _ _ (by omega) (by omega) (by omega) (by omega) (by omega)]; exact e1.2.2.2.2.2.2.1 i i0 i1) (fun i i0 i1 => ?_) (fun q r' q0 q1 r0 r1 => ⟨fun i i0 i1 => ?_, fun c c0 c1 => ?_, fun f' f0 f1 => ?_⟩) z10 hL9 hM' ⟨k2, k3, k4, k5⟩ ⟨r2, r3, r4, r5⟩)
    · by_cases q : i = x7
      · subst q; rw [w9]; omega
      · rw [gn2 _ _ _ _ (by omega) (by omega) (by omega) (by omega) (by omega)]; exact e1.2.2.2.2.2.2.2 i i0 i1
    · rw [g6 15 _ (by omega) (by omega), gn2 _ _ _ _ (by omega) (by omega) (by omega) (by omega) (by omega)]
      exact ((dP q q0 q1).2.2.2.2.2 r' r0 r1).2.1 i i0 i1
    · rw [g6 16 _ (by omega) (by omega), gn2 _ _ _ _ (by omega) (by omega) (by omega) (by omega) (by omega)]
      exact ((dP q q0 q1).2.2.2.2.2 r' r0 r1).2.2.1 c c0 c1
    · by_cases y : q = p ∧ f' = f ∧ r' = r
      · obtain ⟨rfl, rfl, rfl⟩ := y
        rw [← ey7, ← e7, w17, w9]
      · rw [g6 17 _ (by omega) (by omega), gn2 _ _ _ _ (by omega) (by omega) (by omega) (by omega) (by omega)]
        exact ((dP q q0 q1).2.2.2.2.2 r' r0 r1).2.2.2 f' f0 f1
  · unfold Mo_shift Mo_shift_17
    refine w_Mo_noFuture hf d5 hff (fun y => absurd (⟨b0, b1⟩ : 0 ≤ f ∧ f < σ 2 0 0 0) y) (fun _ _ => ⟨⟨by omega, by omega⟩, fun y => absurd rfl y, fun _ => ?_⟩)
    refine w_Mo_noRow hp hr' d7 hrows hpp hrb (fun y => absurd (⟨b2, b3, b4, b5⟩ : 0 ≤ p ∧ p < σ 5 0 3 0 ∧ 0 ≤ r ∧ r < σ 3 p 6 0) y) (fun _ _ _ _ => ⟨⟨by omega, by omega⟩, fun _ => ?_, fun y => absurd rfl y⟩)
    exact w_Mo_beyond hv ⟨by omega, by omega⟩ ⟨by omega, by omega⟩ (fun _ => ⟨⟨by omega, by omega⟩, fun y => absurd y (by omega), fun _ => h2 σ hs.here⟩) (fun y0 y1 => absurd (⟨y0, y1⟩ : -99 ≤ v ∧ v ≤ 99) z)
set_option maxHeartbeats 1000000 in
theorem op_weigh {σ : Mem} {N p r ch w v : Int} {Q : Int → Mem → Prop} (hI : Inv σ N) (hN : 0 ≤ N ∧ N ≤ 1000) (hp : InR p) (hr' : InR r) (hch : ch = 0 ∨ ch = 1) (hw : InR w) (hv : InR v) (hQ : ∀ r1 σ1, After (Mo_weigh p r ch w v) (N + 1) r1 σ1 → Q r1 σ1) : Sr_weigh p r ch w v σ Q := by
  obtain ⟨s, hs⟩ := hI
  obtain ⟨a1, a2, a3, a4, a5, a6, a7⟩ := id hs
  have c3 := a4.2.2.1
  have m2 := a5.2.1
  have m3 := a5.2.2.1
  obtain ⟨d0, d1, d2, d3, ⟨d5, d6⟩, d7, dP⟩ := id a3
  have hpp := a1.2.2.1
  have hchr : InR ch := ⟨by omega, by omega⟩
  have hrows : ∀ p, 0 ≤ p → p < σ 5 0 3 0 → σ 6 0 13 p = σ 3 p 6 0 := fun p x0 x1 => (dP p x0 (by omega)).2.2.2.2.1
  have hrb : ∀ p, 0 ≤ p → p < σ 5 0 3 0 → 0 ≤ σ 3 p 6 0 ∧ σ 3 p 6 0 ≤ 6 := fun p x0 x1 => (a1.2.2.2 p x0 (by omega)).1.2.2.1
  have hpb : ∀ c ∈ s.1, InR c.1 := fun c hc => by have := (m3 c hc).1; exact ⟨by omega, by omega⟩
  unfold Sr_weigh Sr_weigh_46
  refine w_Sr_knowsRow hp hr' a1 (fun b2 b3 b4 b5 => ⟨⟨by omega, by omega⟩, fun _ => ⟨by omega, by omega, hchr, ?_⟩, fun y => absurd y (by omega)⟩) (fun z => ⟨⟨by omega, by omega⟩, fun y => absurd rfl y, fun _ => hQ (-1) σ ⟨⟨by omega, by omega⟩, fun Q2 h2 => ?_⟩⟩)
  rotate_left
  · unfold Mo_weigh
    exact w_Mo_noRow hp hr' d7 hrows hpp hrb (fun _ => ⟨⟨by omega, by omega⟩, fun y => absurd y (by omega), fun _ => h2 σ hs.here⟩) (fun y2 y3 y4 y5 => absurd (⟨y2, y3, y4, y5⟩ : 0 ≤ p ∧ p < σ 5 0 3 0 ∧ 0 ≤ r ∧ r < σ 3 p 6 0) z)
  obtain ⟨e1, e2, e3, e4⟩ := a1.2.2.2 p b2 (by omega)
  have hMp := dP p b2 (by omega)
  have br := e1.2.2.1
  have bl := e1.2.1
  -- the reference's way to its inner part
  have way : ∀ (μ : Mem) (Q2 : Int → Mem → Prop), (∀ k i, k < 18 → μ 6 0 k i = σ 6 0 k i) → (∀ k i, k < 10 → k ≠ 8 → μ 3 p k i = σ 3 p k i) → (ch = 0 → 0 ≤ w ∧ w < σ 3 p 3 0) → (ch = 1 → ∃ j, 0 ≤ j ∧ j < σ 3 p 0 0 ∧ σ 3 p 1 j = w) → Mo_weigh_47 Q2 p r ch w v μ → Mo_weigh p r ch w v μ Q2 := by
    intro μ Q2 k6 k3 h0 h1 hin
    have PBμ0 : 0 ≤ μ 3 p 0 0 ∧ μ 3 p 0 0 ≤ 3 := by rw [k3 0 _ (by omega) (by omega)]; exact e1.1
    unfold Mo_weigh
    refine w_Mo_noRow hp hr' (by rw [k6 _ _ (by omega)]; exact d7) (fun p x0 x1 => by rw [k6 _ _ (by omega)]; exact hrows p x0 x1) hpp hrb (fun y => absurd (⟨b2, b3, b4, b5⟩ : 0 ≤ p ∧ p < σ 5 0 3 0 ∧ 0 ≤ r ∧ r < σ 3 p 6 0) y) (fun _ _ _ _ => ⟨⟨by omega, by omega⟩, fun _ => ⟨hchr, fun yc => ⟨by omega, by omega, ?_⟩, fun yc => ?_⟩, fun y => absurd rfl y⟩)
    · rw [k6 _ _ (by omega), hMp.2.2.1]
      exact w_Mo_beyond hw ⟨by omega, by omega⟩ ⟨by omega, by omega⟩ (fun y => absurd y (by have := h0 yc; omega)) (fun _ _ => ⟨⟨by omega, by omega⟩, fun _ => hin, fun y => absurd rfl y⟩)
    · obtain ⟨j0, j0a, j0b, j0c⟩ := h1 (hch.resolve_left yc)
      have key : ∀ (m : Nat) (i : Int), i + m = σ 3 p 0 0 → 0 ≤ i → (∀ j, 0 ≤ j → j < i → σ 3 p 1 j ≠ w) → Mo_placeOf_2 (fun r7 σ7 => InR r7 ∧ ((0 ≤ r7 → Mo_weigh_47 Q2 p r ch w v σ7) ∧ (r7 < 0 → Mo_weigh_45 Q2 σ7))) (m + 1) p w i μ := by
        intro m
        induction m with
        | zero =>
          intro i g1 g2 hn
          exact absurd j0c (hn j0 j0a (by omega))
        | succ m ih =>
          intro i g1 g2 hn
          have bj := (e1.2.2.2.1 i g2 (by omega)).1
          have e0 := e1.1
          unfold Mo_placeOf_2
          rw [k6 _ _ (by omega), hMp.1, k6 _ _ (by omega), hMp.2.1 i g2 (by omega)]
          refine ⟨by omega, by omega, ⟨by omega, by omega⟩, ⟨by omega, by omega⟩, fun y => absurd y (by omega), fun _ => ⟨by omega, by omega, ⟨by omega, by omega⟩, hw, fun y x7 e7 => ih x7 (by omega) (by omega) (fun j x0 x1 => ?_), fun y => ⟨⟨by omega, by omega⟩, fun _ => hin, fun y' => absurd y' (by omega)⟩⟩⟩
          by_cases q : j = i
          · subst q; exact y
          · exact hn j x0 (by omega)
      exact ⟨_, key (σ 3 p 0 0).toNat 0 (by have := e1.1; omega) (by omega) (fun j x0 x1 => absurd x1 (by omega))⟩
  -- the place in the class's row, the reference's place
  have main : (ch = 0 → 0 ≤ w ∧ w < σ 3 p 3 0) → (ch = 1 → ∃ j, 0 ≤ j ∧ j < σ 3 p 0 0 ∧ σ 3 p 1 j = w) → Sr_weigh_48 Q p r ch w v p σ := by
    intro h0 h1
    have hw6 : ch = 1 → 0 ≤ w ∧ w < 6 := fun y => by
      obtain ⟨j, x0, x1, x2⟩ := h1 y
      have := (e1.2.2.2.1 j x0 x1).1
      omega
    unfold Sr_weigh_48
    refine w_Sr_isWithin hv (by omega) (fun z1 z2 => ⟨⟨by omega, by omega⟩, fun _ => ?_, fun y => absurd y (by omega)⟩) (fun z => ⟨⟨by omega, by omega⟩, fun y => absurd rfl y, fun _ => hQ (-2) σ ⟨⟨by omega, by omega⟩, fun Q2 h2 => ?_⟩⟩)
    · have go : ∀ (s1 : Int), (ch = 0 → s1 = w) → (ch = 1 → s1 = 4 + w) → Sr_weigh_78 Q p v p (r * 10) s1 σ := by
        intro s1 hs1 hs2
        unfold Sr_weigh_78
        intro x1 ex1
        have bx : 0 ≤ x1 ∧ x1 < 60 := by
          rcases hch with y | y
          · have := h0 y; have := hs1 y; omega
          · have := hw6 y; have := hs2 y; omega
        refine ⟨by omega, by omega, fun x3 ex3 => ⟨by omega, by omega, fun σ15 f15 => ?_⟩⟩
        have hE : ∀ c q k i, ¬ (c = 3 ∧ q = p ∧ k = 8 ∧ i = x1) → σ15 c q k i = σ c q k i := fun c q k i y => by rw [f15, up_ne y]
        have b9 := e1.2.2.2.2.2.2.1 x1 (by omega) (by omega)
        refine w_Sr_retell b2 (by omega) (c3.eo (fun k i => hE _ _ _ _ (by omega))) hpb (fun σ9 g9 hL9 z10 k2 k3 k4 k5 => ?_)
        have q8 : σ9 3 p 8 x1 = v := by rw [g9 _ _ _ _ (by omega) (by omega) (by omega), f15, up_at]
        have q6 : ∀ k i, σ9 6 0 k i = σ 6 0 k i := fun k i => by rw [g9 _ _ _ _ (by omega) (by omega) (by omega)]; exact hE _ _ _ _ (by omega)
        refine hQ _ σ9 ⟨⟨by omega, by omega⟩, fun Q2 h2 => ?_⟩
        refine way σ9 Q2 (fun k i _ => q6 k i) (fun k i hk hk8 => by rw [g9 _ _ _ _ (by omega) (by omega) (by omega)]; exact hE _ _ _ _ (by omega)) h0 h1 ?_
        unfold Mo_weigh_47
        refine w_Mo_beyond hv ⟨by omega, by omega⟩ ⟨by omega, by omega⟩ (fun y => absurd y (by omega)) (fun _ _ => ⟨⟨by omega, by omega⟩, fun _ => ⟨hchr, fun yc => fun y4 ey4 => ?_, fun yc => fun y8 ey8 => ?_⟩, fun y => absurd rfl y⟩)
        · have b0 := h0 yc
          have e1' := hs1 yc
          refine ⟨by omega, by omega, fun y6 ey6 => ⟨by omega, by omega, fun σ10 f10 => ?_⟩⟩
          have ew := (hMp.2.2.2.2.2 r b4 (by omega)).2.1 w b0.1 (by omega)
          have ex : y6 = x3 := by rw [ey6, q6, ey4, ew, ex3, ex1, e1']
          have hE6 : ∀ c q k i, ¬ (c = 6 ∧ q = 0 ∧ k = 15 ∧ i = y4) → σ10 c q k i = σ9 c q k i := fun c q k i y => by rw [f10, up_ne y]
          unfold Mo_weigh_132
          refine w_Mo_without ⟨by omega, by omega⟩ (L := s.1) (m2.eo (fun k hk hk2 i => by rw [hE6 _ _ _ _ (by omega)]; exact q6 k i)) hpb (fun σ' g' hM' r2 r3 r4 r5 => ?_)
          have w15 : σ' 6 0 15 y4 = v := by rw [g' _ _ _ _ (by omega) (by omega), f10, up_at]
          have g6 : ∀ k i, k < 18 ∨ 31 ≤ k → ¬ (k = 15 ∧ i = y4) → σ' 6 0 k i = σ 6 0 k i := fun k i y0 y1 => by rw [g' _ _ _ _ (by omega) (by omega), hE6 _ _ _ _ (by omega)]; exact q6 k i
          have gc : ∀ c q k i, ¬ (c = 6 ∧ q = 0) → σ' c q k i = σ9 c q k i := fun c q k i y => by rw [g' _ _ _ _ (by omega) (by omega)]; exact hE6 _ _ _ _ (by omega)
          have gn2 : ∀ c q k i, ¬ (c = 6 ∧ q = 0) → ¬ (c = 1 ∧ q = 0) → ¬ (c = 4 ∧ q = 0 ∧ k < 4 ∧ i = 0) → ¬ (c = 3 ∧ q = p ∧ (k = 10 ∨ k = 11)) → ¬ (c = 3 ∧ q = p ∧ k = 8 ∧ i = x1) → σ' c q k i = σ c q k i := fun c q k i y1 y2 y3 y4 y5 => by rw [gc _ _ _ _ y1, g9 _ _ _ _ y2 y3 y4]; exact hE _ _ _ _ y5
          have w8 : σ' 3 p 8 x1 = v := by rw [gc _ _ _ _ (by omega)]; exact q8
          rw [ex]
          refine h2 σ' (Inv.mk3 hs hN.1 b2 b3 gc (fun c q k i y1 y2 y3 y4 => gn2 _ _ _ _ y1 y2 y3 (by omega) (by omega)) (fun k i hk => g6 k i (by omega) (by omega)) (fun i i0 i1 => ?_) (fun i i0 i1 => by rw [gn2 _ _ _ _ (by omega) (by omega) (by omega) (by omega) (by omega)]; exact e1.2.2.2.2.2.2.2 i i0 i1) (fun q r' q0 q1 r0 r1 => ⟨fun i i0 i1 => ?_, fun c c0 c1 => ?_, fun f' f0 f1 => ?_⟩) z10 hL9 hM' ⟨k2, k3, k4, k5⟩ ⟨r2, r3, r4, r5⟩)
          · by_cases q : i = x1
            · subst q; rw [w8]; omega
            · rw [gn2 _ _ _ _ (by omega) (by omega) (by omega) (by omega) (by omega)]; exact e1.2.2.2.2.2.2.1 i i0 i1
          · by_cases y : q = p ∧ r' = r ∧ i = w
            · obtain ⟨rfl, rfl, rfl⟩ := y
              have ec : r' * 10 + i = x1 := by omega
              rw [← ey4, ec, w15, w8]
            · rw [g6 15 _ (by omega) (by omega), gn2 _ _ _ _ (by omega) (by omega) (by omega) (by omega) (by omega)]
              exact ((dP q q0 q1).2.2.2.2.2 r' r0 r1).2.1 i i0 i1
          · rw [g6 16 _ (by omega) (by omega), gn2 _ _ _ _ (by omega) (by omega) (by omega) (by omega) (by omega)]
            exact ((dP q q0 q1).2.2.2.2.2 r' r0 r1).2.2.1 c c0 c1
          · rw [g6 17 _ (by omega) (by omega), gn2 _ _ _ _ (by omega) (by omega) (by omega) (by omega) (by omega)]
            exact ((dP q q0 q1).2.2.2.2.2 r' r0 r1).2.2.2 f' f0 f1
        · have yc1 : ch = 1 := hch.resolve_left yc
          have b0 := hw6 yc1
          have e1' := hs2 yc1
          refine ⟨by omega, by omega, fun y6 ey6 => ⟨by omega, by omega, fun σ10 f10 => ?_⟩⟩
          have ew := (hMp.2.2.2.2.2 r b4 (by omega)).2.2.1 w b0.1 b0.2
          have ex : y6 = x3 := by
            rw [ey6, q6, ey8, ew, ex3]
            congr 1
            omega
          have hE6 : ∀ c q k i, ¬ (c = 6 ∧ q = 0 ∧ k = 16 ∧ i = y8) → σ10 c q k i = σ9 c q k i := fun c q k i y => by rw [f10, up_ne y]
          unfold Mo_weigh_132
          refine w_Mo_without ⟨by omega, by omega⟩ (L := s.1) (m2.eo (fun k hk hk2 i => by rw [hE6 _ _ _ _ (by omega)]; exact q6 k i)) hpb (fun σ' g' hM' r2 r3 r4 r5 => ?_)
          have w16 : σ' 6 0 16 y8 = v := by rw [g' _ _ _ _ (by omega) (by omega), f10, up_at]
          have g6 : ∀ k i, k < 18 ∨ 31 ≤ k → ¬ (k = 16 ∧ i = y8) → σ' 6 0 k i = σ 6 0 k i := fun k i y0 y1 => by rw [g' _ _ _ _ (by omega) (by omega), hE6 _ _ _ _ (by omega)]; exact q6 k i
          have gc : ∀ c q k i, ¬ (c = 6 ∧ q = 0) → σ' c q k i = σ9 c q k i := fun c q k i y => by rw [g' _ _ _ _ (by omega) (by omega)]; exact hE6 _ _ _ _ (by omega)
          have gn2 : ∀ c q k i, ¬ (c = 6 ∧ q = 0) → ¬ (c = 1 ∧ q = 0) → ¬ (c = 4 ∧ q = 0 ∧ k < 4 ∧ i = 0) → ¬ (c = 3 ∧ q = p ∧ (k = 10 ∨ k = 11)) → ¬ (c = 3 ∧ q = p ∧ k = 8 ∧ i = x1) → σ' c q k i = σ c q k i := fun c q k i y1 y2 y3 y4 y5 => by rw [gc _ _ _ _ y1, g9 _ _ _ _ y2 y3 y4]; exact hE _ _ _ _ y5
          have w8 : σ' 3 p 8 x1 = v := by rw [gc _ _ _ _ (by omega)]; exact q8
          rw [ex]
          refine h2 σ' (Inv.mk3 hs hN.1 b2 b3 gc (fun c q k i y1 y2 y3 y4 => gn2 _ _ _ _ y1 y2 y3 (by omega) (by omega)) (fun k i hk => g6 k i (by omega) (by omega)) (fun i i0 i1 => ?_) (fun i i0 i1 => by rw [gn2 _ _ _ _ (by omega) (by omega) (by omega) (by omega) (by omega)]; exact e1.2.2.2.2.2.2.2 i i0 i1) (fun q r' q0 q1 r0 r1 => ⟨fun i i0 i1 => ?_, fun c c0 c1 => ?_, fun f' f0 f1 => ?_⟩) z10 hL9 hM' ⟨k2, k3, k4, k5⟩ ⟨r2, r3, r4, r5⟩)
          · by_cases q : i = x1
            · subst q; rw [w8]; omega
            · rw [gn2 _ _ _ _ (by omega) (by omega) (by omega) (by omega) (by omega)]; exact e1.2.2.2.2.2.2.1 i i0 i1
          · rw [g6 15 _ (by omega) (by omega), gn2 _ _ _ _ (by omega) (by omega) (by omega) (by omega) (by omega)]
            exact ((dP q q0 q1).2.2.2.2.2 r' r0 r1).2.1 i i0 i1
          · by_cases y : q = p ∧ r' = r ∧ c = w
            · obtain ⟨rfl, rfl, rfl⟩ := y
              have ec : r' * 10 + 4 + c = x1 := by omega
              rw [← ey8, ec, w16, w8]
            · rw [g6 16 _ (by omega) (by omega), gn2 _ _ _ _ (by omega) (by omega) (by omega) (by omega) (by omega)]
              exact ((dP q q0 q1).2.2.2.2.2 r' r0 r1).2.2.1 c c0 c1
          · rw [g6 17 _ (by omega) (by omega), gn2 _ _ _ _ (by omega) (by omega) (by omega) (by omega) (by omega)]
            exact ((dP q q0 q1).2.2.2.2.2 r' r0 r1).2.2.2 f' f0 f1
      exact ⟨hchr, fun y => go w (fun _ => rfl) (fun y' => absurd y' (by omega)), fun y => go (4 + w) (fun y' => absurd y' y) (fun _ => rfl)⟩
    · refine way σ Q2 (fun _ _ _ => rfl) (fun _ _ _ _ => rfl) h0 h1 ?_
      unfold Mo_weigh_47
      exact w_Mo_beyond hv ⟨by omega, by omega⟩ ⟨by omega, by omega⟩ (fun _ => ⟨⟨by omega, by omega⟩, fun y => absurd y (by omega), fun _ => h2 σ hs.here⟩) (fun y0 y1 => absurd (⟨y0, y1⟩ : -9 ≤ v ∧ v ≤ 9) z)
  refine ⟨fun yc => ?_, fun yc => ?_⟩
  · refine w_Pa_knowsLocal hw e1 (fun x0 x1 => ⟨⟨by omega, by omega⟩, fun _ => main (fun _ => ⟨x0, x1⟩) (fun y => absurd y (by omega)), fun y => absurd y (by omega)⟩) (fun z => ⟨⟨by omega, by omega⟩, fun y => absurd rfl y, fun _ => hQ (-1) σ ⟨⟨by omega, by omega⟩, fun Q2 h2 => ?_⟩⟩)
    unfold Mo_weigh Mo_weigh_45
    refine w_Mo_noRow hp hr' d7 hrows hpp hrb (fun y => absurd (⟨b2, b3, b4, b5⟩ : 0 ≤ p ∧ p < σ 5 0 3 0 ∧ 0 ≤ r ∧ r < σ 3 p 6 0) y) (fun _ _ _ _ => ⟨⟨by omega, by omega⟩, fun _ => ⟨hchr, fun _ => ⟨by omega, by omega, ?_⟩, fun y => absurd yc y⟩, fun y => absurd rfl y⟩)
    rw [hMp.2.2.1]
    exact w_Mo_beyond hw ⟨by omega, by omega⟩ ⟨by omega, by omega⟩ (fun _ => ⟨⟨by omega, by omega⟩, fun y => absurd y (by omega), fun _ => h2 σ hs.here⟩) (fun y0 y1 => absurd (⟨y0, by omega⟩ : 0 ≤ w ∧ w < σ 3 p 3 0) z)
  · refine w_Pa_isJoinedTo hw e1 (fun x0 => ⟨⟨by omega, by omega⟩, fun _ => main (fun y => absurd y yc) (fun _ => x0), fun y => absurd y (by omega)⟩) (fun z => ⟨⟨by omega, by omega⟩, fun y => absurd rfl y, fun _ => hQ (-1) σ ⟨⟨by omega, by omega⟩, fun Q2 h2 => ?_⟩⟩)
    unfold Mo_weigh Mo_weigh_45
    refine w_Mo_noRow hp hr' d7 hrows hpp hrb (fun y => absurd (⟨b2, b3, b4, b5⟩ : 0 ≤ p ∧ p < σ 5 0 3 0 ∧ 0 ≤ r ∧ r < σ 3 p 6 0) y) (fun _ _ _ _ => ⟨⟨by omega, by omega⟩, fun _ => ⟨hchr, fun y => absurd y yc, fun _ => ?_⟩, fun y => absurd rfl y⟩)
    refine w_Mo_placeOf e1 hMp b2 (by omega) hw (fun j x0 x1 x2 => absurd x2 (z j x0 x1)) (fun _ => ⟨⟨by omega, by omega⟩, fun y => absurd y (by omega), fun _ => h2 σ hs.here⟩)

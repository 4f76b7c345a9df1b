/-! ===== price, future, weight, part ===== -/
set_option maxHeartbeats 1000000 in
theorem op_price {σ : Mem} {N c v x : Int} {Q : Int → Mem → Prop} (hI : Inv σ N) (hN : 0 ≤ N ∧ N ≤ 1000) (hc : InR c) (hv : InR v) (hx : InR x) (hQ : ∀ r1 σ1, After (Mo_price c v x) (N + 1) r1 σ1 → Q r1 σ1) : Sr_price c v x σ Q := by
  obtain ⟨s, hs⟩ := hI
  obtain ⟨a1, a2, a3, a4, a5, a6, a7⟩ := id hs
  obtain ⟨c1, c2, c3, c4, c5, c6, c7, c8, c9, c10, c11, c12, c13, c14⟩ := id a4
  obtain ⟨m1, m2, m3, m4, m5, m6, m7, m8, m9, m10, m11⟩ := id a5
  obtain ⟨d0, d1, d2, d3, d5, d7, dP⟩ := id a3
  have hch := a1.1.1
  unfold Sr_price Sr_price_31
  refine w_Ch_knowsValue hc hv a1.1 (fun b0 b1 b2 b3 => ⟨⟨by omega, by omega⟩, fun _ => ?_, fun y => absurd y (by omega)⟩) (fun z => ⟨⟨by omega, by omega⟩, fun y => absurd rfl y, fun _ => hQ (-1) σ ⟨⟨by omega, by omega⟩, fun Q2 h2 => ?_⟩⟩)
  rotate_left
  · unfold Mo_price
    exact w_Mo_noValue hc hv d0 d1 hch a1.1.2.1 (fun _ => ⟨⟨by omega, by omega⟩, fun y => absurd y (by omega), fun _ => h2 σ hs.here⟩) (fun y0 y1 y2 y3 => absurd (⟨y0, y1, y2, y3⟩ : 0 ≤ c ∧ c < σ 0 0 0 0 ∧ 0 ≤ v ∧ v < σ 0 0 1 c) z)
  have bz := a1.1.2.1 c b0 b1
  have no2 : x ≠ -4 → ¬ (0 ≤ x ∧ x ≤ 200) → Q (-2) σ := by
    intro z z'
    refine hQ (-2) σ ⟨⟨by omega, by omega⟩, fun Q2 h2 => ?_⟩
    unfold Mo_price
    refine w_Mo_noValue hc hv d0 d1 hch a1.1.2.1 (fun y => absurd (⟨b0, b1, b2, b3⟩ : 0 ≤ c ∧ c < σ 0 0 0 0 ∧ 0 ≤ v ∧ v < σ 0 0 1 c) y) (fun _ _ _ _ => ⟨⟨by omega, by omega⟩, fun _ => ⟨hx, fun y => absurd y z, fun _ => ?_⟩, fun y => absurd rfl y⟩)
    exact w_Mo_beyond hx ⟨by omega, by omega⟩ ⟨by omega, by omega⟩ (fun _ => ⟨⟨by omega, by omega⟩, fun y => absurd y (by omega), fun _ => h2 σ hs.here⟩) (fun y0 y1 => absurd (⟨y0, y1⟩ : 0 ≤ x ∧ x ≤ 200) z')
  have yes : (x = -4 ∨ (0 ≤ x ∧ x ≤ 200)) → Sr_price_34 Q c v x σ := by
    intro hx2
    unfold Sr_price_34
    refine ⟨by omega, by omega, fun σ1 e1 => w_Pg_restart (fun σ9 k1 k2 k3 k4 k5 => hQ 1 σ9 ⟨⟨by omega, by omega⟩, fun Q2 h2 => ?_⟩)⟩
    have g9 : ∀ c' q k i, ¬ (c' = 4 ∧ q = 0 ∧ k < 4 ∧ i = 0) → ¬ (c' = 0 ∧ q = 0 ∧ k = 2 ∧ i = c * 4 + v) → σ9 c' q k i = σ c' q k i := fun c' q k i y w => by rw [k1 c' q k i y, e1, up_ne w]
    have g92 : σ9 0 0 2 (c * 4 + v) = x := by rw [k1 _ _ _ _ (by omega), e1, up_at]
    have q6 : ∀ k i, σ9 6 0 k i = σ 6 0 k i := fun k i => g9 _ _ _ _ (by omega) (by omega)
    have ek : 4 * c + v = c * 4 + v := by omega
    have mo : Mo_price_31 Q2 c v x σ9 := by
      have fin : ∀ (B P : Int), (x = -4 → B = 1) → (x ≠ -4 → B = 0 ∧ P = x) → Mo_price_73 Q2 (c * 4 + v) P (up σ9 6 0 3 (c * 4 + v) B) := by
        intro B P hB1 hB2
        unfold Mo_price_73
        refine ⟨by omega, by omega, fun σ3 e3 => w_Mo_anew (fun σ' r1 r2 r3 r4 r5 => ?_)⟩
        have g : ∀ c' q k i, ¬ (c' = 6 ∧ q = 0 ∧ 27 ≤ k ∧ k ≤ 30 ∧ i = 0) → ¬ (c' = 6 ∧ q = 0 ∧ k = 2 ∧ i = c * 4 + v) → ¬ (c' = 6 ∧ q = 0 ∧ k = 3 ∧ i = c * 4 + v) → σ' c' q k i = σ9 c' q k i := fun c' q k i x1 x2 x3 => by rw [r1 c' q k i x1, e3, up_ne x2, up_ne x3]
        have w2 : σ' 6 0 2 (c * 4 + v) = P := by rw [r1 _ _ _ _ (by omega), e3, up_at]
        have w3 : σ' 6 0 3 (c * 4 + v) = B := by rw [r1 _ _ _ _ (by omega), e3, up_ne (by omega), up_at]
        have w0 : σ' 0 0 2 (c * 4 + v) = x := by rw [g _ _ _ _ (by omega) (by omega) (by omega)]; exact g92
        have gg : ∀ c' q k i, ¬ (c' = 6 ∧ q = 0) → ¬ (c' = 4 ∧ q = 0 ∧ k < 4 ∧ i = 0) → ¬ (c' = 0 ∧ q = 0 ∧ k = 2 ∧ i = c * 4 + v) → σ' c' q k i = σ c' q k i := fun c' q k i x1 x2 x3 => by rw [g c' q k i (by omega) (by omega) (by omega)]; exact g9 c' q k i x2 x3
        have gm : ∀ k i, ¬ (27 ≤ k ∧ k ≤ 30 ∧ i = 0) → ¬ (k = 2 ∧ i = c * 4 + v) → ¬ (k = 3 ∧ i = c * 4 + v) → σ' 6 0 k i = σ 6 0 k i := fun k i x1 x2 x3 => by rw [g 6 0 k i (by omega) (by omega) (by omega)]; exact q6 k i
        have e3' : ∀ p k i, σ' 3 p k i = σ 3 p k i := fun p k i => gg _ _ _ _ (by omega) (by omega) (by omega)
        have PBs := PB.all a1 e3'
        have e00 : σ' 0 0 0 0 = σ 0 0 0 0 := gg _ _ _ _ (by omega) (by omega) (by omega)
        refine h2 σ' (Inv.mk0 (L := s.1) ⟨⟨by rw [e00]; exact hch, fun i x0 x1 => ?_, fun j x0 x1 => ?_⟩, a1.2.1.of (fun k j => gg _ _ _ _ (by omega) (by omega) (by omega)), by rw [gg _ _ _ _ (by omega) (by omega) (by omega)]; exact a1.2.2.1, fun p x0 x1 => ⟨(PBs p x0 x1).1, (PBs p x0 x1).2.1, (PBs p x0 x1).2.2, (a1.2.2.2 p x0 x1).2.2.2.of (by omega) (fun k j _ => e3' p k j)⟩⟩ ?_ ⟨by rw [gm _ _ (by omega) (by omega) (by omega), e00]; exact d0, fun i x0 x1 => ?_, fun j x0 x1 => ?_, fun i x0 x1 => ?_, ⟨?_, fun f x0 x1 => ?_⟩, ?_, fun p x0 x1 => (dP p x0 x1).dq2 (fun k _ j => e3' p k j) (fun k hk hk2 j => gm k j (by omega) (by omega) (by omega))⟩ (c3.eo (fun k j => gg _ _ _ _ (by omega) (by omega) (by omega))) (c4.eo (fun p k _ j => e3' p k j)) (m2.eo (fun k hk hk2 j => gm k j (by omega) (by omega) (by omega))) (fun i hc => (m3 i hc).grow (by rw [gg 5 _ _ _ (by omega) (by omega) (by omega)]; exact Int.le_refl _) (by rw [gg 2 _ _ _ (by omega) (by omega) (by omega)]; exact Int.le_refl _) (fun k j _ => e3' _ k j)) ⟨by rw [g _ _ _ _ (by omega) (by omega) (by omega)]; exact k2, by rw [g _ _ _ _ (by omega) (by omega) (by omega)]; exact k3, by rw [g _ _ _ _ (by omega) (by omega) (by omega)]; exact k4, by rw [g _ _ _ _ (by omega) (by omega) (by omega)]; exact k5⟩ ⟨r2, r3, r4, r5⟩ (by rw [gg _ _ _ _ (by omega) (by omega) (by omega)]; exact c11) (fun i x0 x1 => by rw [gg _ _ _ _ (by omega) (by omega) (by omega)]; exact a7.1 i x0 x1) (fun i x0 x1 => ?_) (by omega) (fun i hc => by have := a7.2.2.2 i hc; omega))
        · rw [e00] at x1
          rw [gg _ _ _ _ (by omega) (by omega) (by omega)]; exact a1.1.2.1 i x0 x1
        · by_cases q : j = c * 4 + v
          · subst q; rw [w0]; exact hx2
          · rw [gg _ _ _ _ (by omega) (by omega) (by omega)]; exact a1.1.2.2 j x0 x1
        · intro p x0 x1 j y0 y1
          rw [e3'] at y1
          rw [e3', e3', gg _ _ _ _ (by omega) (by omega) (by omega)]
          exact a2 p x0 x1 j y0 y1
        · rw [e00] at x1
          rw [gm _ _ (by omega) (by omega) (by omega), gg _ _ _ _ (by omega) (by omega) (by omega)]; exact d1 i x0 x1
        · by_cases q : j = c * 4 + v
          · subst q; rw [w0, w2, w3]; exact ⟨hB1, hB2⟩
          · rw [gm _ _ (by omega) (by omega) (by omega), gm _ _ (by omega) (by omega) (by omega), gg _ _ _ _ (by omega) (by omega) (by omega)]; exact d2 j x0 x1
        · rw [gm _ _ (by omega) (by omega) (by omega), gg _ _ _ _ (by omega) (by omega) (by omega)]; exact d3 i x0 x1
        · rw [gm _ _ (by omega) (by omega) (by omega), gg _ _ _ _ (by omega) (by omega) (by omega)]; exact d5.1
        · rw [gg 2 _ _ _ (by omega) (by omega) (by omega)] at x1
          rw [gm _ _ (by omega) (by omega) (by omega), gg _ _ _ _ (by omega) (by omega) (by omega)]; exact d5.2 f x0 x1
        · rw [gm _ _ (by omega) (by omega) (by omega), gg _ _ _ _ (by omega) (by omega) (by omega)]; exact d7
        · rw [e00] at x0
          have q := a7.2.1 i x0 x1
          exact ⟨by rw [gg _ _ _ _ (by omega) (by omega) (by omega)]; exact q.1, fun w v0 v1 => by rw [gg _ _ _ _ (by omega) (by omega) (by omega)]; exact q.2 w v0 v1⟩
      unfold Mo_price_31
      intro x1 e1'
      rw [ek] at e1'
      rw [e1']
      refine ⟨hx, fun y => ?_, fun y => ?_⟩
      · unfold Mo_price_55
        refine ⟨by omega, by omega, Or.inl rfl, fun σ3 e3 => ?_⟩
        rw [e3]
        exact ⟨hx, fun _ => fin 0 x (fun y' => absurd y' y) (fun _ => ⟨rfl, rfl⟩), fun y' => absurd y' y⟩
      · unfold Mo_price_55
        refine ⟨by omega, by omega, Or.inr rfl, fun σ3 e3 => ?_⟩
        rw [e3]
        exact ⟨hx, fun y' => absurd y y', fun _ => fin 1 0 (fun _ => rfl) (fun y' => absurd y y')⟩
    unfold Mo_price
    refine w_Mo_noValue hc hv (by rw [q6]; exact d0) (fun i x0 x1 => by rw [q6]; exact d1 i x0 x1) hch a1.1.2.1 (fun y => absurd (⟨b0, b1, b2, b3⟩ : 0 ≤ c ∧ c < σ 0 0 0 0 ∧ 0 ≤ v ∧ v < σ 0 0 1 c) y) (fun _ _ _ _ => ⟨⟨by omega, by omega⟩, fun _ => ⟨hx, fun y => mo, fun y => ?_⟩, fun y => absurd rfl y⟩)
    exact w_Mo_beyond hx ⟨by omega, by omega⟩ ⟨by omega, by omega⟩ (fun y' => absurd y' (by omega)) (fun _ _ => ⟨⟨by omega, by omega⟩, fun _ => mo, fun y => absurd rfl y⟩)
  exact ⟨hx, fun z => yes (Or.inl z), fun z => ⟨hx, fun y => no2 z (by omega), fun y => ⟨hx, fun y' => yes (Or.inr ⟨y, y'⟩), fun y' => no2 z (by omega)⟩⟩⟩
/-- what a change of futures and of the count of parts leaves -/
theorem Inv.mk1 {σ σ' : Mem} {N : Int} {s : St} (hs : IS σ N s) (hN : 0 ≤ N) (gg : ∀ c q k i, ¬ (c = 6 ∧ q = 0) → ¬ (c = 4 ∧ q = 0 ∧ k < 4 ∧ i = 0) → ¬ (c = 2 ∧ q = 0) → ¬ (c = 5 ∧ q = 0 ∧ k = 3 ∧ i = 0) → σ' c q k i = σ c q k i) (gm : ∀ k i, ¬ (27 ≤ k ∧ k ≤ 30 ∧ i = 0) → ¬ (5 ≤ k ∧ k ≤ 7) → σ' 6 0 k i = σ 6 0 k i) (hF : FuB σ') (hF2 : σ 2 0 0 0 ≤ σ' 2 0 0 0) (hP : σ 5 0 3 0 ≤ σ' 5 0 3 0 ∧ σ' 5 0 3 0 ≤ 4) (h5 : σ' 6 0 5 0 = σ' 2 0 0 0 ∧ ∀ f, 0 ≤ f → f < σ' 2 0 0 0 → σ' 6 0 6 f = σ' 2 0 1 f) (h7 : σ' 6 0 7 0 = σ' 5 0 3 0) (z1 : σ' 4 0 0 0 = 0 ∧ σ' 4 0 1 0 = 0 ∧ σ' 4 0 2 0 = -4 ∧ σ' 4 0 3 0 = -4) (z2 : σ' 6 0 27 0 = 0 ∧ σ' 6 0 28 0 = 0 ∧ σ' 6 0 29 0 = 0 ∧ σ' 6 0 30 0 = 0) : Inv σ' (N + 1) := by
  obtain ⟨a1, a2, a3, a4, a5, a6, a7⟩ := id hs
  obtain ⟨c1, c2, c3, c4, c5, c6, c7, c8, c9, c10, c11, c12, c13, c14⟩ := id a4
  obtain ⟨m1, m2, m3, m4, m5, m6, m7, m8, m9, m10, m11⟩ := id a5
  obtain ⟨d0, d1, d2, d3, d5, d7, dP⟩ := id a3
  have hpp := a1.2.2.1
  have e3' : ∀ p k i, σ' 3 p k i = σ 3 p k i := fun p k i => gg _ _ _ _ (by omega) (by omega) (by omega) (by omega)
  have e0' : ∀ k i, σ' 0 0 k i = σ 0 0 k i := fun k i => gg _ _ _ _ (by omega) (by omega) (by omega) (by omega)
  have PBs := PB.all a1 e3'
  refine Inv.mk0 (L := s.1) ⟨a1.1.of e0', hF, by omega, fun p x0 x1 => ⟨(PBs p x0 x1).1, (PBs p x0 x1).2.1, (PBs p x0 x1).2.2, (a1.2.2.2 p x0 x1).2.2.2.of (by rw [e0']; exact Int.le_refl _) (fun k j _ => e3' p k j)⟩⟩ ?_ ⟨by rw [gm _ _ (by omega) (by omega), e0']; exact d0, fun i x0 x1 => ?_, fun j x0 x1 => ?_, fun i x0 x1 => ?_, h5, h7, fun p x0 x1 => (dP p x0 x1).dq2 (fun k _ j => e3' p k j) (fun k hk hk2 j => gm k j (by omega) (by omega))⟩ (c3.eo (fun k j => gg _ _ _ _ (by omega) (by omega) (by omega) (by omega))) (c4.eo (fun p k _ j => e3' p k j)) (m2.eo (fun k hk hk2 j => gm k j (by omega) (by omega))) (fun i hc => (m3 i hc).grow hP.1 hF2 (fun k j _ => e3' _ k j)) z1 z2 (by rw [gg _ _ _ _ (by omega) (by omega) (by omega) (by omega)]; exact c11) (fun i x0 x1 => by rw [e0']; exact a7.1 i x0 x1) (fun i x0 x1 => ?_) (by omega) (fun i hc => by have := a7.2.2.2 i hc; omega)
  · intro p x0 x1 j y0 y1
    rw [e3'] at y1
    rw [e3', e3', e0']
    exact a2 p x0 x1 j y0 y1
  · rw [e0'] at x1
    rw [gm _ _ (by omega) (by omega), e0']; exact d1 i x0 x1
  · rw [gm _ _ (by omega) (by omega), gm _ _ (by omega) (by omega), e0']; exact d2 j x0 x1
  · rw [gm _ _ (by omega) (by omega), e0']; exact d3 i x0 x1
  · rw [e0'] at x0
    have q := a7.2.1 i x0 x1
    exact ⟨by rw [e0']; exact q.1, fun w v0 v1 => by rw [e0']; exact q.2 w v0 v1⟩
theorem op_future {σ : Mem} {N w : Int} {Q : Int → Mem → Prop} (hI : Inv σ N) (hN : 0 ≤ N ∧ N ≤ 1000) (hw : InR w) (hQ : ∀ r1 σ1, After (Mo_future w) (N + 1) r1 σ1 → Q r1 σ1) : Sr_future w σ Q := by
  obtain ⟨s, hs⟩ := hI
  obtain ⟨a1, a2, a3, a4, a5, a6, a7⟩ := id hs
  obtain ⟨d0, d1, d2, d3, ⟨d5, d6⟩, d7, dP⟩ := id a3
  have hff := a1.2.1.1
  unfold Sr_future
  refine w_Sr_isWeight hw (fun b0 b1 => ⟨⟨by omega, by omega⟩, fun _ => ⟨⟨by omega, by omega⟩, fun z3 => ⟨by omega, by omega, fun σ7 e7 σ8 e8 => w_Pg_restart (fun σ9 k1 k2 k3 k4 k5 => ?_)⟩, fun z3 => hQ (-3) σ ⟨⟨by omega, by omega⟩, fun Q2 h2 => ?_⟩⟩, fun y => absurd y (by omega)⟩) (fun z => ⟨⟨by omega, by omega⟩, fun y => absurd rfl y, fun _ => hQ (-2) σ ⟨⟨by omega, by omega⟩, fun Q2 h2 => ?_⟩⟩)
  · have e70 : σ7 2 0 0 0 = σ 2 0 0 0 := by rw [e7, up_ne (by omega)]
    rw [e70] at e8
    have g9 : ∀ c q k i, ¬ (c = 4 ∧ q = 0 ∧ k < 4 ∧ i = 0) → ¬ (c = 2 ∧ q = 0 ∧ k = 0 ∧ i = 0) → ¬ (c = 2 ∧ q = 0 ∧ k = 1 ∧ i = σ 2 0 0 0) → σ9 c q k i = σ c q k i := fun c q k i x y w => by rw [k1 c q k i x, e8, up_ne y, e7, up_ne w]
    have g90 : σ9 2 0 0 0 = σ 2 0 0 0 + 1 := by rw [k1 _ _ _ _ (by omega), e8, up_at]
    have g91 : σ9 2 0 1 (σ 2 0 0 0) = w := by rw [k1 _ _ _ _ (by omega), e8, up_ne (by omega), e7, up_at]
    have q6 : ∀ k i, σ9 6 0 k i = σ 6 0 k i := fun k i => g9 _ _ _ _ (by omega) (by omega) (by omega)
    have er : σ 2 0 0 0 + 1 - 1 = σ 2 0 0 0 := by omega
    rw [g90, er]
    refine hQ _ σ9 ⟨⟨by omega, by omega⟩, fun Q2 h2 => ?_⟩
    unfold Mo_future
    refine w_Mo_beyond hw ⟨by omega, by omega⟩ ⟨by omega, by omega⟩ (fun y => absurd y (by omega)) (fun _ _ => ⟨⟨by omega, by omega⟩, fun _ => ?_, fun y => absurd rfl y⟩)
    rw [q6, d5]
    refine ⟨⟨by omega, by omega⟩, fun _ => ⟨by omega, by omega, fun σ5 e5 σ6 e6 => w_Mo_anew (fun σ' r1 r2 r3 r4 r5 => ?_)⟩, fun y => absurd y (by omega)⟩
    have e55 : σ5 6 0 5 0 = σ 2 0 0 0 := by rw [e5, up_ne (by omega), q6]; exact d5
    rw [e55] at e6
    have g : ∀ c q k i, ¬ (c = 6 ∧ q = 0 ∧ 27 ≤ k ∧ k ≤ 30 ∧ i = 0) → ¬ (c = 6 ∧ q = 0 ∧ k = 5 ∧ i = 0) → ¬ (c = 6 ∧ q = 0 ∧ k = 6 ∧ i = σ 2 0 0 0) → σ' c q k i = σ9 c q k i := fun c q k i x1 x2 x3 => by rw [r1 c q k i x1, e6, up_ne x2, e5, up_ne x3]
    have w5 : σ' 6 0 5 0 = σ 2 0 0 0 + 1 := by rw [r1 _ _ _ _ (by omega), e6, up_at]
    have w6 : σ' 6 0 6 (σ 2 0 0 0) = w := by rw [r1 _ _ _ _ (by omega), e6, up_ne (by omega), e5, up_at]
    have w0 : σ' 2 0 0 0 = σ 2 0 0 0 + 1 := by rw [g _ _ _ _ (by omega) (by omega) (by omega)]; exact g90
    have w1 : σ' 2 0 1 (σ 2 0 0 0) = w := by rw [g _ _ _ _ (by omega) (by omega) (by omega)]; exact g91
    have gf : ∀ f, f ≠ σ 2 0 0 0 → σ' 2 0 1 f = σ 2 0 1 f := fun f hf => by rw [g _ _ _ _ (by omega) (by omega) (by omega)]; exact g9 _ _ _ _ (by omega) (by omega) (by omega)
    have g6f : ∀ f, f ≠ σ 2 0 0 0 → σ' 6 0 6 f = σ 6 0 6 f := fun f hf => by rw [g _ _ _ _ (by omega) (by omega) (by omega)]; exact q6 _ _
    have e53 : σ' 5 0 3 0 = σ 5 0 3 0 := by rw [g _ _ _ _ (by omega) (by omega) (by omega)]; exact g9 _ _ _ _ (by omega) (by omega) (by omega)
    rw [w5, er]
    refine h2 σ' (Inv.mk1 hs hN.1 (fun c q k i x1 x2 x3 x4 => by rw [g c q k i (by omega) (by omega) (by omega)]; exact g9 c q k i (by omega) (by omega) (by omega)) (fun k i x1 x2 => by rw [g 6 0 k i (by omega) (by omega) (by omega)]; exact q6 k i) ⟨by omega, fun f f0 f1 => ?_⟩ (by omega) (by have := a1.2.2.1; omega) ⟨by omega, fun f f0 f1 => ?_⟩ ?_ ⟨by rw [g _ _ _ _ (by omega) (by omega) (by omega)]; exact k2, by rw [g _ _ _ _ (by omega) (by omega) (by omega)]; exact k3, by rw [g _ _ _ _ (by omega) (by omega) (by omega)]; exact k4, by rw [g _ _ _ _ (by omega) (by omega) (by omega)]; exact k5⟩ ⟨r2, r3, r4, r5⟩)
    · by_cases q : f = σ 2 0 0 0
      · subst q; rw [w1]; omega
      · rw [gf f q]; exact a1.2.1.2 f f0 (by omega)
    · by_cases q : f = σ 2 0 0 0
      · subst q; rw [w1, w6]
      · rw [gf f q, g6f f q]; exact d6 f f0 (by omega)
    · rw [e53, g _ _ _ _ (by omega) (by omega) (by omega), q6]; exact d7
  · unfold Mo_future
    refine w_Mo_beyond hw ⟨by omega, by omega⟩ ⟨by omega, by omega⟩ (fun y => absurd y (by omega)) (fun _ _ => ⟨⟨by omega, by omega⟩, fun _ => ?_, fun y => absurd rfl y⟩)
    rw [d5]
    exact ⟨⟨by omega, by omega⟩, fun y => absurd y (by omega), fun _ => h2 σ hs.here⟩
  · unfold Mo_future
    exact w_Mo_beyond hw ⟨by omega, by omega⟩ ⟨by omega, by omega⟩ (fun _ => ⟨⟨by omega, by omega⟩, fun y => absurd y (by omega), fun _ => h2 σ hs.here⟩) (fun y0 y1 => absurd (⟨y0, y1⟩ : 1 ≤ w ∧ w ≤ 20) z)
theorem op_weight {σ : Mem} {N f w : Int} {Q : Int → Mem → Prop} (hI : Inv σ N) (hN : 0 ≤ N ∧ N ≤ 1000) (hf : InR f) (hw : InR w) (hQ : ∀ r1 σ1, After (Mo_weight f w) (N + 1) r1 σ1 → Q r1 σ1) : Sr_weight f w σ Q := by
  obtain ⟨s, hs⟩ := hI
  obtain ⟨a1, a2, a3, a4, a5, a6, a7⟩ := id hs
  obtain ⟨d0, d1, d2, d3, ⟨d5, d6⟩, d7, dP⟩ := id a3
  have hff := a1.2.1.1
  unfold Sr_weight
  refine w_Fu_knows hf a1.2.1 (fun b0 b1 => ⟨⟨by omega, by omega⟩, fun _ => ?_, fun y => absurd y (by omega)⟩) (fun z => ⟨⟨by omega, by omega⟩, fun y => absurd rfl y, fun _ => hQ (-1) σ ⟨⟨by omega, by omega⟩, fun Q2 h2 => ?_⟩⟩)
  · have bw := a1.2.1.2 f b0 b1
    refine w_Sr_isWeight hw (fun b2 b3 => ⟨⟨by omega, by omega⟩, fun _ => ⟨by omega, by omega, fun x6 e6 => ⟨by omega, by omega, fun σ7 e7 => w_Pg_restart (fun σ9 k1 k2 k3 k4 k5 => hQ x6 σ9 ⟨⟨by omega, by omega⟩, fun Q2 h2 => ?_⟩)⟩⟩, fun y => absurd y (by omega)⟩) (fun z => ⟨⟨by omega, by omega⟩, fun y => absurd rfl y, fun _ => hQ (-2) σ ⟨⟨by omega, by omega⟩, fun Q2 h2 => ?_⟩⟩)
    · have g9 : ∀ c q k i, ¬ (c = 4 ∧ q = 0 ∧ k < 4 ∧ i = 0) → ¬ (c = 2 ∧ q = 0 ∧ k = 1 ∧ i = f) → σ9 c q k i = σ c q k i := fun c q k i x y => by rw [k1 c q k i x, e7, up_ne y]
      have g91 : σ9 2 0 1 f = w := by rw [k1 _ _ _ _ (by omega), e7, up_at]
      have q6 : ∀ k i, σ9 6 0 k i = σ 6 0 k i := fun k i => g9 _ _ _ _ (by omega) (by omega)
      unfold Mo_weight
      refine w_Mo_noFuture hf (by rw [q6]; exact d5) hff (fun y => absurd (⟨b0, b1⟩ : 0 ≤ f ∧ f < σ 2 0 0 0) y) (fun _ _ => ⟨⟨by omega, by omega⟩, fun _ => ?_, fun y => absurd rfl y⟩)
      refine w_Mo_beyond hw ⟨by omega, by omega⟩ ⟨by omega, by omega⟩ (fun y => absurd y (by omega)) (fun _ _ => ⟨⟨by omega, by omega⟩, fun _ => ⟨by omega, by omega, fun x7 e7' => ⟨by omega, by omega, fun σ5 e5 => w_Mo_anew (fun σ' r1 r2 r3 r4 r5 => ?_)⟩⟩, fun y => absurd rfl y⟩)
      have ex : x7 = x6 := by rw [e7', q6, d6 f b0 b1, e6]
      rw [ex]
      have g : ∀ c q k i, ¬ (c = 6 ∧ q = 0 ∧ 27 ≤ k ∧ k ≤ 30 ∧ i = 0) → ¬ (c = 6 ∧ q = 0 ∧ k = 6 ∧ i = f) → σ' c q k i = σ9 c q k i := fun c q k i x1 x3 => by rw [r1 c q k i x1, e5, up_ne x3]
      have w6 : σ' 6 0 6 f = w := by rw [r1 _ _ _ _ (by omega), e5, up_at]
      have w0 : σ' 2 0 0 0 = σ 2 0 0 0 := by rw [g _ _ _ _ (by omega) (by omega)]; exact g9 _ _ _ _ (by omega) (by omega)
      have w1 : σ' 2 0 1 f = w := by rw [g _ _ _ _ (by omega) (by omega)]; exact g91
      have gf : ∀ i, i ≠ f → σ' 2 0 1 i = σ 2 0 1 i := fun i hf => by rw [g _ _ _ _ (by omega) (by omega)]; exact g9 _ _ _ _ (by omega) (by omega)
      have g6f : ∀ i, i ≠ f → σ' 6 0 6 i = σ 6 0 6 i := fun i hf => by rw [g _ _ _ _ (by omega) (by omega)]; exact q6 _ _
      have e53 : σ' 5 0 3 0 = σ 5 0 3 0 := by rw [g _ _ _ _ (by omega) (by omega)]; exact g9 _ _ _ _ (by omega) (by omega)
      refine h2 σ' (Inv.mk1 hs hN.1 (fun c q k i x1 x2 x3 x4 => by rw [g c q k i (by omega) (by omega)]; exact g9 c q k i (by omega) (by omega)) (fun k i x1 x2 => by rw [g 6 0 k i (by omega) (by omega)]; exact q6 k i) ⟨by omega, fun i f0 f1 => ?_⟩ (by omega) (by have := a1.2.2.1; omega) ⟨?_, fun i f0 f1 => ?_⟩ ?_ ⟨by rw [g _ _ _ _ (by omega) (by omega)]; exact k2, by rw [g _ _ _ _ (by omega) (by omega)]; exact k3, by rw [g _ _ _ _ (by omega) (by omega)]; exact k4, by rw [g _ _ _ _ (by omega) (by omega)]; exact k5⟩ ⟨r2, r3, r4, r5⟩)
      · by_cases q : i = f
        · subst q; rw [w1]; omega
        · rw [gf i q]; exact a1.2.1.2 i f0 (by omega)
      · rw [w0, g _ _ _ _ (by omega) (by omega), q6]; exact d5
      · by_cases q : i = f
        · subst q; rw [w1, w6]
        · rw [gf i q, g6f i q]; exact d6 i f0 (by omega)
      · rw [e53, g _ _ _ _ (by omega) (by omega), q6]; exact d7
    · unfold Mo_weight
      refine w_Mo_noFuture hf d5 hff (fun y => absurd (⟨b0, b1⟩ : 0 ≤ f ∧ f < σ 2 0 0 0) y) (fun _ _ => ⟨⟨by omega, by omega⟩, fun _ => ?_, fun y => absurd rfl y⟩)
      exact w_Mo_beyond hw ⟨by omega, by omega⟩ ⟨by omega, by omega⟩ (fun _ => ⟨⟨by omega, by omega⟩, fun y => absurd y (by omega), fun _ => h2 σ hs.here⟩) (fun y0 y1 => absurd (⟨y0, y1⟩ : 1 ≤ w ∧ w ≤ 20) z)
  · unfold Mo_weight
    exact w_Mo_noFuture hf d5 hff (fun _ => ⟨⟨by omega, by omega⟩, fun y => absurd y (by omega), fun _ => h2 σ hs.here⟩) (fun y0 y1 => absurd (⟨y0, y1⟩ : 0 ≤ f ∧ f < σ 2 0 0 0) z)
theorem op_part {σ : Mem} {N : Int} {Q : Int → Mem → Prop} (hI : Inv σ N) (hN : 0 ≤ N ∧ N ≤ 1000) (hQ : ∀ r1 σ1, After Mo_part (N + 1) r1 σ1 → Q r1 σ1) : Sr_part σ Q := by
  obtain ⟨s, hs⟩ := hI
  obtain ⟨a1, a2, a3, a4, a5, a6, a7⟩ := id hs
  obtain ⟨d0, d1, d2, d3, ⟨d5, d6⟩, d7, dP⟩ := id a3
  have hpp := a1.2.2.1
  unfold Sr_part
  refine ⟨⟨by omega, by omega⟩, fun z => fun σ3 e3 => w_Pg_restart (fun σ9 k1 k2 k3 k4 k5 => ?_), fun z => hQ (-3) σ ⟨⟨by omega, by omega⟩, fun Q2 h2 => ?_⟩⟩
  · have g9 : ∀ c q k i, ¬ (c = 4 ∧ q = 0 ∧ k < 4 ∧ i = 0) → ¬ (c = 5 ∧ q = 0 ∧ k = 3 ∧ i = 0) → σ9 c q k i = σ c q k i := fun c q k i x y => by rw [k1 c q k i x, e3, up_ne y]
    have g90 : σ9 5 0 3 0 = σ 5 0 3 0 + 1 := by rw [k1 _ _ _ _ (by omega), e3, up_at]
    have q6 : ∀ k i, σ9 6 0 k i = σ 6 0 k i := fun k i => g9 _ _ _ _ (by omega) (by omega)
    have er : σ 5 0 3 0 + 1 - 1 = σ 5 0 3 0 := by omega
    rw [g90, er]
    refine hQ _ σ9 ⟨⟨by omega, by omega⟩, fun Q2 h2 => ?_⟩
    unfold Mo_part
    rw [q6, d7]
    refine ⟨⟨by omega, by omega⟩, fun _ => fun σ4 e4 => w_Mo_anew (fun σ' r1 r2 r3 r4 r5 => ?_), fun y => absurd y (by omega)⟩
    have g : ∀ c q k i, ¬ (c = 6 ∧ q = 0 ∧ 27 ≤ k ∧ k ≤ 30 ∧ i = 0) → ¬ (c = 6 ∧ q = 0 ∧ k = 7 ∧ i = 0) → σ' c q k i = σ9 c q k i := fun c q k i x1 x3 => by rw [r1 c q k i x1, e4, up_ne x3]
    have w7 : σ' 6 0 7 0 = σ 5 0 3 0 + 1 := by rw [r1 _ _ _ _ (by omega), e4, up_at]
    have w0 : σ' 5 0 3 0 = σ 5 0 3 0 + 1 := by rw [g _ _ _ _ (by omega) (by omega)]; exact g90
    have g2 : ∀ k i, σ' 2 0 k i = σ 2 0 k i := fun k i => by rw [g _ _ _ _ (by omega) (by omega)]; exact g9 _ _ _ _ (by omega) (by omega)
    have gm : ∀ k i, ¬ (27 ≤ k ∧ k ≤ 30 ∧ i = 0) → k ≠ 7 → σ' 6 0 k i = σ 6 0 k i := fun k i x1 x2 => by rw [g 6 0 k i (by omega) (by omega)]; exact q6 k i
    rw [w7, er]
    refine h2 σ' (Inv.mk1 hs hN.1 (fun c q k i x1 x2 x3 x4 => by rw [g c q k i (by omega) (by omega)]; exact g9 c q k i (by omega) (by omega)) (fun k i x1 x2 => gm k i x1 (by omega)) (a1.2.1.of g2) (by rw [g2]; exact Int.le_refl _) (by omega) ⟨by rw [g2, gm _ _ (by omega) (by omega)]; exact d5, fun f f0 f1 => by rw [g2] at f1; rw [g2, gm _ _ (by omega) (by omega)]; exact d6 f f0 f1⟩ (by omega) ⟨by rw [g _ _ _ _ (by omega) (by omega)]; exact k2, by rw [g _ _ _ _ (by omega) (by omega)]; exact k3, by rw [g _ _ _ _ (by omega) (by omega)]; exact k4, by rw [g _ _ _ _ (by omega) (by omega)]; exact k5⟩ ⟨r2, r3, r4, r5⟩)
  · unfold Mo_part
    rw [d7]
    exact ⟨⟨by omega, by omega⟩, fun y => absurd y (by omega), fun _ => h2 σ hs.here⟩

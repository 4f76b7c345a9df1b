/-! ===== calls that tell something: all begins anew ===== -/
theorem w_Pg_restart {σ : Mem} {Q : Mem → Prop} (hQ : ∀ σ', (∀ c q k i, ¬ (c = 4 ∧ q = 0 ∧ k < 4 ∧ i = 0) → σ' c q k i = σ c q k i) → σ' 4 0 0 0 = 0 → σ' 4 0 1 0 = 0 → σ' 4 0 2 0 = -4 → σ' 4 0 3 0 = -4 → Q σ') : Pg_restart σ Q := by
  unfold Pg_restart
  intro σ1 e1 σ2 e2 σ3 e3 σ4 e4
  refine hQ σ4 (fun c q k i z => ?_) ?_ ?_ ?_ ?_
  · rw [e4, up_ne (by omega), e3, up_ne (by omega), e2, up_ne (by omega), e1, up_ne (by omega)]
  · rw [e4, up_ne (by omega), e3, up_ne (by omega), e2, up_ne (by omega), e1, up_at]
  · rw [e4, up_ne (by omega), e3, up_ne (by omega), e2, up_at]
  · rw [e4, up_ne (by omega), e3, up_at]
  · rw [e4, up_at]
theorem w_Mo_anew {σ : Mem} {Q : Mem → Prop} (hQ : ∀ σ', (∀ c q k i, ¬ (c = 6 ∧ q = 0 ∧ 27 ≤ k ∧ k ≤ 30 ∧ i = 0) → σ' c q k i = σ c q k i) → σ' 6 0 27 0 = 0 → σ' 6 0 28 0 = 0 → σ' 6 0 29 0 = 0 → σ' 6 0 30 0 = 0 → Q σ') : Mo_anew σ Q := by
  unfold Mo_anew
  intro σ1 e1 σ2 e2 σ3 e3 σ4 e4
  refine hQ σ4 (fun c q k i z => ?_) ?_ ?_ ?_ ?_
  · rw [e4, up_ne (by omega), e3, up_ne (by omega), e2, up_ne (by omega), e1, up_ne (by omega)]
  · rw [e4, up_ne (by omega), e3, up_ne (by omega), e2, up_ne (by omega), e1, up_at]
  · rw [e4, up_ne (by omega), e3, up_ne (by omega), e2, up_at]
  · rw [e4, up_ne (by omega), e3, up_at]
  · rw [e4, up_at]
theorem Inv.mk0 {σ : Mem} {N : Int} {L : List CutT} (hC : CW σ) (hJ : JS σ) (hM : MD σ) (hL : RepC σ L) (hF : FlO σ L) (hR : RepM σ L) (hok : ∀ c ∈ L, okC σ c) (z1 : σ 4 0 0 0 = 0 ∧ σ 4 0 1 0 = 0 ∧ σ 4 0 2 0 = -4 ∧ σ 4 0 3 0 = -4) (z2 : σ 6 0 27 0 = 0 ∧ σ 6 0 28 0 = 0 ∧ σ 6 0 29 0 = 0 ∧ σ 6 0 30 0 = 0) (z7 : σ 5 0 7 0 = 0) (x1 : ∀ c, 0 ≤ c → c < 6 → 0 ≤ σ 0 0 3 c ∧ σ 0 0 3 c < 4) (x2 : ∀ c, σ 0 0 0 0 ≤ c → c < 6 → σ 0 0 3 c = 0 ∧ ∀ v, 0 ≤ v → v < 4 → σ 0 0 2 (c * 4 + v) = 0) (hN : 0 ≤ N) (x3 : ∀ c ∈ L, c.2.2.2.1 ≤ 50 * N) : Inv σ N :=
  ⟨(L, 0, 0, -4, -4, fun _ => 0, fun _ => 0), hC, hJ, hM, ⟨Eo.rf, fun q a b => ⟨(hC.2.2.2 q a b).2.1, (hC.2.2.2 q a b).2.2.1⟩, hL, hF, z1.1, z1.2.1, z1.2.2.1, z1.2.2.2, fun z => absurd rfl z, fun z => absurd rfl z, z7, Or.inl rfl, Or.inl rfl, ⟨Int.le_refl _, (show (0 : Int) ≤ 2 by decide)⟩⟩, ⟨Eo.rf, hR, hok, z2.1, z2.2.1, ⟨fun _ => z2.2.2.2, fun z => absurd rfl z⟩, ⟨fun _ => z2.2.2.1, fun z => absurd rfl z⟩, Or.inl rfl, Or.inl rfl, ⟨Int.le_refl _, (show (0 : Int) ≤ 2 by decide)⟩, Int.le_refl _⟩, ⟨fun z => absurd rfl z, fun z => absurd rfl z⟩, x1, x2, (show (0 : Int) ≤ 50 * N by omega), x3⟩
theorem okC.grow {σ μ : Mem} {c : CutT} (h : okC σ c) (h5 : σ 5 0 3 0 ≤ μ 5 0 3 0) (h2 : σ 2 0 0 0 ≤ μ 2 0 0 0) (e3 : ∀ k i, k < 10 → μ 3 c.1 k i = σ 3 c.1 k i) : okC μ c := by
  obtain ⟨o1, o2, o3, o4, o5, o6⟩ := h
  refine ⟨by omega, by omega, o3, o4, o5, fun r hr => ?_⟩
  obtain ⟨a, j, b, c', d⟩ := o6 r hr
  exact ⟨a, j, b, by rw [e3 0 _ (by omega)]; exact c', by rw [e3 1 _ (by omega)]; exact d⟩
theorem PB.all {σ μ : Mem} (h : CW σ) (e3 : ∀ p k i, μ 3 p k i = σ 3 p k i) : ∀ p, 0 ≤ p → p < 4 → PB μ p ∧ AO μ p ∧ FO μ p := fun p a b => by
  obtain ⟨a1, a2, a3, a4⟩ := h.2.2.2 p a b
  exact ⟨a1.eo (fun k _ i => e3 p k i), a2.eo (fun k _ i => e3 p k i), a3.eo (fun i => e3 p 11 i)⟩
theorem FuB.of {σ μ : Mem} (h : FuB σ) (e : ∀ k i, μ 2 0 k i = σ 2 0 k i) : FuB μ := by
  unfold FuB at *
  simp only [e]
  exact h
theorem ChB.of {σ μ : Mem} (h : ChB σ) (e : ∀ k i, μ 0 0 k i = σ 0 0 k i) : ChB μ := by
  unfold ChB at *
  simp only [e]
  exact h
theorem JB.of {σ μ : Mem} {p : Int} (h : JB σ p) (e0 : σ 0 0 0 0 ≤ μ 0 0 0 0) (e3 : ∀ k i, k < 2 → μ 3 p k i = σ 3 p k i) : JB μ p := by
  intro j j0 j1
  rw [e3 0 _ (by omega)] at j1
  obtain ⟨a, b⟩ := h j j0 j1
  rw [e3 1 _ (by omega)]
  refine ⟨by omega, fun i i0 i1 => ?_⟩
  rw [e3 1 _ (by omega)]
  exact b i i0 i1
set_option maxHeartbeats 1000000 in
theorem op_choice {σ : Mem} {N n : Int} {Q : Int → Mem → Prop} (hI : Inv σ N) (hN : 0 ≤ N ∧ N ≤ 1000) (hn : InR n) (hQ : ∀ r1 σ1, After (Mo_choice n) (N + 1) r1 σ1 → Q r1 σ1) : Sr_choice n σ Q := by
  obtain ⟨s, hs⟩ := hI
  obtain ⟨a1, a2, a3, a4, a5, a6, a7⟩ := id hs
  obtain ⟨c1, c2, c3, c4, c5, c6, c7, c8, c9, c10, c11, c12, c13, c14⟩ := id a4
  obtain ⟨m1, m2, m3, m4, m5, m6, m7, m8, m9, m10, m11⟩ := id a5
  obtain ⟨d0, d1, d2, d3, d5, d7, dP⟩ := id a3
  have hch := a1.1.1
  have no2 : ¬ (2 ≤ n ∧ n ≤ 4) → Q (-2) σ := by
    intro z
    refine hQ (-2) σ ⟨⟨by omega, by omega⟩, fun Q2 h2 => ?_⟩
    unfold Mo_choice
    exact w_Mo_beyond hn ⟨by omega, by omega⟩ ⟨by omega, by omega⟩ (fun _ => ⟨⟨by omega, by omega⟩, fun y => absurd y (by omega), fun _ => h2 σ hs.here⟩) (fun y0 y1 => absurd (⟨y0, y1⟩ : 2 ≤ n ∧ n ≤ 4) z)
  unfold Sr_choice Sr_choice_10
  refine ⟨hn, fun z => no2 (by omega), fun z => ⟨hn, fun z2 => ⟨⟨by omega, by omega⟩, fun z3 => ⟨by omega, by omega, fun σ7 e7 σ8 e8 => w_Pg_restart (fun σ9 k1 k2 k3 k4 k5 => ?_)⟩, fun z3 => hQ (-3) σ ⟨⟨by omega, by omega⟩, fun Q2 h2 => ?_⟩⟩, fun z2 => no2 (by omega)⟩⟩
  · have e70 : σ7 0 0 0 0 = σ 0 0 0 0 := by rw [e7, up_ne (by omega)]
    rw [e70] at e8
    have g9 : ∀ c q k i, ¬ (c = 4 ∧ q = 0 ∧ k < 4 ∧ i = 0) → ¬ (c = 0 ∧ q = 0 ∧ k = 0 ∧ i = 0) → ¬ (c = 0 ∧ q = 0 ∧ k = 1 ∧ i = σ 0 0 0 0) → σ9 c q k i = σ c q k i := fun c q k i x y w => by rw [k1 c q k i x, e8, up_ne y, e7, up_ne w]
    have g90 : σ9 0 0 0 0 = σ 0 0 0 0 + 1 := by rw [k1 _ _ _ _ (by omega), e8, up_at]
    have g91 : σ9 0 0 1 (σ 0 0 0 0) = n := by rw [k1 _ _ _ _ (by omega), e8, up_ne (by omega), e7, up_at]
    have q6 : ∀ k i, σ9 6 0 k i = σ 6 0 k i := fun k i => g9 _ _ _ _ (by omega) (by omega) (by omega)
    rw [g90]
    have er : σ 0 0 0 0 + 1 - 1 = σ 0 0 0 0 := by omega
    rw [er]
    refine hQ _ σ9 ⟨⟨by omega, by omega⟩, fun Q2 h2 => ?_⟩
    unfold Mo_choice
    refine w_Mo_beyond hn ⟨by omega, by omega⟩ ⟨by omega, by omega⟩ (fun y => absurd y (by omega)) (fun _ _ => ⟨⟨by omega, by omega⟩, fun _ => ?_, fun y => absurd rfl y⟩)
    rw [q6, d0]
    refine ⟨⟨by omega, by omega⟩, fun _ => ⟨by omega, by omega, fun σ5 e5 => ?_⟩, fun y => absurd y (by omega)⟩
    have key : ∀ (m : Nat) (i : Int) (μ : Mem), i + m = 4 → 0 ≤ i → (∀ c q k j, ¬ (c = 6 ∧ q = 0 ∧ k = 1 ∧ j = σ 0 0 0 0) → ¬ (c = 6 ∧ q = 0 ∧ (k = 2 ∨ k = 3) ∧ 4 * σ 0 0 0 0 ≤ j ∧ j < 4 * σ 0 0 0 0 + i) → μ c q k j = σ9 c q k j) → μ 6 0 1 (σ 0 0 0 0) = n → (∀ j, 4 * σ 0 0 0 0 ≤ j → j < 4 * σ 0 0 0 0 + i → μ 6 0 2 j = 0 ∧ μ 6 0 3 j = 0) → Mo_choice_36 Q2 (m + 1) i μ := by
      intro m
      induction m with
      | zero =>
        intro i μ f1 f2 hF h1 h23
        have e60 : μ 6 0 0 0 = σ 0 0 0 0 := by rw [hF _ _ _ _ (by omega) (by omega), q6]; exact d0
        unfold Mo_choice_36
        rw [e60]
        refine ⟨⟨by omega, by omega⟩, fun _ => ⟨by omega, by omega, fun σ3 e3 σ4 e4 => w_Mo_anew (fun σ' r1 r2 r3 r4 r5 => ?_)⟩, fun y => absurd y (by omega)⟩
        have e30 : σ3 6 0 0 0 = σ 0 0 0 0 := by rw [e3, up_ne (by omega)]; exact e60
        rw [e30] at e4
        have g : ∀ c q k j, ¬ (c = 6 ∧ q = 0 ∧ 27 ≤ k ∧ k ≤ 30 ∧ j = 0) → ¬ (c = 6 ∧ q = 0 ∧ k = 0 ∧ j = 0) → ¬ (c = 6 ∧ q = 0 ∧ k = 4 ∧ j = σ 0 0 0 0) → ¬ (c = 6 ∧ q = 0 ∧ k = 1 ∧ j = σ 0 0 0 0) → ¬ (c = 6 ∧ q = 0 ∧ (k = 2 ∨ k = 3) ∧ 4 * σ 0 0 0 0 ≤ j ∧ j < 4 * σ 0 0 0 0 + i) → σ' c q k j = σ9 c q k j := fun c q k j x1 x2 x3 x4 x5 => by rw [r1 c q k j x1, e4, up_ne x2, e3, up_ne x3]; exact hF c q k j x4 x5
        have gg : ∀ c q k j, ¬ (c = 6 ∧ q = 0) → ¬ (c = 4 ∧ q = 0 ∧ k < 4 ∧ j = 0) → ¬ (c = 0 ∧ q = 0 ∧ k = 0 ∧ j = 0) → ¬ (c = 0 ∧ q = 0 ∧ k = 1 ∧ j = σ 0 0 0 0) → σ' c q k j = σ c q k j := fun c q k j x1 x2 x3 x4 => by rw [g c q k j (by omega) (by omega) (by omega) (by omega) (by omega)]; exact g9 c q k j x2 x3 x4
        have w0 : σ' 0 0 0 0 = σ 0 0 0 0 + 1 := by rw [g _ _ _ _ (by omega) (by omega) (by omega) (by omega) (by omega)]; exact g90
        have w1 : σ' 0 0 1 (σ 0 0 0 0) = n := by rw [g _ _ _ _ (by omega) (by omega) (by omega) (by omega) (by omega)]; exact g91
        have w60 : σ' 6 0 0 0 = σ 0 0 0 0 + 1 := by rw [r1 _ _ _ _ (by omega), e4, up_at]
        have w61 : σ' 6 0 1 (σ 0 0 0 0) = n := by rw [r1 _ _ _ _ (by omega), e4, up_ne (by omega), e3, up_ne (by omega)]; exact h1
        have w64 : σ' 6 0 4 (σ 0 0 0 0) = 0 := by rw [r1 _ _ _ _ (by omega), e4, up_ne (by omega), e3, up_at]
        have w62 : ∀ j, 4 * σ 0 0 0 0 ≤ j → j < 4 * σ 0 0 0 0 + 4 → σ' 6 0 2 j = 0 ∧ σ' 6 0 3 j = 0 := fun j j0 j1 => by
          have q := h23 j j0 (by omega)
          exact ⟨by rw [r1 _ _ _ _ (by omega), e4, up_ne (by omega), e3, up_ne (by omega)]; exact q.1, by rw [r1 _ _ _ _ (by omega), e4, up_ne (by omega), e3, up_ne (by omega)]; exact q.2⟩
        have gm : ∀ k j, ¬ (27 ≤ k ∧ k ≤ 30 ∧ j = 0) → ¬ (k = 0 ∧ j = 0) → ¬ (k = 4 ∧ j = σ 0 0 0 0) → ¬ (k = 1 ∧ j = σ 0 0 0 0) → ¬ ((k = 2 ∨ k = 3) ∧ 4 * σ 0 0 0 0 ≤ j ∧ j < 4 * σ 0 0 0 0 + i) → σ' 6 0 k j = σ 6 0 k j := fun k j x1 x2 x3 x4 x5 => by rw [g 6 0 k j (by omega) (by omega) (by omega) (by omega) (by omega)]; exact q6 k j
        have e3' : ∀ p k i, σ' 3 p k i = σ 3 p k i := fun p k i => gg _ _ _ _ (by omega) (by omega) (by omega) (by omega)
        have PBs := PB.all a1 e3'
        rw [w60, er]
        refine h2 σ' (Inv.mk0 (L := s.1) ⟨⟨by omega, fun c x0 x1 => ?_, fun j x0 x1 => ?_⟩, a1.2.1.of (fun k j => gg _ _ _ _ (by omega) (by omega) (by omega) (by omega)), by rw [gg _ _ _ _ (by omega) (by omega) (by omega) (by omega)]; exact a1.2.2.1, fun p x0 x1 => ⟨(PBs p x0 x1).1, (PBs p x0 x1).2.1, (PBs p x0 x1).2.2, (a1.2.2.2 p x0 x1).2.2.2.of (by omega) (fun k j _ => e3' p k j)⟩⟩ ?_ ⟨by omega, fun c x0 x1 => ?_, fun j x0 x1 => ?_, fun c x0 x1 => ?_, ⟨?_, fun f x0 x1 => ?_⟩, ?_, fun p x0 x1 => (dP p x0 x1).dq2 (fun k _ j => e3' p k j) (fun k hk hk2 j => gm k j (by omega) (by omega) (by omega) (by omega) (by omega))⟩ (c3.eo (fun k j => gg _ _ _ _ (by omega) (by omega) (by omega) (by omega))) (c4.eo (fun p k _ j => e3' p k j)) (m2.eo (fun k hk hk2 j => gm k j (by omega) (by omega) (by omega) (by omega) (by omega))) (fun c hc => (m3 c hc).grow (by rw [gg 5 _ _ _ (by omega) (by omega) (by omega) (by omega)]; exact Int.le_refl _) (by rw [gg 2 _ _ _ (by omega) (by omega) (by omega) (by omega)]; exact Int.le_refl _) (fun k j _ => e3' _ k j)) ⟨by rw [g _ _ _ _ (by omega) (by omega) (by omega) (by omega) (by omega)]; exact k2, by rw [g _ _ _ _ (by omega) (by omega) (by omega) (by omega) (by omega)]; exact k3, by rw [g _ _ _ _ (by omega) (by omega) (by omega) (by omega) (by omega)]; exact k4, by rw [g _ _ _ _ (by omega) (by omega) (by omega) (by omega) (by omega)]; exact k5⟩ ⟨r2, r3, r4, r5⟩ (by rw [gg _ _ _ _ (by omega) (by omega) (by omega) (by omega)]; exact c11) (fun c x0 x1 => by rw [gg _ _ _ _ (by omega) (by omega) (by omega) (by omega)]; exact a7.1 c x0 x1) (fun c x0 x1 => ?_) (by omega) (fun c hc => by have := a7.2.2.2 c hc; omega))
        · by_cases q : c = σ 0 0 0 0
          · subst q; rw [w1]; omega
          · rw [gg _ _ _ _ (by omega) (by omega) (by omega) (by omega)]; exact a1.1.2.1 c x0 (by omega)
        · rw [gg _ _ _ _ (by omega) (by omega) (by omega) (by omega)]; exact a1.1.2.2 j x0 x1
        · intro p x0 x1 j y0 y1
          rw [e3'] at y1
          rw [e3', e3']
          have b := (a1.2.2.2 p x0 x1).2.2.2 j y0 y1
          rw [gg _ _ _ _ (by omega) (by omega) (by omega) (by omega)]
          exact a2 p x0 x1 j y0 y1
        · by_cases q : c = σ 0 0 0 0
          · subst q; rw [w1, w61]
          · rw [gm _ _ (by omega) (by omega) (by omega) (by omega) (by omega), gg _ _ _ _ (by omega) (by omega) (by omega) (by omega)]; exact d1 c x0 (by omega)
        · rw [gg _ _ _ _ (by omega) (by omega) (by omega) (by omega)]
          by_cases q : 4 * σ 0 0 0 0 ≤ j ∧ j < 4 * σ 0 0 0 0 + 4
          · have w := w62 j q.1 q.2
            have z0 := (a7.2.1 (σ 0 0 0 0) (Int.le_refl _) (by omega)).2 (j - 4 * σ 0 0 0 0) (by omega) (by omega)
            have ej : σ 0 0 0 0 * 4 + (j - 4 * σ 0 0 0 0) = j := by omega
            rw [ej] at z0
            rw [w.1, w.2, z0]
            exact ⟨fun y => absurd y (by omega), fun _ => ⟨rfl, rfl⟩⟩
          · rw [gm _ _ (by omega) (by omega) (by omega) (by omega) (by omega), gm _ _ (by omega) (by omega) (by omega) (by omega) (by omega)]; exact d2 j x0 x1
        · rw [gg 0 _ _ _ (by omega) (by omega) (by omega) (by omega)]
          by_cases q : c = σ 0 0 0 0
          · subst q; rw [w64]; exact (a7.2.1 _ (Int.le_refl _) (by omega)).1.symm
          · rw [gm _ _ (by omega) (by omega) (by omega) (by omega) (by omega)]; exact d3 c x0 x1
        · rw [gm _ _ (by omega) (by omega) (by omega) (by omega) (by omega), gg _ _ _ _ (by omega) (by omega) (by omega) (by omega)]; exact d5.1
        · rw [gg 2 _ _ _ (by omega) (by omega) (by omega) (by omega)] at x1
          rw [gm _ _ (by omega) (by omega) (by omega) (by omega) (by omega), gg _ _ _ _ (by omega) (by omega) (by omega) (by omega)]; exact d5.2 f x0 x1
        · rw [gm _ _ (by omega) (by omega) (by omega) (by omega) (by omega), gg _ _ _ _ (by omega) (by omega) (by omega) (by omega)]; exact d7
        · have q := a7.2.1 c (by omega) x1
          exact ⟨by rw [gg _ _ _ _ (by omega) (by omega) (by omega) (by omega)]; exact q.1, fun v v0 v1 => by rw [gg _ _ _ _ (by omega) (by omega) (by omega) (by omega)]; exact q.2 v v0 v1⟩
      | succ m ih =>
        intro i μ f1 f2 hF h1 h23
        have e60 : μ 6 0 0 0 = σ 0 0 0 0 := by rw [hF _ _ _ _ (by omega) (by omega), q6]; exact d0
        unfold Mo_choice_36
        rw [e60]
        refine ⟨⟨by omega, by omega⟩, fun y => absurd y (by omega), fun _ => ⟨by omega, by omega, fun σ6 e6 => ?_⟩⟩
        have e66 : σ6 6 0 0 0 = σ 0 0 0 0 := by rw [e6, up_ne (by omega)]; exact e60
        rw [e66]
        refine ⟨by omega, by omega, fun σ7' e7' x8 e8' => ih x8 σ7' (by omega) (by omega) (fun c q k j x1 x2 => ?_) ?_ (fun j j0 j1 => ?_)⟩
        · rw [e7', up_ne (by omega), e6, up_ne (by omega)]; exact hF c q k j x1 (by omega)
        · rw [e7', up_ne (by omega), e6, up_ne (by omega)]; exact h1
        · by_cases q : j = 4 * σ 0 0 0 0 + i
          · subst q
            exact ⟨by rw [e7', up_ne (by omega), e6, up_at], by rw [e7', up_at]⟩
          · rw [e7', up_ne (by omega), up_ne (by omega), e6, up_ne (by omega), up_ne (by omega)]
            exact h23 j j0 (by omega)
    exact ⟨_, key 4 0 σ5 (by omega) (by omega) (fun c q k j x1 x2 => by rw [e5, up_ne (by omega)]) (by rw [e5, up_at]) (fun j j0 j1 => absurd j1 (by omega))⟩
  · unfold Mo_choice
    refine w_Mo_beyond hn ⟨by omega, by omega⟩ ⟨by omega, by omega⟩ (fun y => absurd y (by omega)) (fun _ _ => ⟨⟨by omega, by omega⟩, fun _ => ?_, fun y => absurd rfl y⟩)
    rw [d0]
    exact ⟨⟨by omega, by omega⟩, fun y => absurd y (by omega), fun _ => h2 σ hs.here⟩

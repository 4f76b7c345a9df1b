/-! ===== ask ===== -/
def Dw (σ μ : Mem) : Prop := (∀ k : Nat, k < 3 → ∀ i, μ 0 0 k i = σ 0 0 k i) ∧ (∀ k i, μ 2 0 k i = σ 2 0 k i) ∧ μ 5 0 3 0 = σ 5 0 3 0 ∧ ∀ p, ∀ k : Nat, k < 10 → ∀ i, μ 3 p k i = σ 3 p k i
theorem CW.dw {σ σ' : Mem} (h : CW σ) (hD : Dw σ σ') (hA : ∀ p, 0 ≤ p → p < 4 → AO σ' p ∧ FO σ' p) : CW σ' := by
  obtain ⟨h1, h2, h3, h4⟩ := h
  obtain ⟨e0, e2, e5, e3⟩ := hD
  refine ⟨?_, ?_, by rw [e5]; exact h3, fun p p0 p1 => ?_⟩
  · unfold ChB at *
    simp only [e0 0 (by omega), e0 1 (by omega), e0 2 (by omega)]
    exact h1
  · unfold FuB at *
    simp only [e2]
    exact h2
  · obtain ⟨a1, a2, a3, a4⟩ := h4 p p0 p1
    refine ⟨a1.eo (e3 p), (hA p p0 p1).1, (hA p p0 p1).2, ?_⟩
    unfold JB at *
    simp only [e3 p 0 (by omega), e3 p 1 (by omega), e0 0 (by omega)]
    exact a4
theorem JS.dw {σ μ : Mem} (h : JS σ) (hD : Dw σ μ) : JS μ := by
  intro p p0 p1 j j0 j1
  rw [hD.2.2.2 p 0 (by omega)] at j1
  rw [hD.2.2.2 p 2 (by omega), hD.2.2.2 p 1 (by omega), hD.1 1 (by omega)]
  exact h p p0 p1 j j0 j1
theorem okC.dw {σ μ : Mem} {c : CutT} (h : okC σ c) (hD : Dw σ μ) : okC μ c := by
  obtain ⟨h1, h2, h3, h4, h5, h6⟩ := h
  refine ⟨by rw [hD.2.2.1]; exact h1, by rw [hD.2.1]; exact h2, h3, h4, h5, fun r hr => ?_⟩
  obtain ⟨a, j, b, c', d⟩ := h6 r hr
  exact ⟨a, j, b, by rw [hD.2.2.2 _ 0 (by omega)]; exact c', by rw [hD.2.2.2 _ 1 (by omega)]; exact d⟩
theorem Bst.dw {σ μ : Mem} {s : St} (h : Bst σ s) (hD : Dw σ μ) : Bst μ s := by
  have eT : Tch μ = Tch σ := by
    unfold Tch
    rw [hD.1 0 (by omega)]
    congr 1
    funext c
    rw [hD.1 1 (by omega)]
  have eA : gA μ = gA σ := by
    funext p d f
    exact gA_same (hD.2.2.2 p)
  refine ⟨h.1, fun z => ?_⟩
  obtain ⟨a, b⟩ := h.2 z
  refine ⟨by rw [eT]; exact a, ?_⟩
  rw [eA]
  unfold FG at *
  simp only [hD.1 0 (by omega), hD.1 2 (by omega), hD.2.1, hD.2.2.1]
  exact b
theorem MPa.dq2 {σ μ : Mem} {p : Int} (h : MPa σ p) (e3 : ∀ k : Nat, k < 10 → ∀ i, μ 3 p k i = σ 3 p k i) (e6 : ∀ k : Nat, 8 ≤ k → k < 18 → ∀ i, μ 6 0 k i = σ 6 0 k i) : MPa μ p := by
  unfold MPa at *
  simp only [e3 0 (by omega), e3 1 (by omega), e3 3 (by omega), e3 4 (by omega), e3 5 (by omega), e3 6 (by omega), e3 7 (by omega), e3 8 (by omega), e3 9 (by omega), e6 8 (by omega) (by omega), e6 9 (by omega) (by omega), e6 10 (by omega) (by omega), e6 11 (by omega) (by omega), e6 12 (by omega) (by omega), e6 13 (by omega) (by omega), e6 14 (by omega) (by omega), e6 15 (by omega) (by omega), e6 16 (by omega) (by omega), e6 17 (by omega) (by omega)]
  exact h
theorem RM.sw {σ0 σ σ' : Mem} {s : St} (h : RM σ0 σ s) (hok : ∀ c ∈ s.1, okC σ' c) (e6 : ∀ k : Nat, 18 ≤ k → k < 35 → ∀ i, σ' 6 0 k i = σ 6 0 k i) : RM σ' σ' s := by
  obtain ⟨h1, h2, h3, h4, h5, h6, h7, h8, h9, h10, h11⟩ := h
  refine ⟨Eo.rf, h2.eo (fun k a b i => e6 k a (by omega) i), hok, by rw [e6 27 (by omega) (by omega)]; exact h4, by rw [e6 28 (by omega) (by omega)]; exact h5, ⟨fun z => by rw [e6 30 (by omega) (by omega)]; exact h6.1 z, fun z => ?_⟩, ⟨fun z => by rw [e6 29 (by omega) (by omega)]; exact h7.1 z, fun z => ?_⟩, h8, h9, h10, h11⟩
  · rw [e6 30 (by omega) (by omega), e6 31 (by omega) (by omega)]
    obtain ⟨a, b, c⟩ := h6.2 z
    exact ⟨a, b, fun i i0 i1 => by rw [e6 34 (by omega) (by omega)]; exact c i i0 i1⟩
  · rw [e6 29 (by omega) (by omega), e6 32 (by omega) (by omega)]
    obtain ⟨a, b, c⟩ := h7.2 z
    exact ⟨a, b, fun i i0 i1 => by rw [e6 33 (by omega) (by omega)]; exact c i i0 i1⟩
theorem op_ask {σ : Mem} {N c v : Int} {Q : Int → Mem → Prop} (hI : Inv σ N) (hN : 0 ≤ N ∧ N ≤ 1000) (hc : InR c) (hv : InR v) (hQ : ∀ r1 σ1, After (Mo_ask c v) (N + 1) r1 σ1 → Q r1 σ1) : Sr_ask c v σ Q := by
  obtain ⟨s, hs⟩ := hI
  obtain ⟨a1, a2, a3, a4, a5, a6, a7⟩ := id hs
  obtain ⟨c1, c2, c3, c4, c5, c6, c7, c8, c9, c10, c11, c12, c13, c14⟩ := id a4
  obtain ⟨m1, m2, m3, m4, m5, m6, m7, m8, m9, m10, m11⟩ := id a5
  obtain ⟨d0, d1, d2, d3, d5, d7, dP⟩ := id a3
  have hch := a1.1.1
  unfold Sr_ask
  refine w_Ch_knowsValue hc hv a1.1 (fun b0 b1 b2 b3 => ⟨⟨by omega, by omega⟩, fun _ => ⟨by omega, by omega, fun x4 e4 => ⟨by omega, by omega, fun σ1 e1 => ?_⟩⟩, fun z => absurd z (by omega)⟩) (fun z => ⟨⟨by omega, by omega⟩, fun y => absurd rfl y, fun _ => hQ (-1) σ ⟨⟨by omega, by omega⟩, fun Q2 h2 => ?_⟩⟩)
  · have ba := a7.1 c b0 (by omega)
    have bz := a1.1.2.1 c b0 b1
    refine hQ x4 σ1 ⟨⟨by omega, by omega⟩, fun Q2 h2 => ?_⟩
    have p6 : ∀ k i, σ1 6 0 k i = σ 6 0 k i := fun k i => by rw [e1, up_ne (by omega)]
    unfold Mo_ask
    refine w_Mo_noValue hc hv (by rw [p6]; exact d0) (fun c a b => by rw [p6]; exact d1 c a b) hch a1.1.2.1 (fun z => absurd (⟨b0, b1, b2, b3⟩ : 0 ≤ c ∧ c < σ 0 0 0 0 ∧ 0 ≤ v ∧ v < σ 0 0 1 c) z) (fun _ _ _ _ => ⟨⟨by omega, by omega⟩, fun _ => ⟨by omega, by omega, fun x5 e5 => ⟨by omega, by omega, fun σ2 e2 => ?_⟩⟩, fun y => absurd rfl y⟩)
    have ex : x5 = x4 := by rw [e5, p6, d3 c b0 (by omega), e4]
    rw [ex]
    refine h2 σ2 ⟨s, ?_⟩
    have g : ∀ c' q k i, ¬ (c' = 0 ∧ q = 0 ∧ k = 3 ∧ i = c) → ¬ (c' = 6 ∧ q = 0 ∧ k = 4 ∧ i = c) → σ2 c' q k i = σ c' q k i := fun c' q k i z y => by rw [e2, up_ne y, e1, up_ne z]
    have g0 : σ2 0 0 3 c = v := by rw [e2, up_ne (by omega), e1, up_at]
    have g6 : σ2 6 0 4 c = v := by rw [e2, up_at]
    have hD : Dw σ σ2 := ⟨fun k hk i => g _ _ _ _ (by omega) (by omega), fun k i => g _ _ _ _ (by omega) (by omega), g _ _ _ _ (by omega) (by omega), fun p k hk i => g _ _ _ _ (by omega) (by omega)⟩
    have hA : ∀ p, 0 ≤ p → p < 4 → AO σ2 p ∧ FO σ2 p := fun p p0 p1 => ⟨(c2 p p0 p1).1.eo (fun k hk i => g _ _ _ _ (by omega) (by omega)), (c2 p p0 p1).2.eo (fun i => g _ _ _ _ (by omega) (by omega))⟩
    refine ⟨a1.dw hD hA, a2.dw hD, ⟨?_, ?_, ?_, ?_, ?_, ?_, fun p a b => (dP p a b).dq2 (hD.2.2.2 p) (fun k hk hk2 i => g _ _ _ _ (by omega) (by omega))⟩, a4.si (fun k i => g _ _ _ _ (by omega) (by omega)) (fun k i => g _ _ _ _ (by omega) (by omega)) (fun p k hk i => g _ _ _ _ (by omega) (by omega)) (fun p a b => (hA p a b).1) (by rw [g _ _ _ _ (by omega) (by omega)]; exact c11), a5.sw (fun x hx => (m3 x hx).dw hD) (fun k hk hk2 i => g _ _ _ _ (by omega) (by omega)), a6.dw hD, ⟨fun i i0 i1 => ?_, fun i i0 i1 => ?_, by have := a7.2.2.1; omega, fun x hx => by have := a7.2.2.2 x hx; omega⟩⟩
    · rw [g _ _ _ _ (by omega) (by omega), g _ _ _ _ (by omega) (by omega)]; exact d0
    · intro i
      rw [g _ _ _ _ (by omega) (by omega), g _ _ _ _ (by omega) (by omega), g _ _ _ _ (by omega) (by omega)]; exact d1 i
    · intro i
      rw [g _ _ _ _ (by omega) (by omega), g _ _ _ _ (by omega) (by omega), g _ _ _ _ (by omega) (by omega)]; exact d2 i
    · intro i i0 i1
      by_cases q : i = c
      · subst q; rw [g0, g6]
      · rw [g _ _ _ _ (by omega) (by omega), g _ _ _ _ (by omega) (by omega)]; exact d3 i i0 i1
    · refine ⟨?_, fun i => ?_⟩
      · rw [g _ _ _ _ (by omega) (by omega), g _ _ _ _ (by omega) (by omega)]; exact d5.1
      · rw [g _ _ _ _ (by omega) (by omega), g _ _ _ _ (by omega) (by omega), g _ _ _ _ (by omega) (by omega)]; exact d5.2 i
    · rw [g _ _ _ _ (by omega) (by omega), g _ _ _ _ (by omega) (by omega)]; exact d7
    · by_cases q : i = c
      · subst q; rw [g0]; omega
      · rw [g _ _ _ _ (by omega) (by omega)]; exact a7.1 i i0 i1
    · rw [g _ _ _ _ (by omega) (by omega)] at i0
      have q := a7.2.1 i i0 i1
      exact ⟨by rw [g _ _ _ _ (by omega) (by omega)]; exact q.1, fun x x0 x1 => by rw [g _ _ _ _ (by omega) (by omega)]; exact q.2 x x0 x1⟩
  · unfold Mo_ask
    refine w_Mo_noValue hc hv d0 d1 hch a1.1.2.1 (fun _ => ⟨⟨by omega, by omega⟩, fun y => absurd y (by omega), fun _ => h2 σ hs.here⟩) (fun y0 y1 y2 y3 => absurd (⟨y0, y1, y2, y3⟩ : 0 ≤ c ∧ c < σ 0 0 0 0 ∧ 0 ≤ v ∧ v < σ 0 0 1 c) z)
/-! ===== answer, unit ===== -/
theorem IS.answered {σ σ' : Mem} {N N' : Int} {s : St} {p : Int} (h : IS σ N s) (hE : Eo (S10 p) σ σ') (hA : AO σ' p) (hN : N ≤ N') : IS σ' N' s := by
  refine h.idle (hE.mono (fun c q k z => ?_)) (fun q q0 q1 => ?_) ?_ hN
  · obtain ⟨z1, z2, z3⟩ := z
    exact Or.inl ⟨z1, z3⟩
  · by_cases y : q = p
    · subst y; exact hA
    · exact (h.ao q q0 q1).eo (fun k hk i => hE 3 q k i (by unfold S10; omega))
  · rw [hE 5 0 7 0 (by unfold S10; omega)]; exact h.z7
theorem IS.asked6 {σ σ' : Mem} {N N' : Int} {s : St} (h : IS σ N s) (hE : Eo S6a σ σ') (hN : N ≤ N') : IS σ' N' s := by
  refine h.idle (hE.mono (fun c q k z => ?_)) (fun q q0 q1 => ?_) ?_ hN
  · obtain ⟨z1, z2, z3⟩ := z
    exact Or.inr (Or.inr ⟨z1, z2, by omega⟩)
  · exact (h.ao q q0 q1).eo (fun k hk i => hE 3 q k i (by unfold S6a; omega))
  · rw [hE 5 0 7 0 (by unfold S6a; omega)]; exact h.z7
theorem op_answer {σ : Mem} {N p f : Int} {Q : Int → Mem → Prop} (hI : Inv σ N) (hN : 0 ≤ N ∧ N ≤ 1000) (hp : InR p) (hf : InR f) (hQ : ∀ r1 σ1, After (Mo_answer p f) (N + 1) r1 σ1 → Q r1 σ1) : Sr_answer p f σ Q := by
  obtain ⟨s, hs⟩ := hI
  obtain ⟨a1, a2, a3, a4, a5, a6, a7⟩ := id hs
  obtain ⟨d0, d1, d2, d3, ⟨d5, d6⟩, d7, dP⟩ := id a3
  have hpp := a1.2.2.1
  have hff := a1.2.1.1
  have no : ¬ (0 ≤ p ∧ p < σ 5 0 3 0 ∧ 0 ≤ f ∧ f < σ 2 0 0 0) → Q (-1) σ := by
    intro z
    refine hQ (-1) σ ⟨⟨by omega, by omega⟩, fun Q2 h2 => ?_⟩
    unfold Mo_answer Mo_answer_16
    refine w_Mo_noPart hp d7 hpp (fun _ => ⟨⟨by omega, by omega⟩, fun _ => h2 σ hs.here, fun y => absurd y (by omega)⟩) (fun y0 y1 => ⟨⟨by omega, by omega⟩, fun y => absurd rfl y, fun _ => ?_⟩)
    exact w_Mo_noFuture hf d5 hff (fun _ => ⟨⟨by omega, by omega⟩, fun y => absurd y (by omega), fun _ => h2 σ hs.here⟩) (fun y2 y3 => absurd (⟨y0, y1, y2, y3⟩ : 0 ≤ p ∧ p < σ 5 0 3 0 ∧ 0 ≤ f ∧ f < σ 2 0 0 0) z)
  unfold Sr_answer Sr_answer_19
  refine w_Sr_knowsPart hp hpp (fun b0 b1 => ⟨⟨by omega, by omega⟩, fun y => absurd y (by omega), fun _ => ?_⟩) (fun z => ⟨⟨by omega, by omega⟩, fun _ => no (by omega), fun y => absurd rfl y⟩)
  refine w_Fu_knows hf a1.2.1 (fun b2 b3 => ⟨⟨by omega, by omega⟩, fun _ => ⟨by omega, by omega, by omega, by omega, ?_⟩, fun y => absurd y (by omega)⟩) (fun z => ⟨⟨by omega, by omega⟩, fun y => absurd rfl y, fun _ => no (by omega)⟩)
  obtain ⟨e1, e2, e3, e4⟩ := a1.2.2.2 p b0 (by omega)
  have hv : ∀ j, 0 ≤ j → j < σ 3 p 0 0 → 0 ≤ σ 0 0 3 (σ 3 p 1 j) ∧ σ 0 0 3 (σ 3 p 1 j) < 4 := fun j j0 j1 => a7.1 _ (e1.2.2.2.1 j j0 j1).1.1 (e1.2.2.2.1 j j0 j1).1.2
  have hsp := spt_bd (n := σ 3 p 0 0) (d := fun j => σ 0 0 3 (σ 3 p 1 j)) e1.1.2 hv
  refine w_Pa_spotOf e1 hv (w_Pa_answerTo e1 e2 hsp.1 hsp.2 b2 (by omega) (fun σ' hE hA => ?_))
  have hs' := hs.answered (N' := N) hE hA (Int.le_refl _)
  obtain ⟨g1, g2, g3, g4, g5, g6, g7⟩ := id hs'
  have bd := AnC_bd (spot := spt (σ 3 p 0 0) (fun j => σ 0 0 3 (σ 3 p 1 j))) (f := f) e1
  refine hQ _ σ' ⟨⟨by omega, by omega⟩, fun Q2 h2 => ?_⟩
  have k0 : ∀ k i, σ' 6 0 k i = σ 6 0 k i := fun k i => hE 6 0 k i (by unfold S10; omega)
  unfold Mo_answer Mo_answer_16
  refine w_Mo_noPart hp (by rw [k0]; exact d7) hpp (fun z => absurd (⟨b0, b1⟩ : 0 ≤ p ∧ p < σ 5 0 3 0) z) (fun y0 y1 => ⟨⟨by omega, by omega⟩, fun y => absurd rfl y, fun _ => ?_⟩)
  refine w_Mo_noFuture hf (by rw [k0]; exact d5) hff (fun z => absurd (⟨b2, b3⟩ : 0 ≤ f ∧ f < σ 2 0 0 0) z) (fun y2 y3 => ⟨⟨by omega, by omega⟩, fun _ => ?_, fun y => absurd rfl y⟩)
  have e1' := (g1.2.2.2 p b0 (by omega)).1
  refine w_Mo_codeOf e1' (g3.2.2.2.2.2.2 p b0 (by omega)) b0 (by omega) (fun c c0 c1 => by rw [g3.2.2.2.1 c c0 c1]; exact g7.1 c c0 c1) (fun code z0 z1 ez => ?_)
  refine w_Mo_answerTo e1' (g3.2.2.2.2.2.2 p b0 (by omega)) b0 (by omega) z0 z1 b2 (by omega) (fun bu σ2 hE2 _ _ => ?_)
  have eA : AnC σ' p (cv code) f = AnC σ p (spt (σ 3 p 0 0) (fun j => σ 0 0 3 (σ 3 p 1 j))) f := by
    rw [AnC_congr (fun k hk i => hE 3 p k i (by unfold S10; omega)), ez, hE 3 p 0 0 (by unfold S10; omega)]
    congr 1
    refine spt_congr (fun j j0 j1 => ?_)
    rw [hE 3 p 1 j (by unfold S10; omega), k0]
    exact d3 _ (e1.2.2.2.1 j j0 j1).1.1 (e1.2.2.2.1 j j0 j1).1.2
  rw [eA]
  exact h2 σ2 ⟨s, hs'.asked6 hE2 (by omega)⟩
theorem srch_same {σ σ' : Mem} {p spot f x b : Int} (he : ∀ k : Nat, k < 10 → ∀ i, σ' 3 p k i = σ 3 p k i) (h : Srch (VCp σ' p) (FCp σ' p spot f) (pCp σ' p) 256 x b) : Srch (VCp σ p) (FCp σ p spot f) (pCp σ p) 256 x b := by
  have e0 := he 0 (by omega)
  have e1 := he 1 (by omega)
  have e3 := he 3 (by omega)
  have e4 : σ' 3 p 4 = σ 3 p 4 := funext (he 4 (by omega))
  have e5 : σ' 3 p 5 = σ 3 p 5 := funext (he 5 (by omega))
  have e6 := he 6 (by omega)
  have e7 := he 7 (by omega)
  have e8 := he 8 (by omega)
  have e9 := he 9 (by omega)
  have er : roomC σ' p spot f = roomC σ p spot f := by
    funext r
    unfold roomC
    simp only [e0, e1, e7, e8, e9]
  unfold VCp FCp pCp at *
  simp only [e3, e4, e5, e6, e8, er] at h
  exact h
theorem op_unit {σ : Mem} {N p f i : Int} {Q : Int → Mem → Prop} (hI : Inv σ N) (hN : 0 ≤ N ∧ N ≤ 1000) (hp : InR p) (hf : InR f) (hi : InR i) (hQ : ∀ r1 σ1, After (Mo_unit p f i) (N + 1) r1 σ1 → Q r1 σ1) : Sr_unit p f i σ Q := by
  obtain ⟨s, hs⟩ := hI
  obtain ⟨a1, a2, a3, a4, a5, a6, a7⟩ := id hs
  obtain ⟨d0, d1, d2, d3, ⟨d5, d6⟩, d7, dP⟩ := id a3
  have hpp := a1.2.2.1
  have hff := a1.2.1.1
  have no : ¬ (0 ≤ p ∧ p < σ 5 0 3 0 ∧ 0 ≤ f ∧ f < σ 2 0 0 0 ∧ 0 ≤ i ∧ i < σ 3 p 3 0) → Q (-1) σ := by
    intro z
    refine hQ (-1) σ ⟨⟨by omega, by omega⟩, fun Q2 h2 => ?_⟩
    unfold Mo_unit Mo_unit_32
    refine w_Mo_noPart hp d7 hpp (fun _ => ⟨⟨by omega, by omega⟩, fun _ => h2 σ hs.here, fun y => absurd y (by omega)⟩) (fun y0 y1 => ⟨⟨by omega, by omega⟩, fun y => absurd rfl y, fun _ => ?_⟩)
    refine w_Mo_noFuture hf d5 hff (fun _ => ⟨⟨by omega, by omega⟩, fun _ => h2 σ hs.here, fun y => absurd y (by omega)⟩) (fun y2 y3 => ⟨⟨by omega, by omega⟩, fun y => absurd rfl y, fun _ => ⟨by omega, by omega, ?_⟩⟩)
    have e10 := (dP p y0 (by omega)).2.2.1
    have b3 := (a1.2.2.2 p y0 (by omega)).1.2.1
    rw [e10]
    exact w_Mo_beyond hi ⟨by omega, by omega⟩ ⟨by omega, by omega⟩ (fun _ => ⟨⟨by omega, by omega⟩, fun y => absurd y (by omega), fun _ => h2 σ hs.here⟩) (fun y4 y5 => absurd (⟨y0, y1, y2, y3, y4, by omega⟩ : 0 ≤ p ∧ p < σ 5 0 3 0 ∧ 0 ≤ f ∧ f < σ 2 0 0 0 ∧ 0 ≤ i ∧ i < σ 3 p 3 0) z)
  unfold Sr_unit Sr_unit_32
  refine w_Sr_knowsPart hp hpp (fun b0 b1 => ⟨⟨by omega, by omega⟩, fun y => absurd y (by omega), fun _ => ?_⟩) (fun z => ⟨⟨by omega, by omega⟩, fun _ => no (by omega), fun y => absurd rfl y⟩)
  refine w_Fu_knows hf a1.2.1 (fun b2 b3 => ⟨⟨by omega, by omega⟩, fun y => absurd y (by omega), fun _ => ⟨by omega, by omega, ?_⟩⟩) (fun z => ⟨⟨by omega, by omega⟩, fun _ => no (by omega), fun y => absurd rfl y⟩)
  obtain ⟨e1, e2, e3, e4⟩ := a1.2.2.2 p b0 (by omega)
  have bl := e1.2.1
  refine w_Pa_knowsLocal hi e1 (fun b4 b5 => ⟨⟨by omega, by omega⟩, fun _ => ⟨by omega, by omega, by omega, by omega, ?_⟩, fun y => absurd y (by omega)⟩) (fun z => ⟨⟨by omega, by omega⟩, fun y => absurd rfl y, fun _ => no (by omega)⟩)
  have hv : ∀ j, 0 ≤ j → j < σ 3 p 0 0 → 0 ≤ σ 0 0 3 (σ 3 p 1 j) ∧ σ 0 0 3 (σ 3 p 1 j) < 4 := fun j j0 j1 => a7.1 _ (e1.2.2.2.1 j j0 j1).1.1 (e1.2.2.2.1 j j0 j1).1.2
  have hsp := spt_bd (n := σ 3 p 0 0) (d := fun j => σ 0 0 3 (σ 3 p 1 j)) e1.1.2 hv
  refine w_Pa_spotOf e1 hv (w_Pa_solve e1 hsp.1 hsp.2 b2 (by omega) (fun x b σ' hE hS hu hx => ?_))
  have hE10 : Eo (S10 p) σ σ' := hE.mono (fun c q k z => ⟨z.1, z.2.1, Or.inr z.2.2⟩)
  have hs' := hs.answered (N' := N) hE10 (e2.eo (fun k hk i => hE 3 p k i (by unfold S14; omega))) (Int.le_refl _)
  obtain ⟨g1, g2, g3, g4, g5, g6, g7⟩ := id hs'
  have k0 : ∀ k i, σ' 6 0 k i = σ 6 0 k i := fun k i => hE 6 0 k i (by unfold S14; omega)
  have e1' := (g1.2.2.2 p b0 (by omega)).1
  have e10 : σ' 6 0 10 p = σ 3 p 3 0 := by rw [k0]; exact (dP p b0 (by omega)).2.2.1
  -- the reference's side, for whatever the class answers
  have mo : ∀ (y : Int) (Q2 : Int → Mem → Prop), (∀ σ2, Inv σ2 (N + 1) → Q2 y σ2) → (x = -4 → y = -4) → (x ≠ -4 → y = uD b i) → Mo_unit p f i σ' Q2 := by
    intro y Q2 h2 hy1 hy2
    unfold Mo_unit Mo_unit_32 Mo_unit_69
    refine w_Mo_noPart hp (by rw [k0]; exact d7) hpp (fun z => absurd (⟨b0, b1⟩ : 0 ≤ p ∧ p < σ 5 0 3 0) z) (fun y0 y1 => ⟨⟨by omega, by omega⟩, fun y => absurd rfl y, fun _ => ?_⟩)
    refine w_Mo_noFuture hf (by rw [k0]; exact d5) hff (fun z => absurd (⟨b2, b3⟩ : 0 ≤ f ∧ f < σ 2 0 0 0) z) (fun y2 y3 => ⟨⟨by omega, by omega⟩, fun y => absurd rfl y, fun _ => ⟨by omega, by omega, ?_⟩⟩)
    rw [e10]
    refine w_Mo_beyond hi ⟨by omega, by omega⟩ ⟨by omega, by omega⟩ (fun z => absurd z (by omega)) (fun _ _ => ⟨⟨by omega, by omega⟩, fun _ => ?_, fun y => absurd rfl y⟩)
    refine w_Mo_codeOf e1' (g3.2.2.2.2.2.2 p b0 (by omega)) b0 (by omega) (fun c c0 c1 => by rw [g3.2.2.2.1 c c0 c1]; exact g7.1 c c0 c1) (fun code z0 z1 ez => ?_)
    have ec : cv code = spt (σ 3 p 0 0) (fun j => σ 0 0 3 (σ 3 p 1 j)) := by
      rw [ez, hE 3 p 0 0 (by unfold S14; omega)]
      refine spt_congr (fun j j0 j1 => ?_)
      rw [hE 3 p 1 j (by unfold S14; omega), k0]
      exact d3 _ (e1.2.2.2.1 j j0 j1).1.1 (e1.2.2.2.1 j j0 j1).1.2
    refine w_Mo_answerTo e1' (g3.2.2.2.2.2.2 p b0 (by omega)) b0 (by omega) z0 z1 b2 (by omega) (fun bu σ2 hE2 hS2 hu2 => ?_)
    have hS3 := srch_same (σ := σ) (fun k hk i => hE 3 p k i (by unfold S14; omega)) hS2
    rw [ec] at hS3 hu2 ⊢
    have U := hS.uniq hS3
    rw [← U.1] at hu2 ⊢
    have hI2 : Inv σ2 (N + 1) := ⟨s, hs'.asked6 hE2 (by omega)⟩
    refine ⟨⟨by omega, by omega⟩, fun z => ⟨by omega, by omega, ?_⟩, fun z => ?_⟩
    · rw [hu2 z i b4 (by omega), ← U.2 z, ← hy2 z]
      exact h2 σ2 hI2
    · rw [← hy1 z]
      exact h2 σ2 hI2
  unfold Sr_unit_85
  refine ⟨⟨by omega, by omega⟩, fun z => ⟨by omega, by omega, by omega, by omega, ?_⟩, fun z => ?_⟩
  · rw [hu z i b4 (by omega)]
    have hb2 : 0 ≤ b ∧ b < 256 := by
      rcases hS with ⟨y, -⟩ | ⟨-, y2, -⟩
      · exact absurd y z
      · exact y2.1
    have bu := uD_bd hb2.1 hb2.2 i
    exact hQ _ σ' ⟨⟨by omega, by omega⟩, fun Q2 h2 => mo _ Q2 h2 (fun y => absurd y z) (fun _ => rfl)⟩
  · exact hQ _ σ' ⟨⟨by omega, by omega⟩, fun Q2 h2 => mo _ Q2 h2 (fun _ => rfl) (fun y => absurd z y)⟩
/-! ===== share ===== -/
theorem op_share {σ : Mem} {N p : Int} {Q : Int → Mem → Prop} (hI : Inv σ N) (hN : 0 ≤ N ∧ N ≤ 1000) (hp : InR p) (hQ : ∀ r1 σ1, After (Mo_share p) (N + 1) r1 σ1 → Q r1 σ1) : Sr_share p σ Q := by
  obtain ⟨s, hs⟩ := hI
  obtain ⟨a1, a2, a3, a4, a5, a6, a7⟩ := id hs
  obtain ⟨c1, c2, c3, c4, c5, c6, c7, c8, c9, c10, c11, c12, c13, c14⟩ := id a4
  obtain ⟨m1, m2, m3, m4, m5, m6, m7, m8, m9, m10, m11⟩ := id a5
  obtain ⟨d0, d1, d2, d3, ⟨d5, d6⟩, d7, dP⟩ := id a3
  have hpp := a1.2.2.1
  have hff := a1.2.1.1
  have hcc := a1.1.1
  -- the reference's way to its inner part
  have way : (p = -4 ∨ (0 ≤ p ∧ p < σ 5 0 3 0)) → ∀ (μ : Mem) (Q2 : Int → Mem → Prop), μ 6 0 7 0 = σ 6 0 7 0 → Mo_share_16 Q2 p μ → Mo_share p μ Q2 := by
    intro hk μ Q2 e7 h2
    unfold Mo_share
    refine ⟨hp, fun _ => h2, fun z => ?_⟩
    refine w_Mo_noPart hp (by rw [e7]; exact d7) hpp (fun y => absurd (hk.resolve_left z) y) (fun _ _ => ⟨⟨by omega, by omega⟩, fun _ => h2, fun y => absurd rfl y⟩)
  have main : (p = -4 ∨ (0 ≤ p ∧ p < σ 5 0 3 0)) → Sr_share_16 Q p σ := by
    intro hk
    unfold Sr_share_16
    refine w_Pg_hasBest c8 c13 (fun z => ⟨⟨by omega, by omega⟩, fun _ => ?_, fun y => absurd y (by omega)⟩) (fun z => ⟨⟨by omega, by omega⟩, fun y => absurd rfl y, fun _ => ?_⟩)
    · obtain ⟨y1, y2, y3⟩ := m7.2 z
      obtain ⟨bT, bF⟩ := a6.2 z
      have bd : ∀ c, 0 ≤ c → c < 6 → 0 ≤ s.2.2.2.2.2.2 c ∧ s.2.2.2.2.2.2 c < 4 := fun c c0 c1 => by have := bT c c0 c1; have := (Tch_bd a1.1 c c0).2; omega
      refine ⟨hp, fun zp => ?_, fun zp => ?_⟩
      · have hp2 := hk.resolve_left zp
        refine ⟨by omega, by omega, ?_⟩
        obtain ⟨e1, e2, e3, e4⟩ := a1.2.2.2 p hp2.1 (by omega)
        have ev : ∀ j, 0 ≤ j → j < σ 3 p 0 0 → σ 4 0 5 (σ 3 p 1 j) = s.2.2.2.2.2.2 (σ 3 p 1 j) := fun j j0 j1 => c10 z _ (e1.2.2.2.1 j j0 j1).1.1 (e1.2.2.2.1 j j0 j1).1.2
        refine w_Pa_costTo e1 e2 e3 a1.2.1 (Or.inl rfl) (fun j j0 j1 => by rw [ev j j0 j1]; exact bd _ (e1.2.2.2.1 j j0 j1).1.1 (e1.2.2.2.1 j j0 j1).1.2) (fun σ' hE hA => ?_)
        have eS : spt (σ 3 p 0 0) (fun j => σ 4 0 5 (σ 3 p 1 j)) = spt (σ 3 p 0 0) (fun j => s.2.2.2.2.2.2 (σ 3 p 1 j)) := spt_congr ev
        have eg : cst (σ 2 0 0 0) (σ 2 0 1) (fun f => if (0 : Int) = 0 then AnC σ p (spt (σ 3 p 0 0) (fun j => σ 4 0 5 (σ 3 p 1 j))) f else σ 3 p 11 (f * 64 + spt (σ 3 p 0 0) (fun j => σ 4 0 5 (σ 3 p 1 j)))) = sm (σ 2 0 0 0).toNat (fun f => σ 2 0 1 f * gA σ p s.2.2.2.2.2.2 f) := by
          rw [eS]
          rw [cst_some (fun f f0 f1 => by rw [if_pos rfl]; exact bF.2 p hp2.1 hp2.2 f f0 f1)]
          refine sm_congr (fun f _ _ => ?_)
          show _ * (if (0 : Int) = 0 then _ else _) = _
          rw [if_pos rfl]
          rfl
        rw [eg]
        have hg : ∀ f, gA σ p s.2.2.2.2.2.2 f = -4 ∨ (0 ≤ gA σ p s.2.2.2.2.2.2 f ∧ gA σ p s.2.2.2.2.2.2 f ≤ 600) := fun f => AnC_bd e1
        have sb := sm_bd (f := fun f => σ 2 0 1 f * gA σ p s.2.2.2.2.2.2 f) (lo := 0) (hi := 12000) (n := (σ 2 0 0 0).toNat) (fun f f0 f1 => by
          have w := a1.2.1.2 f f0 (by omega)
          have g := hg f
          have g2 := bF.2 p hp2.1 hp2.2 f f0 (by omega)
          exact mul_bd (A := 20) (B := 600) (by omega) (by omega) (by omega) (by omega))
        have hs' := hs.answered (N' := N) hE hA (Int.le_refl _)
        obtain ⟨g1, g2, g3, g4, g5, g6, g7⟩ := id hs'
        unfold Sr_share_70
        refine hQ _ σ' ⟨⟨by omega, by omega⟩, fun Q2 h2 => ?_⟩
        have k0 : ∀ k i, σ' 6 0 k i = σ 6 0 k i := fun k i => hE 6 0 k i (by unfold S10; omega)
        refine way hk σ' Q2 (k0 7 0) ?_
        unfold Mo_share_16
        rw [k0 29 0, y1]
        refine ⟨⟨by omega, by omega⟩, fun _ => ⟨hp, fun _ => ?_, fun y => absurd y zp⟩, fun y => absurd y (by omega)⟩
        have key : ∀ (m f : Nat) (sum : Int) (μ : Mem), (f : Int) + m = σ 2 0 0 0 → IS μ N s → Dq σ μ → (∀ k i, k < 35 → μ 6 0 k i = σ 6 0 k i) → sum = sm f (fun f => σ 2 0 1 f * gA σ p s.2.2.2.2.2.2 f) → Mo_share_45 Q2 (m + 1) p sum f μ := by
          intro m
          induction m with
          | zero =>
            intro f sum μ h1 hμ hD k6 hsum
            unfold Mo_share_45
            rw [k6 5 0 (by omega), d5]
            have ef : (σ 2 0 0 0).toNat = f := by omega
            refine ⟨⟨by omega, by omega⟩, ⟨by omega, by omega⟩, fun _ => ?_, fun y => absurd y (by omega)⟩
            rw [hsum, ← ef]
            exact h2 μ ⟨s, hμ.more (by omega)⟩
          | succ m ih =>
            intro f sum μ h1 hμ hD k6 hsum
            obtain ⟨u1, u2, u3, u4, u5, u6, u7⟩ := id hμ
            have e1μ := (u1.2.2.2 p hp2.1 (by omega)).1
            unfold Mo_share_45
            rw [k6 5 0 (by omega), d5]
            refine ⟨⟨by omega, by omega⟩, ⟨by omega, by omega⟩, fun y => absurd y (by omega), fun _ => ⟨by omega, by omega, ?_⟩⟩
            have e33 : ∀ c, 0 ≤ c → c < 6 → μ 6 0 33 c = s.2.2.2.2.2.2 c := fun c c0 c1 => by rw [k6 33 c (by omega)]; exact y3 c c0 c1
            refine w_Mo_codeOf e1μ (u3.2.2.2.2.2.2 p hp2.1 (by omega)) hp2.1 (by omega) (fun c c0 c1 => by rw [e33 c c0 c1]; exact bd c c0 c1) (fun code z0 z1 ez => ?_)
            refine w_Mo_answerTo e1μ (u3.2.2.2.2.2.2 p hp2.1 (by omega)) hp2.1 (by omega) z0 z1 (by omega) (by omega) (fun bu μ2 hE2 _ _ => fun x6 e6 x7 e7 => ?_)
            have eA : AnC μ p (cv code) f = gA σ p s.2.2.2.2.2.2 f := by
              rw [AnC_congr (hD.2.2.2 p), ez, hD.2.2.2 p 0 (by omega)]
              unfold gA
              congr 1
              refine spt_congr (fun j j0 j1 => ?_)
              rw [hD.2.2.2 p 1 (by omega)]
              exact e33 _ (e1.2.2.2.1 j j0 j1).1.1 (e1.2.2.2.1 j j0 j1).1.2
            have ex : x7 = ((f + 1 : Nat) : Int) := by omega
            rw [ex]
            refine ih (f + 1) x6 μ2 (by omega) (hμ.asked6 hE2 (Int.le_refl _)) ⟨fun k i => by rw [hE2 0 0 k i (by unfold S6a; omega)]; exact hD.1 k i, fun k i => by rw [hE2 2 0 k i (by unfold S6a; omega)]; exact hD.2.1 k i, by rw [hE2 5 0 3 0 (by unfold S6a; omega)]; exact hD.2.2.1, fun p k hk i => by rw [hE2 3 p k i (by unfold S6a; omega)]; exact hD.2.2.2 p k hk i⟩ (fun k i hk => by rw [hE2 6 0 k i (by unfold S6a; omega)]; exact k6 k i hk) ?_
            rw [e6, eA, hsum, k6 6 _ (by omega), d6 f (by omega) (by omega)]
            rfl
        exact ⟨_, key (σ 2 0 0 0).toNat 0 0 σ' (by omega) hs' ⟨fun k i => hE 0 0 k i (by unfold S10; omega), fun k i => hE 2 0 k i (by unfold S10; omega), hE 5 0 3 0 (by unfold S10; omega), fun p k hk i => hE 3 p k i (by unfold S10; omega)⟩ (fun k i _ => k0 k i) rfl⟩
      · refine w_costOfValues a1 (fun c c0 c1 => by rw [c10 z c c0 c1]; exact bd c c0 c1) ?_
        unfold Sr_share_70
        have e0 : sm (σ 0 0 0 0).toNat (fun c => σ 0 0 2 (c * 4 + σ 4 0 5 c)) * sm (σ 2 0 0 0).toNat (σ 2 0 1) = prP σ s.2.2.2.2.2.2 := by
          unfold prP
          rw [sm_congr (f := fun c => σ 0 0 2 (c * 4 + σ 4 0 5 c)) (g := fun c => σ 0 0 2 (c * 4 + s.2.2.2.2.2.2 c)) (fun c c0 c1 => by rw [c10 z c c0 (by omega)])]
        have e6' : sm (σ 0 0 0 0).toNat (fun c => σ 0 0 2 (c * 4 + σ 6 0 33 c)) * sm (σ 2 0 0 0).toNat (σ 2 0 1) = prP σ s.2.2.2.2.2.2 := by
          unfold prP
          rw [sm_congr (f := fun c => σ 0 0 2 (c * 4 + σ 6 0 33 c)) (g := fun c => σ 0 0 2 (c * 4 + s.2.2.2.2.2.2 c)) (fun c c0 c1 => by rw [y3 c c0 (by omega)])]
        rw [e0]
        have pb := prP_bd a1 bd bF.1
        refine hQ _ σ ⟨⟨by omega, by omega⟩, fun Q2 h2 => way hk σ Q2 rfl ?_⟩
        unfold Mo_share_16
        rw [y1]
        refine ⟨⟨by omega, by omega⟩, fun _ => ⟨hp, fun y => absurd zp y, fun _ => ?_⟩, fun y => absurd y (by omega)⟩
        refine w_Mo_priceOf a1 a3 (fun c c0 c1 => by rw [y3 c c0 c1]; exact bd c c0 c1) (fun y => ?_) (fun _ => ?_)
        · obtain ⟨c, c0, c1', ce⟩ := y
          rw [y3 c c0 (by omega)] at ce
          exact absurd ce (bF.1 c c0 c1')
        · rw [e6']
          exact h2 σ hs.here
    · refine hQ (-4) σ ⟨⟨by omega, by omega⟩, fun Q2 h2 => way hk σ Q2 rfl ?_⟩
      unfold Mo_share_16
      rw [m7.1 z]
      exact ⟨⟨by omega, by omega⟩, fun y => absurd rfl y, fun _ => h2 σ hs.here⟩
  unfold Sr_share
  refine ⟨hp, fun z => main (Or.inl z), fun z => ?_⟩
  refine w_Sr_knowsPart hp hpp (fun b0 b1 => ⟨⟨by omega, by omega⟩, fun _ => main (Or.inr ⟨b0, b1⟩), fun y => absurd y (by omega)⟩) (fun y => ⟨⟨by omega, by omega⟩, fun y' => absurd rfl y', fun _ => hQ (-1) σ ⟨⟨by omega, by omega⟩, fun Q2 h2 => ?_⟩⟩)
  unfold Mo_share
  refine ⟨hp, fun z' => absurd z' z, fun _ => ?_⟩
  exact w_Mo_noPart hp d7 hpp (fun _ => ⟨⟨by omega, by omega⟩, fun y' => absurd y' (by omega), fun _ => h2 σ hs.here⟩) (fun y0 y1 => absurd (⟨y0, y1⟩ : 0 ≤ p ∧ p < σ 5 0 3 0) y)

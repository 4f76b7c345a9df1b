/-! ===== the reference: the master ===== -/
theorem FG_d {σ : Mem} {g : Int → (Int → Int) → Int → Int} {d d' : Int → Int} (hc : σ 0 0 0 0 ≤ 6) (h : ∀ c, 0 ≤ c → c < 6 → d c = d' c) (hg : ∀ p, 0 ≤ p → p < σ 5 0 3 0 → ∀ f, g p d f = g p d' f) : FG σ g d ↔ FG σ g d' := by
  unfold FG
  constructor
  · intro z
    refine ⟨fun c c0 c1 => ?_, fun p a b f c e => ?_⟩
    · rw [← h c c0 (by omega)]; exact z.1 c c0 c1
    · rw [← hg p a b f]; exact z.2 p a b f c e
  · intro z
    refine ⟨fun c c0 c1 => ?_, fun p a b f c e => ?_⟩
    · rw [h c c0 (by omega)]; exact z.1 c c0 c1
    · rw [hg p a b f]; exact z.2 p a b f c e
theorem Laid.eo {σ μ : Mem} {L : List CutT} {p f code B G : Int} (h : Laid σ L p f code B G) (hE : Eo S6 σ μ) : Laid μ L p f code B G := by
  have e0 := S6_cl hE 3 p 0 0 (by omega)
  have e1 : μ 3 p 1 = σ 3 p 1 := funext (fun i => S6_cl hE 3 p 1 i (by omega))
  have e2 : μ 3 p 2 = σ 3 p 2 := funext (fun i => S6_cl hE 3 p 2 i (by omega))
  unfold Laid
  rw [e0, e1, e2]
  exact h
def S6m : Nat → Int → Nat → Prop := fun c q k => c = 6 ∧ q = 0 ∧ (k = 30 ∨ k = 31 ∨ k = 34 ∨ (38 ≤ k ∧ k ≤ 40))
theorem S6m_S6 {c : Nat} {q : Int} {k : Nat} (h : S6m c q k) : S6 c q k := ⟨h.1, h.2.1, by have := h.2.2; omega⟩
/-- the registers of the least plan so far -/
def RgM (μ : Mem) (x b : Int) : Prop := (x = -4 → μ 6 0 30 0 = 0) ∧ (x ≠ -4 → μ 6 0 30 0 = 1 ∧ μ 6 0 31 0 = x ∧ ∀ c, 0 ≤ c → c < 6 → μ 6 0 34 c = pD b c) ∧ (x = -4 ∨ (0 ≤ x ∧ x ≤ 2100000))
theorem RgM.eo {μ ν : Mem} {x b : Int} (h : RgM μ x b) (he : ∀ k i, k = 30 ∨ k = 31 ∨ k = 34 → ν 6 0 k i = μ 6 0 k i) : RgM ν x b := by
  refine ⟨fun z => by rw [he 30 0 (by omega)]; exact h.1 z, fun z => ?_, h.2.2⟩
  obtain ⟨a, b', c⟩ := h.2.1 z
  exact ⟨by rw [he 30 0 (by omega)]; exact a, by rw [he 31 0 (by omega)]; exact b', fun i i0 i1 => by rw [he 34 i (by omega)]; exact c i i0 i1⟩
set_option maxHeartbeats 2000000 in
theorem w_Mo_findMaster {σ : Mem} {L : List CutT} {Q : Mem → Prop} (h : CW σ) (hJ : JS σ) (hMD : MD σ) (hL : RepM σ L) (hok : ∀ c ∈ L, okC σ c) (hQ : ∀ x b σ', Eo S6m σ σ' → Srch (VPl σ) (FGt σ (gL σ L)) (CGt σ (gL σ L)) 4096 x b → RgM σ' x b → (∀ p f code, 0 ≤ p → p < 4 → 0 ≤ f → f < 4 → 0 ≤ code → code < 64 → Laid σ L p f code (σ' 6 0 38 (64 * (4 * p + f) + code)) (σ' 6 0 39 (64 * (4 * p + f) + code))) → Q σ') : Mo_findMaster σ Q := by
  have hC := h.1
  have hc := hC.1
  have hP := h.2.2.1
  have hT := fun c c0 => Tch_bd hC c c0
  unfold Mo_findMaster
  refine w_Mo_layCuts h hJ hMD hL hok (fun σ1 hE1 hLd1 => fun σ2 e2 => w_Mo_firstPlan (fun σ3 hE3 hz3 => ?_))
  have hE13 : Eo S6m σ σ3 := (hE1.mono (fun c q k z => ⟨z.1, z.2.1, by have := z.2.2; omega⟩)).tr (Eo.tr (by rw [e2]; exact Eo.of_up ⟨rfl, rfl, by omega⟩) (hE3.mono (fun c q k z => ⟨z.1, z.2.1, by have := z.2.2; omega⟩)))
  have e38 : ∀ k i, k = 38 ∨ k = 39 → σ3 6 0 k i = σ1 6 0 k i := fun k i hk => by
    rw [hE3 6 0 k i (by unfold S40; omega), e2, up_ne (by omega)]
  have hLd : ∀ p f code, 0 ≤ p → p < 4 → 0 ≤ f → f < 4 → 0 ≤ code → code < 64 → Laid σ L p f code (σ3 6 0 38 (64 * (4 * p + f) + code)) (σ3 6 0 39 (64 * (4 * p + f) + code)) := fun p f code a b c d e g => by
    rw [e38 38 _ (by omega), e38 39 _ (by omega)]
    exact hLd1 p f code a b c d e g
  have key : ∀ (k : Nat) (μ : Mem) (x b : Int), Eo S6m σ μ → (∀ k i, k = 38 ∨ k = 39 → μ 6 0 k i = σ3 6 0 k i) → (∀ c, 0 ≤ c → c < 6 → 0 ≤ μ 6 0 40 c ∧ μ 6 0 40 c ≤ Tch σ c) → 4096 ≤ pf (μ 6 0 40) 6 + k → RgM μ x b → Srch (VPl σ) (FGt σ (gL σ L)) (CGt σ (gL σ L)) (pf (μ 6 0 40) 6) x b → Mo_findMaster_15 Q (k + 1) 1 μ := by
    intro k
    induction k with
    | zero =>
      intro μ x b hE hl hu hk hR hS
      have := pf6_bd (u := μ 6 0 40) (fun c c0 c1 => ⟨(hu c c0 c1).1, by have := hu c c0 c1; have := hT c c0; omega⟩)
      omega
    | succ k ih =>
      intro μ x b hE hl hu hk hR hS
      have hE6 : Eo S6 σ μ := hE.mono (fun c q k z => S6m_S6 z)
      have hCμ : CW μ := h.s6 hE6
      have hD : Dq σ μ := Dq.s6 hE6
      have hJμ : JS μ := hJ.dq hD
      have hMμ : MD μ := hMD.eo hE6
      have eT : Tch μ = Tch σ := by
        unfold Tch
        rw [hD.1]
        congr 1
        funext c
        rw [hD.1]
      have hu3 : ∀ c, 0 ≤ c → c < 6 → 0 ≤ μ 6 0 40 c ∧ μ 6 0 40 c ≤ 3 := fun c c0 c1 => ⟨(hu c c0 c1).1, by have := hu c c0 c1; have := hT c c0; omega⟩
      have hb6 := pf6_bd hu3
      have hdp : ∀ c, 0 ≤ c → c < 6 → pD (pf (μ 6 0 40) 6) c = μ 6 0 40 c := fun c c0 c1 => pD_pf hu3 c c0 c1
      have hVT : VPl σ (pf (μ 6 0 40) 6) := ⟨hb6, fun c c0 c1 => by rw [hdp c c0 c1]; exact (hu c c0 c1).2⟩
      have eF : FG μ (gL μ L) (μ 6 0 40) ↔ FGt σ (gL σ L) (pf (μ 6 0 40) 6) := by
        rw [Dq_FG hD, Dq_gL hD]
        exact FG_d hc.2 (fun c c0 c1 => (hdp c c0 c1).symm) (fun p a b f => gL_d (h.2.2.2 p a (by omega)).1 (fun c c0 c1 => (hdp c c0 c1).symm))
      have eG : CG μ (gL μ L) (μ 6 0 40) = CGt σ (gL σ L) (pf (μ 6 0 40) 6) := by
        rw [Dq_CG hD, Dq_gL hD]
        exact CG_d hc.2 (fun c c0 c1 => (hdp c c0 c1).symm) (fun p a b f => gL_d (h.2.2.2 p a (by omega)).1 (fun c c0 c1 => (hdp c c0 c1).symm))
      -- on to the next plan
      have nxt : ∀ (ν : Mem) (x' b' : Int), Eo S6m σ ν → (∀ k i, k = 38 ∨ k = 39 → ν 6 0 k i = σ3 6 0 k i) → ν 6 0 40 = μ 6 0 40 → RgM ν x' b' → (∀ T', pf (μ 6 0 40) 6 < T' → (∀ t, VPl σ t → pf (μ 6 0 40) 6 < t → T' ≤ t) → Srch (VPl σ) (FGt σ (gL σ L)) (CGt σ (gL σ L)) T' x' b') → Mo_findMaster_79 (fun z0 z1 => Mo_findMaster_15 Q (k + 1) z0 z1) Q ν := by
        intro ν x' b' hEν hlν e40 hRν hSν
        have hE6ν : Eo S6 σ ν := hEν.mono (fun c q k z => S6m_S6 z)
        have hDν := Dq.s6 hE6ν
        have eTν : Tch ν = Tch σ := by
          unfold Tch
          rw [hDν.1]
          congr 1
          funext c
          rw [hDν.1]
        unfold Mo_findMaster_79
        refine w_Mo_nextPlan (h.s6 hE6ν) (hMD.eo hE6ν) (by rw [e40, eTν]; exact hu) (fun σ' hE' hu' hlt hn => ?_) (fun σ' hE' hn => ?_)
        · rw [e40] at hlt hn
          rw [Dq_V hDν] at hn
          rw [eTν] at hu'
          refine ih σ' x' b' (hEν.tr (hE'.mono (fun c q k z => ⟨z.1, z.2.1, by have := z.2.2; omega⟩))) (fun k i hk' => by rw [hE' 6 0 k i (by unfold S40; omega)]; exact hlν k i hk') hu' (by omega) (hRν.eo (fun k i hk' => hE' 6 0 k i (by unfold S40; omega))) (hSν _ hlt hn)
        · rw [e40] at hn
          rw [Dq_V hDν] at hn
          have hE2 : Eo S6m σ σ' := hEν.tr (hE'.mono (fun c q k z => ⟨z.1, z.2.1, by have := z.2.2; omega⟩))
          show Mo_findMaster_15 Q (k + 1) 0 σ'
          unfold Mo_findMaster_15
          refine ⟨⟨by omega, by omega⟩, fun _ => ?_, fun z => absurd rfl z⟩
          refine hQ x' b' σ' hE2 (hSν 4096 (by omega) (fun t hV ht => absurd (hn t hV) (by omega))) (hRν.eo (fun k i hk' => hE' 6 0 k i (by unfold S40; omega))) (fun p f code a b c d e g => ?_)
          rw [hE' 6 0 38 _ (by unfold S40; omega), hE' 6 0 39 _ (by unfold S40; omega), hlν 38 _ (by omega), hlν 39 _ (by omega)]
          exact hLd p f code a b c d e g
      have lose : (¬ FGt σ (gL σ L) (pf (μ 6 0 40) 6) ∨ (x ≠ -4 ∧ x ≤ CGt σ (gL σ L) (pf (μ 6 0 40) 6))) → Mo_findMaster_79 (fun z0 z1 => Mo_findMaster_15 Q (k + 1) z0 z1) Q μ := by
        intro hx
        refine nxt μ x b hE hl rfl hR (fun T' hT' hn => hS.ext (by omega) (fun t t0 t1 hV hF => ?_))
        by_cases q : t = pf (μ 6 0 40) 6
        · subst q
          rcases hx with y | y
          · exact absurd hF y
          · exact y
        · exact absurd (hn t hV (by omega)) (by omega)
      have win : FGt σ (gL σ L) (pf (μ 6 0 40) 6) → 0 ≤ CGt σ (gL σ L) (pf (μ 6 0 40) 6) → CGt σ (gL σ L) (pf (μ 6 0 40) 6) ≤ 2100000 → (x = -4 ∨ CGt σ (gL σ L) (pf (μ 6 0 40) 6) < x) → Mo_findMaster_43 (fun z0 z1 => Mo_findMaster_15 Q (k + 1) z0 z1) Q (CGt σ (gL σ L) (pf (μ 6 0 40) 6)) μ := by
        intro hF c0 c1 hx
        have key2 : ∀ (m : Nat) (i : Int) (ν : Mem), i + m = 6 → 0 ≤ i → Eo S6m σ ν → (∀ k j, k = 38 ∨ k = 39 ∨ k = 40 → ν 6 0 k j = μ 6 0 k j) → ν 6 0 30 0 = 1 → ν 6 0 31 0 = CGt σ (gL σ L) (pf (μ 6 0 40) 6) → (∀ c, 0 ≤ c → c < i → ν 6 0 34 c = μ 6 0 40 c) → Mo_findMaster_55 (fun z0 z1 => Mo_findMaster_15 Q (k + 1) z0 z1) Q (m + 1) i ν := by
          intro m
          induction m with
          | zero =>
            intro i ν g1 g2 hEν hq z30 z31 z34
            unfold Mo_findMaster_55
            refine ⟨⟨by omega, by omega⟩, fun _ => ?_, fun z => absurd z (by omega)⟩
            refine nxt ν _ (pf (μ 6 0 40) 6) hEν (fun k i hk' => by rw [hq k i (by omega)]; exact hl k i hk') (funext (fun j => hq 40 j (by omega))) ⟨fun z => absurd z (by omega), fun _ => ⟨z30, z31, fun c a b => by rw [z34 c a (by omega), hdp c a b]⟩, Or.inr ⟨c0, c1⟩⟩ (fun T' hT' hn => hS.win hT' hVT hF c0 hx (fun t t0 t1 hV _ => absurd (hn t hV t0) (by omega)))
          | succ m ih2 =>
            intro i ν g1 g2 hEν hq z30 z31 z34
            unfold Mo_findMaster_55
            refine ⟨⟨by omega, by omega⟩, fun z => absurd z (by omega), fun _ => ⟨by omega, by omega, by omega, by omega, fun σ4 e4 x5 e5 => ?_⟩⟩
            subst e4
            refine ih2 x5 _ (by omega) (by omega) (hEν.tr (Eo.of_up ⟨rfl, rfl, by omega⟩)) (fun k j hk' => by rw [up_ne (by omega)]; exact hq k j hk') (by rw [up_ne (by omega)]; exact z30) (by rw [up_ne (by omega)]; exact z31) (fun c a b => ?_)
            by_cases q : c = i
            · subst q; rw [up_at]; exact hq 40 c (by omega)
            · rw [up_ne (by omega)]; exact z34 c a (by omega)
        unfold Mo_findMaster_43
        intro ν1 en1 ν2 en2
        refine ⟨_, key2 6 0 ν2 (by omega) (by omega) ?_ (fun k j hk' => by rw [en2, up_ne (by omega), en1, up_ne (by omega)]) (by rw [en2, up_ne (by omega), en1, up_at]) (by rw [en2, up_at]) (fun c a b => absurd b (by omega))⟩
        rw [en2, en1]
        exact hE.tr ((Eo.of_up ⟨rfl, rfl, by omega⟩).tr (Eo.of_up ⟨rfl, rfl, by omega⟩))
      unfold Mo_findMaster_15
      refine ⟨⟨by omega, by omega⟩, fun z => absurd z (by omega), fun _ => ?_⟩
      refine w_Mo_byCuts hCμ hJμ hMμ (by rw [eT]; exact hu) (fun p f code a b c d e g => by rw [hl 38 _ (by omega), hl 39 _ (by omega)]; exact (hLd p f code a b c d e g).eo hE6) (fun z => ?_) (fun z b0 b1 => ?_)
      · exact ⟨⟨by omega, by omega⟩, fun _ => lose (Or.inl (fun y => z (eF.mpr y))), fun y => absurd y (by omega)⟩
      · rw [eG] at b0 b1 ⊢
        have hF := eF.mp z
        refine ⟨⟨by omega, by omega⟩, fun y => absurd y (by omega), fun _ => ?_⟩
        have hok' := hR.2.2
        by_cases hx : x = -4
        · rw [hR.1 hx]
          exact ⟨⟨by omega, by omega⟩, fun _ => win hF b0 b1 (Or.inl hx), fun y => absurd rfl y⟩
        · obtain ⟨r1, r2, -⟩ := hR.2.1 hx
          rw [r1, r2]
          exact ⟨⟨by omega, by omega⟩, fun y => absurd y (by omega), fun _ => ⟨⟨by omega, by omega⟩, ⟨by omega, by omega⟩, fun y => lose (Or.inr ⟨hx, y⟩), fun y => win hF b0 b1 (Or.inr y)⟩⟩
  have e0 : pf (σ3 6 0 40) 6 = 0 := by
    rw [pf6, hz3 0 (by omega) (by omega), hz3 1 (by omega) (by omega), hz3 2 (by omega) (by omega), hz3 3 (by omega) (by omega), hz3 4 (by omega) (by omega), hz3 5 (by omega) (by omega)]
    rfl
  refine ⟨_, key 4096 σ3 (-4) 0 hE13 (fun _ _ _ => rfl) (fun c c0 c1 => by rw [hz3 c c0 c1]; have := hT c c0; omega) (by omega) ⟨fun _ => by rw [hE3 6 0 30 0 (by unfold S40; omega), e2, up_at], fun z => absurd rfl z, Or.inl rfl⟩ ?_⟩
  rw [e0]
  exact Srch.zero (fun t hV => hV.1.1)

theorem PB.eo {σ σ' : Mem} {p : Int} (h : PB σ p) (he : ∀ k : Nat, k < 10 → ∀ i, σ' 3 p k i = σ 3 p k i) : PB σ' p := by
  have e0 := he 0 (by omega)
  have e1 := he 1 (by omega)
  have e2 := he 2 (by omega)
  have e3 := he 3 (by omega)
  have e4 := he 4 (by omega)
  have e5 := he 5 (by omega)
  have e6 := he 6 (by omega)
  have e7 := he 7 (by omega)
  have e8 := he 8 (by omega)
  have e9 := he 9 (by omega)
  unfold PB at *
  simp only [e0, e1, e2, e3, e4, e5, e6, e7, e8, e9]
  exact h
/-- any next units behind a raise share the digits ahead -/
theorem adv {n : Int} {tp u u' v : Int → Int} {last r : Int} (hl0 : -1 ≤ last) (hl1 : last < 4) (hT : ∀ i, 0 ≤ i → i < 4 → tpv n tp i ≤ 3) (hu : ∀ i, 0 ≤ i → i < 4 → 0 ≤ u i ∧ u i ≤ tpv n tp i) (h1 : ∀ i, 0 ≤ i → i ≤ last → u' i = u i) (h2 : ∀ i, last < i → i < 4 → u' i = 0) (hz : Rz last (tpv n tp) u' v r) (ht : ∀ i, last + 1 < i → i < 4 → u i = 0) : (r = 1 ∧ (∀ i, 0 ≤ i → i < 4 → 0 ≤ v i ∧ v i ≤ tpv n tp i) ∧ rk u < rk v ∧ ∀ t, VU n tp t → rk u ≤ t → t < rk v → (∀ i, 0 ≤ i → i ≤ last → uD t i = u i) ∧ ∀ i, 0 ≤ i → i < 4 → u i ≤ uD t i) ∨ (r = 0 ∧ ∀ t, VU n tp t → rk u ≤ t → (∀ i, 0 ≤ i → i ≤ last → uD t i = u i) ∧ ∀ i, 0 ≤ i → i < 4 → u i ≤ uD t i) := by
  have hu' : ∀ i : Int, 0 ≤ i → i < (4 : Nat) → 0 ≤ u' i ∧ u' i ≤ tpv n tp i ∧ tpv n tp i ≤ 3 := by
    intro i i0 i1
    have a := hu i i0 (by omega)
    have b := hT i i0 (by omega)
    by_cases c : i ≤ last
    · rw [h1 i i0 c]; exact ⟨a.1, a.2, b⟩
    · rw [h2 i (by omega) (by omega)]; exact ⟨by omega, by omega, b⟩
  have hu3 : ∀ i : Int, 0 ≤ i → i < (4 : Nat) → 0 ≤ u i ∧ u i ≤ 3 := fun i i0 i1 => ⟨(hu i i0 (by omega)).1, by have := hu i i0 (by omega); have := hT i i0 (by omega); omega⟩
  have hle : ∀ x : Int → Int, (∀ i : Int, 0 ≤ i → i < (4 : Nat) → 0 ≤ x i ∧ x i ≤ 3) → pf u 4 ≤ pf x 4 → pf u' 4 ≤ pf x 4 := by
    intro x hx hux
    refine Int.le_trans ?_ hux
    rw [rk_pf, rk_pf]
    have g0 : u' 0 ≤ u 0 := by by_cases c : 0 ≤ last
                               · rw [h1 0 (by omega) c]; exact Int.le_refl _
                               · rw [h2 0 (by omega) (by omega)]; exact (hu 0 (by omega) (by omega)).1
    have g1 : u' 1 ≤ u 1 := by by_cases c : 1 ≤ last
                               · rw [h1 1 (by omega) c]; exact Int.le_refl _
                               · rw [h2 1 (by omega) (by omega)]; exact (hu 1 (by omega) (by omega)).1
    have g2 : u' 2 ≤ u 2 := by by_cases c : 2 ≤ last
                               · rw [h1 2 (by omega) c]; exact Int.le_refl _
                               · rw [h2 2 (by omega) (by omega)]; exact (hu 2 (by omega) (by omega)).1
    have g3 : u' 3 ≤ u 3 := by by_cases c : 3 ≤ last
                               · rw [h1 3 (by omega) c]; exact Int.le_refl _
                               · rw [h2 3 (by omega) (by omega)]; exact (hu 3 (by omega) (by omega)).1
    unfold rk
    omega
  have hge : ∀ t, VU n tp t → rk u ≤ t → (∀ i, 0 ≤ i → i ≤ last → uD t i = u' i) → (∀ i, 0 ≤ i → i ≤ last → uD t i = u i) ∧ ∀ i, 0 ≤ i → i < 4 → u i ≤ uD t i := by
    intro t hV hr hx
    have hd := fun i => uD_bd hV.1.1 hV.1.2 i
    have hx' : ∀ i, 0 ≤ i → i ≤ last → uD t i = u i := fun i i0 i1 => by rw [hx i i0 i1, h1 i i0 i1]
    refine ⟨hx', fun i i0 i1 => ?_⟩
    by_cases c : i ≤ last
    · rw [hx' i i0 c]; exact Int.le_refl _
    · by_cases c2 : i = last + 1
      · obtain ⟨La, hLa⟩ := Int.eq_ofNat_of_zero_le i0
        have k := pf_down (u := u) (x := uD t) (m := La + 1) (n := 4) (by omega) hu3 (fun i _ _ => hd i) (by rw [rk_pf, rk_pf, rk_uD hV.1.1 hV.1.2]; exact hr)
        have e : pf u La = pf (uD t) La := pf_congr (fun i q0 q1 => (hx' i q0 (by omega)).symm)
        simp only [pf] at k
        rw [hLa]
        omega
      · rw [ht i (by omega) i1]; exact (hd i).1
  have vx : ∀ t, VU n tp t → ∀ i : Int, 0 ≤ i → i < (4 : Nat) → 0 ≤ uD t i ∧ uD t i ≤ tpv n tp i := fun t hV i i0 i1 => ⟨(uD_bd hV.1.1 hV.1.2 i).1, hV.2 i i0 (by omega)⟩
  rcases odo (n := 4) hl0 hl1 hu' hz (fun i i0 i1 => h2 i i0 (by omega)) with ⟨a1, a2, a3, a4⟩ | ⟨a1, a2⟩
  · refine Or.inl ⟨a1, fun i i0 i1 => a2 i i0 (by omega), ?_, fun t hV g1 g2 => ?_⟩
    · have := a3 u hu3 (fun i i0 i1 => (h1 i i0 i1).symm)
      rwa [rk_pf, rk_pf] at this
    · refine hge t hV g1 (a4 (uD t) (vx t hV) (hle _ (fun i _ _ => uD_bd hV.1.1 hV.1.2 i) ?_) ?_)
      · rw [rk_pf, rk_pf, rk_uD hV.1.1 hV.1.2]; exact g1
      · rw [rk_pf, rk_pf, rk_uD hV.1.1 hV.1.2]; exact g2
  · refine Or.inr ⟨a1, fun t hV g1 => ?_⟩
    refine hge t hV g1 (a2 (uD t) (vx t hV) (hle _ (fun i _ _ => uD_bd hV.1.1 hV.1.2 i) ?_))
    rw [rk_pf, rk_pf, rk_uD hV.1.1 hV.1.2]; exact g1
theorem w_Pa_raiseFrom {σ : Mem} {p last : Int} {Q : Int → Mem → Prop} (hl0 : -1 ≤ last) (hl1 : last < 4) (hu : ∀ i, 0 ≤ i → i ≤ last → InR (σ 3 p 13 i) ∧ InR (σ 3 p 4 i)) (hQ : ∀ r σ', Eo (fun c q k => c = 3 ∧ q = p ∧ k = 13) σ σ' → Rz last (σ 3 p 4) (σ 3 p 13) (σ' 3 p 13) r → Q r σ') : Pa_raiseFrom p last σ Q := by
  have key : ∀ (k : Nat) (i : Int) (σ' : Mem), i + 1 = k → i ≤ last → Eo (fun c q k => c = 3 ∧ q = p ∧ k = 13) σ σ' → (∀ m, m ≤ i → σ' 3 p 13 m = σ 3 p 13 m) → (∀ m, i < m → m ≤ last → σ' 3 p 13 m = 0 ∧ σ 3 p 4 m ≤ σ 3 p 13 m) → (∀ m, last < m → σ' 3 p 13 m = σ 3 p 13 m) → Pa_raiseFrom_2 Q (k + 1) p i σ' := by
    intro k
    induction k with
    | zero =>
      intro i σ' h1 h2 hE g1 g2 g3
      unfold Pa_raiseFrom_2
      refine ⟨⟨by omega, by omega⟩, fun _ => ?_, fun h => absurd h (by omega)⟩
      exact hQ 0 σ' hE (Or.inr ⟨rfl, fun m m0 m1 => (g2 m (by omega) m1).2⟩)
    | succ k ih =>
      intro i σ' h1 h2 hE g1 g2 g3
      have e4 : σ' 3 p 4 i = σ 3 p 4 i := hE 3 p 4 i (by simp)
      have e13 := g1 i (Int.le_refl i)
      have hb := hu i (by omega) h2
      unfold Pa_raiseFrom_2
      rw [e4, e13]
      refine ⟨⟨by omega, by omega⟩, fun h => absurd h (by omega), fun _ => ⟨by omega, by omega, by omega, by omega, hb.1, hb.2, fun hc => ⟨by omega, by omega, fun σ6 es x7 ex => ?_⟩, fun hc => ⟨by omega, by omega, by omega, by omega, fun σ9 es => ?_⟩⟩⟩
      · subst es
        refine ih x7 _ (by omega) (by omega) (hE.tr (Eo.of_up ⟨rfl, rfl, rfl⟩)) (fun m m1 => ?_) (fun m m0 m1 => ?_) (fun m m0 => ?_)
        · rw [up_ne (by omega)]; exact g1 m (by omega)
        · by_cases c : m = i
          · subst c; exact ⟨up_at, hc⟩
          · rw [up_ne (by omega)]; exact g2 m (by omega) m1
        · rw [up_ne (by omega)]; exact g3 m m0
      · subst es
        refine hQ 1 _ (hE.tr (Eo.of_up ⟨rfl, rfl, rfl⟩)) (Or.inl ⟨rfl, i, by omega, h2, up_at, hc, fun m m0 m1 => ?_, fun m m0 m1 => ?_, fun m m0 => ?_⟩)
        · rw [up_ne (by omega)]; exact g1 m (by omega)
        · rw [up_ne (by omega)]; exact g2 m m0 m1
        · rw [up_ne (by omega)]; exact g3 m m0
  exact ⟨_, key (last + 1).toNat last σ (by omega) (Int.le_refl _) Eo.rf (fun _ _ => rfl) (fun m m0 m1 => absurd m1 (by omega)) (fun _ _ => rfl)⟩
theorem w_Pa_clearLastUsed {σ : Mem} {p : Int} {Q : Int → Mem → Prop} (hn0 : 0 ≤ σ 3 p 3 0) (hn1 : σ 3 p 3 0 ≤ 4) (hu : ∀ i, 0 ≤ i → i < 4 → InR (σ 3 p 13 i)) (hQ : ∀ i σ', (σ 3 p 3 0 = 0 → i = -1 ∧ σ' = σ) → (0 < σ 3 p 3 0 → 0 ≤ i ∧ i < σ 3 p 3 0 ∧ σ' = up σ 3 p 13 i 0 ∧ ∀ m, i < m → m < σ 3 p 3 0 → σ 3 p 13 m = 0) → Q i σ') : Pa_clearLastUsed p σ Q := by
  have fin : ∀ i : Int, -1 ≤ i → i < σ 3 p 3 0 → (0 < σ 3 p 3 0 → 0 ≤ i) → (∀ m, i < m → m < σ 3 p 3 0 → σ 3 p 13 m = 0) → Pa_clearLastUsed_26 Q p i σ := by
    intro i i0 i1 i2 hz
    unfold Pa_clearLastUsed_26
    refine ⟨⟨by omega, by omega⟩, fun h => ?_, fun h => ⟨h, by omega, fun σ2 es => ?_⟩⟩
    · exact hQ i σ (fun _ => ⟨by omega, rfl⟩) (fun h' => absurd (i2 h') (by omega))
    · subst es
      exact hQ i _ (fun h' => absurd h' (by omega)) (fun _ => ⟨h, i1, rfl, hz⟩)
  have key : ∀ (k : Nat) (i : Int), i ≤ k → -1 ≤ i → i < σ 3 p 3 0 → (0 < σ 3 p 3 0 → 0 ≤ i) → (∀ m, i < m → m < σ 3 p 3 0 → σ 3 p 13 m = 0) → Pa_clearLastUsed_7 Q (k + 1) p i σ := by
    intro k
    induction k with
    | zero =>
      intro i h1 h2 h3 h4 hz
      unfold Pa_clearLastUsed_7
      exact ⟨⟨by omega, by omega⟩, fun _ => fin i h2 h3 h4 hz, fun h => absurd h (by omega)⟩
    | succ k ih =>
      intro i h1 h2 h3 h4 hz
      unfold Pa_clearLastUsed_7
      refine ⟨⟨by omega, by omega⟩, fun _ => fin i h2 h3 h4 hz, fun h => ⟨by omega, by omega, hu i (by omega) (by omega), fun _ => fin i h2 h3 h4 hz, fun hc x4 ex => ih x4 (by omega) (by omega) (by omega) (fun _ => by omega) (fun m m0 m1 => ?_)⟩⟩
      by_cases c : m = i
      · subst c; exact hc
      · exact hz m (by omega) m1
  unfold Pa_clearLastUsed
  intro x1 e1
  exact ⟨_, key 4 x1 (by omega) (by omega) (by omega) (by omega) (fun m m0 m1 => absurd m1 (by omega))⟩
theorem w_Pa_rowsHold {σ : Mem} {p : Int} {Q : Int → Mem → Prop} (hb : PB σ p) (hu : ∀ i, 0 ≤ i → i < 4 → 0 ≤ σ 3 p 13 i ∧ σ 3 p 13 i ≤ 3) (hr : ∀ r, 0 ≤ r → r < σ 3 p 6 0 → InR (σ 3 p 12 r)) (hQ1 : (∀ r, 0 ≤ r → r < σ 3 p 6 0 → sm (σ 3 p 3 0).toNat (fun i => σ 3 p 8 (r * 10 + i) * σ 3 p 13 i) ≤ σ 3 p 12 r) → Q 1 σ) (hQ0 : ∀ r, 0 ≤ r → r < σ 3 p 6 0 → σ 3 p 12 r < sm (σ 3 p 3 0).toNat (fun i => σ 3 p 8 (r * 10 + i) * σ 3 p 13 i) → Q 0 σ) : Pa_rowsHold p σ Q := by
  obtain ⟨hj, hl, hrc, b4, b5, b6, b7, b8⟩ := hb
  have bd : ∀ r : Int, 0 ≤ r → r < 6 → ∀ j : Nat, (j : Int) ≤ 4 → -108 ≤ sm j (fun i => σ 3 p 8 (r * 10 + i) * σ 3 p 13 i) ∧ sm j (fun i => σ 3 p 8 (r * 10 + i) * σ 3 p 13 i) ≤ 108 := by
    intro r r0 r1 j hj
    have := sm_bd (f := fun i => σ 3 p 8 (r * 10 + i) * σ 3 p 13 i) (lo := -27) (hi := 27) (n := j) (fun i i0 i1 => by
      have a := b7 (r * 10 + i) (by omega) (by omega)
      have b := hu i i0 (by omega)
      exact mul_bd2 (A := 9) (B := 3) a.1 a.2 b.1 b.2)
    omega
  have key : ∀ (k : Nat) (r : Int), r + k = σ 3 p 6 0 → 0 ≤ r → (∀ r', 0 ≤ r' → r' < r → sm (σ 3 p 3 0).toNat (fun i => σ 3 p 8 (r' * 10 + i) * σ 3 p 13 i) ≤ σ 3 p 12 r') → Pa_rowsHold_2 Q (k + 1) p r σ := by
    intro k
    induction k with
    | zero =>
      intro r h1 h2 hh
      unfold Pa_rowsHold_2
      exact ⟨⟨by omega, by omega⟩, ⟨by omega, by omega⟩, fun _ => hQ1 (fun r' q0 q1 => hh r' q0 (by omega)), fun h => absurd h (by omega)⟩
    | succ k ih =>
      intro r h1 h2 hh
      have key2 : ∀ (m : Nat) (j : Nat) (s : Int), (j : Int) + m = σ 3 p 3 0 → s = sm j (fun i => σ 3 p 8 (r * 10 + i) * σ 3 p 13 i) → Pa_rowsHold_14 (fun z0 z1 z2 => Pa_rowsHold_2 Q (k + 1) z0 z1 z2) Q (m + 1) p r s j σ := by
        intro m
        induction m with
        | zero =>
          intro j s g1 g2
          have bj := bd r h2 (by omega) j (by omega)
          have ej : (σ 3 p 3 0).toNat = j := by omega
          unfold Pa_rowsHold_14
          refine ⟨⟨by omega, by omega⟩, ⟨by omega, by omega⟩, fun _ => ⟨by omega, by omega, ⟨by omega, by omega⟩, hr r h2 (by omega), fun hc x6 ex => ih x6 (by omega) (by omega) (fun r' q0 q1 => ?_), fun hc => hQ0 r h2 (by omega) (by rw [ej, ← g2]; exact hc)⟩, fun h => absurd h (by omega)⟩
          by_cases c : r' = r
          · subst c; rw [ej, ← g2]; exact hc
          · exact hh r' q0 (by omega)
        | succ m ih2 =>
          intro j s g1 g2
          unfold Pa_rowsHold_14
          refine ⟨⟨by omega, by omega⟩, ⟨by omega, by omega⟩, fun h => absurd h (by omega), fun _ => ⟨by omega, by omega, by omega, by omega, fun x9 e9 x10 e10 => ?_⟩⟩
          have ex : x10 = ((j + 1 : Nat) : Int) := by omega
          rw [ex]
          refine ih2 (j + 1) x9 (by omega) ?_
          rw [e9, g2]
          rfl
      unfold Pa_rowsHold_2
      exact ⟨⟨by omega, by omega⟩, ⟨by omega, by omega⟩, fun h => absurd h (by omega), fun _ => ⟨_, key2 (σ 3 p 3 0).toNat 0 0 (by omega) rfl⟩⟩
  exact ⟨_, key (σ 3 p 6 0).toNat 0 (by omega) (by omega) (fun r' q0 q1 => absurd q1 (by omega))⟩

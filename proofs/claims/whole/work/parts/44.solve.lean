def VCp (σ : Mem) (p : Int) : Int → Prop := VU (σ 3 p 3 0) (σ 3 p 4)
def FCp (σ : Mem) (p spot f : Int) : Int → Prop := FU (σ 3 p 3 0) (σ 3 p 6 0) (fun r i => σ 3 p 8 (r * 10 + i)) (roomC σ p spot f)
def pCp (σ : Mem) (p : Int) : Int → Int := prU (σ 3 p 3 0) (σ 3 p 5)
def S14 (p : Int) : Nat → Int → Nat → Prop := fun c q k => c = 3 ∧ q = p ∧ 12 ≤ k ∧ k ≤ 14
theorem prU_mono {n : Int} {pc : Int → Int} {u : Int → Int} {t : Int} (hn : n ≤ 4) (hp : ∀ i, 0 ≤ i → i < n → 0 ≤ pc i) (h : ∀ i, 0 ≤ i → i < 4 → u i ≤ uD t i) : sm n.toNat (fun i => u i * pc i) ≤ prU n pc t := by
  refine sm_le (fun i i0 i1 => ?_)
  exact Int.mul_le_mul_of_nonneg_right (h i i0 (by omega)) (hp i i0 (by omega))
theorem roomC_bd {σ : Mem} {p spot f r : Int} (hb : PB σ p) (hs0 : 0 ≤ spot) (hs1 : spot < 64) (hf0 : 0 ≤ f) (hf1 : f < 4) (hr0 : 0 ≤ r) (hr1 : r < 6) : -300 ≤ roomC σ p spot f r ∧ roomC σ p spot f r ≤ 300 := by
  obtain ⟨hj, hl, hrc, b4, b5, b6, b7, b8⟩ := hb
  have a := sm_bd (f := fun j => σ 3 p 8 (r * 10 + 4 + σ 3 p 1 j) * dS spot j) (lo := -27) (hi := 27) (n := (σ 3 p 0 0).toNat) (fun i i0 i1 => by
    have c := b4 i i0 (by omega)
    have a := b7 (r * 10 + 4 + σ 3 p 1 i) (by omega) (by omega)
    have b := dS_bd spot i hs0 hs1
    exact mul_bd2 (A := 9) (B := 3) a.1 a.2 b.1 (by omega))
  have b := b6 r hr0 hr1
  have c := b8 (f * 6 + r) (by omega) (by omega)
  unfold roomC
  omega
set_option maxHeartbeats 4000000 in
theorem w_Pa_solve {σ : Mem} {p spot f : Int} {Q : Int → Mem → Prop} (hb : PB σ p) (hs0 : 0 ≤ spot) (hs1 : spot < 64) (hf0 : 0 ≤ f) (hf1 : f < 4) (hQ : ∀ x b σ', Eo (S14 p) σ σ' → Srch (VCp σ p) (FCp σ p spot f) (pCp σ p) 256 x b → (x ≠ -4 → ∀ i, 0 ≤ i → i < 4 → σ' 3 p 14 i = uD b i) → (x = -4 ∨ 0 ≤ x ∧ x ≤ 600) → Q x σ') : Pa_solve p spot f σ Q := by
  have hb' := hb
  obtain ⟨hj, hl, hrc, b4, b5, b6, b7, b8⟩ := hb'
  have hT : ∀ i, 0 ≤ i → i < 4 → 0 ≤ tpv (σ 3 p 3 0) (σ 3 p 4) i ∧ tpv (σ 3 p 3 0) (σ 3 p 4) i ≤ 3 := by
    intro i i0 i1
    unfold tpv
    split
    · rename_i c
      have := b5 i i0 c
      omega
    · omega
  have pcn : ∀ i, 0 ≤ i → i < σ 3 p 3 0 → 0 ≤ σ 3 p 5 i := fun i i0 i1 => (b5 i i0 i1).2.1
  have key : ∀ (k : Nat) (step x more b : Int) (μ : Mem), step + k = 256 → 0 ≤ step → Eo (S14 p) σ μ → (∀ r, 0 ≤ r → r < σ 3 p 6 0 → μ 3 p 12 r = roomC σ p spot f r) → (x ≠ -4 → ∀ i, 0 ≤ i → i < 4 → μ 3 p 14 i = uD b i) → (x = -4 ∨ 0 ≤ x ∧ x ≤ 600) → ((more = 1 ∧ (∀ i, 0 ≤ i → i < 4 → 0 ≤ μ 3 p 13 i ∧ μ 3 p 13 i ≤ tpv (σ 3 p 3 0) (σ 3 p 4) i) ∧ step ≤ rk (μ 3 p 13) ∧ Srch (VCp σ p) (FCp σ p spot f) (pCp σ p) (rk (μ 3 p 13)) x b) ∨ (more = 0 ∧ Srch (VCp σ p) (FCp σ p spot f) (pCp σ p) 256 x b)) → Pa_solve_23 Q (k + 1) p x more step μ := by
    intro k
    induction k with
    | zero =>
      intro step x more b μ h1 h2 hE hR hL hx hh
      unfold Pa_solve_23
      refine ⟨⟨by omega, by omega⟩, fun _ => ?_, fun h => absurd h (by omega)⟩
      unfold Pa_solve_125
      rcases hh with ⟨m1, hu, hst, hS⟩ | ⟨m0, hS⟩
      · have := rk_bd (u := μ 3 p 13) (fun i i0 i1 => ⟨(hu i i0 i1).1, by have := hu i i0 i1; have := hT i i0 i1; omega⟩)
        omega
      · exact hQ x b μ hE hS hL hx
    | succ k ih =>
      intro step x more b μ h1 h2 hE hR hL hx hh
      rcases hh with ⟨m1, hu, hst, hS⟩ | ⟨m0, hS⟩
      rotate_left
      · unfold Pa_solve_23
        refine ⟨⟨by omega, by omega⟩, fun h => absurd h (by omega), fun _ => ⟨⟨by omega, by omega⟩, fun _ => ?_, fun h => absurd m0 h⟩⟩
        unfold Pa_solve_125
        exact hQ x b μ hE hS hL hx
      have hu3 : ∀ i, 0 ≤ i → i < 4 → 0 ≤ μ 3 p 13 i ∧ μ 3 p 13 i ≤ 3 := fun i i0 i1 => ⟨(hu i i0 i1).1, by have := hu i i0 i1; have := hT i i0 i1; omega⟩
      have ed : ∀ k : Nat, k < 10 → ∀ i, μ 3 p k i = σ 3 p k i := fun k hk i => hE 3 p k i (by unfold S14; omega)
      have hbμ : PB μ p := hb.eo ed
      have eP : sm (μ 3 p 3 0).toNat (fun i => μ 3 p 13 i * μ 3 p 5 i) = pCp σ p (rk (μ 3 p 13)) := by
        unfold pCp prU
        rw [ed 3 (by omega)]
        refine sm_congr (fun i i0 i1 => ?_)
        rw [ed 5 (by omega), uD_rk hu3 i i0 (by omega)]
      have bP : 0 ≤ pCp σ p (rk (μ 3 p 13)) ∧ pCp σ p (rk (μ 3 p 13)) ≤ 600 := by
        rw [← eP, ed 3 (by omega)]
        have := sm_bd (f := fun i => μ 3 p 13 i * μ 3 p 5 i) (lo := 0) (hi := 150) (n := (σ 3 p 3 0).toNat) (fun i i0 i1 => by
          have a := hu3 i i0 (by omega)
          have c := (b5 i i0 (by omega)).2
          rw [ed 5 (by omega)]
          exact mul_bd (A := 3) (B := 50) a.1 a.2 c.1 c.2)
        omega
      have hVT : VCp σ p (rk (μ 3 p 13)) := VU_rk hu3 (fun i i0 i1 => (hu i i0 i1).2)
      -- behind a raise: the loop goes on
      have fin : ∀ (x' b' r : Int) (μ1 : Mem), Eo (S14 p) σ μ1 → (∀ r, 0 ≤ r → r < σ 3 p 6 0 → μ1 3 p 12 r = roomC σ p spot f r) → (x' ≠ -4 → ∀ i, 0 ≤ i → i < 4 → μ1 3 p 14 i = uD b' i) → (x' = -4 ∨ 0 ≤ x' ∧ x' ≤ 600) → ((r = 1 ∧ (∀ i, 0 ≤ i → i < 4 → 0 ≤ μ1 3 p 13 i ∧ μ1 3 p 13 i ≤ tpv (σ 3 p 3 0) (σ 3 p 4) i) ∧ rk (μ 3 p 13) < rk (μ1 3 p 13) ∧ Srch (VCp σ p) (FCp σ p spot f) (pCp σ p) (rk (μ1 3 p 13)) x' b') ∨ (r = 0 ∧ Srch (VCp σ p) (FCp σ p spot f) (pCp σ p) 256 x' b')) → ∀ x2 : Int, x2 = step + 1 → Pa_solve_23 Q (k + 1) p x' r x2 μ1 := by
        intro x' b' r μ1 g1 g2 g3 g3' g4 x2 e2
        refine ih x2 x' r b' μ1 (by omega) (by omega) g1 g2 g3 g3' ?_
        rcases g4 with ⟨a1, a2, a3, a4⟩ | g4
        · exact Or.inl ⟨a1, a2, by omega, a4⟩
        · exact Or.inr g4
      -- plain: the next units
      have B0 : ¬ FCp σ p spot f (rk (μ 3 p 13)) → Pa_solve_93 (fun z0 z1 z2 z3 z4 => Pa_solve_23 Q (k + 1) z0 z1 z2 z3 z4) Q p x step 0 μ := by
        intro hnF
        unfold Pa_solve_93
        refine ⟨InR_0, fun _ => ?_, fun h => absurd rfl h⟩
        unfold Pa_solve_114
        rw [ed 3 (by omega)]
        refine w_Pa_raiseFrom (by omega) (by omega) (fun i i0 i1 => ⟨?_, ?_⟩) (fun r μ1 hE1 hz => ?_)
        · have := hu3 i i0 (by omega)
          exact ⟨by omega, by omega⟩
        · rw [ed 4 (by omega)]
          have := b5 i i0 (by omega)
          exact ⟨by omega, by omega⟩
        · have hE2 : Eo (S14 p) σ μ1 := hE.tr (hE1.mono (fun c q k h => ⟨h.1, h.2.1, by omega, by omega⟩))
          have hz' : Rz (σ 3 p 3 0 - 1) (tpv (σ 3 p 3 0) (σ 3 p 4)) (μ 3 p 13) (μ1 3 p 13) r := hz.congr (fun i i0 i1 => by
            rw [ed 4 (by omega)]
            unfold tpv
            rw [if_pos (by omega)])
          have z0 : ∀ i, σ 3 p 3 0 - 1 < i → i < 4 → μ 3 p 13 i = 0 := by
            intro i i0 i1
            have a := hu i (by omega) i1
            unfold tpv at a
            rw [if_neg (by omega)] at a
            omega
          have A := adv (n := σ 3 p 3 0) (tp := σ 3 p 4) (u := μ 3 p 13) (u' := μ 3 p 13) (v := μ1 3 p 13) (by omega) (by omega) (fun i i0 i1 => (hT i i0 i1).2) hu (fun _ _ _ => rfl) z0 hz' (fun i i0 i1 => z0 i (by omega) i1)
          have one : ∀ t, VCp σ p t → (∀ i, 0 ≤ i → i ≤ σ 3 p 3 0 - 1 → uD t i = μ 3 p 13 i) → t = rk (μ 3 p 13) := by
            intro t hV he
            rw [← rk_uD hV.1.1 hV.1.2, ← rk_pf, ← rk_pf]
            refine pf_congr (fun i i0 i1 => ?_)
            by_cases c : i ≤ σ 3 p 3 0 - 1
            · exact he i i0 c
            · have a := hV.2 i i0 (by omega)
              rw [if_neg (by omega)] at a
              have := (uD_bd hV.1.1 hV.1.2 i).1
              rw [z0 i (by omega) (by omega)]
              omega
          have hE12 : ∀ i, μ1 3 p 12 i = μ 3 p 12 i := fun i => hE1 3 p 12 i (by simp)
          have hE14 : ∀ i, μ1 3 p 14 i = μ 3 p 14 i := fun i => hE1 3 p 14 i (by simp)
          refine fin x b r μ1 hE2 (fun r r0 r1 => by rw [hE12]; exact hR r r0 r1) (fun hxx i i0 i1 => by rw [hE14]; exact hL hxx i i0 i1) hx ?_
          rcases A with ⟨a1, a2, a3, a4⟩ | ⟨a1, a2⟩
          · refine Or.inl ⟨a1, a2, a3, hS.ext (by omega) (fun t t0 t1 hV hF => ?_)⟩
            have e := one t hV (a4 t hV t0 t1).1
            subst e
            exact absurd hF hnF
          · have hb3 := rk_bd hu3
            refine Or.inr ⟨a1, hS.ext (by omega) (fun t t0 t1 hV hF => ?_)⟩
            have e := one t hV (a2 t hV t0).1
            subst e
            exact absurd hF hnF
      -- skipping: all that has at least these units
      have B1 : ∀ (x' b' : Int) (ν : Mem), Eo (S14 p) σ ν → (∀ i, ν 3 p 13 i = μ 3 p 13 i) → (∀ r, 0 ≤ r → r < σ 3 p 6 0 → ν 3 p 12 r = roomC σ p spot f r) → (x' ≠ -4 → ∀ i, 0 ≤ i → i < 4 → ν 3 p 14 i = uD b' i) → (x' = -4 ∨ 0 ≤ x' ∧ x' ≤ 600) → (∀ T', rk (μ 3 p 13) < T' → (∀ t, rk (μ 3 p 13) ≤ t → t < T' → VCp σ p t → pCp σ p (rk (μ 3 p 13)) ≤ pCp σ p t) → Srch (VCp σ p) (FCp σ p spot f) (pCp σ p) T' x' b') → Pa_solve_93 (fun z0 z1 z2 z3 z4 => Pa_solve_23 Q (k + 1) z0 z1 z2 z3 z4) Q p x' step 1 ν := by
        intro x' b' ν hEν hνu hRν hLν hx' hs
        have edν : ∀ k : Nat, k < 10 → ∀ i, ν 3 p k i = σ 3 p k i := fun k hk i => hEν 3 p k i (by unfold S14; omega)
        have hb3 := rk_bd hu3
        have pm : ∀ t, (∀ i, 0 ≤ i → i < 4 → μ 3 p 13 i ≤ uD t i) → pCp σ p (rk (μ 3 p 13)) ≤ pCp σ p t := by
          intro t ht
          have := prU_mono (n := σ 3 p 3 0) (pc := σ 3 p 5) (u := μ 3 p 13) (t := t) hl.2 pcn ht
          refine Int.le_trans (Int.le_of_eq ?_) this
          rw [← eP, ed 3 (by omega)]
          refine sm_congr (fun i i0 i1 => by rw [ed 5 (by omega)])
        unfold Pa_solve_93
        refine ⟨⟨by omega, by omega⟩, fun h => absurd h (by omega), fun _ => ?_⟩
        refine w_Pa_clearLastUsed (by rw [edν 3 (by omega)]; omega) (by rw [edν 3 (by omega)]; omega) (fun i i0 i1 => by
          rw [hνu]
          have := hu3 i i0 i1
          exact ⟨by omega, by omega⟩) (fun i ν2 hc0 hc1 => ?_)
        rw [edν 3 (by omega)] at hc0 hc1
        unfold Pa_solve_114
        by_cases hn : σ 3 p 3 0 = 0
        · obtain ⟨ei, eν⟩ := hc0 hn
          subst eν
          have z0 : ∀ i, -1 < i → i < 4 → μ 3 p 13 i = 0 := by
            intro i i0 i1
            have a := hu i (by omega) i1
            unfold tpv at a
            rw [if_neg (by omega)] at a
            omega
          have A := adv (n := σ 3 p 3 0) (tp := σ 3 p 4) (u := μ 3 p 13) (u' := μ 3 p 13) (v := μ 3 p 13) (last := -1) (r := 0) (by omega) (by omega) (fun i i0 i1 => (hT i i0 i1).2) hu (fun _ _ _ => rfl) z0 (Or.inr ⟨rfl, fun i i0 i1 => absurd i1 (by omega)⟩) (fun i i0 i1 => z0 i (by omega) i1)
          refine ⟨1, ?_⟩
          unfold Pa_raiseFrom_2
          refine ⟨⟨by omega, by omega⟩, fun _ => ?_, fun h => absurd h (by omega)⟩
          refine fin x' b' 0 ν2 hEν hRν hLν hx' (Or.inr ⟨rfl, hs 256 (by omega) (fun t t0 t1 hV => ?_)⟩)
          rcases A with ⟨a1, -⟩ | ⟨-, a2⟩
          · exact absurd a1 (by omega)
          · exact pm t (a2 t hV t0).2
        · obtain ⟨i0, i1, eν, hz0⟩ := hc1 (by omega)
          subst eν
          refine w_Pa_raiseFrom (by omega) (by omega) (fun m m0 m1 => ⟨?_, ?_⟩) (fun r μ1 hE1 hz => ?_)
          · rw [up_ne (by omega), hνu]
            have := hu3 m m0 (by omega)
            exact ⟨by omega, by omega⟩
          · rw [up_ne (by omega), edν 4 (by omega)]
            have := b5 m m0 (by omega)
            exact ⟨by omega, by omega⟩
          · have hE2 : Eo (S14 p) σ μ1 := (hEν.tr (Eo.of_up ⟨rfl, rfl, by omega, by omega⟩)).tr (hE1.mono (fun c q k h => ⟨h.1, h.2.1, by omega, by omega⟩))
            have hz' : Rz (i - 1) (tpv (σ 3 p 3 0) (σ 3 p 4)) (up ν 3 p 13 i 0 3 p 13) (μ1 3 p 13) r := hz.congr (fun m m0 m1 => by
              rw [up_ne (by omega), edν 4 (by omega)]
              unfold tpv
              rw [if_pos (by omega)])
            have z0 : ∀ m, i < m → m < 4 → μ 3 p 13 m = 0 := by
              intro m m0 m1
              by_cases c : m < σ 3 p 3 0
              · rw [← hνu]; exact hz0 m m0 c
              · have a := hu m (by omega) m1
                unfold tpv at a
                rw [if_neg (by omega)] at a
                omega
            have A := adv (n := σ 3 p 3 0) (tp := σ 3 p 4) (u := μ 3 p 13) (u' := up ν 3 p 13 i 0 3 p 13) (v := μ1 3 p 13) (last := i - 1) (by omega) (by omega) (fun i i0 i1 => (hT i i0 i1).2) hu (fun m m0 m1 => by rw [up_ne (by omega), hνu]) (fun m m0 m1 => by
              by_cases c : m = i
              · subst c; exact up_at
              · rw [up_ne (by omega), hνu]; exact z0 m (by omega) m1) hz' (fun m m0 m1 => z0 m (by omega) m1)
            have hE12 : ∀ i', μ1 3 p 12 i' = ν 3 p 12 i' := fun i' => (hE1 3 p 12 i' (by simp)).trans (up_ne (by omega))
            have hE14 : ∀ i', μ1 3 p 14 i' = ν 3 p 14 i' := fun i' => (hE1 3 p 14 i' (by simp)).trans (up_ne (by omega))
            refine fin x' b' r μ1 hE2 (fun r r0 r1 => by rw [hE12]; exact hRν r r0 r1) (fun hxx i i0 i1 => by rw [hE14]; exact hLν hxx i i0 i1) hx' ?_
            rcases A with ⟨a1, a2, a3, a4⟩ | ⟨a1, a2⟩
            · exact Or.inl ⟨a1, a2, a3, hs _ a3 (fun t t0 t1 hV => pm t (a4 t hV t0 t1).2)⟩
            · exact Or.inr ⟨a1, hs 256 (by omega) (fun t t0 t1 hV => pm t (a2 t hV t0).2)⟩
      -- not too dear: do the rows hold
      have C0 : (x = -4 ∨ pCp σ p (rk (μ 3 p 13)) < x) → Pa_solve_59 (fun z0 z1 z2 z3 z4 => Pa_solve_23 Q (k + 1) z0 z1 z2 z3 z4) Q p x step (pCp σ p (rk (μ 3 p 13))) 0 μ := by
        intro hlt
        unfold Pa_solve_59
        refine ⟨InR_0, fun h => absurd rfl h, fun _ => ?_⟩
        have eS : ∀ r, sm (μ 3 p 3 0).toNat (fun i => μ 3 p 8 (r * 10 + i) * μ 3 p 13 i) = sm (σ 3 p 3 0).toNat (fun i => σ 3 p 8 (r * 10 + i) * uD (rk (μ 3 p 13)) i) := by
          intro r
          rw [ed 3 (by omega)]
          refine sm_congr (fun i i0 i1 => ?_)
          rw [ed 8 (by omega), uD_rk hu3 i i0 (by omega)]
        refine w_Pa_rowsHold hbμ hu3 (fun r r0 r1 => ?_) (fun hh => ?_) (fun r r0 r1 hr => ?_)
        · rw [ed 6 (by omega)] at r1
          rw [hR r r0 r1]
          have := roomC_bd (r := r) hb hs0 hs1 hf0 hf1 r0 (by omega)
          exact ⟨by omega, by omega⟩
        · have hF : FCp σ p spot f (rk (μ 3 p 13)) := by
            intro r r0 r1
            have := hh r r0 (by rw [ed 6 (by omega)]; exact r1)
            rw [eS, hR r r0 r1] at this
            exact this
          refine ⟨⟨by omega, by omega⟩, fun h => absurd h (by omega), fun _ => fun σ4 e4 => ?_⟩
          subst e4
          refine B1 (pCp σ p (rk (μ 3 p 13))) (rk (μ 3 p 13)) _ (hE.tr (Eo.of_cp ⟨rfl, rfl, by omega, by omega⟩)) (fun i => ?_) (fun r r0 r1 => ?_) (fun _ i i0 i1 => ?_) (Or.inr bP) (fun T' g1 g2 => ?_)
          · unfold cp; rw [if_neg (by omega)]
          · unfold cp; rw [if_neg (by omega)]; exact hR r r0 r1
          · unfold cp; rw [if_pos ⟨rfl, rfl, rfl, i0, i1⟩, uD_rk hu3 i i0 i1]
          · exact hS.win g1 hVT hF bP.1 hlt (fun t t0 t1 hV _ => g2 t (by omega) t1 hV)
        · rw [ed 6 (by omega)] at r1
          rw [eS, hR r r0 r1] at hr
          refine ⟨InR_0, fun _ => ?_, fun h => absurd rfl h⟩
          exact B0 (fun hF => Int.not_le.mpr hr (hF r r0 r1))
      have C1 : x ≠ -4 → x ≤ pCp σ p (rk (μ 3 p 13)) → Pa_solve_59 (fun z0 z1 z2 z3 z4 => Pa_solve_23 Q (k + 1) z0 z1 z2 z3 z4) Q p x step (pCp σ p (rk (μ 3 p 13))) 1 μ := by
        intro hx4 hle
        unfold Pa_solve_59
        refine ⟨⟨by omega, by omega⟩, fun _ => ?_, fun h => absurd h (by omega)⟩
        exact B1 x b μ hE (fun _ => rfl) hR hL hx (fun T' g1 g2 => hS.ext (by omega) (fun t t0 t1 hV _ => ⟨hx4, by have := g2 t t0 t1 hV; omega⟩))
      unfold Pa_solve_23
      refine ⟨⟨by omega, by omega⟩, fun h => absurd h (by omega), fun _ => ⟨⟨by omega, by omega⟩, fun h => absurd h (by omega), fun _ => ?_⟩⟩
      refine w_Pa_priceOfUnits hbμ ?_
      rw [eP]
      refine ⟨⟨by omega, by omega⟩, fun hc => ?_, fun hc => ⟨⟨by omega, by omega⟩, ⟨by omega, by omega⟩, fun hlt => ?_, fun hle => ?_⟩⟩
      · exact C0 (Or.inl hc)
      · exact C0 (Or.inr hlt)
      · exact C1 hc hle
  unfold Pa_solve
  refine w_Pa_measureRooms hb hs0 hs1 hf0 hf1 (fun σ1 hE1 hR1 σ2 e2 => ?_)
  subst e2
  have z : ∀ i, 0 ≤ i → i < 4 → fl σ1 3 p 13 4 0 3 p 13 i = 0 := by
    intro i i0 i1
    unfold fl
    rw [if_pos ⟨rfl, rfl, rfl, i0, i1⟩]
  have hrk : rk (fl σ1 3 p 13 4 0 3 p 13) = 0 := by
    unfold rk
    rw [z 0 (by omega) (by omega), z 1 (by omega) (by omega), z 2 (by omega) (by omega), z 3 (by omega) (by omega)]
    rfl
  refine ⟨_, key 256 0 (-4) 1 0 _ (by omega) (by omega) ((hE1.mono (fun c q k h => ⟨h.1, h.2.1, by omega, by omega⟩)).tr (Eo.of_fl ⟨rfl, rfl, by omega, by omega⟩)) (fun r r0 r1 => ?_) (fun h => absurd rfl h) (Or.inl rfl) (Or.inl ⟨rfl, fun i i0 i1 => ?_, by omega, ?_⟩)⟩
  · unfold fl
    rw [if_neg (by omega)]
    exact hR1 r r0 r1
  · rw [z i i0 i1]
    exact ⟨by omega, (hT i i0 i1).1⟩
  · rw [hrk]
    exact Srch.zero (fun t h => h.1.1)

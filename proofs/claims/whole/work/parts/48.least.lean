theorem sm_sub_le {f : Int → Int} {m : Nat} : ∀ {n : Nat}, m ≤ n → (∀ i : Int, m ≤ i → i < n → 0 ≤ f i) → sm m f ≤ sm n f
  | 0, hm, _ => by
    have : m = 0 := by omega
    subst this
    exact Int.le_refl _
  | n + 1, hm, h => by
    by_cases e : m = n + 1
    · subst e; exact Int.le_refl _
    · have ih := sm_sub_le (f := f) (n := n) (by omega) (fun i a b => h i a (by omega))
      have := h n (by omega) (by omega)
      simp only [sm]
      omega
theorem VPl_d {σ : Mem} {t : Int} (hC : ChB σ) (h : VPl σ t) : ∀ c, 0 ≤ c → c < 6 → 0 ≤ pD t c ∧ pD t c < 4 := fun c c0 c1 => by
  have := pD_bd h.1.1 h.1.2 c
  omega
theorem CPl_bd {σ : Mem} {by_ t : Int} (h : CW σ) (hV : VPl σ t) (hF : FPl σ by_ t) : 0 ≤ CPl σ by_ t ∧ CPl σ by_ t ≤ 2100000 := by
  have := h.1.1
  exact smv_bd h (VPl_d h.1 hV) _ (by omega) (fun s a b => hF s a (by omega))
set_option maxHeartbeats 2000000 in
theorem w_findLeast {σ : Mem} {by_ : Int} {Q : Mem → Prop} (h : CW σ) (hby : by_ = 0 ∨ by_ = 1) (h70 : σ 5 0 7 0 = 0) (hQ : ∀ x b σ', Eo Ss σ σ' → (∀ p, 0 ≤ p → p < 4 → AO σ' p) → σ' 5 0 7 0 = 0 → σ' 5 0 9 0 = x → Srch (VPl σ) (FPl σ by_) (CPl σ by_) 4096 x b → (x ≠ -4 → ∀ c, 0 ≤ c → c < 6 → σ' 5 0 8 c = pD b c) → (x = -4 ∨ (0 ≤ x ∧ x ≤ 2100000)) → Q σ') : Sr_findLeast by_ σ Q := by
  have hC := h.1
  have hc := hC.1
  have hT := fun c c0 => Tch_bd hC c c0
  have key : ∀ (k : Nat) (st more step x b : Int) (μ : Mem), step + k = 4096 → 0 ≤ step → Eo Ss σ μ → (∀ p, 0 ≤ p → p < 4 → AO μ p) → μ 5 0 7 0 = 0 → μ 5 0 9 0 = x → (x ≠ -4 → ∀ c, 0 ≤ c → c < 6 → μ 5 0 8 c = pD b c) → (x = -4 ∨ (0 ≤ x ∧ x ≤ 2100000)) → ((more = 1 ∧ (∀ c, 0 ≤ c → c < 6 → 0 ≤ μ 5 0 6 c ∧ μ 5 0 6 c ≤ Tch σ c) ∧ 0 ≤ st ∧ st ≤ σ 0 0 0 0 ∧ (∀ c, st ≤ c → c < 6 → μ 5 0 6 c = 0) ∧ (∀ s, 0 ≤ s → s ≤ st → μ 5 0 7 s = sm s.toNat (fun s => valS σ by_ s (μ 5 0 6))) ∧ (∀ s, 0 ≤ s → s < st → ¬ badS σ by_ s (μ 5 0 6)) ∧ step ≤ pf (μ 5 0 6) 6 ∧ Srch (VPl σ) (FPl σ by_) (CPl σ by_) (pf (μ 5 0 6) 6) x b) ∨ (more = 0 ∧ Srch (VPl σ) (FPl σ by_) (CPl σ by_) 4096 x b)) → Sr_findLeast_21 Q (k + 1) by_ st more step μ := by
    intro k
    induction k with
    | zero =>
      intro st more step x b μ g1 g2 hE hA hz h9 h8 hx hh
      unfold Sr_findLeast_21
      refine ⟨⟨by omega, by omega⟩, fun _ => ?_, fun z => absurd z (by omega)⟩
      unfold Sr_findLeast_60
      rcases hh with ⟨m1, hu, -, -, -, -, -, hst, hS⟩ | ⟨m0, hS⟩
      · have := pf6_bd (u := μ 5 0 6) (fun c c0 c1 => ⟨(hu c c0 c1).1, by have := hu c c0 c1; have := hT c c0; omega⟩)
        omega
      · exact hQ x b μ hE hA hz h9 hS h8 hx
    | succ k ih =>
      intro st more step x b μ g1 g2 hE hA hz h9 h8 hx hh
      rcases hh with ⟨m1, hu, st0, st1, hz0, h7, hnb, hst, hS⟩ | ⟨m0, hS⟩
      rotate_left
      · unfold Sr_findLeast_21
        refine ⟨⟨by omega, by omega⟩, fun z => absurd z (by omega), fun _ => ⟨⟨by omega, by omega⟩, fun _ => ?_, fun z => absurd m0 z⟩⟩
        exact hQ x b μ hE hA hz h9 hS h8 hx
      have hu3 : ∀ c, 0 ≤ c → c < 6 → 0 ≤ μ 5 0 6 c ∧ μ 5 0 6 c ≤ 3 := fun c c0 c1 => ⟨(hu c c0 c1).1, by have := hu c c0 c1; have := hT c c0; omega⟩
      have hd : ∀ c, 0 ≤ c → c < 6 → 0 ≤ μ 5 0 6 c ∧ μ 5 0 6 c < 4 := fun c c0 c1 => by have := hu3 c c0 c1; omega
      have hCμ : CW μ := h.eo hE hA
      have e0 : μ 0 0 0 0 = σ 0 0 0 0 := hE 0 0 0 0 (by unfold Ss; omega)
      have ev : ∀ s, valS μ by_ s (μ 5 0 6) = valS σ by_ s (μ 5 0 6) := fun s => valS_same hE
      have hb6 := pf6_bd hu3
      unfold Sr_findLeast_21
      refine ⟨⟨by omega, by omega⟩, fun z => absurd z (by omega), fun _ => ⟨⟨by omega, by omega⟩, fun z => absurd z (by omega), fun _ => ?_⟩⟩
      refine w_followTried hCμ hd st0 (by rw [e0]; exact st1) hby (by simp only [ev]; exact h7 st st0 (Int.le_refl _)) (fun s a c z => hnb s a c ((badS_same hE).mp z)) (by rw [h9]; exact hx) (fun L μ1 hL0 hL1 hE1 hA1 f1 f2 f3 f4 => ?_)
      rw [e0] at hL1 f4
      simp only [ev, h9] at f1 f4
      have f3 : ∀ s, 0 ≤ s → s < L → ¬ badS σ by_ s (μ 5 0 6) := fun s a c z => f3 s a c ((badS_same hE).mpr z)
      have f4b : (∀ s, badS μ by_ s (μ 5 0 6) ↔ badS σ by_ s (μ 5 0 6)) := fun s => badS_same hE
      simp only [f4b] at f4
      have hE1s : Eo Ss σ μ1 := hE.tr (hE1.mono (fun c q k z => Sf_Ss z))
      have e16 : μ1 5 0 6 = μ 5 0 6 := funext (fun i => hE1 5 0 6 i (by unfold Sf; omega))
      have hC1 : ChB μ1 := (h.eo hE1s hA1).1
      have e10 : μ1 0 0 0 0 = σ 0 0 0 0 := hE1s 0 0 0 0 (by unfold Ss; omega)
      have eT : Tch μ1 = Tch σ := by
        unfold Tch
        rw [e10]
        congr 1
        funext c
        rw [hE1s 0 0 1 c (by unfold Ss; omega)]
      have h7L : ∀ s, 0 ≤ s → s ≤ L → μ1 5 0 7 s = sm s.toNat (fun s => valS σ by_ s (μ 5 0 6)) := by
        intro s a c
        by_cases q : st ≤ s
        · exact f1 s q c
        · rw [f2 s (by omega)]; exact h7 s a (by omega)
      have hzL : ∀ i, L - 1 < i → i < (6 : Nat) → μ 5 0 6 i = 0 := fun i a c => hz0 i (by omega) (by omega)
      refine w_moveOn hC1 (by rw [e16]; exact hd) (by omega) (by rw [e10]; exact hL1) (fun r μ2 hE2 hM => ?_)
      rw [e16, eT] at hM
      have hE2s : Eo Ss σ μ2 := hE1s.tr (hE2.mono (fun c q k z => Or.inr ⟨z.1, by omega, by omega⟩))
      have hA2 : ∀ p, 0 ≤ p → p < 4 → AO μ2 p := fun p p0 p1 => (hA1 p p0 p1).eo (fun k hk i => hE2 3 p k i (by omega))
      have q5 : ∀ k i, k ≠ 6 → μ2 5 0 k i = μ1 5 0 k i := fun k i hk => hE2 5 0 k i (by omega)
      have O := odo (n := 6) (last := L - 1) (T := Tch σ) (u := μ 5 0 6) (v := μ2 5 0 6) (r := if r = 0 then 0 else 1) (by omega) (by omega) (fun i a c => ⟨(hu i a (by omega)).1, (hu i a (by omega)).2, (hT i a).2⟩) hM.rz hzL
      -- all plans that share the values ahead of L
      have share : ∀ t, VPl σ t → (∀ i, 0 ≤ i → i ≤ L - 1 → pD t i = μ 5 0 6 i) → ∀ s, s ≤ L → valS σ by_ s (pD t) = valS σ by_ s (μ 5 0 6) ∧ (badS σ by_ s (μ 5 0 6) → badS σ by_ s (pD t)) := fun t hV he s hs => ⟨valS_ahead h (fun c c0 c1 => he c c0 (by omega)), badS_ahead h (fun c c0 c1 => (he c c0 (by omega)).symm)⟩
      have vx : ∀ t, VPl σ t → ∀ i : Int, 0 ≤ i → i < (6 : Nat) → 0 ≤ pD t i ∧ pD t i ≤ Tch σ i := fun t hV i a c => ⟨(pD_bd hV.1.1 hV.1.2 i).1, hV.2 i a (by omega)⟩
      -- what is found behind this plan
      have S2 : ∃ x' b', μ1 5 0 9 0 = x' ∧ (x' = -4 ∨ (0 ≤ x' ∧ x' ≤ 2100000)) ∧ (x' ≠ -4 → ∀ c, 0 ≤ c → c < 6 → μ1 5 0 8 c = pD b' c) ∧ ∀ T', pf (μ 5 0 6) 6 < T' → (∀ t, VPl σ t → pf (μ 5 0 6) 6 ≤ t → t < T' → ∀ i, 0 ≤ i → i ≤ L - 1 → pD t i = μ 5 0 6 i) → Srch (VPl σ) (FPl σ by_) (CPl σ by_) T' x' b' := by
        rcases f4 with ⟨k8, hp⟩ | ⟨eL, hnL, e9, hlt, e8⟩
        · refine ⟨x, b, by rw [k8 9 0 (Or.inr rfl)]; exact h9, hx, fun hx4 c c0 c1 => by rw [k8 8 c (Or.inl rfl)]; exact h8 hx4 c c0 c1, fun T' t1 t2 => hS.ext (by omega) (fun t a c hV hF => ?_)⟩
          have sh := share t hV (t2 t hV a c)
          rcases hp with hbad | ⟨hx4, hnbad, hle⟩
          · exact absurd ((sh L (Int.le_refl _)).2 hbad) (hF L (by omega) hL1)
          · refine ⟨hx4, Int.le_trans hle ?_⟩
            have e1 : sm (L + 1).toNat (fun s => valS σ by_ s (μ 5 0 6)) = sm (L + 1).toNat (fun s => valS σ by_ s (pD t)) := sm_congr (fun s a c => (sh s (by omega)).1.symm)
            rw [e1]
            unfold CPl
            exact sm_sub_le (by omega) (fun s a c => (valS_bd h (by omega) (by omega) (VPl_d hC hV) (hF s (by omega) (by omega))).1)
        · have hVu : VPl σ (pf (μ 5 0 6) 6) := ⟨hb6, fun c c0 c1 => by rw [pD_pf hu3 c c0 c1]; exact (hu c c0 c1).2⟩
          have ed : ∀ s, s ≤ σ 0 0 0 0 → valS σ by_ s (pD (pf (μ 5 0 6) 6)) = valS σ by_ s (μ 5 0 6) := fun s hs => valS_ahead h (fun c c0 c1 => pD_pf hu3 c c0 (by omega))
          have eC : CPl σ by_ (pf (μ 5 0 6) 6) = sm (L + 1).toNat (fun s => valS σ by_ s (μ 5 0 6)) := by
            unfold CPl
            rw [eL]
            exact sm_congr (fun s a c => ed s (by omega))
          have hFu : FPl σ by_ (pf (μ 5 0 6) 6) := by
            intro s a c hbad
            have hbad' := badS_ahead (d' := μ 5 0 6) h (fun c' c0 c1 => pD_pf hu3 c' c0 (by omega)) hbad
            by_cases q : s = L
            · subst q; exact hnL hbad'
            · exact f3 s a (by omega) hbad'
          have bC := CPl_bd h hVu hFu
          refine ⟨CPl σ by_ (pf (μ 5 0 6) 6), pf (μ 5 0 6) 6, by rw [eC]; exact e9, Or.inr bC, fun _ c c0 c1 => by rw [pD_pf hu3 c c0 c1]; exact e8 c c0 c1, fun T' t1 t2 => hS.win t1 hVu hFu bC.1 (by rw [eC]; exact hlt) (fun t a c hV hF => ?_)⟩
          exfalso
          have he := t2 t hV (by omega) c
          have : t = pf (μ 5 0 6) 6 := by
            rw [← pf_pD hV.1.1 hV.1.2]
            refine pf_congr (fun i i0 i1 => ?_)
            by_cases q : i ≤ L - 1
            · exact he i i0 q
            · have a1 := hV.2 i i0 (by omega)
              have a2 := (pD_bd hV.1.1 hV.1.2 i).1
              unfold Tch tpv at a1
              rw [if_neg (by omega)] at a1
              rw [hzL i (by omega) i1]
              omega
          omega
      obtain ⟨x', b', e9', hx', h8', hS'⟩ := S2
      have h92 : μ2 5 0 9 0 = x' := by rw [q5 9 0 (by omega)]; exact e9'
      have h82 : x' ≠ -4 → ∀ c, 0 ≤ c → c < 6 → μ2 5 0 8 c = pD b' c := fun z c c0 c1 => by rw [q5 8 c (by omega)]; exact h8' z c c0 c1
      have h702 : μ2 5 0 7 0 = 0 := by
        rw [q5 7 0 (by omega), h7L 0 (by omega) (by omega)]
        rfl
      rcases hM with ⟨r1, r2, r3, r4, r5, r6, r7⟩ | ⟨r0, -⟩
      · have er : (if r = 0 then (0 : Int) else 1) = 1 := if_neg (by omega)
        rw [er] at O
        rcases O with ⟨-, a2, a3, a4⟩ | ⟨z, -⟩
        · refine ⟨⟨by omega, by omega⟩, fun z => absurd z (by omega), fun _ => ?_⟩
          unfold Sr_findLeast_53
          intro x1 e1
          have hlt : pf (μ 5 0 6) 6 < pf (μ2 5 0 6) 6 := a3 _ (fun i i0 i1 => hu3 i i0 (by omega)) (fun _ _ _ => rfl)
          have hz2 : ∀ c, r ≤ c → c < 6 → μ2 5 0 6 c = 0 := by
            intro c c0 c1
            by_cases q : c ≤ L - 1
            · exact (r6 c (by omega) q).1
            · rw [r7 c (by omega)]; exact hzL c (by omega) (by omega)
          have same : ∀ c, 0 ≤ c → c < r - 1 → μ2 5 0 6 c = μ 5 0 6 c := r5
          refine ih r 1 x1 x' b' μ2 (by omega) (by omega) hE2s hA2 h702 h92 h82 hx' (Or.inl ⟨rfl, fun c c0 c1 => a2 c c0 (by omega), by omega, by omega, hz2, fun s s0 s1 => ?_, fun s s0 s1 hbad => ?_, by omega, hS' _ hlt (fun t hV t0 t1 i i0 i1 => ?_)⟩)
          · rw [q5 7 s (by omega), h7L s s0 (by omega)]
            exact sm_congr (fun s' a c => valS_ahead h (fun c' c0 c1 => (same c' c0 (by omega)).symm))
          · exact f3 s s0 (by omega) (badS_ahead h (fun c' c0 c1 => same c' c0 (by omega)) hbad)
          · exact a4 (pD t) (vx t hV) (by rw [pf_pD hV.1.1 hV.1.2]; exact t0) (by rw [pf_pD hV.1.1 hV.1.2]; exact t1) i i0 i1
        · exact absurd z (by omega)
      · have er : (if r = 0 then (0 : Int) else 1) = 0 := if_pos r0
        rw [er] at O
        rcases O with ⟨z, -⟩ | ⟨-, a2⟩
        · exact absurd z (by omega)
        · refine ⟨⟨by omega, by omega⟩, fun _ => ?_, fun z => absurd z (by omega)⟩
          unfold Sr_findLeast_53
          intro x1 e1
          refine ih r 0 x1 x' b' μ2 (by omega) (by omega) hE2s hA2 h702 h92 h82 hx' (Or.inr ⟨rfl, hS' 4096 hb6.2 (fun t hV t0 t1 i i0 i1 => ?_)⟩)
          exact a2 (pD t) (vx t hV) (by rw [pf_pD hV.1.1 hV.1.2]; exact t0) i i0 i1
  unfold Sr_findLeast
  intro σ1 e1 σ2 e2
  subst e1
  subst e2
  have z : ∀ i, 0 ≤ i → i < 6 → fl (up σ 5 0 9 0 (-4)) 5 0 6 6 0 5 0 6 i = 0 := by
    intro i i0 i1
    unfold fl
    rw [if_pos ⟨rfl, rfl, rfl, i0, i1⟩]
  have hp : pf (fl (up σ 5 0 9 0 (-4)) 5 0 6 6 0 5 0 6) 6 = 0 := by
    rw [pf6, z 0 (by omega) (by omega), z 1 (by omega) (by omega), z 2 (by omega) (by omega), z 3 (by omega) (by omega), z 4 (by omega) (by omega), z 5 (by omega) (by omega)]
    rfl
  have e7 : fl (up σ 5 0 9 0 (-4)) 5 0 6 6 0 5 0 7 0 = 0 := by
    simp [fl, up, h70]
  refine ⟨_, key 4096 0 1 0 (-4) 0 _ (by omega) (by omega) ((Eo.of_up (Or.inr ⟨rfl, by omega, by omega⟩)).tr (Eo.of_fl (Or.inr ⟨rfl, by omega, by omega⟩))) (fun p p0 p1 => (h.2.2.2 p p0 p1).2.1.eo (fun k hk i => by simp [fl, up])) e7 (by simp [fl, up]) (fun z => absurd rfl z) (Or.inl rfl) (Or.inl ⟨rfl, fun c c0 c1 => ?_, by omega, by omega, fun c c0 c1 => z c c0 c1, fun s s0 s1 => ?_, fun s s0 s1 => absurd s1 (by omega), by omega, ?_⟩)⟩
  · rw [z c c0 c1]
    exact ⟨by omega, (hT c c0).1⟩
  · have : s = 0 := by omega
    subst this
    rw [e7]
    rfl
  · rw [hp]
    exact Srch.zero (fun t ht => ht.1.1)

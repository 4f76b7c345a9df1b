/-! ===== run ===== -/
theorem rnd_dq {σ μ : Mem} (hD : Dq σ μ) (s : St) : rnd μ s = rnd σ s := by
  have eV : ∀ L, mVal μ L = mVal σ L := fun L => by
    unfold mVal
    rw [Dq_V hD, Dq_gL hD]
    have e1 : FGt μ (gL σ L) = FGt σ (gL σ L) := funext (fun t => propext (Dq_FG hD _ _))
    have e2 : CGt μ (gL σ L) = CGt σ (gL σ L) := funext (fun t => Dq_CG hD _ _)
    rw [e1, e2]
  have eB : ∀ L, mBest μ L = mBest σ L := fun L => by
    unfold mBest
    rw [eV, Dq_V hD, Dq_gL hD]
    have e1 : FGt μ (gL σ L) = FGt σ (gL σ L) := funext (fun t => propext (Dq_FG hD _ _))
    have e2 : CGt μ (gL σ L) = CGt σ (gL σ L) := funext (fun t => Dq_CG hD _ _)
    rw [e1, e2]
  have eC : ∀ d, costA μ d = costA σ d := fun d => by
    have e1 : possA μ d = possA σ d := by
      unfold possA
      rw [Dq_gA hD]
      simp only [hD.2.1, hD.2.2.1]
    unfold costA
    rw [Dq_CG hD, Dq_gA hD]
    by_cases q : possA σ d
    · rw [if_pos q, if_pos (by rw [e1]; exact q)]
    · rw [if_neg q, if_neg (by rw [e1]; exact q)]
  have eo : ∀ L d r, coC μ L d r = coC σ L d r := fun L d r => funext (fun p => funext (fun f => Dq_coC hD L d r p f))
  unfold rnd
  simp only [eV, eB, eC, eo, hD.2.1, hD.2.2.1]
theorem itr_dq {σ μ : Mem} (hD : Dq σ μ) : ∀ (n : Nat) (s : St), itr μ n s = itr σ n s
  | 0, _ => rfl
  | n + 1, s => by
    simp only [itr]
    rw [rnd_dq hD, itr_dq hD n]
theorem FM_bd {jc : Int} {J : Int → Int} {p f sp : Int} : ∀ (L : List CutT) (a : Int), (a = -4 ∨ (0 ≤ a ∧ a ≤ 600)) → (∀ c ∈ L, c.2.2.1 = -4 ∨ (0 ≤ c.2.2.1 ∧ c.2.2.1 ≤ 600)) → (L.foldl (FMs jc J p f sp) a = -4 ∨ (0 ≤ L.foldl (FMs jc J p f sp) a ∧ L.foldl (FMs jc J p f sp) a ≤ 600))
  | [], a, ha, _ => ha
  | c :: L, a, ha, h => by
    simp only [List.foldl]
    refine FM_bd L _ ?_ (fun x hx => h x (List.mem_cons_of_mem _ hx))
    by_cases q : c.1 = p ∧ c.2.1 = f ∧ Mr jc J c.2.2.2.2 sp
    · rw [FMs_y q]; exact comb_bd ha (h c (List.mem_cons_self ..))
    · rw [FMs_n q]; exact ha
theorem Srch.ex2 (V F : Int → Prop) (pr : Int → Int) (hV : ∀ t, V t → 0 ≤ t) (hp : ∀ t, V t → F t → 0 ≤ pr t) : ∀ n : Nat, ∃ x b, Srch V F pr n x b := by
  intro n
  induction n with
  | zero => exact ⟨-4, 0, Srch.zero hV⟩
  | succ n ih =>
    obtain ⟨x, b, h⟩ := ih
    by_cases hc : V n ∧ F n ∧ (x = -4 ∨ pr n < x)
    · exact ⟨pr n, n, h.win (by omega) hc.1 hc.2.1 (hp n hc.1 hc.2.1) hc.2.2 (fun t h1 h2 => absurd h2 (by omega))⟩
    · refine ⟨x, b, h.ext (by omega) (fun t h1 h2 hv hf => ?_)⟩
      have e : t = n := by omega
      subst e
      by_cases hx : x = -4
      · exact absurd ⟨hv, hf, Or.inl hx⟩ hc
      · exact ⟨hx, Int.not_lt.mp (fun z => hc ⟨hv, hf, Or.inr z⟩)⟩
theorem mV_spec {σ : Mem} {L : List CutT} (h : CW σ) (hok : ∀ c ∈ L, okC σ c) (hx : mVal σ L ≠ -4) : VPl σ (mBest σ L) ∧ FGt σ (gL σ L) (mBest σ L) := by
  obtain ⟨x, b, hS⟩ := Srch.ex2 (VPl σ) (FGt σ (gL σ L)) (CGt σ (gL σ L)) (fun t hV => hV.1.1) (fun t hV hF => (CG_bd h (VPl_d h.1 hV) hF (fun p p0 p1 f f0 f1 => FM_bd L 0 (by omega) (fun c hc => (hok c hc).2.2.1))).1) 4096
  have e := mVal_eq hS
  rw [e.1] at hx
  rw [e.2 hx]
  rcases hS with ⟨y, -⟩ | ⟨-, y2, y3, -⟩
  · exact absurd y hx
  · exact ⟨y2, y3⟩
theorem rnd_inv {σ : Mem} {s : St} {M : Int} (h : CW σ) (hok : ∀ c ∈ s.1, okC σ c) (hB : Bst σ s) (h0 : 0 ≤ s.2.1) (hr : s.2.1 ≤ M) (hL : ∀ c ∈ s.1, c.2.2.2.1 ≤ M) : (∀ c ∈ (rnd σ s).1, okC σ c) ∧ Bst σ (rnd σ s) ∧ 0 ≤ (rnd σ s).2.1 ∧ (rnd σ s).2.1 ≤ M + 1 ∧ ∀ c ∈ (rnd σ s).1, c.2.2.2.1 ≤ M + 1 := by
  have hP := h.2.2.1
  have hF := h.2.1.1
  obtain ⟨L, r, e, lo, u, mm, b⟩ := s
  dsimp only at hok h0 hr hL
  by_cases hx : mVal σ L = -4
  · have e1 : rnd σ (L, r, e, lo, u, mm, b) = (L, r + 1, 2, -4, u, mm, b) := if_pos hx
    rw [e1]
    exact ⟨hok, ⟨fun z => absurd rfl z, hB.2⟩, (show (0 : Int) ≤ r + 1 by omega), (show r + 1 ≤ M + 1 by omega), fun c hc => by have := hL c hc; omega⟩
  · obtain ⟨v1, v2⟩ := mV_spec h hok hx
    have hd := VPl_d h.1 v1
    unfold rnd
    rw [if_neg hx]
    dsimp only
    refine ⟨addP_all (P := okC σ) hok (fun p f c p0 p1 f0 f1 ec => ?_), ⟨fun _ => hd, fun z => ?_⟩, by omega, by omega, addP_all (P := fun c => c.2.2.2.1 ≤ M + 1) (fun c hc => by have := hL c hc; omega) (fun p f c p0 p1 f0 f1 ec => ?_)⟩
    · unfold coC at ec
      split at ec
      · cases ec
        exact okC_cutOf h p0 (by omega) f0 (by omega) h0 hd
      · exact absurd ec (by simp)
    · dsimp only at z
      show (∀ c, 0 ≤ c → c < 6 → 0 ≤ bN (costA σ (pD (mBest σ L))) u (pD (mBest σ L)) b c ∧ bN (costA σ (pD (mBest σ L))) u (pD (mBest σ L)) b c ≤ Tch σ c) ∧ FG σ (gA σ) (bN (costA σ (pD (mBest σ L))) u (pD (mBest σ L)) b)
      unfold upN at z
      unfold bN
      by_cases q : costA σ (pD (mBest σ L)) ≠ -4 ∧ (u = -4 ∨ costA σ (pD (mBest σ L)) < u)
      · rw [if_pos q]
        have hpo : possA σ (pD (mBest σ L)) := Classical.byContradiction (fun y => q.1 (if_neg y))
        exact ⟨fun c c0 c1 => ⟨(hd c c0 c1).1, v1.2 c c0 c1⟩, v2.1, hpo⟩
      · rw [if_neg q] at z
        rw [if_neg q]
        exact hB.2 z
    · unfold coC at ec
      split at ec
      · cases ec
        show r ≤ M + 1
        omega
      · exact absurd ec (by simp)
theorem itr_inv {σ : Mem} (h : CW σ) : ∀ (n : Nat) (s : St) (M : Int), (∀ c ∈ s.1, okC σ c) → Bst σ s → 0 ≤ s.2.1 → s.2.1 ≤ M → (∀ c ∈ s.1, c.2.2.2.1 ≤ M) → Bst σ (itr σ n s) ∧ (itr σ n s).2.1 ≤ M + n ∧ ∀ c ∈ (itr σ n s).1, c.2.2.2.1 ≤ M + n
  | 0, s, M, _, hB, _, hr, hL => ⟨hB, by show s.2.1 ≤ M + 0; omega, fun c hc => by have := hL c hc; show _ ≤ M + 0; omega⟩
  | n + 1, s, M, hok, hB, h0, hr, hL => by
    by_cases q : s.2.2.1 = 0
    · have e : itr σ (n + 1) s = itr σ n (rnd σ s) := if_pos q
      obtain ⟨b1, b2, b3, b4, b5⟩ := rnd_inv h hok hB h0 hr hL
      have ih := itr_inv h n (rnd σ s) (M + 1) b1 b2 b3 b4 b5
      rw [e]
      exact ⟨ih.1, by have := ih.2.1; omega, fun c hc => by have := ih.2.2 c hc; omega⟩
    · have e : itr σ (n + 1) s = s := if_neg q
      rw [e]
      exact ⟨hB, by omega, fun c hc => by have := hL c hc; omega⟩
theorem op_run {σ : Mem} {N n : Int} {Q : Int → Mem → Prop} (hI : Inv σ N) (hN : 0 ≤ N ∧ N ≤ 1000) (hn : InR n) (hQ : ∀ r1 σ1, After (Mo_run n) (N + 1) r1 σ1 → Q r1 σ1) : Sr_run n σ Q := by
  obtain ⟨s, hs⟩ := hI
  obtain ⟨a1, a2, a3, a4, a5, a6, a7⟩ := id hs
  have hans : ∀ e, InR (ansRun e) := fun e => by
    unfold ansRun
    split
    · exact ⟨by omega, by omega⟩
    · split
      · exact ⟨by omega, by omega⟩
      · exact ⟨by omega, by omega⟩
  refine w_Sr_run a1 a2 hn a4 (fun z => hQ (-2) σ ⟨⟨by omega, by omega⟩, fun Q2 h2 => ?_⟩) (fun z1 z2 σ1 hR => hQ _ σ1 ⟨hans _, fun Q2 h2 => ?_⟩)
  · exact w_Mo_run a1 a2 a3 hn a5 (fun _ => h2 σ hs.here) (fun y1 y2 => absurd (⟨y1, y2⟩ : 1 ≤ n ∧ n ≤ 50) z)
  · have hE := hR.1
    have hD : Dq σ σ1 := Dq.of hE
    have hC1 : CW σ1 := a1.eo3 hE hR.2.1
    have hM1 : MD σ1 := a3.dq hD (fun k hk i => hE 6 0 k i (by unfold Sr_; omega))
    have hR1 : RM σ1 σ1 s := a5.si hD (fun k hk hk2 i => hE 6 0 k i (by unfold Sr_; omega))
    refine w_Mo_run hC1 (a2.dq hD) hM1 hn hR1 (fun y => absurd (⟨z1, z2⟩ : 1 ≤ n ∧ n ≤ 50) y) (fun _ _ σ2 hR2 => ?_)
    rw [itr_dq hD] at hR2 ⊢
    have hE2 := hR2.1
    have hD2 : Dq σ1 σ2 := Dq.s6 hE2
    have cl := S6_cl hE2
    have hA2 : ∀ p, 0 ≤ p → p < 4 → AO σ2 p := fun p p0 p1 => (hR.2.1 p p0 p1).1.eo (fun k hk i => cl 3 p k i (by omega))
    have inv := itr_inv a1 n.toNat s (50 * N) a5.2.2.1 a6 a5.2.2.2.2.2.2.2.2.2.2 a7.2.2.1 a7.2.2.2
    refine h2 σ2 ⟨itr σ n.toNat s, hC1.s6 hE2, (a2.dq hD).dq hD2, hM1.eo hE2, hR.si (fun k i => cl 1 0 k i (by omega)) (fun k i => cl 4 0 k i (by omega)) (fun p k hk i => cl 3 p k i (by omega)) hA2 (by rw [cl 5 0 7 0 (by omega)]; exact hR.2.2.2.2.2.2.2.2.2.2.1), hR2.self hD2, (inv.1.dq hD).dq hD2, ?_⟩
    have x1 := (a7.dq (N' := N) hD (Int.le_refl _)).dq (N' := N) hD2 (Int.le_refl _)
    exact ⟨x1.1, x1.2.1, by have := inv.2.1; omega, fun c hc => by have := inv.2.2 c hc; omega⟩
/-! ===== judge ===== -/
theorem judge_srch {σ : Mem} {x b : Int} (h : CW σ) (hS : Srch (VPl σ) (FPl σ 0) (CPl σ 0) 4096 x b) : Srch (VPl σ) (FGt σ (gA σ)) (CGt σ (gA σ)) 4096 x b := by
  have eg : gC σ 0 = gA σ := by
    funext p d f
    unfold gC
    rw [if_pos rfl]
    rfl
  refine Srch.congr2 (fun t => Iff.rfl) (fun t hV => ?_) (fun t hV hF => ?_) hS
  · have q := stage_plan (by_ := 0) h (VPl_d h.1 hV)
    rw [eg] at q
    exact q.1
  · have q := stage_plan (by_ := 0) h (VPl_d h.1 hV)
    rw [eg] at q
    exact q.2 (q.1.mp hF)
def S35 : Nat → Int → Nat → Prop := fun c q k => c = 6 ∧ q = 0 ∧ 35 ≤ k
theorem S35_S6 {c : Nat} {q : Int} {k : Nat} (h : S35 c q k) : S6 c q k := ⟨h.1, h.2.1, by have := h.2.2; omega⟩
/-- the reference's answers, laid up to a place -/
def AnT (σ μ : Mem) (T : Int) : Prop := ∀ p f code, 0 ≤ p → p < σ 5 0 3 0 → 0 ≤ f → f < σ 2 0 0 0 → 0 ≤ code → code < 64 → 64 * (4 * p + f) + code < T → Vs (σ 3 p 0 0) (σ 3 p 2) (cv code) → μ 6 0 41 (64 * (4 * p + f) + code) = AnC σ p (cv code) f
set_option maxHeartbeats 2000000 in
theorem w_Mo_judge {σ : Mem} {Q : Int → Mem → Prop} (h : CW σ) (hJ : JS σ) (hMD : MD σ) (hQ : ∀ x b σ', Eo S35 σ σ' → Srch (VPl σ) (FGt σ (gA σ)) (CGt σ (gA σ)) 4096 x b → (x = -4 ∨ (0 ≤ x ∧ x ≤ 2100000)) → Q x σ') : Mo_judge σ Q := by
  have hC := h.1
  have hc := hC.1
  have hP := h.2.2.1
  have hf := h.2.1.1
  have hT := fun c c0 => Tch_bd hC c c0
  obtain ⟨d0, d1, d2, d3, ⟨d5, d6⟩, d7, dP⟩ := id hMD
  have st : ∀ μ, Eo S35 σ μ → Eo S6 σ μ := fun μ hE => hE.mono (fun c q k z => S35_S6 z)
  -- the plans
  have plans : ∀ σ3, Eo S35 σ σ3 → AnT σ σ3 1024 → (∀ c, 0 ≤ c → c < 6 → σ3 6 0 40 c = 0) → ∃ nn, Mo_judge_91 Q nn (-4) 1 σ3 := by
    intro σ3 hE3 hAn hz3
    have key : ∀ (k : Nat) (μ : Mem) (x b : Int), Eo S35 σ μ → (∀ i, μ 6 0 41 i = σ3 6 0 41 i) → (∀ c, 0 ≤ c → c < 6 → 0 ≤ μ 6 0 40 c ∧ μ 6 0 40 c ≤ Tch σ c) → 4096 ≤ pf (μ 6 0 40) 6 + k → (x = -4 ∨ (0 ≤ x ∧ x ≤ 2100000)) → Srch (VPl σ) (FGt σ (gA σ)) (CGt σ (gA σ)) (pf (μ 6 0 40) 6) x b → Mo_judge_91 Q (k + 1) x 1 μ := by
      intro k
      induction k with
      | zero =>
        intro μ x b hE hl hu hk hx hS
        have := pf6_bd (u := μ 6 0 40) (fun c c0 c1 => ⟨(hu c c0 c1).1, by have := hu c c0 c1; have := hT c c0; omega⟩)
        omega
      | succ k ih =>
        intro μ x b hE hl hu hk hx hS
        have hE6 := st μ hE
        have hCμ : CW μ := h.s6 hE6
        have hD : Dq σ μ := Dq.s6 hE6
        have hMμ : MD μ := hMD.eo hE6
        have eT := Tch_dq hD
        have hu3 : ∀ c, 0 ≤ c → c < 6 → 0 ≤ μ 6 0 40 c ∧ μ 6 0 40 c ≤ 3 := fun c c0 c1 => ⟨(hu c c0 c1).1, by have := hu c c0 c1; have := hT c c0; omega⟩
        have hd : ∀ c, 0 ≤ c → c < 6 → 0 ≤ μ 6 0 40 c ∧ μ 6 0 40 c < 4 := fun c c0 c1 => by have := hu3 c c0 c1; omega
        have hb6 := pf6_bd hu3
        have hdp : ∀ c, 0 ≤ c → c < 6 → pD (pf (μ 6 0 40) 6) c = μ 6 0 40 c := fun c c0 c1 => pD_pf hu3 c c0 c1
        have hVT : VPl σ (pf (μ 6 0 40) 6) := ⟨hb6, fun c c0 c1 => by rw [hdp c c0 c1]; exact (hu c c0 c1).2⟩
        have eF : FG σ (gA σ) (μ 6 0 40) ↔ FGt σ (gA σ) (pf (μ 6 0 40) 6) := FG_d hc.2 (fun c c0 c1 => (hdp c c0 c1).symm) (fun p a b f => gA_d (h.2.2.2 p a (by omega)).1 (fun c c0 c1 => (hdp c c0 c1).symm))
        have eG : CG σ (gA σ) (μ 6 0 40) = CGt σ (gA σ) (pf (μ 6 0 40) 6) := CG_d hc.2 (fun c c0 c1 => (hdp c c0 c1).symm) (fun p a b f => gA_d (h.2.2.2 p a (by omega)).1 (fun c c0 c1 => (hdp c c0 c1).symm))
        have nxt : ∀ (x' b' : Int), (x' = -4 ∨ (0 ≤ x' ∧ x' ≤ 2100000)) → (∀ T', pf (μ 6 0 40) 6 < T' → (∀ t, VPl σ t → pf (μ 6 0 40) 6 < t → T' ≤ t) → Srch (VPl σ) (FGt σ (gA σ)) (CGt σ (gA σ)) T' x' b') → Mo_judge_217 (fun z0 z1 z2 => Mo_judge_91 Q (k + 1) z0 z1 z2) Q x' μ := by
          intro x' b' hx' hSν
          unfold Mo_judge_217
          refine w_Mo_nextPlan hCμ hMμ (by rw [eT]; exact hu) (fun σ' hE' hu' hlt hn => ?_) (fun σ' hE' hn => ?_)
          · rw [Dq_V hD] at hn
            rw [eT] at hu'
            exact ih σ' x' b' (hE.tr (hE'.mono (fun c q k z => ⟨z.1, z.2.1, by have := z.2.2; omega⟩))) (fun i => by rw [hE' 6 0 41 i (by unfold S40; omega)]; exact hl i) hu' (by omega) hx' (hSν _ hlt hn)
          · rw [Dq_V hD] at hn
            have hE2 : Eo S35 σ σ' := hE.tr (hE'.mono (fun c q k z => ⟨z.1, z.2.1, by have := z.2.2; omega⟩))
            show Mo_judge_91 Q (k + 1) x' 0 σ'
            unfold Mo_judge_91
            exact ⟨⟨by omega, by omega⟩, fun _ => hQ x' b' σ' hE2 (hSν 4096 (by omega) (fun t hV ht => absurd (hn t hV) (by omega))) hx', fun z => absurd rfl z⟩
        have done : ∀ (sum : Int) (n : Nat), (n : Int) = σ 5 0 3 0 → BS σ (gA σ) (μ 6 0 40) n sum → Mo_judge_200 (fun z0 z1 z2 => Mo_judge_91 Q (k + 1) z0 z1 z2) Q x sum μ := by
          intro sum n hn hB
          have lose : (¬ FGt σ (gA σ) (pf (μ 6 0 40) 6) ∨ (x ≠ -4 ∧ x ≤ CGt σ (gA σ) (pf (μ 6 0 40) 6))) → Mo_judge_217 (fun z0 z1 z2 => Mo_judge_91 Q (k + 1) z0 z1 z2) Q x μ := by
            intro hx2
            refine nxt x b hx (fun T' hT' hn => hS.ext (by omega) (fun t t0 t1 hV hF => ?_))
            by_cases q : t = pf (μ 6 0 40) 6
            · subst q
              rcases hx2 with y | y
              · exact absurd hF y
              · exact y
            · exact absurd (hn t hV (by omega)) (by omega)
          unfold Mo_judge_200 Mo_judge_215
          rcases hB.out hn (by omega) with ⟨e, z⟩ | ⟨e, z, b0, b1⟩
          · rw [e]
            exact ⟨⟨by omega, by omega⟩, fun _ => lose (Or.inl (fun y => z (eF.mpr y))), fun y => absurd y (by omega)⟩
          · rw [e] at b0 b1 ⊢
            rw [eG] at b0 b1 ⊢
            have hF := eF.mp z
            have win : (x = -4 ∨ CGt σ (gA σ) (pf (μ 6 0 40) 6) < x) → Mo_judge_217 (fun z0 z1 z2 => Mo_judge_91 Q (k + 1) z0 z1 z2) Q (CGt σ (gA σ) (pf (μ 6 0 40) 6)) μ := fun hw => nxt _ (pf (μ 6 0 40) 6) (Or.inr ⟨b0, b1⟩) (fun T' hT' hn => hS.win hT' hVT hF b0 hw (fun t t0 t1 hV _ => absurd (hn t hV t0) (by omega)))
            exact ⟨⟨by omega, by omega⟩, fun y => absurd y (by omega), fun _ => ⟨⟨by omega, by omega⟩, fun y => win (Or.inl y), fun y => ⟨⟨by omega, by omega⟩, ⟨by omega, by omega⟩, fun y2 => lose (Or.inr ⟨y, y2⟩), fun y2 => win (Or.inr y2)⟩⟩⟩
        have keyp : ∀ (k' n : Nat) (s : Int), (n : Int) + k' = σ 5 0 3 0 → BS σ (gA σ) (μ 6 0 40) n s → Mo_judge_107 (fun z0 z1 z2 => Mo_judge_91 Q (k + 1) z0 z1 z2) Q (k' + 1) x s n μ := by
          intro k'
          induction k' with
          | zero =>
            intro n s h1 hB
            unfold Mo_judge_107
            rw [hE6 6 0 7 0 (by unfold S6; omega), d7]
            exact ⟨⟨by omega, by omega⟩, ⟨by omega, by omega⟩, fun _ => done s n (by omega) hB, fun z => absurd z (by omega)⟩
          | succ k' ihp =>
            intro n s h1 hB
            unfold Mo_judge_107
            rw [hE6 6 0 7 0 (by unfold S6; omega), d7]
            refine ⟨⟨by omega, by omega⟩, ⟨by omega, by omega⟩, fun z => absurd z (by omega), fun _ => ⟨hB.inr (by omega), fun z => done s (σ 5 0 3 0).toNat (by omega) (hB.neg z), fun hs => ?_⟩⟩
            obtain ⟨a1, a2, a3, a4⟩ := hCμ.2.2.2 n (by omega) (by omega)
            have go : ∀ (s : Int), BS σ (gA σ) (μ 6 0 40) (n + 1) s → Mo_judge_194 (fun z0 z1 z2 z3 => Mo_judge_107 (fun z0 z1 z2 => Mo_judge_91 Q (k + 1) z0 z1 z2) Q (k' + 1) z0 z1 z2 z3) Q x s n μ := by
              intro s hs
              unfold Mo_judge_194
              intro x1 e1
              have e : x1 = ((n + 1 : Nat) : Int) := by omega
              rw [e]
              exact ihp (n + 1) s (by omega) hs
            have keyf : ∀ (m f : Nat) (s : Int), (f : Int) + m = σ 2 0 0 0 → BF σ (gA σ) (μ 6 0 40) n f s → Mo_judge_123 (fun z0 z1 z2 z3 => Mo_judge_107 (fun z0 z1 z2 => Mo_judge_91 Q (k + 1) z0 z1 z2) Q (k' + 1) z0 z1 z2 z3) Q (m + 1) x s n f μ := by
              intro m
              induction m with
              | zero =>
                intro f s g1 hF
                unfold Mo_judge_123
                rw [hE6 6 0 5 0 (by unfold S6; omega), d5]
                exact ⟨⟨by omega, by omega⟩, ⟨by omega, by omega⟩, fun _ => go s (hF.fin (by omega) (by omega)), fun z => absurd z (by omega)⟩
              | succ m ihf =>
                intro f s g1 hF
                unfold Mo_judge_123
                rw [hE6 6 0 5 0 (by unfold S6; omega), d5]
                refine ⟨⟨by omega, by omega⟩, ⟨by omega, by omega⟩, fun z => absurd z (by omega), fun _ => ⟨hF.inr (by omega) (by omega), fun z => go s (hF.neg z), fun hs => ?_⟩⟩
                refine w_Mo_codeOf a1 (hMμ.2.2.2.2.2.2 n (by omega) (by omega)) (by omega) (by omega) hd (fun code c0 c1 ec => ?_)
                have ec' : cv code = spt (σ 3 n 0 0) (fun j => μ 6 0 40 (σ 3 n 1 j)) := by
                  rw [ec, hD.2.2.2 n 0 (by omega)]
                  exact spt_congr (fun j _ _ => by rw [hD.2.2.2 n 1 (by omega)])
                have hV : Vs (σ 3 n 0 0) (σ 3 n 2) (cv code) := by
                  rw [ec']
                  exact dval h (by omega) (by omega) hu (hJ n (by omega) (by omega))
                have eA : σ3 6 0 41 (64 * (4 * (n : Int) + f) + code) = gA σ n (μ 6 0 40) f := by
                  rw [hAn n f code (by omega) (by omega) (by omega) (by omega) c0 c1 (by omega) hV, ec']
                  rfl
                have bg : gA σ n (μ 6 0 40) f = -4 ∨ (0 ≤ gA σ n (μ 6 0 40) f ∧ gA σ n (μ 6 0 40) f ≤ 600) := AnC_bd (h.2.2.2 n (by omega) (by omega)).1
                refine ⟨by omega, by omega, fun x6 e6 => ?_⟩
                rw [hl, eA] at e6
                refine ⟨⟨by omega, by omega⟩, fun hb => ⟨by omega, by omega, ?_⟩, fun hb => ?_⟩
                · unfold Mo_judge_187
                  intro x1 e1
                  have e : x1 = ((f + 1 : Nat) : Int) := by omega
                  rw [e, hE6 6 0 6 f (by unfold S6; omega), d6 f (by omega) (by omega)]
                  exact ihf (f + 1) _ (by omega) (hF.step hs e6.symm (by omega) (h.2.1.2 f (by omega) (by omega)))
                · unfold Mo_judge_187
                  intro x1 e1
                  have e : x1 = ((f + 1 : Nat) : Int) := by omega
                  rw [e]
                  exact ihf (f + 1) _ (by omega) (BF.bar (m := f) (by omega) (by omega) (by omega))
            exact ⟨_, keyf (σ 2 0 0 0).toNat 0 s (by omega) hB.st⟩
        unfold Mo_judge_91
        refine ⟨⟨by omega, by omega⟩, fun z => absurd z (by omega), fun _ => ?_⟩
        refine w_Mo_priceOf hCμ hMμ hd (fun z => ⟨_, keyp (σ 5 0 3 0).toNat 0 _ (by omega) (BS.price0 ?_)⟩) (fun z => ?_)
        · obtain ⟨c, c0, c1, ce⟩ := z
          rw [hD.1] at c1 ce
          exact ⟨c, c0, c1, ce⟩
        · have e0 : sm (μ 0 0 0 0).toNat (fun c => μ 0 0 2 (c * 4 + μ 6 0 40 c)) * sm (μ 2 0 0 0).toNat (μ 2 0 1) = prP σ (μ 6 0 40) := by
            unfold prP
            have ew : μ 2 0 1 = σ 2 0 1 := funext (hD.2.1 1)
            simp only [hD.1, hD.2.1, ew]
          rw [e0]
          refine ⟨_, keyp (σ 5 0 3 0).toNat 0 _ (by omega) (BS.price1 h hd (fun c c0 c1 => ?_))⟩
          have := z c c0 (by rw [hD.1]; exact c1)
          rw [hD.1] at this
          exact this
    have e0 : pf (σ3 6 0 40) 6 = 0 := by
      rw [pf6, hz3 0 (by omega) (by omega), hz3 1 (by omega) (by omega), hz3 2 (by omega) (by omega), hz3 3 (by omega) (by omega), hz3 4 (by omega) (by omega), hz3 5 (by omega) (by omega)]
      rfl
    refine ⟨_, key 4096 σ3 (-4) 0 hE3 (fun _ => rfl) (fun c c0 c1 => by rw [hz3 c c0 c1]; have := hT c c0; omega) (by omega) (Or.inl rfl) ?_⟩
    rw [e0]
    exact Srch.zero (fun t hV => hV.1.1)
  -- the answers
  have key : ∀ (k n : Nat) (μ : Mem), (n : Int) + k = σ 5 0 3 0 → Eo S35 σ μ → AnT σ μ (64 * (4 * n)) → Mo_judge_2 Q (k + 1) n μ := by
    intro k
    induction k with
    | zero =>
      intro n μ h1 hE hA
      unfold Mo_judge_2
      rw [st μ hE 6 0 7 0 (by unfold S6; omega), d7]
      refine ⟨⟨by omega, by omega⟩, ⟨by omega, by omega⟩, fun _ => w_Mo_firstPlan (fun σ3 hE3 hz3 => ?_), fun z => absurd z (by omega)⟩
      refine plans σ3 (hE.tr (hE3.mono (fun c q k z => ⟨z.1, z.2.1, by have := z.2.2; omega⟩))) (fun p f code p0 p1 f0 f1 c0 c1 _ hV => ?_) hz3
      rw [hE3 6 0 41 _ (by unfold S40; omega)]
      exact hA p f code p0 p1 f0 f1 c0 c1 (by omega) hV
    | succ k ih =>
      intro n μ h1 hE hA
      unfold Mo_judge_2
      rw [st μ hE 6 0 7 0 (by unfold S6; omega), d7]
      refine ⟨⟨by omega, by omega⟩, ⟨by omega, by omega⟩, fun z => absurd z (by omega), fun _ => ?_⟩
      have keyf : ∀ (m f : Nat) (μ : Mem), (f : Int) + m = σ 2 0 0 0 → Eo S35 σ μ → AnT σ μ (64 * (4 * n + f)) → Mo_judge_12 (fun z0 z1 => Mo_judge_2 Q (k + 1) z0 z1) Q (m + 1) n f μ := by
        intro m
        induction m with
        | zero =>
          intro f μ g1 hE hA
          unfold Mo_judge_12
          rw [st μ hE 6 0 5 0 (by unfold S6; omega), d5]
          refine ⟨⟨by omega, by omega⟩, ⟨by omega, by omega⟩, fun _ => fun x3 e3 => ?_, fun z => absurd z (by omega)⟩
          have e : x3 = ((n + 1 : Nat) : Int) := by omega
          rw [e]
          exact ih (n + 1) μ (by omega) hE (fun p f' code p0 p1 f0 f1 c0 c1 hlt hV => hA p f' code p0 p1 f0 f1 c0 c1 (by omega) hV)
        | succ m ihf =>
          intro f μ g1 hE hA
          unfold Mo_judge_12
          rw [st μ hE 6 0 5 0 (by unfold S6; omega), d5]
          refine ⟨⟨by omega, by omega⟩, ⟨by omega, by omega⟩, fun z => absurd z (by omega), fun _ => ?_⟩
          have keyc : ∀ (l c : Nat) (μ : Mem), (c : Int) + l = 64 → Eo S35 σ μ → AnT σ μ (64 * (4 * n + f) + c) → Mo_judge_22 (fun z0 z1 z2 => Mo_judge_12 (fun z0 z1 => Mo_judge_2 Q (k + 1) z0 z1) Q (m + 1) z0 z1 z2) Q (l + 1) n f c μ := by
            intro l
            induction l with
            | zero =>
              intro c μ q1 hE hA
              unfold Mo_judge_22
              refine ⟨⟨by omega, by omega⟩, fun _ => fun x3 e3 => ?_, fun z => absurd z (by omega)⟩
              have e : x3 = ((f + 1 : Nat) : Int) := by omega
              rw [e]
              exact ihf (f + 1) μ (by omega) hE (fun p f' code p0 p1 f0 f1 c0 c1 hlt hV => hA p f' code p0 p1 f0 f1 c0 c1 (by omega) hV)
            | succ l ihc =>
              intro c μ q1 hE hA
              have hE6 := st μ hE
              have hD := Dq.s6 hE6
              have put : ∀ (v : Int) (ν : Mem), Eo S35 σ ν → AnT σ ν (64 * (4 * n + f) + c) → (Vs (σ 3 n 0 0) (σ 3 n 2) (cv c) → v = AnC σ n (cv c) f) → Mo_judge_63 (fun z0 z1 z2 z3 => Mo_judge_22 (fun z0 z1 z2 => Mo_judge_12 (fun z0 z1 => Mo_judge_2 Q (k + 1) z0 z1) Q (m + 1) z0 z1 z2) Q (l + 1) z0 z1 z2 z3) Q n f c (64 * (4 * (n : Int) + f) + c) v ν := by
                intro v ν hEν hAν hv
                unfold Mo_judge_63
                refine ⟨by omega, by omega, fun σ1 e1 x2 e2 => ?_⟩
                have e : x2 = ((c + 1 : Nat) : Int) := by omega
                rw [e]
                refine ihc (c + 1) σ1 (by omega) (by rw [e1]; exact hEν.tr (Eo.of_up ⟨rfl, rfl, by omega⟩)) (fun p f' code p0 p1 f0 f1 c0 c1 hlt hV => ?_)
                by_cases q : 64 * (4 * p + f') + code = 64 * (4 * (n : Int) + f) + c
                · have qp : p = n := by omega
                  have qf : f' = f := by omega
                  have qc : code = c := by omega
                  subst qp
                  subst qf
                  subst qc
                  rw [e1, up_at]
                  exact hv hV
                · rw [e1, up_ne (fun y => q y.2.2.2)]
                  exact hAν p f' code p0 p1 f0 f1 c0 c1 (by omega) hV
              unfold Mo_judge_22
              refine ⟨⟨by omega, by omega⟩, fun z => absurd z (by omega), fun _ => ?_⟩
              refine w_Mo_isCode (h.s6 hE6) (hJ.dq hD) (hMD.eo hE6) (by omega) (by omega) (by omega) (by omega) (fun hV => ⟨⟨by omega, by omega⟩, fun z => absurd z (by omega), fun _ => ?_⟩) (fun hV => ⟨⟨by omega, by omega⟩, fun _ => ?_, fun z => absurd rfl z⟩)
              · refine w_Mo_answerTo ((h.s6 hE6).2.2.2 n (by omega) (by omega)).1 ((hMD.eo hE6).2.2.2.2.2.2 n (by omega) (by omega)) (by omega) (by omega) (by omega) (by omega) (by omega) (by omega) (fun bu ν hEν _ _ => ?_)
                rw [AnC_congr (hD.2.2.2 n)]
                exact put _ ν (hE.tr (hEν.mono (fun c q k z => ⟨z.1, z.2.1, by have := z.2.2; omega⟩))) (fun p f' code p0 p1 f0 f1 c0 c1 hlt hV => by rw [hEν 6 0 41 _ (by unfold S6a; omega)]; exact hA p f' code p0 p1 f0 f1 c0 c1 hlt hV) (fun _ => rfl)
              · refine put _ μ hE hA (fun hV' => absurd ?_ hV)
                have e2 : μ 3 n 2 = σ 3 n 2 := funext (hD.2.2.2 n 2 (by omega))
                rw [hD.2.2.2 n 0 (by omega), e2]
                exact hV'
          exact ⟨_, keyc 64 0 μ (by omega) hE (fun p f' code p0 p1 f0 f1 c0 c1 hlt hV => hA p f' code p0 p1 f0 f1 c0 c1 (by omega) hV)⟩
      exact ⟨_, keyf (σ 2 0 0 0).toNat 0 μ (by omega) hE (fun p f' code p0 p1 f0 f1 c0 c1 hlt hV => hA p f' code p0 p1 f0 f1 c0 c1 (by omega) hV)⟩
  exact ⟨_, key (σ 5 0 3 0).toNat 0 σ (by omega) Eo.rf (fun p f code p0 p1 f0 f1 c0 c1 hlt hV => absurd hlt (by omega))⟩
theorem op_judge {σ : Mem} {N : Int} {Q : Int → Mem → Prop} (hI : Inv σ N) (hN : 0 ≤ N ∧ N ≤ 1000) (hQ : ∀ r1 σ1, After Mo_judge (N + 1) r1 σ1 → Q r1 σ1) : Sr_judge σ Q := by
  obtain ⟨s, hs⟩ := hI
  obtain ⟨a1, a2, a3, a4, a5, a6, a7⟩ := id hs
  unfold Sr_judge
  refine w_findLeast a1 (Or.inl rfl) hs.z7 (fun x b σ1 hE hA z7 z9 hS _ hx => ?_)
  rw [z9]
  have hS1 := judge_srch a1 hS
  have hEi : Eo Si σ σ1 := hE.mono (fun c q k z => by unfold Ss at z; unfold Si; omega)
  have hs1 := hs.idle (N' := N) hEi hA z7 (Int.le_refl _)
  have hD := Dq.si hEi
  refine hQ x σ1 ⟨⟨by omega, by omega⟩, fun Q2 h2 => ?_⟩
  refine w_Mo_judge hs1.1 hs1.2.1 hs1.2.2.1 (fun x' b' σ2 hE2 hS2 _ => ?_)
  have hS3 : Srch (VPl σ) (FGt σ (gA σ)) (CGt σ (gA σ)) 4096 x' b' := by
    rw [← Dq_V hD]
    refine Srch.congr (V := VPl σ1) (fun t => Iff.rfl) (fun t _ => ?_) (fun t _ => ?_) hS2
    · unfold FGt; rw [Dq_FG hD, Dq_gA hD]
    · unfold CGt; rw [Dq_CG hD, Dq_gA hD]
  rw [← (hS1.uniq hS3).1]
  refine h2 σ2 ⟨s, hs1.idle (hE2.mono (fun c q k z => Or.inr (Or.inr z))) (fun q q0 q1 => (hs1.ao q q0 q1).eo (fun k hk i => hE2 3 q k i (by unfold S35; omega))) (by rw [hE2 5 0 7 0 (by unfold S35; omega)]; exact z7) (by omega)⟩

/-! ===== the reference: rounds ===== -/
theorem okC_cutOf {σ : Mem} {d : Int → Int} {r p f : Int} (h : CW σ) (p0 : 0 ≤ p) (p1 : p < σ 5 0 3 0) (f0 : 0 ≤ f) (f1 : f < σ 2 0 0 0) (r0 : 0 ≤ r) (hd : ∀ c, 0 ≤ c → c < 6 → 0 ≤ d c ∧ d c < 4) : okC σ (cutOf σ d r p f) := by
  have hP := h.2.2.1
  obtain ⟨a1, a2, a3, a4⟩ := h.2.2.2 p p0 (by omega)
  have hs := spt_bd (n := σ 3 p 0 0) (d := fun j => d (σ 3 p 1 j)) a1.1.2 (fun j j0 j1 => hd _ (a1.2.2.2.1 j j0 j1).1.1 (a1.2.2.2.1 j j0 j1).1.2)
  have hj := a1.1
  refine ⟨⟨p0, p1⟩, ⟨f0, f1⟩, AnC_bd a1, r0, Nat.le_trans (rsl_len _) (by omega), fun r hm => ?_⟩
  obtain ⟨j, j0, j1, j2, rfl⟩ := rsl_mem.mp hm
  have b := hr_bd (jc := σ 3 p 0 0) (sz := σ 3 p 2) (A := fun sp => AnC σ p sp f) (number := gA σ p d f) (d := dS (spt (σ 3 p 0 0) (fun j => d (σ 3 p 1 j)))) (fun j => by have := dS_bd _ j hs.1 hs.2; omega) (σ 3 p 0 0).toNat j
  refine ⟨?_, j, j0, (show j < σ 3 p 0 0 by omega), rfl⟩
  show 0 ≤ hr _ _ _ _ _ _ j ∧ hr _ _ _ _ _ _ j < 4
  omega
theorem push_all {P : CutT → Prop} {L : List CutT} {o : Option CutT} (hL : ∀ c ∈ L, P c) (ho : ∀ c, o = some c → P c) : ∀ c ∈ push L o, P c := by
  intro c hc
  unfold push at hc
  cases o with
  | none => exact hL c hc
  | some x =>
    dsimp only at hc
    split at hc
    · rcases List.mem_append.mp hc with y | y
      · exact hL c y
      · rw [List.mem_singleton.mp y]; exact ho x rfl
    · exact hL c hc
theorem addF_all {P : CutT → Prop} {co : Int → Option CutT} {L : List CutT} (hL : ∀ c ∈ L, P c) : ∀ {n : Nat}, (∀ (f : Int) c, 0 ≤ f → f < n → co f = some c → P c) → ∀ c ∈ addF co n L, P c
  | 0, _ => hL
  | n + 1, h => push_all (addF_all hL (fun f c a b e => h f c a (by omega) e)) (fun c e => h n c (by omega) (by omega) e)
theorem addP_all {P : CutT → Prop} {co : Int → Int → Option CutT} {nF : Nat} {L : List CutT} (hL : ∀ c ∈ L, P c) : ∀ {n : Nat}, (∀ (p f : Int) c, 0 ≤ p → p < n → 0 ≤ f → f < nF → co p f = some c → P c) → ∀ c ∈ addP co nF n L, P c
  | 0, _ => hL
  | n + 1, h => addF_all (addP_all hL (fun p f c a b a' b' e => h p f c a (by omega) a' b' e)) (fun f c a b e => h n f c (by omega) (by omega) a b e)
def RM (σ0 σ : Mem) (s : St) : Prop := Eo S6 σ0 σ ∧ RepM σ s.1 ∧ (∀ c ∈ s.1, okC σ0 c) ∧ σ 6 0 27 0 = s.2.1 ∧ σ 6 0 28 0 = s.2.2.1 ∧ ((s.2.2.2.1 = -4 → σ 6 0 30 0 = 0) ∧ (s.2.2.2.1 ≠ -4 → σ 6 0 30 0 = 1 ∧ σ 6 0 31 0 = s.2.2.2.1 ∧ ∀ c, 0 ≤ c → c < 6 → σ 6 0 34 c = s.2.2.2.2.2.1 c)) ∧ ((s.2.2.2.2.1 = -4 → σ 6 0 29 0 = 0) ∧ (s.2.2.2.2.1 ≠ -4 → σ 6 0 29 0 = 1 ∧ σ 6 0 32 0 = s.2.2.2.2.1 ∧ ∀ c, 0 ≤ c → c < 6 → σ 6 0 33 c = s.2.2.2.2.2.2 c)) ∧ okN s.2.2.2.1 ∧ okN s.2.2.2.2.1 ∧ (0 ≤ s.2.2.1 ∧ s.2.2.1 ≤ 2) ∧ 0 ≤ s.2.1
/-- the sum of a round, part by part and future by future -/
def PF (σ : Mem) (d : Int → Int) (n m : Nat) (pos cost : Int) : Prop := (pos = 0 ∨ pos = 1) ∧ (0 ≤ cost ∧ cost ≤ 96000 + 48000 * n + 12000 * m) ∧ (pos = 0 → ¬ possA σ d) ∧ (pos = 1 → cost = prP σ d + sm n (fun p => sm (σ 2 0 0 0).toNat (fun f => σ 2 0 1 f * gA σ p d f)) + sm m (fun f => σ 2 0 1 f * gA σ n d f) ∧ (∀ p : Int, 0 ≤ p → p < n → ∀ f, 0 ≤ f → f < σ 2 0 0 0 → gA σ p d f ≠ -4) ∧ ∀ f : Int, 0 ≤ f → f < m → gA σ n d f ≠ -4)
theorem PF.fin {σ : Mem} {d : Int → Int} {n m : Nat} {pos cost : Int} (h : PF σ d n m pos cost) (hm : (m : Int) = σ 2 0 0 0) (hm4 : m ≤ 4) : PF σ d (n + 1) 0 pos cost := by
  obtain ⟨h1, h2, h3, h4⟩ := h
  refine ⟨h1, by omega, h3, fun z => ?_⟩
  obtain ⟨a, b, c⟩ := h4 z
  have e : (σ 2 0 0 0).toNat = m := by omega
  refine ⟨?_, fun p p0 p1 f f0 f1 => ?_, fun f f0 f1 => absurd f1 (by omega)⟩
  · rw [a, e]
    simp only [sm]
    omega
  · by_cases q : p = n
    · subst q; exact c f f0 (by omega)
    · exact b p p0 (by omega) f f0 f1
theorem PF.step {σ : Mem} {d : Int → Int} {n m : Nat} {pos cost : Int} (h : PF σ d n m pos cost) (hg : 0 ≤ gA σ n d m ∧ gA σ n d m ≤ 600) (hw : 1 ≤ σ 2 0 1 m ∧ σ 2 0 1 m ≤ 20) : PF σ d n (m + 1) pos (cost + σ 2 0 1 m * gA σ n d m) := by
  have bb := mul_bd (a := σ 2 0 1 m) (b := gA σ n d m) (A := 20) (B := 600) (by omega) (by omega) (by omega) (by omega)
  obtain ⟨h1, h2, h3, h4⟩ := h
  refine ⟨h1, by omega, h3, fun z => ?_⟩
  obtain ⟨a, b, c⟩ := h4 z
  refine ⟨?_, b, fun f f0 f1 => ?_⟩
  · rw [a]
    simp only [sm]
    omega
  · by_cases q : f = m
    · subst q; omega
    · exact c f f0 (by omega)
theorem PF.bar {σ : Mem} {d : Int → Int} {n m : Nat} {pos cost : Int} (h : PF σ d n m pos cost) (hg : gA σ n d m = -4) (hn : (n : Int) < σ 5 0 3 0) (hm : (m : Int) < σ 2 0 0 0) : PF σ d n (m + 1) 0 (cost + 0) :=
  ⟨Or.inl rfl, by have := h.2.1; omega, fun _ z => z n (by omega) hn m (by omega) hm hg, fun z => absurd z (by decide)⟩
theorem PF.out {σ : Mem} {d : Int → Int} {n : Nat} {pos cost : Int} (h : PF σ d n 0 pos cost) (hn : (n : Int) = σ 5 0 3 0) : (pos = 0 ∧ costA σ d = -4) ∨ (pos = 1 ∧ costA σ d = cost) := by
  obtain ⟨h1, h2, h3, h4⟩ := h
  rcases h1 with z | z
  · exact Or.inl ⟨z, if_neg (h3 z)⟩
  · obtain ⟨a, b, c⟩ := h4 z
    refine Or.inr ⟨z, ?_⟩
    unfold costA
    rw [if_pos (show possA σ d from fun p p0 p1 f f0 f1 => b p p0 (by omega) f f0 f1), a]
    have e : (σ 5 0 3 0).toNat = n := by omega
    unfold CG
    rw [e]
    simp [sm, prP]
set_option maxHeartbeats 4000000 in
theorem w_Mo_round {σ0 μ : Mem} {s : St} {Q : Mem → Prop} (h : CW σ0) (hJ : JS σ0) (hMD : MD σ0) (hR : RM σ0 μ s) (he : s.2.2.1 = 0) (hQ : ∀ μ', RM σ0 μ' (rnd σ0 s) → Q μ') : Mo_round μ Q := by
  obtain ⟨L, r, e, lo, u, mm, b⟩ := s
  obtain ⟨h1, h2, h3, h4, h5, h6, h7, h8, h9, h10, h11⟩ := hR
  dsimp only at h2 h3 h4 h5 h6 h7 h8 h9 h10 h11 he
  have hP := h.2.2.1
  have hf := h.2.1.1
  have hcc := h.1.1
  have hCμ : CW μ := h.s6 h1
  have hDμ : Dq σ0 μ := Dq.s6 h1
  unfold Mo_round
  refine w_Mo_findMaster hCμ (hJ.dq hDμ) (hMD.eo h1) h2 (fun c hc => (h3 c hc).dq hDμ) (fun x bb μ1 hE1 hS hRg hLd => ?_)
  have hS' : Srch (VPl σ0) (FGt σ0 (gL σ0 L)) (CGt σ0 (gL σ0 L)) 4096 x bb := by
    rw [← Dq_V hDμ]
    refine Srch.congr (V := VPl μ) (fun t => Iff.rfl) (fun t _ => ?_) (fun t _ => ?_) hS
    · unfold FGt; rw [Dq_FG hDμ, Dq_gL hDμ]
    · unfold CGt; rw [Dq_CG hDμ, Dq_gL hDμ]
  obtain ⟨eV, eB⟩ := mVal_eq hS'
  have hE01 : Eo S6 σ0 μ1 := h1.tr (hE1.mono (fun c q k z => S6m_S6 z))
  have q1 : ∀ k i, k < 30 ∨ k = 32 ∨ k = 33 ∨ (35 ≤ k ∧ k ≤ 37) → μ1 6 0 k i = μ 6 0 k i := fun k i hk => hE1 6 0 k i (by unfold S6m; omega)
  by_cases hx : x = -4
  · -- no master
    rw [hRg.1 hx]
    refine ⟨⟨by omega, by omega⟩, fun z => absurd rfl z, fun _ => fun σ4 e4 σ5 e5 => hQ σ5 ?_⟩
    have hrn : rnd σ0 (L, r, e, lo, u, mm, b) = (L, r + 1, 2, -4, u, mm, b) := if_pos (by rw [eV]; exact hx)
    rw [hrn]
    have p5 : ∀ k i, ¬ (k = 27 ∨ k = 28) → σ5 6 0 k i = μ1 6 0 k i := fun k i z => by rw [e5, up_ne (by omega), e4, up_ne (by omega)]
    refine ⟨hE01.tr (by rw [e5, e4]; exact (Eo.of_up ⟨rfl, rfl, by omega⟩).tr (Eo.of_up ⟨rfl, rfl, by omega⟩)), h2.eo (fun k a b' i => by rw [p5 k i (by omega), q1 k i (by omega)]), h3, ?_, ?_, ⟨fun _ => ?_, fun z => absurd rfl z⟩, ⟨fun z => ?_, fun z => ?_⟩, Or.inl rfl, h9, show (0 : Int) ≤ 2 ∧ (2 : Int) ≤ 2 from ⟨by decide, by decide⟩, ?_⟩
    · rw [e5, up_at, e4, up_ne (by omega), q1 27 0 (by omega), h4]
    · rw [e5, up_ne (by omega), e4, up_at]
    · rw [p5 30 0 (by omega)]; exact hRg.1 hx
    · rw [p5 29 0 (by omega), q1 29 0 (by omega)]; exact h7.1 z
    · rw [p5 29 0 (by omega), q1 29 0 (by omega), p5 32 0 (by omega), q1 32 0 (by omega)]
      obtain ⟨y1, y2, y3⟩ := h7.2 z
      exact ⟨y1, y2, fun c c0 c1 => by rw [p5 33 c (by omega), q1 33 c (by omega)]; exact y3 c c0 c1⟩
    · show (0 : Int) ≤ r + 1
      omega
  · -- a master
    obtain ⟨g30, g31, g34⟩ := hRg.2.1 hx
    have hxb := hRg.2.2
    have eB := eB hx
    have hVF : VPl σ0 bb ∧ FGt σ0 (gL σ0 L) bb := by
      rcases hS' with ⟨y, -⟩ | ⟨-, y2, y3, -⟩
      · exact absurd y hx
      · exact ⟨y2, y3⟩
    have hd : ∀ c, 0 ≤ c → c < 6 → 0 ≤ pD bb c ∧ pD bb c < 4 := VPl_d h.1 hVF.1
    have hdT : ∀ c, 0 ≤ c → c < 6 → 0 ≤ pD bb c ∧ pD bb c ≤ Tch σ0 c := fun c c0 c1 => ⟨(hd c c0 c1).1, hVF.1.2 c c0 c1⟩
    rw [g30]
    refine ⟨⟨by omega, by omega⟩, fun _ => ?_, fun z => absurd z (by omega)⟩
    have hC1 : CW μ1 := h.s6 hE01
    have hpr : prOk σ0 (pD bb) := hVF.2.1
    have hD1 : Dq σ0 μ1 := Dq.s6 hE01
    have epr : ∀ c, 0 ≤ c → c < σ0 0 0 0 0 → μ1 0 0 2 (c * 4 + μ1 6 0 34 c) = σ0 0 0 2 (c * 4 + pD bb c) := fun c c0 c1 => by rw [hD1.1, g34 c c0 (by omega)]
    refine w_Mo_priceOf hC1 (hMD.eo hE01) (fun c c0 c1 => by rw [g34 c c0 c1]; exact hd c c0 c1) (fun z => ?_) (fun _ => ?_)
    · obtain ⟨c, c0, c1, ce⟩ := z
      rw [hD1.1] at c1
      rw [epr c c0 c1] at ce
      exact absurd ce (hpr c c0 c1)
    have e0 : sm (μ1 0 0 0 0).toNat (fun c => μ1 0 0 2 (c * 4 + μ1 6 0 34 c)) * sm (μ1 2 0 0 0).toNat (μ1 2 0 1) = prP σ0 (pD bb) := by
      unfold prP
      rw [hD1.1 0 0, hD1.2.1 0 0, sm_congr (f := fun c => μ1 0 0 2 (c * 4 + μ1 6 0 34 c)) (g := fun c => σ0 0 0 2 (c * 4 + pD bb c)) (fun c c0 c1 => epr c c0 (by omega)), sm_congr (f := μ1 2 0 1) (g := σ0 2 0 1) (fun c _ _ => hD1.2.1 1 c)]
    rw [e0]
    have hpb := prP_bd h hd hpr
    -- what stays while cuts come
    have st : ∀ ν, Eo S6c μ1 ν → Eo S6 σ0 ν := fun ν hE => hE01.tr (hE.mono (fun c q k z => S6c_S6 z))
    have q3 : ∀ ν, Eo S6c μ1 ν → ∀ k i, (27 ≤ k ∧ k ≤ 34) ∨ 38 ≤ k → ν 6 0 k i = μ1 6 0 k i := fun ν hE k i hk => hE 6 0 k i (by unfold S6c; omega)
    have hg : ∀ p f : Int, 0 ≤ p → p < 4 → gA σ0 p (pD bb) f = -4 ∨ (0 ≤ gA σ0 p (pD bb) f ∧ gA σ0 p (pD bb) f ≤ 600) := fun p f a b' => AnC_bd (h.2.2.2 p a b').1
    -- the end of the round
    have last : ∀ (ν νa : Mem) (ua : Int) (ba : Int → Int), Eo S6c μ1 ν → RepM ν (addP (coC σ0 L (pD bb) r) (σ0 2 0 0 0).toNat (σ0 5 0 3 0).toNat L) → (∀ c q k i, ¬ (c = 6 ∧ q = 0 ∧ (k = 29 ∨ k = 32 ∨ k = 33)) → νa c q k i = ν c q k i) → ((ua = -4 → νa 6 0 29 0 = 0) ∧ (ua ≠ -4 → νa 6 0 29 0 = 1 ∧ νa 6 0 32 0 = ua ∧ ∀ c, 0 ≤ c → c < 6 → νa 6 0 33 c = ba c)) → upN (costA σ0 (pD bb)) u = ua → bN (costA σ0 (pD bb)) u (pD bb) b = ba → okN ua → Mo_round_282 Q νa := by
      intro ν νa ua ba hE hRep hF hU ea eb hoa
      have hrn : rnd σ0 (L, r, e, lo, u, mm, b) = (addP (coC σ0 L (pD bb) r) (σ0 2 0 0 0).toNat (σ0 5 0 3 0).toNat L, r + 1, (if ua ≠ -4 ∧ ua ≤ x then 1 else 0), x, ua, pD bb, ba) := by
        unfold rnd
        rw [if_neg (by rw [eV]; exact hx)]
        rw [eV, eB, ea, eb]
      have done : ∀ e' : Int, (if ua ≠ -4 ∧ ua ≤ x then (1 : Int) else 0) = e' → (0 ≤ e' ∧ e' ≤ 2) → Mo_round_306 Q e' νa := by
        intro e' ee hb'
        unfold Mo_round_306
        intro σ1 e1 σ2 e2
        refine hQ σ2 ?_
        rw [hrn, ee]
        have p2 : ∀ k i, ¬ (k = 27 ∨ k = 28) → σ2 6 0 k i = νa 6 0 k i := fun k i z => by rw [e2, up_ne (by omega), e1, up_ne (by omega)]
        have pv : ∀ k i, ¬ (k = 27 ∨ k = 28 ∨ k = 29 ∨ k = 32 ∨ k = 33) → σ2 6 0 k i = ν 6 0 k i := fun k i z => by rw [p2 k i (by omega), hF 6 0 k i (by omega)]
        refine ⟨?_, hRep.eo (fun k a b' i => pv k i (by omega)), ?_, ?_, ?_, ⟨fun z => absurd z hx, fun _ => ⟨?_, ?_, fun c c0 c1 => ?_⟩⟩, ⟨fun z => ?_, fun z => ?_⟩, hxb, hoa, hb', ?_⟩
        · refine (st ν hE).tr (fun c q k i z => ?_)
          rw [e2, up_ne (fun y => z ⟨y.1, y.2.1, by have := y.2.2; omega⟩), e1, up_ne (fun y => z ⟨y.1, y.2.1, by have := y.2.2; omega⟩)]
          exact hF c q k i (fun y => z ⟨y.1, y.2.1, by have := y.2.2; omega⟩)
        · refine addP_all (P := okC σ0) h3 (fun p f c p0 p1 f0 f1 ec => ?_)
          unfold coC at ec
          split at ec
          · cases ec
            exact okC_cutOf h p0 (by omega) f0 (by omega) h11 hd
          · exact absurd ec (by simp)
        · rw [e2, up_at, e1, up_ne (by omega), hF 6 0 27 0 (by omega), q3 ν hE 27 0 (by omega), q1 27 0 (by omega), h4]
        · rw [e2, up_ne (by omega), e1, up_at]
        · rw [pv 30 0 (by omega), q3 ν hE 30 0 (by omega)]; exact g30
        · rw [pv 31 0 (by omega), q3 ν hE 31 0 (by omega)]; exact g31
        · rw [pv 34 c (by omega), q3 ν hE 34 c (by omega)]; exact g34 c c0 c1
        · rw [p2 29 0 (by omega)]; exact hU.1 z
        · rw [p2 29 0 (by omega), p2 32 0 (by omega)]
          obtain ⟨y1, y2, y3⟩ := hU.2 z
          exact ⟨y1, y2, fun c c0 c1 => by rw [p2 33 c (by omega)]; exact y3 c c0 c1⟩
        · show (0 : Int) ≤ r + 1
          omega
      have z31 : νa 6 0 31 0 = x := by rw [hF 6 0 31 0 (by omega), q3 ν hE 31 0 (by omega)]; exact g31
      unfold okN at hoa
      unfold Mo_round_282 Mo_round_305
      by_cases hu4 : ua = -4
      · rw [hU.1 hu4]
        exact ⟨⟨by omega, by omega⟩, fun _ => done 0 (if_neg (fun z => z.1 hu4)) (by omega), fun z => absurd rfl z⟩
      · obtain ⟨y1, y2, y3⟩ := hU.2 hu4
        rw [y1, y2, z31]
        exact ⟨⟨by omega, by omega⟩, fun z => absurd z (by omega), fun _ => ⟨⟨by omega, by omega⟩, ⟨by omega, by omega⟩, fun z => done 0 (if_neg (fun z' => by omega)) (by omega), fun z => done 1 (if_pos ⟨hu4, z⟩) (by omega)⟩⟩
    -- the parts, one by one
    have key : ∀ (k n : Nat) (pos full cost : Int) (ν : Mem), (n : Int) + k = σ0 5 0 3 0 → Eo S6c μ1 ν → RepM ν (addP (coC σ0 L (pD bb) r) (σ0 2 0 0 0).toNat n L) → PF σ0 (pD bb) n 0 pos cost → (full = 0 ∨ (full = 1 ∧ 200 ≤ (addP (coC σ0 L (pD bb) r) (σ0 2 0 0 0).toNat n L).length)) → Mo_round_43 Q (k + 1) pos full cost n ν := by
      intro k
      induction k with
      | zero =>
        intro n pos full cost ν g1 hE hRep hPF hfull
        have hEν := st ν hE
        have e7 : ν 6 0 7 0 = σ0 5 0 3 0 := by rw [hEν 6 0 7 0 (by unfold S6; omega)]; exact hMD.2.2.2.2.2.1
        have en : (σ0 5 0 3 0).toNat = n := by omega
        have hb0 := hPF.1
        have hb1 := hPF.2.1
        have ho := hPF.out (by omega)
        have w29 : (u = -4 → ν 6 0 29 0 = 0) ∧ (u ≠ -4 → ν 6 0 29 0 = 1 ∧ ν 6 0 32 0 = u ∧ ∀ c, 0 ≤ c → c < 6 → ν 6 0 33 c = b c) := by
          refine ⟨fun z => by rw [q3 ν hE 29 0 (by omega), q1 29 0 (by omega)]; exact h7.1 z, fun z => ?_⟩
          obtain ⟨y1, y2, y3⟩ := h7.2 z
          exact ⟨by rw [q3 ν hE 29 0 (by omega), q1 29 0 (by omega)]; exact y1, by rw [q3 ν hE 32 0 (by omega), q1 32 0 (by omega)]; exact y2, fun c c0 c1 => by rw [q3 ν hE 33 c (by omega), q1 33 c (by omega)]; exact y3 c c0 c1⟩
        rw [← en] at hRep
        have keep : ¬ (costA σ0 (pD bb) ≠ -4 ∧ (u = -4 ∨ costA σ0 (pD bb) < u)) → Mo_round_282 Q ν := fun hw => last ν ν u b hE hRep (fun _ _ _ _ _ => rfl) w29 (if_neg hw) (if_neg hw) h9
        have win : costA σ0 (pD bb) = cost → (u = -4 ∨ cost < u) → Mo_round_242 Q cost ν := by
          intro ec hw
          have key5 : ∀ (m : Nat) (i : Int) (ξ : Mem), i + m = 6 → 0 ≤ i → (∀ c q k i, ¬ (c = 6 ∧ q = 0 ∧ (k = 29 ∨ k = 32 ∨ k = 33)) → ξ c q k i = ν c q k i) → ξ 6 0 29 0 = 1 → ξ 6 0 32 0 = cost → (∀ c, 0 ≤ c → c < i → ξ 6 0 33 c = pD bb c) → Mo_round_255 Q (m + 1) i ξ := by
            intro m
            induction m with
            | zero =>
              intro i ξ g1 g2 hF z29 z32 z33
              unfold Mo_round_255
              refine ⟨⟨by omega, by omega⟩, fun _ => ?_, fun z => absurd z (by omega)⟩
              exact last ν ξ cost (pD bb) hE hRep hF ⟨fun z => absurd z (by omega), fun _ => ⟨z29, z32, fun c c0 c1 => z33 c c0 (by omega)⟩⟩ (by rw [ec]; exact if_pos ⟨by omega, hw⟩) (by rw [ec]; exact if_pos ⟨by omega, hw⟩) (Or.inr ⟨by omega, by omega⟩)
            | succ m ih5 =>
              intro i ξ g1 g2 hF z29 z32 z33
              have z34 : ξ 6 0 34 i = pD bb i := by rw [hF 6 0 34 i (by omega), q3 ν hE 34 i (by omega)]; exact g34 i (by omega) (by omega)
              unfold Mo_round_255
              refine ⟨⟨by omega, by omega⟩, fun z => absurd z (by omega), fun _ => ⟨by omega, by omega, by omega, by omega, fun σ4 e4 x5 e5 => ?_⟩⟩
              rw [z34] at e4
              subst e4
              refine ih5 x5 _ (by omega) (by omega) (fun c q k i z => by rw [up_ne (by omega)]; exact hF c q k i z) (by rw [up_ne (by omega)]; exact z29) (by rw [up_ne (by omega)]; exact z32) (fun c c0 c1 => ?_)
              by_cases q : c = i
              · subst q; exact up_at
              · rw [up_ne (by omega)]; exact z33 c c0 (by omega)
          unfold Mo_round_242
          intro σ1 e1 σ2 e2
          exact ⟨_, key5 6 0 σ2 (by omega) (by omega) (fun c q k i z => by rw [e2, up_ne (by omega), e1, up_ne (by omega)]) (by rw [e2, up_ne (by omega), e1, up_at]) (by rw [e2, up_at]) (fun c c0 c1 => absurd c1 (by omega))⟩
        unfold Mo_round_43
        rw [e7]
        refine ⟨⟨by omega, by omega⟩, ⟨by omega, by omega⟩, fun _ => ⟨⟨by omega, by omega⟩, fun z => ?_, fun z => ?_⟩, fun z => absurd z (by omega)⟩
        · exact keep (fun y => by omega)
        · have ec : costA σ0 (pD bb) = cost := by omega
          unfold okN at h9
          by_cases hu4 : u = -4
          · rw [w29.1 hu4]
            exact ⟨⟨by omega, by omega⟩, fun _ => win ec (Or.inl hu4), fun z => absurd rfl z⟩
          · obtain ⟨y1, y2, -⟩ := w29.2 hu4
            rw [y1, y2]
            exact ⟨⟨by omega, by omega⟩, fun z => absurd z (by omega), fun _ => ⟨⟨by omega, by omega⟩, ⟨by omega, by omega⟩, fun z => keep (fun y => by omega), fun z => win ec (Or.inr z)⟩⟩
      | succ k ih =>
        intro n pos full cost ν g1 hE hRep hPF hfull
        have hEν := st ν hE
        have hMν := hMD.eo hEν
        have e7 : ν 6 0 7 0 = σ0 5 0 3 0 := by rw [hEν 6 0 7 0 (by unfold S6; omega)]; exact hMD.2.2.2.2.2.1
        have e34 : ∀ c, 0 ≤ c → c < 6 → ν 6 0 34 c = pD bb c := fun c c0 c1 => by rw [q3 ν hE 34 c (by omega)]; exact g34 c c0 c1
        have hb0 := hPF.1
        have hb1 := hPF.2.1
        obtain ⟨a1, a2, a3, a4⟩ := (h.s6 hEν).2.2.2 n (by omega) (by omega)
        unfold Mo_round_43
        rw [e7]
        refine ⟨⟨by omega, by omega⟩, ⟨by omega, by omega⟩, fun z => absurd z (by omega), fun _ => ?_⟩
        refine w_Mo_codeOf a1 (hMν.2.2.2.2.2.2 n (by omega) (by omega)) (by omega) (by omega) (fun c c0 c1 => by rw [e34 c c0 c1]; exact hd c c0 c1) (fun code c0 c1 ec => ?_)
        have e30 : ν 3 n 0 0 = σ0 3 n 0 0 := S6_cl hEν 3 n 0 0 (by omega)
        have ecode : cv code = spt (σ0 3 n 0 0) (fun j => pD bb (σ0 3 n 1 j)) := by
          rw [ec, e30]
          refine spt_congr (fun j j0 j1 => ?_)
          rw [S6_cl hEν 3 n 1 j (by omega)]
          have bj := (h.2.2.2 n (by omega) (by omega)).1.2.2.2.1 j j0 j1
          exact e34 _ bj.1.1 bj.1.2
        have hVs : Vs (σ0 3 n 0 0) (σ0 3 n 2) (cv code) := by
          rw [ecode]
          exact dval h (by omega) (by omega) hdT (hJ n (by omega) (by omega))
        have key2 : ∀ (m f : Nat) (pos full cost : Int) (ν : Mem), (f : Int) + m = σ0 2 0 0 0 → Eo S6c μ1 ν → RepM ν (addF (coC σ0 L (pD bb) r n) f (addP (coC σ0 L (pD bb) r) (σ0 2 0 0 0).toNat n L)) → PF σ0 (pD bb) n f pos cost → (full = 0 ∨ (full = 1 ∧ 200 ≤ (addF (coC σ0 L (pD bb) r n) f (addP (coC σ0 L (pD bb) r) (σ0 2 0 0 0).toNat n L)).length)) → Mo_round_67 (fun z0 z1 z2 z3 z4 => Mo_round_43 Q (k + 1) z0 z1 z2 z3 z4) Q (m + 1) pos full cost n code f ν := by
          intro m
          induction m with
          | zero =>
            intro f pos full cost ν g2 hE hRep hPF hfull
            have hEν := st ν hE
            have e5 : ν 6 0 5 0 = σ0 2 0 0 0 := by rw [hEν 6 0 5 0 (by unfold S6; omega)]; exact hMD.2.2.2.2.1.1
            unfold Mo_round_67
            rw [e5]
            refine ⟨⟨by omega, by omega⟩, ⟨by omega, by omega⟩, fun _ => fun x3 e3 => ?_, fun z => absurd z (by omega)⟩
            have ex : x3 = ((n + 1 : Nat) : Int) := by omega
            have ef : (σ0 2 0 0 0).toNat = f := by omega
            have eL : addP (coC σ0 L (pD bb) r) (σ0 2 0 0 0).toNat (n + 1) L = addF (coC σ0 L (pD bb) r n) f (addP (coC σ0 L (pD bb) r) (σ0 2 0 0 0).toNat n L) := by
              show addF _ (σ0 2 0 0 0).toNat _ = _
              rw [ef]
            rw [ex]
            exact ih (n + 1) pos full cost ν (by omega) hE (by rw [eL]; exact hRep) (hPF.fin (by omega) (by omega)) (by rw [eL]; exact hfull)
          | succ m ih2 =>
            intro f pos full cost ν g2 hE hRep hPF hfull
            have hEν := st ν hE
            have hMν := hMD.eo hEν
            have e5 : ν 6 0 5 0 = σ0 2 0 0 0 := by rw [hEν 6 0 5 0 (by unfold S6; omega)]; exact hMD.2.2.2.2.1.1
            obtain ⟨a1, a2, a3, a4⟩ := (h.s6 hEν).2.2.2 n (by omega) (by omega)
            have hb0 := hPF.1
            have hb1 := hPF.2.1
            have hgn := hg n f (by omega) (by omega)
            unfold Mo_round_67
            rw [e5]
            refine ⟨⟨by omega, by omega⟩, ⟨by omega, by omega⟩, fun z => absurd z (by omega), fun _ => ?_⟩
            refine w_Mo_answerTo a1 (hMν.2.2.2.2.2.2 n (by omega) (by omega)) (by omega) (by omega) c0 c1 (by omega) (by omega) (fun bu ν' hE' _ _ => ?_)
            have eA : AnC ν n (cv code) f = gA σ0 n (pD bb) f := by
              rw [AnC_congr (fun k hk i => S6_cl hEν 3 n k i (by omega)), ecode]
              rfl
            rw [eA]
            have hE2 : Eo S6c μ1 ν' := hE.tr (hE'.mono (fun c q k z => ⟨z.1, z.2.1, by have := z.2.2; omega⟩))
            have hE2ν := st ν' hE2
            have hRep2 : RepM ν' (addF (coC σ0 L (pD bb) r n) f (addP (coC σ0 L (pD bb) r) (σ0 2 0 0 0).toNat n L)) := hRep.eo (fun k a b' i => hE' 6 0 k i (by unfold S6a; omega))
            have hw := h.2.1.2 f (by omega) (by omega)
            have e6 : ν' 6 0 6 f = σ0 2 0 1 f := by rw [hE2ν 6 0 6 f (by unfold S6; omega)]; exact hMD.2.2.2.2.1.2 f (by omega) (by omega)
            have e27 : ν' 6 0 27 0 = r := by rw [q3 ν' hE2 27 0 (by omega), q1 27 0 (by omega)]; exact h4
            have hl := hLd n f code (by omega) (by omega) (by omega) (by omega) c0 c1
            have el : (64 * (4 * (n : Int) + f) + code) < 1024 := by omega
            rw [← q3 ν' hE2 39 _ (by omega), ← q3 ν' hE2 38 _ (by omega)] at hl
            obtain ⟨l1, l2, l3⟩ := hl
            have e30' := S6_cl h1 3 n 0 0 (by omega)
            have e31' : μ 3 n 1 = σ0 3 n 1 := funext (fun i => S6_cl h1 3 n 1 i (by omega))
            have e32' : μ 3 n 2 = σ0 3 n 2 := funext (fun i => S6_cl h1 3 n 2 i (by omega))
            rw [e30', e31', e32'] at l3
            have l3 := l3 hVs
            have eg : FM (σ0 3 n 0 0) (σ0 3 n 1) L n f (cv code) = gL σ0 L n (pD bb) f := by rw [ecode]; rfl
            rw [eg] at l3
            have hgl : gL σ0 L n (pD bb) f ≠ -4 := hVF.2.2 n (by omega) (by omega) f (by omega) (by omega)
            refine ⟨by omega, by omega, fun x6 e6' => ?_⟩
            rw [l3.2 hgl] at e6' l2
            generalize hco : coC σ0 L (pD bb) r n f = co at *
            have eL : addF (coC σ0 L (pD bb) r n) (f + 1) (addP (coC σ0 L (pD bb) r) (σ0 2 0 0 0).toNat n L) = push (addF (coC σ0 L (pD bb) r n) f (addP (coC σ0 L (pD bb) r) (σ0 2 0 0 0).toNat n L)) co := by
              show push _ (coC σ0 L (pD bb) r n f) = _
              rw [hco]
            generalize hM : addF (coC σ0 L (pD bb) r n) f (addP (coC σ0 L (pD bb) r) (σ0 2 0 0 0).toNat n L) = M at *
            have go : ∀ (pos' full' cost' : Int) (ξ : Mem), Eo S6c μ1 ξ → RepM ξ (push M co) → PF σ0 (pD bb) n (f + 1) pos' cost' → (full' = 0 ∨ (full' = 1 ∧ 200 ≤ (push M co).length)) → Mo_round_211 (fun z0 z1 z2 z3 z4 z5 z6 => Mo_round_67 (fun z0 z1 z2 z3 z4 => Mo_round_43 Q (k + 1) z0 z1 z2 z3 z4) Q (m + 1) z0 z1 z2 z3 z4 z5 z6) Q pos' full' cost' n code f ξ := by
              intro pos' full' cost' ξ hEξ hRξ hPξ hfξ
              unfold Mo_round_211
              intro x1 e1
              have ex : x1 = ((f + 1 : Nat) : Int) := by omega
              rw [ex]
              exact ih2 (f + 1) pos' full' cost' ξ (by omega) hEξ (by rw [eL]; exact hRξ) hPξ (by rw [eL]; exact hfξ)
            have hM200 := hRep2.2.1
            have e18 : ν' 6 0 18 0 = M.length := hRep2.1
            -- a cut comes, if there is room
            have cut : (gA σ0 n (pD bb) f = -4 ∨ gL σ0 L n (pD bb) f < gA σ0 n (pD bb) f) → ∀ (pos' cost' : Int), PF σ0 (pD bb) n (f + 1) pos' cost' → Mo_round_163 (fun z0 z1 z2 z3 z4 z5 z6 => Mo_round_67 (fun z0 z1 z2 z3 z4 => Mo_round_43 Q (k + 1) z0 z1 z2 z3 z4) Q (m + 1) z0 z1 z2 z3 z4 z5 z6) Q pos' full cost' n code f (gA σ0 n (pD bb) f) ν' := by
              intro hcut pos' cost' hPξ
              have eco : co = some (cutOf σ0 (pD bb) r n f) := by rw [← hco]; exact if_pos hcut
              have isfull : 200 ≤ M.length → Mo_round_177 (fun z0 z1 z2 z3 z4 z5 z6 => Mo_round_67 (fun z0 z1 z2 z3 z4 => Mo_round_43 Q (k + 1) z0 z1 z2 z3 z4) Q (m + 1) z0 z1 z2 z3 z4 z5 z6) Q pos' cost' n code f (gA σ0 n (pD bb) f) ν' := by
                intro hfu
                have ep : push M co = M := by
                  rw [eco]
                  unfold push
                  dsimp only
                  rw [if_neg (by omega)]
                unfold Mo_round_177 Mo_round_182
                refine ⟨⟨by omega, by omega⟩, fun _ => ?_, fun z => absurd z (by omega)⟩
                exact go pos' 1 cost' ν' hE2 (by rw [ep]; exact hRep2) hPξ (Or.inr ⟨rfl, by rw [ep]; exact hfu⟩)
              unfold Mo_round_163
              rw [e18]
              refine ⟨⟨by omega, by omega⟩, fun z => isfull (by omega), fun z => ⟨⟨by omega, by omega⟩, fun zn => ?_, fun zf => isfull (by omega)⟩⟩
              have ep : push M co = M ++ [cutOf σ0 (pD bb) r n f] := by
                rw [eco]
                unfold push
                dsimp only
                rw [if_pos (by omega)]
              have add : ∀ bound : Int, (bound = 0 ∨ bound = 1) → (bound = 0 ↔ gA σ0 n (pD bb) f = -4) → Mo_round_206 (fun z0 z1 z2 z3 z4 z5 z6 => Mo_round_67 (fun z0 z1 z2 z3 z4 => Mo_round_43 Q (k + 1) z0 z1 z2 z3 z4) Q (m + 1) z0 z1 z2 z3 z4 z5 z6) Q pos' 0 cost' n code f (gA σ0 n (pD bb) f) n f code bound ν' := by
                intro bound hbo hbi
                unfold Mo_round_206
                refine w_Mo_addCut (h.s6 hE2ν) (hJ.dq (Dq.s6 hE2ν)) (hMD.eo hE2ν) (by omega) (by omega) (by omega) (by omega) c0 c1 hbo (fun z => by omega) ⟨by omega, by omega⟩ hRep2 (by omega) (fun ξ hEξ hRξ => ?_)
                refine go pos' 0 cost' ξ (hE2.tr hEξ) ?_ hPξ (Or.inl rfl)
                rw [ep]
                have eb : (if bound = 0 then (-4 : Int) else gA σ0 n (pD bb) f) = gA σ0 n (pD bb) f := by
                  by_cases y : bound = 0
                  · rw [if_pos y]; exact (hbi.mp y).symm
                  · rw [if_neg y]
                have f0 : ν' 3 n 0 0 = σ0 3 n 0 0 := S6_cl hE2ν 3 n 0 0 (by omega)
                have f1 : ν' 3 n 1 = σ0 3 n 1 := funext (fun i => S6_cl hE2ν 3 n 1 i (by omega))
                have f2 : ν' 3 n 2 = σ0 3 n 2 := funext (fun i => S6_cl hE2ν 3 n 2 i (by omega))
                have f3 : (fun sp => AnC ν' n sp f) = (fun sp => AnC σ0 n sp f) := funext (fun sp => AnC_congr (fun k hk i => S6_cl hE2ν 3 n k i (by omega)))
                rw [eb, f0, f1, f2, f3, e27, ecode] at hRξ
                exact hRξ
              unfold Mo_round_182
              refine ⟨⟨by omega, by omega⟩, fun y => absurd rfl y, fun _ => ⟨⟨by omega, by omega⟩, fun y => add 0 (Or.inl rfl) ⟨fun _ => y, fun _ => rfl⟩, fun y => add 1 (Or.inr rfl) ⟨fun y' => absurd y' (by omega), fun y' => absurd y' y⟩⟩⟩
            have keep : ¬ (gA σ0 n (pD bb) f = -4 ∨ gL σ0 L n (pD bb) f < gA σ0 n (pD bb) f) → push M co = M := by
              intro hc
              have eco : co = none := by rw [← hco]; exact if_neg hc
              rw [eco]
              rfl
            have next : ∀ pos' : Int, (gA σ0 n (pD bb) f = -4 → pos' = 0) → (gA σ0 n (pD bb) f ≠ -4 → pos' = pos) → Mo_round_124 (fun z0 z1 z2 z3 z4 z5 z6 => Mo_round_67 (fun z0 z1 z2 z3 z4 => Mo_round_43 Q (k + 1) z0 z1 z2 z3 z4) Q (m + 1) z0 z1 z2 z3 z4 z5 z6) Q full cost n code f (gA σ0 n (pD bb) f) x6 pos' ν' := by
              intro pos' hp1 hp2
              unfold Mo_round_124
              refine ⟨⟨by omega, by omega⟩, fun z => ⟨by omega, by omega, ?_⟩, fun z => ?_⟩
              · have hPξ := hPF.step (by omega) hw
                rw [hp2 z, e6]
                unfold Mo_round_147
                intro x1 e1
                rw [← e1] at hPξ
                refine ⟨⟨by omega, by omega⟩, fun y => absurd y z, fun _ => ⟨⟨by omega, by omega⟩, ⟨by omega, by omega⟩, fun y => ?_, fun y => cut (Or.inr (by omega)) pos x1 hPξ⟩⟩
                have ep := keep (fun y' => by omega)
                exact go pos full x1 ν' hE2 (by rw [ep]; exact hRep2) hPξ (by rw [ep]; exact hfull)
              · have hPξ := hPF.bar z (by omega) (by omega)
                rw [hp1 z]
                unfold Mo_round_147
                intro x1 e1
                rw [← e1] at hPξ
                exact ⟨⟨by omega, by omega⟩, fun y => cut (Or.inl z) 0 x1 hPξ, fun y => absurd z y⟩
            refine ⟨⟨by omega, by omega⟩, fun z => ?_, fun z => ⟨⟨by omega, by omega⟩, fun y => ?_, fun y => ?_⟩⟩
            · unfold Mo_round_123; exact next 0 (fun _ => rfl) (fun _ => z.symm)
            · unfold Mo_round_123; exact next 0 (fun _ => rfl) (fun y' => absurd y y')
            · exact next 1 (fun y' => absurd y' y) (fun _ => by omega)
        exact ⟨_, key2 (σ0 2 0 0 0).toNat 0 pos full cost ν (by omega) hE hRep hPF hfull⟩
    exact ⟨_, key (σ0 5 0 3 0).toNat 0 1 0 _ μ1 (by omega) Eo.rf (h2.eo (fun k a b' i => q1 k i (by omega))) ⟨Or.inr rfl, by omega, fun z => absurd z (by decide), fun _ => ⟨by simp [sm], fun p a b' => absurd b' (by omega), fun f a b' => absurd b' (by omega)⟩⟩ (Or.inl rfl)⟩
theorem w_Mo_beyond {σ : Mem} {v lo hi : Int} {Q : Int → Mem → Prop} (hv : InR v) (hl : InR lo) (hh : InR hi) (hQ1 : v < lo ∨ hi < v → Q 1 σ) (hQ0 : lo ≤ v → v ≤ hi → Q 0 σ) : Mo_beyond v lo hi σ Q := by
  unfold Mo_beyond Mo_beyond_10 Mo_beyond_15
  first
  | exact ⟨hv, hl, fun z => ⟨Or.inr rfl, hQ1 (by omega)⟩, fun z => ⟨hv, hh, fun y => ⟨Or.inl rfl, hQ0 (by omega) (by omega)⟩, fun y => ⟨Or.inr rfl, hQ1 (by omega)⟩⟩⟩
  | exact ⟨hv, hl, fun z => ⟨hv, hh, fun y => ⟨Or.inl rfl, hQ0 (by omega) (by omega)⟩, fun y => ⟨Or.inr rfl, hQ1 (by omega)⟩⟩, fun z => ⟨Or.inr rfl, hQ1 (by omega)⟩⟩
  | exact ⟨hv, hl, fun z => ⟨Or.inr rfl, hQ1 (by omega)⟩, fun z => ⟨hv, hh, fun y => ⟨Or.inr rfl, hQ1 (by omega)⟩, fun y => ⟨Or.inl rfl, hQ0 (by omega) (by omega)⟩⟩⟩
  | exact ⟨hv, hl, fun z => ⟨hv, hh, fun y => ⟨Or.inr rfl, hQ1 (by omega)⟩, fun y => ⟨Or.inl rfl, hQ0 (by omega) (by omega)⟩⟩, fun z => ⟨Or.inr rfl, hQ1 (by omega)⟩⟩
theorem w_Mo_run {σ : Mem} {n : Int} {s : St} {Q : Int → Mem → Prop} (h : CW σ) (hJ : JS σ) (hMD : MD σ) (hn : InR n) (hR : RM σ σ s) (hQo : ¬ (1 ≤ n ∧ n ≤ 50) → Q (-2) σ) (hQ : 1 ≤ n → n ≤ 50 → ∀ σ', RM σ σ' (itr σ n.toNat s) → Q (ansRun (itr σ n.toNat s).2.2.1) σ') : Mo_run n σ Q := by
  unfold Mo_run
  refine w_Mo_beyond hn ⟨by omega, by omega⟩ ⟨by omega, by omega⟩ (fun z => ⟨⟨by omega, by omega⟩, fun y => absurd y (by omega), fun _ => hQo (by omega)⟩) (fun z1 z2 => ⟨⟨by omega, by omega⟩, fun _ => ?_, fun y => absurd rfl y⟩)
  have fin : ∀ μ s', RM σ μ s' → itr σ n.toNat s = s' → Mo_run_37 Q μ := by
    intro μ s' hR' es
    have q := hQ z1 z2 μ (by rw [es]; exact hR')
    rw [es] at q
    have e1 : μ 6 0 28 0 = s'.2.2.1 := hR'.2.2.2.2.1
    have b := hR'.2.2.2.2.2.2.2.2.2.1
    unfold ansRun at q
    unfold Mo_run_37 Mo_run_62
    rw [e1]
    refine ⟨⟨by omega, by omega⟩, fun y => ⟨⟨by omega, by omega⟩, fun y2 => ?_, fun y2 => ?_⟩, fun y => ?_⟩
    · rw [if_neg y, if_neg y2] at q; exact q
    · rw [if_neg y, if_pos y2] at q; exact q
    · rw [if_pos y] at q; exact q
  have key : ∀ (k : Nat) (i : Int) (s' : St) (μ : Mem), i + k = n → 0 ≤ i → RM σ μ s' → itr σ n.toNat s = itr σ k s' → Mo_run_15 Q (k + 1) n i μ := by
    intro k
    induction k with
    | zero =>
      intro i s' μ g1 g2 hR' es
      unfold Mo_run_15
      exact ⟨⟨by omega, by omega⟩, ⟨by omega, by omega⟩, fun _ => fin μ s' hR' es, fun z => absurd z (by omega)⟩
    | succ k ih =>
      intro i s' μ g1 g2 hR' es
      have e1 : μ 6 0 28 0 = s'.2.2.1 := hR'.2.2.2.2.1
      have b := hR'.2.2.2.2.2.2.2.2.2.1
      unfold Mo_run_15
      rw [e1]
      refine ⟨⟨by omega, by omega⟩, ⟨by omega, by omega⟩, fun z => absurd z (by omega), fun _ => ⟨⟨by omega, by omega⟩, fun z => fin μ s' hR' (by rw [es]; exact itr_end z _), fun z => ?_⟩⟩
      refine w_Mo_round h hJ hMD hR' z (fun μ' hR2 => fun x5 e5 => ?_)
      exact ih x5 (rnd σ s') μ' (by omega) (by omega) hR2 (by rw [es]; exact if_pos z)
  exact ⟨_, key n.toNat 0 s σ (by omega) (by omega) hR rfl⟩

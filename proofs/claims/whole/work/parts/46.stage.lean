/-! ===== the class: choices, stages ===== -/
def ChB (σ : Mem) : Prop := (0 ≤ σ 0 0 0 0 ∧ σ 0 0 0 0 ≤ 6) ∧ (∀ c, 0 ≤ c → c < σ 0 0 0 0 → 2 ≤ σ 0 0 1 c ∧ σ 0 0 1 c ≤ 4) ∧ (∀ i, 0 ≤ i → i < 24 → σ 0 0 2 i = -4 ∨ (0 ≤ σ 0 0 2 i ∧ σ 0 0 2 i ≤ 200))
def JB (σ : Mem) (p : Int) : Prop := ∀ j, 0 ≤ j → j < σ 3 p 0 0 → σ 3 p 1 j < σ 0 0 0 0 ∧ ∀ i, 0 ≤ i → i < j → σ 3 p 1 i < σ 3 p 1 j
def CW (σ : Mem) : Prop := ChB σ ∧ FuB σ ∧ (0 ≤ σ 5 0 3 0 ∧ σ 5 0 3 0 ≤ 4) ∧ ∀ p, 0 ≤ p → p < 4 → PB σ p ∧ AO σ p ∧ FO σ p ∧ JB σ p
/-- fields of the class that a search leaves as they are -/
def Ss : Nat → Int → Nat → Prop := fun c _ k => (c = 3 ∧ (k = 10 ∨ (12 ≤ k ∧ k ≤ 14))) ∨ (c = 5 ∧ 6 ≤ k ∧ k ≤ 9)
theorem CW.eo {σ σ' : Mem} (h : CW σ) (hE : Eo Ss σ σ') (hA : ∀ p, 0 ≤ p → p < 4 → AO σ' p) : CW σ' := by
  obtain ⟨h1, h2, h3, h4⟩ := h
  have e0 : ∀ k i, σ' 0 0 k i = σ 0 0 k i := fun k i => hE 0 0 k i (by unfold Ss; omega)
  have e2 : ∀ k i, σ' 2 0 k i = σ 2 0 k i := fun k i => hE 2 0 k i (by unfold Ss; omega)
  have e5 : σ' 5 0 3 0 = σ 5 0 3 0 := hE 5 0 3 0 (by unfold Ss; omega)
  refine ⟨?_, ?_, by rw [e5]; exact h3, fun p p0 p1 => ?_⟩
  · unfold ChB at *
    simp only [e0]
    exact h1
  · unfold FuB at *
    simp only [e2]
    exact h2
  · obtain ⟨a1, a2, a3, a4⟩ := h4 p p0 p1
    have e3 : ∀ k : Nat, k < 10 → ∀ i, σ' 3 p k i = σ 3 p k i := fun k hk i => hE 3 p k i (by unfold Ss; omega)
    have e11 : ∀ i, σ' 3 p 11 i = σ 3 p 11 i := fun i => hE 3 p 11 i (by unfold Ss; omega)
    refine ⟨a1.eo e3, hA p p0 p1, ?_, ?_⟩
    · unfold FO at *
      simp only [e11]
      exact a3
    · unfold JB at *
      simp only [e3 0 (by omega), e3 1 (by omega), e0]
      exact a4
def stl (σ : Mem) (p : Int) : Int := if σ 3 p 0 0 = 0 then 0 else σ 3 p 1 (σ 3 p 0 0 - 1) + 1
noncomputable def gC (σ : Mem) (by_ p : Int) (d : Int → Int) (f : Int) : Int := if by_ = 0 then AnC σ p (spt (σ 3 p 0 0) (fun j => d (σ 3 p 1 j))) f else σ 3 p 11 (f * 64 + spt (σ 3 p 0 0) (fun j => d (σ 3 p 1 j)))
noncomputable def pco (σ : Mem) (by_ p : Int) (d : Int → Int) : Int := cst (σ 2 0 0 0) (σ 2 0 1) (gC σ by_ p d)
def badS (σ : Mem) (by_ s : Int) (d : Int → Int) : Prop := (0 < s ∧ σ 0 0 2 ((s - 1) * 4 + d (s - 1)) = -4) ∨ ∃ p, 0 ≤ p ∧ p < σ 5 0 3 0 ∧ stl σ p = s ∧ pco σ by_ p d = -4
noncomputable def valS (σ : Mem) (by_ s : Int) (d : Int → Int) : Int := (if 0 < s then σ 0 0 2 ((s - 1) * 4 + d (s - 1)) * sm (σ 2 0 0 0).toNat (σ 2 0 1) else 0) + sm (σ 5 0 3 0).toNat (fun p => if stl σ p = s then pco σ by_ p d else 0)
theorem spt_congr {n : Int} {d d' : Int → Int} (h : ∀ j, 0 ≤ j → j < n → d j = d' j) : spt n d = spt n d' := by
  unfold spt
  by_cases a0 : 0 < n <;> by_cases a1 : 1 < n <;> by_cases a2 : 2 < n <;> simp only [a0, a1, a2, if_true, if_false] <;> (try rw [h 0 (by omega) (by omega)]) <;> (try rw [h 1 (by omega) (by omega)]) <;> (try rw [h 2 (by omega) (by omega)])
theorem gC_same {σ σ' : Mem} {by_ p f : Int} {d : Int → Int} (e3 : ∀ k : Nat, k < 10 → ∀ i, σ' 3 p k i = σ 3 p k i) (e11 : ∀ i, σ' 3 p 11 i = σ 3 p 11 i) : gC σ' by_ p d f = gC σ by_ p d f := by
  unfold gC
  rw [AnC_congr e3]
  simp only [e3 0 (by omega), e3 1 (by omega), e11]
theorem pco_same {σ σ' : Mem} {by_ p : Int} {d : Int → Int} (e2 : ∀ k i, σ' 2 0 k i = σ 2 0 k i) (e3 : ∀ k : Nat, k < 10 → ∀ i, σ' 3 p k i = σ 3 p k i) (e11 : ∀ i, σ' 3 p 11 i = σ 3 p 11 i) : pco σ' by_ p d = pco σ by_ p d := by
  unfold pco
  have ew : σ' 2 0 1 = σ 2 0 1 := funext (e2 1)
  have eg : gC σ' by_ p d = gC σ by_ p d := funext (fun f => gC_same e3 e11)
  rw [e2 0 0, ew, eg]
theorem gC_bd {σ : Mem} {by_ p : Int} {d : Int → Int} (h : CW σ) (p0 : 0 ≤ p) (p1 : p < 4) (hd : ∀ c, 0 ≤ c → c < 6 → 0 ≤ d c ∧ d c < 4) (f : Int) (f0 : 0 ≤ f) (f1 : f < 4) : gC σ by_ p d f = -4 ∨ (0 ≤ gC σ by_ p d f ∧ gC σ by_ p d f ≤ 600) := by
  obtain ⟨a1, a2, a3, a4⟩ := h.2.2.2 p p0 p1
  have := spt_bd (n := σ 3 p 0 0) (d := fun j => d (σ 3 p 1 j)) a1.1.2 (fun j j0 j1 => hd _ (a1.2.2.2.1 j j0 j1).1.1 (a1.2.2.2.1 j j0 j1).1.2)
  unfold gC
  split
  · exact AnC_bd a1
  · exact a3 _ (by omega) (by omega)
theorem pco_bd {σ : Mem} {by_ p : Int} {d : Int → Int} (h : CW σ) (p0 : 0 ≤ p) (p1 : p < 4) (hd : ∀ c, 0 ≤ c → c < 6 → 0 ≤ d c ∧ d c < 4) : pco σ by_ p d = -4 ∨ (0 ≤ pco σ by_ p d ∧ pco σ by_ p d ≤ 48000) := by
  have hf := h.2.1
  exact cst_bd hf.1.2 hf.2 (fun f f0 f1 => gC_bd h p0 p1 hd f f0 (by have := hf.1; omega))
/-- a stage looks only at the choices ahead of it -/
theorem pco_ahead {σ : Mem} {by_ p : Int} {d d' : Int → Int} (hb : PB σ p) (hJ : JB σ p) (h : ∀ c, 0 ≤ c → c < stl σ p → d c = d' c) : pco σ by_ p d = pco σ by_ p d' := by
  have es : spt (σ 3 p 0 0) (fun j => d (σ 3 p 1 j)) = spt (σ 3 p 0 0) (fun j => d' (σ 3 p 1 j)) := by
    refine spt_congr (fun j j0 j1 => h _ (hb.2.2.2.1 j j0 j1).1.1 ?_)
    unfold stl
    rw [if_neg (by omega)]
    by_cases c : j = σ 3 p 0 0 - 1
    · rw [c]; omega
    · have := (hJ (σ 3 p 0 0 - 1) (by omega) (by omega)).2 j j0 (by omega)
      omega
  unfold pco
  have eg : gC σ by_ p d = gC σ by_ p d' := by
    funext f
    unfold gC
    rw [es]
  rw [eg]
theorem badS_ahead {σ : Mem} {by_ s : Int} {d d' : Int → Int} (h : CW σ) (he : ∀ c, 0 ≤ c → c < s → d c = d' c) : badS σ by_ s d → badS σ by_ s d' := by
  rintro (⟨h1, h2⟩ | ⟨p, p0, p1, p2, p3⟩)
  · exact Or.inl ⟨h1, by rw [← he (s - 1) (by omega) (by omega)]; exact h2⟩
  · have := h.2.2.1
    obtain ⟨a1, a2, a3, a4⟩ := h.2.2.2 p p0 (by omega)
    exact Or.inr ⟨p, p0, p1, p2, by rw [← pco_ahead a1 a4 (fun c c0 c1 => he c c0 (by omega))]; exact p3⟩
theorem valS_ahead {σ : Mem} {by_ s : Int} {d d' : Int → Int} (h : CW σ) (he : ∀ c, 0 ≤ c → c < s → d c = d' c) : valS σ by_ s d = valS σ by_ s d' := by
  unfold valS
  congr 1
  · split
    · rw [he (s - 1) (by omega) (by omega)]
    · rfl
  · refine sm_congr (fun p p0 p1 => ?_)
    have := h.2.2.1
    obtain ⟨a1, a2, a3, a4⟩ := h.2.2.2 p p0 (by omega)
    split
    · exact pco_ahead a1 a4 (fun c c0 c1 => he c c0 (by omega))
    · rfl
theorem valS_bd {σ : Mem} {by_ s : Int} {d : Int → Int} (h : CW σ) (hs0 : 0 ≤ s) (hs1 : s ≤ σ 0 0 0 0) (hd : ∀ c, 0 ≤ c → c < 6 → 0 ≤ d c ∧ d c < 4) (hb : ¬ badS σ by_ s d) : 0 ≤ valS σ by_ s d ∧ valS σ by_ s d ≤ 300000 := by
  obtain ⟨h1, h2, h3, h4⟩ := h
  have hW := sumW_bd h2
  have a := sm_bd (f := fun p => if stl σ p = s then pco σ by_ p d else 0) (lo := 0) (hi := 48000) (n := (σ 5 0 3 0).toNat) (fun p p0 p1 => by
    split
    · rename_i c
      have := pco_bd (by_ := by_) ⟨h1, h2, h3, h4⟩ p0 (by omega) hd
      have : pco σ by_ p d ≠ -4 := fun z => hb (Or.inr ⟨p, p0, by omega, c, z⟩)
      omega
    · omega)
  unfold valS
  by_cases c : 0 < s
  · rw [if_pos c]
    have g := hd (s - 1) (by omega) (by have := h1.1; omega)
    have p := h1.2.2 ((s - 1) * 4 + d (s - 1)) (by omega) (by have := h1.1; omega)
    have : σ 0 0 2 ((s - 1) * 4 + d (s - 1)) ≠ -4 := fun z => hb (Or.inl ⟨c, z⟩)
    have := mul_bd (a := σ 0 0 2 ((s - 1) * 4 + d (s - 1))) (b := sm (σ 2 0 0 0).toNat (σ 2 0 1)) (A := 200) (B := 80) (by omega) (by omega) (by omega) (by omega)
    omega
  · rw [if_neg c]
    omega
/-- answers found meanwhile: the rest stays -/
def Sa : Nat → Int → Nat → Prop := fun c _ k => c = 3 ∧ (k = 10 ∨ (12 ≤ k ∧ k ≤ 14))
theorem Sa_Ss {c : Nat} {q : Int} {k : Nat} (h : Sa c q k) : Ss c q k := Or.inl h
set_option maxHeartbeats 1000000 in
theorem w_costOfStage {σ : Mem} {s by_ : Int} {Q : Int → Mem → Prop} (h : CW σ) (hd : ∀ c, 0 ≤ c → c < 6 → 0 ≤ σ 5 0 6 c ∧ σ 5 0 6 c < 4) (hs0 : 0 ≤ s) (hs1 : s ≤ σ 0 0 0 0) (hby : by_ = 0 ∨ by_ = 1) (hQb : badS σ by_ s (σ 5 0 6) → ∀ σ', Eo Sa σ σ' → (∀ p, 0 ≤ p → p < 4 → AO σ' p) → Q (-4) σ') (hQv : ¬ badS σ by_ s (σ 5 0 6) → ∀ σ', Eo Sa σ σ' → (∀ p, 0 ≤ p → p < 4 → AO σ' p) → Q (valS σ by_ s (σ 5 0 6)) σ') : Sr_costOfStage s by_ σ Q := by
  have h' := h
  obtain ⟨h1, h2, h3, h4⟩ := h'
  have hc := h1.1
  have key : ∀ (k P : Nat) (a acc : Int) (μ : Mem), (P : Int) + k = σ 5 0 3 0 → Eo Sa σ μ → (∀ p, 0 ≤ p → p < 4 → AO μ p) → ¬ (0 < s ∧ σ 0 0 2 ((s - 1) * 4 + σ 5 0 6 (s - 1)) = -4) → a = (if 0 < s then σ 0 0 2 ((s - 1) * 4 + σ 5 0 6 (s - 1)) * sm (σ 2 0 0 0).toNat (σ 2 0 1) else 0) → (∀ p : Int, 0 ≤ p → p < P → stl σ p = s → pco σ by_ p (σ 5 0 6) ≠ -4) → acc = a + sm P (fun p => if stl σ p = s then pco σ by_ p (σ 5 0 6) else 0) → Sr_costOfStage_54 Q (k + 1) s by_ acc P μ := by
    intro k
    induction k with
    | zero =>
      intro P a acc μ g1 hE hA hnb ha hp hacc
      have e5 : μ 5 0 3 0 = σ 5 0 3 0 := hE 5 0 3 0 (by unfold Sa; omega)
      have eP : (σ 5 0 3 0).toNat = P := by omega
      unfold Sr_costOfStage_54
      rw [e5]
      refine ⟨⟨by omega, by omega⟩, ⟨by omega, by omega⟩, fun _ => ?_, fun hh => absurd hh (by omega)⟩
      have hb : ¬ badS σ by_ s (σ 5 0 6) := by
        rintro (z | ⟨p, p0, p1, p2, p3⟩)
        · exact hnb z
        · exact hp p p0 (by omega) p2 p3
      have ev : acc = valS σ by_ s (σ 5 0 6) := by
        unfold valS
        rw [hacc, ha, eP]
      rw [ev]
      exact hQv hb μ hE hA
    | succ k ih =>
      intro P a acc μ g1 hE hA hnb ha hp hacc
      have e5 : μ 5 0 3 0 = σ 5 0 3 0 := hE 5 0 3 0 (by unfold Sa; omega)
      have hCμ : CW μ := h.eo (hE.mono (fun c q k z => Sa_Ss z)) hA
      obtain ⟨a1, a2, a3, a4⟩ := hCμ.2.2.2 P (by omega) (by omega)
      obtain ⟨c1, -, -, c4⟩ := h4 P (by omega) (by omega)
      have e3 : ∀ k : Nat, k < 10 → ∀ i, μ 3 P k i = σ 3 P k i := fun k hk i => hE 3 P k i (by unfold Sa; omega)
      have e11 : ∀ i, μ 3 P 11 i = σ 3 P 11 i := fun i => hE 3 P 11 i (by unfold Sa; omega)
      have e2 : ∀ k i, μ 2 0 k i = σ 2 0 k i := fun k i => hE 2 0 k i (by unfold Sa; omega)
      have e56 : μ 5 0 6 = σ 5 0 6 := funext (fun i => hE 5 0 6 i (by unfold Sa; omega))
      have es : stl μ P = stl σ P := by
        unfold stl
        simp only [e3 0 (by omega), e3 1 (by omega)]
      have hstl : 0 ≤ stl σ P ∧ stl σ P ≤ 6 := by
        unfold stl
        split
        · omega
        · have := (c1.2.2.2.1 (σ 3 P 0 0 - 1) (by have := c1.1; omega) (by omega)).1
          omega
      have next : ∀ (acc' : Int) (μ' : Mem), Eo Sa σ μ' → (∀ p, 0 ≤ p → p < 4 → AO μ' p) → (stl σ P = s → pco σ by_ P (σ 5 0 6) ≠ -4) → acc' = acc + (if stl σ P = s then pco σ by_ P (σ 5 0 6) else 0) → Sr_costOfStage_113 (fun z0 z1 z2 z3 z4 => Sr_costOfStage_54 Q (k + 1) z0 z1 z2 z3 z4) Q s by_ acc' P μ' := by
        intro acc' μ' hE' hA' hp' hacc'
        unfold Sr_costOfStage_113
        intro x1 e1
        have ex : x1 = ((P + 1 : Nat) : Int) := by omega
        rw [ex]
        refine ih (P + 1) a acc' μ' (by omega) hE' hA' hnb ha (fun p p0 p1 p2 => ?_) ?_
        · by_cases c : p = P
          · subst c; exact hp' p2
          · exact hp p p0 (by omega) p2
        · rw [hacc', hacc]
          simp only [sm]
          omega
      unfold Sr_costOfStage_54
      rw [e5]
      refine ⟨⟨by omega, by omega⟩, ⟨by omega, by omega⟩, fun hh => absurd hh (by omega), fun _ => ⟨by omega, by omega, ?_⟩⟩
      refine w_Pa_settledAt a1 ?_
      have es' : (if μ 3 P 0 0 = 0 then 0 else μ 3 P 1 (μ 3 P 0 0 - 1) + 1) = stl σ P := es
      rw [es']
      refine ⟨⟨by omega, by omega⟩, ⟨by omega, by omega⟩, fun hne => ?_, fun he => ⟨by omega, by omega, ?_⟩⟩
      · exact next acc μ hE hA (fun z => absurd z hne) (by rw [if_neg hne]; omega)
      · have hdμ : ∀ c, 0 ≤ c → c < 6 → 0 ≤ μ 5 0 6 c ∧ μ 5 0 6 c < 4 := by rw [e56]; exact hd
        refine w_Pa_costTo a1 a2 a3 hCμ.2.1 hby (fun j j0 j1 => hdμ _ (a1.2.2.2.1 j j0 j1).1.1 (a1.2.2.2.1 j j0 j1).1.2) (fun μ' hE' hA' => ?_)
        have ep : cst (μ 2 0 0 0) (μ 2 0 1) (fun f => if by_ = 0 then AnC μ P (spt (μ 3 P 0 0) (fun j => μ 5 0 6 (μ 3 P 1 j))) f else μ 3 P 11 (f * 64 + spt (μ 3 P 0 0) (fun j => μ 5 0 6 (μ 3 P 1 j)))) = pco σ by_ P (σ 5 0 6) := by
          have : cst (μ 2 0 0 0) (μ 2 0 1) (fun f => if by_ = 0 then AnC μ P (spt (μ 3 P 0 0) (fun j => μ 5 0 6 (μ 3 P 1 j))) f else μ 3 P 11 (f * 64 + spt (μ 3 P 0 0) (fun j => μ 5 0 6 (μ 3 P 1 j)))) = pco μ by_ P (μ 5 0 6) := rfl
          rw [this, e56, pco_same e2 e3 e11]
        rw [ep]
        have hE2 : Eo Sa σ μ' := hE.tr (hE'.mono (fun c q k z => ⟨z.1, z.2.2⟩))
        have hA2 : ∀ p, 0 ≤ p → p < 4 → AO μ' p := by
          intro p p0 p1
          by_cases c : p = P
          · subst c; exact hA'
          · exact (hA p p0 p1).eo (fun k hk i => hE' 3 p k i (by unfold S10; omega))
        have bp := pco_bd (by_ := by_) h (p := P) (by omega) (by omega) hd
        refine ⟨⟨by omega, by omega⟩, fun hne x11 e11' => ?_, fun he4 => ?_⟩
        · exact next x11 μ' hE2 hA2 (fun _ => hne) (by rw [if_pos he]; omega)
        · exact hQb (Or.inr ⟨P, by omega, by omega, he, he4⟩) μ' hE2 hA2
  have hA0 : ∀ p, 0 ≤ p → p < 4 → AO σ p := fun p p0 p1 => (h4 p p0 p1).2.1
  unfold Sr_costOfStage
  refine ⟨⟨by omega, by omega⟩, fun hle => ?_, fun hlt => ?_⟩
  · exact ⟨_, key (σ 5 0 3 0).toNat 0 0 0 σ (by omega) Eo.rf hA0 (fun z => absurd z.1 (by omega)) (by rw [if_neg (by omega)]) (fun p p0 p1 => absurd p1 (by omega)) (by simp [sm])⟩
  · have g := hd (s - 1) (by omega) (by omega)
    refine ⟨by omega, by omega, by omega, by omega, fun x4 e4 => ?_⟩
    have p := h1.2.2 ((s - 1) * 4 + σ 5 0 6 (s - 1)) (by omega) (by omega)
    refine ⟨⟨by omega, by omega⟩, fun hne => ?_, fun he => ?_⟩
    · refine w_Fu_sum h2 ?_
      intro x8 e8
      exact ⟨_, key (σ 5 0 3 0).toNat 0 x8 x8 σ (by omega) Eo.rf hA0 (fun z => hne (by rw [e4]; exact z.2)) (by rw [if_pos hlt, e8, e4]) (fun p p0 p1 => absurd p1 (by omega)) (by simp [sm])⟩
    · exact hQb (Or.inl ⟨hlt, by rw [← e4]; exact he⟩) σ Eo.rf hA0

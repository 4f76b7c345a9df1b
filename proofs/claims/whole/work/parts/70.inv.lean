/-! ===== the invariant ===== -/
def Bst (σ : Mem) (s : St) : Prop := (s.2.2.2.1 ≠ -4 → ∀ c, 0 ≤ c → c < 6 → 0 ≤ s.2.2.2.2.2.1 c ∧ s.2.2.2.2.2.1 c < 4) ∧ (s.2.2.2.2.1 ≠ -4 → (∀ c, 0 ≤ c → c < 6 → 0 ≤ s.2.2.2.2.2.2 c ∧ s.2.2.2.2.2.2 c ≤ Tch σ c) ∧ FG σ (gA σ) s.2.2.2.2.2.2)
def Ext (σ : Mem) (N : Int) (s : St) : Prop := (∀ c, 0 ≤ c → c < 6 → 0 ≤ σ 0 0 3 c ∧ σ 0 0 3 c < 4) ∧ (∀ c, σ 0 0 0 0 ≤ c → c < 6 → σ 0 0 3 c = 0 ∧ ∀ v, 0 ≤ v → v < 4 → σ 0 0 2 (c * 4 + v) = 0) ∧ s.2.1 ≤ 50 * N ∧ ∀ c ∈ s.1, c.2.2.2.1 ≤ 50 * N
def IS (σ : Mem) (N : Int) (s : St) : Prop := CW σ ∧ JS σ ∧ MD σ ∧ RC σ σ s ∧ RM σ σ s ∧ Bst σ s ∧ Ext σ N s
def Inv (σ : Mem) (N : Int) : Prop := ∃ s, IS σ N s
def After (mo : Mem → (Int → Mem → Prop) → Prop) (N : Int) (r1 : Int) (σ1 : Mem) : Prop := InR r1 ∧ ∀ Q2 : Int → Mem → Prop, (∀ σ', Inv σ' N → Q2 r1 σ') → mo σ1 Q2
theorem CW.dq {σ σ' : Mem} (h : CW σ) (hD : Dq σ σ') (hA : ∀ p, 0 ≤ p → p < 4 → AO σ' p ∧ FO σ' p) : CW σ' := by
  obtain ⟨h1, h2, h3, h4⟩ := h
  obtain ⟨e0, e2, e5, e3⟩ := hD
  refine ⟨?_, ?_, by rw [e5]; exact h3, fun p p0 p1 => ?_⟩
  · unfold ChB at *
    simp only [e0]
    exact h1
  · unfold FuB at *
    simp only [e2]
    exact h2
  · obtain ⟨a1, a2, a3, a4⟩ := h4 p p0 p1
    refine ⟨a1.eo (e3 p), (hA p p0 p1).1, (hA p p0 p1).2, ?_⟩
    unfold JB at *
    simp only [e3 p 0 (by omega), e3 p 1 (by omega), e0]
    exact a4
theorem MPa.dq {σ μ : Mem} {p : Int} (h : MPa σ p) (e3 : ∀ k : Nat, k < 10 → ∀ i, μ 3 p k i = σ 3 p k i) (e6 : ∀ k : Nat, k < 18 → ∀ i, μ 6 0 k i = σ 6 0 k i) : MPa μ p := by
  unfold MPa at *
  simp only [e3 0 (by omega), e3 1 (by omega), e3 3 (by omega), e3 4 (by omega), e3 5 (by omega), e3 6 (by omega), e3 7 (by omega), e3 8 (by omega), e3 9 (by omega), e6 8 (by omega), e6 9 (by omega), e6 10 (by omega), e6 11 (by omega), e6 12 (by omega), e6 13 (by omega), e6 14 (by omega), e6 15 (by omega), e6 16 (by omega), e6 17 (by omega)]
  exact h
theorem MD.dq {σ μ : Mem} (h : MD σ) (hD : Dq σ μ) (e6 : ∀ k : Nat, k < 18 → ∀ i, μ 6 0 k i = σ 6 0 k i) : MD μ := by
  obtain ⟨e0, e2, e5, e3⟩ := hD
  obtain ⟨h1, h2, h3, h4, h5, h6, h7⟩ := h
  refine ⟨?_, ?_, ?_, ?_, ?_, ?_, fun p a b => (h7 p a b).dq (e3 p) e6⟩
  · rw [e6 0 (by omega), e0]; exact h1
  · simp only [e6 1 (by omega), e0]; exact h2
  · simp only [e6 2 (by omega), e6 3 (by omega), e0]; exact h3
  · simp only [e6 4 (by omega), e0]; exact h4
  · simp only [e6 5 (by omega), e6 6 (by omega), e2]; exact h5
  · rw [e6 7 (by omega), e5]; exact h6
theorem Tch_dq {σ μ : Mem} (h : Dq σ μ) : Tch μ = Tch σ := by
  unfold Tch
  rw [h.1]
  congr 1
  funext c
  rw [h.1]
theorem Bst.dq {σ μ : Mem} {s : St} (h : Bst σ s) (hD : Dq σ μ) : Bst μ s := by
  refine ⟨h.1, fun z => ?_⟩
  obtain ⟨a, b⟩ := h.2 z
  exact ⟨by rw [Tch_dq hD]; exact a, by rw [Dq_FG hD, Dq_gA hD]; exact b⟩
/-- what only asking may change -/
def Si : Nat → Int → Nat → Prop := fun c q k => (c = 3 ∧ (k = 10 ∨ (12 ≤ k ∧ k ≤ 14))) ∨ (c = 5 ∧ 6 ≤ k ∧ k ≤ 9) ∨ (c = 6 ∧ q = 0 ∧ 35 ≤ k)
theorem Dq.si {σ μ : Mem} (hE : Eo Si σ μ) : Dq σ μ := ⟨fun k i => hE 0 0 k i (by unfold Si; omega), fun k i => hE 2 0 k i (by unfold Si; omega), hE 5 0 3 0 (by unfold Si; omega), fun p k hk i => hE 3 p k i (by unfold Si; omega)⟩
theorem RC.self {σ σ' : Mem} {s : St} (h : RC σ σ' s) : RC σ' σ' s := ⟨Eo.rf, h.2⟩
theorem RM.self {σ σ' : Mem} {s : St} (h : RM σ σ' s) (hD : Dq σ σ') : RM σ' σ' s := ⟨Eo.rf, h.2.1, fun c hc => (h.2.2.1 c hc).dq hD, h.2.2.2⟩
theorem RC.si {σ0 σ σ' : Mem} {s : St} (h : RC σ0 σ s) (e1 : ∀ k i, σ' 1 0 k i = σ 1 0 k i) (e4 : ∀ k i, σ' 4 0 k i = σ 4 0 k i) (e3 : ∀ p, ∀ k : Nat, k < 10 ∨ k = 11 → ∀ i, σ' 3 p k i = σ 3 p k i) (hA : ∀ p, 0 ≤ p → p < 4 → AO σ' p) (h7 : σ' 5 0 7 0 = 0) : RC σ' σ' s := by
  obtain ⟨h1, h2, h3, h4, h5, h6, h7', h8, h9, h10, h11, h12, h13, h14⟩ := h
  refine ⟨Eo.rf, fun q a b => ⟨hA q a b, (h2 q a b).2.eo (fun i => e3 q 11 (by omega) i)⟩, h3.eo e1, h4.eo e3, by rw [e4]; exact h5, by rw [e4]; exact h6, by rw [e4]; exact h7', by rw [e4]; exact h8, fun z c a b => by rw [e4]; exact h9 z c a b, fun z c a b => by rw [e4]; exact h10 z c a b, h7, h12, h13, h14⟩
theorem RM.si {σ0 σ σ' : Mem} {s : St} (h : RM σ0 σ s) (hD : Dq σ0 σ') (e6 : ∀ k : Nat, 18 ≤ k → k < 35 → ∀ i, σ' 6 0 k i = σ 6 0 k i) : RM σ' σ' s := by
  obtain ⟨h1, h2, h3, h4, h5, h6, h7, h8, h9, h10, h11⟩ := h
  refine ⟨Eo.rf, h2.eo (fun k a b i => e6 k a (by omega) i), fun c hc => (h3 c hc).dq hD, by rw [e6 27 (by omega) (by omega)]; exact h4, by rw [e6 28 (by omega) (by omega)]; exact h5, ⟨fun z => by rw [e6 30 (by omega) (by omega)]; exact h6.1 z, fun z => ?_⟩, ⟨fun z => by rw [e6 29 (by omega) (by omega)]; exact h7.1 z, fun z => ?_⟩, h8, h9, h10, h11⟩
  · rw [e6 30 (by omega) (by omega), e6 31 (by omega) (by omega)]
    obtain ⟨a, b, c⟩ := h6.2 z
    exact ⟨a, b, fun i i0 i1 => by rw [e6 34 (by omega) (by omega)]; exact c i i0 i1⟩
  · rw [e6 29 (by omega) (by omega), e6 32 (by omega) (by omega)]
    obtain ⟨a, b, c⟩ := h7.2 z
    exact ⟨a, b, fun i i0 i1 => by rw [e6 33 (by omega) (by omega)]; exact c i i0 i1⟩
theorem Ext.dq {σ μ : Mem} {N N' : Int} {s : St} (h : Ext σ N s) (hD : Dq σ μ) (hN : N ≤ N') : Ext μ N' s := by
  obtain ⟨h1, h2, h3, h4⟩ := h
  refine ⟨fun c a b => by rw [hD.1]; exact h1 c a b, fun c a b => ?_, by omega, fun c hc => by have := h4 c hc; omega⟩
  rw [hD.1] at a
  refine ⟨by rw [hD.1]; exact (h2 c a b).1, fun v v0 v1 => by rw [hD.1]; exact (h2 c a b).2 v v0 v1⟩
theorem IS.idle {σ σ' : Mem} {N N' : Int} {s : St} (h : IS σ N s) (hE : Eo Si σ σ') (hA : ∀ p, 0 ≤ p → p < 4 → AO σ' p) (h7 : σ' 5 0 7 0 = 0) (hN : N ≤ N') : IS σ' N' s := by
  obtain ⟨a1, a2, a3, a4, a5, a6, a7⟩ := h
  have hD := Dq.si hE
  refine ⟨a1.dq hD (fun p p0 p1 => ⟨hA p p0 p1, (a1.2.2.2 p p0 p1).2.2.1.eo (fun i => hE 3 p 11 i (by unfold Si; omega))⟩), a2.dq hD, a3.dq hD (fun k hk i => hE 6 0 k i (by unfold Si; omega)), a4.si (fun k i => hE 1 0 k i (by unfold Si; omega)) (fun k i => hE 4 0 k i (by unfold Si; omega)) (fun p k hk i => hE 3 p k i (by unfold Si; omega)) hA h7, a5.si hD (fun k a b i => hE 6 0 k i (by unfold Si; omega)), a6.dq hD, a7.dq hD hN⟩
theorem IS.more {σ : Mem} {N N' : Int} {s : St} (h : IS σ N s) (hN : N ≤ N') : IS σ N' s := ⟨h.1, h.2.1, h.2.2.1, h.2.2.2.1, h.2.2.2.2.1, h.2.2.2.2.2.1, h.2.2.2.2.2.2.dq ⟨fun _ _ => rfl, fun _ _ => rfl, rfl, fun _ _ _ _ => rfl⟩ hN⟩
theorem IS.ao {σ : Mem} {N : Int} {s : St} (h : IS σ N s) : ∀ p, 0 ≤ p → p < 4 → AO σ p := fun p a b => (h.1.2.2.2 p a b).2.1
theorem IS.z7 {σ : Mem} {N : Int} {s : St} (h : IS σ N s) : σ 5 0 7 0 = 0 := h.2.2.2.1.2.2.2.2.2.2.2.2.2.2.1
/-! ===== what is known ===== -/
theorem w_Ch_knows {σ : Mem} {c : Int} {Q : Int → Mem → Prop} (hv : InR c) (hC : ChB σ) (hQ1 : 0 ≤ c → c < σ 0 0 0 0 → Q 1 σ) (hQ0 : ¬ (0 ≤ c ∧ c < σ 0 0 0 0) → Q 0 σ) : Ch_knows c σ Q := by
  have := hC.1
  unfold Ch_knows Ch_knows_16 Ch_knows_17
  exact ⟨hv, fun z => ⟨Or.inl rfl, hQ0 (by omega)⟩, fun z => ⟨hv, ⟨by omega, by omega⟩, fun y => ⟨Or.inl rfl, hQ0 (by omega)⟩, fun y => ⟨Or.inr rfl, hQ1 z y⟩⟩⟩
theorem w_Ch_knowsValue {σ : Mem} {c v : Int} {Q : Int → Mem → Prop} (hc : InR c) (hv : InR v) (hC : ChB σ) (hQ1 : 0 ≤ c → c < σ 0 0 0 0 → 0 ≤ v → v < σ 0 0 1 c → Q 1 σ) (hQ0 : ¬ (0 ≤ c ∧ c < σ 0 0 0 0 ∧ 0 ≤ v ∧ v < σ 0 0 1 c) → Q 0 σ) : Ch_knowsValue c v σ Q := by
  have h6 := hC.1
  unfold Ch_knowsValue Ch_knowsValue_26 Ch_knowsValue_27
  refine w_Ch_knows hc hC (fun a b => ⟨⟨by omega, by omega⟩, fun z => absurd z (by omega), fun _ => ⟨hv, fun z => ⟨Or.inl rfl, hQ0 (by omega)⟩, fun z => ⟨by omega, by omega, hv, ?_, fun y => ⟨Or.inl rfl, hQ0 (by omega)⟩, fun y => ⟨Or.inr rfl, hQ1 a b z y⟩⟩⟩⟩) (fun z => ⟨⟨by omega, by omega⟩, fun _ => ⟨Or.inl rfl, hQ0 (by omega)⟩, fun y => absurd rfl y⟩)
  have := hC.2.1 c a b
  exact ⟨by omega, by omega⟩
theorem w_Fu_knows {σ : Mem} {f : Int} {Q : Int → Mem → Prop} (hv : InR f) (hF : FuB σ) (hQ1 : 0 ≤ f → f < σ 2 0 0 0 → Q 1 σ) (hQ0 : ¬ (0 ≤ f ∧ f < σ 2 0 0 0) → Q 0 σ) : Fu_knows f σ Q := by
  have := hF.1
  unfold Fu_knows Fu_knows_16 Fu_knows_17
  exact ⟨hv, fun z => ⟨Or.inl rfl, hQ0 (by omega)⟩, fun z => ⟨hv, ⟨by omega, by omega⟩, fun y => ⟨Or.inl rfl, hQ0 (by omega)⟩, fun y => ⟨Or.inr rfl, hQ1 z y⟩⟩⟩
theorem w_Sr_knowsPart {σ : Mem} {p : Int} {Q : Int → Mem → Prop} (hv : InR p) (hP : 0 ≤ σ 5 0 3 0 ∧ σ 5 0 3 0 ≤ 4) (hQ1 : 0 ≤ p → p < σ 5 0 3 0 → Q 1 σ) (hQ0 : ¬ (0 ≤ p ∧ p < σ 5 0 3 0) → Q 0 σ) : Sr_knowsPart p σ Q := by
  unfold Sr_knowsPart Sr_knowsPart_16 Sr_knowsPart_17
  exact ⟨hv, fun z => ⟨Or.inl rfl, hQ0 (by omega)⟩, fun z => ⟨hv, ⟨by omega, by omega⟩, fun y => ⟨Or.inl rfl, hQ0 (by omega)⟩, fun y => ⟨Or.inr rfl, hQ1 z y⟩⟩⟩
theorem w_Pa_knowsLocal {σ : Mem} {p i : Int} {Q : Int → Mem → Prop} (hv : InR i) (hb : PB σ p) (hQ1 : 0 ≤ i → i < σ 3 p 3 0 → Q 1 σ) (hQ0 : ¬ (0 ≤ i ∧ i < σ 3 p 3 0) → Q 0 σ) : Pa_knowsLocal p i σ Q := by
  have := hb.2.1
  unfold Pa_knowsLocal Pa_knowsLocal_16 Pa_knowsLocal_17
  exact ⟨hv, fun z => ⟨Or.inl rfl, hQ0 (by omega)⟩, fun z => ⟨hv, ⟨by omega, by omega⟩, fun y => ⟨Or.inl rfl, hQ0 (by omega)⟩, fun y => ⟨Or.inr rfl, hQ1 z y⟩⟩⟩
theorem w_Cu_knows {σ : Mem} {k : Int} {L : List CutT} {Q : Int → Mem → Prop} (hv : InR k) (hL : RepC σ L) (hQ1 : 0 ≤ k → k < L.length → Q 1 σ) (hQ0 : ¬ (0 ≤ k ∧ k < L.length) → Q 0 σ) : Cu_knows k σ Q := by
  have h1 := hL.1
  have h2 := hL.2.1
  unfold Cu_knows Cu_knows_16 Cu_knows_17
  rw [h1]
  exact ⟨hv, fun z => ⟨Or.inl rfl, hQ0 (by omega)⟩, fun z => ⟨hv, ⟨by omega, by omega⟩, fun y => ⟨Or.inl rfl, hQ0 (by omega)⟩, fun y => ⟨Or.inr rfl, hQ1 z y⟩⟩⟩
theorem w_Sr_isWeight {σ : Mem} {v : Int} {Q : Int → Mem → Prop} (hv : InR v) (hQ1 : 1 ≤ v → v ≤ 20 → Q 1 σ) (hQ0 : ¬ (1 ≤ v ∧ v ≤ 20) → Q 0 σ) : Sr_isWeight v σ Q := by
  unfold Sr_isWeight Sr_isWeight_15 Sr_isWeight_16
  exact ⟨hv, fun z => ⟨Or.inl rfl, hQ0 (by omega)⟩, fun z => ⟨hv, fun y => ⟨Or.inl rfl, hQ0 (by omega)⟩, fun y => ⟨Or.inr rfl, hQ1 z y⟩⟩⟩
theorem w_Sr_isWithin {σ : Mem} {v w : Int} {Q : Int → Mem → Prop} (hv : InR v) (hw : 0 ≤ w ∧ w ≤ 100) (hQ1 : -w ≤ v → v ≤ w → Q 1 σ) (hQ0 : ¬ (-w ≤ v ∧ v ≤ w) → Q 0 σ) : Sr_isWithin v w σ Q := by
  unfold Sr_isWithin Sr_isWithin_15 Sr_isWithin_16
  exact ⟨hv, ⟨by omega, by omega⟩, fun z => ⟨Or.inl rfl, hQ0 (by omega)⟩, fun z => ⟨hv, ⟨by omega, by omega⟩, fun y => ⟨Or.inl rfl, hQ0 (by omega)⟩, fun y => ⟨Or.inr rfl, hQ1 z y⟩⟩⟩
theorem w_Sr_knowsRow {σ : Mem} {p r : Int} {Q : Int → Mem → Prop} (hp : InR p) (hr' : InR r) (h : CW σ) (hQ1 : 0 ≤ p → p < σ 5 0 3 0 → 0 ≤ r → r < σ 3 p 6 0 → Q 1 σ) (hQ0 : ¬ (0 ≤ p ∧ p < σ 5 0 3 0 ∧ 0 ≤ r ∧ r < σ 3 p 6 0) → Q 0 σ) : Sr_knowsRow p r σ Q := by
  have hP := h.2.2.1
  unfold Sr_knowsRow Sr_knowsRow_29 Sr_knowsRow_30
  refine w_Sr_knowsPart hp hP (fun a b => ⟨⟨by omega, by omega⟩, fun z => absurd z (by omega), fun _ => ⟨hr', fun z => ⟨Or.inl rfl, hQ0 (by omega)⟩, fun z => ⟨by omega, by omega, hr', ?_, fun y => ⟨Or.inl rfl, hQ0 (by omega)⟩, fun y => ⟨Or.inr rfl, hQ1 a b z y⟩⟩⟩⟩) (fun z => ⟨⟨by omega, by omega⟩, fun _ => ⟨Or.inl rfl, hQ0 (by omega)⟩, fun y => absurd rfl y⟩)
  have := (h.2.2.2 p a (by omega)).1.2.2.1
  exact ⟨by omega, by omega⟩
theorem w_Pa_isJoinedTo {σ : Mem} {p c : Int} {Q : Int → Mem → Prop} (hc : InR c) (hb : PB σ p) (hQ1 : (∃ j, 0 ≤ j ∧ j < σ 3 p 0 0 ∧ σ 3 p 1 j = c) → Q 1 σ) (hQ0 : (∀ j, 0 ≤ j → j < σ 3 p 0 0 → σ 3 p 1 j ≠ c) → Q 0 σ) : Pa_isJoinedTo p c σ Q := by
  have hj := hb.1
  have key : ∀ (k : Nat) (i : Int), i + k = σ 3 p 0 0 → 0 ≤ i → (∀ j, 0 ≤ j → j < i → σ 3 p 1 j ≠ c) → Pa_isJoinedTo_2 Q (k + 1) p c i σ := by
    intro k
    induction k with
    | zero =>
      intro i h1 h2 hn
      unfold Pa_isJoinedTo_2
      exact ⟨⟨by omega, by omega⟩, ⟨by omega, by omega⟩, fun _ => hQ0 (fun j a b => hn j a (by omega)), fun z => absurd z (by omega)⟩
    | succ k ih =>
      intro i h1 h2 hn
      have b1 := (hb.2.2.2.1 i h2 (by omega)).1
      unfold Pa_isJoinedTo_2
      refine ⟨⟨by omega, by omega⟩, ⟨by omega, by omega⟩, fun z => absurd z (by omega), fun _ => ⟨by omega, by omega, ⟨by omega, by omega⟩, hc, fun y x6 e6 => ih x6 (by omega) (by omega) (fun j a b => ?_), fun y => hQ1 ⟨i, h2, by omega, y⟩⟩⟩
      by_cases q : j = i
      · subst q; exact y
      · exact hn j a (by omega)
  exact ⟨_, key (σ 3 p 0 0).toNat 0 (by omega) (by omega) (fun j a b => absurd b (by omega))⟩
theorem w_Mo_noFuture {σ : Mem} {f n : Int} {Q : Int → Mem → Prop} (hv : InR f) (e : σ 6 0 5 0 = n) (hn : 1 ≤ n ∧ n ≤ 4) (hQ1 : ¬ (0 ≤ f ∧ f < n) → Q 1 σ) (hQ0 : 0 ≤ f → f < n → Q 0 σ) : Mo_noFuture f σ Q := by
  unfold Mo_noFuture
  rw [e]
  exact w_Mo_beyond hv ⟨by omega, by omega⟩ ⟨by omega, by omega⟩ (fun z => ⟨Or.inr rfl, hQ1 (by omega)⟩) (fun a b => ⟨Or.inl rfl, hQ0 a (by omega)⟩)
theorem w_Mo_noPart {σ : Mem} {p n : Int} {Q : Int → Mem → Prop} (hv : InR p) (e : σ 6 0 7 0 = n) (hn : 0 ≤ n ∧ n ≤ 4) (hQ1 : ¬ (0 ≤ p ∧ p < n) → Q 1 σ) (hQ0 : 0 ≤ p → p < n → Q 0 σ) : Mo_noPart p σ Q := by
  unfold Mo_noPart
  rw [e]
  exact w_Mo_beyond hv ⟨by omega, by omega⟩ ⟨by omega, by omega⟩ (fun z => ⟨Or.inr rfl, hQ1 (by omega)⟩) (fun a b => ⟨Or.inl rfl, hQ0 a (by omega)⟩)
theorem w_Mo_noValue {σ : Mem} {c v n : Int} {z : Int → Int} {Q : Int → Mem → Prop} (hc : InR c) (hv : InR v) (e0 : σ 6 0 0 0 = n) (e1 : ∀ c, 0 ≤ c → c < n → σ 6 0 1 c = z c) (hn : 0 ≤ n ∧ n ≤ 6) (hz : ∀ c, 0 ≤ c → c < n → 2 ≤ z c ∧ z c ≤ 4) (hQ1 : ¬ (0 ≤ c ∧ c < n ∧ 0 ≤ v ∧ v < z c) → Q 1 σ) (hQ0 : 0 ≤ c → c < n → 0 ≤ v → v < z c → Q 0 σ) : Mo_noValue c v σ Q := by
  unfold Mo_noValue Mo_noValue_30 Mo_noValue_35
  rw [e0]
  refine w_Mo_beyond hc ⟨by omega, by omega⟩ ⟨by omega, by omega⟩ (fun y => ⟨⟨by omega, by omega⟩, fun _ => ⟨Or.inr rfl, hQ1 (by omega)⟩, fun y' => absurd y' (by omega)⟩) (fun a b => ⟨⟨by omega, by omega⟩, fun y => absurd rfl y, fun _ => ⟨by omega, by omega, ?_⟩⟩)
  have b1 := hz c a (by omega)
  rw [e1 c a (by omega)]
  exact w_Mo_beyond hv ⟨by omega, by omega⟩ ⟨by omega, by omega⟩ (fun y => ⟨⟨by omega, by omega⟩, fun y' => absurd y' (by omega), fun _ => ⟨Or.inr rfl, hQ1 (by omega)⟩⟩) (fun a' b' => ⟨⟨by omega, by omega⟩, fun _ => ⟨Or.inl rfl, hQ0 a (by omega) a' (by omega)⟩, fun y => absurd rfl y⟩)
theorem w_Mo_noRow {σ : Mem} {p r n : Int} {z : Int → Int} {Q : Int → Mem → Prop} (hp : InR p) (hr' : InR r) (e0 : σ 6 0 7 0 = n) (e1 : ∀ p, 0 ≤ p → p < n → σ 6 0 13 p = z p) (hn : 0 ≤ n ∧ n ≤ 4) (hz : ∀ p, 0 ≤ p → p < n → 0 ≤ z p ∧ z p ≤ 6) (hQ1 : ¬ (0 ≤ p ∧ p < n ∧ 0 ≤ r ∧ r < z p) → Q 1 σ) (hQ0 : 0 ≤ p → p < n → 0 ≤ r → r < z p → Q 0 σ) : Mo_noRow p r σ Q := by
  unfold Mo_noRow Mo_noRow_24 Mo_noRow_29
  refine w_Mo_noPart hp e0 hn (fun y => ⟨⟨by omega, by omega⟩, fun _ => ⟨Or.inr rfl, hQ1 (by omega)⟩, fun y' => absurd y' (by omega)⟩) (fun a b => ⟨⟨by omega, by omega⟩, fun y => absurd rfl y, fun _ => ⟨by omega, by omega, ?_⟩⟩)
  have b1 := hz p a (by omega)
  rw [e1 p a (by omega)]
  exact w_Mo_beyond hr' ⟨by omega, by omega⟩ ⟨by omega, by omega⟩ (fun y => ⟨⟨by omega, by omega⟩, fun y' => absurd y' (by omega), fun _ => ⟨Or.inr rfl, hQ1 (by omega)⟩⟩) (fun a' b' => ⟨⟨by omega, by omega⟩, fun _ => ⟨Or.inl rfl, hQ0 a (by omega) a' (by omega)⟩, fun y => absurd rfl y⟩)

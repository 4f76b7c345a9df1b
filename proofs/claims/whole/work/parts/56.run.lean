/-! ===== the class: run ===== -/
/-- what a run may change -/
def Sr_ : Nat → Int → Nat → Prop := fun c q k => (c = 3 ∧ 10 ≤ k) ∨ (c = 1 ∧ q = 0) ∨ (c = 4 ∧ q = 0) ∨ (c = 5 ∧ 6 ≤ k ∧ k ≤ 9)
theorem Sh_Sr {c : Nat} {q : Int} {k : Nat} (h : Sh c q k) : Sr_ c q k := by
  unfold Sh at h
  unfold Sr_
  omega
theorem Ss_Sr {c : Nat} {q : Int} {k : Nat} (h : Ss c q k) : Sr_ c q k := by
  unfold Ss at h
  unfold Sr_
  omega
def okN (x : Int) : Prop := x = -4 ∨ (0 ≤ x ∧ x ≤ 2100000)
/-- the class stands at s, its data as in σ0 -/
def RC (σ0 σ : Mem) (s : St) : Prop := Eo Sr_ σ0 σ ∧ (∀ q, 0 ≤ q → q < 4 → AO σ q ∧ FO σ q) ∧ RepC σ s.1 ∧ FlO σ s.1 ∧ σ 4 0 0 0 = s.2.1 ∧ σ 4 0 1 0 = s.2.2.1 ∧ σ 4 0 2 0 = s.2.2.2.1 ∧ σ 4 0 3 0 = s.2.2.2.2.1 ∧ (s.2.2.2.1 ≠ -4 → ∀ c, 0 ≤ c → c < 6 → σ 4 0 4 c = s.2.2.2.2.2.1 c) ∧ (s.2.2.2.2.1 ≠ -4 → ∀ c, 0 ≤ c → c < 6 → σ 4 0 5 c = s.2.2.2.2.2.2 c) ∧ σ 5 0 7 0 = 0 ∧ okN s.2.2.2.1 ∧ okN s.2.2.2.2.1 ∧ (0 ≤ s.2.2.1 ∧ s.2.2.1 ≤ 2)
theorem CW.eo3 {σ σ' : Mem} (h : CW σ) (hE : Eo Sr_ σ σ') (hA : ∀ p, 0 ≤ p → p < 4 → AO σ' p ∧ FO σ' p) : CW σ' := by
  obtain ⟨h1, h2, h3, h4⟩ := h
  have e0 : ∀ k i, σ' 0 0 k i = σ 0 0 k i := fun k i => hE 0 0 k i (by unfold Sr_; omega)
  have e2 : ∀ k i, σ' 2 0 k i = σ 2 0 k i := fun k i => hE 2 0 k i (by unfold Sr_; omega)
  have e5 : σ' 5 0 3 0 = σ 5 0 3 0 := hE 5 0 3 0 (by unfold Sr_; omega)
  refine ⟨?_, ?_, by rw [e5]; exact h3, fun p p0 p1 => ?_⟩
  · unfold ChB at *
    simp only [e0]
    exact h1
  · unfold FuB at *
    simp only [e2]
    exact h2
  · obtain ⟨a1, a2, a3, a4⟩ := h4 p p0 p1
    have e3 : ∀ k : Nat, k < 10 → ∀ i, σ' 3 p k i = σ 3 p k i := fun k hk i => hE 3 p k i (by unfold Sr_; omega)
    refine ⟨a1.eo e3, (hA p p0 p1).1, (hA p p0 p1).2, ?_⟩
    unfold JB at *
    simp only [e3 0 (by omega), e3 1 (by omega), e0]
    exact a4
/-- data that all is told by: equal where a run changed nothing else -/
def Dq (σ μ : Mem) : Prop := (∀ k i, μ 0 0 k i = σ 0 0 k i) ∧ (∀ k i, μ 2 0 k i = σ 2 0 k i) ∧ μ 5 0 3 0 = σ 5 0 3 0 ∧ ∀ p, ∀ k : Nat, k < 10 → ∀ i, μ 3 p k i = σ 3 p k i
theorem Dq.of {σ μ : Mem} (hE : Eo Sr_ σ μ) : Dq σ μ := ⟨fun k i => hE 0 0 k i (by unfold Sr_; omega), fun k i => hE 2 0 k i (by unfold Sr_; omega), hE 5 0 3 0 (by unfold Sr_; omega), fun p k hk i => hE 3 p k i (by unfold Sr_; omega)⟩
theorem Dq_gA {σ μ : Mem} (h : Dq σ μ) : gA μ = gA σ := by
  funext p d f
  exact gA_same (h.2.2.2 p)
theorem Dq_gL {σ μ : Mem} (h : Dq σ μ) (L : List CutT) : gL μ L = gL σ L := by
  funext p d f
  unfold gL
  have e1 : μ 3 p 1 = σ 3 p 1 := funext (h.2.2.2 p 1 (by omega))
  rw [h.2.2.2 p 0 (by omega), e1]
theorem Dq_V {σ μ : Mem} (h : Dq σ μ) : VPl μ = VPl σ := by
  funext t
  have e : Tch μ = Tch σ := by
    unfold Tch
    rw [h.1]
    congr 1
    funext c
    rw [h.1]
  unfold VPl
  rw [e]
theorem Dq_FG {σ μ : Mem} (h : Dq σ μ) (g : Int → (Int → Int) → Int → Int) (d : Int → Int) : FG μ g d ↔ FG σ g d := by
  unfold FG
  simp only [h.1, h.2.1, h.2.2.1]
theorem Dq_CG {σ μ : Mem} (h : Dq σ μ) (g : Int → (Int → Int) → Int → Int) (d : Int → Int) : CG μ g d = CG σ g d := by
  unfold CG
  have ew : μ 2 0 1 = σ 2 0 1 := funext (h.2.1 1)
  simp only [h.1, h.2.1, h.2.2.1, ew]
theorem gA_d {σ : Mem} {p f : Int} {d d' : Int → Int} (hb : PB σ p) (h : ∀ c, 0 ≤ c → c < 6 → d c = d' c) : gA σ p d f = gA σ p d' f := by
  unfold gA
  rw [spt_congr (d := fun j => d (σ 3 p 1 j)) (d' := fun j => d' (σ 3 p 1 j)) (fun j a b => h _ (hb.2.2.2.1 j a b).1.1 (hb.2.2.2.1 j a b).1.2)]
theorem gL_d {σ : Mem} {L : List CutT} {p f : Int} {d d' : Int → Int} (hb : PB σ p) (h : ∀ c, 0 ≤ c → c < 6 → d c = d' c) : gL σ L p d f = gL σ L p d' f := by
  unfold gL
  rw [spt_congr (d := fun j => d (σ 3 p 1 j)) (d' := fun j => d' (σ 3 p 1 j)) (fun j a b => h _ (hb.2.2.2.1 j a b).1.1 (hb.2.2.2.1 j a b).1.2)]
theorem coC_d {σ : Mem} {L : List CutT} {p f r : Int} {d d' : Int → Int} (hb : PB σ p) (h : ∀ c, 0 ≤ c → c < 6 → d c = d' c) : coC σ L d r p f = coC σ L d' r p f := by
  unfold coC cutOf
  rw [gA_d hb h, gL_d hb h, spt_congr (d := fun j => d (σ 3 p 1 j)) (d' := fun j => d' (σ 3 p 1 j)) (fun j a b => h _ (hb.2.2.2.1 j a b).1.1 (hb.2.2.2.1 j a b).1.2)]
theorem Dq_coC {σ μ : Mem} (h : Dq σ μ) (L : List CutT) (d : Int → Int) (r p f : Int) : coC μ L d r p f = coC σ L d r p f := by
  have e1 : μ 3 p 1 = σ 3 p 1 := funext (h.2.2.2 p 1 (by omega))
  have e2 : μ 3 p 2 = σ 3 p 2 := funext (h.2.2.2 p 2 (by omega))
  have ea : (fun sp => AnC μ p sp f) = (fun sp => AnC σ p sp f) := funext (fun sp => AnC_congr (h.2.2.2 p))
  unfold coC cutOf
  rw [Dq_gA h, Dq_gL h, h.2.2.2 p 0 (by omega), e1, e2, ea]
theorem CG_d {σ : Mem} {g : Int → (Int → Int) → Int → Int} {d d' : Int → Int} (hc : σ 0 0 0 0 ≤ 6) (h : ∀ c, 0 ≤ c → c < 6 → d c = d' c) (hg : ∀ p, 0 ≤ p → p < σ 5 0 3 0 → ∀ f, g p d f = g p d' f) : CG σ g d = CG σ g d' := by
  unfold CG
  congr 1
  · congr 1
    refine sm_congr (fun c a b => ?_)
    rw [h c a (by omega)]
  · refine sm_congr (fun p a b => sm_congr (fun f _ _ => ?_))
    rw [hg p a (by omega) f]
theorem CG_bd {σ : Mem} {g : Int → (Int → Int) → Int → Int} {d : Int → Int} (h : CW σ) (hd : ∀ c, 0 ≤ c → c < 6 → 0 ≤ d c ∧ d c < 4) (hF : FG σ g d) (hg : ∀ p, 0 ≤ p → p < 4 → ∀ f, 0 ≤ f → f < 4 → g p d f = -4 ∨ (0 ≤ g p d f ∧ g p d f ≤ 600)) : 0 ≤ CG σ g d ∧ CG σ g d ≤ 2100000 := by
  have hW := sumW_bd h.2.1
  have hc := h.1.1
  have hP := h.2.2.1
  have hf := h.2.1
  have hf1 := hf.1
  have a := sm_bd (f := fun c => σ 0 0 2 (c * 4 + d c)) (lo := 0) (hi := 200) (n := (σ 0 0 0 0).toNat) (fun c c0 c1 => by
    have q := hd c c0 (by omega)
    have p := h.1.2.2 (c * 4 + d c) (by omega) (by omega)
    have := hF.1 c c0 (by omega)
    omega)
  have b := sm_bd (f := fun p => sm (σ 2 0 0 0).toNat (fun f => σ 2 0 1 f * g p d f)) (lo := 0) (hi := 48000) (n := (σ 5 0 3 0).toNat) (fun p p0 p1 => by
    have := sm_bd (f := fun f => σ 2 0 1 f * g p d f) (lo := 0) (hi := 12000) (n := (σ 2 0 0 0).toNat) (fun f f0 f1 => by
      have b1 := hf.2 f f0 (by omega)
      have b2 := hg p p0 (by omega) f f0 (by omega)
      have b3 := hF.2 p p0 (by omega) f f0 (by omega)
      exact mul_bd (A := 20) (B := 600) (by omega) (by omega) (by omega) (by omega))
    omega)
  have c := mul_bd (a := sm (σ 0 0 0 0).toNat (fun c => σ 0 0 2 (c * 4 + d c))) (b := sm (σ 2 0 0 0).toNat (σ 2 0 1)) (A := 1200) (B := 80) (by omega) (by omega) (by omega) (by omega)
  unfold CG
  omega
theorem possA_d {σ : Mem} {d d' : Int → Int} (h : CW σ) (he : ∀ c, 0 ≤ c → c < 6 → d c = d' c) : possA σ d ↔ possA σ d' := by
  have hP := h.2.2.1
  constructor
  · intro z p a b f c e
    rw [← gA_d (h.2.2.2 p a (by omega)).1 he]
    exact z p a b f c e
  · intro z p a b f c e
    rw [gA_d (h.2.2.2 p a (by omega)).1 he]
    exact z p a b f c e
theorem RC.rounds {σ0 μ : Mem} {s : St} (h : RC σ0 μ s) (x : Int) : RC σ0 (up μ 4 0 0 0 x) (s.1, x, s.2.2) := by
  obtain ⟨h1, h2, h3, h4, h5, h6, h7, h8, h9, h10, h11, h12, h13, h14⟩ := h
  have q : ∀ c p k i, ¬ (c = 4 ∧ p = 0 ∧ k = 0 ∧ i = 0) → up μ 4 0 0 0 x c p k i = μ c p k i := fun c p k i z => up_ne z
  refine ⟨h1.tr (Eo.of_up (Or.inr (Or.inr (Or.inl ⟨rfl, rfl⟩)))), fun p p0 p1 => ⟨(h2 p p0 p1).1.eo (fun k hk i => q _ _ _ _ (by omega)), fun i i0 i1 => by rw [q _ _ _ _ (by omega)]; exact (h2 p p0 p1).2 i i0 i1⟩, ?_, ?_, up_at, by rw [q _ _ _ _ (by omega)]; exact h6, by rw [q _ _ _ _ (by omega)]; exact h7, by rw [q _ _ _ _ (by omega)]; exact h8, fun z c c0 c1 => by rw [q _ _ _ _ (by omega)]; exact h9 z c c0 c1, fun z c c0 c1 => by rw [q _ _ _ _ (by omega)]; exact h10 z c c0 c1, by rw [q _ _ _ _ (by omega)]; exact h11, h12, h13, h14⟩
  · obtain ⟨l1, l2, l3, l4⟩ := h3
    exact ⟨by rw [q _ _ _ _ (by omega)]; exact l1, l2, l3, fun k c hc => (l4 k c hc).eo (l3 c (List.mem_of_getElem? hc)) (fun m _ _ => q _ _ _ _ (by omega)) (fun i _ _ => q _ _ _ _ (by omega))⟩
  · intro p f sp p0 p1 f0 f1 hv
    have e : ∀ k i, up μ 4 0 0 0 x 3 p k i = μ 3 p k i := fun k i => q _ _ _ _ (by omega)
    have e1 : up μ 4 0 0 0 x 3 p 1 = μ 3 p 1 := funext (e 1)
    have e2 : up μ 4 0 0 0 x 3 p 2 = μ 3 p 2 := funext (e 2)
    rw [e, e2] at hv
    rw [e, e, e1]
    exact h4 p f sp p0 p1 f0 f1 hv
/-- fields of the class's cuts and parts stay: so do the words on them -/
theorem RepC.eo {σ σ' : Mem} {L : List CutT} (h : RepC σ L) (he : ∀ k i, σ' 1 0 k i = σ 1 0 k i) : RepC σ' L := by
  obtain ⟨l1, l2, l3, l4⟩ := h
  exact ⟨by rw [he]; exact l1, l2, l3, fun k c hc => (l4 k c hc).eo (l3 c (List.mem_of_getElem? hc)) (fun m _ _ => he m _) (fun i _ _ => he 6 i)⟩
theorem FlO.eo {σ σ' : Mem} {L : List CutT} (h : FlO σ L) (he : ∀ p, ∀ k : Nat, k < 10 ∨ k = 11 → ∀ i, σ' 3 p k i = σ 3 p k i) : FlO σ' L := by
  intro p f sp p0 p1 f0 f1 hv
  have e1 : σ' 3 p 1 = σ 3 p 1 := funext (he p 1 (by omega))
  have e2 : σ' 3 p 2 = σ 3 p 2 := funext (he p 2 (by omega))
  rw [he p 0 (by omega), e2] at hv
  rw [he p 11 (by omega), he p 0 (by omega), e1]
  exact h p f sp p0 p1 f0 f1 hv
theorem FO.eo {σ σ' : Mem} {p : Int} (h : FO σ p) (he : ∀ i, σ' 3 p 11 i = σ 3 p 11 i) : FO σ' p := by
  intro i i0 i1
  rw [he]
  exact h i i0 i1
theorem JS.dq {σ μ : Mem} (h : JS σ) (hE : Dq σ μ) : JS μ := by
  intro p p0 p1 j a b
  have e := hE.2.2.2 p
  rw [e 0 (by omega)] at b
  rw [e 2 (by omega), e 1 (by omega), hE.1]
  exact h p p0 p1 j a b
/-- the search by cuts, in the words of the list -/
theorem srch_cuts {σ μ : Mem} {L : List CutT} {x b : Int} (h : CW μ) (hJ : JS μ) (hF : FlO μ L) (hD : Dq σ μ) (hS : Srch (VPl μ) (FPl μ 1) (CPl μ 1) 4096 x b) : Srch (VPl σ) (FGt σ (gL σ L)) (CGt σ (gL σ L)) 4096 x b := by
  have hP := h.2.2.1
  have hf := h.2.1.1
  have eg : ∀ t, VPl μ t → ∀ p, 0 ≤ p → p < μ 5 0 3 0 → ∀ f, 0 ≤ f → f < μ 2 0 0 0 → gC μ 1 p (pD t) f = gL μ L p (pD t) f := by
    intro t hV p p0 p1 f f0 f1
    have hv := dval (d := pD t) h p0 (by omega) (fun c c0 c1 => ⟨(pD_bd hV.1.1 hV.1.2 c).1, hV.2 c c0 c1⟩) (hJ p p0 (by omega))
    unfold gC gL
    rw [if_neg (by omega)]
    exact hF p f _ p0 (by omega) f0 (by omega) hv
  refine Srch.congr2 (fun t => by rw [Dq_V hD]) (fun t hV => ?_) (fun t hV hFt => ?_) hS
  · have hd := VPl_d h.1 hV
    unfold FPl FGt
    rw [(stage_plan (by_ := 1) h hd).1, FG_congr (eg t hV), Dq_gL hD, Dq_FG hD]
  · have hd := VPl_d h.1 hV
    have hFG := (stage_plan (by_ := 1) h hd).1.mp hFt
    unfold CPl CGt
    rw [(stage_plan (by_ := 1) h hd).2 hFG, CG_congr (eg t hV), Dq_gL hD, Dq_CG hD]

/-! ===== the class: a round's cuts ===== -/
def JS (σ : Mem) : Prop := ∀ p, 0 ≤ p → p < 4 → ∀ j, 0 ≤ j → j < σ 3 p 0 0 → σ 3 p 2 j = σ 0 0 1 (σ 3 p 1 j)
def push (L : List CutT) (o : Option CutT) : List CutT := match o with
  | none => L
  | some c => if L.length < 200 then L ++ [c] else L
def addF (co : Int → Option CutT) : Nat → List CutT → List CutT
  | 0, L => L
  | n + 1, L => push (addF co n L) (co (n : Int))
def addP (co : Int → Int → Option CutT) (nF : Nat) : Nat → List CutT → List CutT
  | 0, L => L
  | n + 1, L => addF (co (n : Int)) nF (addP co nF n L)
noncomputable def cutOf (σ : Mem) (d : Int → Int) (r p f : Int) : CutT := (p, f, gA σ p d f, r, rsl (σ 3 p 1) (hr (σ 3 p 0 0) (σ 3 p 2) (fun sp => AnC σ p sp f) (gA σ p d f) (dS (spt (σ 3 p 0 0) (fun j => d (σ 3 p 1 j)))) (σ 3 p 0 0).toNat) (σ 3 p 0 0).toNat)
noncomputable def coC (σ : Mem) (L0 : List CutT) (d : Int → Int) (r p f : Int) : Option CutT := if gA σ p d f = -4 ∨ gL σ L0 p d f < gA σ p d f then some (cutOf σ d r p f) else none
/-- fields that hearing the parts may change -/
def Sh : Nat → Int → Nat → Prop := fun c q k => (c = 3 ∧ 10 ≤ k ∧ k ≤ 15) ∨ (c = 1 ∧ q = 0)
theorem CW.eo2 {σ σ' : Mem} (h : CW σ) (hE : Eo Sh σ σ') (hA : ∀ p, 0 ≤ p → p < 4 → AO σ' p ∧ FO σ' p) : CW σ' := by
  obtain ⟨h1, h2, h3, h4⟩ := h
  have e0 : ∀ k i, σ' 0 0 k i = σ 0 0 k i := fun k i => hE 0 0 k i (by unfold Sh; omega)
  have e2 : ∀ k i, σ' 2 0 k i = σ 2 0 k i := fun k i => hE 2 0 k i (by unfold Sh; omega)
  have e5 : σ' 5 0 3 0 = σ 5 0 3 0 := hE 5 0 3 0 (by unfold Sh; omega)
  refine ⟨?_, ?_, by rw [e5]; exact h3, fun p p0 p1 => ?_⟩
  · unfold ChB at *
    simp only [e0]
    exact h1
  · unfold FuB at *
    simp only [e2]
    exact h2
  · obtain ⟨a1, a2, a3, a4⟩ := h4 p p0 p1
    have e3 : ∀ k : Nat, k < 10 → ∀ i, σ' 3 p k i = σ 3 p k i := fun k hk i => hE 3 p k i (by unfold Sh; omega)
    refine ⟨a1.eo e3, (hA p p0 p1).1, (hA p p0 p1).2, ?_⟩
    unfold JB at *
    simp only [e3 0 (by omega), e3 1 (by omega), e0]
    exact a4
theorem gA_same {σ σ' : Mem} {p f : Int} {d : Int → Int} (e3 : ∀ k : Nat, k < 10 → ∀ i, σ' 3 p k i = σ 3 p k i) : gA σ' p d f = gA σ p d f := by
  unfold gA
  rw [AnC_congr e3]
  simp only [e3 0 (by omega), e3 1 (by omega)]
theorem comb_bd {a n : Int} (ha : a = -4 ∨ (0 ≤ a ∧ a ≤ 600)) (hn : n = -4 ∨ (0 ≤ n ∧ n ≤ 600)) : comb a n = -4 ∨ (0 ≤ comb a n ∧ comb a n ≤ 600) := by
  unfold comb
  split
  · exact Or.inl rfl
  · split
    · exact Or.inl rfl
    · split <;> omega
theorem w_costOfValues {σ : Mem} {vc vk : Nat} {vp : Int} {Q : Int → Mem → Prop} (h : CW σ) (hv : ∀ c, 0 ≤ c → c < 6 → 0 ≤ σ vc vp vk c ∧ σ vc vp vk c < 4) (hQ : Q (sm (σ 0 0 0 0).toNat (fun c => σ 0 0 2 (c * 4 + σ vc vp vk c)) * sm (σ 2 0 0 0).toNat (σ 2 0 1)) σ) : Sr_costOfValues vc vp vk σ Q := by
  have hc := h.1.1
  have key : ∀ (k i : Nat) (s : Int), (i : Int) + k = σ 0 0 0 0 → s = sm i (fun c => σ 0 0 2 (c * 4 + σ vc vp vk c)) → Sr_costOfValues_4 Q (k + 1) vc vp vk s i σ := by
    intro k
    induction k with
    | zero =>
      intro i s h1 h3
      unfold Sr_costOfValues_4
      refine ⟨⟨by omega, by omega⟩, ⟨by omega, by omega⟩, fun _ => w_Fu_sum h.2.1 ?_, fun z => absurd z (by omega)⟩
      have e : (σ 0 0 0 0).toNat = i := by omega
      rw [h3, ← e]
      exact hQ
    | succ k ih =>
      intro i s h1 h3
      have := hv i (by omega) (by omega)
      unfold Sr_costOfValues_4
      refine ⟨⟨by omega, by omega⟩, ⟨by omega, by omega⟩, fun z => absurd z (by omega), fun _ => ⟨by omega, by omega, by omega, by omega, fun x6 e6 x7 e7 => ?_⟩⟩
      have e : x7 = ((i + 1 : Nat) : Int) := by omega
      rw [e]
      refine ih (i + 1) x6 (by omega) ?_
      rw [e6, h3]
      rfl
  exact ⟨_, key (σ 0 0 0 0).toNat 0 0 (by omega) rfl⟩
set_option maxHeartbeats 1000000 in
theorem w_bringCut {σ : Mem} {p f spot number r : Int} {L : List CutT} {Q : Mem → Prop} (h : CW σ) (p0 : 0 ≤ p) (p1 : p < 4) (f0 : 0 ≤ f) (f1 : f < 4) (hs0 : 0 ≤ spot) (hs1 : spot < 64) (hn : number = -4 ∨ (0 ≤ number ∧ number ≤ 600)) (hr0 : σ 4 0 0 0 = r) (hL : RepC σ L) (hF : FlO σ L) (hQ : ∀ σ', Eo Sh σ σ' → (∀ q, 0 ≤ q → q < 4 → AO σ' q ∧ FO σ' q) → RepC σ' (push L (some (p, f, number, r, rsl (σ 3 p 1) (hr (σ 3 p 0 0) (σ 3 p 2) (fun sp => AnC σ p sp f) number (dS spot) (σ 3 p 0 0).toNat) (σ 3 p 0 0).toNat))) → FlO σ' (push L (some (p, f, number, r, rsl (σ 3 p 1) (hr (σ 3 p 0 0) (σ 3 p 2) (fun sp => AnC σ p sp f) number (dS spot) (σ 3 p 0 0).toNat) (σ 3 p 0 0).toNat))) → Q σ') : Sr_bringCut p f spot number σ Q := by
  obtain ⟨a1, a2, a3, a4⟩ := h.2.2.2 p p0 p1
  have hj := a1.1
  have hdd : ∀ j, -1 ≤ dS spot j ∧ dS spot j ≤ 3 := fun j => by have := dS_bd spot j hs0 hs1; omega
  generalize hH : hr (σ 3 p 0 0) (σ 3 p 2) (fun sp => AnC σ p sp f) number (dS spot) (σ 3 p 0 0).toNat = H at hQ
  have hHb : ∀ j, -1 ≤ H j ∧ H j ≤ 3 := fun j => by rw [← hH]; exact hr_bd hdd _ j
  have hA0 : ∀ q, 0 ≤ q → q < 4 → AO σ q ∧ FO σ q := fun q q0 q1 => ⟨(h.2.2.2 q q0 q1).2.1, (h.2.2.2 q q0 q1).2.2.1⟩
  unfold Sr_bringCut
  rw [hL.1]
  have hl200 := hL.2.1
  refine ⟨⟨by omega, by omega⟩, fun hlt => ⟨p0, p1, ?_⟩, fun hge => ?_⟩
  rotate_left
  · have e : push L (some (p, f, number, r, rsl (σ 3 p 1) H (σ 3 p 0 0).toNat)) = L := if_neg (by omega)
    rw [e] at hQ
    exact hQ σ Eo.rf hA0 hL hF
  have epush : push L (some (p, f, number, r, rsl (σ 3 p 1) H (σ 3 p 0 0).toNat)) = L ++ [(p, f, number, r, rsl (σ 3 p 1) H (σ 3 p 0 0).toNat)] := if_pos (by omega)
  rw [epush] at hQ
  refine w_Pa_findReasons a1 a2 hs0 hs1 f0 f1 hn (fun σ4 hE4 hA4 h15 => ⟨p0, p1, ?_⟩)
  rw [hH] at h15
  have ed4 : ∀ k : Nat, k < 10 → ∀ i, σ4 3 p k i = σ 3 p k i := fun k hk i => hE4 3 p k i (by unfold S15; omega)
  have e411 : ∀ i, σ4 3 p 11 i = σ 3 p 11 i := fun i => hE4 3 p 11 i (by unfold S15; omega)
  have hb4 : PB σ4 p := a1.eo ed4
  have e40 := ed4 0 (by omega) 0
  have e42 : σ4 3 p 2 = σ 3 p 2 := funext (ed4 2 (by omega))
  have hF4 : FO σ4 p := by
    unfold FO at *
    simp only [e411]
    exact a3
  have hh4 : ∀ j, 0 ≤ j → j < σ4 3 p 0 0 → -1 ≤ σ4 3 p 15 j ∧ σ4 3 p 15 j ≤ 3 := fun j a b => by
    rw [e40] at b
    rw [h15 j a b]
    exact hHb j
  have hMh : ∀ sp, Mh (σ4 3 p 0 0) (σ4 3 p 15) sp ↔ Mh (σ 3 p 0 0) H sp := fun sp => by
    rw [e40]
    exact ⟨Mh.congr (fun j a b => h15 j a b), Mh.congr (fun j a b => (h15 j a b).symm)⟩
  refine w_Pa_raiseFloors hb4 hF4 f0 f1 hn hh4 (fun σ6 hE6 h11 => ⟨p0, p1, ?_⟩)
  have ed6 : ∀ k : Nat, k ≠ 11 → ∀ i, σ6 3 p k i = σ4 3 p k i := fun k hk i => hE6 3 p k i (by omega)
  have hb6 : PB σ6 p := hb4.eo (fun k hk i => ed6 k (by omega) i)
  have e60 : σ6 3 p 0 0 = σ 3 p 0 0 := (ed6 0 (by omega) 0).trans e40
  have e61 : ∀ i, σ6 3 p 1 i = σ 3 p 1 i := fun i => (ed6 1 (by omega) i).trans (ed4 1 (by omega) i)
  have c1 : ∀ k i, σ6 1 0 k i = σ 1 0 k i := fun k i => (hE6 1 0 k i (by omega)).trans (hE4 1 0 k i (by unfold S15; omega))
  have e64 : σ6 4 0 0 0 = r := by rw [← hr0, hE6 4 0 0 0 (by omega), hE4 4 0 0 0 (by unfold S15; omega)]
  have hL6 : RepC σ6 L := by
    obtain ⟨l1, l2, l3, l4⟩ := hL
    exact ⟨by rw [c1]; exact l1, l2, l3, fun k c hc => (l4 k c hc).eo (l3 c (List.mem_of_getElem? hc)) (fun m _ _ => c1 m _) (fun i _ _ => c1 6 i)⟩
  rw [e64]
  refine w_Cu_add hb6 hL6 (by omega) (fun j a b => by
    rw [e60] at b
    rw [ed6 15 (by omega), h15 j a b]
    exact hHb j) (fun σ8 hE8 hL8 => ?_)
  have ers : rsl (σ6 3 p 1) (σ6 3 p 15) (σ6 3 p 0 0).toNat = rsl (σ 3 p 1) H (σ 3 p 0 0).toNat := by
    rw [e60]
    refine rsl_congr (fun j a b => ⟨e61 j, ?_⟩)
    rw [ed6 15 (by omega)]
    exact h15 j a (by omega)
  rw [ers] at hL8
  have q8 : ∀ q k i, σ8 3 q k i = σ6 3 q k i := fun q k i => hE8 3 q k i (by unfold S1; omega)
  have q6 : ∀ q, q ≠ p → ∀ k i, σ6 3 q k i = σ4 3 q k i := fun q hq k i => hE6 3 q k i (by omega)
  have q4 : ∀ q, q ≠ p → ∀ k i, σ4 3 q k i = σ 3 q k i := fun q hq k i => hE4 3 q k i (by unfold S15; omega)
  have hE : Eo Sh σ σ8 := by
    refine ((hE4.mono (fun c q k z => ?_)).tr (hE6.mono (fun c q k z => ?_))).tr (hE8.mono (fun c q k z => ?_))
    · have := z.2.2; have := z.1; exact Or.inl (by omega)
    · exact Or.inl (by omega)
    · exact Or.inr z
  refine hQ σ8 hE (fun q q0 q1 => ?_) hL8 (fun q g sp q0 q1 g0 g1 hv => ?_)
  · by_cases c : q = p
    · subst c
      refine ⟨hA4.eo (fun k hk i => by rw [q8, ed6 k (by omega)]), fun i i0 i1 => ?_⟩
      have hi : i = (i / 64) * 64 + i % 64 := by omega
      have hx := h11 (i / 64) (i % 64) (by omega) (by omega) (by omega) (by omega)
      rw [q8, hi]
      by_cases z : (i / 64 = f ∧ Vs (σ4 3 q 0 0) (σ4 3 q 2) (i % 64) ∧ Mh (σ4 3 q 0 0) (σ4 3 q 15) (i % 64))
      · rw [hx.1 z]
        exact comb_bd (hF4 _ (by omega) (by omega)) hn
      · rw [hx.2 z]
        exact hF4 _ (by omega) (by omega)
    · refine ⟨(hA0 q q0 q1).1.eo (fun k hk i => by rw [q8, q6 q c, q4 q c]), fun i i0 i1 => ?_⟩
      rw [q8, q6 q c, q4 q c]
      exact (hA0 q q0 q1).2 i i0 i1
  · by_cases c : q = p
    · subst c
      rw [FM_snoc, q8, q8]
      have ev0 : σ8 3 q 0 0 = σ 3 q 0 0 := by rw [q8]; exact e60
      have ev2 : σ8 3 q 2 = σ 3 q 2 := funext (fun i => by rw [q8, ed6 2 (by omega), ed4 2 (by omega)])
      have ev1 : σ8 3 q 1 = σ 3 q 1 := funext (fun i => by rw [q8]; exact e61 i)
      rw [ev0, ev2] at hv
      rw [e60, ev1]
      have hx := h11 g sp g0 g1 hv.1.1 hv.1.2
      rw [e40, e42, e411] at hx
      have hmr : Mr (σ 3 q 0 0) (σ 3 q 1) (rsl (σ 3 q 1) H (σ 3 q 0 0).toNat) sp ↔ Mh (σ 3 q 0 0) H sp := Mr_rsl hj.1 a4.inj
      have hMh' := hMh sp
      rw [e40] at hMh'
      by_cases z : g = f ∧ Mh (σ 3 q 0 0) H sp
      · rw [hx.1 ⟨z.1, hv, hMh'.mpr z.2⟩, hF q g sp q0 q1 g0 g1 hv]
        exact (FMs_y (c := (q, f, number, r, rsl (σ 3 q 1) H (σ 3 q 0 0).toNat)) ⟨rfl, z.1.symm, hmr.mpr z.2⟩).symm
      · rw [hx.2 (fun y => z ⟨y.1, hMh'.mp y.2.2⟩), hF q g sp q0 q1 g0 g1 hv, FMs_n (fun y => z ⟨y.2.1.symm, hmr.mp y.2.2⟩)]
    · have e : ∀ k i, σ8 3 q k i = σ 3 q k i := fun k i => by rw [q8, q6 q c, q4 q c]
      have e1 : σ8 3 q 1 = σ 3 q 1 := funext (e 1)
      have e2 : σ8 3 q 2 = σ 3 q 2 := funext (e 2)
      rw [e, e2] at hv
      rw [e, e, e1, FM_snoc, FMs_n (fun y => c y.1.symm)]
      exact hF q g sp q0 q1 g0 g1 hv
theorem push_keep {L : List CutT} {o : Option CutT} {jc : Int} {J : Int → Int} {p f sp : Int} (h : ∀ c, o = some c → ¬ (c.1 = p ∧ c.2.1 = f)) : FM jc J (push L o) p f sp = FM jc J L p f sp := by
  cases o with
  | none => rfl
  | some c =>
    unfold push
    simp only
    split
    · rw [FM_snoc, FMs_n (fun z => h c rfl ⟨z.1, z.2.1⟩)]
    · rfl

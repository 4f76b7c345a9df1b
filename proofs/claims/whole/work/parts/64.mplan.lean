/-! ===== the reference: plans ===== -/
theorem w_Mo_allWeights {σ : Mem} {Q : Int → Mem → Prop} (h : CW σ) (hMD : MD σ) (hQ : Q (sm (σ 2 0 0 0).toNat (σ 2 0 1)) σ) : Mo_allWeights σ Q := by
  have hj := h.2.1.1
  obtain ⟨-, -, -, -, ⟨m5, m6⟩, -⟩ := id hMD
  have key : ∀ (k i : Nat) (s : Int), (i : Int) + k = σ 2 0 0 0 → s = sm i (σ 2 0 1) → Mo_allWeights_4 Q (k + 1) s i σ := by
    intro k
    induction k with
    | zero =>
      intro i s h1 h3
      unfold Mo_allWeights_4
      rw [m5]
      refine ⟨⟨by omega, by omega⟩, ⟨by omega, by omega⟩, fun _ => ?_, fun h => absurd h (by omega)⟩
      have e : (σ 2 0 0 0).toNat = i := by omega
      rw [h3, ← e]
      exact hQ
    | succ k ih =>
      intro i s h1 h3
      unfold Mo_allWeights_4
      rw [m5]
      refine ⟨⟨by omega, by omega⟩, ⟨by omega, by omega⟩, fun h => absurd h (by omega), fun _ => ⟨by omega, by omega, fun x5 e5 x6 e6 => ?_⟩⟩
      have e : x6 = ((i + 1 : Nat) : Int) := by omega
      rw [e]
      refine ih (i + 1) x5 (by omega) ?_
      rw [e5, h3, m6 i (by omega) (by omega)]
      rfl
  exact ⟨_, key (σ 2 0 0 0).toNat 0 0 (by omega) rfl⟩
def S40 : Nat → Int → Nat → Prop := fun c q k => c = 6 ∧ q = 0 ∧ k = 40
theorem S40_S6 {c : Nat} {q : Int} {k : Nat} (h : S40 c q k) : S6 c q k := ⟨h.1, h.2.1, by have := h.2.2; omega⟩
theorem w_Mo_firstPlan {σ : Mem} {Q : Mem → Prop} (hQ : ∀ σ', Eo S40 σ σ' → (∀ c, 0 ≤ c → c < 6 → σ' 6 0 40 c = 0) → Q σ') : Mo_firstPlan σ Q := by
  have key : ∀ (k : Nat) (i : Int) (μ : Mem), i + k = 6 → 0 ≤ i → Eo S40 σ μ → (∀ c, 0 ≤ c → c < i → μ 6 0 40 c = 0) → Mo_firstPlan_2 Q (k + 1) i μ := by
    intro k
    induction k with
    | zero =>
      intro i μ h1 h2 hE hz
      unfold Mo_firstPlan_2
      exact ⟨⟨by omega, by omega⟩, fun _ => hQ μ hE (fun c c0 c1 => hz c c0 (by omega)), fun z => absurd z (by omega)⟩
    | succ k ih =>
      intro i μ h1 h2 hE hz
      unfold Mo_firstPlan_2
      refine ⟨⟨by omega, by omega⟩, fun z => absurd z (by omega), fun _ => ⟨by omega, by omega, fun σ3 e3 x4 e4 => ?_⟩⟩
      subst e3
      refine ih x4 _ (by omega) (by omega) (hE.tr (Eo.of_up ⟨rfl, rfl, rfl⟩)) (fun c c0 c1 => ?_)
      by_cases q : c = i
      · subst q; exact up_at
      · rw [up_ne (by omega)]; exact hz c c0 (by omega)
  exact ⟨_, key 6 0 σ (by omega) (by omega) Eo.rf (fun c c0 c1 => absurd c1 (by omega))⟩
theorem w_Mo_nextPlan {σ : Mem} {Q : Int → Mem → Prop} (h : CW σ) (hMD : MD σ) (hu : ∀ c, 0 ≤ c → c < 6 → 0 ≤ σ 6 0 40 c ∧ σ 6 0 40 c ≤ Tch σ c) (hQ1 : ∀ σ', Eo S40 σ σ' → (∀ c, 0 ≤ c → c < 6 → 0 ≤ σ' 6 0 40 c ∧ σ' 6 0 40 c ≤ Tch σ c) → pf (σ 6 0 40) 6 < pf (σ' 6 0 40) 6 → (∀ t, VPl σ t → pf (σ 6 0 40) 6 < t → pf (σ' 6 0 40) 6 ≤ t) → Q 1 σ') (hQ0 : ∀ σ', Eo S40 σ σ' → (∀ t, VPl σ t → t ≤ pf (σ 6 0 40) 6) → Q 0 σ') : Mo_nextPlan σ Q := by
  have hC := h.1
  have hc := hC.1
  obtain ⟨m0, m1, -⟩ := id hMD
  have hT := fun c c0 => Tch_bd hC c c0
  have hz : ∀ c, σ 0 0 0 0 ≤ c → Tch σ c = 0 := fun c c0 => by
    unfold Tch tpv
    rw [if_neg (by omega)]
  have hV3 : ∀ t, VPl σ t → ∀ c, 0 ≤ c → c < 6 → 0 ≤ pD t c ∧ pD t c ≤ Tch σ c := fun t hV c c0 c1 => ⟨(pD_bd hV.1.1 hV.1.2 c).1, hV.2 c c0 c1⟩
  have same : ∀ t, VPl σ t → (∀ i, 0 ≤ i → i ≤ σ 0 0 0 0 - 1 → pD t i = σ 6 0 40 i) → t = pf (σ 6 0 40) 6 := by
    intro t hV he
    rw [← pf_pD hV.1.1 hV.1.2]
    refine pf_congr (fun i i0 i1 => ?_)
    by_cases q : i ≤ σ 0 0 0 0 - 1
    · exact he i i0 q
    · have a := hV3 t hV i i0 (by omega)
      have b := hu i i0 (by omega)
      have := hz i (by omega)
      omega
  have fin : ∀ r μ, Eo S40 σ μ → Rz (σ 0 0 0 0 - 1) (Tch σ) (σ 6 0 40) (μ 6 0 40) r → Q r μ := by
    intro r μ hE hR
    have O := odo (n := 6) (last := σ 0 0 0 0 - 1) (T := Tch σ) (u := σ 6 0 40) (v := μ 6 0 40) (r := r) (by omega) (by omega) (fun i a b => ⟨(hu i a (by omega)).1, (hu i a (by omega)).2, (hT i a).2⟩) hR (fun i a b => by have := hu i (by omega) (by omega); have := hz i (by omega); omega)
    rcases O with ⟨er, o1, o2, o3⟩ | ⟨er, o1⟩
    · subst er
      refine hQ1 μ hE (fun c c0 c1 => o1 c c0 (by omega)) (o2 (σ 6 0 40) (fun i a b => by have := hu i a (by omega); have := (hT i a).2; omega) (fun _ _ _ => rfl)) (fun t hV ht => ?_)
      refine Int.not_lt.mp (fun hlt => ?_)
      have e := same t hV (o3 (pD t) (fun i a b => hV3 t hV i a (by omega)) (by rw [pf_pD hV.1.1 hV.1.2]; omega) (by rw [pf_pD hV.1.1 hV.1.2]; exact hlt))
      omega
    · subst er
      refine hQ0 μ hE (fun t hV => ?_)
      refine Int.not_lt.mp (fun hlt => ?_)
      have e := same t hV (o1 (pD t) (fun i a b => hV3 t hV i a (by omega)) (by rw [pf_pD hV.1.1 hV.1.2]; omega))
      omega
  have key : ∀ (k : Nat) (s : Int) (μ : Mem), s + 1 = k → s ≤ σ 0 0 0 0 - 1 → Eo S40 σ μ → (∀ m, m ≤ s → μ 6 0 40 m = σ 6 0 40 m) → (∀ m, s < m → m ≤ σ 0 0 0 0 - 1 → μ 6 0 40 m = 0 ∧ Tch σ m ≤ σ 6 0 40 m) → (∀ m, σ 0 0 0 0 - 1 < m → μ 6 0 40 m = σ 6 0 40 m) → Mo_nextPlan_7 Q (k + 1) s μ := by
    intro k
    induction k with
    | zero =>
      intro s μ g1 g2 hE a1 a2 a3
      unfold Mo_nextPlan_7
      refine ⟨⟨by omega, by omega⟩, fun _ => ?_, fun z => absurd z (by omega)⟩
      unfold Mo_nextPlan_41
      refine ⟨⟨by omega, by omega⟩, fun z => absurd z (by omega), fun _ => ?_⟩
      exact fin 0 μ hE (Or.inr ⟨rfl, fun i i0 i1 => (a2 i (by omega) i1).2⟩)
    | succ k ih =>
      intro s μ g1 g2 hE a1 a2 a3
      have e1 : μ 6 0 1 s = σ 0 0 1 s := by rw [hE 6 0 1 s (by unfold S40; omega)]; exact m1 s (by omega) (by omega)
      have e6 := a1 s (Int.le_refl _)
      have b := hC.2.1 s (by omega) (by omega)
      have d := hu s (by omega) (by omega)
      have eT : Tch σ s = σ 0 0 1 s - 1 := by
        unfold Tch tpv
        rw [if_pos (by omega)]
      unfold Mo_nextPlan_7
      rw [e1, e6]
      refine ⟨⟨by omega, by omega⟩, fun z => absurd z (by omega), fun _ => ⟨by omega, by omega, by omega, by omega, ⟨by omega, by omega⟩, ⟨by omega, by omega⟩, fun hc' => ?_, fun hc' => ⟨by omega, by omega, fun σ6 es x7 ex => ?_⟩⟩⟩
      · unfold Mo_nextPlan_41
        refine ⟨⟨by omega, by omega⟩, fun _ => ⟨by omega, by omega, by omega, by omega, fun σ3 es => ?_⟩, fun z => absurd z (by omega)⟩
        subst es
        refine fin 1 _ (hE.tr (Eo.of_up ⟨rfl, rfl, rfl⟩)) (Or.inl ⟨rfl, s, by omega, g2, by rw [up_at, e6], by omega, fun m m0 m1 => ?_, fun m m0 m1 => ?_, fun m m0 => ?_⟩)
        · rw [up_ne (by omega)]; exact a1 m (by omega)
        · rw [up_ne (by omega)]; exact a2 m m0 m1
        · rw [up_ne (by omega)]; exact a3 m m0
      · subst es
        refine ih x7 _ (by omega) (by omega) (hE.tr (Eo.of_up ⟨rfl, rfl, rfl⟩)) (fun m m1 => ?_) (fun m m0 m1 => ?_) (fun m m0 => ?_)
        · rw [up_ne (by omega)]; exact a1 m (by omega)
        · by_cases c : m = s
          · subst c; exact ⟨up_at, by omega⟩
          · rw [up_ne (by omega)]; exact a2 m (by omega) m1
        · rw [up_ne (by omega)]; exact a3 m m0
  unfold Mo_nextPlan
  intro x1 e1
  rw [m0] at e1
  exact ⟨_, key (x1 + 1).toNat x1 σ (by omega) (by omega) Eo.rf (fun _ _ => rfl) (fun m a b => absurd b (by omega)) (fun _ _ => rfl)⟩
theorem w_Mo_priceOf {σ : Mem} {vc vk : Nat} {vp : Int} {Q : Int → Mem → Prop} (h : CW σ) (hMD : MD σ) (hv : ∀ c, 0 ≤ c → c < 6 → 0 ≤ σ vc vp vk c ∧ σ vc vp vk c < 4) (hQ0 : (∃ c, 0 ≤ c ∧ c < σ 0 0 0 0 ∧ σ 0 0 2 (c * 4 + σ vc vp vk c) = -4) → Q (-1) σ) (hQ1 : (∀ c, 0 ≤ c → c < σ 0 0 0 0 → σ 0 0 2 (c * 4 + σ vc vp vk c) ≠ -4) → Q (sm (σ 0 0 0 0).toNat (fun c => σ 0 0 2 (c * 4 + σ vc vp vk c)) * sm (σ 2 0 0 0).toNat (σ 2 0 1)) σ) : Mo_priceOf vc vp vk σ Q := by
  have hc := h.1.1
  obtain ⟨m0, m1, m2, -⟩ := id hMD
  have key : ∀ (k i : Nat) (s : Int), (i : Int) + k = σ 0 0 0 0 → (∀ c : Int, 0 ≤ c → c < i → σ 0 0 2 (c * 4 + σ vc vp vk c) ≠ -4) → s = sm i (fun c => σ 0 0 2 (c * 4 + σ vc vp vk c)) → Mo_priceOf_4 Q (k + 1) vc vp vk s i σ := by
    intro k
    induction k with
    | zero =>
      intro i s h1 hne h3
      unfold Mo_priceOf_4
      rw [m0]
      refine ⟨⟨by omega, by omega⟩, ⟨by omega, by omega⟩, fun _ => w_Mo_allWeights h hMD ?_, fun z => absurd z (by omega)⟩
      have e : (σ 0 0 0 0).toNat = i := by omega
      rw [h3, ← e]
      exact hQ1 (fun c a b => hne c a (by omega))
    | succ k ih =>
      intro i s h1 hne h3
      have b := hv i (by omega) (by omega)
      have ec : 4 * (i : Int) + σ vc vp vk i = i * 4 + σ vc vp vk i := by omega
      have q := m2 (i * 4 + σ vc vp vk i) (by omega) (by omega)
      unfold Mo_priceOf_4
      rw [m0, ec]
      refine ⟨⟨by omega, by omega⟩, ⟨by omega, by omega⟩, fun z => absurd z (by omega), fun _ => ⟨by omega, by omega, by omega, by omega, ?_⟩⟩
      by_cases hx : σ 0 0 2 (i * 4 + σ vc vp vk i) = -4
      · rw [q.1 hx]
        exact ⟨⟨by omega, by omega⟩, fun z => absurd z (by omega), fun _ => hQ0 ⟨i, by omega, by omega, hx⟩⟩
      · rw [(q.2 hx).1, (q.2 hx).2]
        refine ⟨⟨by omega, by omega⟩, fun _ => ⟨by omega, by omega, by omega, by omega, fun x6 e6 x7 e7 => ?_⟩, fun z => absurd rfl z⟩
        have e : x7 = ((i + 1 : Nat) : Int) := by omega
        rw [e]
        refine ih (i + 1) x6 (by omega) (fun c a b => ?_) ?_
        · by_cases z : c = i
          · subst z; exact hx
          · exact hne c a (by omega)
        · rw [e6, h3]
          rfl
  exact ⟨_, key (σ 0 0 0 0).toNat 0 0 (by omega) (fun c a b => absurd b (by omega)) rfl⟩
/-! ===== the sum of a plan, part by part ===== -/
def prP (σ : Mem) (d : Int → Int) : Int := sm (σ 0 0 0 0).toNat (fun c => σ 0 0 2 (c * 4 + d c)) * sm (σ 2 0 0 0).toNat (σ 2 0 1)
def prOk (σ : Mem) (d : Int → Int) : Prop := ∀ c, 0 ≤ c → c < σ 0 0 0 0 → σ 0 0 2 (c * 4 + d c) ≠ -4
def BS (σ : Mem) (g : Int → (Int → Int) → Int → Int) (d : Int → Int) (n : Nat) (s : Int) : Prop := (s = -1 ∧ ¬ FG σ g d) ∨ ((0 ≤ s ∧ s ≤ 96000 + 48000 * n) ∧ s = prP σ d + sm n (fun p => sm (σ 2 0 0 0).toNat (fun f => σ 2 0 1 f * g p d f)) ∧ prOk σ d ∧ ∀ p : Int, 0 ≤ p → p < n → ∀ f, 0 ≤ f → f < σ 2 0 0 0 → g p d f ≠ -4)
def BF (σ : Mem) (g : Int → (Int → Int) → Int → Int) (d : Int → Int) (n m : Nat) (s : Int) : Prop := (s = -1 ∧ ¬ FG σ g d) ∨ ((0 ≤ s ∧ s ≤ 96000 + 48000 * n + 12000 * m) ∧ s = prP σ d + sm n (fun p => sm (σ 2 0 0 0).toNat (fun f => σ 2 0 1 f * g p d f)) + sm m (fun f => σ 2 0 1 f * g n d f) ∧ prOk σ d ∧ (∀ p : Int, 0 ≤ p → p < n → ∀ f, 0 ≤ f → f < σ 2 0 0 0 → g p d f ≠ -4) ∧ ∀ f : Int, 0 ≤ f → f < m → g n d f ≠ -4)
theorem prP_bd {σ : Mem} {d : Int → Int} (h : CW σ) (hd : ∀ c, 0 ≤ c → c < 6 → 0 ≤ d c ∧ d c < 4) (hp : prOk σ d) : 0 ≤ prP σ d ∧ prP σ d ≤ 96000 := by
  have a := sumW_bd h.2.1
  have hc := h.1.1
  have b := sm_bd (f := fun c => σ 0 0 2 (c * 4 + d c)) (lo := 0) (hi := 200) (n := (σ 0 0 0 0).toNat) (fun c c0 c1 => by
    have q := hd c c0 (by omega)
    have := h.1.2.2 (c * 4 + d c) (by omega) (by omega)
    have := hp c c0 (by omega)
    omega)
  have := mul_bd (a := sm (σ 0 0 0 0).toNat (fun c => σ 0 0 2 (c * 4 + d c))) (b := sm (σ 2 0 0 0).toNat (σ 2 0 1)) (A := 1200) (B := 80) (by omega) (by omega) (by omega) (by omega)
  unfold prP
  omega
theorem BS.inr {σ : Mem} {g : Int → (Int → Int) → Int → Int} {d : Int → Int} {n : Nat} {s : Int} (h : BS σ g d n s) (hn : n ≤ 4) : InR s := by
  rcases h with h | h
  · exact ⟨by omega, by omega⟩
  · have := h.1
    exact ⟨by omega, by omega⟩
theorem BF.inr {σ : Mem} {g : Int → (Int → Int) → Int → Int} {d : Int → Int} {n m : Nat} {s : Int} (h : BF σ g d n m s) (hn : n ≤ 4) (hm : m ≤ 4) : InR s := by
  rcases h with h | h
  · exact ⟨by omega, by omega⟩
  · have := h.1
    exact ⟨by omega, by omega⟩
theorem BS.st {σ : Mem} {g : Int → (Int → Int) → Int → Int} {d : Int → Int} {n : Nat} {s : Int} (h : BS σ g d n s) : BF σ g d n 0 s := by
  rcases h with h | ⟨h1, h2, h3, h4⟩
  · exact Or.inl h
  · exact Or.inr ⟨by omega, by rw [h2]; simp [sm], h3, h4, fun f a b => absurd b (by omega)⟩
theorem BF.fin {σ : Mem} {g : Int → (Int → Int) → Int → Int} {d : Int → Int} {n m : Nat} {s : Int} (h : BF σ g d n m s) (hm : (m : Int) = σ 2 0 0 0) (h4' : m ≤ 4) : BS σ g d (n + 1) s := by
  rcases h with h | ⟨h1, h2, h3, h4, h5⟩
  · exact Or.inl h
  · have e : (σ 2 0 0 0).toNat = m := by omega
    refine Or.inr ⟨by omega, ?_, h3, fun p a b f c e => ?_⟩
    · rw [h2, e]
      simp only [sm]
      omega
    · by_cases q : p = n
      · subst q; exact h5 f c (by omega)
      · exact h4 p a (by omega) f c e
theorem BF.neg {σ : Mem} {g : Int → (Int → Int) → Int → Int} {d : Int → Int} {n m k : Nat} {s : Int} (h : BF σ g d n m s) (hs : s < 0) : BS σ g d k s := by
  rcases h with h | ⟨h1, h2, h3, h4, h5⟩
  · exact Or.inl h
  · omega
theorem BS.neg {σ : Mem} {g : Int → (Int → Int) → Int → Int} {d : Int → Int} {n k : Nat} {s : Int} (h : BS σ g d n s) (hs : s < 0) : BS σ g d k s := by
  rcases h with h | ⟨h1, h2, h3, h4⟩
  · exact Or.inl h
  · omega
theorem BF.step {σ : Mem} {g : Int → (Int → Int) → Int → Int} {d : Int → Int} {n m : Nat} {s G : Int} (h : BF σ g d n m s) (hs : 0 ≤ s) (hG : g n d m = G) (h0 : 0 ≤ G ∧ G ≤ 600) (hw : 1 ≤ σ 2 0 1 m ∧ σ 2 0 1 m ≤ 20) : BF σ g d n (m + 1) (s + σ 2 0 1 m * G) := by
  have b := mul_bd (a := σ 2 0 1 m) (b := G) (A := 20) (B := 600) (by omega) (by omega) (by omega) (by omega)
  rcases h with h | ⟨h1, h2, h3, h4, h5⟩
  · omega
  · refine Or.inr ⟨by omega, ?_, h3, h4, fun f a c => ?_⟩
    · rw [h2]
      simp only [sm]
      rw [hG]
      omega
    · by_cases q : f = m
      · subst q; omega
      · exact h5 f a (by omega)
theorem BF.bar {σ : Mem} {g : Int → (Int → Int) → Int → Int} {d : Int → Int} {n m k : Nat} (hG : g n d m = -4) (hn : (n : Int) < σ 5 0 3 0) (hm : (m : Int) < σ 2 0 0 0) : BF σ g d n k (-1) :=
  Or.inl ⟨rfl, fun z => z.2 n (by omega) hn m (by omega) hm hG⟩
theorem BS.out {σ : Mem} {g : Int → (Int → Int) → Int → Int} {d : Int → Int} {n : Nat} {s : Int} (h : BS σ g d n s) (hn : (n : Int) = σ 5 0 3 0) (h4' : n ≤ 4) : (s = -1 ∧ ¬ FG σ g d) ∨ (s = CG σ g d ∧ FG σ g d ∧ 0 ≤ s ∧ s ≤ 2100000) := by
  rcases h with h | ⟨h1, h2, h3, h4⟩
  · exact Or.inl h
  · have e : (σ 5 0 3 0).toNat = n := by omega
    refine Or.inr ⟨?_, ⟨h3, fun p a b f c e => h4 p a (by omega) f c e⟩, by omega, by omega⟩
    rw [h2]
    unfold CG
    rw [e]
    rfl
theorem BS.price0 {σ : Mem} {g : Int → (Int → Int) → Int → Int} {d : Int → Int} (hx : ∃ c, 0 ≤ c ∧ c < σ 0 0 0 0 ∧ σ 0 0 2 (c * 4 + d c) = -4) : BS σ g d 0 (-1) := by
  obtain ⟨c, a, b, e⟩ := hx
  exact Or.inl ⟨rfl, fun z => z.1 c a b e⟩
theorem BS.price1 {σ : Mem} {g : Int → (Int → Int) → Int → Int} {d : Int → Int} (h : CW σ) (hd : ∀ c, 0 ≤ c → c < 6 → 0 ≤ d c ∧ d c < 4) (hp : prOk σ d) : BS σ g d 0 (prP σ d) :=
  have q := prP_bd h hd hp
  Or.inr ⟨by omega, by simp [sm], hp, fun p a b => absurd b (by omega)⟩
set_option maxHeartbeats 1000000 in
theorem w_Mo_byCuts {σ : Mem} {L : List CutT} {Q : Int → Mem → Prop} (h : CW σ) (hJ : JS σ) (hMD : MD σ) (hu : ∀ c, 0 ≤ c → c < 6 → 0 ≤ σ 6 0 40 c ∧ σ 6 0 40 c ≤ Tch σ c) (hLd : ∀ p f code, 0 ≤ p → p < 4 → 0 ≤ f → f < 4 → 0 ≤ code → code < 64 → Laid σ L p f code (σ 6 0 38 (64 * (4 * p + f) + code)) (σ 6 0 39 (64 * (4 * p + f) + code))) (hQ0 : ¬ FG σ (gL σ L) (σ 6 0 40) → Q (-1) σ) (hQ1 : FG σ (gL σ L) (σ 6 0 40) → 0 ≤ CG σ (gL σ L) (σ 6 0 40) → CG σ (gL σ L) (σ 6 0 40) ≤ 2100000 → Q (CG σ (gL σ L) (σ 6 0 40)) σ) : Mo_byCuts σ Q := by
  have hC := h.1
  have hP := h.2.2.1
  have hf := h.2.1.1
  obtain ⟨m0, m1, m2, m3, ⟨m5, m6⟩, m7, mP⟩ := id hMD
  have hd : ∀ c, 0 ≤ c → c < 6 → 0 ≤ σ 6 0 40 c ∧ σ 6 0 40 c < 4 := fun c c0 c1 => by have := hu c c0 c1; have := (Tch_bd hC c c0).2; omega
  have out : ∀ (s : Int) (n : Nat), (n : Int) = σ 5 0 3 0 → BS σ (gL σ L) (σ 6 0 40) n s → Q s σ := by
    intro s n hn hB
    rcases hB.out hn (by omega) with ⟨e, z⟩ | ⟨e, z, b0, b1⟩
    · rw [e]; exact hQ0 z
    · rw [e]; exact hQ1 z (by omega) (by omega)
  have key : ∀ (k n : Nat) (s : Int), (n : Int) + k = σ 5 0 3 0 → BS σ (gL σ L) (σ 6 0 40) n s → Mo_byCuts_11 Q (k + 1) s n σ := by
    intro k
    induction k with
    | zero =>
      intro n s h1 hB
      unfold Mo_byCuts_11
      rw [m7]
      exact ⟨⟨by omega, by omega⟩, ⟨by omega, by omega⟩, fun _ => out s n (by omega) hB, fun z => absurd z (by omega)⟩
    | succ k ih =>
      intro n s h1 hB
      unfold Mo_byCuts_11
      rw [m7]
      refine ⟨⟨by omega, by omega⟩, ⟨by omega, by omega⟩, fun z => absurd z (by omega), fun _ => ⟨hB.inr (by omega), fun z => out s (σ 5 0 3 0).toNat (by omega) (hB.neg z), fun hs => ?_⟩⟩
      obtain ⟨a1, a2, a3, a4⟩ := h.2.2.2 n (by omega) (by omega)
      refine w_Mo_codeOf a1 (mP n (by omega) (by omega)) (by omega) (by omega) hd (fun code c0 c1 ec => ?_)
      have hV : Vs (σ 3 n 0 0) (σ 3 n 2) (cv code) := by
        rw [ec]
        exact dval h (by omega) (by omega) hu (hJ n (by omega) (by omega))
      have key2 : ∀ (m f : Nat) (s : Int), (f : Int) + m = σ 2 0 0 0 → BF σ (gL σ L) (σ 6 0 40) n f s → Mo_byCuts_36 (fun z0 z1 z2 => Mo_byCuts_11 Q (k + 1) z0 z1 z2) Q (m + 1) s n code f σ := by
        have go : ∀ (s : Int), BS σ (gL σ L) (σ 6 0 40) (n + 1) s → Mo_byCuts_100 (fun z0 z1 z2 => Mo_byCuts_11 Q (k + 1) z0 z1 z2) Q s n σ := by
          intro s hs
          unfold Mo_byCuts_100
          intro x1 e1
          have e : x1 = ((n + 1 : Nat) : Int) := by omega
          rw [e]
          exact ih (n + 1) s (by omega) hs
        intro m
        induction m with
        | zero =>
          intro f s g1 hF
          unfold Mo_byCuts_36
          rw [m5]
          exact ⟨⟨by omega, by omega⟩, ⟨by omega, by omega⟩, fun _ => go s (hF.fin (by omega) (by omega)), fun z => absurd z (by omega)⟩
        | succ m ih2 =>
          intro f s g1 hF
          unfold Mo_byCuts_36
          rw [m5]
          refine ⟨⟨by omega, by omega⟩, ⟨by omega, by omega⟩, fun z => absurd z (by omega), fun _ => ⟨hF.inr (by omega) (by omega), fun z => go s (hF.neg z), fun hs => fun x4 e4 => ?_⟩⟩
          have hl := hLd n f code (by omega) (by omega) (by omega) (by omega) c0 c1
          rw [← e4] at hl
          obtain ⟨l1, l2, l3⟩ := hl
          have l3 := l3 hV
          have eg : gL σ L n (σ 6 0 40) f = FM (σ 3 n 0 0) (σ 3 n 1) L n f (cv code) := by rw [ec]; rfl
          rw [← eg] at l3
          refine ⟨by omega, by omega, ⟨by omega, by omega⟩, fun hb => ⟨by omega, by omega, by omega, by omega, ?_⟩, fun hb => ?_⟩
          · unfold Mo_byCuts_93
            intro x1 e1
            have e : x1 = ((f + 1 : Nat) : Int) := by omega
            have en : gL σ L n (σ 6 0 40) f ≠ -4 := fun z => by have := l3.1.mpr z; omega
            rw [e, m6 f (by omega) (by omega)]
            exact ih2 (f + 1) _ (by omega) (hF.step hs (l3.2 en).symm l2 (h.2.1.2 f (by omega) (by omega)))
          · unfold Mo_byCuts_93
            intro x1 e1
            have e : x1 = ((f + 1 : Nat) : Int) := by omega
            rw [e]
            exact ih2 (f + 1) _ (by omega) (BF.bar (m := f) (l3.1.mp (by omega)) (by omega) (by omega))
      exact ⟨_, key2 (σ 2 0 0 0).toNat 0 s (by omega) hB.st⟩
  unfold Mo_byCuts
  refine w_Mo_priceOf h hMD hd (fun z => ⟨_, key (σ 5 0 3 0).toNat 0 _ (by omega) (BS.price0 z)⟩) (fun z => ⟨_, key (σ 5 0 3 0).toNat 0 _ (by omega) (BS.price1 h hd z)⟩)

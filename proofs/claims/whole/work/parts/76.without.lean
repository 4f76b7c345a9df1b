/-! ===== the reference: cuts of a part taken away ===== -/
theorem w_Mo_wtail {k4 : Int → Int → Int → Mem → Prop} {Q : Mem → Prop} {p to fr : Int} {σ : Mem} (h0 : 0 ≤ to) (h1 : to ≤ fr) (h2 : fr < 200) (hQ : ∀ σ', (∀ c q k i, ¬ (c = 6 ∧ q = 0 ∧ (k = 25 ∨ k = 26)) → σ' c q k i = σ c q k i) → (∀ k i, k = 25 ∨ k = 26 → σ' 6 0 k i = if 3 * to ≤ i ∧ i < 3 * to + 3 then σ 6 0 k (3 * fr + (i - 3 * to)) else σ 6 0 k i) → Mo_without_156 k4 Q p (to + 1) fr σ') : ∃ nn, Mo_without_97 k4 Q nn p to fr 0 σ := by
  have key : ∀ (m : Nat) (l : Int) (μ : Mem), l + m = 3 → 0 ≤ l → (∀ c q k i, ¬ (c = 6 ∧ q = 0 ∧ (k = 25 ∨ k = 26)) → μ c q k i = σ c q k i) → (∀ k i, k = 25 ∨ k = 26 → μ 6 0 k i = if 3 * to ≤ i ∧ i < 3 * to + l then σ 6 0 k (3 * fr + (i - 3 * to)) else σ 6 0 k i) → Mo_without_97 k4 Q (m + 1) p to fr l μ := by
    intro m
    induction m with
    | zero =>
      intro l μ g1 g2 hF h6
      have el : l = 3 := by omega
      subst el
      unfold Mo_without_97
      refine ⟨⟨by omega, by omega⟩, fun _ => fun x3 e3 => ?_, fun z => absurd z (by omega)⟩
      rw [e3]
      exact hQ μ hF h6
    | succ m ih =>
      intro l μ g1 g2 hF h6
      unfold Mo_without_97
      refine ⟨⟨by omega, by omega⟩, fun z => absurd z (by omega), fun _ => ⟨by omega, by omega, by omega, by omega, fun σ5 e5 => ⟨by omega, by omega, by omega, by omega, fun σ7 e7 x8 e8 => ih x8 σ7 (by omega) (by omega) (fun c q k i z => ?_) (fun k i hk => ?_)⟩⟩⟩
      · rw [e7, up_ne (by omega), e5, up_ne (by omega)]; exact hF c q k i z
      · have hfr : ∀ k, k = 25 ∨ k = 26 → μ 6 0 k (3 * fr + l) = σ 6 0 k (3 * fr + l) := fun k hk => by rw [h6 k _ hk, if_neg (by omega)]
        have e526 : σ5 6 0 26 (3 * fr + l) = σ 6 0 26 (3 * fr + l) := by rw [e5, up_ne (by omega)]; exact hfr 26 (by omega)
        rw [e526] at e7
        rw [hfr 25 (by omega)] at e5
        by_cases c : i = 3 * to + l
        · rw [if_pos (by omega)]
          have ei : 3 * fr + (i - 3 * to) = 3 * fr + l := by omega
          rw [ei]
          subst c
          rcases hk with rfl | rfl
          · rw [e7, up_ne (by omega), e5, up_at]
          · rw [e7, up_at]
        · rw [e7, up_ne (by omega), e5, up_ne (by omega), h6 k i hk]
          by_cases c2 : 3 * to ≤ i ∧ i < 3 * to + l
          · rw [if_pos c2, if_pos (by omega)]
          · rw [if_neg c2, if_neg (by omega)]
  exact ⟨_, key 3 0 σ (by omega) (by omega) (fun _ _ _ _ _ => rfl) (fun k i _ => by rw [if_neg (by omega)])⟩
def S6w : Nat → Int → Nat → Prop := fun c q k => c = 6 ∧ q = 0 ∧ 18 ≤ k ∧ k ≤ 26
set_option maxHeartbeats 2000000 in
theorem w_Mo_without {σ : Mem} {p : Int} {L : List CutT} {Q : Mem → Prop} (hp : InR p) (hL : RepM σ L) (hpb : ∀ c ∈ L, InR c.1) (hQ : ∀ σ', (∀ c q k i, ¬ (c = 6 ∧ q = 0 ∧ 18 ≤ k ∧ k ≤ 26) → ¬ (c = 6 ∧ q = 0 ∧ 27 ≤ k ∧ k ≤ 30 ∧ i = 0) → σ' c q k i = σ c q k i) → RepM σ' (keepP p L) → σ' 6 0 27 0 = 0 → σ' 6 0 28 0 = 0 → σ' 6 0 29 0 = 0 → σ' 6 0 30 0 = 0 → Q σ') : Mo_without p σ Q := by
  obtain ⟨l1, l2, l3, l4⟩ := hL
  have key : ∀ (m k : Nat) (K : Int) (μ : Mem), k + m = L.length → K = (keepP p (L.take k)).length → Eo S6w σ μ → μ 6 0 18 0 = σ 6 0 18 0 → (∀ (i : Nat) (c : CutT), (keepP p (L.take k))[i]? = some c → CutM μ i c) → (∀ (i : Nat) (c : CutT), k ≤ i → L[i]? = some c → CutM μ i c) → Mo_without_4 Q (m + 1) p K k μ := by
    intro m
    induction m with
    | zero =>
      intro k K μ g1 g2 hE e0 ha hb
      unfold Mo_without_4
      rw [e0, l1]
      refine ⟨⟨by omega, by omega⟩, ⟨by omega, by omega⟩, fun _ => fun σ3 e3 => w_Mo_anew (fun σ' r1 r2 r3 r4 r5 => ?_), fun z => absurd z (by omega)⟩
      have et : L.take k = L := List.take_of_length_le (by omega)
      rw [et] at g2 ha
      have hlen := keepP_le (p := p) (L := L)
      refine hQ σ' (fun c q k i x1 x2 => ?_) ⟨by rw [r1 _ _ _ _ (by omega), e3, up_at]; exact g2, by omega, fun c hc => l3 c (List.mem_filter.mp hc).1, fun i c hc => ?_⟩ r2 r3 r4 r5
      · rw [r1 _ _ _ _ x2, e3, up_ne (by omega)]; exact hE c q k i (fun z => x1 z)
      · exact (ha i c hc).eo (l3 c (List.mem_filter.mp (List.mem_of_getElem? hc)).1) (fun m a b => by rw [r1 _ _ _ _ (by omega), e3, up_ne (by omega)]) (fun i a b => ⟨by rw [r1 _ _ _ _ (by omega), e3, up_ne (by omega)], by rw [r1 _ _ _ _ (by omega), e3, up_ne (by omega)]⟩)
    | succ m ih =>
      intro k K μ g1 g2 hE e0 ha hb
      have hkl : k < L.length := by omega
      obtain ⟨c, hc⟩ : ∃ c, L[k]? = some c := ⟨L[k], List.getElem?_eq_getElem hkl⟩
      have hcm := List.mem_of_getElem? hc
      have hck := hb k c (Nat.le_refl k) hc
      have hKk : (keepP p (L.take k)).length ≤ k := Nat.le_trans keepP_le (List.length_take_le _ _)
      have c19 : μ 6 0 19 k = 0 ∨ μ 6 0 19 k = 1 := by
        rw [hck.1]
        split
        · exact Or.inl rfl
        · exact Or.inr rfl
      unfold Mo_without_4
      rw [e0, l1]
      refine ⟨⟨by omega, by omega⟩, ⟨by omega, by omega⟩, fun z => absurd z (by omega), fun _ => ⟨by omega, by omega, by rw [hck.2.1]; exact hpb c hcm, hp, fun z => ?_, fun z => ⟨by omega, by omega, by omega, by omega, c19, fun σ9 e9 => ⟨by omega, by omega, by omega, by omega, fun σ11 e11 => ⟨by omega, by omega, by omega, by omega, fun σ13 e13 => ⟨by omega, by omega, by omega, by omega, fun σ15 e15 => ⟨by omega, by omega, by omega, by omega, fun σ17 e17 => ⟨by omega, by omega, by omega, by omega, fun σ19 e19 => ?_⟩⟩⟩⟩⟩⟩⟩⟩
      · unfold Mo_without_156
        intro x1 e1
        have ex : x1 = ((k + 1 : Nat) : Int) := by omega
        rw [ex]
        have ek : keepP p (L.take (k + 1)) = keepP p (L.take k) := by
          rw [take_succ' hc, keepP_snoc, if_pos (by rw [← hck.2.1]; exact z), List.append_nil]
        exact ih (k + 1) K μ (by omega) (by rw [ek]; exact g2) hE e0 (by rw [ek]; exact ha) (fun i c' hi hc' => hb i c' (by omega) hc')
      · have h15 : ∀ (m : Nat) (i : Int), 19 ≤ m → m ≤ 24 → σ19 6 0 m i = if i = K then μ 6 0 m k else μ 6 0 m i := by
          intro m i a b
          by_cases q : i = K
          · subst q
            rw [if_pos rfl]
            rcases (by omega : m = 19 ∨ m = 20 ∨ m = 21 ∨ m = 22 ∨ m = 23 ∨ m = 24) with rfl | rfl | rfl | rfl | rfl | rfl
            · rw [e19, up_ne (by omega), e17, up_ne (by omega), e15, up_ne (by omega), e13, up_ne (by omega), e11, up_ne (by omega), e9, up_at]
            · rw [e19, up_ne (by omega), e17, up_ne (by omega), e15, up_ne (by omega), e13, up_ne (by omega), e11, up_at, e9, up_ne (by omega)]
            · rw [e19, up_ne (by omega), e17, up_ne (by omega), e15, up_ne (by omega), e13, up_at, e11, up_ne (by omega), e9, up_ne (by omega)]
            · rw [e19, up_ne (by omega), e17, up_ne (by omega), e15, up_at, e13, up_ne (by omega), e11, up_ne (by omega), e9, up_ne (by omega)]
            · rw [e19, up_ne (by omega), e17, up_at, e15, up_ne (by omega), e13, up_ne (by omega), e11, up_ne (by omega), e9, up_ne (by omega)]
            · rw [e19, up_at, e17, up_ne (by omega), e15, up_ne (by omega), e13, up_ne (by omega), e11, up_ne (by omega), e9, up_ne (by omega)]
          · rw [if_neg q, e19, up_ne (by omega), e17, up_ne (by omega), e15, up_ne (by omega), e13, up_ne (by omega), e11, up_ne (by omega), e9, up_ne (by omega)]
        have hr : ∀ c q k i, ¬ (c = 6 ∧ q = 0 ∧ 19 ≤ k ∧ k ≤ 24) → σ19 c q k i = μ c q k i := fun c q k i x1 => by rw [e19, up_ne (by omega), e17, up_ne (by omega), e15, up_ne (by omega), e13, up_ne (by omega), e11, up_ne (by omega), e9, up_ne (by omega)]
        refine w_Mo_wtail (by omega) (by omega) (by omega) (fun σ7 hF h6 => ?_)
        have h15' : ∀ (m : Nat) (i : Int), 19 ≤ m → m ≤ 24 → σ7 6 0 m i = if i = K then μ 6 0 m k else μ 6 0 m i := fun m i a b => by rw [hF _ _ _ _ (by omega)]; exact h15 m i a b
        have h6' : ∀ k' i, k' = 25 ∨ k' = 26 → σ7 6 0 k' i = if 3 * K ≤ i ∧ i < 3 * K + 3 then μ 6 0 k' (3 * k + (i - 3 * K)) else μ 6 0 k' i := fun k' i hk => by rw [h6 k' i hk, hr _ _ _ _ (by omega), hr _ _ _ _ (by omega)]
        unfold Mo_without_156
        intro x1 e1
        have ex : x1 = ((k + 1 : Nat) : Int) := by omega
        rw [ex]
        have ek : keepP p (L.take (k + 1)) = keepP p (L.take k) ++ [c] := by
          rw [take_succ' hc, keepP_snoc, if_neg (by rw [← hck.2.1]; exact z)]
        refine ih (k + 1) (K + 1) σ7 (by omega) (by rw [ek, List.length_append]; simp; omega) (hE.tr (fun c q k i x => ?_)) ?_ (fun i c' hi => ?_) (fun i c' hi hc' => ?_)
        · unfold S6w at x
          rw [hF _ _ _ _ (by omega), hr _ _ _ _ (by omega)]
        · rw [hF _ _ _ _ (by omega), hr _ _ _ _ (by omega)]; exact e0
        · rw [ek] at hi
          by_cases hil : i < (keepP p (L.take k)).length
          · rw [List.getElem?_append_left hil] at hi
            refine (ha i c' hi).eo (l3 c' ?_) (fun m a b => by rw [h15' m i a b, if_neg (by omega)]) (fun i' a b => ⟨by rw [h6' _ _ (by omega), if_neg (by omega)], by rw [h6' _ _ (by omega), if_neg (by omega)]⟩)
            exact List.mem_of_mem_take (List.mem_filter.mp (List.mem_of_getElem? hi)).1
          · rw [List.getElem?_append_right (by omega)] at hi
            have hi1 : i - (keepP p (L.take k)).length < 1 := (List.getElem?_eq_some_iff.mp hi).1
            have ei : (i : Int) = K := by omega
            rw [show i - (keepP p (L.take k)).length = 0 by omega] at hi
            cases hi
            obtain ⟨a1, a2, a3, a4, a5, a6, a7⟩ := hck
            refine ⟨by rw [h15' 19 _ (by omega) (by omega), if_pos ei]; exact a1, by rw [h15' 20 _ (by omega) (by omega), if_pos ei]; exact a2, by rw [h15' 21 _ (by omega) (by omega), if_pos ei]; exact a3, by rw [h15' 22 _ (by omega) (by omega), if_pos ei]; exact a4, by rw [h15' 23 _ (by omega) (by omega), if_pos ei]; exact a5, by rw [h15' 24 _ (by omega) (by omega), if_pos ei]; exact a6, fun i' r hr' => ?_⟩
            have hl3 := l3 c hcm
            have hi' := (List.getElem?_eq_some_iff.mp hr').1
            rw [h6' 25 _ (by omega), if_pos (by omega), h6' 26 _ (by omega), if_pos (by omega)]
            have : (3 * (k : Int) + (3 * (i : Int) + i' - 3 * K)) = 3 * (k : Int) + i' := by omega
            rw [this]
            exact a7 i' r hr'
        · have hl3 := l3 c' (List.mem_of_getElem? hc')
          refine (hb i c' (by omega) hc').eo hl3 (fun m a b => by rw [h15' m i a b, if_neg (by omega)]) (fun i' a b => ⟨by rw [h6' _ _ (by omega), if_neg (by omega)], by rw [h6' _ _ (by omega), if_neg (by omega)]⟩)
  exact ⟨_, key L.length 0 0 σ (by omega) rfl Eo.rf rfl (fun i c hi => by simp [keepP] at hi) (fun i c _ hc => l4 i c hc)⟩
/-! ===== the class: a part is told anew ===== -/
theorem w_Sr_retell {σ : Mem} {p : Int} {L : List CutT} {Q : Mem → Prop} (p0 : 0 ≤ p) (p1 : p < 4) (hL : RepC σ L) (hpb : ∀ c ∈ L, InR c.1) (hQ : ∀ σ', (∀ c q k i, ¬ (c = 1 ∧ q = 0) → ¬ (c = 4 ∧ q = 0 ∧ k < 4 ∧ i = 0) → ¬ (c = 3 ∧ q = p ∧ (k = 10 ∨ k = 11)) → σ' c q k i = σ c q k i) → RepC σ' (keepP p L) → (∀ i, 0 ≤ i → i < 256 → σ' 3 p 10 i = -9 ∧ σ' 3 p 11 i = 0) → σ' 4 0 0 0 = 0 → σ' 4 0 1 0 = 0 → σ' 4 0 2 0 = -4 → σ' 4 0 3 0 = -4 → Q σ') : Sr_retell p σ Q := by
  unfold Sr_retell Pa_forget
  refine ⟨p0, p1, fun σ1 e1 σ2 e2 => ?_⟩
  have f2 : ∀ c q k i, ¬ (c = 3 ∧ q = p ∧ (k = 10 ∨ k = 11)) → σ2 c q k i = σ c q k i := fun c q k i x => by
    rw [e2]
    unfold fl
    rw [if_neg (by omega), e1]
    unfold fl
    rw [if_neg (by omega)]
  have z10 : ∀ i, 0 ≤ i → i < 256 → σ2 3 p 10 i = -9 ∧ σ2 3 p 11 i = 0 := fun i i0 i1 => by
    constructor
    · rw [e2]
      unfold fl
      rw [if_neg (by omega), e1]
      unfold fl
      rw [if_pos ⟨rfl, rfl, rfl, i0, i1⟩]
    · rw [e2]
      unfold fl
      rw [if_pos ⟨rfl, rfl, rfl, i0, i1⟩]
  refine w_Cu_takeAway ⟨by omega, by omega⟩ (hL.eo (fun k i => f2 _ _ _ _ (by omega))) hpb (fun σ3 hE3 hL3 => w_Pg_restart (fun σ4 k1 k2 k3 k4 k5 => ?_))
  refine hQ σ4 (fun c q k i x1 x2 x3 => ?_) (hL3.eo (fun k i => k1 _ _ _ _ (by omega))) (fun i i0 i1 => ?_) k2 k3 k4 k5
  · rw [k1 c q k i x2, hE3 c q k i (fun y => x1 y)]; exact f2 c q k i x3
  · rw [k1 _ _ _ _ (by omega), k1 _ _ _ _ (by omega), hE3 _ _ _ _ (by unfold S1; omega), hE3 _ _ _ _ (by unfold S1; omega)]
    exact z10 i i0 i1
/-- what a change of one part leaves -/
theorem Inv.mk2 {σ σ' : Mem} {N p : Int} {s : St} (hs : IS σ N s) (hN : 0 ≤ N) (p0 : 0 ≤ p) (p1 : p < σ 5 0 3 0) (gg : ∀ c q k i, ¬ (c = 6 ∧ q = 0) → ¬ (c = 4 ∧ q = 0 ∧ k < 4 ∧ i = 0) → ¬ (c = 1 ∧ q = 0) → ¬ (c = 3 ∧ q = p) → σ' c q k i = σ c q k i) (gm : ∀ k i, k < 8 ∨ 31 ≤ k → σ' 6 0 k i = σ 6 0 k i) (hPB : PB σ' p) (hJB : JB σ' p) (hJS : ∀ j, 0 ≤ j → j < σ' 3 p 0 0 → σ' 3 p 2 j = σ' 0 0 1 (σ' 3 p 1 j)) (hMP : ∀ q, 0 ≤ q → q < 4 → MPa σ' q) (h10 : ∀ i, 0 ≤ i → i < 256 → σ' 3 p 10 i = -9 ∧ σ' 3 p 11 i = 0) (hC : RepC σ' (keepP p s.1)) (hM : RepM σ' (keepP p s.1)) (z1 : σ' 4 0 0 0 = 0 ∧ σ' 4 0 1 0 = 0 ∧ σ' 4 0 2 0 = -4 ∧ σ' 4 0 3 0 = -4) (z2 : σ' 6 0 27 0 = 0 ∧ σ' 6 0 28 0 = 0 ∧ σ' 6 0 29 0 = 0 ∧ σ' 6 0 30 0 = 0) : Inv σ' (N + 1) := by
  obtain ⟨a1, a2, a3, a4, a5, a6, a7⟩ := id hs
  obtain ⟨c1, c2, c3, c4, c5, c6, c7, c8, c9, c10, c11, c12, c13, c14⟩ := id a4
  obtain ⟨m1, m2, m3, m4, m5, m6, m7, m8, m9, m10, m11⟩ := id a5
  obtain ⟨d0, d1, d2, d3, d5, d7, dP⟩ := id a3
  have hpp := a1.2.2.1
  have e0' : ∀ k i, σ' 0 0 k i = σ 0 0 k i := fun k i => gg _ _ _ _ (by omega) (by omega) (by omega) (by omega)
  have e2' : ∀ k i, σ' 2 0 k i = σ 2 0 k i := fun k i => gg _ _ _ _ (by omega) (by omega) (by omega) (by omega)
  have e5' : ∀ k i, σ' 5 0 k i = σ 5 0 k i := fun k i => gg _ _ _ _ (by omega) (by omega) (by omega) (by omega)
  have e3' : ∀ q, q ≠ p → ∀ k i, σ' 3 q k i = σ 3 q k i := fun q hq k i => gg _ _ _ _ (by omega) (by omega) (by omega) (by omega)
  refine Inv.mk0 (L := keepP p s.1) ⟨a1.1.of e0', a1.2.1.of e2', by rw [e5']; exact hpp, fun q x0 x1 => ?_⟩ (fun q x0 x1 j y0 y1 => ?_) ⟨by rw [gm _ _ (by omega), e0']; exact d0, fun i x0 x1 => ?_, fun j x0 x1 => ?_, fun i x0 x1 => ?_, ⟨by rw [gm _ _ (by omega), e2']; exact d5.1, fun f x0 x1 => ?_⟩, by rw [gm _ _ (by omega), e5']; exact d7, hMP⟩ hC (fun q f sp q0 q1 f0 f1 hV => ?_) hM (fun c hc => ?_) z1 z2 (by rw [e5']; exact c11) (fun i x0 x1 => by rw [e0']; exact a7.1 i x0 x1) (fun i x0 x1 => ?_) (by omega) (fun i hc => by have := a7.2.2.2 i (List.mem_filter.mp hc).1; omega)
  · by_cases q' : q = p
    · subst q'
      refine ⟨hPB, fun f sp f0 f1 s0 s1 => Or.inl (h10 _ (by omega) (by omega)).1, fun i i0 i1 => Or.inr (by rw [(h10 i i0 i1).2]; omega), hJB⟩
    · obtain ⟨b1, b2, b3, b4⟩ := a1.2.2.2 q x0 x1
      exact ⟨b1.eo (fun k _ i => e3' q q' k i), b2.eo (fun k _ i => e3' q q' k i), b3.eo (fun i => e3' q q' 11 i), b4.of (by rw [e0']; exact Int.le_refl _) (fun k j _ => e3' q q' k j)⟩
  · by_cases q' : q = p
    · subst q'
      exact hJS j y0 y1
    · rw [e3' q q'] at y1
      rw [e3' q q', e3' q q', e0']
      exact a2 q x0 x1 j y0 y1
  · rw [e0'] at x1
    rw [gm _ _ (by omega), e0']; exact d1 i x0 x1
  · rw [gm _ _ (by omega), gm _ _ (by omega), e0']; exact d2 j x0 x1
  · rw [gm _ _ (by omega), e0']; exact d3 i x0 x1
  · rw [e2'] at x1
    rw [gm _ _ (by omega), e2']; exact d5.2 f x0 x1
  · by_cases q' : q = p
    · subst q'
      rw [FM_self, (h10 _ (by have := hV.1; omega) (by have := hV.1; omega)).2]
    · have e1 : σ' 3 q 1 = σ 3 q 1 := funext (e3' q q' 1)
      have e2 : σ' 3 q 2 = σ 3 q 2 := funext (e3' q q' 2)
      rw [e3' q q', e2] at hV
      rw [e3' q q', e3' q q', e1, FM_keep q']
      exact c4 q f sp q0 q1 f0 f1 hV
  · have hm := List.mem_filter.mp hc
    have hne : c.1 ≠ p := by simpa using hm.2
    exact (m3 c hm.1).grow (by rw [e5']; exact Int.le_refl _) (by rw [e2']; exact Int.le_refl _) (fun k j _ => e3' _ hne k j)
  · rw [e0'] at x0
    have q := a7.2.1 i x0 x1
    exact ⟨by rw [e0']; exact q.1, fun w v0 v1 => by rw [e0']; exact q.2 w v0 v1⟩

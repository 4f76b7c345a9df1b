/-! ===== the class: cuts of a part taken away ===== -/
def keepP (p : Int) (L : List CutT) : List CutT := L.filter (fun c => decide (c.1 ≠ p))
theorem keepP_snoc {p : Int} {L : List CutT} {c : CutT} : keepP p (L ++ [c]) = keepP p L ++ (if c.1 = p then [] else [c]) := by
  unfold keepP
  rw [List.filter_append]
  by_cases h : c.1 = p
  · simp [h]
  · simp [h]
theorem take_succ' {L : List CutT} {k : Nat} {c : CutT} (h : L[k]? = some c) : L.take (k + 1) = L.take k ++ [c] := by
  rw [List.take_succ, h]
  rfl
theorem keepP_le {p : Int} {L : List CutT} : (keepP p L).length ≤ L.length := List.length_filter_le _ _
set_option maxHeartbeats 1000000 in
theorem w_Cu_move {σ : Mem} {fr to : Int} {Q : Mem → Prop} (h0 : 0 ≤ to) (h1 : to ≤ fr) (h2 : fr < 200) (hQ : ∀ σ', Eo S1 σ σ' → σ' 1 0 0 0 = σ 1 0 0 0 → (∀ (m : Nat) (i : Int), 1 ≤ m → m ≤ 5 → σ' 1 0 m i = if i = to then σ 1 0 m fr else σ 1 0 m i) → (∀ i : Int, σ' 1 0 6 i = if to * 3 ≤ i ∧ i < to * 3 + 3 then σ 1 0 6 (fr * 3 + (i - to * 3)) else σ 1 0 6 i) → Q σ') : Cu_move fr to σ Q := by
  unfold Cu_move
  refine ⟨by omega, by omega, by omega, by omega, fun σ2 e2 => ⟨by omega, by omega, by omega, by omega, fun σ4 e4 => ⟨by omega, by omega, by omega, by omega, fun σ6 e6 => ⟨by omega, by omega, by omega, by omega, fun σ8 e8 => ⟨by omega, by omega, by omega, by omega, fun σ10 e10 => ?_⟩⟩⟩⟩⟩
  have q2 : ∀ (m : Nat) (i : Int), m ≠ 1 → σ2 1 0 m i = σ 1 0 m i := fun m i hm => by rw [e2, up_ne (by omega)]
  have q4 : ∀ (m : Nat) (i : Int), m ≠ 2 → σ4 1 0 m i = σ2 1 0 m i := fun m i hm => by rw [e4, up_ne (by omega)]
  have q6 : ∀ (m : Nat) (i : Int), m ≠ 3 → σ6 1 0 m i = σ4 1 0 m i := fun m i hm => by rw [e6, up_ne (by omega)]
  have q8 : ∀ (m : Nat) (i : Int), m ≠ 4 → σ8 1 0 m i = σ6 1 0 m i := fun m i hm => by rw [e8, up_ne (by omega)]
  have q10 : ∀ (m : Nat) (i : Int), m ≠ 5 → σ10 1 0 m i = σ8 1 0 m i := fun m i hm => by rw [e10, up_ne (by omega)]
  have hE : Eo S1 σ σ10 := by
    rw [e10, e8, e6, e4, e2]
    exact ((((Eo.of_up ⟨rfl, rfl⟩).tr (Eo.of_up ⟨rfl, rfl⟩)).tr (Eo.of_up ⟨rfl, rfl⟩)).tr (Eo.of_up ⟨rfl, rfl⟩)).tr (Eo.of_up ⟨rfl, rfl⟩)
  have r1 : ∀ i : Int, σ10 1 0 1 i = if i = to then σ 1 0 1 fr else σ 1 0 1 i := by
    intro i
    rw [q10 1 i (by omega), q8 1 i (by omega), q6 1 i (by omega), q4 1 i (by omega), e2, up_eqv]
    simp
  have r2 : ∀ i : Int, σ10 1 0 2 i = if i = to then σ 1 0 2 fr else σ 1 0 2 i := by
    intro i
    rw [q10 2 i (by omega), q8 2 i (by omega), q6 2 i (by omega), e4, up_eqv, q2 2 fr (by omega), q2 2 i (by omega)]
    simp
  have r3 : ∀ i : Int, σ10 1 0 3 i = if i = to then σ 1 0 3 fr else σ 1 0 3 i := by
    intro i
    rw [q10 3 i (by omega), q8 3 i (by omega), e6, up_eqv, q4 3 fr (by omega), q2 3 fr (by omega), q4 3 i (by omega), q2 3 i (by omega)]
    simp
  have r4 : ∀ i : Int, σ10 1 0 4 i = if i = to then σ 1 0 4 fr else σ 1 0 4 i := by
    intro i
    rw [q10 4 i (by omega), e8, up_eqv, q6 4 fr (by omega), q4 4 fr (by omega), q2 4 fr (by omega), q6 4 i (by omega), q4 4 i (by omega), q2 4 i (by omega)]
    simp
  have r5 : ∀ i : Int, σ10 1 0 5 i = if i = to then σ 1 0 5 fr else σ 1 0 5 i := by
    intro i
    rw [e10, up_eqv, q8 5 fr (by omega), q6 5 fr (by omega), q4 5 fr (by omega), q2 5 fr (by omega), q8 5 i (by omega), q6 5 i (by omega), q4 5 i (by omega), q2 5 i (by omega)]
    simp
  have rr : ∀ (m : Nat) (i : Int), m = 0 ∨ m = 6 → σ10 1 0 m i = σ 1 0 m i := fun m i hm => by rw [q10 m i (by omega), q8 m i (by omega), q6 m i (by omega), q4 m i (by omega), q2 m i (by omega)]
  have all : ∀ (m : Nat) (i : Int), 1 ≤ m → m ≤ 5 → σ10 1 0 m i = if i = to then σ 1 0 m fr else σ 1 0 m i := by
    intro m i a b
    rcases (by omega : m = 1 ∨ m = 2 ∨ m = 3 ∨ m = 4 ∨ m = 5) with rfl | rfl | rfl | rfl | rfl
    · exact r1 i
    · exact r2 i
    · exact r3 i
    · exact r4 i
    · exact r5 i
  have key : ∀ (k : Nat) (l : Int) (μ : Mem), l + k = 3 → 0 ≤ l → Eo (fun c q k => c = 1 ∧ q = 0 ∧ k = 6) σ10 μ → (∀ i : Int, μ 1 0 6 i = if to * 3 ≤ i ∧ i < to * 3 + l then σ 1 0 6 (fr * 3 + (i - to * 3)) else σ 1 0 6 i) → Cu_move_62 Q (k + 1) fr to l μ := by
    intro k
    induction k with
    | zero =>
      intro l μ g1 g2 hE' h6
      unfold Cu_move_62
      refine ⟨⟨by omega, by omega⟩, fun _ => ?_, fun z => absurd z (by omega)⟩
      have q : ∀ (m : Nat) (i : Int), m ≠ 6 → μ 1 0 m i = σ10 1 0 m i := fun m i hm => hE' 1 0 m i (by omega)
      have el : l = 3 := by omega
      subst el
      exact hQ μ (hE.tr (hE'.mono (fun c q k z => ⟨z.1, z.2.1⟩))) (by rw [q 0 0 (by omega), rr 0 0 (by omega)]) (fun m i a b => by rw [q m i (by omega)]; exact all m i a b) h6
    | succ k ih =>
      intro l μ g1 g2 hE' h6
      unfold Cu_move_62
      refine ⟨⟨by omega, by omega⟩, fun z => absurd z (by omega), fun _ => ⟨by omega, by omega, by omega, by omega, fun σ4' e4' x5 e5 => ?_⟩⟩
      subst e4'
      refine ih x5 _ (by omega) (by omega) (hE'.tr (Eo.of_up ⟨rfl, rfl, rfl⟩)) (fun i => ?_)
      have hfr : μ 1 0 6 (fr * 3 + l) = σ 1 0 6 (fr * 3 + l) := by rw [h6, if_neg (by omega)]
      by_cases c : i = to * 3 + l
      · subst c
        rw [up_at, hfr, if_pos (by omega)]
        congr 1
        omega
      · rw [up_ne (by omega), h6]
        by_cases c2 : to * 3 ≤ i ∧ i < to * 3 + l
        · rw [if_pos c2, if_pos (by omega)]
        · rw [if_neg c2, if_neg (by omega)]
  exact ⟨_, key 3 0 σ10 (by omega) (by omega) Eo.rf (fun i => by rw [rr 6 i (by omega), if_neg (by omega)])⟩
set_option maxHeartbeats 1000000 in
theorem w_Cu_takeAway {σ : Mem} {p : Int} {L : List CutT} {Q : Mem → Prop} (hp : InR p) (hL : RepC σ L) (hpb : ∀ c ∈ L, InR c.1) (hQ : ∀ σ', Eo S1 σ σ' → RepC σ' (keepP p L) → Q σ') : Cu_takeAway p σ Q := by
  obtain ⟨l1, l2, l3, l4⟩ := hL
  have key : ∀ (m k : Nat) (K : Int) (μ : Mem), k + m = L.length → K = (keepP p (L.take k)).length → Eo S1 σ μ → μ 1 0 0 0 = σ 1 0 0 0 → (∀ (i : Nat) (c : CutT), (keepP p (L.take k))[i]? = some c → CutC μ i c) → (∀ (i : Nat) (c : CutT), k ≤ i → L[i]? = some c → CutC μ i c) → Cu_takeAway_4 Q (m + 1) p K k μ := by
    intro m
    induction m with
    | zero =>
      intro k K μ g1 g2 hE e0 ha hb
      unfold Cu_takeAway_4
      rw [e0, l1]
      refine ⟨⟨by omega, by omega⟩, ⟨by omega, by omega⟩, fun _ => fun σ3 e3 => ?_, fun z => absurd z (by omega)⟩
      subst e3
      have et : L.take k = L := List.take_of_length_le (by omega)
      rw [et] at g2 ha
      have hlen := keepP_le (p := p) (L := L)
      refine hQ _ (hE.tr (Eo.of_up ⟨rfl, rfl⟩)) ⟨by rw [up_at]; exact g2, by omega, fun c hc => l3 c (List.mem_filter.mp hc).1, fun i c hc => ?_⟩
      exact (ha i c hc).eo (l3 c (List.mem_filter.mp (List.mem_of_getElem? hc)).1) (fun m a b => up_ne (by omega)) (fun i a b => up_ne (by omega))
    | succ m ih =>
      intro k K μ g1 g2 hE e0 ha hb
      have hkl : k < L.length := by omega
      obtain ⟨c, hc⟩ : ∃ c, L[k]? = some c := ⟨L[k], List.getElem?_eq_getElem hkl⟩
      have hcm := List.mem_of_getElem? hc
      have hck := hb k c (Nat.le_refl k) hc
      have hKk : (keepP p (L.take k)).length ≤ k := Nat.le_trans keepP_le (List.length_take_le _ _)
      unfold Cu_takeAway_4
      rw [e0, l1]
      refine ⟨⟨by omega, by omega⟩, ⟨by omega, by omega⟩, fun z => absurd z (by omega), fun _ => ⟨by omega, by omega, by rw [hck.1]; exact hpb c hcm, hp, fun z => ?_, fun z => ?_⟩⟩
      · unfold Cu_takeAway_31
        intro x1 e1
        have ex : x1 = ((k + 1 : Nat) : Int) := by omega
        rw [ex]
        have ek : keepP p (L.take (k + 1)) = keepP p (L.take k) := by
          rw [take_succ' hc, keepP_snoc, if_pos (by rw [← hck.1]; exact z), List.append_nil]
        exact ih (k + 1) K μ (by omega) (by rw [ek]; exact g2) hE e0 (by rw [ek]; exact ha) (fun i c' hi hc' => hb i c' (by omega) hc')
      · refine w_Cu_move (by omega) (by omega) (by omega) (fun σ7 hE7 e70 h15 h6 x8 e8 => ?_)
        unfold Cu_takeAway_31
        intro x1 e1
        have ex : x1 = ((k + 1 : Nat) : Int) := by omega
        rw [ex]
        have ek : keepP p (L.take (k + 1)) = keepP p (L.take k) ++ [c] := by
          rw [take_succ' hc, keepP_snoc, if_neg (by rw [← hck.1]; exact z)]
        refine ih (k + 1) x8 σ7 (by omega) (by rw [ek, List.length_append]; simp; omega) (hE.tr hE7) (e70.trans e0) (fun i c' hi => ?_) (fun i c' hi hc' => ?_)
        · rw [ek] at hi
          by_cases hil : i < (keepP p (L.take k)).length
          · rw [List.getElem?_append_left hil] at hi
            refine (ha i c' hi).eo (l3 c' ?_) (fun m a b => by rw [h15 m i a b, if_neg (by omega)]) (fun i' a b => by rw [h6, if_neg (by omega)])
            exact List.mem_of_mem_take (List.mem_filter.mp (List.mem_of_getElem? hi)).1
          · rw [List.getElem?_append_right (by omega)] at hi
            have hi1 : i - (keepP p (L.take k)).length < 1 := (List.getElem?_eq_some_iff.mp hi).1
            have ei : (i : Int) = K := by omega
            rw [show i - (keepP p (L.take k)).length = 0 by omega] at hi
            cases hi
            obtain ⟨a1, a2, a3, a4, a5, a6⟩ := hck
            refine ⟨by rw [h15 1 _ (by omega) (by omega), if_pos ei]; exact a1, by rw [h15 2 _ (by omega) (by omega), if_pos ei]; exact a2, by rw [h15 3 _ (by omega) (by omega), if_pos ei]; exact a3, by rw [h15 4 _ (by omega) (by omega), if_pos ei]; exact a4, by rw [h15 5 _ (by omega) (by omega), if_pos ei]; exact a5, fun i' r hr => ?_⟩
            have hl3 := l3 c hcm
            have hi' := (List.getElem?_eq_some_iff.mp hr).1
            rw [h6, if_pos (by omega)]
            have : ((k : Int) * 3 + ((i : Int) * 3 + i' - K * 3)) = (k : Int) * 3 + i' := by omega
            rw [this]
            exact a6 i' r hr
        · have hl3 := l3 c' (List.mem_of_getElem? hc')
          refine (hb i c' (by omega) hc').eo hl3 (fun m a b => by rw [h15 m i a b, if_neg (by omega)]) (fun i' a b => by rw [h6, if_neg (by omega)])
  exact ⟨_, key L.length 0 0 σ (by omega) rfl Eo.rf rfl (fun i c hi => by simp [keepP] at hi) (fun i c _ hc => l4 i c hc)⟩

/-! ===== calls that only read ===== -/
theorem IS.here {σ : Mem} {N : Int} {s : St} (h : IS σ N s) : Inv σ (N + 1) := ⟨s, h.more (by omega)⟩
theorem w_Pg_hasBest {σ : Mem} {u : Int} {Q : Int → Mem → Prop} (e : σ 4 0 3 0 = u) (hu : okN u) (hQ1 : u ≠ -4 → Q 1 σ) (hQ0 : u = -4 → Q 0 σ) : Pg_hasBest σ Q := by
  unfold okN at hu
  unfold Pg_hasBest Pg_hasBest_14
  rw [e]
  exact ⟨⟨by omega, by omega⟩, fun z => ⟨Or.inl rfl, hQ0 z⟩, fun z => ⟨Or.inr rfl, hQ1 z⟩⟩
theorem w_Pg_hasMaster {σ : Mem} {u : Int} {Q : Int → Mem → Prop} (e : σ 4 0 2 0 = u) (hu : okN u) (hQ1 : u ≠ -4 → Q 1 σ) (hQ0 : u = -4 → Q 0 σ) : Pg_hasMaster σ Q := by
  unfold okN at hu
  unfold Pg_hasMaster Pg_hasMaster_14
  rw [e]
  exact ⟨⟨by omega, by omega⟩, fun z => ⟨Or.inl rfl, hQ0 z⟩, fun z => ⟨Or.inr rfl, hQ1 z⟩⟩
theorem op_told {σ : Mem} {N w : Int} {Q : Int → Mem → Prop} (hI : Inv σ N) (hN : 0 ≤ N ∧ N ≤ 1000) (hw : InR w) (hQ : ∀ r1 σ1, After (Mo_told w) (N + 1) r1 σ1 → Q r1 σ1) : Sr_told w σ Q := by
  obtain ⟨s, hs⟩ := hI
  obtain ⟨a1, a2, a3, a4, a5, a6, a7⟩ := id hs
  obtain ⟨c1, c2, c3, c4, c5, c6, c7, c8, c9, c10, c11, c12, c13, c14⟩ := a4
  obtain ⟨m1, m2, m3, m4, m5, m6, m7, m8, m9, m10, m11⟩ := a5
  obtain ⟨d0, d1, d2, d3, ⟨d5, d6⟩, d7, dP⟩ := id a3
  have l200 := c3.2.1
  have hr := a7.2.2.1
  have hch := a1.1.1
  have hfu := a1.2.1.1
  have hpp := a1.2.2.1
  have hsw := sumW_bd a1.2.1
  unfold okN at c12 c13
  have fin : ∀ x, InR x → (∀ Q2 : Int → Mem → Prop, Q2 x σ → Mo_told w σ Q2) → Q x σ := fun x hx h2 => hQ x σ ⟨hx, fun Q2 h3 => h2 Q2 (h3 σ hs.here)⟩
  unfold Sr_told
  rw [c5, c3.1, c7, c8, c6]
  refine ⟨hw, fun e => fin _ ⟨by omega, by omega⟩ (fun Q2 h2 => ?_), fun e => fin _ ⟨by omega, by omega⟩ (fun Q2 h2 => ?_), fun e => fin _ ⟨by omega, by omega⟩ (fun Q2 h2 => ?_), fun e => fin _ ⟨by omega, by omega⟩ (fun Q2 h2 => ?_), fun e => w_Fu_sum a1.2.1 (fin _ ⟨by omega, by omega⟩ (fun Q2 h2 => ?_)), fun e => fin _ ⟨by omega, by omega⟩ (fun Q2 h2 => ?_), fun e => fin _ ⟨by omega, by omega⟩ (fun Q2 h2 => ?_), fun e => fin _ ⟨by omega, by omega⟩ (fun Q2 h2 => ?_), fun e => fin _ ⟨by omega, by omega⟩ (fun Q2 h2 => ?_), fun e => fin _ ⟨by omega, by omega⟩ (fun Q2 h2 => ?_)⟩ <;> unfold Mo_told <;> refine ⟨hw, fun z => ?_, fun z => ?_, fun z => ?_, fun z => ?_, fun z => ?_, fun z => ?_, fun z => ?_, fun z => ?_, fun z => ?_, fun z => ?_⟩ <;> first | (exfalso; omega) | skip
  · rw [m4]; exact h2
  · rw [m2.1]; exact h2
  · by_cases hx : s.2.2.2.1 = -4
    · rw [m6.1 hx]
      exact ⟨⟨by omega, by omega⟩, fun _ => by rw [hx] at h2; exact h2, fun z => absurd rfl z⟩
    · obtain ⟨y1, y2, -⟩ := m6.2 hx
      rw [y1, y2]
      exact ⟨⟨by omega, by omega⟩, fun z => absurd z (by omega), fun _ => h2⟩
  · by_cases hx : s.2.2.2.2.1 = -4
    · rw [m7.1 hx]
      exact ⟨⟨by omega, by omega⟩, fun _ => by rw [hx] at h2; exact h2, fun z => absurd rfl z⟩
    · obtain ⟨y1, y2, -⟩ := m7.2 hx
      rw [y1, y2]
      exact ⟨⟨by omega, by omega⟩, fun z => absurd z (by omega), fun _ => h2⟩
  · exact w_Mo_allWeights a1 a3 h2
  · rw [d0]; exact h2
  · rw [d7]; exact h2
  · rw [d5]; exact h2
  · rw [m5]; exact h2
  · exact h2
theorem op_best {σ : Mem} {N w : Int} {Q : Int → Mem → Prop} (hI : Inv σ N) (hN : 0 ≤ N ∧ N ≤ 1000) (hw : InR w) (hQ : ∀ r1 σ1, After (Mo_best w) (N + 1) r1 σ1 → Q r1 σ1) : Sr_best w σ Q := by
  obtain ⟨s, hs⟩ := hI
  obtain ⟨a1, a2, a3, a4, a5, a6, a7⟩ := id hs
  obtain ⟨c1, c2, c3, c4, c5, c6, c7, c8, c9, c10, c11, c12, c13, c14⟩ := a4
  obtain ⟨m1, m2, m3, m4, m5, m6, m7, m8, m9, m10, m11⟩ := a5
  have d0 := a3.1
  have hch := a1.1.1
  have fin : ∀ x, InR x → (∀ Q2 : Int → Mem → Prop, Q2 x σ → Mo_best w σ Q2) → Q x σ := fun x hx h2 => hQ x σ ⟨hx, fun Q2 h3 => h2 Q2 (h3 σ hs.here)⟩
  unfold Sr_best
  refine w_Ch_knows hw a1.1 (fun a b => ⟨⟨by omega, by omega⟩, fun _ => ?_, fun z => absurd z (by omega)⟩) (fun z => ⟨⟨by omega, by omega⟩, fun y => absurd rfl y, fun _ => fin (-1) ⟨by omega, by omega⟩ (fun Q2 h2 => ?_)⟩)
  · refine w_Pg_hasBest c8 c13 (fun z => ⟨⟨by omega, by omega⟩, fun y => absurd y (by omega), fun _ => ⟨by omega, by omega, ?_⟩⟩) (fun z => ⟨⟨by omega, by omega⟩, fun _ => ?_, fun y => absurd rfl y⟩)
    · unfold Sr_best_37
      rw [c10 z w a (by omega)]
      have bb := (a6.2 z).1 w a (by omega)
      have := (Tch_bd a1.1 w a).2
      refine fin _ ⟨by omega, by omega⟩ (fun Q2 h2 => ?_)
      obtain ⟨y1, y2, y3⟩ := m7.2 z
      unfold Mo_best
      rw [d0]
      refine w_Mo_beyond hw ⟨by omega, by omega⟩ ⟨by omega, by omega⟩ (fun y => absurd y (by omega)) (fun _ _ => ?_)
      rw [y1]
      refine ⟨⟨by omega, by omega⟩, fun _ => ⟨⟨by omega, by omega⟩, fun y => absurd y (by omega), fun _ => ⟨by omega, by omega, ?_⟩⟩, fun y => absurd rfl y⟩
      unfold Mo_best_34
      rw [y3 w a (by omega)]
      exact h2
    · unfold Sr_best_37
      refine fin _ ⟨by omega, by omega⟩ (fun Q2 h2 => ?_)
      unfold Mo_best
      rw [d0]
      refine w_Mo_beyond hw ⟨by omega, by omega⟩ ⟨by omega, by omega⟩ (fun y => absurd y (by omega)) (fun _ _ => ?_)
      rw [m7.1 z]
      exact ⟨⟨by omega, by omega⟩, fun _ => ⟨⟨by omega, by omega⟩, fun _ => h2, fun y => absurd rfl y⟩, fun y => absurd rfl y⟩
  · unfold Mo_best
    rw [d0]
    refine w_Mo_beyond hw ⟨by omega, by omega⟩ ⟨by omega, by omega⟩ (fun _ => ⟨⟨by omega, by omega⟩, fun y => absurd y (by omega), fun _ => h2⟩) (fun y y' => absurd y (by omega))
theorem op_master {σ : Mem} {N w : Int} {Q : Int → Mem → Prop} (hI : Inv σ N) (hN : 0 ≤ N ∧ N ≤ 1000) (hw : InR w) (hQ : ∀ r1 σ1, After (Mo_master w) (N + 1) r1 σ1 → Q r1 σ1) : Sr_master w σ Q := by
  obtain ⟨s, hs⟩ := hI
  obtain ⟨a1, a2, a3, a4, a5, a6, a7⟩ := id hs
  obtain ⟨c1, c2, c3, c4, c5, c6, c7, c8, c9, c10, c11, c12, c13, c14⟩ := a4
  obtain ⟨m1, m2, m3, m4, m5, m6, m7, m8, m9, m10, m11⟩ := a5
  have d0 := a3.1
  have hch := a1.1.1
  have fin : ∀ x, InR x → (∀ Q2 : Int → Mem → Prop, Q2 x σ → Mo_master w σ Q2) → Q x σ := fun x hx h2 => hQ x σ ⟨hx, fun Q2 h3 => h2 Q2 (h3 σ hs.here)⟩
  unfold Sr_master
  refine w_Ch_knows hw a1.1 (fun a b => ⟨⟨by omega, by omega⟩, fun _ => ?_, fun z => absurd z (by omega)⟩) (fun z => ⟨⟨by omega, by omega⟩, fun y => absurd rfl y, fun _ => fin (-1) ⟨by omega, by omega⟩ (fun Q2 h2 => ?_)⟩)
  · refine w_Pg_hasMaster c7 c12 (fun z => ⟨⟨by omega, by omega⟩, fun y => absurd y (by omega), fun _ => ⟨by omega, by omega, ?_⟩⟩) (fun z => ⟨⟨by omega, by omega⟩, fun _ => ?_, fun y => absurd rfl y⟩)
    · unfold Sr_master_37
      rw [c9 z w a (by omega)]
      have bb := a6.1 z w a (by omega)
      refine fin _ ⟨by omega, by omega⟩ (fun Q2 h2 => ?_)
      obtain ⟨y1, y2, y3⟩ := m6.2 z
      unfold Mo_master
      rw [d0]
      refine w_Mo_beyond hw ⟨by omega, by omega⟩ ⟨by omega, by omega⟩ (fun y => absurd y (by omega)) (fun _ _ => ?_)
      rw [y1]
      refine ⟨⟨by omega, by omega⟩, fun _ => ⟨⟨by omega, by omega⟩, fun y => absurd y (by omega), fun _ => ⟨by omega, by omega, ?_⟩⟩, fun y => absurd rfl y⟩
      unfold Mo_master_34
      rw [y3 w a (by omega)]
      exact h2
    · unfold Sr_master_37
      refine fin _ ⟨by omega, by omega⟩ (fun Q2 h2 => ?_)
      unfold Mo_master
      rw [d0]
      refine w_Mo_beyond hw ⟨by omega, by omega⟩ ⟨by omega, by omega⟩ (fun y => absurd y (by omega)) (fun _ _ => ?_)
      rw [m6.1 z]
      exact ⟨⟨by omega, by omega⟩, fun _ => ⟨⟨by omega, by omega⟩, fun _ => h2, fun y => absurd rfl y⟩, fun y => absurd rfl y⟩
  · unfold Mo_master
    rw [d0]
    refine w_Mo_beyond hw ⟨by omega, by omega⟩ ⟨by omega, by omega⟩ (fun _ => ⟨⟨by omega, by omega⟩, fun y => absurd y (by omega), fun _ => h2⟩) (fun y y' => absurd y (by omega))
/-! ===== cuts, as they are told ===== -/
theorem w_Cu_isMetBy {σ : Mem} {k : Nat} {c : CutT} {vc vk : Nat} {vp : Int} {Q : Int → Mem → Prop} (hk : k < 200) (hc : CutC σ k c) (hok : okC σ c) (hb : PB σ c.1) (hv : ∀ c, 0 ≤ c → c < 6 → 0 ≤ σ vc vp vk c ∧ σ vc vp vk c < 4) (hQ1 : (∀ r ∈ c.2.2.2.2, σ vc vp vk r.1 = r.2) → Q 1 σ) (hQ0 : ¬ (∀ r ∈ c.2.2.2.2, σ vc vp vk r.1 = r.2) → Q 0 σ) : Cu_isMetBy k vc vp vk σ Q := by
  obtain ⟨q1, q2, q3, q4, q5, q6⟩ := hc
  obtain ⟨o1, o2, o3, o4, o5, o6⟩ := hok
  have key : ∀ (m i : Nat), (i : Int) + m = c.2.2.2.2.length → (∀ (i' : Nat) (r : Int × Int), i' < i → c.2.2.2.2[i']? = some r → σ vc vp vk r.1 = r.2) → Cu_isMetBy_2 Q (m + 1) k vc vp vk i σ := by
    intro m
    induction m with
    | zero =>
      intro i h1 hh
      unfold Cu_isMetBy_2
      rw [q5]
      refine ⟨by omega, by omega, ⟨by omega, by omega⟩, ⟨by omega, by omega⟩, fun _ => hQ1 (fun r hr => ?_), fun z => absurd z (by omega)⟩
      obtain ⟨i', hi'⟩ := List.getElem?_of_mem hr
      exact hh i' r (by have := (List.getElem?_eq_some_iff.mp hi').1; omega) hi'
    | succ m ih =>
      intro i h1 hh
      have hil : i < c.2.2.2.2.length := by omega
      obtain ⟨r, hr⟩ : ∃ r, c.2.2.2.2[i]? = some r := ⟨_, List.getElem?_eq_getElem hil⟩
      have hrm := List.mem_of_getElem? hr
      obtain ⟨or2, j0, j0a, j0b, j0c⟩ := o6 r hrm
      have bj := (hb.2.2.2.1 j0 j0a j0b).1
      rw [j0c] at bj
      have e6 := q6 i r hr
      obtain ⟨n, hn⟩ := Int.eq_ofNat_of_zero_le (show 0 ≤ 10 * r.1 + r.2 by omega)
      have bf := bd_fig n (by omega)
      have ed : iDiv (10 * r.1 + r.2) 10 = r.1 := by rw [hn, bf.2.2.2.1, ← hn]; omega
      have er : iRem (10 * r.1 + r.2) 10 = r.2 := by rw [hn, bf.2.2.2.2, ← hn]; omega
      have bv := hv r.1 bj.1 bj.2
      unfold Cu_isMetBy_2
      rw [q5, e6]
      refine ⟨by omega, by omega, ⟨by omega, by omega⟩, ⟨by omega, by omega⟩, fun z => absurd z (by omega), fun _ => ⟨by omega, by omega, fun x5 e5 => ?_⟩⟩
      rw [e5, ed, er]
      refine ⟨bj.1, bj.2, ⟨by omega, by omega⟩, ⟨by omega, by omega⟩, fun y x9 e9 => ?_, fun y => hQ0 (fun y' => y (y' r hrm))⟩
      have ex : x9 = ((i + 1 : Nat) : Int) := by omega
      rw [ex]
      refine ih (i + 1) (by omega) (fun i' r' a b => ?_)
      by_cases q : i' = i
      · subst q
        rw [hr] at b
        cases b
        exact y
      · exact hh i' r' (by omega) b
  exact ⟨_, key c.2.2.2.2.length 0 (by omega) (fun i' r a => absurd a (by omega))⟩
theorem Mr_val {σ : Mem} {p : Int} {rs : List (Int × Int)} {d : Int → Int} (hb : PB σ p) (hd : ∀ c, 0 ≤ c → c < 6 → 0 ≤ d c ∧ d c < 4) (ho : ∀ r ∈ rs, ∃ j, 0 ≤ j ∧ j < σ 3 p 0 0 ∧ σ 3 p 1 j = r.1) : Mr (σ 3 p 0 0) (σ 3 p 1) rs (spt (σ 3 p 0 0) (fun j => d (σ 3 p 1 j))) ↔ ∀ r ∈ rs, d r.1 = r.2 := by
  have hq : ∀ j, 0 ≤ j → j < σ 3 p 0 0 → dS (spt (σ 3 p 0 0) (fun j => d (σ 3 p 1 j))) j = d (σ 3 p 1 j) := fun j a b => spt_dS (n := σ 3 p 0 0) (d := fun j => d (σ 3 p 1 j)) hb.1.2 (fun j a b => hd _ (hb.2.2.2.1 j a b).1.1 (hb.2.2.2.1 j a b).1.2) j a b
  constructor
  · intro z r hr
    obtain ⟨j, a, b, e⟩ := ho r hr
    have := z r hr j a b e
    rw [hq j a b, e] at this
    exact this
  · intro z r hr j a b e
    rw [hq j a b, e]
    exact z r hr
set_option maxHeartbeats 1000000 in
theorem op_cut {σ : Mem} {N k w : Int} {Q : Int → Mem → Prop} (hI : Inv σ N) (hN : 0 ≤ N ∧ N ≤ 1000) (hk : InR k) (hw : InR w) (hQ : ∀ r1 σ1, After (Mo_cut k w) (N + 1) r1 σ1 → Q r1 σ1) : Sr_cut k w σ Q := by
  obtain ⟨s, hs⟩ := hI
  obtain ⟨a1, a2, a3, a4, a5, a6, a7⟩ := id hs
  obtain ⟨c1, c2, c3, c4, c5, c6, c7, c8, c9, c10, c11, c12, c13, c14⟩ := a4
  obtain ⟨m1, m2, m3, m4, m5, m6, m7, m8, m9, m10, m11⟩ := a5
  have l200 := c3.2.1
  have hpp := a1.2.2.1
  have hff := a1.2.1.1
  have fin : ∀ x, InR x → (∀ Q2 : Int → Mem → Prop, Q2 x σ → Mo_cut k w σ Q2) → Q x σ := fun x hx h2 => hQ x σ ⟨hx, fun Q2 h3 => h2 Q2 (h3 σ hs.here)⟩
  unfold Sr_cut
  refine w_Cu_knows hk c3 (fun a b => ⟨⟨by omega, by omega⟩, fun _ => ?_, fun z => absurd z (by omega)⟩) (fun z => ⟨⟨by omega, by omega⟩, fun y => absurd rfl y, fun _ => fin (-1) ⟨by omega, by omega⟩ (fun Q2 h2 => ?_)⟩)
  rotate_left
  · unfold Mo_cut
    rw [m2.1]
    refine w_Mo_beyond hk ⟨by omega, by omega⟩ ⟨by omega, by omega⟩ (fun _ => ⟨⟨by omega, by omega⟩, fun y => absurd y (by omega), fun _ => h2⟩) (fun y y' => absurd y (by omega))
  obtain ⟨n, rfl⟩ := Int.eq_ofNat_of_zero_le a
  obtain ⟨c, hc⟩ : ∃ c, s.1[n]? = some c := ⟨_, List.getElem?_eq_getElem (by omega)⟩
  have hcm := List.mem_of_getElem? hc
  have hC := c3.2.2.2 n c hc
  have hM := m2.2.2.2 n c hc
  have hok := m3 c hcm
  obtain ⟨q1, q2, q3, q4, q5, q6⟩ := id hC
  obtain ⟨r1, r2, r3, r4, r5, r6, r7⟩ := id hM
  obtain ⟨o1, o2, o3, o4, o5, o6⟩ := id hok
  have hrb := a7.2.2.2 c hcm
  have hb := (a1.2.2.2 c.1 o1.1 (by omega)).1
  have fin2 : ∀ x, InR x → (∀ Q2 : Int → Mem → Prop, Q2 x σ → InR w ∧ ((w = 0 → 0 ≤ (n : Int) ∧ (n : Int) < 200 ∧ InR (σ 6 0 19 n) ∧ ((σ 6 0 19 n = 0 → Mo_cut_74 Q2 0 σ) ∧ (σ 6 0 19 n ≠ 0 → Mo_cut_74 Q2 1 σ))) ∧ (w = 1 → 0 ≤ (n : Int) ∧ (n : Int) < 200 ∧ Q2 (σ 6 0 20 n) σ) ∧ (w = 2 → 0 ≤ (n : Int) ∧ (n : Int) < 200 ∧ Q2 (σ 6 0 21 n) σ) ∧ (w = 3 → 0 ≤ (n : Int) ∧ (n : Int) < 200 ∧ Q2 (σ 6 0 22 n) σ) ∧ (w = 4 → 0 ≤ (n : Int) ∧ (n : Int) < 200 ∧ Q2 (σ 6 0 24 n) σ) ∧ (w = 5 → 0 ≤ (n : Int) ∧ (n : Int) < 200 ∧ Q2 (σ 6 0 23 n) σ) ∧ (w = 6 → 0 ≤ (n : Int) ∧ (n : Int) < 200 ∧ 0 ≤ (n : Int) ∧ (n : Int) < 200 ∧ Mo_codeOf (σ 6 0 20 n) 6 0 4 σ (fun r13 σ13 => Mo_meets n (σ 6 0 20 n) r13 σ13 (fun r14 σ14 => InR r14 ∧ ((r14 = 0 → Mo_cut_143 Q2 0 σ14) ∧ (r14 ≠ 0 → Mo_cut_143 Q2 1 σ14))))) ∧ (w < 0 ∨ 6 < w → Q2 (-2) σ))) → Q x σ := by
    intro x hx h2
    refine fin x hx (fun Q2 h3 => ?_)
    unfold Mo_cut
    rw [m2.1]
    refine w_Mo_beyond hk ⟨by omega, by omega⟩ ⟨by omega, by omega⟩ (fun y => absurd y (by omega)) (fun _ _ => ⟨⟨by omega, by omega⟩, fun _ => h2 Q2 h3, fun y => absurd rfl y⟩)
  refine ⟨hw, fun e => ⟨by omega, by omega, ?_⟩, fun e => ⟨by omega, by omega, ?_⟩, fun e => ⟨by omega, by omega, ?_⟩, fun e => ⟨by omega, by omega, ?_⟩, fun e => ⟨by omega, by omega, ?_⟩, fun e => ⟨by omega, by omega, ?_⟩, fun e => ?_, fun e => ?_⟩
  · rw [q3]
    by_cases hx : c.2.2.1 = -4
    · rw [if_pos hx] at r1
      refine ⟨⟨by omega, by omega⟩, fun z => absurd hx z, fun _ => fin2 _ ⟨by omega, by omega⟩ (fun Q2 h2 => ?_)⟩
      rw [r1]
      refine ⟨hw, fun z => ⟨by omega, by omega, ⟨by omega, by omega⟩, fun _ => h2, fun y => absurd rfl y⟩, fun z => ?_, fun z => ?_, fun z => ?_, fun z => ?_, fun z => ?_, fun z => ?_, fun z => ?_⟩ <;> (exfalso; omega)
    · rw [if_neg hx] at r1
      refine ⟨⟨by omega, by omega⟩, fun _ => fin2 _ ⟨by omega, by omega⟩ (fun Q2 h2 => ?_), fun z => absurd z hx⟩
      rw [r1]
      refine ⟨hw, fun z => ⟨by omega, by omega, ⟨by omega, by omega⟩, fun y => absurd y (by omega), fun y => h2⟩, fun z => ?_, fun z => ?_, fun z => ?_, fun z => ?_, fun z => ?_, fun z => ?_, fun z => ?_⟩ <;> (exfalso; omega)
  · rw [q1]
    refine fin2 _ ⟨by omega, by omega⟩ (fun Q2 h2 => ?_)
    rw [r2]
    refine ⟨hw, fun z => ?_, fun z => ⟨by omega, by omega, h2⟩, fun z => ?_, fun z => ?_, fun z => ?_, fun z => ?_, fun z => ?_, fun z => ?_⟩ <;> (exfalso; omega)
  · rw [q2]
    refine fin2 _ ⟨by omega, by omega⟩ (fun Q2 h2 => ?_)
    rw [r3]
    refine ⟨hw, fun z => ?_, fun z => ?_, fun z => ⟨by omega, by omega, h2⟩, fun z => ?_, fun z => ?_, fun z => ?_, fun z => ?_, fun z => ?_⟩ <;> (exfalso; omega)
  · rw [q3]
    refine fin2 _ ⟨by omega, by omega⟩ (fun Q2 h2 => ?_)
    rw [r4]
    refine ⟨hw, fun z => ?_, fun z => ?_, fun z => ?_, fun z => ⟨by omega, by omega, h2⟩, fun z => ?_, fun z => ?_, fun z => ?_, fun z => ?_⟩ <;> (exfalso; omega)
  · rw [q5]
    refine fin2 _ ⟨by omega, by omega⟩ (fun Q2 h2 => ?_)
    rw [r6]
    refine ⟨hw, fun z => ?_, fun z => ?_, fun z => ?_, fun z => ?_, fun z => ⟨by omega, by omega, h2⟩, fun z => ?_, fun z => ?_, fun z => ?_⟩ <;> (exfalso; omega)
  · rw [q4]
    refine fin2 _ ⟨by omega, by omega⟩ (fun Q2 h2 => ?_)
    rw [r5]
    refine ⟨hw, fun z => ?_, fun z => ?_, fun z => ?_, fun z => ?_, fun z => ?_, fun z => ⟨by omega, by omega, h2⟩, fun z => ?_, fun z => ?_⟩ <;> (exfalso; omega)
  · have asked := a7.1
    have eM : ∀ c, 0 ≤ c → c < 6 → σ 6 0 4 c = σ 0 0 3 c := a3.2.2.2.1
    have both : ∀ (x : Int) (Q2 : Int → Mem → Prop), Q2 x σ → (x = 1 ∧ (∀ r ∈ c.2.2.2.2, σ 0 0 3 r.1 = r.2) ∨ (x = 0 ∧ ¬ ∀ r ∈ c.2.2.2.2, σ 0 0 3 r.1 = r.2)) → Mo_codeOf (σ 6 0 20 n) 6 0 4 σ (fun r13 σ13 => Mo_meets n (σ 6 0 20 n) r13 σ13 (fun r14 σ14 => InR r14 ∧ ((r14 = 0 → Mo_cut_143 Q2 0 σ14) ∧ (r14 ≠ 0 → Mo_cut_143 Q2 1 σ14)))) := by
      intro x Q2 h2 hx
      rw [r2]
      refine w_Mo_codeOf hb (a3.2.2.2.2.2.2 c.1 o1.1 (by omega)) o1.1 (by omega) (fun i i0 i1 => by rw [eM i i0 i1]; exact asked i i0 i1) (fun code z0 z1 ez => ?_)
      have ez' : cv code = spt (σ 3 c.1 0 0) (fun j => σ 0 0 3 (σ 3 c.1 1 j)) := by
        rw [ez]
        exact spt_congr (fun j a b => eM _ (hb.2.2.2.1 j a b).1.1 (hb.2.2.2.1 j a b).1.2)
      have hMr := Mr_val (rs := c.2.2.2.2) hb asked (fun r hr => (o6 r hr).2)
      rw [← ez'] at hMr
      refine w_Mo_meets a1 a3 (by omega) hM hok rfl o1.1 (by omega) z0 z1 (fun y => ⟨⟨by omega, by omega⟩, fun y' => absurd y' (by omega), fun _ => ?_⟩) (fun y => ⟨⟨by omega, by omega⟩, fun _ => ?_, fun y' => absurd rfl y'⟩)
      · rcases hx with ⟨e1, -⟩ | ⟨-, e2⟩
        · rw [e1] at h2; exact h2
        · exact absurd (hMr.mp y) e2
      · rcases hx with ⟨-, e1⟩ | ⟨e2, -⟩
        · exact absurd (hMr.mpr e1) y
        · rw [e2] at h2; exact h2
    refine w_Cu_isMetBy (by omega) hC hok hb asked (fun y => ⟨⟨by omega, by omega⟩, fun y' => absurd y' (by omega), fun _ => ?_⟩) (fun y => ⟨⟨by omega, by omega⟩, fun _ => ?_, fun y' => absurd rfl y'⟩)
    · refine fin2 1 ⟨by omega, by omega⟩ (fun Q2 h2 => ?_)
      refine ⟨hw, fun z => ?_, fun z => ?_, fun z => ?_, fun z => ?_, fun z => ?_, fun z => ?_, fun z => ⟨by omega, by omega, by omega, by omega, both 1 Q2 h2 (Or.inl ⟨rfl, y⟩)⟩, fun z => ?_⟩ <;> (exfalso; omega)
    · refine fin2 0 ⟨by omega, by omega⟩ (fun Q2 h2 => ?_)
      refine ⟨hw, fun z => ?_, fun z => ?_, fun z => ?_, fun z => ?_, fun z => ?_, fun z => ?_, fun z => ⟨by omega, by omega, by omega, by omega, both 0 Q2 h2 (Or.inr ⟨rfl, y⟩)⟩, fun z => ?_⟩ <;> (exfalso; omega)
  · refine fin2 (-2) ⟨by omega, by omega⟩ (fun Q2 h2 => ?_)
    refine ⟨hw, fun z => ?_, fun z => ?_, fun z => ?_, fun z => ?_, fun z => ?_, fun z => ?_, fun z => ?_, fun z => h2⟩ <;> (exfalso; omega)
theorem op_reason {σ : Mem} {N k i : Int} {Q : Int → Mem → Prop} (hI : Inv σ N) (hN : 0 ≤ N ∧ N ≤ 1000) (hk : InR k) (hi : InR i) (hQ : ∀ r1 σ1, After (Mo_reason k i) (N + 1) r1 σ1 → Q r1 σ1) : Sr_reason k i σ Q := by
  obtain ⟨s, hs⟩ := hI
  obtain ⟨a1, a2, a3, a4, a5, a6, a7⟩ := id hs
  obtain ⟨c1, c2, c3, c4, c5, c6, c7, c8, c9, c10, c11, c12, c13, c14⟩ := a4
  obtain ⟨m1, m2, m3, m4, m5, m6, m7, m8, m9, m10, m11⟩ := a5
  have l200 := c3.2.1
  have fin : ∀ x, InR x → (∀ Q2 : Int → Mem → Prop, Q2 x σ → Mo_reason k i σ Q2) → Q x σ := fun x hx h2 => hQ x σ ⟨hx, fun Q2 h3 => h2 Q2 (h3 σ hs.here)⟩
  unfold Sr_reason Sr_reason_30 Sr_reason_48
  refine w_Cu_knows hk c3 (fun a b => ⟨⟨by omega, by omega⟩, fun _ => ?_, fun z => absurd z (by omega)⟩) (fun z => ⟨⟨by omega, by omega⟩, fun y => absurd rfl y, fun _ => fin (-1) ⟨by omega, by omega⟩ (fun Q2 h2 => ?_)⟩)
  rotate_left
  · unfold Mo_reason
    rw [m2.1]
    refine w_Mo_beyond hk ⟨by omega, by omega⟩ ⟨by omega, by omega⟩ (fun _ => ⟨⟨by omega, by omega⟩, fun y => absurd y (by omega), fun _ => h2⟩) (fun y y' => absurd y (by omega))
  obtain ⟨n, rfl⟩ := Int.eq_ofNat_of_zero_le a
  obtain ⟨c, hc⟩ : ∃ c, s.1[n]? = some c := ⟨_, List.getElem?_eq_getElem (by omega)⟩
  have hcm := List.mem_of_getElem? hc
  have hC := c3.2.2.2 n c hc
  have hM := m2.2.2.2 n c hc
  have hok := m3 c hcm
  obtain ⟨q1, q2, q3, q4, q5, q6⟩ := id hC
  obtain ⟨r1, r2, r3, r4, r5, r6, r7⟩ := id hM
  obtain ⟨o1, o2, o3, o4, o5, o6⟩ := id hok
  have hpp := a1.2.2.1
  have hb := (a1.2.2.2 c.1 o1.1 (by omega)).1
  have none : ¬ (0 ≤ i ∧ i < c.2.2.2.2.length) → Q (-4) σ := by
    intro z
    refine fin (-4) ⟨by omega, by omega⟩ (fun Q2 h2 => ?_)
    unfold Mo_reason
    rw [m2.1]
    refine w_Mo_beyond hk ⟨by omega, by omega⟩ ⟨by omega, by omega⟩ (fun y => absurd y (by omega)) (fun _ _ => ⟨⟨by omega, by omega⟩, fun _ => ⟨by omega, by omega, ?_⟩, fun y => absurd rfl y⟩)
    rw [r6]
    refine w_Mo_beyond hi ⟨by omega, by omega⟩ ⟨by omega, by omega⟩ (fun y => ⟨⟨by omega, by omega⟩, fun y' => absurd y' (by omega), fun _ => h2⟩) (fun y y' => absurd (⟨y, by omega⟩ : 0 ≤ i ∧ i < c.2.2.2.2.length) z)
  rw [q5]
  refine ⟨hi, fun z => none (by omega), fun z => ⟨by omega, by omega, hi, ⟨by omega, by omega⟩, fun y => ⟨by omega, by omega, ?_⟩, fun y => none (by omega)⟩⟩
  obtain ⟨i, rfl⟩ := Int.eq_ofNat_of_zero_le z
  obtain ⟨r, hr⟩ : ∃ r, c.2.2.2.2[i]? = some r := ⟨_, List.getElem?_eq_getElem (by omega)⟩
  obtain ⟨or2, j0, j0a, j0b, j0c⟩ := o6 r (List.mem_of_getElem? hr)
  have bj := (hb.2.2.2.1 j0 j0a j0b).1
  rw [q6 i r hr]
  refine fin _ ⟨by omega, by omega⟩ (fun Q2 h2 => ?_)
  unfold Mo_reason
  rw [m2.1]
  refine w_Mo_beyond hk ⟨by omega, by omega⟩ ⟨by omega, by omega⟩ (fun y => absurd y (by omega)) (fun _ _ => ⟨⟨by omega, by omega⟩, fun _ => ⟨by omega, by omega, ?_⟩, fun y => absurd rfl y⟩)
  rw [r6]
  refine w_Mo_beyond hi ⟨by omega, by omega⟩ ⟨by omega, by omega⟩ (fun y => absurd y (by omega)) (fun y y' => ⟨⟨by omega, by omega⟩, fun _ => ⟨by omega, by omega, by omega, by omega, ?_⟩, fun y => absurd rfl y⟩)
  unfold Mo_reason_61
  rw [(r7 i r hr).1, (r7 i r hr).2]
  exact h2

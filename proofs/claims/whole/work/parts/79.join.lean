/-! ===== join ===== -/
/-- J' is J with c put in at a -/
def INS (J : Int → Int) (n c a : Int) (J' : Int → Int) : Prop := (0 ≤ a ∧ a ≤ n) ∧ (∀ j, 0 ≤ j → j < a → J' j = J j ∧ J j < c) ∧ J' a = c ∧ (∀ j, a < j → j ≤ n → J' j = J (j - 1)) ∧ ∀ j, a ≤ j → j < n → c < J j
theorem INS.uniq {J J1 J2 : Int → Int} {n c a b : Int} (h1 : INS J n c a J1) (h2 : INS J n c b J2) : a = b := by
  obtain ⟨a0, a1, a2, a3, a4⟩ := h1
  obtain ⟨b0, b1, b2, b3, b4⟩ := h2
  rcases Int.lt_trichotomy a b with z | z | z
  · have := (b1 a a0.1 z).2
    have := a4 a (Int.le_refl _) (by omega)
    omega
  · exact z
  · have := (a1 b b0.1 z).2
    have := b4 b (Int.le_refl _) (by omega)
    omega
theorem w_Pa_joinTo {σ : Mem} {p c z : Int} {Q : Mem → Prop} (hb : PB σ p) (hJ : JB σ p) (hc : 0 ≤ c ∧ c < 6) (hn : σ 3 p 0 0 < 3) (hno : ∀ j, 0 ≤ j → j < σ 3 p 0 0 → σ 3 p 1 j ≠ c) (hQ : ∀ σ' a, (∀ c' q k i, ¬ (c' = 3 ∧ q = p ∧ k < 3) → σ' c' q k i = σ c' q k i) → INS (σ 3 p 1) (σ 3 p 0 0) c a (σ' 3 p 1) → (∀ j, 0 ≤ j → j < a → σ' 3 p 2 j = σ 3 p 2 j) → σ' 3 p 2 a = z → (∀ j, a < j → j ≤ σ 3 p 0 0 → σ' 3 p 2 j = σ 3 p 2 (j - 1)) → σ' 3 p 0 0 = σ 3 p 0 0 + 1 → Q σ') : Pa_joinTo p c z σ Q := by
  have h0 := hb.1
  have fin : ∀ (a : Int) (μ : Mem), 0 ≤ a → a ≤ σ 3 p 0 0 → (∀ c' q k i, ¬ (c' = 3 ∧ q = p ∧ (k = 1 ∨ k = 2)) → μ c' q k i = σ c' q k i) → (∀ k j, k = 1 ∨ k = 2 → 0 ≤ j → j < a → μ 3 p k j = σ 3 p k j) → (∀ k j, k = 1 ∨ k = 2 → a < j → j ≤ σ 3 p 0 0 → μ 3 p k j = σ 3 p k (j - 1)) → (∀ j, a ≤ j → j < σ 3 p 0 0 → c < σ 3 p 1 j) → (∀ j, 0 ≤ j → j < a → σ 3 p 1 j < c) → Pa_joinTo_55 Q p c z a μ := by
    intro a μ a0 a1 hF hlo hhi hgt hlt
    unfold Pa_joinTo_55
    refine ⟨by omega, by omega, fun σ1 e1 => ⟨by omega, by omega, fun σ2 e2 σ3 e3 => ?_⟩⟩
    have e20 : σ2 3 p 0 0 = σ 3 p 0 0 := by rw [e2, up_ne (by omega), e1, up_ne (by omega)]; exact hF _ _ _ _ (by omega)
    rw [e20] at e3
    refine hQ σ3 a (fun c' q k i y => ?_) ⟨⟨a0, a1⟩, fun j j0 j1 => ⟨?_, hlt j j0 j1⟩, ?_, fun j j0 j1 => ?_, hgt⟩ (fun j j0 j1 => ?_) ?_ (fun j j0 j1 => ?_) ?_
    · rw [e3, up_ne (by omega), e2, up_ne (by omega), e1, up_ne (by omega)]; exact hF _ _ _ _ (by omega)
    · rw [e3, up_ne (by omega), e2, up_ne (by omega), e1, up_ne (by omega)]; exact hlo 1 j (by omega) j0 j1
    · rw [e3, up_ne (by omega), e2, up_ne (by omega), e1, up_at]
    · rw [e3, up_ne (by omega), e2, up_ne (by omega), e1, up_ne (by omega)]; exact hhi 1 j (by omega) j0 j1
    · rw [e3, up_ne (by omega), e2, up_ne (by omega), e1, up_ne (by omega)]; exact hlo 2 j (by omega) j0 j1
    · rw [e3, up_ne (by omega), e2, up_at]
    · rw [e3, up_ne (by omega), e2, up_ne (by omega), e1, up_ne (by omega)]; exact hhi 2 j (by omega) j0 j1
    · rw [e3, up_at]
  have key : ∀ (k : Nat) (a : Int) (μ : Mem), a = k → a ≤ σ 3 p 0 0 → (∀ c' q k i, ¬ (c' = 3 ∧ q = p ∧ (k = 1 ∨ k = 2)) → μ c' q k i = σ c' q k i) → (∀ k j, k = 1 ∨ k = 2 → 0 ≤ j → j < a → μ 3 p k j = σ 3 p k j) → (∀ k j, k = 1 ∨ k = 2 → a < j → j ≤ σ 3 p 0 0 → μ 3 p k j = σ 3 p k (j - 1)) → (∀ j, a ≤ j → j < σ 3 p 0 0 → c < σ 3 p 1 j) → Pa_joinTo_5 Q (k + 1) p c z a μ := by
    intro k
    induction k with
    | zero =>
      intro a μ e a1 hF hlo hhi hgt
      unfold Pa_joinTo_5
      exact ⟨⟨by omega, by omega⟩, fun _ => fin a μ (by omega) a1 hF hlo hhi hgt (fun j j0 j1 => absurd j1 (by omega)), fun y => absurd y (by omega)⟩
    | succ k ih =>
      intro a μ e a1 hF hlo hhi hgt
      have bj := (hb.2.2.2.1 (a - 1) (by omega) (by omega)).1
      unfold Pa_joinTo_5
      rw [hlo 1 (a - 1) (by omega) (by omega) (by omega)]
      refine ⟨⟨by omega, by omega⟩, fun y => absurd y (by omega), fun _ => ⟨by omega, by omega, ⟨by omega, by omega⟩, ⟨by omega, by omega⟩, fun y => fin a μ (by omega) a1 hF hlo hhi hgt (fun j j0 j1 => ?_), fun y => ⟨by omega, by omega, by omega, by omega, fun σ6 e6 => ⟨by omega, by omega, by omega, by omega, fun σ8 e8 x9 e9 => ?_⟩⟩⟩⟩
      · have hne := hno (a - 1) (by omega) (by omega)
        by_cases q : j = a - 1
        · subst q; omega
        · have := (hJ (a - 1) (by omega) (by omega)).2 j j0 (by omega)
          omega
      · have e62 : σ6 3 p 2 (a - 1) = σ 3 p 2 (a - 1) := by rw [e6, up_ne (by omega)]; exact hlo 2 _ (by omega) (by omega) (by omega)
        rw [e62] at e8
        refine ih x9 σ8 (by omega) (by omega) (fun c' q k i y' => ?_) (fun k' j hk j0 j1 => ?_) (fun k' j hk j0 j1 => ?_) (fun j j0 j1 => ?_)
        · rw [e8, up_ne (by omega), e6, up_ne (by omega)]; exact hF _ _ _ _ y'
        · rw [e8, up_ne (by omega), e6, up_ne (by omega)]; exact hlo k' j hk j0 (by omega)
        · by_cases q : j = a
          · subst q
            rcases hk with rfl | rfl
            · rw [e8, up_ne (by omega), e6, up_at]
            · rw [e8, up_at]
          · rw [e8, up_ne (by omega), e6, up_ne (by omega)]; exact hhi k' j hk (by omega) j1
        · by_cases q : j = a - 1
          · subst q; exact y
          · exact hgt j (by omega) j1
  unfold Pa_joinTo
  intro x1 e1
  exact ⟨_, key x1.toNat x1 σ (by omega) (by omega) (fun _ _ _ _ _ => rfl) (fun _ _ _ _ _ => rfl) (fun k j hk j0 j1 => absurd j1 (by omega)) (fun j j0 j1 => absurd j1 (by omega))⟩
theorem w_Mo_join56 {σ : Mem} {p c n : Int} {J : Int → Int} {Q : Int → Mem → Prop} (p0 : 0 ≤ p) (p1 : p < 4) (hc : 0 ≤ c ∧ c < 6) (hn : 0 ≤ n ∧ n < 3) (hJb : ∀ j, 0 ≤ j → j < n → 0 ≤ J j ∧ J j < 6) (hJi : ∀ j, 0 ≤ j → j < n → ∀ i, 0 ≤ i → i < j → J i < J j) (e9 : ∀ j, 0 ≤ j → j < n → σ 6 0 9 (3 * p + j) = J j) (hno : ∀ j, 0 ≤ j → j < n → J j ≠ c) (hQ : ∀ σ' a, (∀ c' q k i, ¬ (c' = 6 ∧ q = 0 ∧ k = 9 ∧ 3 * p ≤ i ∧ i < 3 * p + 3) → σ' c' q k i = σ c' q k i) → (0 ≤ a ∧ a ≤ n) → (∀ j, 0 ≤ j → j < a → σ' 6 0 9 (3 * p + j) = J j ∧ J j < c) → (∀ j, a < j → j ≤ n → σ' 6 0 9 (3 * p + j) = J (j - 1)) → (∀ j, a ≤ j → j < n → c < J j) → Mo_join_104 Q p c a σ') : ∃ nn, Mo_join_56 Q nn p c n σ := by
  have key : ∀ (k : Nat) (a : Int) (μ : Mem), a = k → a ≤ n → (∀ c' q k i, ¬ (c' = 6 ∧ q = 0 ∧ k = 9 ∧ 3 * p ≤ i ∧ i < 3 * p + 3) → μ c' q k i = σ c' q k i) → (∀ j, 0 ≤ j → j < a → μ 6 0 9 (3 * p + j) = J j) → (∀ j, a < j → j ≤ n → μ 6 0 9 (3 * p + j) = J (j - 1)) → (∀ j, a ≤ j → j < n → c < J j) → Mo_join_56 Q (k + 1) p c a μ := by
    intro k
    induction k with
    | zero =>
      intro a μ e a1 hF hlo hhi hgt
      unfold Mo_join_56
      exact ⟨⟨by omega, by omega⟩, fun _ => hQ μ a hF ⟨by omega, a1⟩ (fun j j0 j1 => absurd j1 (by omega)) hhi hgt, fun y => absurd y (by omega)⟩
    | succ k ih =>
      intro a μ e a1 hF hlo hhi hgt
      have bj := hJb (a - 1) (by omega) (by omega)
      have er : 3 * p + a - 1 = 3 * p + (a - 1) := by omega
      unfold Mo_join_56
      rw [er, hlo (a - 1) (by omega) (by omega)]
      refine ⟨⟨by omega, by omega⟩, fun y => absurd y (by omega), fun _ => ⟨by omega, by omega, ⟨by omega, by omega⟩, ⟨by omega, by omega⟩, fun y => hQ μ a hF ⟨by omega, a1⟩ (fun j j0 j1 => ⟨hlo j j0 j1, ?_⟩) hhi hgt, fun y => ⟨by omega, by omega, by omega, by omega, fun σ6 e6 x7 e7 => ?_⟩⟩⟩
      · have hne := hno (a - 1) (by omega) (by omega)
        by_cases q : j = a - 1
        · subst q; omega
        · have := hJi (a - 1) (by omega) (by omega) j j0 (by omega)
          omega
      · refine ih x7 σ6 (by omega) (by omega) (fun c' q k i y' => ?_) (fun j j0 j1 => ?_) (fun j j0 j1 => ?_) (fun j j0 j1 => ?_)
        · rw [e6, up_ne (by omega)]; exact hF _ _ _ _ y'
        · rw [e6, up_ne (by omega)]; exact hlo j j0 (by omega)
        · by_cases q : j = a
          · subst q; rw [e6, up_at]
          · rw [e6, up_ne (by omega)]; exact hhi j (by omega) j1
        · by_cases q : j = a - 1
          · subst q; exact y
          · exact hgt j (by omega) j1
  exact ⟨_, key n.toNat n σ (by omega) (by omega) (fun _ _ _ _ _ => rfl) e9 (fun j j0 j1 => absurd j1 (by omega)) (fun j j0 j1 => absurd j1 (by omega))⟩
set_option maxHeartbeats 1000000 in
theorem op_join {σ : Mem} {N p c : Int} {Q : Int → Mem → Prop} (hI : Inv σ N) (hN : 0 ≤ N ∧ N ≤ 1000) (hp : InR p) (hcr : InR c) (hQ : ∀ r1 σ1, After (Mo_join p c) (N + 1) r1 σ1 → Q r1 σ1) : Sr_join p c σ Q := by
  obtain ⟨s, hs⟩ := hI
  obtain ⟨a1, a2, a3, a4, a5, a6, a7⟩ := id hs
  have c3 := a4.2.2.1
  have m2 := a5.2.1
  have m3 := a5.2.2.1
  obtain ⟨d0, d1, d2, d3, ⟨d5, d6⟩, d7, dP⟩ := id a3
  have hpp := a1.2.2.1
  have hch := a1.1.1
  have hpb : ∀ c ∈ s.1, InR c.1 := fun c hc => by have := (m3 c hc).1; exact ⟨by omega, by omega⟩
  have no1 : ¬ (0 ≤ p ∧ p < σ 5 0 3 0 ∧ 0 ≤ c ∧ c < σ 0 0 0 0) → Q (-1) σ := by
    intro z
    refine hQ (-1) σ ⟨⟨by omega, by omega⟩, fun Q2 h2 => ?_⟩
    unfold Mo_join Mo_join_22
    refine w_Mo_noPart hp d7 hpp (fun _ => ⟨⟨by omega, by omega⟩, fun _ => h2 σ hs.here, fun y => absurd y (by omega)⟩) (fun y0 y1 => ⟨⟨by omega, by omega⟩, fun y => absurd rfl y, fun _ => ?_⟩)
    rw [d0]
    exact w_Mo_beyond hcr ⟨by omega, by omega⟩ ⟨by omega, by omega⟩ (fun _ => ⟨⟨by omega, by omega⟩, fun y => absurd y (by omega), fun _ => h2 σ hs.here⟩) (fun y2 y3 => absurd (⟨y0, y1, y2, by omega⟩ : 0 ≤ p ∧ p < σ 5 0 3 0 ∧ 0 ≤ c ∧ c < σ 0 0 0 0) z)
  unfold Sr_join Sr_join_19
  refine w_Sr_knowsPart hp hpp (fun b0 b1 => ⟨⟨by omega, by omega⟩, fun y => absurd y (by omega), fun _ => ?_⟩) (fun z => ⟨⟨by omega, by omega⟩, fun _ => no1 (by omega), fun y => absurd rfl y⟩)
  refine w_Ch_knows hcr a1.1 (fun b2 b3 => ⟨⟨by omega, by omega⟩, fun _ => ⟨by omega, by omega, ?_⟩, fun y => absurd y (by omega)⟩) (fun z => ⟨⟨by omega, by omega⟩, fun y => absurd rfl y, fun _ => no1 (by omega)⟩)
  obtain ⟨e1, e2, e3, e4⟩ := a1.2.2.2 p b0 (by omega)
  have hMp := dP p b0 (by omega)
  have bj := e1.1
  have way : ∀ (μ : Mem) (Q2 : Int → Mem → Prop), (∀ k i, k < 18 → μ 6 0 k i = σ 6 0 k i) → (∀ Q3 : Int → Mem → Prop, Q3 = (fun r5 σ5 => InR r5 ∧ ((r5 < 0 → 0 ≤ p ∧ p < 4 ∧ InR (σ5 6 0 8 p) ∧ ((σ5 6 0 8 p ≠ 3 → 0 ≤ p ∧ p < 4 ∧ ∀ x11 : Int, x11 = σ5 6 0 8 p → ∃ nn, Mo_join_56 Q2 nn p c x11 σ5) ∧ (σ5 6 0 8 p = 3 → Q2 (-3) σ5))) ∧ (0 ≤ r5 → Q2 (-4) σ5))) → Mo_placeOf p c μ Q3) → Mo_join p c μ Q2 := by
    intro μ Q2 k6 hin
    unfold Mo_join
    refine w_Mo_noPart hp (by rw [k6 _ _ (by omega)]; exact d7) hpp (fun y => absurd (⟨b0, b1⟩ : 0 ≤ p ∧ p < σ 5 0 3 0) y) (fun _ _ => ⟨⟨by omega, by omega⟩, fun y => absurd rfl y, fun _ => ?_⟩)
    rw [k6 _ _ (by omega), d0]
    exact w_Mo_beyond hcr ⟨by omega, by omega⟩ ⟨by omega, by omega⟩ (fun y => absurd y (by omega)) (fun _ _ => ⟨⟨by omega, by omega⟩, fun _ => hin _ rfl, fun y => absurd rfl y⟩)
  refine w_Pa_isJoinedTo hcr e1 (fun hx => ⟨⟨by omega, by omega⟩, fun y => absurd y (by omega), fun _ => hQ (-4) σ ⟨⟨by omega, by omega⟩, fun Q2 h2 => way σ Q2 (fun _ _ _ => rfl) (fun Q3 e3' => ?_)⟩⟩) (fun hno => ⟨⟨by omega, by omega⟩, fun _ => ⟨by omega, by omega, ⟨by omega, by omega⟩, fun z5 => ⟨by omega, by omega, by omega, by omega, ?_⟩, fun z5 => hQ (-3) σ ⟨⟨by omega, by omega⟩, fun Q2 h2 => way σ Q2 (fun _ _ _ => rfl) (fun Q3 e3' => ?_)⟩⟩, fun y => absurd rfl y⟩)
  · refine w_Mo_placeOf e1 hMp b0 (by omega) hcr (fun j x0 x1 x2 => ?_) (fun hn => ?_)
    · rw [e3']
      exact ⟨⟨by omega, by omega⟩, fun y => absurd y (by omega), fun _ => h2 σ hs.here⟩
    · obtain ⟨j, x0, x1, x2⟩ := hx
      exact absurd x2 (hn j x0 x1)
  · have hcb : 0 ≤ c ∧ c < 6 := by omega
    have hz := a1.1.2.1 c b2 b3
    refine w_Pa_joinTo e1 e4 hcb z5 hno (fun σ13 a hE hINS hs1 hs2 hs3 hcnt => ?_)
    refine w_Sr_retell b0 (by omega) (c3.eo (fun k i => hE _ _ _ _ (by omega))) hpb (fun σ9 g9 hL9 z10 k2 k3 k4 k5 => ⟨by omega, by omega, ?_⟩)
    have q0 : σ9 3 p 0 0 = σ 3 p 0 0 + 1 := by rw [g9 _ _ _ _ (by omega) (by omega) (by omega)]; exact hcnt
    have q12 : ∀ k i, k = 1 ∨ k = 2 → σ9 3 p k i = σ13 3 p k i := fun k i hk => g9 _ _ _ _ (by omega) (by omega) (by omega)
    have q6 : ∀ k i, σ9 6 0 k i = σ 6 0 k i := fun k i => by rw [g9 _ _ _ _ (by omega) (by omega) (by omega)]; exact hE _ _ _ _ (by omega)
    rw [q0]
    refine hQ _ σ9 ⟨⟨by omega, by omega⟩, fun Q2 h2 => way σ9 Q2 (fun k i _ => q6 k i) (fun Q3 e3' => ?_)⟩
    -- it is not joined in the reference either
    have key : ∀ (m : Nat) (i : Int), i + m = σ 3 p 0 0 → 0 ≤ i → Q3 (-1) σ9 → Mo_placeOf_2 Q3 (m + 1) p c i σ9 := by
      intro m
      induction m with
      | zero =>
        intro i g1 g2 hq
        unfold Mo_placeOf_2
        rw [q6, hMp.1]
        exact ⟨by omega, by omega, ⟨by omega, by omega⟩, ⟨by omega, by omega⟩, fun _ => hq, fun y => absurd y (by omega)⟩
      | succ m ih =>
        intro i g1 g2 hq
        have bji := (e1.2.2.2.1 i g2 (by omega)).1
        unfold Mo_placeOf_2
        rw [q6, q6, hMp.1, hMp.2.1 i g2 (by omega)]
        exact ⟨by omega, by omega, ⟨by omega, by omega⟩, ⟨by omega, by omega⟩, fun y => absurd y (by omega), fun _ => ⟨by omega, by omega, ⟨by omega, by omega⟩, hcr, fun y x7 e7 => ih x7 (by omega) (by omega) hq, fun y => absurd y (hno i g2 (by omega))⟩⟩
    refine ⟨_, key (σ 3 p 0 0).toNat 0 (by omega) (by omega) ?_⟩
    rw [e3']
    refine ⟨⟨by omega, by omega⟩, fun _ => ?_, fun y => absurd y (by omega)⟩
    rw [q6, hMp.1]
    refine ⟨by omega, by omega, ⟨by omega, by omega⟩, fun _ => ⟨by omega, by omega, fun x11 e11 => ?_⟩, fun y => absurd y (by omega)⟩
    rw [e11]
    refine w_Mo_join56 (J := σ 3 p 1) b0 (by omega) hcb (by omega) (fun j j0 j1 => (e1.2.2.2.1 j j0 j1).1) (fun j j0 j1 => (e4 j j0 j1).2) (fun j j0 j1 => by rw [q6]; exact hMp.2.1 j j0 j1) hno (fun σ1 b hF1 hb01 hlo hhi hgt => ?_)
    unfold Mo_join_104
    refine ⟨by omega, by omega, fun σ2 f2 => ⟨by omega, by omega, by omega, by omega, fun σ3 f3 => ?_⟩⟩
    have e28 : σ2 6 0 8 p = σ 3 p 0 0 := by rw [f2, up_ne (by omega), hF1 _ _ _ _ (by omega), q6]; exact hMp.1
    rw [e28] at f3
    have eab : a = b := hINS.uniq (J2 := fun j => if j < b then σ 3 p 1 j else if j = b then c else σ 3 p 1 (j - 1)) ⟨hb01, fun j j0 j1 => ⟨if_pos j1, (hlo j j0 j1).2⟩, by show (if b < b then _ else if b = b then c else _) = c; rw [if_neg (by omega), if_pos rfl], fun j j0 j1 => by show (if j < b then _ else if j = b then c else _) = _; rw [if_neg (by omega), if_neg (by omega)], hgt⟩
    subst eab
    have hE6 : ∀ c' q k i, ¬ (c' = 6 ∧ q = 0 ∧ k = 9 ∧ 3 * p ≤ i ∧ i < 3 * p + 3) → ¬ (c' = 6 ∧ q = 0 ∧ k = 8 ∧ i = p) → σ3 c' q k i = σ9 c' q k i := fun c' q k i y y2 => by rw [f3, up_ne (by omega), f2, up_ne (by omega)]; exact hF1 _ _ _ _ y
    refine w_Mo_without ⟨by omega, by omega⟩ (L := s.1) (m2.eo (fun k hk hk2 i => by rw [hE6 _ _ _ _ (by omega) (by omega)]; exact q6 k i)) hpb (fun σ' g' hM' r2 r3 r4 r5 => ⟨by omega, by omega, ?_⟩)
    have w8 : σ' 6 0 8 p = σ 3 p 0 0 + 1 := by rw [g' _ _ _ _ (by omega) (by omega), f3, up_at]
    have w9 : ∀ j, 0 ≤ j → j ≤ σ 3 p 0 0 → σ' 6 0 9 (3 * p + j) = σ13 3 p 1 j := by
      intro j j0 j1
      rw [g' _ _ _ _ (by omega) (by omega), f3, up_ne (by omega), f2]
      rcases Int.lt_trichotomy j a with y | y | y
      · rw [up_ne (by omega), (hlo j j0 y).1, (hINS.2.1 j j0 y).1]
      · subst y; rw [up_at, hINS.2.2.1]
      · rw [up_ne (by omega), hhi j y j1, hINS.2.2.2.1 j y j1]
    have g6 : ∀ k i, k < 18 ∨ 31 ≤ k → ¬ (k = 9 ∧ 3 * p ≤ i ∧ i < 3 * p + 3) → ¬ (k = 8 ∧ i = p) → σ' 6 0 k i = σ 6 0 k i := fun k i y0 y1 y2 => by rw [g' _ _ _ _ (by omega) (by omega), hE6 _ _ _ _ (by omega) (by omega)]; exact q6 k i
    have gc : ∀ c q k i, ¬ (c = 6 ∧ q = 0) → σ' c q k i = σ9 c q k i := fun c q k i y => by rw [g' _ _ _ _ (by omega) (by omega)]; exact hE6 _ _ _ _ (by omega) (by omega)
    have gn : ∀ c q k i, ¬ (c = 6 ∧ q = 0) → ¬ (c = 1 ∧ q = 0) → ¬ (c = 4 ∧ q = 0 ∧ k < 4 ∧ i = 0) → ¬ (c = 3 ∧ q = p ∧ (k < 3 ∨ k = 10 ∨ k = 11)) → σ' c q k i = σ c q k i := fun c q k i y1 y2 y3 y4 => by rw [gc _ _ _ _ y1, g9 _ _ _ _ y2 y3 (by omega)]; exact hE _ _ _ _ (by omega)
    rw [w8]
    have p3 : ∀ k i, k < 10 → 3 ≤ k → σ' 3 p k i = σ 3 p k i := fun k i y1 y2 => gn _ _ _ _ (by omega) (by omega) (by omega) (by omega)
    have w0 : σ' 3 p 0 0 = σ 3 p 0 0 + 1 := by rw [gc _ _ _ _ (by omega)]; exact q0
    have w12 : ∀ k i, k = 1 ∨ k = 2 → σ' 3 p k i = σ13 3 p k i := fun k i hk => by rw [gc _ _ _ _ (by omega)]; exact q12 k i hk
    obtain ⟨ab, i1, i2, i3, i4⟩ := hINS
    have val : ∀ j, 0 ≤ j → j ≤ σ 3 p 0 0 → (0 ≤ σ13 3 p 1 j ∧ σ13 3 p 1 j < σ 0 0 0 0) ∧ σ13 3 p 2 j = σ 0 0 1 (σ13 3 p 1 j) ∧ ∀ i, 0 ≤ i → i < j → σ13 3 p 1 i < σ13 3 p 1 j := by
      intro j j0 j1
      rcases Int.lt_trichotomy j a with y | y | y
      · rw [(i1 j j0 y).1, hs1 j j0 y]
        have x1 := (e1.2.2.2.1 j j0 (by omega)).1
        have x2 := e4 j j0 (by omega)
        refine ⟨⟨x1.1, x2.1⟩, a2 p b0 (by omega) j j0 (by omega), fun i i0 i1' => ?_⟩
        rw [(i1 i i0 (by omega)).1]
        exact x2.2 i i0 i1'
      · subst y
        rw [i2, hs2]
        refine ⟨⟨b2, b3⟩, rfl, fun i i0 i1' => ?_⟩
        rw [(i1 i i0 i1').1]
        exact (i1 i i0 i1').2
      · rw [i3 j y j1, hs3 j y j1]
        have x1 := (e1.2.2.2.1 (j - 1) (by omega) (by omega)).1
        have x2 := e4 (j - 1) (by omega) (by omega)
        refine ⟨⟨x1.1, x2.1⟩, a2 p b0 (by omega) (j - 1) (by omega) (by omega), fun i i0 i1' => ?_⟩
        rcases Int.lt_trichotomy i a with y' | y' | y'
        · rw [(i1 i i0 y').1]
          have := (i1 i i0 y').2
          have := i4 (j - 1) (by omega) (by omega)
          omega
        · subst y'; rw [i2]; exact i4 (j - 1) (by omega) (by omega)
        · rw [i3 i y' (by omega)]
          exact x2.2 (i - 1) (by omega) (by omega)
    have e00 : σ' 0 0 0 0 = σ 0 0 0 0 := gn _ _ _ _ (by omega) (by omega) (by omega) (by omega)
    refine h2 σ' (Inv.mk2 (p := p) hs hN.1 b0 b1 (fun c q k i y1 y2 y3 y4 => gn _ _ _ _ y1 y3 y2 (by omega)) (fun k i hk => g6 k i (by omega) (by omega) (by omega)) ?_ ?_ (fun j j0 j1 => ?_) (fun q x0 x1 => ?_) (fun i i0 i1 => by rw [gc _ _ _ _ (by omega), gc _ _ _ _ (by omega)]; exact z10 i i0 i1) (hL9.eo (fun k i => gc _ _ _ _ (by omega))) hM' ⟨by rw [gc _ _ _ _ (by omega)]; exact k2, by rw [gc _ _ _ _ (by omega)]; exact k3, by rw [gc _ _ _ _ (by omega)]; exact k4, by rw [gc _ _ _ _ (by omega)]; exact k5⟩ ⟨r2, r3, r4, r5⟩)
    · obtain ⟨t1, t2, t3, t4, t5, t6, t7, t8⟩ := e1
      refine ⟨by omega, by rw [p3 3 _ (by omega) (by omega)]; exact t2, by rw [p3 6 _ (by omega) (by omega)]; exact t3, fun j j0 j1 => ?_, fun i i0 i1 => ?_, fun r r0 r1 => by rw [p3 7 _ (by omega) (by omega)]; exact t6 r r0 r1, fun i i0 i1 => by rw [p3 8 _ (by omega) (by omega)]; exact t7 i i0 i1, fun i i0 i1 => by rw [p3 9 _ (by omega) (by omega)]; exact t8 i i0 i1⟩
      · rw [w12 1 _ (by omega), w12 2 _ (by omega)]
        obtain ⟨v1, v2, -⟩ := val j j0 (by omega)
        rw [v2]
        have := a1.1.2.1 _ v1.1 v1.2
        omega
      · rw [p3 3 _ (by omega) (by omega)] at i1
        rw [p3 4 _ (by omega) (by omega), p3 5 _ (by omega) (by omega)]
        exact t5 i i0 i1
    · intro j j0 j1
      obtain ⟨v1, v2, v3⟩ := val j j0 (by omega)
      rw [w12 1 _ (by omega), e00]
      refine ⟨v1.2, fun i i0 i1 => ?_⟩
      rw [w12 1 _ (by omega)]
      exact v3 i i0 i1
    · obtain ⟨v1, v2, v3⟩ := val j j0 (by omega)
      rw [w12 1 _ (by omega), w12 2 _ (by omega), gn 0 _ _ _ (by omega) (by omega) (by omega) (by omega)]
      exact v2
    · by_cases q' : q = p
      · subst q'
        obtain ⟨hA, hB, hC, hD, hE', hF⟩ := hMp
        refine ⟨by rw [w8, w0], fun j j0 j1 => ?_, ?_, fun i i0 i1 => ?_, ?_, fun r r0 r1 => ?_⟩
        · rw [w12 1 _ (by omega)]; exact w9 j j0 (by omega)
        · rw [g6 10 _ (by omega) (by omega) (by omega), p3 3 _ (by omega) (by omega)]; exact hC
        · rw [g6 11 _ (by omega) (by omega) (by omega), g6 12 _ (by omega) (by omega) (by omega), p3 4 _ (by omega) (by omega), p3 5 _ (by omega) (by omega)]; exact hD i i0 i1
        · rw [g6 13 _ (by omega) (by omega) (by omega), p3 6 _ (by omega) (by omega)]; exact hE'
        · obtain ⟨f1, f2, f3, f4⟩ := hF r r0 r1
          refine ⟨?_, fun i i0 i1 => ?_, fun c c0 c1 => ?_, fun f f0 f1' => ?_⟩
          · rw [g6 14 _ (by omega) (by omega) (by omega), p3 7 _ (by omega) (by omega)]; exact f1
          · rw [g6 15 _ (by omega) (by omega) (by omega), p3 8 _ (by omega) (by omega)]; exact f2 i i0 i1
          · rw [g6 16 _ (by omega) (by omega) (by omega), p3 8 _ (by omega) (by omega)]; exact f3 c c0 c1
          · rw [g6 17 _ (by omega) (by omega) (by omega), p3 9 _ (by omega) (by omega)]; exact f4 f f0 f1'
      · exact (dP q x0 x1).off (a1.2.2.2 q x0 x1).1.1.2 (fun k hk i => gn _ _ _ _ (by omega) (by omega) (by omega) (by omega)) (fun k i hc => g6 k i (by unfold Cq at hc; omega) (by unfold Cq at hc; omega) (by unfold Cq at hc; omega)) (fun f r f0 f1 r0 r1 => g6 17 _ (by omega) (by omega) (by omega))
  · refine w_Mo_placeOf e1 hMp b0 (by omega) hcr (fun j x0 x1 x2 => absurd x2 (hno j x0 x1)) (fun _ => ?_)
    rw [e3']
    refine ⟨⟨by omega, by omega⟩, fun _ => ?_, fun y => absurd y (by omega)⟩
    rw [hMp.1]
    exact ⟨by omega, by omega, ⟨by omega, by omega⟩, fun y => absurd y (by omega), fun _ => h2 σ hs.here⟩

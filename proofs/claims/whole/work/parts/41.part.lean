/-! ===== a part of the class: bounds, leaf methods ===== -/
def PB (σ : Mem) (p : Int) : Prop := (0 ≤ σ 3 p 0 0 ∧ σ 3 p 0 0 ≤ 3) ∧ (0 ≤ σ 3 p 3 0 ∧ σ 3 p 3 0 ≤ 4) ∧ (0 ≤ σ 3 p 6 0 ∧ σ 3 p 6 0 ≤ 6) ∧ (∀ j, 0 ≤ j → j < σ 3 p 0 0 → (0 ≤ σ 3 p 1 j ∧ σ 3 p 1 j < 6) ∧ 2 ≤ σ 3 p 2 j ∧ σ 3 p 2 j ≤ 4) ∧ (∀ i, 0 ≤ i → i < σ 3 p 3 0 → (1 ≤ σ 3 p 4 i ∧ σ 3 p 4 i ≤ 3) ∧ 0 ≤ σ 3 p 5 i ∧ σ 3 p 5 i ≤ 50) ∧ (∀ r, 0 ≤ r → r < 6 → -99 ≤ σ 3 p 7 r ∧ σ 3 p 7 r ≤ 99) ∧ (∀ i, 0 ≤ i → i < 60 → -9 ≤ σ 3 p 8 i ∧ σ 3 p 8 i ≤ 9) ∧ (∀ i, 0 ≤ i → i < 24 → -99 ≤ σ 3 p 9 i ∧ σ 3 p 9 i ≤ 99)
/-- what is outside a set of arrays stays -/
def Eo (S : Nat → Int → Nat → Prop) (σ σ' : Mem) : Prop := ∀ (c : Nat) (p : Int) (k : Nat) (i : Int), ¬ S c p k → σ' c p k i = σ c p k i
theorem Eo.rf {S : Nat → Int → Nat → Prop} {σ : Mem} : Eo S σ σ := fun _ _ _ _ _ => rfl
theorem Eo.tr {S : Nat → Int → Nat → Prop} {σ σ' σ'' : Mem} (h : Eo S σ σ') (h' : Eo S σ' σ'') : Eo S σ σ'' := fun c p k i hs => (h' c p k i hs).trans (h c p k i hs)
theorem Eo.mono {S T : Nat → Int → Nat → Prop} {σ σ' : Mem} (h : Eo S σ σ') (hst : ∀ c p k, S c p k → T c p k) : Eo T σ σ' := fun c p k i hs => h c p k i (fun z => hs (hst c p k z))
theorem Eo.of_up {S : Nat → Int → Nat → Prop} {σ : Mem} {c : Nat} {p : Int} {k : Nat} {i x : Int} (hs : S c p k) : Eo S σ (up σ c p k i x) := fun c' p' k' i' h => up_ne (fun z => h (by obtain ⟨rfl, rfl, rfl, _⟩ := z; exact hs))
theorem Eo.of_fl {S : Nat → Int → Nat → Prop} {σ : Mem} {c : Nat} {p : Int} {k : Nat} {n x : Int} (hs : S c p k) : Eo S σ (fl σ c p k n x) := fun c' p' k' i' h => by
  unfold fl
  rw [if_neg (fun z => h (by obtain ⟨rfl, rfl, rfl, _⟩ := z; exact hs))]
theorem Eo.of_cp {S : Nat → Int → Nat → Prop} {σ : Mem} {c : Nat} {p : Int} {k c2 : Nat} {p2 : Int} {k2 : Nat} {n : Int} (hs : S c2 p2 k2) : Eo S σ (cp σ c p k c2 p2 k2 n) := fun c' p' k' i' h => by
  unfold cp
  rw [if_neg (fun z => h (by obtain ⟨rfl, rfl, rfl, _⟩ := z; exact hs))]
/-- a spot out of digits -/
def spt (n : Int) (d : Int → Int) : Int := (if 0 < n then d 0 else 0) + (if 1 < n then 4 * d 1 else 0) + (if 2 < n then 16 * d 2 else 0)
theorem spt_bd {n : Int} {d : Int → Int} (hn : n ≤ 3) (hd : ∀ j, 0 ≤ j → j < n → 0 ≤ d j ∧ d j < 4) : 0 ≤ spt n d ∧ spt n d < 64 := by
  have h0 := hd 0
  have h1 := hd 1
  have h2 := hd 2
  unfold spt
  by_cases a0 : 0 < n <;> by_cases a1 : 1 < n <;> by_cases a2 : 2 < n <;> simp [a0, a1, a2] at h0 h1 h2 ⊢ <;> omega
theorem spt_dS {n : Int} {d : Int → Int} (hn : n ≤ 3) (hd : ∀ j, 0 ≤ j → j < n → 0 ≤ d j ∧ d j < 4) (j : Int) (hj0 : 0 ≤ j) (hj : j < n) : dS (spt n d) j = d j := by
  have h0 := hd 0 (by omega)
  have h1 := hd 1 (by omega)
  have h2 := hd 2 (by omega)
  unfold spt dS
  rcases (by omega : j = 0 ∨ j = 1 ∨ j = 2) with rfl | rfl | rfl
  · by_cases a1 : 1 < n <;> by_cases a2 : 2 < n <;> simp [hj, a1, a2] at h0 h1 h2 ⊢ <;> omega
  · have a0 : 0 < n := by omega
    by_cases a2 : 2 < n <;> simp [hj, a0, a2] at h0 h1 h2 ⊢ <;> omega
  · have a0 : 0 < n := by omega
    have a1 : 1 < n := by omega
    simp [hj, a0, a1] at h0 h1 h2 ⊢
    omega
theorem spt_step {n : Int} {d : Int → Int} (h0 : 0 ≤ n) (h3 : n < 3) (hd : ∀ j, 0 ≤ j → j < n → 0 ≤ d j ∧ d j < 4) (hn : 0 ≤ d n ∧ d n < 4) : iOr (spt n d) (iShl (d n) (n * 2)) = spt (n + 1) d := by
  obtain ⟨v, hv⟩ := Int.eq_ofNat_of_zero_le hn.1
  rcases (by omega : n = 0 ∨ n = 1 ∨ n = 2) with rfl | rfl | rfl
  · have := bd_or0 v (by omega)
    simp [spt]
    rw [hv]
    simpa using this
  · have g0 := hd 0 (by omega) (by omega)
    obtain ⟨a, ha⟩ := Int.eq_ofNat_of_zero_le g0.1
    have := bd_or1 v (by omega) a (by omega)
    simp [spt]
    rw [hv, ha]
    simpa using this
  · have g0 := hd 0 (by omega) (by omega)
    have g1 := hd 1 (by omega) (by omega)
    obtain ⟨a, ha⟩ := Int.eq_ofNat_of_zero_le (show 0 ≤ d 0 + 4 * d 1 by omega)
    have := bd_or2 v (by omega) a (by omega)
    simp [spt]
    rw [hv, ha]
    simpa using this
theorem w_Pa_spotOf {σ : Mem} {p : Int} {vc vk : Nat} {vp : Int} {Q : Int → Mem → Prop} (hb : PB σ p) (hv : ∀ j, 0 ≤ j → j < σ 3 p 0 0 → 0 ≤ σ vc vp vk (σ 3 p 1 j) ∧ σ vc vp vk (σ 3 p 1 j) < 4) (hQ : Q (spt (σ 3 p 0 0) (fun j => σ vc vp vk (σ 3 p 1 j))) σ) : Pa_spotOf p vc vp vk σ Q := by
  have hj := hb.1
  have key : ∀ (k : Nat) (i s : Int), i + k = σ 3 p 0 0 → 0 ≤ i → s = spt i (fun j => σ vc vp vk (σ 3 p 1 j)) → Pa_spotOf_4 Q (k + 1) p vc vp vk s i σ := by
    intro k
    induction k with
    | zero =>
      intro i s h1 h2 h3
      unfold Pa_spotOf_4
      refine ⟨⟨by omega, by omega⟩, ⟨by omega, by omega⟩, fun _ => ?_, fun h => absurd h (by omega)⟩
      have e : i = σ 3 p 0 0 := by omega
      rw [h3, e]
      exact hQ
    | succ k ih =>
      intro i s h1 h2 h3
      have b1 := hb.2.2.2.1 i h2 (by omega)
      unfold Pa_spotOf_4
      refine ⟨⟨by omega, by omega⟩, ⟨by omega, by omega⟩, fun h => absurd h (by omega), fun _ => ⟨by omega, by omega, b1.1.1, b1.1.2, fun x5 e5 x6 e6 => ih x6 x5 (by omega) (by omega) ?_⟩⟩
      rw [e5, e6, h3]
      exact spt_step h2 (by omega) (fun j g1 g2 => hv j g1 (by omega)) (hv i h2 (by omega))
  exact ⟨_, key (σ 3 p 0 0).toNat 0 0 (by omega) (by omega) (by simp [spt])⟩
theorem w_Pa_priceOfUnits {σ : Mem} {p : Int} {Q : Int → Mem → Prop} (hb : PB σ p) (hQ : Q (sm (σ 3 p 3 0).toNat (fun i => σ 3 p 13 i * σ 3 p 5 i)) σ) : Pa_priceOfUnits p σ Q := by
  have hj := hb.2.1
  have key : ∀ (k i : Nat) (s : Int), (i : Int) + k = σ 3 p 3 0 → s = sm i (fun i => σ 3 p 13 i * σ 3 p 5 i) → Pa_priceOfUnits_4 Q (k + 1) p s i σ := by
    intro k
    induction k with
    | zero =>
      intro i s h1 h3
      unfold Pa_priceOfUnits_4
      refine ⟨⟨by omega, by omega⟩, ⟨by omega, by omega⟩, fun _ => ?_, fun h => absurd h (by omega)⟩
      have e : (σ 3 p 3 0).toNat = i := by omega
      rw [h3, ← e]
      exact hQ
    | succ k ih =>
      intro i s h1 h3
      unfold Pa_priceOfUnits_4
      refine ⟨⟨by omega, by omega⟩, ⟨by omega, by omega⟩, fun h => absurd h (by omega), fun _ => ⟨by omega, by omega, by omega, by omega, fun x5 e5 x6 e6 => ?_⟩⟩
      have e : x6 = ((i + 1 : Nat) : Int) := by omega
      rw [e]
      refine ih (i + 1) x5 (by omega) ?_
      rw [e5, h3]
      rfl
  exact ⟨_, key (σ 3 p 3 0).toNat 0 0 (by omega) rfl⟩
/-- the rooms of a part's rows at a spot in a future -/
def roomC (σ : Mem) (p spot f r : Int) : Int := σ 3 p 7 r + σ 3 p 9 (f * 6 + r) - sm (σ 3 p 0 0).toNat (fun j => σ 3 p 8 (r * 10 + 4 + σ 3 p 1 j) * dS spot j)
theorem w_Pa_measureRooms {σ : Mem} {p spot f : Int} {Q : Mem → Prop} (hb : PB σ p) (hs0 : 0 ≤ spot) (hs1 : spot < 64) (hf0 : 0 ≤ f) (hf1 : f < 4) (hQ : ∀ σ', Eo (fun c q k => c = 3 ∧ q = p ∧ k = 12) σ σ' → (∀ r, 0 ≤ r → r < σ 3 p 6 0 → σ' 3 p 12 r = roomC σ p spot f r) → Q σ') : Pa_measureRooms p spot f σ Q := by
  obtain ⟨hj, hl, hr, b4, b5, b6, b7, b8⟩ := hb
  have key : ∀ (k : Nat) (r : Int) (σ' : Mem), r + k = σ 3 p 6 0 → 0 ≤ r → Eo (fun c q k => c = 3 ∧ q = p ∧ k = 12) σ σ' → (∀ r', 0 ≤ r' → r' < r → σ' 3 p 12 r' = roomC σ p spot f r') → Pa_measureRooms_2 Q (k + 1) p spot f r σ' := by
    intro k
    induction k with
    | zero =>
      intro r σ' h1 h2 hE hR
      have e6 : σ' 3 p 6 0 = σ 3 p 6 0 := hE 3 p 6 0 (by simp)
      unfold Pa_measureRooms_2
      rw [e6]
      refine ⟨⟨by omega, by omega⟩, ⟨by omega, by omega⟩, fun _ => ?_, fun h => absurd h (by omega)⟩
      exact hQ σ' hE (fun r' g1 g2 => hR r' g1 (by omega))
    | succ k ih =>
      intro r σ' h1 h2 hE hR
      have e6 : σ' 3 p 6 0 = σ 3 p 6 0 := hE 3 p 6 0 (by simp)
      have e0 : σ' 3 p 0 0 = σ 3 p 0 0 := hE 3 p 0 0 (by simp)
      have e7 : σ' 3 p 7 r = σ 3 p 7 r := hE 3 p 7 r (by simp)
      have e9 : σ' 3 p 9 (f * 6 + r) = σ 3 p 9 (f * 6 + r) := hE 3 p 9 _ (by simp)
      have key2 : ∀ (m : Nat) (j : Nat) (room : Int), (j : Int) + m = σ 3 p 0 0 → room = σ 3 p 7 r + σ 3 p 9 (f * 6 + r) - sm j (fun j => σ 3 p 8 (r * 10 + 4 + σ 3 p 1 j) * dS spot j) → Pa_measureRooms_33 (fun z0 z1 z2 z3 z4 => Pa_measureRooms_2 Q (k + 1) z0 z1 z2 z3 z4) Q (m + 1) p spot f r room j σ' := by
        intro m
        induction m with
        | zero =>
          intro j room g1 g2
          unfold Pa_measureRooms_33
          rw [e0]
          refine ⟨⟨by omega, by omega⟩, ⟨by omega, by omega⟩, fun _ => ⟨by omega, by omega, fun σ3 es x4 ex => ?_⟩, fun h => absurd h (by omega)⟩
          subst es
          refine ih x4 _ (by omega) (by omega) (hE.tr (Eo.of_up ⟨rfl, rfl, rfl⟩)) (fun r' q1 q2 => ?_)
          by_cases hrr : r' = r
          · subst hrr
            rw [up_at, g2]
            unfold roomC
            have ej : (σ 3 p 0 0).toNat = j := by omega
            rw [ej]
          · rw [up_ne (fun z => hrr z.2.2.2)]
            exact hR r' q1 (by omega)
        | succ m ih2 =>
          intro j room g1 g2
          have bj := b4 j (by omega) (by omega)
          have e1 : σ' 3 p 1 j = σ 3 p 1 j := hE 3 p 1 j (by simp)
          have e8 : σ' 3 p 8 (r * 10 + 4 + σ 3 p 1 j) = σ 3 p 8 (r * 10 + 4 + σ 3 p 1 j) := hE 3 p 8 _ (by simp)
          unfold Pa_measureRooms_33
          rw [e0, e1, e8]
          refine ⟨⟨by omega, by omega⟩, ⟨by omega, by omega⟩, fun h => absurd h (by omega), fun _ => fun x5 e5 => ⟨by omega, by omega, by omega, by omega, fun x8 e8' x9 e9' => ?_⟩⟩
          have ex : x9 = ((j + 1 : Nat) : Int) := by omega
          rw [ex]
          refine ih2 (j + 1) x8 (by omega) ?_
          rw [e8', e5, dS_and hs0 hs1 (by omega) (by omega), g2]
          simp only [sm]
          omega
      unfold Pa_measureRooms_2
      rw [e6, e7, e9]
      refine ⟨⟨by omega, by omega⟩, ⟨by omega, by omega⟩, fun h => absurd h (by omega), fun _ => ⟨by omega, by omega, by omega, by omega, fun x5 e5 => ⟨_, key2 (σ 3 p 0 0).toNat 0 x5 (by omega) (by rw [e5]; simp [sm])⟩⟩⟩
  exact ⟨_, key (σ 3 p 6 0).toNat 0 σ (by omega) (by omega) Eo.rf (fun r' g1 g2 => absurd g2 (by omega))⟩

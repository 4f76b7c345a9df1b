/-! ===== the law's loop ===== -/
theorem iAnd_inr (a b : Int) : InR (iAnd a b) := by
  unfold iAnd
  exact ⟨Int32.le_toInt _, by have := Int32.toInt_lt (oI a &&& oI b); omega⟩
set_option maxHeartbeats 1000000 in
theorem w_Lw_law {scr : Int → Int} {L : Int} {σ : Mem} {Q : Int → Mem → Prop} (hs : ∀ i, 0 ≤ i → i < L → InR (scr i)) (hL : 0 ≤ L ∧ L ≤ 3072) (hI : Inv σ 0) (hQ : ∀ σ', Q 1 σ') : Lw_law scr L σ Q := by
  have key : ∀ (k : Nat) (i N : Int) (μ : Mem), i = 6 * N → 0 ≤ N → L < i + 6 + 6 * k → i ≤ L → Inv μ N → Lw_law_18 scr L Q (k + 1) i μ := by
    intro k
    induction k with
    | zero =>
      intro i N μ e n0 hk hiL hI
      unfold Lw_law_18
      exact ⟨⟨by omega, by omega⟩, ⟨by omega, by omega⟩, fun _ => hQ μ, fun y => absurd y (by omega)⟩
    | succ k ih =>
      intro i N μ e n0 hk hiL hI
      by_cases hend : L - 6 < i
      · unfold Lw_law_18
        exact ⟨⟨by omega, by omega⟩, ⟨by omega, by omega⟩, fun _ => hQ μ, fun y => absurd y (by omega)⟩
      have hN : 0 ≤ N ∧ N ≤ 1000 := by omega
      have i1 := hs (i + 1) (by omega) (by omega)
      have i2 := hs (i + 2) (by omega) (by omega)
      have i3 := hs (i + 3) (by omega) (by omega)
      have i4 := hs (i + 4) (by omega) (by omega)
      have i5 := hs (i + 5) (by omega) (by omega)
      have step : ∀ σ', Inv σ' (N + 1) → Lw_law_811 scr L (fun z0 z1 => Lw_law_18 scr L Q (k + 1) z0 z1) Q i σ' := by
        intro σ' hI'
        unfold Lw_law_811
        intro x1 e1
        exact ih x1 (N + 1) σ' (by omega) (by omega) (by omega) (by omega) hI'
      have b1 : 0 ≤ i + 1 := by omega
      have c1 : i + 1 < L := by omega
      have b2 : 0 ≤ i + 2 := by omega
      have c2 : i + 2 < L := by omega
      have b3 : 0 ≤ i + 3 := by omega
      have c3 : i + 3 < L := by omega
      have b4 : 0 ≤ i + 4 := by omega
      have c4 : i + 4 < L := by omega
      have b5 : 0 ≤ i + 5 := by omega
      have c5 : i + 5 < L := by omega
      have wg : ∀ ch : Int, (ch = 0 ∨ ch = 1) → ((scr (i + 3) = 0 → ch = 0) ∧ (scr (i + 3) ≠ 0 → ch = 1)) → Lw_law_400 scr L (fun z0 z1 => Lw_law_18 scr L Q (k + 1) z0 z1) Q i (scr (i + 1)) (scr (i + 2)) ch μ := by
        intro ch hch hc
        unfold Lw_law_400
        refine ⟨b4, c4, b5, c5, op_weigh hI hN i1 i2 hch i4 i5 (fun r1 σ1 hA => ⟨b1, c1, b2, c2, b3, c3, i3, fun y => ?_, fun y => ?_⟩)⟩
        · unfold Lw_law_437
          rw [hc.1 y] at hA
          exact ⟨b4, c4, b5, c5, hA.2 _ (fun σ' hI' => ⟨hA.1, hA.1, fun _ => step σ' hI', fun y => absurd rfl y⟩)⟩
        · unfold Lw_law_437
          rw [hc.2 y] at hA
          exact ⟨b4, c4, b5, c5, hA.2 _ (fun σ' hI' => ⟨hA.1, hA.1, fun _ => step σ' hI', fun y => absurd rfl y⟩)⟩
      unfold Lw_law_18
      refine ⟨⟨by omega, by omega⟩, ⟨by omega, by omega⟩, fun y => absurd y (by omega), fun _ => ⟨by omega, by omega, iAnd_inr _ _, fun _ => ?_, fun _ => ?_, fun _ => ?_, fun _ => ?_, fun _ => ?_, fun _ => ?_, fun _ => ?_, fun _ => ?_, fun _ => ?_, fun _ => ?_, fun _ => ?_, fun _ => ?_, fun _ => ?_, fun _ => ?_, fun _ => ?_, fun _ => ?_, fun _ => ?_, fun _ => ?_, fun _ => ?_, fun _ => ?_, fun _ => ?_, fun _ => ?_⟩⟩
      · exact ⟨b1, c1, op_choice hI hN i1 (fun r1 σ1 hA => ⟨b1, c1, hA.2 _ (fun σ' hI' => ⟨hA.1, hA.1, fun _ => step σ' hI', fun y => absurd rfl y⟩)⟩)⟩
      · exact ⟨b1, c1, b2, c2, b3, c3, op_price hI hN i1 i2 i3 (fun r1 σ1 hA => ⟨b1, c1, b2, c2, b3, c3, hA.2 _ (fun σ' hI' => ⟨hA.1, hA.1, fun _ => step σ' hI', fun y => absurd rfl y⟩)⟩)⟩
      · exact ⟨b1, c1, op_future hI hN i1 (fun r1 σ1 hA => ⟨b1, c1, hA.2 _ (fun σ' hI' => ⟨hA.1, hA.1, fun _ => step σ' hI', fun y => absurd rfl y⟩)⟩)⟩
      · exact ⟨b1, c1, b2, c2, op_weight hI hN i1 i2 (fun r1 σ1 hA => ⟨b1, c1, b2, c2, hA.2 _ (fun σ' hI' => ⟨hA.1, hA.1, fun _ => step σ' hI', fun y => absurd rfl y⟩)⟩)⟩
      · exact op_part hI hN (fun r1 σ1 hA => hA.2 _ (fun σ' hI' => ⟨hA.1, hA.1, fun _ => step σ' hI', fun y => absurd rfl y⟩))
      · exact ⟨b1, c1, b2, c2, op_join hI hN i1 i2 (fun r1 σ1 hA => ⟨b1, c1, b2, c2, hA.2 _ (fun σ' hI' => ⟨hA.1, hA.1, fun _ => step σ' hI', fun y => absurd rfl y⟩)⟩)⟩
      · exact ⟨b1, c1, b2, c2, b3, c3, op_local hI hN i1 i2 i3 (fun r1 σ1 hA => ⟨b1, c1, b2, c2, b3, c3, hA.2 _ (fun σ' hI' => ⟨hA.1, hA.1, fun _ => step σ' hI', fun y => absurd rfl y⟩)⟩)⟩
      · exact ⟨b1, c1, b2, c2, op_row hI hN i1 i2 (fun r1 σ1 hA => ⟨b1, c1, b2, c2, hA.2 _ (fun σ' hI' => ⟨hA.1, hA.1, fun _ => step σ' hI', fun y => absurd rfl y⟩)⟩)⟩
      · exact ⟨b1, c1, b2, c2, b3, c3, i3, fun y => wg 0 (Or.inl rfl) ⟨fun _ => rfl, fun y' => absurd y y'⟩, fun y => wg 1 (Or.inr rfl) ⟨fun y' => absurd y' y, fun _ => rfl⟩⟩
      · exact ⟨b1, c1, b2, c2, b3, c3, b4, c4, op_shift hI hN i1 i2 i3 i4 (fun r1 σ1 hA => ⟨b1, c1, b2, c2, b3, c3, b4, c4, hA.2 _ (fun σ' hI' => ⟨hA.1, hA.1, fun _ => step σ' hI', fun y => absurd rfl y⟩)⟩)⟩
      · exact ⟨b1, c1, op_run hI hN i1 (fun r1 σ1 hA => ⟨b1, c1, hA.2 _ (fun σ' hI' => ⟨hA.1, hA.1, fun _ => step σ' hI', fun y => absurd rfl y⟩)⟩)⟩
      · exact ⟨b1, c1, op_told hI hN i1 (fun r1 σ1 hA => ⟨b1, c1, hA.2 _ (fun σ' hI' => ⟨hA.1, hA.1, fun _ => step σ' hI', fun y => absurd rfl y⟩)⟩)⟩
      · exact ⟨b1, c1, op_best hI hN i1 (fun r1 σ1 hA => ⟨b1, c1, hA.2 _ (fun σ' hI' => ⟨hA.1, hA.1, fun _ => step σ' hI', fun y => absurd rfl y⟩)⟩)⟩
      · exact ⟨b1, c1, op_master hI hN i1 (fun r1 σ1 hA => ⟨b1, c1, hA.2 _ (fun σ' hI' => ⟨hA.1, hA.1, fun _ => step σ' hI', fun y => absurd rfl y⟩)⟩)⟩
      · exact ⟨b1, c1, op_share hI hN i1 (fun r1 σ1 hA => ⟨b1, c1, hA.2 _ (fun σ' hI' => ⟨hA.1, hA.1, fun _ => step σ' hI', fun y => absurd rfl y⟩)⟩)⟩
      · exact ⟨b1, c1, b2, c2, op_ask hI hN i1 i2 (fun r1 σ1 hA => ⟨b1, c1, b2, c2, hA.2 _ (fun σ' hI' => ⟨hA.1, hA.1, fun _ => step σ' hI', fun y => absurd rfl y⟩)⟩)⟩
      · exact ⟨b1, c1, b2, c2, op_answer hI hN i1 i2 (fun r1 σ1 hA => ⟨b1, c1, b2, c2, hA.2 _ (fun σ' hI' => ⟨hA.1, hA.1, fun _ => step σ' hI', fun y => absurd rfl y⟩)⟩)⟩
      · exact ⟨b1, c1, b2, c2, b3, c3, op_unit hI hN i1 i2 i3 (fun r1 σ1 hA => ⟨b1, c1, b2, c2, b3, c3, hA.2 _ (fun σ' hI' => ⟨hA.1, hA.1, fun _ => step σ' hI', fun y => absurd rfl y⟩)⟩)⟩
      · exact ⟨b1, c1, b2, c2, op_cut hI hN i1 i2 (fun r1 σ1 hA => ⟨b1, c1, b2, c2, hA.2 _ (fun σ' hI' => ⟨hA.1, hA.1, fun _ => step σ' hI', fun y => absurd rfl y⟩)⟩)⟩
      · exact ⟨b1, c1, b2, c2, op_reason hI hN i1 i2 (fun r1 σ1 hA => ⟨b1, c1, b2, c2, hA.2 _ (fun σ' hI' => ⟨hA.1, hA.1, fun _ => step σ' hI', fun y => absurd rfl y⟩)⟩)⟩
      · exact op_judge hI hN (fun r1 σ1 hA => hA.2 _ (fun σ' hI' => ⟨hA.1, hA.1, fun _ => step σ' hI', fun y => absurd rfl y⟩))
      · obtain ⟨s, hs'⟩ := hI
        exact step μ hs'.here
  exact ⟨_, key (L.toNat / 6 + 1) 0 0 σ (by omega) (by omega) (by omega) (by omega) hI⟩
/-- a new object and a new reference, as they start -/
def Mem0 (σ : Mem) : Prop := (∀ c q k i, ¬ (c = 2) → ¬ (c = 4 ∧ (k = 2 ∨ k = 3)) → ¬ (c = 5 ∧ k = 9) → ¬ (c = 3 ∧ k = 10) → ¬ (c = 6 ∧ (k = 5 ∨ k = 6)) → σ c q k i = 0) ∧ σ 2 0 0 0 = 1 ∧ (σ 2 0 1 0 = 1 ∧ ∀ i, i ≠ 0 → σ 2 0 1 i = 0) ∧ σ 4 0 2 0 = -4 ∧ σ 4 0 3 0 = -4 ∧ (∀ p i, 0 ≤ p → p < 4 → 0 ≤ i → i < 256 → σ 3 p 10 i = -9) ∧ σ 6 0 5 0 = 1 ∧ σ 6 0 6 0 = 1 ∧ ∀ i, i ≠ 0 → σ 6 0 6 i = 0
theorem Inv_start {σ : Mem} (h : Mem0 σ) : Inv σ 0 := by
  obtain ⟨z, f0, ⟨f1, f2⟩, l1, l2, a10, g0, g1, g2⟩ := h
  have z0 : ∀ k i, σ 0 0 k i = 0 := fun k i => z _ _ _ _ (by omega) (by omega) (by omega) (by omega) (by omega)
  have z3 : ∀ p k i, k ≠ 10 → σ 3 p k i = 0 := fun p k i hk => z _ _ _ _ (by omega) (by omega) (by omega) (by omega) (by omega)
  have z6 : ∀ k i, k ≠ 5 → k ≠ 6 → σ 6 0 k i = 0 := fun k i x y => z _ _ _ _ (by omega) (by omega) (by omega) (by omega) (by omega)
  have z5 : σ 5 0 3 0 = 0 := z _ _ _ _ (by omega) (by omega) (by omega) (by omega) (by omega)
  refine Inv.mk0 (L := []) ⟨⟨by rw [z0]; omega, fun c x y => by rw [z0] at y; omega, fun i x y => Or.inr (by rw [z0]; omega)⟩, ⟨by omega, fun f x y => ?_⟩, by omega, fun p p0 p1 => ⟨⟨by rw [z3 _ _ _ (by omega)]; omega, by rw [z3 _ _ _ (by omega)]; omega, by rw [z3 _ _ _ (by omega)]; omega, fun j x y => by rw [z3 _ _ _ (by omega)] at y; omega, fun j x y => by rw [z3 _ _ _ (by omega)] at y; omega, fun r x y => by rw [z3 _ _ _ (by omega)]; omega, fun r x y => by rw [z3 _ _ _ (by omega)]; omega, fun r x y => by rw [z3 _ _ _ (by omega)]; omega⟩, fun f sp x0 x1 y0 y1 => Or.inl (a10 p _ p0 p1 (by omega) (by omega)), fun i x y => Or.inr (by rw [z3 _ _ _ (by omega)]; omega), fun j x y => by rw [z3 _ _ _ (by omega)] at y; omega⟩⟩ (fun p p0 p1 j x y => by rw [z3 _ _ _ (by omega)] at y; omega) ⟨by rw [z0, z6 _ _ (by omega) (by omega)], fun c x y => by rw [z0] at y; omega, fun i x y => by rw [z0, z6 _ _ (by omega) (by omega), z6 _ _ (by omega) (by omega)]; exact ⟨fun q => absurd q (by omega), fun _ => ⟨rfl, rfl⟩⟩, fun c x y => by rw [z0, z6 _ _ (by omega) (by omega)], ⟨by omega, fun f x y => ?_⟩, by rw [z6 _ _ (by omega) (by omega), z5], fun p p0 p1 => ⟨by rw [z3 _ _ _ (by omega), z6 _ _ (by omega) (by omega)], fun j x y => by rw [z3 _ _ _ (by omega)] at y; omega, by rw [z3 _ _ _ (by omega), z6 _ _ (by omega) (by omega)], fun i x y => by rw [z3 _ _ _ (by omega), z3 _ _ _ (by omega), z6 _ _ (by omega) (by omega), z6 _ _ (by omega) (by omega)]; exact ⟨rfl, rfl⟩, by rw [z3 _ _ _ (by omega), z6 _ _ (by omega) (by omega)], fun r x y => ⟨by rw [z3 _ _ _ (by omega), z6 _ _ (by omega) (by omega)], fun i x y => by rw [z3 _ _ _ (by omega), z6 _ _ (by omega) (by omega)], fun i x y => by rw [z3 _ _ _ (by omega), z6 _ _ (by omega) (by omega)], fun i x y => by rw [z3 _ _ _ (by omega), z6 _ _ (by omega) (by omega)]⟩⟩⟩ ⟨?_, by simp, fun c hc => absurd hc (by simp), fun k c hc => by simp at hc⟩ (fun p f sp p0 p1 f0' f1' hV => ?_) ⟨?_, by simp, fun c hc => absurd hc (by simp), fun k c hc => by simp at hc⟩ (fun c hc => absurd hc (by simp)) ⟨?_, ?_, l1, l2⟩ ⟨z6 _ _ (by omega) (by omega), z6 _ _ (by omega) (by omega), z6 _ _ (by omega) (by omega), z6 _ _ (by omega) (by omega)⟩ ?_ (fun c x y => by rw [z0]; omega) (fun c x y => ⟨z0 _ _, fun v _ _ => z0 _ _⟩) (Int.le_refl _) (fun c hc => absurd hc (by simp))
  · have : f = 0 := by omega
    subst this
    rw [f1]
    omega
  · have : f = 0 := by omega
    subst this
    rw [f1, g1]
  · exact z _ _ _ _ (by omega) (by omega) (by omega) (by omega) (by omega)
  · rw [z3 _ _ _ (by omega), FM_nil]
  · exact z6 _ _ (by omega) (by omega)
  · exact z _ _ _ _ (by omega) (by omega) (by omega) (by omega) (by omega)
  · exact z _ _ _ _ (by omega) (by omega) (by omega) (by omega) (by omega)
  · exact z _ _ _ _ (by omega) (by omega) (by omega) (by omega) (by omega)

/-! ===== numbers ===== -/
theorem bd_shand : ∀ s : Nat, s < 64 → iAnd (iShr (s : Int) (0 * 2)) 3 = (s : Int) % 4 ∧ iAnd (iShr (s : Int) (1 * 2)) 3 = (s : Int) / 4 % 4 ∧ iAnd (iShr (s : Int) (2 * 2)) 3 = (s : Int) / 16 % 4 := by decide +kernel
theorem bd_or0 : ∀ v : Nat, v < 4 → iOr 0 (iShl (v : Int) (0 * 2)) = (v : Int) := by decide +kernel
theorem bd_or1 : ∀ v : Nat, v < 4 → ∀ s : Nat, s < 4 → iOr (s : Int) (iShl (v : Int) (1 * 2)) = (s : Int) + 4 * v := by decide +kernel
theorem bd_or2 : ∀ v : Nat, v < 4 → ∀ s : Nat, s < 16 → iOr (s : Int) (iShl (v : Int) (2 * 2)) = (s : Int) + 16 * v := by decide +kernel
theorem bd_spots : iShl 1 (0 * 2) = 1 ∧ iShl 1 (1 * 2) = 4 ∧ iShl 1 (2 * 2) = 16 ∧ iShl 1 (3 * 2) = 64 := by decide +kernel
theorem bd_fig : ∀ s : Nat, s < 64 → iDiv (s : Int) 16 = (s : Int) / 16 ∧ iRem (iDiv (s : Int) 4) 4 = (s : Int) / 4 % 4 ∧ iRem (s : Int) 4 = (s : Int) % 4 ∧ iDiv (s : Int) 10 = (s : Int) / 10 ∧ iRem (s : Int) 10 = (s : Int) % 10 := by decide +kernel
theorem bd_bits : ∀ b : Nat, b < 8 → ∀ k : Nat, k < 3 → iAnd (iShr (b : Int) (k : Int)) 1 = (b : Int) / 2 ^ k % 2 ∧ iAnd (b : Int) (iXor (iShl 1 (k : Int)) (-1)) = (b : Int) - 2 ^ k * ((b : Int) / 2 ^ k % 2) := by decide +kernel
theorem bd_full : iShl 1 0 = 1 ∧ iShl 1 1 = 2 ∧ iShl 1 2 = 4 ∧ iShl 1 3 = 8 := by decide +kernel
/-- digit j of a spot -/
def dS (s j : Int) : Int := if j = 0 then s % 4 else if j = 1 then s / 4 % 4 else s / 16 % 4
/-- figure k of a code -/
def dC (s k : Int) : Int := if k = 0 then s / 16 else if k = 1 then s / 4 % 4 else s % 4
theorem dS_and {s j : Int} (h0 : 0 ≤ s) (h1 : s < 64) (hj0 : 0 ≤ j) (hj : j < 3) : iAnd (iShr s (j * 2)) 3 = dS s j := by
  obtain ⟨n, rfl⟩ := Int.eq_ofNat_of_zero_le h0
  have h := bd_shand n (by omega)
  rcases (by omega : j = 0 ∨ j = 1 ∨ j = 2) with rfl | rfl | rfl
  · exact h.1
  · exact h.2.1
  · exact h.2.2
theorem dS_bd (s j : Int) (h0 : 0 ≤ s) (h1 : s < 64) : 0 ≤ dS s j ∧ dS s j < 4 := by
  unfold dS
  split
  · omega
  · split <;> omega
theorem dC_bd (s k : Int) (h0 : 0 ≤ s) (h1 : s < 64) : 0 ≤ dC s k ∧ dC s k < 4 := by
  unfold dC
  split
  · omega
  · split <;> omega
/-- sums -/
def sm : Nat → (Int → Int) → Int
  | 0, _ => 0
  | n + 1, f => sm n f + f (n : Int)
theorem sm_bd {f : Int → Int} {lo hi : Int} : ∀ {n : Nat}, (∀ i : Int, 0 ≤ i → i < n → lo ≤ f i ∧ f i ≤ hi) → n * lo ≤ sm n f ∧ sm n f ≤ n * hi
  | 0, _ => by simp [sm]
  | n + 1, h => by
    have ih := sm_bd (f := f) (lo := lo) (hi := hi) (n := n) (fun i h0 h1 => h i h0 (by omega))
    have hn := h n (by omega) (by omega)
    simp only [sm]
    have e1 : ((n + 1 : Nat) : Int) * lo = n * lo + lo := by rw [Int.natCast_add, Int.add_mul]; omega
    have e2 : ((n + 1 : Nat) : Int) * hi = n * hi + hi := by rw [Int.natCast_add, Int.add_mul]; omega
    rw [e1, e2]
    omega
theorem sm_congr {f g : Int → Int} : ∀ {n : Nat}, (∀ i : Int, 0 ≤ i → i < n → f i = g i) → sm n f = sm n g
  | 0, _ => rfl
  | n + 1, h => by
    simp only [sm]
    rw [sm_congr (n := n) (fun i h0 h1 => h i h0 (by omega)), h n (by omega) (by omega)]
theorem sm_le {f g : Int → Int} : ∀ {n : Nat}, (∀ i : Int, 0 ≤ i → i < n → f i ≤ g i) → sm n f ≤ sm n g
  | 0, _ => by simp [sm]
  | n + 1, h => by
    simp only [sm]
    have := sm_le (n := n) (fun i h0 h1 => h i h0 (by omega))
    have := h n (by omega) (by omega)
    omega
theorem sm_add {f g : Int → Int} : ∀ {n : Nat}, sm n (fun i => f i + g i) = sm n f + sm n g
  | 0 => rfl
  | n + 1 => by
    simp only [sm]
    rw [sm_add (n := n)]
    omega
theorem sm_mul {f : Int → Int} {c : Int} : ∀ {n : Nat}, sm n (fun i => f i * c) = sm n f * c
  | 0 => by simp [sm]
  | n + 1 => by
    simp only [sm]
    rw [sm_mul (n := n), Int.add_mul]
theorem sm_0 {n : Nat} : sm n (fun _ => 0) = 0 := by
  induction n with
  | zero => rfl
  | succ n ih => simp [sm, ih]
/-- products in bounds -/
theorem mul_bd {a b A B : Int} (h1 : 0 ≤ a) (h2 : a ≤ A) (h3 : 0 ≤ b) (h4 : b ≤ B) : 0 ≤ a * b ∧ a * b ≤ A * B := by
  refine ⟨Int.mul_nonneg h1 h3, ?_⟩
  calc a * b ≤ A * b := Int.mul_le_mul_of_nonneg_right h2 h3
    _ ≤ A * B := Int.mul_le_mul_of_nonneg_left h4 (by omega)
theorem mul_bd2 {a b A B : Int} (h1 : -A ≤ a) (h2 : a ≤ A) (h3 : 0 ≤ b) (h4 : b ≤ B) : -(A * B) ≤ a * b ∧ a * b ≤ A * B := by
  have hA : 0 ≤ A := by omega
  have e1 : a * b ≤ A * b := Int.mul_le_mul_of_nonneg_right h2 h3
  have e2 : A * b ≤ A * B := Int.mul_le_mul_of_nonneg_left h4 hA
  have e3 : (-A) * b ≤ a * b := Int.mul_le_mul_of_nonneg_right h1 h3
  have e4 : (-A) * b = -(A * b) := Int.neg_mul A b
  omega
/-! ===== a search by order ===== -/
/-- x is the least price of the feasible places ahead of T (-4: there is none), b the first place that has it -/
def Srch (V F : Int → Prop) (pr : Int → Int) (T x b : Int) : Prop := (x = -4 ∧ ∀ t, t < T → V t → ¬ F t) ∨ (0 ≤ x ∧ V b ∧ F b ∧ b < T ∧ pr b = x ∧ ∀ t, t < T → V t → F t → x ≤ pr t ∧ (t < b → x < pr t))
theorem Srch.zero {V F : Int → Prop} {pr : Int → Int} (hV : ∀ t, V t → 0 ≤ t) {b : Int} : Srch V F pr 0 (-4) b := Or.inl ⟨rfl, fun t h1 h2 => absurd (hV t h2) (by omega)⟩
theorem Srch.ext {V F : Int → Prop} {pr : Int → Int} {T T' x b : Int} (h : Srch V F pr T x b) (hT : T ≤ T') (hs : ∀ t, T ≤ t → t < T' → V t → F t → x ≠ -4 ∧ x ≤ pr t) : Srch V F pr T' x b := by
  rcases h with ⟨h1, h2⟩ | ⟨h1, h2, h3, h4, h5, h6⟩
  · refine Or.inl ⟨h1, fun t ht hV hF => ?_⟩
    by_cases hlt : t < T
    · exact h2 t hlt hV hF
    · exact (hs t (by omega) ht hV hF).1 h1
  · refine Or.inr ⟨h1, h2, h3, by omega, h5, fun t ht hV hF => ?_⟩
    by_cases hlt : t < T
    · exact h6 t hlt hV hF
    · exact ⟨(hs t (by omega) ht hV hF).2, fun hb => absurd hb (by omega)⟩
theorem Srch.win {V F : Int → Prop} {pr : Int → Int} {T T' x b : Int} (h : Srch V F pr T x b) (hT : T < T') (hV : V T) (hF : F T) (hp : 0 ≤ pr T) (hx : x = -4 ∨ pr T < x) (hs : ∀ t, T < t → t < T' → V t → F t → pr T ≤ pr t) : Srch V F pr T' (pr T) T := by
  refine Or.inr ⟨hp, hV, hF, hT, rfl, fun t ht hV' hF' => ?_⟩
  by_cases hlt : t < T
  · rcases h with ⟨h1, h2⟩ | ⟨h1, h2, h3, h4, h5, h6⟩
    · exact absurd hF' (h2 t hlt hV')
    · have := (h6 t hlt hV' hF').1
      rcases hx with hx | hx
      · omega
      · exact ⟨by omega, fun _ => by omega⟩
  · by_cases he : t = T
    · subst he
      exact ⟨Int.le_refl _, fun hb => absurd hb (by omega)⟩
    · exact ⟨hs t (by omega) ht hV' hF', fun hb => absurd hb (by omega)⟩
theorem Srch.uniq {V F : Int → Prop} {pr : Int → Int} {T x b x' b' : Int} (h : Srch V F pr T x b) (h' : Srch V F pr T x' b') : x = x' ∧ (x ≠ -4 → b = b') := by
  rcases h with ⟨h1, h2⟩ | ⟨h1, h2, h3, h4, h5, h6⟩
  · rcases h' with ⟨g1, g2⟩ | ⟨g1, g2, g3, g4, g5, g6⟩
    · exact ⟨by omega, fun h => absurd h1 h⟩
    · exact absurd g3 (h2 b' g4 g2)
  · rcases h' with ⟨g1, g2⟩ | ⟨g1, g2, g3, g4, g5, g6⟩
    · exact absurd h3 (g2 b h4 h2)
    · have a1 := h6 b' g4 g2 g3
      have a2 := g6 b h4 h2 h3
      refine ⟨by omega, fun _ => ?_⟩
      rcases Int.lt_trichotomy b b' with z | z | z
      · have := a2.2 z; omega
      · exact z
      · have := a1.2 z; omega
theorem Srch.congr {V F V' F' : Int → Prop} {pr pr' : Int → Int} {T x b : Int} (hV : ∀ t, V t ↔ V' t) (hF : ∀ t, V t → (F t ↔ F' t)) (hp : ∀ t, V t → pr t = pr' t) (h : Srch V F pr T x b) : Srch V' F' pr' T x b := by
  rcases h with ⟨h1, h2⟩ | ⟨h1, h2, h3, h4, h5, h6⟩
  · exact Or.inl ⟨h1, fun t ht hv hf => h2 t ht ((hV t).mpr hv) ((hF t ((hV t).mpr hv)).mpr hf)⟩
  · exact Or.inr ⟨h1, (hV b).mp h2, (hF b h2).mp h3, h4, (hp b h2) ▸ h5, fun t ht hv hf => by
      have hv' := (hV t).mpr hv
      rw [← hp t hv']
      exact h6 t ht hv' ((hF t hv').mpr hf)⟩
theorem Srch.ex (V F : Int → Prop) (pr : Int → Int) (hV : ∀ t, V t → 0 ≤ t) (hp : ∀ t, V t → 0 ≤ pr t) : ∀ n : Nat, ∃ x b, Srch V F pr n x b := by
  intro n
  induction n with
  | zero => exact ⟨-4, 0, Srch.zero hV⟩
  | succ n ih =>
    obtain ⟨x, b, h⟩ := ih
    by_cases hc : V n ∧ F n ∧ (x = -4 ∨ pr n < x)
    · exact ⟨pr n, n, h.win (by omega) hc.1 hc.2.1 (hp n hc.1) hc.2.2 (fun t h1 h2 => absurd h2 (by omega))⟩
    · refine ⟨x, b, h.ext (by omega) (fun t h1 h2 hv hf => ?_)⟩
      have e : t = n := by omega
      subst e
      by_cases hx : x = -4
      · exact absurd ⟨hv, hf, Or.inl hx⟩ hc
      · exact ⟨hx, Int.not_lt.mp (fun z => hc ⟨hv, hf, Or.inr z⟩)⟩
/-- the answer of a search -/
noncomputable def An (V F : Int → Prop) (pr : Int → Int) (T : Int) : Int := Classical.epsilon (fun x => ∃ b, Srch V F pr T x b)
theorem An_eq {V F : Int → Prop} {pr : Int → Int} {T x b : Int} (h : Srch V F pr T x b) : An V F pr T = x := by
  have := Classical.epsilon_spec (p := fun x => ∃ b, Srch V F pr T x b) ⟨x, b, h⟩
  obtain ⟨b', h'⟩ := this
  exact (h'.uniq h).1
theorem up_at {σ : Mem} {c : Nat} {p : Int} {k : Nat} {i x : Int} : up σ c p k i x c p k i = x := by simp [up]
theorem up_ne {σ : Mem} {c : Nat} {p : Int} {k : Nat} {i x : Int} {c' : Nat} {p' : Int} {k' : Nat} {i' : Int} (h : ¬ (c' = c ∧ p' = p ∧ k' = k ∧ i' = i)) : up σ c p k i x c' p' k' i' = σ c' p' k' i' := by
  unfold up
  rw [if_neg h]
theorem up_eqv {σ : Mem} {c : Nat} {p : Int} {k : Nat} {i x : Int} {c' : Nat} {p' : Int} {k' : Nat} {i' : Int} : up σ c p k i x c' p' k' i' = if c' = c ∧ p' = p ∧ k' = k ∧ i' = i then x else σ c' p' k' i' := rfl

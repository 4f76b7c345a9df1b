/-! ===== the reference: a part's answer ===== -/
def MPa (σ : Mem) (p : Int) : Prop := σ 6 0 8 p = σ 3 p 0 0 ∧ (∀ j, 0 ≤ j → j < σ 3 p 0 0 → σ 6 0 9 (3 * p + j) = σ 3 p 1 j) ∧ σ 6 0 10 p = σ 3 p 3 0 ∧ (∀ i, 0 ≤ i → i < 4 → σ 6 0 11 (4 * p + i) = σ 3 p 4 i ∧ σ 6 0 12 (4 * p + i) = σ 3 p 5 i) ∧ σ 6 0 13 p = σ 3 p 6 0 ∧ ∀ r, 0 ≤ r → r < 6 → σ 6 0 14 (6 * p + r) = σ 3 p 7 r ∧ (∀ i, 0 ≤ i → i < 4 → σ 6 0 15 (4 * (6 * p + r) + i) = σ 3 p 8 (r * 10 + i)) ∧ (∀ c, 0 ≤ c → c < 6 → σ 6 0 16 (6 * (6 * p + r) + c) = σ 3 p 8 (r * 10 + 4 + c)) ∧ ∀ f, 0 ≤ f → f < 4 → σ 6 0 17 (24 * f + 6 * p + r) = σ 3 p 9 (f * 6 + r)
/-- a code as a spot -/
def cv (code : Int) : Int := dC code 0 + 4 * dC code 1 + 16 * dC code 2
theorem cv_bd {code : Int} (h0 : 0 ≤ code) (h1 : code < 64) : 0 ≤ cv code ∧ cv code < 64 := by
  have a := dC_bd code 0 h0 h1
  have b := dC_bd code 1 h0 h1
  have c := dC_bd code 2 h0 h1
  unfold cv
  omega
theorem cv_dS {code k : Int} (h0 : 0 ≤ code) (h1 : code < 64) (hk0 : 0 ≤ k) (hk1 : k < 3) : dS (cv code) k = dC code k := by
  have a := dC_bd code 0 h0 h1
  have b := dC_bd code 1 h0 h1
  have c := dC_bd code 2 h0 h1
  unfold cv
  rcases (by omega : k = 0 ∨ k = 1 ∨ k = 2) with rfl | rfl | rfl
  · show (dC code 0 + 4 * dC code 1 + 16 * dC code 2) % 4 = _
    omega
  · show (dC code 0 + 4 * dC code 1 + 16 * dC code 2) / 4 % 4 = _
    omega
  · show (dC code 0 + 4 * dC code 1 + 16 * dC code 2) / 16 % 4 = _
    omega
theorem w_Mo_figure {σ : Mem} {code k : Int} {Q : Int → Mem → Prop} (h0 : 0 ≤ code) (h1 : code < 64) (hk : InR k) (hQ : Q (dC code k) σ) : Mo_figure code k σ Q := by
  obtain ⟨n, rfl⟩ := Int.eq_ofNat_of_zero_le h0
  have b := bd_fig n (by omega)
  unfold Mo_figure Mo_figure_27
  refine ⟨hk, fun z => ⟨hk, fun z2 => ?_, fun z2 => ?_⟩, fun z => ?_⟩
  · rw [b.2.2.1]
    have e : dC (n : Int) k = (n : Int) % 4 := by unfold dC; rw [if_neg z, if_neg z2]
    rw [← e]; exact hQ
  · rw [b.2.1]
    have e : dC (n : Int) k = (n : Int) / 4 % 4 := by unfold dC; rw [if_neg z, if_pos z2]
    rw [← e]; exact hQ
  · rw [b.1]
    have e : dC (n : Int) k = (n : Int) / 16 := by unfold dC; rw [if_pos z]
    rw [← e]; exact hQ
def S6a : Nat → Int → Nat → Prop := fun c q k => c = 6 ∧ q = 0 ∧ 35 ≤ k ∧ k ≤ 37
set_option maxHeartbeats 4000000 in
theorem w_Mo_answerTo {σ : Mem} {p code f : Int} {Q : Int → Mem → Prop} (hb : PB σ p) (hM : MPa σ p) (p0 : 0 ≤ p) (p1 : p < 4) (hs0 : 0 ≤ code) (hs1 : code < 64) (hf0 : 0 ≤ f) (hf1 : f < 4) (hQ : ∀ b σ', Eo S6a σ σ' → Srch (VCp σ p) (FCp σ p (cv code) f) (pCp σ p) 256 (AnC σ p (cv code) f) b → (AnC σ p (cv code) f ≠ -4 → ∀ i, 0 ≤ i → i < 4 → σ' 6 0 37 i = uD b i) → Q (AnC σ p (cv code) f) σ') : Mo_answerTo p code f σ Q := by
  have hb' := hb
  obtain ⟨hj, hl, hrc, b4, b5, b6, b7, b8⟩ := hb'
  obtain ⟨M1, M2, M3, M4, M5, M6⟩ := hM
  have hcv := cv_bd hs0 hs1
  have hT : ∀ i, 0 ≤ i → i < 4 → 0 ≤ tpv (σ 3 p 3 0) (σ 3 p 4) i ∧ tpv (σ 3 p 3 0) (σ 3 p 4) i ≤ 3 := by
    intro i i0 i1
    unfold tpv
    split
    · rename_i c
      have := b5 i i0 c
      omega
    · omega
  have hrb := fun r (r0 : 0 ≤ r) (r1 : r < 6) => roomC_bd (r := r) hb hcv.1 hcv.2 hf0 hf1 r0 r1
  -- fields told do not change
  have ef : ∀ μ : Mem, Eo S6a σ μ → ∀ k : Nat, k < 35 → ∀ i, μ 6 0 k i = σ 6 0 k i := fun μ hE k hk i => hE 6 0 k i (by unfold S6a; omega)
  -- the search
  have main : ∀ (k : Nat) (x more b : Int) (μ : Mem), Eo S6a σ μ → (∀ r, 0 ≤ r → r < σ 3 p 6 0 → μ 6 0 35 r = roomC σ p (cv code) f r) → (x ≠ -4 → ∀ i, 0 ≤ i → i < 4 → μ 6 0 37 i = uD b i) → (x = -4 ∨ 0 ≤ x ∧ x ≤ 600) → ((more = 1 ∧ (∀ i, 0 ≤ i → i < 4 → 0 ≤ μ 6 0 36 i ∧ μ 6 0 36 i ≤ tpv (σ 3 p 3 0) (σ 3 p 4) i) ∧ 256 ≤ rk (μ 6 0 36) + k ∧ Srch (VCp σ p) (FCp σ p (cv code) f) (pCp σ p) (rk (μ 6 0 36)) x b) ∨ (more = 0 ∧ Srch (VCp σ p) (FCp σ p (cv code) f) (pCp σ p) 256 x b)) → Mo_answerTo_158 Q (k + 1) p (σ 3 p 3 0) x more μ := by
    intro k
    induction k with
    | zero =>
      intro x more b μ hE hR hL hx hh
      rcases hh with ⟨m1, hu, hst, hS⟩ | ⟨m0, hS⟩
      · have := rk_bd (u := μ 6 0 36) (fun i i0 i1 => ⟨(hu i i0 i1).1, by have := hu i i0 i1; have := hT i i0 i1; omega⟩)
        omega
      · unfold Mo_answerTo_158
        have ex : AnC σ p (cv code) f = x := An_eq hS
        refine ⟨⟨by omega, by omega⟩, fun _ => ?_, fun z => absurd m0 z⟩
        rw [← ex]
        rw [← ex] at hS hL
        exact hQ b μ hE hS hL
    | succ k ih =>
      intro x more b μ hE hR hL hx hh
      rcases hh with ⟨m1, hu, hst, hS⟩ | ⟨m0, hS⟩
      rotate_left
      · unfold Mo_answerTo_158
        have ex : AnC σ p (cv code) f = x := An_eq hS
        refine ⟨⟨by omega, by omega⟩, fun _ => ?_, fun z => absurd m0 z⟩
        rw [← ex]
        rw [← ex] at hS hL
        exact hQ b μ hE hS hL
      have hu3 : ∀ i, 0 ≤ i → i < 4 → 0 ≤ μ 6 0 36 i ∧ μ 6 0 36 i ≤ 3 := fun i i0 i1 => ⟨(hu i i0 i1).1, by have := hu i i0 i1; have := hT i i0 i1; omega⟩
      have hVT : VCp σ p (rk (μ 6 0 36)) := VU_rk hu3 (fun i i0 i1 => (hu i i0 i1).2)
      have hbk := rk_bd hu3
      have bP := pCp_bd hb hVT
      have em := ef μ hE
      -- the next units
      have next : ∀ (x' b' : Int) (ν : Mem), Eo S6a σ ν → (∀ i, ν 6 0 36 i = μ 6 0 36 i) → (∀ r, 0 ≤ r → r < σ 3 p 6 0 → ν 6 0 35 r = roomC σ p (cv code) f r) → (x' ≠ -4 → ∀ i, 0 ≤ i → i < 4 → ν 6 0 37 i = uD b' i) → (x' = -4 ∨ 0 ≤ x' ∧ x' ≤ 600) → (∀ T', rk (μ 6 0 36) < T' → (∀ t, rk (μ 6 0 36) ≤ t → t < T' → VCp σ p t → t = rk (μ 6 0 36)) → Srch (VCp σ p) (FCp σ p (cv code) f) (pCp σ p) T' x' b') → Mo_answerTo_354 (fun z0 z1 z2 z3 z4 => Mo_answerTo_158 Q (k + 1) z0 z1 z2 z3 z4) Q p (σ 3 p 3 0) x' ν := by
        intro x' b' ν hEν hνu hRν hLν hx' hs
        have eν := ef ν hEν
        have z0 : ∀ i, σ 3 p 3 0 - 1 < i → i < 4 → μ 6 0 36 i = 0 := by
          intro i i0 i1
          have a := hu i (by omega) i1
          unfold tpv at a
          rw [if_neg (by omega)] at a
          omega
        have fin : ∀ (r : Int) (μ1 : Mem), Eo (fun c q k => c = 6 ∧ q = 0 ∧ k = 36) ν μ1 → Rz (σ 3 p 3 0 - 1) (tpv (σ 3 p 3 0) (σ 3 p 4)) (μ 6 0 36) (μ1 6 0 36) r → Mo_answerTo_158 Q (k + 1) p (σ 3 p 3 0) x' r μ1 := by
          intro r μ1 hE1 hz
          have A := adv (n := σ 3 p 3 0) (tp := σ 3 p 4) (u := μ 6 0 36) (u' := μ 6 0 36) (v := μ1 6 0 36) (by omega) (by omega) (fun i i0 i1 => (hT i i0 i1).2) hu (fun _ _ _ => rfl) z0 hz (fun i i0 i1 => z0 i (by omega) i1)
          have one : ∀ t, VCp σ p t → (∀ i, 0 ≤ i → i ≤ σ 3 p 3 0 - 1 → uD t i = μ 6 0 36 i) → t = rk (μ 6 0 36) := by
            intro t hV he
            rw [← rk_uD hV.1.1 hV.1.2, ← rk_pf, ← rk_pf]
            refine pf_congr (fun i i0 i1 => ?_)
            by_cases c : i ≤ σ 3 p 3 0 - 1
            · exact he i i0 c
            · have a := hV.2 i i0 (by omega)
              rw [if_neg (by omega)] at a
              have := (uD_bd hV.1.1 hV.1.2 i).1
              rw [z0 i (by omega) (by omega)]
              omega
          refine ih x' r b' μ1 (hEν.tr (hE1.mono (fun c q k z => ⟨z.1, z.2.1, by omega, by omega⟩))) (fun r r0 r1 => by rw [hE1 6 0 35 r (by omega)]; exact hRν r r0 r1) (fun hxx i i0 i1 => by rw [hE1 6 0 37 i (by omega)]; exact hLν hxx i i0 i1) hx' ?_
          rcases A with ⟨a1, a2, a3, a4⟩ | ⟨a1, a2⟩
          · exact Or.inl ⟨a1, a2, by omega, hs _ a3 (fun t t0 t1 hV => one t hV (a4 t hV t0 t1).1)⟩
          · exact Or.inr ⟨a1, hs 256 hbk.2 (fun t t0 t1 hV => one t hV (a2 t hV t0).1)⟩
        have key : ∀ (m : Nat) (i : Int) (μ' : Mem), i + 1 = m → i ≤ σ 3 p 3 0 - 1 → Eo (fun c q k => c = 6 ∧ q = 0 ∧ k = 36) ν μ' → (∀ j, j ≤ i → μ' 6 0 36 j = μ 6 0 36 j) → (∀ j, i < j → j ≤ σ 3 p 3 0 - 1 → μ' 6 0 36 j = 0 ∧ tpv (σ 3 p 3 0) (σ 3 p 4) j ≤ μ 6 0 36 j) → (∀ j, σ 3 p 3 0 - 1 < j → μ' 6 0 36 j = μ 6 0 36 j) → Mo_answerTo_360 (fun z0 z1 z2 z3 z4 => Mo_answerTo_158 Q (k + 1) z0 z1 z2 z3 z4) Q (m + 1) p (σ 3 p 3 0) x' i μ' := by
          intro m
          induction m with
          | zero =>
            intro i μ' g1 g2 hE' a1 a2 a3
            unfold Mo_answerTo_360
            refine ⟨⟨by omega, by omega⟩, fun _ => ?_, fun z => absurd z (by omega)⟩
            unfold Mo_answerTo_400 Mo_answerTo_410 Mo_answerTo_428
            refine ⟨⟨by omega, by omega⟩, fun _ => ⟨InR_0, fun _ => ?_, fun z => absurd rfl z⟩, fun z => absurd z (by omega)⟩
            exact fin 0 μ' hE' (Or.inr ⟨rfl, fun j j0 j1 => (a2 j (by omega) j1).2⟩)
          | succ m ihm =>
            intro i μ' g1 g2 hE' a1 a2 a3
            have q11 : μ' 6 0 11 (4 * p + i) = σ 3 p 4 i := by rw [hE' 6 0 11 _ (by omega), eν 11 (by omega)]; exact (M4 i (by omega) (by omega)).1
            have q36 := a1 i (Int.le_refl i)
            have bt := (b5 i (by omega) (by omega)).1
            have bu := hu i (by omega) (by omega)
            have etp : tpv (σ 3 p 3 0) (σ 3 p 4) i = σ 3 p 4 i := if_pos (by omega)
            have bu3 := hu3 i (by omega) (by omega)
            unfold Mo_answerTo_360
            rw [q11, q36]
            refine ⟨⟨by omega, by omega⟩, fun z => absurd z (by omega), fun _ => ⟨by omega, by omega, by omega, by omega, ⟨by omega, by omega⟩, ⟨by omega, by omega⟩, fun hne => ?_, fun he => ⟨by omega, by omega, fun σ6 e6 x7 e7 => ?_⟩⟩⟩
            · unfold Mo_answerTo_400 Mo_answerTo_410 Mo_answerTo_428
              refine ⟨⟨by omega, by omega⟩, fun z => absurd z (by omega), fun _ => ⟨⟨by omega, by omega⟩, fun z => absurd z (by omega), fun _ => ⟨by omega, by omega, by omega, by omega, fun σ3 e3 => ?_⟩⟩⟩
              subst e3
              refine fin 1 _ (hE'.tr (Eo.of_up ⟨rfl, rfl, rfl⟩)) (Or.inl ⟨rfl, i, by omega, g2, by rw [up_at, q36], by omega, fun j j0 j1 => ?_, fun j j0 j1 => ?_, fun j j0 => ?_⟩)
              · rw [up_ne (by omega)]; exact a1 j (by omega)
              · rw [up_ne (by omega)]; exact a2 j j0 j1
              · rw [up_ne (by omega)]; exact a3 j j0
            · subst e6
              refine ihm x7 _ (by omega) (by omega) (hE'.tr (Eo.of_up ⟨rfl, rfl, rfl⟩)) (fun j j1 => ?_) (fun j j0 j1 => ?_) (fun j j0 => ?_)
              · rw [up_ne (by omega)]; exact a1 j (by omega)
              · by_cases c : j = i
                · subst c; exact ⟨up_at, by omega⟩
                · rw [up_ne (by omega)]; exact a2 j (by omega) j1
              · rw [up_ne (by omega)]; exact a3 j j0
        unfold Mo_answerTo_354
        intro x1 e1
        exact ⟨_, key (σ 3 p 3 0).toNat x1 ν (by omega) (by omega) Eo.rf (fun j _ => hνu j) (fun j j0 j1 => absurd j1 (by omega)) (fun j _ => hνu j)⟩
      -- a winner is copied
      have copy : (x = -4 ∨ pCp σ p (rk (μ 6 0 36)) < x) → FCp σ p (cv code) f (rk (μ 6 0 36)) → Mo_answerTo_321 (fun z0 z1 z2 z3 z4 => Mo_answerTo_158 Q (k + 1) z0 z1 z2 z3 z4) Q p (σ 3 p 3 0) (pCp σ p (rk (μ 6 0 36))) μ := by
        intro hlt hF
        have key : ∀ (m : Nat) (i : Int) (ν : Mem), i + m = 4 → 0 ≤ i → Eo (fun c q k => c = 6 ∧ q = 0 ∧ k = 37) μ ν → (∀ j, 0 ≤ j → j < i → ν 6 0 37 j = μ 6 0 36 j) → Mo_answerTo_328 (fun z0 z1 z2 z3 z4 => Mo_answerTo_158 Q (k + 1) z0 z1 z2 z3 z4) Q (m + 1) p (σ 3 p 3 0) (pCp σ p (rk (μ 6 0 36))) i ν := by
          intro m
          induction m with
          | zero =>
            intro i ν g1 g2 hE' hc
            unfold Mo_answerTo_328
            refine ⟨⟨by omega, by omega⟩, fun _ => ?_, fun z => absurd z (by omega)⟩
            refine next (pCp σ p (rk (μ 6 0 36))) (rk (μ 6 0 36)) ν (hE.tr (hE'.mono (fun c q k z => ⟨z.1, z.2.1, by omega, by omega⟩))) (fun j => hE' 6 0 36 j (by omega)) (fun r r0 r1 => by rw [hE' 6 0 35 r (by omega)]; exact hR r r0 r1) (fun _ j j0 j1 => by rw [hc j j0 (by omega), uD_rk hu3 j j0 j1]) (Or.inr bP) (fun T' t1 t2 => hS.win t1 hVT hF bP.1 hlt (fun t a c hV _ => ?_))
            have := t2 t (by omega) c hV
            omega
          | succ m ihm =>
            intro i ν g1 g2 hE' hc
            unfold Mo_answerTo_328
            refine ⟨⟨by omega, by omega⟩, fun z => absurd z (by omega), fun _ => ⟨by omega, by omega, by omega, by omega, fun σ4 e4 x5 e5 => ?_⟩⟩
            subst e4
            refine ihm x5 _ (by omega) (by omega) (hE'.tr (Eo.of_up ⟨rfl, rfl, rfl⟩)) (fun j j0 j1 => ?_)
            by_cases c : j = i
            · subst c; rw [up_at]; exact hE' 6 0 36 _ (by omega)
            · rw [up_ne (by omega)]; exact hc j j0 (by omega)
        exact ⟨_, key 4 0 μ (by omega) (by omega) Eo.rf (fun j j0 j1 => absurd j1 (by omega))⟩
      have lose : (∀ t, t = rk (μ 6 0 36) → FCp σ p (cv code) f t → x ≠ -4 ∧ x ≤ pCp σ p t) → Mo_answerTo_354 (fun z0 z1 z2 z3 z4 => Mo_answerTo_158 Q (k + 1) z0 z1 z2 z3 z4) Q p (σ 3 p 3 0) x μ := fun hl => next x b μ hE (fun _ => rfl) hR hL hx (fun T' t1 t2 => hS.ext (by omega) (fun t a c hV hF => hl t (t2 t a c hV) hF))
      -- its price
      have price : FCp σ p (cv code) f (rk (μ 6 0 36)) → ∃ nn, Mo_answerTo_270 (fun z0 z1 z2 z3 z4 => Mo_answerTo_158 Q (k + 1) z0 z1 z2 z3 z4) Q nn p (σ 3 p 3 0) x 0 0 μ := by
        intro hF
        have key : ∀ (m i : Nat) (s : Int), (i : Int) + m = σ 3 p 3 0 → s = sm i (fun i => uD (rk (μ 6 0 36)) i * σ 3 p 5 i) → Mo_answerTo_270 (fun z0 z1 z2 z3 z4 => Mo_answerTo_158 Q (k + 1) z0 z1 z2 z3 z4) Q (m + 1) p (σ 3 p 3 0) x s i μ := by
          intro m
          induction m with
          | zero =>
            intro i s g1 g2
            have ei : (σ 3 p 3 0).toNat = i := by omega
            have es : s = pCp σ p (rk (μ 6 0 36)) := by
              rw [g2, ← ei]
              rfl
            unfold Mo_answerTo_270
            rw [es]
            refine ⟨⟨by omega, by omega⟩, ⟨by omega, by omega⟩, fun _ => ⟨⟨by omega, by omega⟩, fun z => copy (Or.inl z) hF, fun z => ⟨⟨by omega, by omega⟩, ⟨by omega, by omega⟩, fun z2 => lose (fun t et _ => by subst et; exact ⟨z, z2⟩), fun z2 => copy (Or.inr z2) hF⟩⟩, fun z => absurd z (by omega)⟩
          | succ m ihm =>
            intro i s g1 g2
            have q12 : μ 6 0 12 (4 * p + i) = σ 3 p 5 i := by rw [em 12 (by omega)]; exact (M4 i (by omega) (by omega)).2
            unfold Mo_answerTo_270
            rw [q12]
            refine ⟨⟨by omega, by omega⟩, ⟨by omega, by omega⟩, fun z => absurd z (by omega), fun _ => ⟨by omega, by omega, by omega, by omega, fun x9 e9 x10 e10 => ?_⟩⟩
            have ex : x10 = ((i + 1 : Nat) : Int) := by omega
            rw [ex]
            refine ihm (i + 1) x9 (by omega) ?_
            rw [e9, g2]
            simp only [sm]
            rw [uD_rk hu3 i (by omega) (by omega), Int.mul_comm]
        exact ⟨_, key (σ 3 p 3 0).toNat 0 0 (by omega) rfl⟩
      -- do the rows hold
      have b259 : ∀ holds : Int, (holds = 1 ∧ FCp σ p (cv code) f (rk (μ 6 0 36))) ∨ (holds = 0 ∧ ¬ FCp σ p (cv code) f (rk (μ 6 0 36))) → Mo_answerTo_259 (fun z0 z1 z2 z3 z4 => Mo_answerTo_158 Q (k + 1) z0 z1 z2 z3 z4) Q p (σ 3 p 3 0) x holds μ := by
        intro holds hh
        unfold Mo_answerTo_259
        refine ⟨⟨by omega, by omega⟩, fun z => ?_, fun z => ?_⟩
        · rcases hh with hh | hh
          · exact absurd hh.1 (by omega)
          · exact lose (fun t et hF => by subst et; exact absurd hF hh.2)
        · rcases hh with hh | hh
          · exact price hh.2
          · exact absurd hh.1 z
      have bs : ∀ r : Int, 0 ≤ r → r < 6 → ∀ j : Nat, (j : Int) ≤ 4 → -108 ≤ sm j (fun i => σ 3 p 8 (r * 10 + i) * uD (rk (μ 6 0 36)) i) ∧ sm j (fun i => σ 3 p 8 (r * 10 + i) * uD (rk (μ 6 0 36)) i) ≤ 108 := by
        intro r r0 r1 j hj
        have := sm_bd (f := fun i => σ 3 p 8 (r * 10 + i) * uD (rk (μ 6 0 36)) i) (lo := -27) (hi := 27) (n := j) (fun i i0 i1 => by
          have a := b7 (r * 10 + i) (by omega) (by omega)
          have b := uD_bd hbk.1 hbk.2 i
          exact mul_bd2 (A := 9) (B := 3) a.1 a.2 b.1 b.2)
        omega
      have rows : ∀ (m : Nat) (r holds : Int), r + m = σ 3 p 6 0 → 0 ≤ r → ((holds = 1 ∧ ∀ r', 0 ≤ r' → r' < r → sm (σ 3 p 3 0).toNat (fun i => σ 3 p 8 (r' * 10 + i) * uD (rk (μ 6 0 36)) i) ≤ roomC σ p (cv code) f r') ∨ (holds = 0 ∧ ¬ FCp σ p (cv code) f (rk (μ 6 0 36)))) → Mo_answerTo_169 (fun z0 z1 z2 z3 z4 => Mo_answerTo_158 Q (k + 1) z0 z1 z2 z3 z4) Q (m + 1) p (σ 3 p 3 0) x holds r μ := by
        intro m
        induction m with
        | zero =>
          intro r holds g1 g2 hh
          unfold Mo_answerTo_169
          rw [em 13 (by omega), M5]
          refine ⟨p0, p1, ⟨by omega, by omega⟩, ⟨by omega, by omega⟩, fun _ => b259 holds ?_, fun z => absurd z (by omega)⟩
          rcases hh with ⟨a, c⟩ | hh
          · exact Or.inl ⟨a, fun r' r0 r1 => c r' r0 (by omega)⟩
          · exact Or.inr hh
        | succ m ihm =>
          intro r holds g1 g2 hh
          unfold Mo_answerTo_169
          rw [em 13 (by omega), M5]
          refine ⟨p0, p1, ⟨by omega, by omega⟩, ⟨by omega, by omega⟩, fun z => absurd z (by omega), fun _ => ⟨⟨by omega, by omega⟩, fun z => b259 holds ?_, fun z => ?_⟩⟩
          · rcases hh with ⟨a, c⟩ | hh
            · exact absurd a (by omega)
            · exact Or.inr hh
          · have hh := hh.resolve_right (fun y => z y.1)
            have e35 := hR r g2 (by omega)
            have br := hrb r g2 (by omega)
            have key2 : ∀ (m' j : Nat) (s : Int), (j : Int) + m' = σ 3 p 3 0 → s = sm j (fun i => σ 3 p 8 (r * 10 + i) * uD (rk (μ 6 0 36)) i) → Mo_answerTo_191 (fun z0 z1 z2 z3 z4 z5 => Mo_answerTo_169 (fun z0 z1 z2 z3 z4 => Mo_answerTo_158 Q (k + 1) z0 z1 z2 z3 z4) Q (m + 1) z0 z1 z2 z3 z4 z5) Q (m' + 1) p (σ 3 p 3 0) x r s j μ := by
              intro m'
              induction m' with
              | zero =>
                intro j s q1 q2
                have ej : (σ 3 p 3 0).toNat = j := by omega
                have bj := bs r g2 (by omega) j (by omega)
                unfold Mo_answerTo_191
                rw [e35]
                refine ⟨⟨by omega, by omega⟩, ⟨by omega, by omega⟩, fun _ => ⟨by omega, by omega, ⟨by omega, by omega⟩, ⟨by omega, by omega⟩, fun c => ?_, fun c => ?_⟩, fun z => absurd z (by omega)⟩
                · unfold Mo_answerTo_251
                  intro x1 e1
                  refine ihm x1 0 (by omega) (by omega) (Or.inr ⟨rfl, fun hF => ?_⟩)
                  have := hF r g2 (by omega)
                  rw [ej] at this
                  have this : sm j (fun i => σ 3 p 8 (r * 10 + i) * uD (rk (μ 6 0 36)) i) ≤ roomC σ p (cv code) f r := this
                  omega
                · unfold Mo_answerTo_251
                  intro x1 e1
                  refine ihm x1 1 (by omega) (by omega) (Or.inl ⟨rfl, fun r' r0 r1 => ?_⟩)
                  by_cases c2 : r' = r
                  · subst c2; rw [ej, ← q2]; exact c
                  · exact hh.2 r' r0 (by omega)
              | succ m' ihm' =>
                intro j s q1 q2
                have q15 : μ 6 0 15 (4 * (6 * p + r) + j) = σ 3 p 8 (r * 10 + j) := by rw [em 15 (by omega)]; exact (M6 r g2 (by omega)).2.1 j (by omega) (by omega)
                unfold Mo_answerTo_191
                rw [q15]
                refine ⟨⟨by omega, by omega⟩, ⟨by omega, by omega⟩, fun z => absurd z (by omega), fun _ => ⟨by omega, by omega, by omega, by omega, fun x8 e8 x9 e9 => ?_⟩⟩
                have ex : x9 = ((j + 1 : Nat) : Int) := by omega
                rw [ex]
                refine ihm' (j + 1) x8 (by omega) ?_
                rw [e8, q2]
                simp only [sm]
                rw [uD_rk hu3 j (by omega) (by omega)]
            exact ⟨_, key2 (σ 3 p 3 0).toNat 0 0 (by omega) rfl⟩
      unfold Mo_answerTo_158
      refine ⟨⟨by omega, by omega⟩, fun z => absurd z (by omega), fun _ => ⟨_, rows (σ 3 p 6 0).toNat 0 1 (by omega) (by omega) (Or.inl ⟨rfl, fun r' r0 r1 => absurd r1 (by omega)⟩)⟩⟩
  -- units to 0
  have zero : ∀ (m : Nat) (i : Int) (μ : Mem), i + m = 4 → 0 ≤ i → Eo S6a σ μ → (∀ r, 0 ≤ r → r < σ 3 p 6 0 → μ 6 0 35 r = roomC σ p (cv code) f r) → (∀ j, 0 ≤ j → j < i → μ 6 0 36 j = 0) → Mo_answerTo_135 Q (m + 1) p (σ 3 p 3 0) (-4) i μ := by
    intro m
    induction m with
    | zero =>
      intro i μ g1 g2 hE hR hz
      unfold Mo_answerTo_135
      refine ⟨⟨by omega, by omega⟩, fun _ => ?_, fun z => absurd z (by omega)⟩
      have hrk : rk (μ 6 0 36) = 0 := by
        unfold rk
        rw [hz 0 (by omega) (by omega), hz 1 (by omega) (by omega), hz 2 (by omega) (by omega), hz 3 (by omega) (by omega)]
        rfl
      refine ⟨_, main 256 (-4) 1 0 μ hE hR (fun z => absurd rfl z) (Or.inl rfl) (Or.inl ⟨rfl, fun j j0 j1 => ?_, by omega, ?_⟩)⟩
      · rw [hz j j0 (by omega)]
        exact ⟨by omega, (hT j j0 j1).1⟩
      · rw [hrk]
        exact Srch.zero (fun t ht => ht.1.1)
    | succ m ihm =>
      intro i μ g1 g2 hE hR hz
      unfold Mo_answerTo_135
      refine ⟨⟨by omega, by omega⟩, fun z => absurd z (by omega), fun _ => ⟨by omega, by omega, fun σ3 e3 x4 e4 => ?_⟩⟩
      subst e3
      refine ihm x4 _ (by omega) (by omega) (hE.tr (Eo.of_up ⟨rfl, rfl, by omega, by omega⟩)) (fun r r0 r1 => by rw [up_ne (by omega)]; exact hR r r0 r1) (fun j j0 j1 => ?_)
      by_cases c : j = i
      · subst c; exact up_at
      · rw [up_ne (by omega)]; exact hz j j0 (by omega)
  -- rooms
  have room : ∀ (m : Nat) (r : Int) (μ : Mem), r + m = σ 3 p 6 0 → 0 ≤ r → Eo S6a σ μ → (∀ r', 0 ≤ r' → r' < r → μ 6 0 35 r' = roomC σ p (cv code) f r') → Mo_answerTo_3 Q (m + 1) p code f r μ := by
    intro m
    induction m with
    | zero =>
      intro r μ g1 g2 hE hR
      have em := ef μ hE
      unfold Mo_answerTo_3
      rw [em 13 (by omega), M5, em 10 (by omega), M3]
      refine ⟨p0, p1, ⟨by omega, by omega⟩, ⟨by omega, by omega⟩, fun _ => ⟨p0, p1, fun x5 e5 => ?_⟩, fun z => absurd z (by omega)⟩
      subst e5
      exact ⟨_, zero 4 0 μ (by omega) (by omega) hE (fun r' r0 r1 => hR r' r0 (by omega)) (fun j j0 j1 => absurd j1 (by omega))⟩
    | succ m ihm =>
      intro r μ g1 g2 hE hR
      have em := ef μ hE
      have N := M6 r g2 (by omega)
      have inner : ∀ (m' j : Nat) (s : Int), (j : Int) + m' = σ 3 p 0 0 → s = σ 3 p 7 r + σ 3 p 9 (f * 6 + r) - sm j (fun j => σ 3 p 8 (r * 10 + 4 + σ 3 p 1 j) * dS (cv code) j) → Mo_answerTo_49 (fun z0 z1 z2 z3 z4 => Mo_answerTo_3 Q (m + 1) z0 z1 z2 z3 z4) Q (m' + 1) p code f r s j μ := by
        intro m'
        induction m' with
        | zero =>
          intro j s q1 q2
          unfold Mo_answerTo_49
          rw [em 8 (by omega), M1]
          refine ⟨p0, p1, ⟨by omega, by omega⟩, ⟨by omega, by omega⟩, fun _ => ⟨by omega, by omega, fun σ4 e4 x5 e5 => ?_⟩, fun z => absurd z (by omega)⟩
          subst e4
          refine ihm x5 _ (by omega) (by omega) (hE.tr (Eo.of_up ⟨rfl, rfl, by omega, by omega⟩)) (fun r' r0 r1 => ?_)
          by_cases c : r' = r
          · subst c
            rw [up_at, q2]
            unfold roomC
            have ej : (σ 3 p 0 0).toNat = j := by omega
            rw [ej]
          · rw [up_ne (by omega)]; exact hR r' r0 (by omega)
        | succ m' ihm' =>
          intro j s q1 q2
          have bj := (b4 j (by omega) (by omega)).1
          have q9 : μ 6 0 9 (3 * p + j) = σ 3 p 1 j := by rw [em 9 (by omega)]; exact M2 j (by omega) (by omega)
          have q16 : μ 6 0 16 (6 * (6 * p + r) + σ 3 p 1 j) = σ 3 p 8 (r * 10 + 4 + σ 3 p 1 j) := by rw [em 16 (by omega)]; exact N.2.2.1 _ bj.1 bj.2
          unfold Mo_answerTo_49
          rw [em 8 (by omega), M1, q9]
          refine ⟨p0, p1, ⟨by omega, by omega⟩, ⟨by omega, by omega⟩, fun z => absurd z (by omega), fun _ => ⟨by omega, by omega, by omega, by omega, ?_⟩⟩
          refine w_Mo_figure hs0 hs1 ⟨by omega, by omega⟩ ?_
          rw [q16]
          intro x9 e9 x10 e10
          have ex : x10 = ((j + 1 : Nat) : Int) := by omega
          rw [ex]
          refine ihm' (j + 1) x9 (by omega) ?_
          rw [e9, q2]
          simp only [sm]
          rw [cv_dS hs0 hs1 (by omega) (by omega)]
          omega
      unfold Mo_answerTo_3
      rw [em 13 (by omega), M5, em 14 (by omega), N.1, em 17 (by omega), N.2.2.2 f hf0 hf1]
      refine ⟨p0, p1, ⟨by omega, by omega⟩, ⟨by omega, by omega⟩, fun z => absurd z (by omega), fun _ => ⟨by omega, by omega, by omega, by omega, fun x8 e8 => ⟨_, inner (σ 3 p 0 0).toNat 0 x8 (by omega) (by rw [e8]; simp [sm])⟩⟩⟩
  exact ⟨_, room (σ 3 p 6 0).toNat 0 σ (by omega) (by omega) Eo.rf (fun r' r0 r1 => absurd r1 (by omega))⟩

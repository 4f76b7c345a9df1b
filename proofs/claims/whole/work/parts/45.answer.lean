/-- the answer of a part at a spot in a future -/
noncomputable def AnC (σ : Mem) (p spot f : Int) : Int := An (VCp σ p) (FCp σ p spot f) (pCp σ p) 256
def AO (σ : Mem) (p : Int) : Prop := ∀ f sp, 0 ≤ f → f < 4 → 0 ≤ sp → sp < 64 → σ 3 p 10 (f * 64 + sp) = -9 ∨ σ 3 p 10 (f * 64 + sp) = AnC σ p sp f
def FO (σ : Mem) (p : Int) : Prop := ∀ i, 0 ≤ i → i < 256 → σ 3 p 11 i = -4 ∨ (0 ≤ σ 3 p 11 i ∧ σ 3 p 11 i ≤ 600)
def FuB (σ : Mem) : Prop := (1 ≤ σ 2 0 0 0 ∧ σ 2 0 0 0 ≤ 4) ∧ ∀ f, 0 ≤ f → f < σ 2 0 0 0 → 1 ≤ σ 2 0 1 f ∧ σ 2 0 1 f ≤ 20
def S10 (p : Int) : Nat → Int → Nat → Prop := fun c q k => c = 3 ∧ q = p ∧ (k = 10 ∨ (12 ≤ k ∧ k ≤ 14))
theorem AnC_congr {σ σ' : Mem} {p spot f : Int} (he : ∀ k : Nat, k < 10 → ∀ i, σ' 3 p k i = σ 3 p k i) : AnC σ' p spot f = AnC σ p spot f := by
  have e0 := he 0 (by omega)
  have e1 := he 1 (by omega)
  have e3 := he 3 (by omega)
  have e4 : σ' 3 p 4 = σ 3 p 4 := funext (he 4 (by omega))
  have e5 : σ' 3 p 5 = σ 3 p 5 := funext (he 5 (by omega))
  have e6 := he 6 (by omega)
  have e7 := he 7 (by omega)
  have e8 := he 8 (by omega)
  have e9 := he 9 (by omega)
  have er : roomC σ' p spot f = roomC σ p spot f := by
    funext r
    unfold roomC
    simp only [e0, e1, e7, e8, e9]
  unfold AnC VCp FCp pCp
  simp only [e3, e4, e5, e6, e8, er]
theorem pCp_bd {σ : Mem} {p t : Int} (hb : PB σ p) (h : VCp σ p t) : 0 ≤ pCp σ p t ∧ pCp σ p t ≤ 600 := by
  obtain ⟨hj, hl, hrc, b4, b5, b6, b7, b8⟩ := hb
  have := sm_bd (f := fun i => uD t i * σ 3 p 5 i) (lo := 0) (hi := 150) (n := (σ 3 p 3 0).toNat) (fun i i0 i1 => by
    have a := uD_bd h.1.1 h.1.2 i
    have c := (b5 i i0 (by omega)).2
    exact mul_bd (A := 3) (B := 50) a.1 a.2 c.1 c.2)
  unfold pCp prU
  omega
theorem AnC_spec {σ : Mem} {p spot f : Int} (hb : PB σ p) : ∃ b, Srch (VCp σ p) (FCp σ p spot f) (pCp σ p) 256 (AnC σ p spot f) b := by
  obtain ⟨x, b, h⟩ := Srch.ex (VCp σ p) (FCp σ p spot f) (pCp σ p) (fun t h => h.1.1) (fun t h => (pCp_bd hb h).1) 256
  have h' : Srch (VCp σ p) (FCp σ p spot f) (pCp σ p) 256 x b := h
  have e := An_eq h'
  exact ⟨b, by unfold AnC; rw [e]; exact h'⟩
theorem AnC_bd {σ : Mem} {p spot f : Int} (hb : PB σ p) : AnC σ p spot f = -4 ∨ (0 ≤ AnC σ p spot f ∧ AnC σ p spot f ≤ 600) := by
  obtain ⟨b, h⟩ := AnC_spec (spot := spot) (f := f) hb
  rcases h with ⟨h1, -⟩ | ⟨h1, h2, -, -, h5, -⟩
  · exact Or.inl h1
  · have := pCp_bd hb h2
    exact Or.inr ⟨h1, by omega⟩
theorem w_Pa_answerTo {σ : Mem} {p spot f : Int} {Q : Int → Mem → Prop} (hb : PB σ p) (hA : AO σ p) (hs0 : 0 ≤ spot) (hs1 : spot < 64) (hf0 : 0 ≤ f) (hf1 : f < 4) (hQ : ∀ σ', Eo (S10 p) σ σ' → AO σ' p → Q (AnC σ p spot f) σ') : Pa_answerTo p spot f σ Q := by
  have hd := AnC_bd (spot := spot) (f := f) hb
  unfold Pa_answerTo
  intro x1 e1
  subst e1
  have ha := hA f spot hf0 hf1 hs0 hs1
  refine ⟨by omega, by omega, ⟨by omega, by omega⟩, fun h => ⟨by omega, by omega, ?_⟩, fun h => ?_⟩
  · have e := ha.resolve_left h
    rw [e]
    exact hQ σ Eo.rf hA
  · refine w_Pa_solve hb hs0 hs1 hf0 hf1 (fun x b σ5 hE hS hL hx => ⟨by omega, by omega, fun σ6 e6 => ?_⟩)
    have ex : AnC σ p spot f = x := An_eq hS
    subst e6
    refine ⟨by omega, by omega, ?_⟩
    rw [up_at, ← ex]
    have hE5 : Eo (S10 p) σ σ5 := hE.mono (fun c q k h => ⟨h.1, h.2.1, Or.inr ⟨h.2.2.1, h.2.2.2⟩⟩)
    have ed : ∀ k : Nat, k < 10 → ∀ i, up σ5 3 p 10 (f * 64 + spot) (AnC σ p spot f) 3 p k i = σ 3 p k i := fun k hk i => by
      rw [up_ne (by omega)]
      exact hE 3 p k i (by unfold S14; omega)
    refine hQ _ (hE5.tr (Eo.of_up ⟨rfl, rfl, Or.inl rfl⟩)) (fun g sp g0 g1 sp0 sp1 => ?_)
    rw [AnC_congr ed]
    by_cases c : g = f ∧ sp = spot
    · obtain ⟨rfl, rfl⟩ := c
      exact Or.inr up_at
    · rw [up_ne (by omega), hE 3 p 10 _ (by unfold S14; omega)]
      exact hA g sp g0 g1 sp0 sp1
/-- what futures cost, -4 if one of them has none -/
noncomputable def cst (n : Int) (w g : Int → Int) : Int := @ite Int (∃ f, 0 ≤ f ∧ f < n ∧ g f = -4) (Classical.propDecidable _) (-4) (sm n.toNat (fun f => w f * g f))
theorem cst_none {n : Int} {w g : Int → Int} (h : ∃ f, 0 ≤ f ∧ f < n ∧ g f = -4) : cst n w g = -4 := if_pos h
theorem cst_some {n : Int} {w g : Int → Int} (h : ∀ f, 0 ≤ f → f < n → g f ≠ -4) : cst n w g = sm n.toNat (fun f => w f * g f) := if_neg (fun ⟨f, f0, f1, f2⟩ => h f f0 f1 f2)
theorem cst_congr {n : Int} {w g w' g' : Int → Int} (hw : ∀ f, 0 ≤ f → f < n → w f = w' f) (hg : ∀ f, 0 ≤ f → f < n → g f = g' f) : cst n w g = cst n w' g' := by
  by_cases h : ∃ f, 0 ≤ f ∧ f < n ∧ g f = -4
  · rw [cst_none h]
    obtain ⟨f, f0, f1, f2⟩ := h
    rw [cst_none ⟨f, f0, f1, by rw [← hg f f0 f1]; exact f2⟩]
  · rw [cst_some (fun f f0 f1 f2 => h ⟨f, f0, f1, f2⟩), cst_some (fun f f0 f1 f2 => h ⟨f, f0, f1, by rw [hg f f0 f1]; exact f2⟩)]
    refine sm_congr (fun f f0 f1 => ?_)
    rw [hw f f0 (by omega), hg f f0 (by omega)]
theorem cst_bd {n : Int} {w g : Int → Int} (hn : n ≤ 4) (hw : ∀ f, 0 ≤ f → f < n → 1 ≤ w f ∧ w f ≤ 20) (hg : ∀ f, 0 ≤ f → f < n → g f = -4 ∨ (0 ≤ g f ∧ g f ≤ 600)) : cst n w g = -4 ∨ (0 ≤ cst n w g ∧ cst n w g ≤ 48000) := by
  by_cases h : ∃ f, 0 ≤ f ∧ f < n ∧ g f = -4
  · exact Or.inl (cst_none h)
  · rw [cst_some (fun f f0 f1 f2 => h ⟨f, f0, f1, f2⟩)]
    have := sm_bd (f := fun f => w f * g f) (lo := 0) (hi := 12000) (n := n.toNat) (fun f f0 f1 => by
      have a := hw f f0 (by omega)
      have b := hg f f0 (by omega)
      have c : g f ≠ -4 := fun z => h ⟨f, f0, by omega, z⟩
      exact mul_bd (A := 20) (B := 600) (by omega) (by omega) (by omega) (by omega))
    omega
theorem AO.eo {σ σ' : Mem} {p : Int} (h : AO σ p) (he : ∀ k : Nat, k ≤ 10 → ∀ i, σ' 3 p k i = σ 3 p k i) : AO σ' p := by
  intro f sp f0 f1 s0 s1
  rw [he 10 (by omega), AnC_congr (fun k hk => he k (by omega))]
  exact h f sp f0 f1 s0 s1
theorem w_Pa_costTo {σ : Mem} {p by_ : Int} {vc vk : Nat} {vp : Int} {Q : Int → Mem → Prop} (hb : PB σ p) (hA : AO σ p) (hF : FO σ p) (hFu : FuB σ) (hby : by_ = 0 ∨ by_ = 1) (hv : ∀ j, 0 ≤ j → j < σ 3 p 0 0 → 0 ≤ σ vc vp vk (σ 3 p 1 j) ∧ σ vc vp vk (σ 3 p 1 j) < 4) (hQ : ∀ σ', Eo (S10 p) σ σ' → AO σ' p → Q (cst (σ 2 0 0 0) (σ 2 0 1) (fun f => if by_ = 0 then AnC σ p (spt (σ 3 p 0 0) (fun j => σ vc vp vk (σ 3 p 1 j))) f else σ 3 p 11 (f * 64 + spt (σ 3 p 0 0) (fun j => σ vc vp vk (σ 3 p 1 j))))) σ') : Pa_costTo p vc vp vk by_ σ Q := by
  have hsp := spt_bd hb.1.2 hv
  unfold Pa_costTo
  refine w_Pa_spotOf hb hv ?_
  generalize spt (σ 3 p 0 0) (fun j => σ vc vp vk (σ 3 p 1 j)) = sp at *
  generalize hg : (fun f => if by_ = 0 then AnC σ p sp f else σ 3 p 11 (f * 64 + sp)) = g at hQ
  have hgb : ∀ f, 0 ≤ f → f < 4 → g f = -4 ∨ (0 ≤ g f ∧ g f ≤ 600) := by
    intro f f0 f1
    rw [← hg]
    simp only
    split
    · exact AnC_bd hb
    · exact hF _ (by omega) (by omega)
  have hfu := hFu.1
  have key : ∀ (k f : Nat) (s : Int) (μ : Mem), (f : Int) + k = σ 2 0 0 0 → Eo (S10 p) σ μ → AO μ p → (∀ f' : Int, 0 ≤ f' → f' < f → g f' ≠ -4) → s = sm f (fun f => σ 2 0 1 f * g f) → Pa_costTo_13 Q (k + 1) p by_ sp s f μ := by
    intro k
    induction k with
    | zero =>
      intro f s μ h1 hE hA' hn hs
      have e2 : μ 2 0 0 0 = σ 2 0 0 0 := hE 2 0 0 0 (by unfold S10; omega)
      unfold Pa_costTo_13
      rw [e2]
      refine ⟨⟨by omega, by omega⟩, ⟨by omega, by omega⟩, fun _ => ?_, fun h => absurd h (by omega)⟩
      have e := cst_some (n := σ 2 0 0 0) (w := σ 2 0 1) (g := g) (fun f' f0 f1 => hn f' f0 (by omega))
      have ef : (σ 2 0 0 0).toNat = f := by omega
      rw [ef, ← hs] at e
      rw [← e]
      exact hQ μ hE hA'
    | succ k ih =>
      intro f s μ h1 hE hA' hn hs
      have e2 : μ 2 0 0 0 = σ 2 0 0 0 := hE 2 0 0 0 (by unfold S10; omega)
      have step : ∀ μ' : Mem, Eo (S10 p) σ μ' → AO μ' p → Pa_costTo_50 (fun z0 z1 z2 z3 z4 z5 => Pa_costTo_13 Q (k + 1) z0 z1 z2 z3 z4 z5) Q p by_ sp s f (g f) μ' := by
        intro μ' hE' hA''
        have hgf := hgb f (by omega) (by omega)
        unfold Pa_costTo_50
        refine ⟨⟨by omega, by omega⟩, fun hne => ⟨by omega, by omega, fun x4 e4 x5 e5 => ?_⟩, fun he => ?_⟩
        · have ex : x5 = ((f + 1 : Nat) : Int) := by omega
          have ew : μ' 2 0 1 f = σ 2 0 1 f := hE' 2 0 1 f (by unfold S10; omega)
          rw [ex]
          refine ih (f + 1) x4 μ' (by omega) hE' hA'' (fun f' f0 f1 => ?_) ?_
          · by_cases c : f' = f
            · subst c; exact hne
            · exact hn f' f0 (by omega)
          · rw [e4, hs, ew]
            rfl
        · have e := cst_none (n := σ 2 0 0 0) (w := σ 2 0 1) (g := g) ⟨f, by omega, by omega, he⟩
          rw [← e]
          exact hQ μ' hE' hA''
      have ed : ∀ k : Nat, k < 10 → ∀ i, μ 3 p k i = σ 3 p k i := fun k hk i => hE 3 p k i (by unfold S10; omega)
      unfold Pa_costTo_13
      rw [e2]
      refine ⟨⟨by omega, by omega⟩, ⟨by omega, by omega⟩, fun h => absurd h (by omega), fun _ => ⟨⟨by omega, by omega⟩, fun h0 => ?_, fun h0 => ⟨by omega, by omega, ?_⟩⟩⟩
      · refine w_Pa_answerTo (hb.eo ed) hA' hsp.1 hsp.2 (by omega) (by omega) (fun μ' hE' hA'' => ?_)
        have eg : AnC μ p sp f = g f := by
          rw [AnC_congr ed, ← hg]
          simp only
          rw [if_pos h0]
        rw [eg]
        exact step μ' (hE.tr hE') hA''
      · have eg : μ 3 p 11 ((f : Int) * 64 + sp) = g f := by
          rw [hE 3 p 11 _ (by unfold S10; omega), ← hg]
          simp only
          rw [if_neg h0]
        rw [eg]
        exact step μ hE hA'
  exact ⟨_, key (σ 2 0 0 0).toNat 0 0 σ (by omega) Eo.rf hA (fun f' f0 f1 => absurd f1 (by omega)) rfl⟩
theorem w_Pa_settledAt {σ : Mem} {p : Int} {Q : Int → Mem → Prop} (hb : PB σ p) (hQ : Q (if σ 3 p 0 0 = 0 then 0 else σ 3 p 1 (σ 3 p 0 0 - 1) + 1) σ) : Pa_settledAt p σ Q := by
  have hj := hb.1
  unfold Pa_settledAt
  refine ⟨⟨by omega, by omega⟩, fun h => ⟨by omega, by omega, ?_⟩, fun h => ?_⟩
  · rw [if_neg h] at hQ
    exact hQ
  · rw [if_pos h] at hQ
    exact hQ
theorem w_Fu_sum {σ : Mem} {Q : Int → Mem → Prop} (hFu : FuB σ) (hQ : Q (sm (σ 2 0 0 0).toNat (σ 2 0 1)) σ) : Fu_sumOfWeights σ Q := by
  have hj := hFu.1
  have key : ∀ (k i : Nat) (s : Int), (i : Int) + k = σ 2 0 0 0 → s = sm i (σ 2 0 1) → Fu_sumOfWeights_4 Q (k + 1) s i σ := by
    intro k
    induction k with
    | zero =>
      intro i s h1 h3
      unfold Fu_sumOfWeights_4
      refine ⟨⟨by omega, by omega⟩, ⟨by omega, by omega⟩, fun _ => ?_, fun h => absurd h (by omega)⟩
      have e : (σ 2 0 0 0).toNat = i := by omega
      rw [h3, ← e]
      exact hQ
    | succ k ih =>
      intro i s h1 h3
      unfold Fu_sumOfWeights_4
      refine ⟨⟨by omega, by omega⟩, ⟨by omega, by omega⟩, fun h => absurd h (by omega), fun _ => ⟨by omega, by omega, fun x5 e5 x6 e6 => ?_⟩⟩
      have e : x6 = ((i + 1 : Nat) : Int) := by omega
      rw [e]
      refine ih (i + 1) x5 (by omega) ?_
      rw [e5, h3]
      rfl
  exact ⟨_, key (σ 2 0 0 0).toNat 0 0 (by omega) rfl⟩
theorem sumW_bd {σ : Mem} (hFu : FuB σ) : 1 ≤ sm (σ 2 0 0 0).toNat (σ 2 0 1) ∧ sm (σ 2 0 0 0).toNat (σ 2 0 1) ≤ 80 := by
  have h := sm_bd (f := σ 2 0 1) (lo := 1) (hi := 20) (n := (σ 2 0 0 0).toNat) (fun i i0 i1 => hFu.2 i i0 (by omega))
  have := hFu.1
  omega

/-- the fields of parts that hearing leaves -/
theorem Sh3 {σ μ : Mem} (hE : Eo Sh σ μ) (p : Int) : ∀ k : Nat, k < 10 → ∀ i, μ 3 p k i = σ 3 p k i := fun k hk i => hE 3 p k i (by unfold Sh; omega)
theorem AnS {σ μ : Mem} (hE : Eo Sh σ μ) (p : Int) : ∀ sp f, AnC μ p sp f = AnC σ p sp f := fun sp f => AnC_congr (Sh3 hE p)
theorem JS.eo {σ μ : Mem} (h : JS σ) (hE : Eo Sh σ μ) : JS μ := by
  intro p p0 p1 j a b
  have e := Sh3 hE p
  rw [e 0 (by omega)] at b
  rw [e 2 (by omega), e 1 (by omega), hE 0 0 1 _ (by unfold Sh; omega)]
  exact h p p0 p1 j a b
set_option maxHeartbeats 2000000 in
theorem w_hearParts {σ : Mem} {L : List CutT} {r : Int} {Q : Int → Mem → Prop} (h : CW σ) (hJ : JS σ) (hd : ∀ c, 0 ≤ c → c < 6 → 0 ≤ σ 4 0 4 c ∧ σ 4 0 4 c ≤ Tch σ c) (hr0 : σ 4 0 0 0 = r) (hL : RepC σ L) (hF : FlO σ L) (hQ : ∀ v σ', Eo Sh σ σ' → (∀ q, 0 ≤ q → q < 4 → AO σ' q ∧ FO σ' q) → RepC σ' (addP (coC σ L (σ 4 0 4) r) (σ 2 0 0 0).toNat (σ 5 0 3 0).toNat L) → FlO σ' (addP (coC σ L (σ 4 0 4) r) (σ 2 0 0 0).toNat (σ 5 0 3 0).toNat L) → ((∀ p, 0 ≤ p → p < σ 5 0 3 0 → ∀ f, 0 ≤ f → f < σ 2 0 0 0 → gA σ p (σ 4 0 4) f ≠ -4) → v = CG σ (gA σ) (σ 4 0 4)) → ((∃ p, 0 ≤ p ∧ p < σ 5 0 3 0 ∧ ∃ f, 0 ≤ f ∧ f < σ 2 0 0 0 ∧ gA σ p (σ 4 0 4) f = -4) → v = -4) → Q v σ') : Sr_hearParts σ Q := by
  have hT := fun c c0 => Tch_bd h.1 c c0
  have hd4 : ∀ c, 0 ≤ c → c < 6 → 0 ≤ σ 4 0 4 c ∧ σ 4 0 4 c < 4 := fun c a b => by have := hd c a b; have := hT c a; omega
  have hnF := h.2.1.1
  have hnP := h.2.2.1
  generalize hdd : σ 4 0 4 = d at *
  generalize hco : coC σ L d r = co at hQ
  have hcost : ∀ (P : Nat), True := fun _ => trivial
  -- one part
  have inner : ∀ (P : Nat), (P : Int) < σ 5 0 3 0 → ∀ (K : Int → Int → Int → Mem → Prop) (LP : List CutT), (∀ f sp, 0 ≤ f → f < 4 → FM (σ 3 P 0 0) (σ 3 P 1) LP P f sp = FM (σ 3 P 0 0) (σ 3 P 1) L P f sp) → ∀ (k f : Nat) (cost poss : Int) (μ : Mem), (f : Int) + k = σ 2 0 0 0 → (poss = 0 ∨ poss = 1) → Eo Sh σ μ → (∀ q, 0 ≤ q → q < 4 → AO μ q ∧ FO μ q) → RepC μ (addF (co P) f LP) → FlO μ (addF (co P) f LP) → (∀ g sp : Int, (f : Int) ≤ g → g < 4 → FM (σ 3 P 0 0) (σ 3 P 1) (addF (co P) f LP) P g sp = FM (σ 3 P 0 0) (σ 3 P 1) L P g sp) → (∀ (cost' poss' : Int) (μ' : Mem), (poss' = 0 ∨ poss' = 1) → (poss' = 1 ↔ poss = 1 ∧ ∀ g : Int, f ≤ g → g < σ 2 0 0 0 → gA σ P d g ≠ -4) → (poss' = 1 → cost' + sm f (fun f => σ 2 0 1 f * gA σ P d f) = cost + sm (σ 2 0 0 0).toNat (fun f => σ 2 0 1 f * gA σ P d f)) → Eo Sh σ μ' → (∀ q, 0 ≤ q → q < 4 → AO μ' q ∧ FO μ' q) → RepC μ' (addF (co P) (σ 2 0 0 0).toNat LP) → FlO μ' (addF (co P) (σ 2 0 0 0).toNat LP) → ∀ x3 : Int, x3 = P + 1 → K cost' poss' x3 μ') → Sr_hearParts_44 K Q (k + 1) cost poss P (spt (σ 3 P 0 0) (fun j => d (σ 3 P 1 j))) f μ := by
    intro P hP K LP hLP k
    obtain ⟨a1, -, -, a4⟩ := h.2.2.2 P (by omega) (by omega)
    have hsp := spt_bd (n := σ 3 P 0 0) (d := fun j => d (σ 3 P 1 j)) a1.1.2 (fun j a b => hd4 _ (a1.2.2.2.1 j a b).1.1 (a1.2.2.2.1 j a b).1.2)
    have hvs : Vs (σ 3 P 0 0) (σ 3 P 2) (spt (σ 3 P 0 0) (fun j => d (σ 3 P 1 j))) := dval h (by omega) (by omega) hd (hJ P (by omega) (by omega))
    have hgb : ∀ f, gA σ P d f = -4 ∨ (0 ≤ gA σ P d f ∧ gA σ P d f ≤ 600) := fun f => AnC_bd a1
    induction k with
    | zero =>
      intro f cost poss μ g1 hp hE hA hR hFl hfm hK
      have e2 : μ 2 0 0 0 = σ 2 0 0 0 := hE 2 0 0 0 (by unfold Sh; omega)
      have ef : (σ 2 0 0 0).toNat = f := by omega
      unfold Sr_hearParts_44
      rw [e2]
      refine ⟨⟨by omega, by omega⟩, ⟨by omega, by omega⟩, fun _ => fun x3 e3 => ?_, fun z => absurd z (by omega)⟩
      rw [ef] at hK
      exact hK cost poss μ hp ⟨fun z => ⟨z, fun g a b => absurd a (by omega)⟩, fun z => z.1⟩ (fun _ => rfl) hE hA hR hFl x3 e3
    | succ k ih =>
      intro f cost poss μ g1 hp hE hA hR hFl hfm hK
      have e2 : μ 2 0 0 0 = σ 2 0 0 0 := hE 2 0 0 0 (by unfold Sh; omega)
      have hCμ : CW μ := h.eo2 hE hA
      obtain ⟨m1, m2, m3, m4⟩ := hCμ.2.2.2 P (by omega) (by omega)
      -- behind the cut
      have tail : ∀ μ' : Mem, Eo Sh σ μ' → (∀ q, 0 ≤ q → q < 4 → AO μ' q ∧ FO μ' q) → RepC μ' (push (addF (co P) f LP) (co P f)) → FlO μ' (push (addF (co P) f LP) (co P f)) → Sr_hearParts_115 (fun z0 z1 z2 z3 z4 z5 => Sr_hearParts_44 K Q (k + 1) z0 z1 z2 z3 z4 z5) Q cost poss P (spt (σ 3 P 0 0) (fun j => d (σ 3 P 1 j))) f (gA σ P d f) μ' := by
        intro μ' hE' hA' hR' hF'
        have hg := hgb f
        have hw := h.2.1.2 f (by omega) (by omega)
        have ew : μ' 2 0 1 f = σ 2 0 1 f := hE' 2 0 1 f (by unfold Sh; omega)
        have hfm' : ∀ g sp, ((f + 1 : Nat) : Int) ≤ g → g < 4 → FM (σ 3 P 0 0) (σ 3 P 1) (addF (co P) (f + 1) LP) P g sp = FM (σ 3 P 0 0) (σ 3 P 1) L P g sp := by
          intro g sp a b
          show FM _ _ (push (addF (co P) f LP) (co P f)) P g sp = _
          rw [push_keep (fun c hc => ?_)]
          · exact hfm g sp (by omega) b
          · rw [← hco] at hc
            unfold coC at hc
            split at hc
            · cases hc
              intro z
              have : (f : Int) = g := z.2
              omega
            · cases hc
        unfold Sr_hearParts_115
        refine ⟨⟨by omega, by omega⟩, fun hne => ⟨by omega, by omega, fun x4 e4 => ?_⟩, fun he => ?_⟩
        · unfold Sr_hearParts_143
          intro x1 e1
          have ex : x1 = ((f + 1 : Nat) : Int) := by omega
          rw [ex]
          refine ih (f + 1) x4 poss μ' (by omega) hp hE' hA' hR' hF' hfm' (fun cost' poss' μ2 b1 b2 b3 b4 b5 b6 b7 => hK cost' poss' μ2 b1 ?_ ?_ b4 b5 b6 b7)
          · rw [b2]
            refine ⟨fun z => ⟨z.1, fun g a b => ?_⟩, fun z => ⟨z.1, fun g a b => z.2 g (by omega) b⟩⟩
            by_cases c : g = f
            · subst c; exact hne
            · exact z.2 g (by omega) b
          · intro z
            have b3' := b3 z
            simp only [sm] at b3'
            rw [e4, ew] at b3'
            omega
        · unfold Sr_hearParts_143
          intro x1 e1
          have ex : x1 = ((f + 1 : Nat) : Int) := by omega
          rw [ex]
          refine ih (f + 1) cost 0 μ' (by omega) (Or.inl rfl) hE' hA' hR' hF' hfm' (fun cost' poss' μ2 b1 b2 b3 b4 b5 b6 b7 => hK cost' poss' μ2 b1 ?_ ?_ b4 b5 b6 b7)
          · rw [b2]
            exact ⟨fun z => absurd z.1 (by omega), fun z => absurd he (z.2 f (by omega) (by omega))⟩
          · intro z
            exact absurd (b2.mp z).1 (by omega)
      have bring : ∀ μ' : Mem, Eo Sh σ μ' → (∀ q, 0 ≤ q → q < 4 → AO μ' q ∧ FO μ' q) → RepC μ' (addF (co P) f LP) → FlO μ' (addF (co P) f LP) → (gA σ P d f = -4 ∨ gL σ L P d f < gA σ P d f) → Sr_hearParts_103 (fun z0 z1 z2 z3 z4 z5 => Sr_hearParts_44 K Q (k + 1) z0 z1 z2 z3 z4 z5) Q cost poss P (spt (σ 3 P 0 0) (fun j => d (σ 3 P 1 j))) f (gA σ P d f) μ' := by
        intro μ' hE' hA' hR' hF' hc
        unfold Sr_hearParts_103
        have e3 := Sh3 hE' P
        have e4 : μ' 4 0 0 0 = r := by rw [← hr0]; exact hE' 4 0 0 0 (by unfold Sh; omega)
        have ecut : (some ((P : Int), (f : Int), gA σ P d f, r, rsl (μ' 3 P 1) (hr (μ' 3 P 0 0) (μ' 3 P 2) (fun sp => AnC μ' P sp f) (gA σ P d f) (dS (spt (σ 3 P 0 0) (fun j => d (σ 3 P 1 j)))) (μ' 3 P 0 0).toNat) (μ' 3 P 0 0).toNat) : Option CutT) = co P f := by
          rw [← hco]
          unfold coC
          rw [if_pos hc]
          unfold cutOf
          have ea : (fun sp => AnC μ' P sp f) = (fun sp => AnC σ P sp f) := funext (fun sp => AnS hE' P sp f)
          rw [show μ' 3 P 1 = σ 3 P 1 from funext (e3 1 (by omega)), show μ' 3 P 2 = σ 3 P 2 from funext (e3 2 (by omega)), e3 0 (by omega), ea]
        refine w_bringCut (h.eo2 hE' hA') (by omega) (by omega) (by omega) (by omega) hsp.1 hsp.2 (hgb f) e4 hR' hF' (fun μ2 c1 c2 c3 c4 => ?_)
        rw [ecut] at c3 c4
        exact tail μ2 (hE'.tr c1) c2 c3 c4
      have ed := Sh3 hE P
      unfold Sr_hearParts_44
      rw [e2]
      refine ⟨⟨by omega, by omega⟩, ⟨by omega, by omega⟩, fun z => absurd z (by omega), fun _ => ⟨by omega, by omega, ?_⟩⟩
      refine w_Pa_answerTo m1 m2 hsp.1 hsp.2 (by omega) (by omega) (fun μ5 hE5 hA5 => ?_)
      have egA : AnC μ P (spt (σ 3 P 0 0) (fun j => d (σ 3 P 1 j))) f = gA σ P d f := AnS hE P _ f
      rw [egA]
      have hE5' : Eo Sh σ μ5 := hE.tr (hE5.mono (fun c q k z => Or.inl (by have := z.2.2; have := z.1; omega)))
      have q5 : ∀ (q : Int) (k : Nat) (i : Int), ¬ (q = P ∧ (k = 10 ∨ (12 ≤ k ∧ k ≤ 14))) → μ5 3 q k i = μ 3 q k i := fun q k i hq => hE5 3 q k i (by unfold S10; omega)
      have hA5' : ∀ q, 0 ≤ q → q < 4 → AO μ5 q ∧ FO μ5 q := by
        intro q q0 q1
        refine ⟨?_, fun i i0 i1 => by rw [q5 q 11 i (by omega)]; exact (hA q q0 q1).2 i i0 i1⟩
        by_cases c : q = P
        · subst c; exact hA5
        · exact (hA q q0 q1).1.eo (fun k hk i => q5 q k i (by omega))
      have hR5 : RepC μ5 (addF (co P) f LP) := by
        obtain ⟨l1, l2, l3, l4⟩ := hR
        have c1 : ∀ k i, μ5 1 0 k i = μ 1 0 k i := fun k i => hE5 1 0 k i (by unfold S10; omega)
        exact ⟨by rw [c1]; exact l1, l2, l3, fun k c hc => (l4 k c hc).eo (l3 c (List.mem_of_getElem? hc)) (fun m _ _ => c1 m _) (fun i _ _ => c1 6 i)⟩
      have hF5 : FlO μ5 (addF (co P) f LP) := by
        intro q g sp q0 q1 g0 g1 hv
        rw [q5 q 0 0 (by omega), show μ5 3 q 2 = μ 3 q 2 from funext (fun i => q5 q 2 i (by omega))] at hv
        rw [q5 q 11 _ (by omega), q5 q 0 0 (by omega), show μ5 3 q 1 = μ 3 q 1 from funext (fun i => q5 q 1 i (by omega))]
        exact hFl q g sp q0 q1 g0 g1 hv
      have efl : μ5 3 P 11 ((f : Int) * 64 + spt (σ 3 P 0 0) (fun j => d (σ 3 P 1 j))) = gL σ L P d f := by
        rw [hF5 P f _ (by omega) (by omega) (by omega) (by omega) (by
          rw [q5 P 0 0 (by omega), show μ5 3 P 2 = μ 3 P 2 from funext (fun i => q5 P 2 i (by omega)), ed 0 (by omega), show μ 3 P 2 = σ 3 P 2 from funext (ed 2 (by omega))]
          exact hvs)]
        rw [q5 P 0 0 (by omega), show μ5 3 P 1 = μ 3 P 1 from funext (fun i => q5 P 1 i (by omega)), ed 0 (by omega), show μ 3 P 1 = σ 3 P 1 from funext (ed 1 (by omega))]
        exact hfm f _ (Int.le_refl _) (by omega)
      have bfl := (hA5' P (by omega) (by omega)).2 ((f : Int) * 64 + spt (σ 3 P 0 0) (fun j => d (σ 3 P 1 j))) (by omega) (by omega)
      rw [efl] at bfl
      rw [efl]
      have bg := hgb f
      refine ⟨⟨by omega, by omega⟩, fun z => bring μ5 hE5' hA5' hR5 hF5 (Or.inl z), fun z => ⟨by omega, by omega, by omega, by omega, ⟨by omega, by omega⟩, ⟨by omega, by omega⟩, fun z2 => ?_, fun z2 => bring μ5 hE5' hA5' hR5 hF5 (Or.inr z2)⟩⟩
      have enone : co P f = none := by
        rw [← hco]
        unfold coC
        rw [if_neg (by omega)]
      refine tail μ5 hE5' hA5' ?_ ?_
      · rw [enone]; exact hR5
      · rw [enone]; exact hF5
  -- adding for other parts leaves what is said of a part
  have keepF : ∀ (P q : Int) (jc : Int) (J : Int → Int) (f sp : Int) (n : Nat) (M : List CutT), q ≠ P → FM jc J (addF (co P) n M) q f sp = FM jc J M q f sp := by
    intro P q jc J f sp n M hq
    induction n with
    | zero => rfl
    | succ n ih =>
      show FM jc J (push (addF (co P) n M) (co P n)) q f sp = _
      rw [push_keep (fun c hc => ?_), ih]
      rw [← hco] at hc
      unfold coC at hc
      split at hc
      · cases hc
        intro z
        exact hq z.1.symm
      · cases hc
  have keepA : ∀ (m : Nat) (q : Int) (jc : Int) (J : Int → Int) (f sp : Int), (m : Int) ≤ q → FM jc J (addP co (σ 2 0 0 0).toNat m L) q f sp = FM jc J L q f sp := by
    intro m
    induction m with
    | zero => intros; rfl
    | succ m ih =>
      intro q jc J f sp hq
      show FM jc J (addF (co m) _ (addP co (σ 2 0 0 0).toNat m L)) q f sp = _
      rw [keepF _ _ _ _ _ _ _ _ (by omega)]
      exact ih q jc J f sp (by omega)
  have outer : ∀ (k P : Nat) (cost poss : Int) (μ : Mem), (P : Int) + k = σ 5 0 3 0 → (poss = 0 ∨ poss = 1) → Eo Sh σ μ → (∀ q, 0 ≤ q → q < 4 → AO μ q ∧ FO μ q) → RepC μ (addP co (σ 2 0 0 0).toNat P L) → FlO μ (addP co (σ 2 0 0 0).toNat P L) → (poss = 1 ↔ ∀ p : Int, 0 ≤ p → p < P → ∀ f, 0 ≤ f → f < σ 2 0 0 0 → gA σ p d f ≠ -4) → (poss = 1 → cost = sm (σ 0 0 0 0).toNat (fun c => σ 0 0 2 (c * 4 + d c)) * sm (σ 2 0 0 0).toNat (σ 2 0 1) + sm P (fun p => sm (σ 2 0 0 0).toNat (fun f => σ 2 0 1 f * gA σ p d f))) → Sr_hearParts_19 Q (k + 1) cost poss P μ := by
    intro k
    induction k with
    | zero =>
      intro P cost poss μ g1 hp hE hA hR hFl hpo hco'
      have e5 : μ 5 0 3 0 = σ 5 0 3 0 := hE 5 0 3 0 (by unfold Sh; omega)
      have eP : (σ 5 0 3 0).toNat = P := by omega
      unfold Sr_hearParts_19
      rw [e5]
      rw [eP] at hQ
      refine ⟨⟨by omega, by omega⟩, ⟨by omega, by omega⟩, fun _ => ⟨⟨by omega, by omega⟩, fun z => ?_, fun z => ?_⟩, fun z => absurd z (by omega)⟩
      · refine hQ (-4) μ hE hA hR hFl (fun hall => ?_) (fun _ => rfl)
        have := hpo.mpr (fun p a b f c e => hall p a (by omega) f c e)
        omega
      · have hp1 : poss = 1 := by omega
        refine hQ cost μ hE hA hR hFl (fun _ => ?_) (fun ⟨p, a, b, f, c, e, z'⟩ => absurd z' (hpo.mp hp1 p a (by omega) f c e))
        rw [hco' hp1]
        unfold CG
        rw [eP]
    | succ k ih =>
      intro P cost poss μ g1 hp hE hA hR hFl hpo hco'
      have e5 : μ 5 0 3 0 = σ 5 0 3 0 := hE 5 0 3 0 (by unfold Sh; omega)
      have hCμ : CW μ := h.eo2 hE hA
      have ed := Sh3 hE P
      have e4 : μ 4 0 4 = d := by rw [← hdd]; exact funext (fun i => hE 4 0 4 i (by unfold Sh; omega))
      unfold Sr_hearParts_19
      rw [e5]
      refine ⟨⟨by omega, by omega⟩, ⟨by omega, by omega⟩, fun z => absurd z (by omega), fun _ => ⟨by omega, by omega, ?_⟩⟩
      obtain ⟨m1, -, -, -⟩ := hCμ.2.2.2 P (by omega) (by omega)
      refine w_Pa_spotOf m1 (fun j a b => by rw [e4]; exact hd4 _ (m1.2.2.2.1 j a b).1.1 (m1.2.2.2.1 j a b).1.2) ?_
      rw [e4, ed 0 (by omega), show μ 3 P 1 = σ 3 P 1 from funext (ed 1 (by omega))]
      refine ⟨_, inner P (by omega) _ (addP co (σ 2 0 0 0).toNat P L) (fun f sp _ _ => keepA P P _ _ f sp (Int.le_refl _)) (σ 2 0 0 0).toNat 0 cost poss μ (by omega) hp hE hA hR hFl (fun g sp _ _ => keepA P P _ _ g sp (Int.le_refl _)) (fun cost' poss' μ' b1 b2 b3 b4 b5 b6 b7 x3 e3 => ?_)⟩
      have ex : x3 = ((P + 1 : Nat) : Int) := by omega
      rw [ex]
      refine ih (P + 1) cost' poss' μ' (by omega) b1 b4 b5 b6 b7 ?_ (fun z => ?_)
      · rw [b2, hpo]
        constructor
        · rintro ⟨z1, z2⟩ p a b f c e
          by_cases q : p = P
          · subst q; exact z2 f (by omega) e
          · exact z1 p a (by omega) f c e
        · intro z
          exact ⟨fun p a b f c e => z p a (by omega) f c e, fun g a b => z P (by omega) (by omega) g (by omega) b⟩
      · have b3' := b3 z
        have := hco' (b2.mp z).1
        simp only [sm] at b3' ⊢
        omega
  unfold Sr_hearParts
  refine w_costOfValues h (by rw [hdd]; exact hd4) ?_
  rw [hdd]
  exact ⟨_, outer (σ 5 0 3 0).toNat 0 _ 1 σ (by omega) (Or.inr rfl) Eo.rf (fun q q0 q1 => ⟨(h.2.2.2 q q0 q1).2.1, (h.2.2.2 q q0 q1).2.2.1⟩) hL hF ⟨fun _ p a b => absurd b (by omega), fun _ => rfl⟩ (fun _ => by simp [sm])⟩

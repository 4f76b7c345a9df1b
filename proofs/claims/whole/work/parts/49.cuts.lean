/-! ===== cuts: reasons ===== -/
/-- a spot of values that there are -/
def Vs (jc : Int) (sz : Int → Int) (sp : Int) : Prop := (0 ≤ sp ∧ sp < 64) ∧ ∀ j, 0 ≤ j → j < 3 → dS sp j < (if j < jc then sz j else 1)
/-- a spot has all that is held -/
def Mh (jc : Int) (hd : Int → Int) (sp : Int) : Prop := ∀ j, 0 ≤ j → j < jc → hd j = -1 ∨ hd j = dS sp j
def Tru (jc : Int) (sz A : Int → Int) (number : Int) (hd : Int → Int) : Prop := ∀ sp, Vs jc sz sp → Mh jc hd sp → A sp = -4 ∨ (number ≠ -4 ∧ number ≤ A sp)
noncomputable def hr (jc : Int) (sz A : Int → Int) (number : Int) (d : Int → Int) : Nat → (Int → Int)
  | 0 => d
  | k + 1 => @ite (Int → Int) (Tru jc sz A number (fun i => if i = (k : Int) then -1 else hr jc sz A number d k i)) (Classical.propDecidable _) (fun i => if i = (k : Int) then -1 else hr jc sz A number d k i) (hr jc sz A number d k)
def comb (a n : Int) : Int := if a = -4 then -4 else if n = -4 then -4 else if n ≤ a then a else n
theorem Mh.congr {jc : Int} {hd hd' : Int → Int} {sp : Int} (h : ∀ j, 0 ≤ j → j < jc → hd j = hd' j) : Mh jc hd sp → Mh jc hd' sp := fun m j a b => by rw [← h j a b]; exact m j a b
theorem Tru.congr {jc : Int} {sz A A' : Int → Int} {number : Int} {hd hd' : Int → Int} (hA : ∀ sp, Vs jc sz sp → A sp = A' sp) (h : ∀ j, 0 ≤ j → j < jc → hd j = hd' j) : Tru jc sz A number hd → Tru jc sz A' number hd' := fun t sp v m => by
  rw [← hA sp v]
  exact t sp v (Mh.congr (fun j a b => (h j a b).symm) m)
/-- how many spots there are to look at -/
def nsp (jc : Int) : Int := if jc = 0 then 1 else if jc = 1 then 4 else if jc = 2 then 16 else 64
theorem nsp_eq {jc : Int} (h0 : 0 ≤ jc) (h1 : jc ≤ 3) : iShl 1 (jc * 2) = nsp jc := by
  have h := bd_spots
  rcases (by omega : jc = 0 ∨ jc = 1 ∨ jc = 2 ∨ jc = 3) with rfl | rfl | rfl | rfl
  · exact h.1
  · exact h.2.1
  · exact h.2.2.1
  · exact h.2.2.2
theorem nsp_iff {jc sp : Int} (h0 : 0 ≤ jc) (h1 : jc ≤ 3) (hs0 : 0 ≤ sp) (hs1 : sp < 64) : sp < nsp jc ↔ ∀ j, jc ≤ j → j < 3 → dS sp j = 0 := by
  constructor
  · intro h j a b
    unfold nsp at h
    unfold dS
    rcases (by omega : jc = 0 ∨ jc = 1 ∨ jc = 2 ∨ jc = 3) with rfl | rfl | rfl | rfl <;> rcases (by omega : j = 0 ∨ j = 1 ∨ j = 2) with rfl | rfl | rfl <;> simp at h ⊢ <;> omega
  · intro h
    have a0 := h 0
    have a1 := h 1
    have a2 := h 2
    unfold dS at a0 a1 a2
    unfold nsp
    rcases (by omega : jc = 0 ∨ jc = 1 ∨ jc = 2 ∨ jc = 3) with rfl | rfl | rfl | rfl <;> simp at a0 a1 a2 ⊢ <;> omega
theorem nsp_bd (jc : Int) : 1 ≤ nsp jc ∧ nsp jc ≤ 64 := by
  unfold nsp
  split
  · omega
  · split
    · omega
    · split <;> omega
theorem Vs_iff {jc : Int} {sz : Int → Int} {sp : Int} (h0 : 0 ≤ jc) (h1 : jc ≤ 3) (hs0 : 0 ≤ sp) (hs1 : sp < 64) : Vs jc sz sp ↔ sp < nsp jc ∧ ∀ j, 0 ≤ j → j < jc → dS sp j < sz j := by
  rw [nsp_iff h0 h1 hs0 hs1]
  constructor
  · rintro ⟨-, h⟩
    refine ⟨fun j a b => ?_, fun j a b => ?_⟩
    · have := h j (by omega) b
      rw [if_neg (by omega)] at this
      have := (dS_bd sp j hs0 hs1).1
      omega
    · have := h j a (by omega)
      rw [if_pos b] at this
      exact this
  · rintro ⟨h, h'⟩
    refine ⟨⟨hs0, hs1⟩, fun j a b => ?_⟩
    split
    · rename_i c
      exact h' j a c
    · rw [h j (by omega) b]
      omega
theorem w_Pa_meets {σ : Mem} {p sp : Int} {Q : Int → Mem → Prop} (hb : PB σ p) (hs0 : 0 ≤ sp) (hs1 : sp < 64) (hh : ∀ j, 0 ≤ j → j < σ 3 p 0 0 → -1 ≤ σ 3 p 15 j ∧ σ 3 p 15 j ≤ 3) (hQ1 : (∀ j, 0 ≤ j → j < σ 3 p 0 0 → dS sp j < σ 3 p 2 j) → Mh (σ 3 p 0 0) (σ 3 p 15) sp → Q 1 σ) (hQ0 : ¬ ((∀ j, 0 ≤ j → j < σ 3 p 0 0 → dS sp j < σ 3 p 2 j) ∧ Mh (σ 3 p 0 0) (σ 3 p 15) sp) → Q 0 σ) : Pa_meets p sp σ Q := by
  have hj := hb.1
  have key : ∀ (k : Nat) (j : Int), j + k = σ 3 p 0 0 → 0 ≤ j → (∀ j', 0 ≤ j' → j' < j → dS sp j' < σ 3 p 2 j' ∧ (σ 3 p 15 j' = -1 ∨ σ 3 p 15 j' = dS sp j')) → Pa_meets_2 Q (k + 1) p sp j σ := by
    intro k
    induction k with
    | zero =>
      intro j h1 h2 hm
      unfold Pa_meets_2
      refine ⟨⟨by omega, by omega⟩, ⟨by omega, by omega⟩, fun _ => ?_, fun z => absurd z (by omega)⟩
      exact hQ1 (fun j' a b => (hm j' a (by omega)).1) (fun j' a b => (hm j' a (by omega)).2)
    | succ k ih =>
      intro j h1 h2 hm
      have b2 := (hb.2.2.2.1 j h2 (by omega)).2
      have bh := hh j h2 (by omega)
      have bd := dS_bd sp j hs0 hs1
      have next : dS sp j < σ 3 p 2 j → (σ 3 p 15 j = -1 ∨ σ 3 p 15 j = dS sp j) → Pa_meets_50 (fun z0 z1 z2 z3 => Pa_meets_2 Q (k + 1) z0 z1 z2 z3) Q p sp j σ := by
        intro c1 c2
        unfold Pa_meets_50
        intro x1 e1
        refine ih x1 (by omega) (by omega) (fun j' a b => ?_)
        by_cases c : j' = j
        · subst c; exact ⟨c1, c2⟩
        · exact hm j' a (by omega)
      unfold Pa_meets_2
      refine ⟨⟨by omega, by omega⟩, ⟨by omega, by omega⟩, fun z => absurd z (by omega), fun _ => fun x3 e3 => ?_⟩
      rw [dS_and hs0 hs1 h2 (by omega)] at e3
      subst e3
      refine ⟨h2, by omega, ⟨by omega, by omega⟩, ⟨by omega, by omega⟩, fun c => ?_, fun c => ⟨h2, by omega, ⟨by omega, by omega⟩, fun c2 => next c (Or.inl c2), fun c2 => ⟨h2, by omega, ⟨by omega, by omega⟩, ⟨by omega, by omega⟩, fun c3 => next c (Or.inr c3), fun c3 => ?_⟩⟩⟩
      · exact hQ0 (fun z => absurd (z.1 j h2 (by omega)) (by omega))
      · exact hQ0 (fun z => (z.2 j h2 (by omega)).elim c2 c3)
  exact ⟨_, key (σ 3 p 0 0).toNat 0 (by omega) (by omega) (fun j' a b => absurd b (by omega))⟩
theorem w_Pa_isTrue {σ : Mem} {p f number : Int} {Q : Int → Mem → Prop} (hb : PB σ p) (hA : AO σ p) (hf0 : 0 ≤ f) (hf1 : f < 4) (hn : number = -4 ∨ (0 ≤ number ∧ number ≤ 600)) (hh : ∀ j, 0 ≤ j → j < σ 3 p 0 0 → -1 ≤ σ 3 p 15 j ∧ σ 3 p 15 j ≤ 3) (hQ1 : Tru (σ 3 p 0 0) (σ 3 p 2) (fun sp => AnC σ p sp f) number (σ 3 p 15) → ∀ σ', Eo (S10 p) σ σ' → AO σ' p → Q 1 σ') (hQ0 : ¬ Tru (σ 3 p 0 0) (σ 3 p 2) (fun sp => AnC σ p sp f) number (σ 3 p 15) → ∀ σ', Eo (S10 p) σ σ' → AO σ' p → Q 0 σ') : Pa_isTrue p f number σ Q := by
  have hj := hb.1
  have hN := nsp_bd (σ 3 p 0 0)
  have key : ∀ (k : Nat) (sp : Int) (μ : Mem), sp + k = nsp (σ 3 p 0 0) → 0 ≤ sp → Eo (S10 p) σ μ → AO μ p → (∀ s, 0 ≤ s → s < sp → Vs (σ 3 p 0 0) (σ 3 p 2) s → Mh (σ 3 p 0 0) (σ 3 p 15) s → AnC σ p s f = -4 ∨ (number ≠ -4 ∧ number ≤ AnC σ p s f)) → Pa_isTrue_12 Q (k + 1) p f number (nsp (σ 3 p 0 0)) sp μ := by
    intro k
    induction k with
    | zero =>
      intro sp μ h1 h2 hE hAμ ht
      unfold Pa_isTrue_12
      refine ⟨⟨by omega, by omega⟩, ⟨by omega, by omega⟩, fun _ => ?_, fun z => absurd z (by omega)⟩
      refine hQ1 (fun s v m => ht s v.1.1 ?_ v m) μ hE hAμ
      have := ((Vs_iff hj.1 hj.2 v.1.1 v.1.2).mp v).1
      omega
    | succ k ih =>
      intro sp μ h1 h2 hE hAμ ht
      have ed : ∀ k : Nat, k < 10 → ∀ i, μ 3 p k i = σ 3 p k i := fun k hk i => hE 3 p k i (by unfold S10; omega)
      have e15 : μ 3 p 15 = σ 3 p 15 := funext (fun i => hE 3 p 15 i (by unfold S10; omega))
      have e0 := ed 0 (by omega) 0
      have next : ∀ μ' : Mem, Eo (S10 p) σ μ' → AO μ' p → (Vs (σ 3 p 0 0) (σ 3 p 2) sp → Mh (σ 3 p 0 0) (σ 3 p 15) sp → AnC σ p sp f = -4 ∨ (number ≠ -4 ∧ number ≤ AnC σ p sp f)) → Pa_isTrue_57 (fun z0 z1 z2 z3 z4 z5 => Pa_isTrue_12 Q (k + 1) z0 z1 z2 z3 z4 z5) Q p f number (nsp (σ 3 p 0 0)) sp μ' := by
        intro μ' hE' hA' hc
        unfold Pa_isTrue_57
        intro x1 e1
        refine ih x1 μ' (by omega) (by omega) hE' hA' (fun s a b v m => ?_)
        by_cases c : s = sp
        · subst c; exact hc v m
        · exact ht s a (by omega) v m
      unfold Pa_isTrue_12
      refine ⟨⟨by omega, by omega⟩, ⟨by omega, by omega⟩, fun z => absurd z (by omega), fun _ => ?_⟩
      refine w_Pa_meets (hb.eo ed) h2 (by omega) (by rw [e0, e15]; exact hh) (fun q1 q2 => ?_) (fun q => ?_)
      · rw [e0, e15] at q2
        rw [e0] at q1
        have hv : Vs (σ 3 p 0 0) (σ 3 p 2) sp := (Vs_iff hj.1 hj.2 h2 (by omega)).mpr ⟨by omega, fun j a b => by rw [← ed 2 (by omega)]; exact q1 j a b⟩
        refine ⟨⟨by omega, by omega⟩, fun z => absurd z (by omega), fun _ => ?_⟩
        refine w_Pa_answerTo (hb.eo ed) hAμ h2 (by omega) hf0 hf1 (fun μ' hE' hA' => ?_)
        rw [AnC_congr ed]
        have bA := AnC_bd (spot := sp) (f := f) hb
        have hE2 := hE.tr hE'
        have bad : ¬ (AnC σ p sp f = -4 ∨ (number ≠ -4 ∧ number ≤ AnC σ p sp f)) → Q 0 μ' := fun c => hQ0 (fun t => c (t sp hv q2)) μ' hE2 hA'
        refine ⟨⟨by omega, by omega⟩, fun c => next μ' hE2 hA' (fun _ _ => Or.inl c), fun c => ⟨⟨by omega, by omega⟩, fun c2 => bad (by omega), fun c2 => ⟨⟨by omega, by omega⟩, ⟨by omega, by omega⟩, fun c3 => next μ' hE2 hA' (fun _ _ => Or.inr ⟨c2, c3⟩), fun c3 => bad (by omega)⟩⟩⟩
      · refine ⟨InR_0, fun _ => next μ hE hAμ (fun v m => absurd ⟨?_, ?_⟩ q), fun z => absurd rfl z⟩
        · rw [e0]
          intro j a b
          rw [ed 2 (by omega)]
          exact ((Vs_iff hj.1 hj.2 h2 (by omega)).mp v).2 j a b
        · rw [e0, e15]; exact m
  unfold Pa_isTrue
  intro x1 e1
  rw [nsp_eq hj.1 hj.2] at e1
  subst e1
  exact ⟨_, key (nsp (σ 3 p 0 0)).toNat 0 σ (by omega) (by omega) Eo.rf hA (fun s a b => absurd b (by omega))⟩
def S15 (p : Int) : Nat → Int → Nat → Prop := fun c q k => c = 3 ∧ q = p ∧ (k = 10 ∨ (12 ≤ k ∧ k ≤ 15))
theorem hr_bd {jc : Int} {sz A : Int → Int} {number : Int} {d : Int → Int} (h : ∀ j, -1 ≤ d j ∧ d j ≤ 3) : ∀ (k : Nat) (j : Int), -1 ≤ hr jc sz A number d k j ∧ hr jc sz A number d k j ≤ 3
  | 0, j => h j
  | k + 1, j => by
    have ih := hr_bd (jc := jc) (sz := sz) (A := A) (number := number) h k j
    by_cases c : Tru jc sz A number (fun i => if i = (k : Int) then -1 else hr jc sz A number d k i)
    · have e : hr jc sz A number d (k + 1) = (fun i => if i = (k : Int) then -1 else hr jc sz A number d k i) := if_pos c
      rw [e]
      simp only
      split
      · omega
      · exact ih
    · have e : hr jc sz A number d (k + 1) = hr jc sz A number d k := if_neg c
      rw [e]
      exact ih
set_option maxHeartbeats 1000000 in
theorem w_Pa_findReasons {σ : Mem} {p spot f number : Int} {Q : Mem → Prop} (hb : PB σ p) (hA : AO σ p) (hs0 : 0 ≤ spot) (hs1 : spot < 64) (hf0 : 0 ≤ f) (hf1 : f < 4) (hn : number = -4 ∨ (0 ≤ number ∧ number ≤ 600)) (hQ : ∀ σ', Eo (S15 p) σ σ' → AO σ' p → (∀ j, 0 ≤ j → j < σ 3 p 0 0 → σ' 3 p 15 j = hr (σ 3 p 0 0) (σ 3 p 2) (fun sp => AnC σ p sp f) number (dS spot) (σ 3 p 0 0).toNat j) → Q σ') : Pa_findReasons p spot f number σ Q := by
  have hj := hb.1
  have hdd : ∀ j, -1 ≤ dS spot j ∧ dS spot j ≤ 3 := fun j => by have := dS_bd spot j hs0 hs1; omega
  generalize hG : (fun k => hr (σ 3 p 0 0) (σ 3 p 2) (fun sp => AnC σ p sp f) number (dS spot) k) = G at hQ
  have hGb : ∀ k j, -1 ≤ G k j ∧ G k j ≤ 3 := fun k j => by rw [← hG]; exact hr_bd hdd k j
  have hGQ : ∀ j, hr (σ 3 p 0 0) (σ 3 p 2) (fun sp => AnC σ p sp f) number (dS spot) (σ 3 p 0 0).toNat j = G (σ 3 p 0 0).toNat j := fun j => by rw [← hG]
  have key2 : ∀ (m : Nat) (j : Nat) (μ : Mem), (j : Int) + m = σ 3 p 0 0 → Eo (S15 p) σ μ → AO μ p → (∀ i, 0 ≤ i → i < σ 3 p 0 0 → μ 3 p 15 i = G j i) → Pa_findReasons_36 Q (m + 1) p f number j μ := by
    intro m
    induction m with
    | zero =>
      intro j μ h1 hE hAμ hh
      have e0 : μ 3 p 0 0 = σ 3 p 0 0 := hE 3 p 0 0 (by unfold S15; omega)
      unfold Pa_findReasons_36
      rw [e0]
      refine ⟨⟨by omega, by omega⟩, ⟨by omega, by omega⟩, fun _ => ?_, fun z => absurd z (by omega)⟩
      refine hQ μ hE hAμ (fun i a b => ?_)
      have ej : (σ 3 p 0 0).toNat = j := by omega
      rw [hh i a b, ← ej, ← hG]
    | succ m ih =>
      intro j μ h1 hE hAμ hh
      have e0 : μ 3 p 0 0 = σ 3 p 0 0 := hE 3 p 0 0 (by unfold S15; omega)
      unfold Pa_findReasons_36
      rw [e0]
      refine ⟨⟨by omega, by omega⟩, ⟨by omega, by omega⟩, fun z => absurd z (by omega), fun _ => ⟨by omega, by omega, fun x4 e4 => ⟨by omega, by omega, fun σ5 e5 => ?_⟩⟩⟩
      have hE5 : Eo (S15 p) σ σ5 := by rw [e5]; exact hE.tr (Eo.of_up ⟨rfl, rfl, Or.inr ⟨by omega, by omega⟩⟩)
      have ed : ∀ k : Nat, k < 10 → ∀ i, σ5 3 p k i = σ 3 p k i := fun k hk i => hE5 3 p k i (by unfold S15; omega)
      have hA5 : AO σ5 p := hAμ.eo (fun k hk i => by rw [e5, up_ne (by omega)])
      have e50 := ed 0 (by omega) 0
      have e52 : σ5 3 p 2 = σ 3 p 2 := funext (ed 2 (by omega))
      have h15 : ∀ i, 0 ≤ i → i < σ 3 p 0 0 → σ5 3 p 15 i = (fun i => if i = (j : Int) then -1 else G j i) i := by
        intro i a b
        rw [e5]
        simp only
        by_cases c : i = j
        · subst c; rw [up_at, if_pos rfl]
        · rw [up_ne (by omega), if_neg c]; exact hh i a b
      have eA : (fun sp => AnC σ5 p sp f) = (fun sp => AnC σ p sp f) := funext (fun sp => AnC_congr ed)
      have step : ∀ μ' : Mem, Eo (S15 p) σ μ' → AO μ' p → (∀ i, 0 ≤ i → i < σ 3 p 0 0 → μ' 3 p 15 i = G (j + 1) i) → Pa_findReasons_80 (fun z0 z1 z2 z3 z4 => Pa_findReasons_36 Q (m + 1) z0 z1 z2 z3 z4) Q p f number j μ' := by
        intro μ' a b c
        unfold Pa_findReasons_80
        intro x1 ex
        have ex' : x1 = ((j + 1 : Nat) : Int) := by omega
        rw [ex']
        exact ih (j + 1) μ' (by omega) a b c
      refine w_Pa_isTrue (hb.eo ed) hA5 hf0 hf1 hn (fun i a b => ?_) (fun ht σ6 hE6 hA6 => ?_) (fun ht σ6 hE6 hA6 => ?_)
      · rw [e50] at b
        rw [h15 i a b]
        simp only
        split
        · omega
        · exact hGb j i
      · rw [e50, e52, eA] at ht
        have ht' : Tru (σ 3 p 0 0) (σ 3 p 2) (fun sp => AnC σ p sp f) number (fun i => if i = (j : Int) then -1 else G j i) := Tru.congr (fun _ _ => rfl) h15 ht
        have eG : G (j + 1) = (fun i => if i = (j : Int) then -1 else G j i) := by
          rw [← hG] at ht' ⊢
          exact if_pos ht'
        refine ⟨⟨by omega, by omega⟩, fun _ => ?_, fun z => absurd z (by omega)⟩
        refine step σ6 (hE5.tr (hE6.mono (fun c q k z => ⟨z.1, z.2.1, by have := z.2.2; omega⟩))) hA6 (fun i a b => ?_)
        rw [eG, hE6 3 p 15 i (by unfold S10; omega)]
        exact h15 i a b
      · rw [e50, e52, eA] at ht
        have ht' : ¬ Tru (σ 3 p 0 0) (σ 3 p 2) (fun sp => AnC σ p sp f) number (fun i => if i = (j : Int) then -1 else G j i) := fun t => ht (Tru.congr (fun _ _ => rfl) (fun i a b => (h15 i a b).symm) t)
        have eG : G (j + 1) = G j := by
          rw [← hG] at ht' ⊢
          exact if_neg ht'
        refine ⟨InR_0, fun z => absurd rfl z, fun _ => ⟨by omega, by omega, fun σ8 e8 => ?_⟩⟩
        subst e8
        refine step _ ((hE5.tr (hE6.mono (fun c q k z => ⟨z.1, z.2.1, by have := z.2.2; omega⟩))).tr (Eo.of_up ⟨rfl, rfl, Or.inr ⟨by omega, by omega⟩⟩)) (hA6.eo (fun k hk i => up_ne (by omega))) (fun i a b => ?_)
        rw [eG]
        by_cases c : i = j
        · subst c; rw [up_at, e4]; exact hh _ a b
        · rw [up_ne (by omega), hE6 3 p 15 i (by unfold S10; omega), h15 i a b]
          simp only
          rw [if_neg c]
  have key : ∀ (m : Nat) (j : Int) (μ : Mem), j + m = σ 3 p 0 0 → 0 ≤ j → Eo (S15 p) σ μ → AO μ p → (∀ i, 0 ≤ i → i < j → μ 3 p 15 i = dS spot i) → Pa_findReasons_3 Q (m + 1) p spot f number j μ := by
    intro m
    induction m with
    | zero =>
      intro j μ h1 h2 hE hAμ hh
      have e0 : μ 3 p 0 0 = σ 3 p 0 0 := hE 3 p 0 0 (by unfold S15; omega)
      unfold Pa_findReasons_3
      rw [e0]
      refine ⟨⟨by omega, by omega⟩, ⟨by omega, by omega⟩, fun _ => ?_, fun z => absurd z (by omega)⟩
      refine ⟨_, key2 (σ 3 p 0 0).toNat 0 μ (by omega) hE hAμ (fun i a b => ?_)⟩
      rw [hh i a (by omega), ← hG]
      rfl
    | succ m ih =>
      intro j μ h1 h2 hE hAμ hh
      have e0 : μ 3 p 0 0 = σ 3 p 0 0 := hE 3 p 0 0 (by unfold S15; omega)
      unfold Pa_findReasons_3
      rw [e0]
      refine ⟨⟨by omega, by omega⟩, ⟨by omega, by omega⟩, fun z => absurd z (by omega), fun _ => ⟨by omega, by omega, fun σ3 e3 x4 e4 => ?_⟩⟩
      rw [dS_and hs0 hs1 h2 (by omega)] at e3
      subst e3
      refine ih x4 _ (by omega) (by omega) (hE.tr (Eo.of_up ⟨rfl, rfl, Or.inr ⟨by omega, by omega⟩⟩)) (hAμ.eo (fun k hk i => up_ne (by omega))) (fun i a b => ?_)
      by_cases c : i = j
      · subst c; exact up_at
      · rw [up_ne (by omega)]; exact hh i a (by omega)
  exact ⟨_, key (σ 3 p 0 0).toNat 0 σ (by omega) (by omega) Eo.rf hA (fun i a b => absurd b (by omega))⟩

/-! ===== the reference: a cut more ===== -/
def btI (b k : Int) : Int := if k = 0 then b % 2 else if k = 1 then b / 2 % 2 else b / 4 % 2
def clr (b k : Int) : Int := b - (if k = 0 then 1 else if k = 1 then 2 else 4) * btI b k
theorem btI_eq {b k : Int} (h0 : 0 ≤ b) (h1 : b < 8) (k0 : 0 ≤ k) (k1 : k < 3) : iAnd (iShr b k) 1 = btI b k ∧ iAnd b (iXor (iShl 1 k) (-1)) = clr b k := by
  obtain ⟨n, rfl⟩ := Int.eq_ofNat_of_zero_le h0
  rcases (by omega : k = 0 ∨ k = 1 ∨ k = 2) with rfl | rfl | rfl
  · have q := bd_bits n (by omega) 0 (by omega)
    refine ⟨q.1.trans ?_, q.2.trans ?_⟩
    · show (n : Int) / 1 % 2 = (n : Int) % 2
      omega
    · show (n : Int) - 1 * ((n : Int) / 1 % 2) = (n : Int) - 1 * ((n : Int) % 2)
      omega
  · have q := bd_bits n (by omega) 1 (by omega)
    refine ⟨q.1.trans ?_, q.2.trans ?_⟩
    · show (n : Int) / 2 % 2 = (n : Int) / 2 % 2
      rfl
    · show (n : Int) - 2 * ((n : Int) / 2 % 2) = (n : Int) - 2 * ((n : Int) / 2 % 2)
      rfl
  · have q := bd_bits n (by omega) 2 (by omega)
    refine ⟨q.1.trans ?_, q.2.trans ?_⟩
    · show (n : Int) / 4 % 2 = (n : Int) / 4 % 2
      rfl
    · show (n : Int) - 4 * ((n : Int) / 4 % 2) = (n : Int) - 4 * ((n : Int) / 4 % 2)
      rfl
theorem btI_bd (b k : Int) : btI b k = 0 ∨ btI b k = 1 := by
  unfold btI
  split
  · omega
  · split <;> omega
theorem clr_spec {b k : Int} (h0 : 0 ≤ b) (h1 : b < 8) (k0 : 0 ≤ k) (k1 : k < 3) : (0 ≤ clr b k ∧ clr b k < 8) ∧ ∀ j, 0 ≤ j → j < 3 → btI (clr b k) j = if j = k then 0 else btI b j := by
  rcases (by omega : k = 0 ∨ k = 1 ∨ k = 2) with rfl | rfl | rfl
  · have e : clr b 0 = b - 1 * (b % 2) := rfl
    rw [e]
    refine ⟨by omega, fun j a c => ?_⟩
    rcases (by omega : j = 0 ∨ j = 1 ∨ j = 2) with rfl | rfl | rfl <;> simp [btI] <;> omega
  · have e : clr b 1 = b - 2 * (b / 2 % 2) := rfl
    rw [e]
    refine ⟨by omega, fun j a c => ?_⟩
    rcases (by omega : j = 0 ∨ j = 1 ∨ j = 2) with rfl | rfl | rfl <;> simp [btI] <;> omega
  · have e : clr b 2 = b - 4 * (b / 4 % 2) := rfl
    rw [e]
    refine ⟨by omega, fun j a c => ?_⟩
    rcases (by omega : j = 0 ∨ j = 1 ∨ j = 2) with rfl | rfl | rfl <;> simp [btI] <;> omega
/-- what bits hold of a code's digits -/
def hdB (b code : Int) (k : Int) : Int := if btI b k = 0 then -1 else dC code k
theorem w_Mo_isTrue {σ : Mem} {p f code bits bound number : Int} {Q : Int → Mem → Prop} (h : CW σ) (hJ : JS σ) (hMD : MD σ) (p0 : 0 ≤ p) (p1 : p < 4) (f0 : 0 ≤ f) (f1 : f < 4) (c0 : 0 ≤ code) (c1 : code < 64) (b0 : 0 ≤ bits) (b1 : bits < 8) (hbd : bound = 0 ∨ bound = 1) (hn : bound = 1 → 0 ≤ number ∧ number ≤ 600) (hnr : InR number) (hQ1 : Tru (σ 3 p 0 0) (σ 3 p 2) (fun sp => AnC σ p sp f) (if bound = 0 then -4 else number) (hdB bits code) → ∀ σ', Eo S6a σ σ' → Q 1 σ') (hQ0 : ¬ Tru (σ 3 p 0 0) (σ 3 p 2) (fun sp => AnC σ p sp f) (if bound = 0 then -4 else number) (hdB bits code) → ∀ σ', Eo S6a σ σ' → Q 0 σ') : Mo_isTrue p f code bits bound number σ Q := by
  obtain ⟨a1, -, -, a4⟩ := h.2.2.2 p p0 p1
  have hj := a1.1
  have key : ∀ (m : Nat) (o : Int) (μ : Mem), o + m = 64 → 0 ≤ o → Eo S6a σ μ → (∀ o', 0 ≤ o' → o' < o → Vs (σ 3 p 0 0) (σ 3 p 2) (cv o') → Mh (σ 3 p 0 0) (hdB bits code) (cv o') → AnC σ p (cv o') f = -4 ∨ ((if bound = 0 then -4 else number) ≠ -4 ∧ (if bound = 0 then -4 else number) ≤ AnC σ p (cv o') f)) → Mo_isTrue_3 Q (m + 1) p f code bits bound number o μ := by
    intro m
    induction m with
    | zero =>
      intro o μ g1 g2 hE ht
      unfold Mo_isTrue_3
      refine ⟨⟨by omega, by omega⟩, fun _ => hQ1 (fun sp v mh => ?_) μ hE, fun z => absurd z (by omega)⟩
      have q := cv_vc v.1.1 v.1.2
      have := ht (vc sp) q.1.1 (by omega)
      rw [q.2] at this
      exact this v mh
    | succ m ih =>
      intro o μ g1 g2 hE ht
      have hE6 : Eo S6 σ μ := hE.mono (fun c q k z => S6a_S6 z)
      have hCμ := h.s6 hE6
      have hDμ := Dq.s6 hE6
      have hMμ := hMD.eo hE6
      have ed := fun k (_ : k < 10) i => S6_cl hE6 3 p k i (by omega)
      have e31 : μ 3 p 1 = σ 3 p 1 := funext (fun i => S6_cl hE6 3 p 1 i (by omega))
      have e32 : μ 3 p 2 = σ 3 p 2 := funext (fun i => S6_cl hE6 3 p 2 i (by omega))
      have e30 : μ 3 p 0 0 = σ 3 p 0 0 := S6_cl hE6 3 p 0 0 (by omega)
      have m8 : μ 6 0 8 p = σ 3 p 0 0 := by rw [(hMμ.2.2.2.2.2.2 p p0 p1).1]; exact e30
      have next : ∀ μ' : Mem, Eo S6a σ μ' → (Vs (σ 3 p 0 0) (σ 3 p 2) (cv o) → Mh (σ 3 p 0 0) (hdB bits code) (cv o) → AnC σ p (cv o) f = -4 ∨ ((if bound = 0 then -4 else number) ≠ -4 ∧ (if bound = 0 then -4 else number) ≤ AnC σ p (cv o) f)) → Mo_isTrue_113 (fun z0 z1 z2 z3 z4 z5 z6 z7 => Mo_isTrue_3 Q (m + 1) z0 z1 z2 z3 z4 z5 z6 z7) Q p f code bits bound number o μ' := by
        intro μ' hE' hc
        unfold Mo_isTrue_113
        intro x1 e1
        refine ih x1 μ' (by omega) (by omega) hE' (fun o' a b v mh => ?_)
        by_cases c : o' = o
        · subst c; exact hc v mh
        · exact ht o' a (by omega) v mh
      have inner : ∀ (m' : Nat) (k met : Int), k + m' = σ 3 p 0 0 → 0 ≤ k → ((met = 1 ∧ Vs (σ 3 p 0 0) (σ 3 p 2) (cv o) ∧ ∀ j, 0 ≤ j → j < k → hdB bits code j = -1 ∨ hdB bits code j = dS (cv o) j) ∨ (met = 0 ∧ ¬ (Vs (σ 3 p 0 0) (σ 3 p 2) (cv o) ∧ Mh (σ 3 p 0 0) (hdB bits code) (cv o)))) → Mo_isTrue_22 (fun z0 z1 z2 z3 z4 z5 z6 z7 => Mo_isTrue_3 Q (m + 1) z0 z1 z2 z3 z4 z5 z6 z7) Q (m' + 1) p f code bits bound number o met k μ := by
        intro m'
        induction m' with
        | zero =>
          intro k met q1 q2 hh
          unfold Mo_isTrue_22
          rw [m8]
          refine ⟨p0, p1, ⟨by omega, by omega⟩, ⟨by omega, by omega⟩, fun _ => ⟨⟨by omega, by omega⟩, fun z => ?_, fun z => ?_⟩, fun z => absurd z (by omega)⟩
          · have hh := hh.resolve_left (fun y => absurd y.1 (by omega))
            exact next μ hE (fun v mh => absurd ⟨v, mh⟩ hh.2)
          · have hh := hh.resolve_right (fun y => z y.1)
            have hmh : Mh (σ 3 p 0 0) (hdB bits code) (cv o) := fun j a b => hh.2.2 j a (by omega)
            refine w_Mo_answerTo (hCμ.2.2.2 p p0 p1).1 (hMμ.2.2.2.2.2.2 p p0 p1) p0 p1 g2 (by omega) f0 f1 (fun b σ5 hE5 _ _ => ?_)
            rw [AnC_congr ed]
            have bA := AnC_bd (spot := cv o) (f := f) a1
            have hE2 := hE.tr hE5
            have bad : ¬ (AnC σ p (cv o) f = -4 ∨ ((if bound = 0 then -4 else number) ≠ -4 ∧ (if bound = 0 then -4 else number) ≤ AnC σ p (cv o) f)) → Q 0 σ5 := fun c => hQ0 (fun t => c (t (cv o) hh.2.1 hmh)) σ5 hE2
            refine ⟨⟨by omega, by omega⟩, fun c => next σ5 hE2 (fun _ _ => Or.inl c), fun c => ⟨⟨by omega, by omega⟩, fun c2 => ?_, fun c2 => ⟨⟨by omega, by omega⟩, hnr, fun c3 => ?_, fun c3 => ?_⟩⟩⟩
            · refine bad (fun y => ?_)
              rw [if_pos c2] at y
              rcases y with y | y
              · exact c y
              · exact y.1 rfl
            · refine next σ5 hE2 (fun _ _ => Or.inr ?_)
              rw [if_neg c2]
              have := hn (by omega)
              exact ⟨by omega, c3⟩
            · refine bad (fun y => ?_)
              rw [if_neg c2] at y
              rcases y with y | y
              · exact c y
              · omega
        | succ m' ihm =>
          intro k met q1 q2 hh
          have bq := btI_eq b0 b1 q2 (by omega : k < 3)
          have bb := btI_bd bits k
          have no : ¬ (Vs (σ 3 p 0 0) (σ 3 p 2) (cv o) ∧ Mh (σ 3 p 0 0) (hdB bits code) (cv o)) → Mo_isTrue_68 (fun z0 z1 z2 z3 z4 z5 z6 z7 z8 z9 => Mo_isTrue_22 (fun z0 z1 z2 z3 z4 z5 z6 z7 => Mo_isTrue_3 Q (m + 1) z0 z1 z2 z3 z4 z5 z6 z7) Q (m' + 1) z0 z1 z2 z3 z4 z5 z6 z7 z8 z9) Q p f code bits bound number o k μ := by
            intro hno
            unfold Mo_isTrue_68 Mo_isTrue_69
            intro x1 e1
            exact ihm x1 0 (by omega) (by omega) (Or.inr ⟨rfl, hno⟩)
          unfold Mo_isTrue_22
          rw [m8, bq.1]
          refine ⟨p0, p1, ⟨by omega, by omega⟩, ⟨by omega, by omega⟩, fun z => absurd z (by omega), fun _ => ⟨⟨by omega, by omega⟩, fun z => ?_, fun z => ?_⟩⟩
          · exact no (hh.resolve_left (fun y => absurd y.1 (by omega))).2
          · have hh := hh.resolve_right (fun y => z y.1)
            have yes : (hdB bits code k = -1 ∨ hdB bits code k = dS (cv o) k) → Mo_isTrue_64 (fun z0 z1 z2 z3 z4 z5 z6 z7 z8 z9 => Mo_isTrue_22 (fun z0 z1 z2 z3 z4 z5 z6 z7 => Mo_isTrue_3 Q (m + 1) z0 z1 z2 z3 z4 z5 z6 z7) Q (m' + 1) z0 z1 z2 z3 z4 z5 z6 z7 z8 z9) Q p f code bits bound number o k μ := by
              intro hy
              unfold Mo_isTrue_64 Mo_isTrue_69
              intro x1 e1
              refine ihm x1 1 (by omega) (by omega) (Or.inl ⟨rfl, hh.2.1, fun j a b => ?_⟩)
              by_cases c : j = k
              · subst c; exact hy
              · exact hh.2.2 j a (by omega)
            refine ⟨⟨by omega, by omega⟩, fun c => yes (Or.inl (if_pos c)), fun c => ?_⟩
            refine w_Mo_figure g2 (by omega) ⟨by omega, by omega⟩ (w_Mo_figure c0 c1 ⟨by omega, by omega⟩ ?_)
            have d1 := dC_bd o k g2 (by omega)
            have d2 := dC_bd code k c0 c1
            have e1 : hdB bits code k = dC code k := if_neg c
            have e2 := cv_dS (code := o) (k := k) g2 (by omega) q2 (by omega)
            refine ⟨⟨by omega, by omega⟩, ⟨by omega, by omega⟩, fun y => no (fun w => ?_), fun y => yes (Or.inr (by rw [e1, e2]; exact y.symm))⟩
            rcases w.2 k q2 (by omega) with w | w
            · rw [e1] at w; omega
            · rw [e1, e2] at w; exact y w.symm
      unfold Mo_isTrue_3
      refine ⟨⟨by omega, by omega⟩, fun z => absurd z (by omega), fun _ => ?_⟩
      refine w_Mo_isCode hCμ (hJ.dq hDμ) hMμ p0 p1 g2 (by omega) (fun v => ?_) (fun v => ?_)
      · rw [e30, e32] at v
        exact ⟨_, inner (σ 3 p 0 0).toNat 0 1 (by omega) (by omega) (Or.inl ⟨rfl, v, fun j a b => absurd b (by omega)⟩)⟩
      · rw [e30, e32] at v
        exact ⟨_, inner (σ 3 p 0 0).toNat 0 0 (by omega) (by omega) (Or.inr ⟨rfl, fun y => v y.1⟩)⟩
  exact ⟨_, key 64 0 σ (by omega) (by omega) Eo.rf (fun o' a b => absurd b (by omega))⟩
/-- fields that a cut more changes -/
def S6c : Nat → Int → Nat → Prop := fun c q k => c = 6 ∧ q = 0 ∧ ((18 ≤ k ∧ k ≤ 26) ∨ (35 ≤ k ∧ k ≤ 37))
theorem S6c_S6 {c : Nat} {q : Int} {k : Nat} (h : S6c c q k) : S6 c q k := ⟨h.1, h.2.1, by have := h.2.2; omega⟩
theorem rsl_same {J hd hd' : Int → Int} {k : Nat} (h : ∀ j : Int, 0 ≤ j → j < k → hd j = hd' j) : rsl J hd k = rsl J hd' k := rsl_congr (fun j a b => ⟨rfl, h j a b⟩)
set_option maxHeartbeats 2000000 in
theorem w_Mo_addCut {σ : Mem} {p f code bound number : Int} {L : List CutT} {Q : Mem → Prop} (h : CW σ) (hJ : JS σ) (hMD : MD σ) (p0 : 0 ≤ p) (p1 : p < 4) (f0 : 0 ≤ f) (f1 : f < 4) (c0 : 0 ≤ code) (c1 : code < 64) (hbd : bound = 0 ∨ bound = 1) (hn : bound = 1 → 0 ≤ number ∧ number ≤ 600) (hnr : InR number) (hL : RepM σ L) (hlt : L.length < 200) (hQ : ∀ σ', Eo S6c σ σ' → RepM σ' (L ++ [(p, f, (if bound = 0 then -4 else number), σ 6 0 27 0, rsl (σ 3 p 1) (hr (σ 3 p 0 0) (σ 3 p 2) (fun sp => AnC σ p sp f) (if bound = 0 then -4 else number) (dS (cv code)) (σ 3 p 0 0).toNat) (σ 3 p 0 0).toNat)]) → Q σ') : Mo_addCut p f code bound number σ Q := by
  obtain ⟨a1, -, -, a4⟩ := h.2.2.2 p p0 p1
  have hj := a1.1
  have hM := hMD.2.2.2.2.2.2 p p0 p1
  obtain ⟨l1, l2, l3, l4⟩ := hL
  generalize hNum : (if bound = 0 then -4 else number) = num at hQ
  generalize hG : (fun k => hr (σ 3 p 0 0) (σ 3 p 2) (fun sp => AnC σ p sp f) num (dS (cv code)) k) = G at hQ
  have eG : ∀ k, hr (σ 3 p 0 0) (σ 3 p 2) (fun sp => AnC σ p sp f) num (dS (cv code)) k = G k := fun k => by rw [← hG]
  rw [eG] at hQ
  -- the record is written, then its reasons
  have reasons : ∀ (bits : Int), 0 ≤ bits → bits < 8 → (∀ j, 0 ≤ j → j < σ 3 p 0 0 → hdB bits code j = G (σ 3 p 0 0).toNat j) → ∀ (m k : Nat) (μ : Mem), (k : Int) + m = σ 3 p 0 0 → Eo S6c σ μ → μ 6 0 18 0 = L.length → (∀ (i : Nat) (c : CutT), L[i]? = some c → CutM μ i c) → μ 6 0 19 L.length = (if num = -4 then 0 else 1) → μ 6 0 20 L.length = p → μ 6 0 21 L.length = f → μ 6 0 22 L.length = num → μ 6 0 23 L.length = σ 6 0 27 0 → μ 6 0 24 L.length = (rsl (σ 3 p 1) (hdB bits code) k).length → (∀ (i : Nat) (r : Int × Int), (rsl (σ 3 p 1) (hdB bits code) k)[i]? = some r → μ 6 0 25 (3 * (L.length : Int) + i) = r.1 ∧ μ 6 0 26 (3 * (L.length : Int) + i) = r.2) → Mo_addCut_141 Q (m + 1) p code bits k μ := by
    intro bits b0 b1 hbits m
    induction m with
    | zero =>
      intro k μ g1 hE e18 hk e19 e20 e21 e22 e23 e24 hrs
      have hE6 : Eo S6 σ μ := hE.mono (fun c q k z => S6c_S6 z)
      have m8 : μ 6 0 8 p = σ 3 p 0 0 := by rw [hE 6 0 8 p (by unfold S6c; omega)]; exact hM.1
      have ek : (σ 3 p 0 0).toNat = k := by omega
      unfold Mo_addCut_141
      rw [m8, e18]
      refine ⟨p0, p1, ⟨by omega, by omega⟩, ⟨by omega, by omega⟩, fun _ => fun σ4 e4 => ?_, fun z => absurd z (by omega)⟩
      subst e4
      have ers : rsl (σ 3 p 1) (G (σ 3 p 0 0).toNat) (σ 3 p 0 0).toNat = rsl (σ 3 p 1) (hdB bits code) k := by
        rw [ek]
        rw [ek] at hbits
        exact rsl_same (fun j a b => (hbits j a (by omega)).symm)
      have q : ∀ (m : Nat) (i : Int), m ≠ 18 → up μ 6 0 18 0 ((L.length : Int) + 1) 6 0 m i = μ 6 0 m i := fun m i hm => up_ne (by omega)
      refine hQ _ (hE.tr (Eo.of_up ⟨rfl, rfl, Or.inl ⟨by omega, by omega⟩⟩)) ⟨?_, ?_, ?_, ?_⟩
      · rw [up_at, List.length_append]
        simp
      · rw [List.length_append]
        simp
        omega
      · intro c hc
        rcases List.mem_append.mp hc with hc | hc
        · exact l3 c hc
        · rw [List.mem_singleton.mp hc]
          have := rsl_len (J := σ 3 p 1) (hd := G (σ 3 p 0 0).toNat) (σ 3 p 0 0).toNat
          show (rsl _ _ _).length ≤ 3
          omega
      · intro i c hc
        by_cases hil : i < L.length
        · rw [List.getElem?_append_left hil] at hc
          exact (hk i c hc).eo (l3 c (List.mem_of_getElem? hc)) (fun m a b => q m i (by omega)) (fun i' a b => ⟨q 25 i' (by omega), q 26 i' (by omega)⟩)
        · rw [List.getElem?_append_right (by omega)] at hc
          have hi1 : i - L.length < 1 := (List.getElem?_eq_some_iff.mp hc).1
          have ei : i = L.length := by omega
          subst ei
          rw [Nat.sub_self] at hc
          cases hc
          refine ⟨by rw [q 19 _ (by omega)]; exact e19, by rw [q 20 _ (by omega)]; exact e20, by rw [q 21 _ (by omega)]; exact e21, by rw [q 22 _ (by omega)]; exact e22, by rw [q 23 _ (by omega)]; exact e23, ?_, fun i' r hr' => ?_⟩
          · rw [q 24 _ (by omega), e24]
            show _ = ((rsl _ _ _).length : Int)
            rw [ers]
          · rw [q 25 _ (by omega), q 26 _ (by omega)]
            have hr'' : (rsl (σ 3 p 1) (hdB bits code) k)[i']? = some r := by rw [← ers]; exact hr'
            exact hrs i' r hr''
    | succ m ih =>
      intro k μ g1 hE e18 hk e19 e20 e21 e22 e23 e24 hrs
      have m8 : μ 6 0 8 p = σ 3 p 0 0 := by rw [hE 6 0 8 p (by unfold S6c; omega)]; exact hM.1
      have m9 : μ 6 0 9 (3 * p + k) = σ 3 p 1 k := by rw [hE 6 0 9 _ (by unfold S6c; omega)]; exact hM.2.1 k (by omega) (by omega)
      have bq := btI_eq b0 b1 (by omega : (0 : Int) ≤ k) (by omega : (k : Int) < 3)
      have bb := btI_bd bits k
      have bl := rsl_len (J := σ 3 p 1) (hd := hdB bits code) k
      unfold Mo_addCut_141
      rw [m8, e18, bq.1, e24, m9]
      refine ⟨p0, p1, ⟨by omega, by omega⟩, ⟨by omega, by omega⟩, fun z => absurd z (by omega), fun _ => ⟨⟨by omega, by omega⟩, fun c => ?_, fun c => ⟨by omega, by omega, fun x8 e8 => ⟨by omega, by omega, by omega, by omega, fun σ10 e10 => ?_⟩⟩⟩⟩
      · have er : rsl (σ 3 p 1) (hdB bits code) (k + 1) = rsl (σ 3 p 1) (hdB bits code) k := by
          simp only [rsl]
          rw [if_pos (show hdB bits code (k:Int) = -1 from if_pos (by omega))]
        unfold Mo_addCut_225
        intro x1 ex
        have ex' : x1 = ((k + 1 : Nat) : Int) := by omega
        rw [ex']
        exact ih (k + 1) μ (by omega) hE e18 hk e19 e20 e21 e22 e23 (by rw [er]; exact e24) (by rw [er]; exact hrs)
      · have ehd : hdB bits code k = dC code k := if_neg (by omega)
        have bd := dC_bd code k c0 c1
        have er : rsl (σ 3 p 1) (hdB bits code) (k + 1) = rsl (σ 3 p 1) (hdB bits code) k ++ [(σ 3 p 1 k, dC code k)] := by
          simp only [rsl]
          rw [if_neg (by rw [ehd]; omega), ehd]
        refine w_Mo_figure c0 c1 ⟨by omega, by omega⟩ ⟨by omega, by omega, fun σ12 e12 => ?_⟩
        have w18 : σ12 6 0 18 0 = L.length := by rw [e12, up_ne (by omega), e10, up_ne (by omega)]; exact e18
        have w24 : σ12 6 0 24 L.length = (rsl (σ 3 p 1) (hdB bits code) k).length := by rw [e12, up_ne (by omega), e10, up_ne (by omega)]; exact e24
        rw [w18, w24]
        refine ⟨by omega, by omega, by omega, by omega, fun σ14 e14 => ?_⟩
        unfold Mo_addCut_225
        intro x1 ex
        have ex' : x1 = ((k + 1 : Nat) : Int) := by omega
        rw [ex']
        have q : ∀ (m : Nat) (i : Int), m ≠ 24 → m ≠ 25 → m ≠ 26 → σ14 6 0 m i = μ 6 0 m i := fun m i x y z => by rw [e14, up_ne (by omega), e12, up_ne (by omega), e10, up_ne (by omega)]
        have q24 : ∀ i : Int, i ≠ L.length → σ14 6 0 24 i = μ 6 0 24 i := fun i hi => by rw [e14, up_ne (by omega), e12, up_ne (by omega), e10, up_ne (by omega)]
        have q25 : ∀ i : Int, i ≠ x8 → σ14 6 0 25 i = μ 6 0 25 i ∧ σ14 6 0 26 i = μ 6 0 26 i := fun i hi => ⟨by rw [e14, up_ne (by omega), e12, up_ne (by omega), e10, up_ne (by omega)], by rw [e14, up_ne (by omega), e12, up_ne (by omega), e10, up_ne (by omega)]⟩
        have q8 : σ14 6 0 25 x8 = σ 3 p 1 k ∧ σ14 6 0 26 x8 = dC code k := ⟨by rw [e14, up_ne (by omega), e12, up_ne (by omega), e10, up_at], by rw [e14, up_ne (by omega), e12, up_at]⟩
        refine ih (k + 1) σ14 (by omega) ?_ (by rw [q 18 _ (by omega) (by omega) (by omega)]; exact e18) (fun i c' hc' => ?_) (by rw [q 19 _ (by omega) (by omega) (by omega)]; exact e19) (by rw [q 20 _ (by omega) (by omega) (by omega)]; exact e20) (by rw [q 21 _ (by omega) (by omega) (by omega)]; exact e21) (by rw [q 22 _ (by omega) (by omega) (by omega)]; exact e22) (by rw [q 23 _ (by omega) (by omega) (by omega)]; exact e23) ?_ (fun i r hr' => ?_)
        · rw [e14, e12, e10]
          exact ((hE.tr (Eo.of_up ⟨rfl, rfl, Or.inl ⟨by omega, by omega⟩⟩)).tr (Eo.of_up ⟨rfl, rfl, Or.inl ⟨by omega, by omega⟩⟩)).tr (Eo.of_up ⟨rfl, rfl, Or.inl ⟨by omega, by omega⟩⟩)
        · have hil := (List.getElem?_eq_some_iff.mp hc').1
          refine (hk i c' hc').eo (l3 c' (List.mem_of_getElem? hc')) (fun m a b => ?_) (fun i' a b => q25 i' (by omega))
          by_cases hm : m = 24
          · subst hm; exact q24 i (by omega)
          · exact q m i hm (by omega) (by omega)
        · rw [er, List.length_append, e14, up_at]
          simp
        · rw [er] at hr'
          by_cases hil : i < (rsl (σ 3 p 1) (hdB bits code) k).length
          · rw [List.getElem?_append_left hil] at hr'
            have z := q25 (3 * (L.length : Int) + i) (by omega)
            rw [z.1, z.2]
            exact hrs i r hr'
          · rw [List.getElem?_append_right (by omega)] at hr'
            have hi1 : i - (rsl (σ 3 p 1) (hdB bits code) k).length < 1 := (List.getElem?_eq_some_iff.mp hr').1
            rw [show i - (rsl (σ 3 p 1) (hdB bits code) k).length = 0 by omega] at hr'
            cases hr'
            have : (3 * (L.length : Int) + i) = x8 := by omega
            rw [this]
            exact q8
  -- the reasons are sought
  have seek : ∀ (m k : Nat) (bits : Int) (μ : Mem), (k : Int) + m = σ 3 p 0 0 → 0 ≤ bits → bits < 8 → Eo S6a σ μ → (∀ j, 0 ≤ j → j < σ 3 p 0 0 → hdB bits code j = G k j) → (∀ j : Int, k ≤ j → j < σ 3 p 0 0 → btI bits j = 1) → Mo_addCut_15 Q (m + 1) p f code bound number bits k μ := by
    intro m
    induction m with
    | zero =>
      intro k bits μ g1 b0 b1 hE hb hone
      have hEc : Eo S6c σ μ := hE.mono (fun c q k z => ⟨z.1, z.2.1, Or.inr z.2.2⟩)
      have m8 : μ 6 0 8 p = σ 3 p 0 0 := by rw [hE 6 0 8 p (by unfold S6a; omega)]; exact hM.1
      have ek : (σ 3 p 0 0).toNat = k := by omega
      have w : ∀ m : Nat, m < 35 → ∀ i, μ 6 0 m i = σ 6 0 m i := fun m hm i => hE 6 0 m i (by unfold S6a; omega)
      unfold Mo_addCut_15
      rw [m8, w 18 (by omega), l1]
      refine ⟨p0, p1, ⟨by omega, by omega⟩, ⟨by omega, by omega⟩, fun _ => ⟨by omega, by omega, hbd, fun σ4 e4 => ?_⟩, fun z => absurd z (by omega)⟩
      have v4 : σ4 6 0 18 0 = L.length := by rw [e4, up_ne (by omega), w 18 (by omega)]; exact l1
      rw [v4]
      refine ⟨by omega, by omega, fun σ5 e5 => ?_⟩
      have v5 : σ5 6 0 18 0 = L.length := by rw [e5, up_ne (by omega)]; exact v4
      rw [v5]
      refine ⟨by omega, by omega, fun σ6 e6 => ?_⟩
      have v6 : σ6 6 0 18 0 = L.length := by rw [e6, up_ne (by omega)]; exact v5
      rw [v6]
      have fin : Mo_addCut_114 Q p code bits L.length num σ6 := by
        unfold Mo_addCut_114
        refine ⟨by omega, by omega, fun s1 d1 => ?_⟩
        have u1 : s1 6 0 18 0 = L.length := by rw [d1, up_ne (by omega)]; exact v6
        have u27 : s1 6 0 27 0 = σ 6 0 27 0 := by rw [d1, up_ne (by omega), e6, up_ne (by omega), e5, up_ne (by omega), e4, up_ne (by omega)]; exact w 27 (by omega) 0
        rw [u1, u27]
        refine ⟨by omega, by omega, fun s2 d2 => ?_⟩
        have u2 : s2 6 0 18 0 = L.length := by rw [d2, up_ne (by omega)]; exact u1
        rw [u2]
        refine ⟨by omega, by omega, fun s3 d3 => ?_⟩
        have q : ∀ (m : Nat) (i : Int), ¬ (19 ≤ m ∧ m ≤ 24 ∧ i = L.length) → s3 6 0 m i = μ 6 0 m i := by
          intro m i hmi
          rw [d3, up_ne (by omega), d2, up_ne (by omega), d1, up_ne (by omega), e6, up_ne (by omega), e5, up_ne (by omega), e4, up_ne (by omega)]
        have hEs : Eo S6c σ s3 := by
          rw [d3, d2, d1, e6, e5, e4]
          exact (((((hEc.tr (Eo.of_up ⟨rfl, rfl, Or.inl ⟨by omega, by omega⟩⟩)).tr (Eo.of_up ⟨rfl, rfl, Or.inl ⟨by omega, by omega⟩⟩)).tr (Eo.of_up ⟨rfl, rfl, Or.inl ⟨by omega, by omega⟩⟩)).tr (Eo.of_up ⟨rfl, rfl, Or.inl ⟨by omega, by omega⟩⟩)).tr (Eo.of_up ⟨rfl, rfl, Or.inl ⟨by omega, by omega⟩⟩)).tr (Eo.of_up ⟨rfl, rfl, Or.inl ⟨by omega, by omega⟩⟩)
        refine ⟨_, reasons bits b0 b1 (by rw [ek]; exact hb) (σ 3 p 0 0).toNat 0 s3 (by omega) hEs ?_ (fun i c hc => ?_) ?_ ?_ ?_ ?_ ?_ ?_ (fun i r hr' => by simp [rsl] at hr')⟩
        · rw [d3, up_ne (by omega)]; exact u2
        · have hil := (List.getElem?_eq_some_iff.mp hc).1
          exact (l4 i c hc).eo (l3 c (List.mem_of_getElem? hc)) (fun m a b => by rw [q m i (by omega)]; exact w m (by omega) i) (fun i' a b => ⟨by rw [q 25 i' (by omega)]; exact w 25 (by omega) i', by rw [q 26 i' (by omega)]; exact w 26 (by omega) i'⟩)
        · rw [d3, up_ne (by omega), d2, up_ne (by omega), d1, up_ne (by omega), e6, up_ne (by omega), e5, up_ne (by omega), e4, up_at]
          rcases hbd with z | z
          · rw [z] at hNum ⊢
            rw [if_pos rfl] at hNum
            rw [if_pos hNum.symm]
          · rw [z] at hNum ⊢
            rw [if_neg (by omega)] at hNum
            have := hn z
            rw [if_neg (by omega)]
        · rw [d3, up_ne (by omega), d2, up_ne (by omega), d1, up_ne (by omega), e6, up_ne (by omega), e5, up_at]
        · rw [d3, up_ne (by omega), d2, up_ne (by omega), d1, up_ne (by omega), e6, up_at]
        · rw [d3, up_ne (by omega), d2, up_ne (by omega), d1, up_at]
        · rw [d3, up_ne (by omega), d2, up_at]
        · rw [d3, up_at]; rfl
      refine ⟨⟨by omega, by omega⟩, fun z => ?_, fun z => ?_⟩
      · rw [if_pos z] at hNum
        rw [hNum]; exact fin
      · rw [if_neg z] at hNum
        rw [hNum]; exact fin
    | succ m ih =>
      intro k bits μ g1 b0 b1 hE hb hone
      have hE6 : Eo S6 σ μ := hE.mono (fun c q k z => S6a_S6 z)
      have hDμ := Dq.s6 hE6
      have ed := fun k (_ : k < 10) i => S6_cl hE6 3 p k i (by omega)
      have e32 : μ 3 p 2 = σ 3 p 2 := funext (fun i => S6_cl hE6 3 p 2 i (by omega))
      have e30 : μ 3 p 0 0 = σ 3 p 0 0 := S6_cl hE6 3 p 0 0 (by omega)
      have eA : (fun sp => AnC μ p sp f) = (fun sp => AnC σ p sp f) := funext (fun sp => AnC_congr ed)
      have m8 : μ 6 0 8 p = σ 3 p 0 0 := by rw [hE 6 0 8 p (by unfold S6a; omega)]; exact hM.1
      have bq := btI_eq b0 b1 (by omega : (0 : Int) ≤ k) (by omega : (k : Int) < 3)
      have cl := clr_spec b0 b1 (by omega : (0 : Int) ≤ k) (by omega : (k : Int) < 3)
      have hcl : ∀ j, 0 ≤ j → j < σ 3 p 0 0 → hdB (clr bits k) code j = (fun i => if i = (k : Int) then -1 else G k i) j := by
        intro j a b
        simp only
        unfold hdB
        rw [cl.2 j a (by omega)]
        by_cases c : j = k
        · rw [if_pos c, if_pos c, if_pos rfl]
        · rw [if_neg c, if_neg c]
          exact hb j a b
      unfold Mo_addCut_15
      rw [m8]
      refine ⟨p0, p1, ⟨by omega, by omega⟩, ⟨by omega, by omega⟩, fun z => absurd z (by omega), fun _ => fun x8 e8 => ?_⟩
      rw [bq.2] at e8
      subst e8
      refine w_Mo_isTrue (h.s6 hE6) (hJ.dq hDμ) (hMD.eo hE6) p0 p1 f0 f1 c0 c1 cl.1.1 cl.1.2 hbd hn hnr (fun ht σ9 hE9 => ?_) (fun ht σ9 hE9 => ?_)
      · rw [e30, e32, eA, hNum] at ht
        have ht' := Tru.congr (A' := fun sp => AnC σ p sp f) (fun _ _ => rfl) hcl ht
        have eGk : G (k + 1) = (fun i => if i = (k : Int) then -1 else G k i) := by
          rw [← hG] at ht' ⊢
          exact if_pos ht'
        refine ⟨⟨by omega, by omega⟩, fun z => absurd z (by omega), fun _ => ?_⟩
        unfold Mo_addCut_57
        intro x1 ex
        have ex' : x1 = ((k + 1 : Nat) : Int) := by omega
        rw [ex']
        refine ih (k + 1) _ σ9 (by omega) cl.1.1 cl.1.2 (hE.tr hE9) (fun j a b => by rw [eGk]; exact hcl j a b) (fun j a b => ?_)
        rw [cl.2 j (by omega) (by omega), if_neg (by omega)]
        exact hone j (by omega) b
      · rw [e30, e32, eA, hNum] at ht
        have ht' : ¬ Tru (σ 3 p 0 0) (σ 3 p 2) (fun sp => AnC σ p sp f) num (fun i => if i = (k : Int) then -1 else G k i) := fun t => ht (Tru.congr (fun _ _ => rfl) (fun j a b => (hcl j a b).symm) t)
        have eGk : G (k + 1) = G k := by
          rw [← hG] at ht' ⊢
          exact if_neg ht'
        refine ⟨InR_0, fun _ => ?_, fun z => absurd rfl z⟩
        unfold Mo_addCut_57
        intro x1 ex
        have ex' : x1 = ((k + 1 : Nat) : Int) := by omega
        rw [ex']
        exact ih (k + 1) bits σ9 (by omega) b0 b1 (hE.tr hE9) (fun j a b => by rw [eGk]; exact hb j a b) (fun j a b => hone j (by omega) b)
  unfold Mo_addCut
  rw [hM.1]
  refine ⟨p0, p1, fun x2 e2 => ?_⟩
  have bf := bd_full
  have hx2 : (0 ≤ x2 ∧ x2 < 8) ∧ ∀ j, 0 ≤ j → j < σ 3 p 0 0 → btI x2 j = 1 := by
    rcases (by omega : σ 3 p 0 0 = 0 ∨ σ 3 p 0 0 = 1 ∨ σ 3 p 0 0 = 2 ∨ σ 3 p 0 0 = 3) with e | e | e | e
    · rw [e, bf.1] at e2
      exact ⟨by omega, fun j a b => absurd b (by omega)⟩
    · rw [e, bf.2.1] at e2
      subst e2
      refine ⟨by omega, fun j a b => ?_⟩
      have : j = 0 := by omega
      subst this
      decide
    · rw [e, bf.2.2.1] at e2
      subst e2
      refine ⟨by omega, fun j a b => ?_⟩
      rcases (by omega : j = 0 ∨ j = 1) with rfl | rfl <;> decide
    · rw [e, bf.2.2.2] at e2
      subst e2
      refine ⟨by omega, fun j a b => ?_⟩
      rcases (by omega : j = 0 ∨ j = 1 ∨ j = 2) with rfl | rfl | rfl <;> decide
  refine ⟨_, seek (σ 3 p 0 0).toNat 0 x2 σ (by omega) hx2.1.1 hx2.1.2 Eo.rf (fun j a b => ?_) (fun j a b => hx2.2 j (by omega) b)⟩
  have e1 : hdB x2 code j = dC code j := if_neg (by rw [hx2.2 j a b]; omega)
  rw [e1, ← hG]
  exact (cv_dS c0 c1 a (by omega)).symm

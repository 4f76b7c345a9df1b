theorem w_Pa_raiseFloors {σ : Mem} {p f number : Int} {Q : Mem → Prop} (hb : PB σ p) (hF : FO σ p) (hf0 : 0 ≤ f) (hf1 : f < 4) (hn : number = -4 ∨ (0 ≤ number ∧ number ≤ 600)) (hh : ∀ j, 0 ≤ j → j < σ 3 p 0 0 → -1 ≤ σ 3 p 15 j ∧ σ 3 p 15 j ≤ 3) (hQ : ∀ σ', Eo (fun c q k => c = 3 ∧ q = p ∧ k = 11) σ σ' → (∀ g sp, 0 ≤ g → g < 4 → 0 ≤ sp → sp < 64 → (g = f ∧ Vs (σ 3 p 0 0) (σ 3 p 2) sp ∧ Mh (σ 3 p 0 0) (σ 3 p 15) sp → σ' 3 p 11 (g * 64 + sp) = comb (σ 3 p 11 (g * 64 + sp)) number) ∧ (¬ (g = f ∧ Vs (σ 3 p 0 0) (σ 3 p 2) sp ∧ Mh (σ 3 p 0 0) (σ 3 p 15) sp) → σ' 3 p 11 (g * 64 + sp) = σ 3 p 11 (g * 64 + sp))) → Q σ') : Pa_raiseFloors p f number σ Q := by
  have hj := hb.1
  have hN := nsp_bd (σ 3 p 0 0)
  have key : ∀ (k : Nat) (s : Int) (μ : Mem), s + k = nsp (σ 3 p 0 0) → 0 ≤ s → Eo (fun c q k => c = 3 ∧ q = p ∧ k = 11) σ μ → (∀ g sp, 0 ≤ g → g < 4 → 0 ≤ sp → sp < 64 → (g = f ∧ sp < s ∧ Vs (σ 3 p 0 0) (σ 3 p 2) sp ∧ Mh (σ 3 p 0 0) (σ 3 p 15) sp → μ 3 p 11 (g * 64 + sp) = comb (σ 3 p 11 (g * 64 + sp)) number) ∧ (¬ (g = f ∧ sp < s ∧ Vs (σ 3 p 0 0) (σ 3 p 2) sp ∧ Mh (σ 3 p 0 0) (σ 3 p 15) sp) → μ 3 p 11 (g * 64 + sp) = σ 3 p 11 (g * 64 + sp))) → Pa_raiseFloors_12 Q (k + 1) p f number (nsp (σ 3 p 0 0)) s μ := by
    intro k
    induction k with
    | zero =>
      intro s μ h1 h2 hE ht
      unfold Pa_raiseFloors_12
      refine ⟨⟨by omega, by omega⟩, ⟨by omega, by omega⟩, fun _ => ?_, fun z => absurd z (by omega)⟩
      refine hQ μ hE (fun g sp a b c d => ⟨fun z => (ht g sp a b c d).1 ⟨z.1, ?_, z.2⟩, fun z => (ht g sp a b c d).2 (fun q => z ⟨q.1, q.2.2⟩)⟩)
      have := ((Vs_iff hj.1 hj.2 c d).mp z.2.1).1
      omega
    | succ k ih =>
      intro s μ h1 h2 hE ht
      have ed : ∀ k : Nat, k < 10 → ∀ i, μ 3 p k i = σ 3 p k i := fun k hk i => hE 3 p k i (by omega)
      have e15 : μ 3 p 15 = σ 3 p 15 := funext (fun i => hE 3 p 15 i (by omega))
      have e0 := ed 0 (by omega) 0
      have here : μ 3 p 11 (f * 64 + s) = σ 3 p 11 (f * 64 + s) := (ht f s hf0 hf1 h2 (by omega)).2 (by omega)
      have bF := hF (f * 64 + s) (by omega) (by omega)
      have next : ∀ μ' : Mem, Eo (fun c q k => c = 3 ∧ q = p ∧ k = 11) μ μ' → (∀ i, i ≠ f * 64 + s → μ' 3 p 11 i = μ 3 p 11 i) → (Vs (σ 3 p 0 0) (σ 3 p 2) s ∧ Mh (σ 3 p 0 0) (σ 3 p 15) s → μ' 3 p 11 (f * 64 + s) = comb (σ 3 p 11 (f * 64 + s)) number) → (¬ (Vs (σ 3 p 0 0) (σ 3 p 2) s ∧ Mh (σ 3 p 0 0) (σ 3 p 15) s) → μ' 3 p 11 (f * 64 + s) = σ 3 p 11 (f * 64 + s)) → Pa_raiseFloors_73 (fun z0 z1 z2 z3 z4 z5 => Pa_raiseFloors_12 Q (k + 1) z0 z1 z2 z3 z4 z5) Q p f number (nsp (σ 3 p 0 0)) s μ' := by
        intro μ' hE' hne c1 c2
        unfold Pa_raiseFloors_73
        intro x1 e1
        subst e1
        refine ih (s + 1) μ' (by omega) (by omega) (hE.tr hE') (fun g sp a b c d => ?_)
        have t := ht g sp a b c d
        by_cases q : g = f ∧ sp = s
        · obtain ⟨rfl, rfl⟩ := q
          exact ⟨fun z => c1 z.2.2, fun z => c2 (fun y => z ⟨rfl, by omega, y⟩)⟩
        · rw [hne (g * 64 + sp) (by omega)]
          exact ⟨fun z => t.1 ⟨z.1, by have := z.2.1; have := z.1; omega, z.2.2⟩, fun z => t.2 (fun y => z ⟨y.1, by omega, y.2.2⟩)⟩
      unfold Pa_raiseFloors_12
      refine ⟨⟨by omega, by omega⟩, ⟨by omega, by omega⟩, fun z => absurd z (by omega), fun _ => fun x3 e3 => ?_⟩
      subst e3
      refine w_Pa_meets (hb.eo ed) h2 (by omega) (by rw [e0, e15]; exact hh) (fun q1 q2 => ?_) (fun q => ?_)
      · rw [e0, e15] at q2
        rw [e0] at q1
        have hv : Vs (σ 3 p 0 0) (σ 3 p 2) s := (Vs_iff hj.1 hj.2 h2 (by omega)).mpr ⟨by omega, fun j a b => by rw [← ed 2 (by omega)]; exact q1 j a b⟩
        have keep : comb (σ 3 p 11 (f * 64 + s)) number = σ 3 p 11 (f * 64 + s) → Pa_raiseFloors_73 (fun z0 z1 z2 z3 z4 z5 => Pa_raiseFloors_12 Q (k + 1) z0 z1 z2 z3 z4 z5) Q p f number (nsp (σ 3 p 0 0)) s μ := fun ec => next μ Eo.rf (fun _ _ => rfl) (fun _ => by rw [ec]; exact here) (fun z => absurd ⟨hv, q2⟩ z)
        have put : comb (σ 3 p 11 (f * 64 + s)) number = number → Pa_raiseFloors_65 (fun z0 z1 z2 z3 z4 z5 => Pa_raiseFloors_12 Q (k + 1) z0 z1 z2 z3 z4 z5) Q p f number (nsp (σ 3 p 0 0)) s (f * 64 + s) μ := by
          intro ec
          unfold Pa_raiseFloors_65
          refine ⟨by omega, by omega, fun σ1 e1 => ?_⟩
          subst e1
          exact next _ (Eo.of_up ⟨rfl, rfl, rfl⟩) (fun i hi => up_ne (by omega)) (fun _ => by rw [ec]; exact up_at) (fun z => absurd ⟨hv, q2⟩ z)
        rw [here]
        refine ⟨⟨by omega, by omega⟩, fun z => absurd z (by omega), fun _ => ⟨by omega, by omega, ⟨by omega, by omega⟩, fun c => keep ?_, fun c => ⟨⟨by omega, by omega⟩, fun c2 => put ?_, fun c2 => ⟨by omega, by omega, ⟨by omega, by omega⟩, ⟨by omega, by omega⟩, fun c3 => keep ?_, fun c3 => put ?_⟩⟩⟩⟩
        · unfold comb; rw [if_pos c, c]
        · unfold comb; rw [if_neg c, if_pos c2, c2]
        · unfold comb; rw [if_neg c, if_neg c2, if_pos c3]
        · unfold comb; rw [if_neg c, if_neg c2, if_neg (by omega)]
      · refine ⟨InR_0, fun _ => next μ Eo.rf (fun _ _ => rfl) (fun z => absurd ⟨?_, ?_⟩ q) (fun _ => here), fun z => absurd rfl z⟩
        · rw [e0]
          intro j a b
          rw [ed 2 (by omega)]
          exact ((Vs_iff hj.1 hj.2 h2 (by omega)).mp z.1).2 j a b
        · rw [e0, e15]; exact z.2
  unfold Pa_raiseFloors
  intro x1 e1
  rw [nsp_eq hj.1 hj.2] at e1
  subst e1
  exact ⟨_, key (nsp (σ 3 p 0 0)).toNat 0 σ (by omega) (by omega) Eo.rf (fun g sp a b c d => ⟨fun z => absurd z.2.1 (by omega), fun _ => rfl⟩)⟩
/-! ===== cuts as a list ===== -/
/-- part, future, number, round, reasons -/
abbrev CutT : Type := Int × Int × Int × Int × List (Int × Int)
def CutC (σ : Mem) (k : Nat) (c : CutT) : Prop := σ 1 0 1 k = c.1 ∧ σ 1 0 2 k = c.2.1 ∧ σ 1 0 3 k = c.2.2.1 ∧ σ 1 0 4 k = c.2.2.2.1 ∧ σ 1 0 5 k = c.2.2.2.2.length ∧ ∀ (i : Nat) (r : Int × Int), c.2.2.2.2[i]? = some r → σ 1 0 6 (k * 3 + i) = 10 * r.1 + r.2
def RepC (σ : Mem) (L : List CutT) : Prop := σ 1 0 0 0 = L.length ∧ L.length ≤ 200 ∧ (∀ c ∈ L, c.2.2.2.2.length ≤ 3) ∧ ∀ (k : Nat) (c : CutT), L[k]? = some c → CutC σ k c
/-- reasons out of what is held -/
def rsl (J hd : Int → Int) : Nat → List (Int × Int)
  | 0 => []
  | k + 1 => if hd (k : Int) = -1 then rsl J hd k else rsl J hd k ++ [(J (k : Int), hd (k : Int))]
theorem rsl_len {J hd : Int → Int} : ∀ k : Nat, (rsl J hd k).length ≤ k
  | 0 => Nat.le_refl 0
  | k + 1 => by
    have ih := rsl_len (J := J) (hd := hd) k
    simp only [rsl]
    split
    · omega
    · rw [List.length_append]
      simp
      omega
theorem rsl_congr {J J' hd hd' : Int → Int} : ∀ {k : Nat}, (∀ j : Int, 0 ≤ j → j < k → J j = J' j ∧ hd j = hd' j) → rsl J hd k = rsl J' hd' k
  | 0, _ => rfl
  | k + 1, h => by
    have a := h k (by omega) (by omega)
    simp only [rsl]
    rw [rsl_congr (k := k) (fun j j0 j1 => h j j0 (by omega)), a.1, a.2]
def S1 : Nat → Int → Nat → Prop := fun c q _ => c = 1 ∧ q = 0
theorem CutC.eo {σ σ' : Mem} {k : Nat} {c : CutT} (h : CutC σ k c) (hl : c.2.2.2.2.length ≤ 3) (h1 : ∀ m : Nat, 1 ≤ m → m ≤ 5 → σ' 1 0 m k = σ 1 0 m k) (h6 : ∀ i : Int, (k : Int) * 3 ≤ i → i < (k : Int) * 3 + 3 → σ' 1 0 6 i = σ 1 0 6 i) : CutC σ' k c := by
  obtain ⟨a1, a2, a3, a4, a5, a6⟩ := h
  refine ⟨by rw [h1 1 (by omega) (by omega)]; exact a1, by rw [h1 2 (by omega) (by omega)]; exact a2, by rw [h1 3 (by omega) (by omega)]; exact a3, by rw [h1 4 (by omega) (by omega)]; exact a4, by rw [h1 5 (by omega) (by omega)]; exact a5, fun i r hr => ?_⟩
  have := (List.getElem?_eq_some_iff.mp hr).1
  rw [h6 _ (by omega) (by omega)]
  exact a6 i r hr
set_option maxHeartbeats 1000000 in
theorem w_Cu_add {σ : Mem} {p f number round : Int} {L : List CutT} {Q : Mem → Prop} (hb : PB σ p) (hL : RepC σ L) (hlt : L.length < 200) (hh : ∀ j, 0 ≤ j → j < σ 3 p 0 0 → -1 ≤ σ 3 p 15 j ∧ σ 3 p 15 j ≤ 3) (hQ : ∀ σ', Eo S1 σ σ' → RepC σ' (L ++ [(p, f, number, round, rsl (σ 3 p 1) (σ 3 p 15) (σ 3 p 0 0).toNat)]) → Q σ') : Cu_add p f number round p σ Q := by
  have hj := hb.1
  obtain ⟨l1, l2, l3, l4⟩ := hL
  have key : ∀ (m : Nat) (j : Nat) (sz : Int) (μ : Mem), (j : Int) + m = σ 3 p 0 0 → Eo S1 σ μ → μ 1 0 0 0 = L.length → (∀ (k : Nat) (c : CutT), L[k]? = some c → CutC μ k c) → μ 1 0 1 L.length = p → μ 1 0 2 L.length = f → μ 1 0 3 L.length = number → μ 1 0 4 L.length = round → sz = (rsl (σ 3 p 1) (σ 3 p 15) j).length → (∀ (i : Nat) (r : Int × Int), (rsl (σ 3 p 1) (σ 3 p 15) j)[i]? = some r → μ 1 0 6 ((L.length : Int) * 3 + i) = 10 * r.1 + r.2) → Cu_add_47 Q (m + 1) p sz j μ := by
    intro m
    induction m with
    | zero =>
      intro j sz μ h1 hE e0 hk e1 e2 e3 e4 es hr
      have ej : μ 3 p 0 0 = σ 3 p 0 0 := hE 3 p 0 0 (by unfold S1; omega)
      have ejj : (σ 3 p 0 0).toNat = j := by omega
      unfold Cu_add_47
      rw [ej, e0]
      refine ⟨⟨by omega, by omega⟩, ⟨by omega, by omega⟩, fun _ => ⟨by omega, by omega, fun σ3 es3 σ4 es4 => ?_⟩, fun z => absurd z (by omega)⟩
      have e30 : σ3 1 0 0 0 = L.length := by rw [es3, up_ne (by omega)]; exact e0
      rw [e30] at es4
      have q : ∀ (m : Nat) (i : Int), m ≠ 0 → ¬ (m = 5 ∧ i = L.length) → σ4 1 0 m i = μ 1 0 m i := by
        intro m i hm hmi
        rw [es4, up_ne (by omega), es3, up_ne (by omega)]
      refine hQ σ4 (by rw [es4, es3]; exact (hE.tr (Eo.of_up ⟨rfl, rfl⟩)).tr (Eo.of_up ⟨rfl, rfl⟩)) ⟨?_, ?_, ?_, ?_⟩
      · rw [es4, up_at, List.length_append]
        simp
      · rw [List.length_append]
        simp
        omega
      · intro c hc
        rcases List.mem_append.mp hc with hc | hc
        · exact l3 c hc
        · rw [List.mem_singleton.mp hc]
          have := rsl_len (J := σ 3 p 1) (hd := σ 3 p 15) (σ 3 p 0 0).toNat
          show (rsl _ _ _).length ≤ 3
          omega
      · intro k c hc
        by_cases hkl : k < L.length
        · rw [List.getElem?_append_left hkl] at hc
          exact (hk k c hc).eo (l3 c (List.mem_of_getElem? hc)) (fun m a b => q m k (by omega) (by omega)) (fun i a b => q 6 i (by omega) (by omega))
        · rw [List.getElem?_append_right (by omega)] at hc
          have hk1 : k - L.length < 1 := (List.getElem?_eq_some_iff.mp hc).1
          have ek : k = L.length := by omega
          subst ek
          rw [Nat.sub_self] at hc
          cases hc
          refine ⟨by rw [q 1 _ (by omega) (by omega)]; exact e1, by rw [q 2 _ (by omega) (by omega)]; exact e2, by rw [q 3 _ (by omega) (by omega)]; exact e3, by rw [q 4 _ (by omega) (by omega)]; exact e4, ?_, fun i r hri => ?_⟩
          · rw [es4, up_ne (by omega), es3, up_at, es, ejj]
          · rw [q 6 _ (by omega) (by omega)]
            rw [ejj] at hri
            exact hr i r hri
    | succ m ih =>
      intro j sz μ h1 hE e0 hk e1 e2 e3 e4 es hr
      have ej : μ 3 p 0 0 = σ 3 p 0 0 := hE 3 p 0 0 (by unfold S1; omega)
      have e15 : μ 3 p 15 j = σ 3 p 15 j := hE 3 p 15 j (by unfold S1; omega)
      have e31 : μ 3 p 1 j = σ 3 p 1 j := hE 3 p 1 j (by unfold S1; omega)
      have bh := hh j (by omega) (by omega)
      have bl := rsl_len (J := σ 3 p 1) (hd := σ 3 p 15) j
      unfold Cu_add_47
      rw [ej, e0, e15, e31]
      refine ⟨⟨by omega, by omega⟩, ⟨by omega, by omega⟩, fun z => absurd z (by omega), fun _ => ⟨by omega, by omega, ⟨by omega, by omega⟩, fun c => ?_, fun c => ⟨by omega, by omega, by omega, by omega, by omega, by omega, fun σ10 e10 x11 e11 => ?_⟩⟩⟩
      · unfold Cu_add_106
        intro x1 ex
        have ex' : x1 = ((j + 1 : Nat) : Int) := by omega
        rw [ex']
        have er : rsl (σ 3 p 1) (σ 3 p 15) (j + 1) = rsl (σ 3 p 1) (σ 3 p 15) j := by
          simp only [rsl]
          rw [if_pos c]
        exact ih (j + 1) sz μ (by omega) hE e0 hk e1 e2 e3 e4 (by rw [er]; exact es) (by rw [er]; exact hr)
      · unfold Cu_add_106
        intro x1 ex
        have ex' : x1 = ((j + 1 : Nat) : Int) := by omega
        rw [ex']
        have er : rsl (σ 3 p 1) (σ 3 p 15) (j + 1) = rsl (σ 3 p 1) (σ 3 p 15) j ++ [(σ 3 p 1 j, σ 3 p 15 j)] := by
          simp only [rsl]
          rw [if_neg c]
        subst e10
        refine ih (j + 1) x11 _ (by omega) (hE.tr (Eo.of_up ⟨rfl, rfl⟩)) (by rw [up_ne (by omega)]; exact e0) (fun k c hc => (hk k c hc).eo (l3 c (List.mem_of_getElem? hc)) (fun m a b => up_ne (by omega)) (fun i a b => up_ne ?_)) (by rw [up_ne (by omega)]; exact e1) (by rw [up_ne (by omega)]; exact e2) (by rw [up_ne (by omega)]; exact e3) (by rw [up_ne (by omega)]; exact e4) ?_ (fun i r hri => ?_)
        · have := (List.getElem?_eq_some_iff.mp hc).1
          omega
        · rw [er, List.length_append, e11, es]
          simp
        · rw [er] at hri
          by_cases hil : i < (rsl (σ 3 p 1) (σ 3 p 15) j).length
          · rw [List.getElem?_append_left hil] at hri
            rw [up_ne (by omega)]
            exact hr i r hri
          · rw [List.getElem?_append_right (by omega)] at hri
            have hi1 : i - (rsl (σ 3 p 1) (σ 3 p 15) j).length < 1 := (List.getElem?_eq_some_iff.mp hri).1
            have ei : i = (rsl (σ 3 p 1) (σ 3 p 15) j).length := by omega
            rw [show i - (rsl (σ 3 p 1) (σ 3 p 15) j).length = 0 by omega] at hri
            cases hri
            have : ((L.length : Int) * 3 + i) = (L.length : Int) * 3 + sz := by omega
            rw [this, up_at]
  unfold Cu_add
  rw [l1]
  refine ⟨by omega, by omega, fun σ1 es1 => ?_⟩
  have a1 : σ1 1 0 0 0 = L.length := by rw [es1, up_ne (by omega)]; exact l1
  rw [a1]
  refine ⟨by omega, by omega, fun σ2 es2 => ?_⟩
  have a2 : σ2 1 0 0 0 = L.length := by rw [es2, up_ne (by omega)]; exact a1
  rw [a2]
  refine ⟨by omega, by omega, fun σ3 es3 => ?_⟩
  have a3 : σ3 1 0 0 0 = L.length := by rw [es3, up_ne (by omega)]; exact a2
  rw [a3]
  refine ⟨by omega, by omega, fun σ4 es4 => ?_⟩
  have a4 : σ4 1 0 0 0 = L.length := by rw [es4, up_ne (by omega)]; exact a3
  have hE : Eo S1 σ σ4 := by
    rw [es4, es3, es2, es1]
    exact (((Eo.of_up ⟨rfl, rfl⟩).tr (Eo.of_up ⟨rfl, rfl⟩)).tr (Eo.of_up ⟨rfl, rfl⟩)).tr (Eo.of_up ⟨rfl, rfl⟩)
  have q : ∀ (m : Nat) (i : Int), ¬ (1 ≤ m ∧ m ≤ 4 ∧ i = L.length) → σ4 1 0 m i = σ 1 0 m i := by
    intro m i hmi
    rw [es4, up_ne (by omega), es3, up_ne (by omega), es2, up_ne (by omega), es1, up_ne (by omega)]
  refine ⟨_, key (σ 3 p 0 0).toNat 0 0 σ4 (by omega) hE a4 (fun k c hc => (l4 k c hc).eo (l3 c (List.mem_of_getElem? hc)) (fun m a b => q m k ?_) (fun i a b => q 6 i (by omega))) ?_ ?_ ?_ ?_ rfl (fun i r hri => by simp [rsl] at hri)⟩
  · have := (List.getElem?_eq_some_iff.mp hc).1
    omega
  · rw [es4, up_ne (by omega), es3, up_ne (by omega), es2, up_ne (by omega), es1, up_at]
  · rw [es4, up_ne (by omega), es3, up_ne (by omega), es2, up_at]
  · rw [es4, up_ne (by omega), es3, up_at]
  · rw [es4, up_at]

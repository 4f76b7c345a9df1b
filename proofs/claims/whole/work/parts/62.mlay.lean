/-! ===== the reference: laying the cuts ===== -/
theorem CutM.eo {σ σ' : Mem} {k : Nat} {c : CutT} (h : CutM σ k c) (hl : c.2.2.2.2.length ≤ 3) (h1 : ∀ m : Nat, 19 ≤ m → m ≤ 24 → σ' 6 0 m k = σ 6 0 m k) (h6 : ∀ i : Int, 3 * (k : Int) ≤ i → i < 3 * (k : Int) + 3 → σ' 6 0 25 i = σ 6 0 25 i ∧ σ' 6 0 26 i = σ 6 0 26 i) : CutM σ' k c := by
  obtain ⟨a1, a2, a3, a4, a5, a6, a7⟩ := h
  refine ⟨by rw [h1 19 (by omega) (by omega)]; exact a1, by rw [h1 20 (by omega) (by omega)]; exact a2, by rw [h1 21 (by omega) (by omega)]; exact a3, by rw [h1 22 (by omega) (by omega)]; exact a4, by rw [h1 23 (by omega) (by omega)]; exact a5, by rw [h1 24 (by omega) (by omega)]; exact a6, fun i r hr => ?_⟩
  have := (List.getElem?_eq_some_iff.mp hr).1
  have q := h6 (3 * k + i) (by omega) (by omega)
  rw [q.1, q.2]
  exact a7 i r hr
theorem RepM.eo {σ σ' : Mem} {L : List CutT} (h : RepM σ L) (he : ∀ k : Nat, 18 ≤ k → k ≤ 26 → ∀ i, σ' 6 0 k i = σ 6 0 k i) : RepM σ' L := by
  obtain ⟨l1, l2, l3, l4⟩ := h
  exact ⟨by rw [he 18 (by omega) (by omega)]; exact l1, l2, l3, fun k c hc => (l4 k c hc).eo (l3 c (List.mem_of_getElem? hc)) (fun m a b => he m (by omega) (by omega) _) (fun i _ _ => ⟨he 25 (by omega) (by omega) i, he 26 (by omega) (by omega) i⟩)⟩
theorem okC.dq {σ μ : Mem} {c : CutT} (h : okC σ c) (hD : Dq σ μ) : okC μ c := by
  obtain ⟨h1, h2, h3, h4, h5, h6⟩ := h
  refine ⟨by rw [hD.2.2.1]; exact h1, by rw [hD.2.1]; exact h2, h3, h4, h5, fun r hr => ?_⟩
  obtain ⟨a, j, b, c', d⟩ := h6 r hr
  exact ⟨a, j, b, by rw [hD.2.2.2 _ 0 (by omega)]; exact c', by rw [hD.2.2.2 _ 1 (by omega)]; exact d⟩
def S6l : Nat → Int → Nat → Prop := fun c q k => c = 6 ∧ q = 0 ∧ 38 ≤ k ∧ k ≤ 39
theorem S6l_S6 {c : Nat} {q : Int} {k : Nat} (h : S6l c q k) : S6 c q k := ⟨h.1, h.2.1, by have := h.2.2; omega⟩
/-- what the reference has laid for a part, a future and a code: a bar, or the greatest number -/
def Laid (σ : Mem) (M : List CutT) (p f code : Int) (B G : Int) : Prop := (B = 0 ∨ B = 1) ∧ (0 ≤ G ∧ G ≤ 600) ∧ (Vs (σ 3 p 0 0) (σ 3 p 2) (cv code) → (B = 1 ↔ FM (σ 3 p 0 0) (σ 3 p 1) M p f (cv code) = -4) ∧ (FM (σ 3 p 0 0) (σ 3 p 1) M p f (cv code) ≠ -4 → G = FM (σ 3 p 0 0) (σ 3 p 1) M p f (cv code)))
theorem Laid.skip {σ : Mem} {M : List CutT} {c : CutT} {p f code B G : Int} (h : Laid σ M p f code B G) (hn : Vs (σ 3 p 0 0) (σ 3 p 2) (cv code) → ¬ (c.1 = p ∧ c.2.1 = f ∧ Mr (σ 3 p 0 0) (σ 3 p 1) c.2.2.2.2 (cv code))) : Laid σ (M ++ [c]) p f code B G := by
  refine ⟨h.1, h.2.1, fun v => ?_⟩
  rw [FM_snoc, FMs_n (hn v)]
  exact h.2.2 v
set_option maxHeartbeats 1000000 in
theorem w_Mo_layCuts {σ : Mem} {L : List CutT} {Q : Mem → Prop} (h : CW σ) (hJ : JS σ) (hMD : MD σ) (hL : RepM σ L) (hok : ∀ c ∈ L, okC σ c) (hQ : ∀ σ', Eo S6l σ σ' → (∀ p f code, 0 ≤ p → p < 4 → 0 ≤ f → f < 4 → 0 ≤ code → code < 64 → Laid σ L p f code (σ' 6 0 38 (64 * (4 * p + f) + code)) (σ' 6 0 39 (64 * (4 * p + f) + code))) → Q σ') : Mo_layCuts σ Q := by
  have hP := h.2.2.1
  have hFu := h.2.1.1
  have hl2 := hL.2.1
  -- one cut over all codes
  have one : ∀ (k : Nat) (c : CutT), L[k]? = some c → ∀ (K : Int → Mem → Prop), (∀ x3 μ', x3 = ((k + 1 : Nat) : Int) → Eo S6l σ μ' → (∀ p f code, 0 ≤ p → p < 4 → 0 ≤ f → f < 4 → 0 ≤ code → code < 64 → Laid σ (L.take (k + 1)) p f code (μ' 6 0 38 (64 * (4 * p + f) + code)) (μ' 6 0 39 (64 * (4 * p + f) + code))) → K x3 μ') → ∀ (m : Nat) (code : Int) (μ : Mem), code + m = 64 → 0 ≤ code → Eo S6l σ μ → (∀ p f cd, 0 ≤ p → p < 4 → 0 ≤ f → f < 4 → 0 ≤ cd → cd < 64 → (if cd < code then Laid σ (L.take (k + 1)) p f cd (μ 6 0 38 (64 * (4 * p + f) + cd)) (μ 6 0 39 (64 * (4 * p + f) + cd)) else Laid σ (L.take k) p f cd (μ 6 0 38 (64 * (4 * p + f) + cd)) (μ 6 0 39 (64 * (4 * p + f) + cd)))) → Mo_layCuts_41 K Q (m + 1) k code μ := by
    intro k c hck K hK m
    have hkl : k < L.length := (List.getElem?_eq_some_iff.mp hck).1
    have et := take_succ' hck
    have okc := hok c (List.mem_of_getElem? hck)
    obtain ⟨o1, o2, o3, o4, o5, o6⟩ := id okc
    induction m with
    | zero =>
      intro code μ g1 g2 hE hh
      unfold Mo_layCuts_41
      refine ⟨⟨by omega, by omega⟩, fun _ x3 e3 => ?_, fun z => absurd z (by omega)⟩
      refine hK x3 μ (by omega) hE (fun p f cd a b a' b' a'' b'' => ?_)
      have := hh p f cd a b a' b' a'' b''
      rw [if_pos (by omega)] at this
      exact this
    | succ m ih =>
      intro code μ g1 g2 hE hh
      have hE6 : Eo S6 σ μ := hE.mono (fun c q k z => S6l_S6 z)
      have hCμ := h.s6 hE6
      have hDμ := Dq.s6 hE6
      have hRμ : RepM μ L := hL.eo (fun k a b i => hE 6 0 k i (by unfold S6l; omega))
      have cm := hRμ.2.2.2 k c hck
      have e3 : ∀ q k i, μ 3 q k i = σ 3 q k i := fun q k i => S6_cl hE6 3 q k i (by omega)
      have e31 : ∀ q, μ 3 q 1 = σ 3 q 1 := fun q => funext (e3 q 1)
      have e32 : ∀ q, μ 3 q 2 = σ 3 q 2 := fun q => funext (e3 q 2)
      -- to the next code
      have next : ∀ μ' : Mem, Eo S6l σ μ' → (∀ i, i ≠ 64 * (4 * c.1 + c.2.1) + code → μ' 6 0 38 i = μ 6 0 38 i ∧ μ' 6 0 39 i = μ 6 0 39 i) → Laid σ (L.take k ++ [c]) c.1 c.2.1 code (μ' 6 0 38 (64 * (4 * c.1 + c.2.1) + code)) (μ' 6 0 39 (64 * (4 * c.1 + c.2.1) + code)) → Mo_layCuts_143 (fun z0 z1 z2 => Mo_layCuts_41 K Q (m + 1) z0 z1 z2) Q k code μ' := by
        intro μ' hE' hne hla
        unfold Mo_layCuts_143
        intro x1 e1
        refine ih x1 μ' (by omega) (by omega) hE' (fun p f cd a b a' b' a'' b'' => ?_)
        have hx := hh p f cd a b a' b' a'' b''
        by_cases e : p = c.1 ∧ f = c.2.1 ∧ cd = code
        · obtain ⟨e1', e2', e3'⟩ := e
          rw [if_pos (by omega), et, e1', e2', e3']
          exact hla
        · have q := hne (64 * (4 * p + f) + cd) (by omega)
          rw [q.1, q.2]
          by_cases ecd : cd = code
          · rw [if_pos (by omega), et]
            rw [if_neg (by omega)] at hx
            exact hx.skip (fun _ z => e ⟨z.1.symm, z.2.1.symm, ecd⟩)
          · by_cases c2 : cd < code
            · rw [if_pos (by omega)]
              rw [if_pos c2] at hx
              exact hx
            · rw [if_neg (by omega)]
              rw [if_neg c2] at hx
              exact hx
      have here := hh c.1 c.2.1 code o1.1 (by omega) o2.1 (by omega) g2 (by omega)
      rw [if_neg (by omega)] at here
      obtain ⟨hB, hG, hV⟩ := id here
      have skip : (Vs (σ 3 c.1 0 0) (σ 3 c.1 2) (cv code) → ¬ Mr (σ 3 c.1 0 0) (σ 3 c.1 1) c.2.2.2.2 (cv code)) → Mo_layCuts_143 (fun z0 z1 z2 => Mo_layCuts_41 K Q (m + 1) z0 z1 z2) Q k code μ := fun hn => next μ hE (fun _ _ => ⟨rfl, rfl⟩) (here.skip (fun v z => hn v z.2.2))
      unfold Mo_layCuts_41
      rw [cm.2.1]
      refine ⟨⟨by omega, by omega⟩, fun z => absurd z (by omega), fun _ => ⟨by omega, by omega, ?_⟩⟩
      refine w_Mo_isCode hCμ (hJ.dq hDμ) (hMD.eo hE6) o1.1 (by omega) g2 (by omega) (fun v => ?_) (fun v => ?_)
      · rw [e3, e32] at v
        refine ⟨⟨by omega, by omega⟩, fun z => absurd z (by omega), fun _ => ⟨by omega, by omega, ?_⟩⟩
        rw [cm.2.1]
        refine w_Mo_meets hCμ (hMD.eo hE6) (by omega) cm (okc.dq hDμ) rfl o1.1 (by omega) g2 (by omega) (fun hm => ?_) (fun hm => ?_)
        · rw [e3, e31] at hm
          refine ⟨⟨by omega, by omega⟩, fun z => absurd z (by omega), fun _ => ⟨by omega, by omega, by omega, by omega, fun x12 e12 => ⟨by omega, by omega, ?_⟩⟩⟩
          rw [cm.2.1, cm.2.2.1] at e12
          subst e12
          rw [cm.1, cm.2.2.2.1]
          have eFM : FM (σ 3 c.1 0 0) (σ 3 c.1 1) (L.take k ++ [c]) c.1 c.2.1 (cv code) = comb (FM (σ 3 c.1 0 0) (σ 3 c.1 1) (L.take k) c.1 c.2.1 (cv code)) c.2.2.1 := by rw [FM_snoc, FMs_y ⟨rfl, rfl, hm⟩]
          have hVx := hV v
          generalize FM (σ 3 c.1 0 0) (σ 3 c.1 1) (L.take k) c.1 c.2.1 (cv code) = a at eFM hVx
          by_cases hn4 : c.2.2.1 = -4
          · rw [if_pos hn4]
            refine ⟨InR_0, fun z => absurd rfl z, fun _ => ⟨by omega, by omega, fun σ21 e21 => ?_⟩⟩
            subst e21
            refine next _ (hE.tr (Eo.of_up ⟨rfl, rfl, by omega, by omega⟩)) (fun i hi => ⟨up_ne (by omega), up_ne (by omega)⟩) ?_
            rw [up_at, up_ne (by omega)]
            refine ⟨Or.inr rfl, hG, fun _ => ?_⟩
            rw [eFM]
            have : comb a c.2.2.1 = -4 := by
              unfold comb
              rw [if_pos hn4]
              split <;> rfl
            rw [this]
            exact ⟨⟨fun _ => rfl, fun _ => rfl⟩, fun z => absurd rfl z⟩
          · rw [if_neg hn4]
            have hb := hG
            refine ⟨⟨by omega, by omega⟩, fun _ => ⟨by omega, by omega, by omega, by omega, ⟨by omega, by omega⟩, ⟨by omega, by omega⟩, fun z => ?_, fun z => ⟨by omega, by omega, by omega, by omega, fun σ20 e20 => ?_⟩⟩, fun z => absurd z (by omega)⟩
            · refine next μ hE (fun _ _ => ⟨rfl, rfl⟩) ⟨hB, hG, fun _ => ?_⟩
              rw [eFM]
              unfold comb
              by_cases ha : a = -4
              · rw [if_pos ha]
                exact ⟨⟨fun _ => rfl, fun _ => hVx.1.mpr ha⟩, fun y => absurd rfl y⟩
              · have := hVx.2 ha
                rw [if_neg ha, if_neg hn4, if_pos (by omega)]
                exact hVx
            · subst e20
              refine next _ (hE.tr (Eo.of_up ⟨rfl, rfl, by omega, by omega⟩)) (fun i hi => ⟨up_ne (by omega), up_ne (by omega)⟩) ?_
              rw [up_ne (by omega), up_at]
              refine ⟨hB, by omega, fun _ => ?_⟩
              rw [eFM]
              unfold comb
              by_cases ha : a = -4
              · rw [if_pos ha]
                exact ⟨⟨fun _ => rfl, fun _ => hVx.1.mpr ha⟩, fun y => absurd rfl y⟩
              · have q := hVx.2 ha
                rw [if_neg ha, if_neg hn4, if_neg (by omega)]
                refine ⟨⟨fun y => absurd (hVx.1.mp y) ha, fun y => absurd y hn4⟩, fun _ => rfl⟩
        · rw [e3, e31] at hm
          refine ⟨InR_0, fun _ => skip (fun _ => hm), fun z => absurd rfl z⟩
      · rw [e3, e32] at v
        refine ⟨InR_0, fun _ => skip (fun v' => absurd v' v), fun z => absurd rfl z⟩
  have cuts : ∀ (m k : Nat) (μ : Mem), k + m = L.length → Eo S6l σ μ → (∀ p f code, 0 ≤ p → p < 4 → 0 ≤ f → f < 4 → 0 ≤ code → code < 64 → Laid σ (L.take k) p f code (μ 6 0 38 (64 * (4 * p + f) + code)) (μ 6 0 39 (64 * (4 * p + f) + code))) → Mo_layCuts_31 Q (m + 1) k μ := by
    intro m
    induction m with
    | zero =>
      intro k μ g1 hE hh
      have e18 : μ 6 0 18 0 = L.length := by rw [hE 6 0 18 0 (by unfold S6l; omega)]; exact hL.1
      unfold Mo_layCuts_31
      rw [e18]
      refine ⟨⟨by omega, by omega⟩, ⟨by omega, by omega⟩, fun _ => hQ μ hE ?_, fun z => absurd z (by omega)⟩
      rw [List.take_of_length_le (by omega)] at hh
      exact hh
    | succ m ih =>
      intro k μ g1 hE hh
      have e18 : μ 6 0 18 0 = L.length := by rw [hE 6 0 18 0 (by unfold S6l; omega)]; exact hL.1
      have hkl : k < L.length := by omega
      obtain ⟨c, hc⟩ : ∃ c, L[k]? = some c := ⟨L[k], List.getElem?_eq_getElem hkl⟩
      unfold Mo_layCuts_31
      rw [e18]
      refine ⟨⟨by omega, by omega⟩, ⟨by omega, by omega⟩, fun z => absurd z (by omega), fun _ => ⟨_, one k c hc _ (fun x3 μ' e3 hE' hh' => ?_) 64 0 μ (by omega) (by omega) hE (fun p f cd a b a' b' a'' b'' => ?_)⟩⟩
      · rw [e3]
        exact ih (k + 1) μ' (by omega) hE' hh'
      · rw [if_neg (by omega)]
        exact hh p f cd a b a' b' a'' b''
  have zero : ∀ (m : Nat) (i : Int) (μ : Mem), i + m = 1024 → 0 ≤ i → Eo S6l σ μ → (∀ j, 0 ≤ j → j < i → μ 6 0 38 j = 0 ∧ μ 6 0 39 j = 0) → Mo_layCuts_2 Q (m + 1) i μ := by
    intro m
    induction m with
    | zero =>
      intro i μ g1 g2 hE hz
      unfold Mo_layCuts_2
      refine ⟨⟨by omega, by omega⟩, fun _ => ⟨_, cuts L.length 0 μ (by omega) hE (fun p f code a b a' b' a'' b'' => ?_)⟩, fun z => absurd z (by omega)⟩
      have q := hz (64 * (4 * p + f) + code) (by omega) (by omega)
      rw [q.1, q.2]
      refine ⟨Or.inl rfl, by omega, fun _ => ?_⟩
      rw [List.take_zero, FM_nil]
      exact ⟨⟨fun z => absurd z (by omega), fun z => absurd z (by omega)⟩, fun _ => rfl⟩
    | succ m ih =>
      intro i μ g1 g2 hE hz
      unfold Mo_layCuts_2
      refine ⟨⟨by omega, by omega⟩, fun z => absurd z (by omega), fun _ => ⟨by omega, by omega, fun σ3 e3 => ⟨by omega, by omega, fun σ4 e4 x5 e5 => ?_⟩⟩⟩
      subst e3
      subst e4
      refine ih x5 _ (by omega) (by omega) ((hE.tr (Eo.of_up ⟨rfl, rfl, by omega, by omega⟩)).tr (Eo.of_up ⟨rfl, rfl, by omega, by omega⟩)) (fun j a b => ?_)
      by_cases c : j = i
      · subst c
        exact ⟨by rw [up_ne (by omega), up_at], up_at⟩
      · rw [up_ne (by omega), up_ne (by omega), up_ne (by omega), up_ne (by omega)]
        exact hz j a (by omega)
  exact ⟨_, zero 1024 0 σ (by omega) (by omega) Eo.rf (fun j a b => absurd b (by omega))⟩

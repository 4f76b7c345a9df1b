/-! ===== the reference: codes ===== -/
def MD (σ : Mem) : Prop := σ 6 0 0 0 = σ 0 0 0 0 ∧ (∀ c, 0 ≤ c → c < σ 0 0 0 0 → σ 6 0 1 c = σ 0 0 1 c) ∧ (∀ i, 0 ≤ i → i < 24 → (σ 0 0 2 i = -4 → σ 6 0 3 i = 1) ∧ (σ 0 0 2 i ≠ -4 → σ 6 0 3 i = 0 ∧ σ 6 0 2 i = σ 0 0 2 i)) ∧ (∀ c, 0 ≤ c → c < 6 → σ 6 0 4 c = σ 0 0 3 c) ∧ (σ 6 0 5 0 = σ 2 0 0 0 ∧ ∀ f, 0 ≤ f → f < σ 2 0 0 0 → σ 6 0 6 f = σ 2 0 1 f) ∧ σ 6 0 7 0 = σ 5 0 3 0 ∧ ∀ p, 0 ≤ p → p < 4 → MPa σ p
/-- what the reference may change when it is asked or runs -/
def S6 : Nat → Int → Nat → Prop := fun c q k => c = 6 ∧ q = 0 ∧ 18 ≤ k
theorem S6a_S6 {c : Nat} {q : Int} {k : Nat} (h : S6a c q k) : S6 c q k := ⟨h.1, h.2.1, by have := h.2.2; omega⟩
/-- the class's memory stays -/
theorem S6_cl {σ μ : Mem} (hE : Eo S6 σ μ) : ∀ c q k i, c ≠ 6 → μ c q k i = σ c q k i := fun c q k i h => hE c q k i (fun z => h z.1)
theorem MPa.eo {σ μ : Mem} {p : Int} (h : MPa σ p) (hE : Eo S6 σ μ) : MPa μ p := by
  have e3 : ∀ q k i, μ 3 q k i = σ 3 q k i := fun q k i => S6_cl hE 3 q k i (by omega)
  have e6 : ∀ k : Nat, k < 18 → ∀ i, μ 6 0 k i = σ 6 0 k i := fun k hk i => hE 6 0 k i (by unfold S6; omega)
  unfold MPa at *
  simp only [e3, e6 8 (by omega), e6 9 (by omega), e6 10 (by omega), e6 11 (by omega), e6 12 (by omega), e6 13 (by omega), e6 14 (by omega), e6 15 (by omega), e6 16 (by omega), e6 17 (by omega)]
  exact h
theorem MD.eo {σ μ : Mem} (h : MD σ) (hE : Eo S6 σ μ) : MD μ := by
  have e0 : ∀ k i, μ 0 0 k i = σ 0 0 k i := fun k i => S6_cl hE 0 0 k i (by omega)
  have e2 : ∀ k i, μ 2 0 k i = σ 2 0 k i := fun k i => S6_cl hE 2 0 k i (by omega)
  have e5 : ∀ k i, μ 5 0 k i = σ 5 0 k i := fun k i => S6_cl hE 5 0 k i (by omega)
  have e6 : ∀ k : Nat, k < 18 → ∀ i, μ 6 0 k i = σ 6 0 k i := fun k hk i => hE 6 0 k i (by unfold S6; omega)
  obtain ⟨h1, h2, h3, h4, h5, h6, h7⟩ := h
  refine ⟨?_, ?_, ?_, ?_, ?_, ?_, fun p a b => (h7 p a b).eo hE⟩
  · rw [e6 0 (by omega), e0]; exact h1
  · simp only [e6 1 (by omega), e0]; exact h2
  · simp only [e6 2 (by omega), e6 3 (by omega), e0]; exact h3
  · simp only [e6 4 (by omega), e0]; exact h4
  · simp only [e6 5 (by omega), e6 6 (by omega), e2]; exact h5
  · rw [e6 7 (by omega), e5]; exact h6
theorem CW.s6 {σ μ : Mem} (h : CW σ) (hE : Eo S6 σ μ) : CW μ := by
  have e : ∀ c q k i, c ≠ 6 → μ c q k i = σ c q k i := S6_cl hE
  obtain ⟨h1, h2, h3, h4⟩ := h
  refine ⟨?_, ?_, ?_, fun p a b => ?_⟩
  · unfold ChB at *
    simp only [e 0 0 _ _ (by omega)]
    exact h1
  · unfold FuB at *
    simp only [e 2 0 _ _ (by omega)]
    exact h2
  · rw [e 5 0 _ _ (by omega)]; exact h3
  · obtain ⟨a1, a2, a3, a4⟩ := h4 p a b
    refine ⟨a1.eo (fun k _ i => e 3 p k i (by omega)), a2.eo (fun k _ i => e 3 p k i (by omega)), a3.eo (fun i => e 3 p 11 i (by omega)), ?_⟩
    unfold JB at *
    simp only [e 3 p _ _ (by omega), e 0 0 _ _ (by omega)]
    exact a4
theorem Dq.s6 {σ μ : Mem} (hE : Eo S6 σ μ) : Dq σ μ := ⟨fun k i => S6_cl hE 0 0 k i (by omega), fun k i => S6_cl hE 2 0 k i (by omega), S6_cl hE 5 0 3 0 (by omega), fun p k _ i => S6_cl hE 3 p k i (by omega)⟩
/-- the code of three digits -/
theorem cv_code {v0 v1 v2 : Int} (h0 : 0 ≤ v0 ∧ v0 < 4) (h1 : 0 ≤ v1 ∧ v1 < 4) (h2 : 0 ≤ v2 ∧ v2 < 4) : (0 ≤ 16 * v0 + 4 * v1 + v2 ∧ 16 * v0 + 4 * v1 + v2 < 64) ∧ cv (16 * v0 + 4 * v1 + v2) = v0 + 4 * v1 + 16 * v2 := by
  refine ⟨by omega, ?_⟩
  show (16 * v0 + 4 * v1 + v2) / 16 + 4 * ((16 * v0 + 4 * v1 + v2) / 4 % 4) + 16 * ((16 * v0 + 4 * v1 + v2) % 4) = _
  omega
def vc (sp : Int) : Int := 16 * dS sp 0 + 4 * dS sp 1 + dS sp 2
theorem cv_vc {sp : Int} (h0 : 0 ≤ sp) (h1 : sp < 64) : (0 ≤ vc sp ∧ vc sp < 64) ∧ cv (vc sp) = sp := by
  have a := dS_bd sp 0 h0 h1
  have b := dS_bd sp 1 h0 h1
  have c := dS_bd sp 2 h0 h1
  have q := cv_code a b c
  refine ⟨q.1, ?_⟩
  unfold vc
  rw [q.2]
  show sp % 4 + 4 * (sp / 4 % 4) + 16 * (sp / 16 % 4) = sp
  omega
theorem vc_cv {a : Int} (h0 : 0 ≤ a) (h1 : a < 64) : vc (cv a) = a := by
  unfold vc
  rw [cv_dS h0 h1 (by omega) (by omega), cv_dS h0 h1 (by omega) (by omega), cv_dS h0 h1 (by omega) (by omega)]
  show 16 * (a / 16) + 4 * (a / 4 % 4) + a % 4 = a
  omega
theorem cv_inj {a b : Int} (ha0 : 0 ≤ a) (ha1 : a < 64) (hb0 : 0 ≤ b) (hb1 : b < 64) (h : cv a = cv b) : a = b := by
  rw [← vc_cv ha0 ha1, ← vc_cv hb0 hb1, h]
theorem w_Mo_codeOf {σ : Mem} {p : Int} {vc_ vk : Nat} {vp : Int} {Q : Int → Mem → Prop} (hb : PB σ p) (hM : MPa σ p) (p0 : 0 ≤ p) (p1 : p < 4) (hv : ∀ c, 0 ≤ c → c < 6 → 0 ≤ σ vc_ vp vk c ∧ σ vc_ vp vk c < 4) (hQ : ∀ code, 0 ≤ code → code < 64 → cv code = spt (σ 3 p 0 0) (fun j => σ vc_ vp vk (σ 3 p 1 j)) → Q code σ) : Mo_codeOf p vc_ vp vk σ Q := by
  obtain ⟨M1, M2, -⟩ := hM
  have hj := hb.1
  generalize hV : (fun k : Int => if k < σ 3 p 0 0 then σ vc_ vp vk (σ 3 p 1 k) else 0) = v
  have hvb : ∀ k, 0 ≤ k → k < 3 → 0 ≤ v k ∧ v k < 4 := by
    intro k a b
    rw [← hV]
    simp only
    split
    · rename_i c
      have q := (hb.2.2.2.1 k a c).1
      exact hv _ q.1 q.2
    · omega
  have step : ∀ (n : Nat) (code k : Int), 0 ≤ k → k < 3 → (∀ code', code' = 4 * code + v k → Mo_codeOf_5 Q n p vc_ vp vk code' (k + 1) σ) → Mo_codeOf_5 Q (n + 1) p vc_ vp vk code k σ := by
    intro n code k a b hk
    unfold Mo_codeOf_5
    rw [M1]
    refine ⟨⟨by omega, by omega⟩, fun z => absurd z (by omega), fun _ => ⟨p0, p1, ⟨by omega, by omega⟩, ⟨by omega, by omega⟩, fun c => ?_, fun c => ?_⟩⟩
    · unfold Mo_codeOf_42
      intro x1 e1 x2 e2
      rw [e2]
      refine hk x1 ?_
      rw [e1, ← hV]
      simp only
      rw [if_neg (by omega)]
    · have q := (hb.2.2.2.1 k a c).1
      rw [M2 k a c]
      refine ⟨by omega, by omega, q.1, q.2, ?_⟩
      unfold Mo_codeOf_42
      intro x1 e1 x2 e2
      rw [e2]
      refine hk x1 ?_
      rw [e1, ← hV]
      simp only
      rw [if_pos c]
  refine ⟨4, step 3 0 0 (by omega) (by omega) (fun c1 e1 => step 2 c1 _ (by omega) (by omega) (fun c2 e2 => step 1 c2 _ (by omega) (by omega) (fun c3 e3 => ?_)))⟩
  unfold Mo_codeOf_5
  refine ⟨⟨by omega, by omega⟩, fun _ => ?_, fun z => absurd z (by omega)⟩
  have a0 := hvb 0 (by omega) (by omega)
  have a1 := hvb 1 (by omega) (by omega)
  have a2 := hvb 2 (by omega) (by omega)
  have q := cv_code a0 a1 a2
  have ec : c3 = 16 * v 0 + 4 * v 1 + v 2 := by
    have e1' : c1 = v 0 := by rw [e1]; omega
    have e2' : c2 = 4 * v 0 + v 1 := by rw [e2, e1']; rfl
    have e3' : c3 = 4 * c2 + v 2 := e3
    omega
  refine hQ c3 (by omega) (by omega) ?_
  rw [ec, q.2, ← hV]
  simp only
  unfold spt
  by_cases b0 : 0 < σ 3 p 0 0 <;> by_cases b1 : 1 < σ 3 p 0 0 <;> by_cases b2 : 2 < σ 3 p 0 0 <;> simp only [b0, b1, b2, if_true, if_false] <;> omega
theorem w_Mo_isCode {σ : Mem} {p code : Int} {Q : Int → Mem → Prop} (h : CW σ) (hJ : JS σ) (hMD : MD σ) (p0 : 0 ≤ p) (p1 : p < 4) (h0 : 0 ≤ code) (h1 : code < 64) (hQ1 : Vs (σ 3 p 0 0) (σ 3 p 2) (cv code) → Q 1 σ) (hQ0 : ¬ Vs (σ 3 p 0 0) (σ 3 p 2) (cv code) → Q 0 σ) : Mo_isCode p code σ Q := by
  obtain ⟨a1, -, -, a4⟩ := h.2.2.2 p p0 p1
  obtain ⟨M1, M2, -⟩ := hMD.2.2.2.2.2.2 p p0 p1
  have hj := a1.1
  have hcv := cv_bd h0 h1
  have step : ∀ (n : Nat) (is k : Int), 0 ≤ k → k < 3 → (is = 0 ∨ is = 1) → (∀ is', (is' = 0 ∨ is' = 1) → (is' = 1 ↔ is = 1 ∧ dS (cv code) k < (if k < σ 3 p 0 0 then σ 3 p 2 k else 1)) → Mo_isCode_5 Q n p code is' (k + 1) σ) → Mo_isCode_5 Q (n + 1) p code is k σ := by
    intro n is k a b hi hk
    have bd := dC_bd code k h0 h1
    unfold Mo_isCode_5
    refine ⟨⟨by omega, by omega⟩, fun z => absurd z (by omega), fun _ => ⟨⟨by omega, by omega⟩, fun z => ?_, fun z => ?_⟩⟩
    · unfold Mo_isCode_59 Mo_isCode_60
      intro x1 e1
      rw [e1]
      exact hk 0 (Or.inl rfl) ⟨fun y => absurd y (by omega), fun y => absurd y.1 (by omega)⟩
    · have hi1 : is = 1 := by omega
      refine w_Mo_figure h0 h1 ⟨by omega, by omega⟩ ?_
      rw [M1]
      have fin : ∀ s : Int, InR s → (if k < σ 3 p 0 0 then σ 3 p 2 k else 1) = s → Mo_isCode_52 (fun z0 z1 z2 z3 z4 => Mo_isCode_5 Q n z0 z1 z2 z3 z4) Q p code k (dC code k) s σ := by
        intro s hs es
        unfold Mo_isCode_52 Mo_isCode_59 Mo_isCode_60
        refine ⟨⟨by omega, by omega⟩, hs, fun c x1 e1 => ?_, fun c x1 e1 => ?_⟩
        · rw [e1]
          refine hk 0 (Or.inl rfl) ⟨fun y => absurd y (by omega), fun y => ?_⟩
          rw [es, cv_dS h0 h1 a b] at y
          omega
        · rw [e1]
          refine hk 1 (Or.inr rfl) ⟨fun _ => ⟨hi1, ?_⟩, fun _ => rfl⟩
          rw [es, cv_dS h0 h1 a b]
          exact c
      refine ⟨p0, p1, ⟨by omega, by omega⟩, ⟨by omega, by omega⟩, fun c => fin 1 ⟨by omega, by omega⟩ (if_neg (by omega)), fun c => ?_⟩
      have q := (a1.2.2.2.1 k a c)
      have q4 := (a4 k a c).1
      rw [M2 k a c]
      refine ⟨by omega, by omega, q.1.1, q.1.2, ?_⟩
      have ev : σ 6 0 1 (σ 3 p 1 k) = σ 3 p 2 k := by rw [hMD.2.1 _ q.1.1 q4, hJ p p0 p1 k a c]
      rw [ev]
      exact fin _ ⟨by omega, by omega⟩ (if_pos c)
  refine ⟨4, step 3 1 0 (by omega) (by omega) (Or.inr rfl) (fun i1 o1 e1 => step 2 i1 _ (by omega) (by omega) o1 (fun i2 o2 e2 => step 1 i2 _ (by omega) (by omega) o2 (fun i3 o3 e3 => ?_)))⟩
  unfold Mo_isCode_5
  refine ⟨⟨by omega, by omega⟩, fun _ => ⟨o3, ?_⟩, fun z => absurd z (by omega)⟩
  have e2' : i2 = 1 ↔ i1 = 1 ∧ dS (cv code) 1 < (if (1 : Int) < σ 3 p 0 0 then σ 3 p 2 1 else 1) := e2
  have e3' : i3 = 1 ↔ i2 = 1 ∧ dS (cv code) 2 < (if (2 : Int) < σ 3 p 0 0 then σ 3 p 2 2 else 1) := e3
  have all : i3 = 1 ↔ Vs (σ 3 p 0 0) (σ 3 p 2) (cv code) := by
    rw [e3', e2', e1]
    constructor
    · rintro ⟨⟨⟨-, z0⟩, z1⟩, z2⟩
      refine ⟨hcv, fun j a b => ?_⟩
      rcases (by omega : j = 0 ∨ j = 1 ∨ j = 2) with rfl | rfl | rfl
      · exact z0
      · exact z1
      · exact z2
    · rintro ⟨-, z⟩
      exact ⟨⟨⟨rfl, z 0 (by omega) (by omega)⟩, z 1 (by omega) (by omega)⟩, z 2 (by omega) (by omega)⟩
  rcases o3 with e | e
  · rw [e]
    exact hQ0 (fun v => by have := all.mpr v; omega)
  · rw [e]
    exact hQ1 (all.mp e)
theorem w_Mo_placeOf {σ : Mem} {p ch : Int} {Q : Int → Mem → Prop} (hb : PB σ p) (hM : MPa σ p) (p0 : 0 ≤ p) (p1 : p < 4) (hc : InR ch) (hQ1 : ∀ j, 0 ≤ j → j < σ 3 p 0 0 → σ 3 p 1 j = ch → Q j σ) (hQ0 : (∀ j, 0 ≤ j → j < σ 3 p 0 0 → σ 3 p 1 j ≠ ch) → Q (-1) σ) : Mo_placeOf p ch σ Q := by
  obtain ⟨M1, M2, -⟩ := hM
  have hj := hb.1
  have key : ∀ (m : Nat) (k : Int), k + m = σ 3 p 0 0 → 0 ≤ k → (∀ j, 0 ≤ j → j < k → σ 3 p 1 j ≠ ch) → Mo_placeOf_2 Q (m + 1) p ch k σ := by
    intro m
    induction m with
    | zero =>
      intro k g1 g2 hn
      unfold Mo_placeOf_2
      rw [M1]
      exact ⟨p0, p1, ⟨by omega, by omega⟩, ⟨by omega, by omega⟩, fun _ => hQ0 (fun j a b => hn j a (by omega)), fun z => absurd z (by omega)⟩
    | succ m ih =>
      intro k g1 g2 hn
      have q := (hb.2.2.2.1 k g2 (by omega)).1
      unfold Mo_placeOf_2
      rw [M1, M2 k g2 (by omega)]
      refine ⟨p0, p1, ⟨by omega, by omega⟩, ⟨by omega, by omega⟩, fun z => absurd z (by omega), fun _ => ⟨by omega, by omega, ⟨by omega, by omega⟩, hc, fun z x7 e7 => ih x7 (by omega) (by omega) (fun j a b => ?_), fun z => hQ1 k g2 (by omega) z⟩⟩
      by_cases c : j = k
      · subst c; exact z
      · exact hn j a (by omega)
  exact ⟨_, key (σ 3 p 0 0).toNat 0 (by omega) (by omega) (fun j a b => absurd b (by omega))⟩
/-! ===== the reference: cuts ===== -/
def CutM (σ : Mem) (k : Nat) (c : CutT) : Prop := σ 6 0 19 k = (if c.2.2.1 = -4 then 0 else 1) ∧ σ 6 0 20 k = c.1 ∧ σ 6 0 21 k = c.2.1 ∧ σ 6 0 22 k = c.2.2.1 ∧ σ 6 0 23 k = c.2.2.2.1 ∧ σ 6 0 24 k = c.2.2.2.2.length ∧ ∀ (i : Nat) (r : Int × Int), c.2.2.2.2[i]? = some r → σ 6 0 25 (3 * k + i) = r.1 ∧ σ 6 0 26 (3 * k + i) = r.2
def RepM (σ : Mem) (L : List CutT) : Prop := σ 6 0 18 0 = L.length ∧ L.length ≤ 200 ∧ (∀ c ∈ L, c.2.2.2.2.length ≤ 3) ∧ ∀ (k : Nat) (c : CutT), L[k]? = some c → CutM σ k c
/-- a cut's words are in bounds; its reasons are of choices that its part is joined to -/
def okC (σ : Mem) (c : CutT) : Prop := (0 ≤ c.1 ∧ c.1 < σ 5 0 3 0) ∧ (0 ≤ c.2.1 ∧ c.2.1 < σ 2 0 0 0) ∧ (c.2.2.1 = -4 ∨ (0 ≤ c.2.2.1 ∧ c.2.2.1 ≤ 600)) ∧ (0 ≤ c.2.2.2.1) ∧ c.2.2.2.2.length ≤ 3 ∧ ∀ r ∈ c.2.2.2.2, (0 ≤ r.2 ∧ r.2 < 4) ∧ ∃ j, 0 ≤ j ∧ j < σ 3 c.1 0 0 ∧ σ 3 c.1 1 j = r.1
theorem w_Mo_meets {σ : Mem} {p code : Int} {k : Nat} {c : CutT} {Q : Int → Mem → Prop} (h : CW σ) (hMD : MD σ) (hk : k < 200) (hc : CutM σ k c) (hok : okC σ c) (hp : c.1 = p) (p0 : 0 ≤ p) (p1 : p < 4) (h0 : 0 ≤ code) (h1 : code < 64) (hQ1 : Mr (σ 3 p 0 0) (σ 3 p 1) c.2.2.2.2 (cv code) → Q 1 σ) (hQ0 : ¬ Mr (σ 3 p 0 0) (σ 3 p 1) c.2.2.2.2 (cv code) → Q 0 σ) : Mo_meets k p code σ Q := by
  obtain ⟨a1, -, -, a4⟩ := h.2.2.2 p p0 p1
  have hM := hMD.2.2.2.2.2.2 p p0 p1
  obtain ⟨-, -, -, -, -, c24, crs⟩ := hc
  obtain ⟨-, -, -, -, o5, o6⟩ := hok
  have hj := a1.1
  have key : ∀ (m i : Nat) (is : Int), (i : Int) + m = c.2.2.2.2.length → ((is = 1 ∧ ∀ (i' : Nat) (r : Int × Int), i' < i → c.2.2.2.2[i']? = some r → ∀ j, 0 ≤ j → j < σ 3 p 0 0 → σ 3 p 1 j = r.1 → dS (cv code) j = r.2) ∨ (is = 0 ∧ ¬ Mr (σ 3 p 0 0) (σ 3 p 1) c.2.2.2.2 (cv code))) → Mo_meets_6 Q (m + 1) k p code is i σ := by
    intro m
    induction m with
    | zero =>
      intro i is g1 hh
      unfold Mo_meets_6
      rw [c24]
      refine ⟨by omega, by omega, ⟨by omega, by omega⟩, ⟨by omega, by omega⟩, fun _ => ⟨by omega, ?_⟩, fun z => absurd z (by omega)⟩
      rcases hh with ⟨e, hm⟩ | ⟨e, hm⟩
      · rw [e]
        refine hQ1 (fun r hr j a b ej => ?_)
        obtain ⟨i', hi'⟩ := List.getElem?_of_mem hr
        exact hm i' r (by have := (List.getElem?_eq_some_iff.mp hi').1; omega) hi' j a b ej
      · rw [e]; exact hQ0 hm
    | succ m ih =>
      intro i is g1 hh
      have hil : i < c.2.2.2.2.length := by omega
      obtain ⟨r, hr⟩ : ∃ r, c.2.2.2.2[i]? = some r := ⟨_, List.getElem?_eq_getElem hil⟩
      have hrm := List.mem_of_getElem? hr
      obtain ⟨or2, j0, j0a, j0b, j0c⟩ := o6 r hrm
      rw [hp] at j0b j0c
      have q := crs i r hr
      have bj := (a1.2.2.2.1 j0 j0a j0b).1
      have next : ∀ is' : Int, ((is' = 1 ∧ ∀ (i' : Nat) (r : Int × Int), i' < i + 1 → c.2.2.2.2[i']? = some r → ∀ j, 0 ≤ j → j < σ 3 p 0 0 → σ 3 p 1 j = r.1 → dS (cv code) j = r.2) ∨ (is' = 0 ∧ ¬ Mr (σ 3 p 0 0) (σ 3 p 1) c.2.2.2.2 (cv code))) → Mo_meets_65 (fun z0 z1 z2 z3 z4 z5 => Mo_meets_6 Q (m + 1) z0 z1 z2 z3 z4 z5) Q k p code i is' σ := by
        intro is' hh'
        unfold Mo_meets_65
        intro x1 e1
        have ex : x1 = ((i + 1 : Nat) : Int) := by omega
        rw [ex]
        exact ih (i + 1) is' (by omega) hh'
      unfold Mo_meets_6
      rw [c24, q.1]
      refine ⟨by omega, by omega, ⟨by omega, by omega⟩, ⟨by omega, by omega⟩, fun z => absurd z (by omega), fun _ => ⟨by omega, by omega, ?_⟩⟩
      refine w_Mo_placeOf a1 hM p0 p1 ⟨by omega, by omega⟩ (fun j ja jb jc => ?_) (fun hn => absurd j0c (hn j0 j0a j0b))
      refine ⟨⟨by omega, by omega⟩, fun z => ?_, fun z => ?_⟩
      · unfold Mo_meets_64
        exact next 0 (Or.inr ⟨rfl, (hh.resolve_left (fun y => absurd y.1 (by omega))).2⟩)
      · have hh := hh.resolve_right (fun y => z y.1)
        refine w_Mo_figure h0 h1 ⟨by omega, by omega⟩ ?_
        rw [q.2]
        have bd := dC_bd code j h0 h1
        have ed := cv_dS (k := j) h0 h1 ja (by omega)
        refine ⟨by omega, by omega, ⟨by omega, by omega⟩, ⟨by omega, by omega⟩, fun y => ?_, fun y => ?_⟩
        · unfold Mo_meets_64
          refine next 0 (Or.inr ⟨rfl, fun hm => y ?_⟩)
          rw [← ed]
          exact hm r hrm j ja jb jc
        · refine next 1 (Or.inl ⟨rfl, fun i' r' hi' hr' j' ja' jb' jc' => ?_⟩)
          by_cases e : i' = i
          · subst e
            rw [hr] at hr'
            cases hr'
            have : j' = j := a4.inj j' j ja' jb' ja jb (jc'.trans jc.symm)
            subst this
            rw [ed]; exact y
          · exact hh.2 i' r' (by omega) hr' j' ja' jb' jc'
  exact ⟨_, key c.2.2.2.2.length 0 1 (by omega) (Or.inl ⟨rfl, fun i' r hi' => absurd hi' (by omega)⟩)⟩

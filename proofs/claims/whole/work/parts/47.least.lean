/-! ===== the class: the least plan ===== -/
def pD (t c : Int) : Int := if c = 0 then t / 1024 else if c = 1 then t / 256 % 4 else if c = 2 then t / 64 % 4 else if c = 3 then t / 16 % 4 else if c = 4 then t / 4 % 4 else t % 4
theorem pD_bd {t : Int} (h0 : 0 ≤ t) (h1 : t < 4096) (c : Int) : 0 ≤ pD t c ∧ pD t c ≤ 3 := by
  unfold pD
  split
  · omega
  · split
    · omega
    · split
      · omega
      · split
        · omega
        · split <;> omega
theorem pf6 {u : Int → Int} : pf u 6 = 1024 * u 0 + 256 * u 1 + 64 * u 2 + 16 * u 3 + 4 * u 4 + u 5 := by
  simp only [pf]
  simp
  omega
theorem pf_pD {t : Int} (h0 : 0 ≤ t) (h1 : t < 4096) : pf (pD t) 6 = t := by
  rw [pf6]
  simp [pD]
  omega
theorem pf6_bd {u : Int → Int} (h : ∀ c, 0 ≤ c → c < 6 → 0 ≤ u c ∧ u c ≤ 3) : 0 ≤ pf u 6 ∧ pf u 6 < 4096 := by
  have a0 := h 0 (by omega) (by omega)
  have a1 := h 1 (by omega) (by omega)
  have a2 := h 2 (by omega) (by omega)
  have a3 := h 3 (by omega) (by omega)
  have a4 := h 4 (by omega) (by omega)
  have a5 := h 5 (by omega) (by omega)
  rw [pf6]
  omega
theorem pD_pf {u : Int → Int} (h : ∀ c, 0 ≤ c → c < 6 → 0 ≤ u c ∧ u c ≤ 3) (c : Int) (c0 : 0 ≤ c) (c1 : c < 6) : pD (pf u 6) c = u c := by
  have hb := pf6_bd h
  have e := pf_pD hb.1 hb.2
  exact pf_inj (n := 6) (fun i _ _ => pD_bd hb.1 hb.2 i) (fun i i0 i1 => h i i0 (by omega)) e c c0 (by omega)
/-- tops of choices: 0 behind them -/
def Tch (σ : Mem) : Int → Int := tpv (σ 0 0 0 0) (fun c => σ 0 0 1 c - 1)
def VPl (σ : Mem) (t : Int) : Prop := (0 ≤ t ∧ t < 4096) ∧ ∀ c, 0 ≤ c → c < 6 → pD t c ≤ Tch σ c
def FPl (σ : Mem) (by_ t : Int) : Prop := ∀ s, 0 ≤ s → s ≤ σ 0 0 0 0 → ¬ badS σ by_ s (pD t)
noncomputable def CPl (σ : Mem) (by_ t : Int) : Int := sm (σ 0 0 0 0 + 1).toNat (fun s => valS σ by_ s (pD t))
theorem Tch_bd {σ : Mem} (h : ChB σ) (c : Int) (c0 : 0 ≤ c) : 0 ≤ Tch σ c ∧ Tch σ c ≤ 3 := by
  unfold Tch tpv
  split
  · rename_i hc
    have := h.2.1 c c0 hc
    show 0 ≤ σ 0 0 1 c - 1 ∧ σ 0 0 1 c - 1 ≤ 3
    omega
  · omega
theorem stl_same {σ μ : Mem} (hE : Eo Ss σ μ) (p : Int) : stl μ p = stl σ p := by
  unfold stl
  simp only [hE 3 p 0 0 (by unfold Ss; omega), hE 3 p 1 _ (by unfold Ss; omega)]
theorem pco_same2 {σ μ : Mem} (hE : Eo Ss σ μ) (by_ p : Int) (d : Int → Int) : pco μ by_ p d = pco σ by_ p d :=
  pco_same (fun k i => hE 2 0 k i (by unfold Ss; omega)) (fun k hk i => hE 3 p k i (by unfold Ss; omega)) (fun i => hE 3 p 11 i (by unfold Ss; omega))
theorem badS_same {σ μ : Mem} (hE : Eo Ss σ μ) {by_ s : Int} {d : Int → Int} : badS μ by_ s d ↔ badS σ by_ s d := by
  unfold badS
  simp only [hE 0 0 2 _ (by unfold Ss; omega), hE 5 0 3 0 (by unfold Ss; omega), stl_same hE, pco_same2 hE]
theorem valS_same {σ μ : Mem} (hE : Eo Ss σ μ) {by_ s : Int} {d : Int → Int} : valS μ by_ s d = valS σ by_ s d := by
  unfold valS
  have ew : μ 2 0 1 = σ 2 0 1 := funext (fun i => hE 2 0 1 i (by unfold Ss; omega))
  simp only [hE 0 0 2 _ (by unfold Ss; omega), hE 5 0 3 0 (by unfold Ss; omega), hE 2 0 0 0 (by unfold Ss; omega), ew, stl_same hE, pco_same2 hE]
/-- what following a plan may change -/
def Sf : Nat → Int → Nat → Prop := fun c _ k => (c = 3 ∧ (k = 10 ∨ (12 ≤ k ∧ k ≤ 14))) ∨ (c = 5 ∧ 7 ≤ k ∧ k ≤ 9)
theorem Sf_Ss {c : Nat} {q : Int} {k : Nat} (h : Sf c q k) : Ss c q k := by
  unfold Sf at h
  unfold Ss
  omega
theorem smv_bd {σ : Mem} {by_ : Int} {d : Int → Int} (h : CW σ) (hd : ∀ c, 0 ≤ c → c < 6 → 0 ≤ d c ∧ d c < 4) : ∀ (n : Nat), (n : Int) ≤ σ 0 0 0 0 + 1 → (∀ s : Int, 0 ≤ s → s < n → ¬ badS σ by_ s d) → 0 ≤ sm n (fun s => valS σ by_ s d) ∧ sm n (fun s => valS σ by_ s d) ≤ 2100000 := by
  intro n hn hb
  have := sm_bd (f := fun s => valS σ by_ s d) (lo := 0) (hi := 300000) (n := n) (fun s s0 s1 => valS_bd h s0 (by omega) hd (hb s s0 s1))
  have := h.1.1
  omega
set_option maxHeartbeats 1000000 in
theorem w_followTried {σ : Mem} {fr by_ : Int} {Q : Int → Mem → Prop} (h : CW σ) (hd : ∀ c, 0 ≤ c → c < 6 → 0 ≤ σ 5 0 6 c ∧ σ 5 0 6 c < 4) (hf0 : 0 ≤ fr) (hf1 : fr ≤ σ 0 0 0 0) (hby : by_ = 0 ∨ by_ = 1) (hsp : σ 5 0 7 fr = sm fr.toNat (fun s => valS σ by_ s (σ 5 0 6))) (hnb : ∀ s, 0 ≤ s → s < fr → ¬ badS σ by_ s (σ 5 0 6)) (hlc : σ 5 0 9 0 = -4 ∨ (0 ≤ σ 5 0 9 0 ∧ σ 5 0 9 0 ≤ 2100000))
    (hQ : ∀ L σ', fr ≤ L → L ≤ σ 0 0 0 0 → Eo Sf σ σ' → (∀ p, 0 ≤ p → p < 4 → AO σ' p) → (∀ s, fr ≤ s → s ≤ L → σ' 5 0 7 s = sm s.toNat (fun s => valS σ by_ s (σ 5 0 6))) → (∀ s, s < fr → σ' 5 0 7 s = σ 5 0 7 s) → (∀ s, 0 ≤ s → s < L → ¬ badS σ by_ s (σ 5 0 6)) →
      (((∀ k i, k = 8 ∨ k = 9 → σ' 5 0 k i = σ 5 0 k i) ∧ (badS σ by_ L (σ 5 0 6) ∨ (σ 5 0 9 0 ≠ -4 ∧ ¬ badS σ by_ L (σ 5 0 6) ∧ σ 5 0 9 0 ≤ sm (L + 1).toNat (fun s => valS σ by_ s (σ 5 0 6))))) ∨ (L = σ 0 0 0 0 ∧ ¬ badS σ by_ L (σ 5 0 6) ∧ σ' 5 0 9 0 = sm (L + 1).toNat (fun s => valS σ by_ s (σ 5 0 6)) ∧ (σ 5 0 9 0 = -4 ∨ sm (L + 1).toNat (fun s => valS σ by_ s (σ 5 0 6)) < σ 5 0 9 0) ∧ ∀ c, 0 ≤ c → c < 6 → σ' 5 0 8 c = σ 5 0 6 c)) → Q L σ') : Sr_followTried fr by_ σ Q := by
  have hc := h.1.1
  have key : ∀ (k : Nat) (s spent : Int) (μ : Mem), s + k = σ 0 0 0 0 + 1 → fr ≤ s → Eo Sf σ μ → (∀ p, 0 ≤ p → p < 4 → AO μ p) → (∀ k i, k = 8 ∨ k = 9 → μ 5 0 k i = σ 5 0 k i) → (∀ s', fr ≤ s' → s' < s → μ 5 0 7 s' = sm s'.toNat (fun s => valS σ by_ s (σ 5 0 6))) → (∀ s', s' < fr → μ 5 0 7 s' = σ 5 0 7 s') → (∀ s', 0 ≤ s' → s' < s → ¬ badS σ by_ s' (σ 5 0 6)) → spent = sm s.toNat (fun s => valS σ by_ s (σ 5 0 6)) → (fr < s → (σ 5 0 9 0 = -4 ∨ spent < σ 5 0 9 0)) → Sr_followTried_10 Q (k + 1) by_ spent s μ := by
    intro k
    induction k with
    | zero =>
      intro s spent μ g1 g2 hE hA h89 h7 h7' hn hsp' hlt
      have e0 : μ 0 0 0 0 = σ 0 0 0 0 := hE 0 0 0 0 (by unfold Sf; omega)
      unfold Sr_followTried_10
      rw [e0]
      refine ⟨⟨by omega, by omega⟩, ⟨by omega, by omega⟩, fun _ => fun σ3 e3 σ4 e4 => ?_, fun hh => absurd hh (by omega)⟩
      subst e3
      subst e4
      have eL : (cp (up μ 5 0 9 0 spent) 5 0 6 5 0 8 6) 0 0 0 0 = σ 0 0 0 0 := by
        rw [show (cp (up μ 5 0 9 0 spent) 5 0 6 5 0 8 6) 0 0 0 0 = μ 0 0 0 0 by simp [cp, up]]
        exact e0
      rw [eL]
      have es : (σ 0 0 0 0 + 1).toNat = s.toNat := by omega
      have hE' : Eo Sf σ (cp (up μ 5 0 9 0 spent) 5 0 6 5 0 8 6) := (hE.tr (Eo.of_up (Or.inr ⟨rfl, by omega, by omega⟩))).tr (Eo.of_cp (Or.inr ⟨rfl, by omega, by omega⟩))
      refine hQ (σ 0 0 0 0) _ hf1 (Int.le_refl _) hE' (fun p p0 p1 => (hA p p0 p1).eo (fun k hk i => by simp [cp, up])) (fun s' a b => ?_) (fun s' a => ?_) (fun s' a b => hn s' a (by omega)) (Or.inr ⟨rfl, hn _ (by omega) (by omega), ?_, ?_, fun c c0 c1 => ?_⟩)
      · rw [show (cp (up μ 5 0 9 0 spent) 5 0 6 5 0 8 6) 5 0 7 s' = μ 5 0 7 s' by simp [cp, up]]
        exact h7 s' a (by omega)
      · rw [show (cp (up μ 5 0 9 0 spent) 5 0 6 5 0 8 6) 5 0 7 s' = μ 5 0 7 s' by simp [cp, up]]
        exact h7' s' a
      · rw [es, ← hsp']
        simp [cp, up]
      · rw [es, ← hsp']
        exact hlt (by omega)
      · rw [show (cp (up μ 5 0 9 0 spent) 5 0 6 5 0 8 6) 5 0 8 c = μ 5 0 6 c by simp [cp, up]; omega]
        exact hE 5 0 6 c (by unfold Sf; omega)
    | succ k ih =>
      intro s spent μ g1 g2 hE hA h89 h7 h7' hn hsp' hlt
      have e0 : μ 0 0 0 0 = σ 0 0 0 0 := hE 0 0 0 0 (by unfold Sf; omega)
      unfold Sr_followTried_10
      rw [e0]
      refine ⟨⟨by omega, by omega⟩, ⟨by omega, by omega⟩, fun hh => absurd hh (by omega), fun _ => ⟨by omega, by omega, fun σ5 e5 => ?_⟩⟩
      have hE5 : Eo Sf σ σ5 := by rw [e5]; exact hE.tr (Eo.of_up (Or.inr ⟨rfl, by omega, by omega⟩))
      have hEs5 : Eo Ss σ σ5 := hE5.mono (fun c q k z => Sf_Ss z)
      have hA5 : ∀ p, 0 ≤ p → p < 4 → AO σ5 p := fun p p0 p1 => (hA p p0 p1).eo (fun k hk i => by rw [e5, up_ne (by omega)])
      have hC5 : CW σ5 := h.eo hEs5 hA5
      have e56 : σ5 5 0 6 = σ 5 0 6 := funext (fun i => hE5 5 0 6 i (by unfold Sf; omega))
      have e50 : σ5 0 0 0 0 = σ 0 0 0 0 := hE5 0 0 0 0 (by unfold Sf; omega)
      have h75 : ∀ s', fr ≤ s' → s' ≤ s → σ5 5 0 7 s' = sm s'.toNat (fun s => valS σ by_ s (σ 5 0 6)) := by
        intro s' a b
        rw [e5]
        by_cases c : s' = s
        · subst c; rw [up_at]; exact hsp'
        · rw [up_ne (by omega)]; exact h7 s' a (by omega)
      have h75' : ∀ s', s' < fr → σ5 5 0 7 s' = σ 5 0 7 s' := fun s' a => by rw [e5, up_ne (by omega)]; exact h7' s' a
      have h895 : ∀ k i, k = 8 ∨ k = 9 → σ5 5 0 k i = σ 5 0 k i := fun k i hk => by rw [e5, up_ne (by omega)]; exact h89 k i hk
      have fin : ∀ σ6 : Mem, Eo Sa σ5 σ6 → (Eo Sf σ σ6 ∧ (∀ s', fr ≤ s' → s' ≤ s → σ6 5 0 7 s' = sm s'.toNat (fun s => valS σ by_ s (σ 5 0 6))) ∧ (∀ s', s' < fr → σ6 5 0 7 s' = σ 5 0 7 s') ∧ ∀ k i, k = 8 ∨ k = 9 → σ6 5 0 k i = σ 5 0 k i) := by
        intro σ6 hE6
        have q : ∀ k i, σ6 5 0 k i = σ5 5 0 k i := fun k i => hE6 5 0 k i (by unfold Sa; omega)
        exact ⟨hE5.tr (hE6.mono (fun c q k z => Or.inl z)), fun s' a b => by rw [q]; exact h75 s' a b, fun s' a => by rw [q]; exact h75' s' a, fun k i hk => by rw [q]; exact h895 k i hk⟩
      refine w_costOfStage hC5 (by rw [e56]; exact hd) (by omega) (by rw [e50]; omega) hby (fun hbad σ6 hE6 hA6 => ?_) (fun hbad σ6 hE6 hA6 => ?_)
      · rw [e56] at hbad
        have hbad := (badS_same hEs5).mp hbad
        obtain ⟨f1, f2, f3, f4⟩ := fin σ6 hE6
        refine ⟨⟨by omega, by omega⟩, fun z => absurd rfl z, fun _ => ?_⟩
        exact hQ s σ6 g2 (by omega) f1 hA6 f2 f3 hn (Or.inl ⟨f4, Or.inl hbad⟩)
      · rw [e56] at hbad ⊢
        have hbad : ¬ badS σ by_ s (σ 5 0 6) := fun z => hbad ((badS_same hEs5).mpr z)
        rw [valS_same hEs5]
        obtain ⟨f1, f2, f3, f4⟩ := fin σ6 hE6
        have bv := valS_bd h (by omega : 0 ≤ s) (by omega) hd hbad
        have hn1 : ∀ s', 0 ≤ s' → s' < s + 1 → ¬ badS σ by_ s' (σ 5 0 6) := by
          intro s' a b
          by_cases c : s' = s
          · subst c; exact hbad
          · exact hn s' a (by omega)
        have es1 : (s + 1).toNat = s.toNat + 1 := by omega
        have esn : ((s.toNat : Nat) : Int) = s := by omega
        have bs1 : 0 ≤ sm (s + 1).toNat (fun s => valS σ by_ s (σ 5 0 6)) ∧ sm (s + 1).toNat (fun s => valS σ by_ s (σ 5 0 6)) ≤ 2100000 := smv_bd h hd _ (by omega) (fun s' a b => hn1 s' a (by omega))
        refine ⟨⟨by omega, by omega⟩, fun _ => fun x9 e9 => ?_, fun z => absurd z (by omega)⟩
        have ex9 : x9 = sm (s + 1).toNat (fun s => valS σ by_ s (σ 5 0 6)) := by
          rw [e9, hsp', es1]
          simp only [sm]
          rw [esn]
        have e69 : σ6 5 0 9 0 = σ 5 0 9 0 := f4 9 0 (Or.inr rfl)
        rw [e69]
        have go : (σ 5 0 9 0 = -4 ∨ x9 < σ 5 0 9 0) → Sr_followTried_74 (fun z0 z1 z2 z3 => Sr_followTried_10 Q (k + 1) z0 z1 z2 z3) Q by_ x9 s σ6 := by
          intro hlt'
          unfold Sr_followTried_74
          intro x1 e1
          subst e1
          exact ih (s + 1) x9 σ6 (by omega) (by omega) f1 hA6 f4 (fun s' a b => f2 s' a (by omega)) f3 hn1 ex9 (fun _ => hlt')
        refine ⟨⟨by omega, by omega⟩, fun z => go (Or.inl z), fun z => ⟨⟨by omega, by omega⟩, ⟨by omega, by omega⟩, fun q => go (Or.inr q), fun q => ?_⟩⟩
        exact hQ s σ6 g2 (by omega) f1 hA6 f2 f3 hn (Or.inl ⟨f4, Or.inr ⟨z, hbad, by rw [← ex9]; exact q⟩⟩)
  unfold Sr_followTried
  refine ⟨hf0, by omega, fun x2 e2 => ⟨_, key (σ 0 0 0 0 + 1 - fr).toNat fr x2 σ (by omega) (Int.le_refl _) Eo.rf (fun p p0 p1 => (h.2.2.2 p p0 p1).2.1) (fun _ _ _ => rfl) (fun s' a b => absurd b (by omega)) (fun _ _ => rfl) hnb (by rw [e2]; exact hsp) (fun z => absurd z (by omega))⟩⟩
/-- the next plan, as moving on from a stage leaves it -/
def Mz (L : Int) (T u v : Int → Int) (r : Int) : Prop := (1 ≤ r ∧ r ≤ L ∧ v (r - 1) = u (r - 1) + 1 ∧ u (r - 1) < T (r - 1) ∧ (∀ i, 0 ≤ i → i < r - 1 → v i = u i) ∧ (∀ i, r - 1 < i → i ≤ L - 1 → v i = 0 ∧ T i ≤ u i) ∧ (∀ i, L - 1 < i → v i = u i)) ∨ (r = 0 ∧ ∀ i, 0 ≤ i → i ≤ L - 1 → T i ≤ u i)
theorem Mz.rz {L : Int} {T u v : Int → Int} {r : Int} (h : Mz L T u v r) : Rz (L - 1) T u v (if r = 0 then 0 else 1) := by
  rcases h with ⟨h1, h2, h3, h4, h5, h6, h7⟩ | ⟨h1, h2⟩
  · rw [if_neg (by omega)]
    exact Or.inl ⟨rfl, r - 1, by omega, by omega, h3, h4, h5, h6, h7⟩
  · rw [if_pos h1]
    exact Or.inr ⟨rfl, h2⟩
theorem w_moveOn {σ : Mem} {L : Int} {Q : Int → Mem → Prop} (hC : ChB σ) (hd : ∀ c, 0 ≤ c → c < 6 → 0 ≤ σ 5 0 6 c ∧ σ 5 0 6 c < 4) (hL0 : 0 ≤ L) (hL1 : L ≤ σ 0 0 0 0) (hQ : ∀ r σ', Eo (fun c q k => c = 5 ∧ q = 0 ∧ k = 6) σ σ' → Mz L (Tch σ) (σ 5 0 6) (σ' 5 0 6) r → Q r σ') : Sr_moveOn L σ Q := by
  have hc := hC.1
  have key : ∀ (k : Nat) (s : Int) (μ : Mem), s = k → s ≤ L → Eo (fun c q k => c = 5 ∧ q = 0 ∧ k = 6) σ μ → (∀ m, m ≤ s - 1 → μ 5 0 6 m = σ 5 0 6 m) → (∀ m, s - 1 < m → m ≤ L - 1 → μ 5 0 6 m = 0 ∧ Tch σ m ≤ σ 5 0 6 m) → (∀ m, L - 1 < m → μ 5 0 6 m = σ 5 0 6 m) → Sr_moveOn_2 Q (k + 1) s μ := by
    intro k
    induction k with
    | zero =>
      intro s μ g1 g2 hE a1 a2 a3
      unfold Sr_moveOn_2
      refine ⟨⟨by omega, by omega⟩, fun _ => ?_, fun z => absurd z (by omega)⟩
      exact hQ 0 μ hE (Or.inr ⟨rfl, fun i i0 i1 => (a2 i (by omega) i1).2⟩)
    | succ k ih =>
      intro s μ g1 g2 hE a1 a2 a3
      have e1 : μ 0 0 1 (s - 1) = σ 0 0 1 (s - 1) := hE 0 0 1 _ (by omega)
      have e6 := a1 (s - 1) (Int.le_refl _)
      have b := hC.2.1 (s - 1) (by omega) (by omega)
      have d := hd (s - 1) (by omega) (by omega)
      have eT : Tch σ (s - 1) = σ 0 0 1 (s - 1) - 1 := by
        unfold Tch tpv
        rw [if_pos (by omega)]
      unfold Sr_moveOn_2
      rw [e1, e6]
      refine ⟨⟨by omega, by omega⟩, fun z => absurd z (by omega), fun _ => ⟨by omega, by omega, by omega, by omega, ⟨by omega, by omega⟩, ⟨by omega, by omega⟩, fun hc => ⟨by omega, by omega, fun σ6 es x7 ex => ?_⟩, fun hc => ⟨by omega, by omega, by omega, by omega, fun σ9 es => ?_⟩⟩⟩
      · subst es
        refine ih x7 _ (by omega) (by omega) (hE.tr (Eo.of_up ⟨rfl, rfl, rfl⟩)) (fun m m1 => ?_) (fun m m0 m1 => ?_) (fun m m0 => ?_)
        · rw [up_ne (by omega)]; exact a1 m (by omega)
        · by_cases c : m = s - 1
          · subst c; exact ⟨up_at, by omega⟩
          · rw [up_ne (by omega)]; exact a2 m (by omega) m1
        · rw [up_ne (by omega)]; exact a3 m m0
      · subst es
        refine hQ s _ (hE.tr (Eo.of_up ⟨rfl, rfl, rfl⟩)) (Or.inl ⟨by omega, g2, up_at, by omega, fun m m0 m1 => ?_, fun m m0 m1 => ?_, fun m m0 => ?_⟩)
        · rw [up_ne (by omega)]; exact a1 m (by omega)
        · rw [up_ne (by omega)]; exact a2 m m0 m1
        · rw [up_ne (by omega)]; exact a3 m m0
  exact ⟨_, key L.toNat L σ (by omega) (Int.le_refl _) Eo.rf (fun _ _ => rfl) (fun m m0 m1 => absurd m1 (by omega)) (fun _ _ => rfl)⟩

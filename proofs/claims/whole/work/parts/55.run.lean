/-! ===== rounds, as a function ===== -/
/-- cuts, rounds, the end, the lower, the upper, the master, the best -/
abbrev St : Type := List CutT × Int × Int × Int × Int × (Int → Int) × (Int → Int)
noncomputable def mVal (σ : Mem) (L : List CutT) : Int := An (VPl σ) (FGt σ (gL σ L)) (CGt σ (gL σ L)) 4096
noncomputable def mBest (σ : Mem) (L : List CutT) : Int := Classical.epsilon (fun b => Srch (VPl σ) (FGt σ (gL σ L)) (CGt σ (gL σ L)) 4096 (mVal σ L) b)
theorem mVal_eq {σ : Mem} {L : List CutT} {x b : Int} (h : Srch (VPl σ) (FGt σ (gL σ L)) (CGt σ (gL σ L)) 4096 x b) : mVal σ L = x ∧ (x ≠ -4 → mBest σ L = b) := by
  have e : mVal σ L = x := An_eq h
  refine ⟨e, fun hx => ?_⟩
  have q : Srch (VPl σ) (FGt σ (gL σ L)) (CGt σ (gL σ L)) 4096 (mVal σ L) (mBest σ L) := Classical.epsilon_spec (p := fun b => Srch (VPl σ) (FGt σ (gL σ L)) (CGt σ (gL σ L)) 4096 (mVal σ L) b) ⟨b, by rw [e]; exact h⟩
  exact (q.uniq h).2 (by rw [e]; exact hx)
def possA (σ : Mem) (d : Int → Int) : Prop := ∀ p, 0 ≤ p → p < σ 5 0 3 0 → ∀ f, 0 ≤ f → f < σ 2 0 0 0 → gA σ p d f ≠ -4
noncomputable def costA (σ : Mem) (d : Int → Int) : Int := @ite Int (possA σ d) (Classical.propDecidable _) (CG σ (gA σ) d) (-4)
noncomputable def upN (v up : Int) : Int := if v ≠ -4 ∧ (up = -4 ∨ v < up) then v else up
noncomputable def bN (v up : Int) (d b : Int → Int) : Int → Int := if v ≠ -4 ∧ (up = -4 ∨ v < up) then d else b
noncomputable def rnd (σ : Mem) (s : St) : St :=
  if mVal σ s.1 = -4 then (s.1, s.2.1 + 1, 2, -4, s.2.2.2.2.1, s.2.2.2.2.2.1, s.2.2.2.2.2.2)
  else (addP (coC σ s.1 (pD (mBest σ s.1)) s.2.1) (σ 2 0 0 0).toNat (σ 5 0 3 0).toNat s.1, s.2.1 + 1, (if upN (costA σ (pD (mBest σ s.1))) s.2.2.2.2.1 ≠ -4 ∧ upN (costA σ (pD (mBest σ s.1))) s.2.2.2.2.1 ≤ mVal σ s.1 then 1 else 0), mVal σ s.1, upN (costA σ (pD (mBest σ s.1))) s.2.2.2.2.1, pD (mBest σ s.1), bN (costA σ (pD (mBest σ s.1))) s.2.2.2.2.1 (pD (mBest σ s.1)) s.2.2.2.2.2.2)
noncomputable def itr (σ : Mem) : Nat → St → St
  | 0, s => s
  | n + 1, s => if s.2.2.1 = 0 then itr σ n (rnd σ s) else s
theorem itr_end {σ : Mem} {s : St} (h : s.2.2.1 ≠ 0) : ∀ n, itr σ n s = s
  | 0 => rfl
  | n + 1 => if_neg h
theorem push_ge (L : List CutT) (o : Option CutT) : L.length ≤ (push L o).length := by
  cases o with
  | none => exact Nat.le_refl _
  | some c =>
    unfold push
    simp only
    split
    · rw [List.length_append]; omega
    · exact Nat.le_refl _
theorem addF_ge (co : Int → Option CutT) (L : List CutT) : ∀ n, L.length ≤ (addF co n L).length
  | 0 => Nat.le_refl _
  | n + 1 => Nat.le_trans (addF_ge co L n) (push_ge _ _)
theorem push_same {L : List CutT} {o : Option CutT} (h : (push L o).length = L.length) : push L o = L ∧ (o = none ∨ 200 ≤ L.length) := by
  cases o with
  | none => exact ⟨rfl, Or.inl rfl⟩
  | some c =>
    unfold push at *
    simp only at *
    split at h
    · rw [List.length_append] at h
      simp at h
    · rename_i hc
      rw [if_neg hc]
      exact ⟨rfl, Or.inr (by omega)⟩
theorem push_again {L : List CutT} {o o' : Option CutT} (h : push L o = L ∧ (o = none ∨ 200 ≤ L.length)) (ho : o = none → o' = none) : push L o' = L := by
  rcases h.2 with z | z
  · rw [ho z]; rfl
  · cases o' with
    | none => rfl
    | some c => exact if_neg (by omega)
theorem addF_same {co co' : Int → Option CutT} {L : List CutT} (ho : ∀ f, co f = none → co' f = none) : ∀ n, (addF co n L).length = L.length → addF co n L = L ∧ addF co' n L = L
  | 0, _ => ⟨rfl, rfl⟩
  | n + 1, h => by
    have h' : (push (addF co n L) (co n)).length = L.length := h
    have a := addF_ge co L n
    have b := push_ge (addF co n L) (co n)
    obtain ⟨e1, e2⟩ := addF_same (co := co) (co' := co') (L := L) ho n (by omega)
    rw [e1] at h'
    have q := push_same h'
    refine ⟨?_, ?_⟩
    · show push (addF co n L) (co n) = L
      rw [e1]; exact q.1
    · show push (addF co' n L) (co' n) = L
      rw [e2]; exact push_again q (ho n)
theorem addP_ge (co : Int → Int → Option CutT) (nF : Nat) (L : List CutT) : ∀ n, L.length ≤ (addP co nF n L).length
  | 0 => Nat.le_refl _
  | n + 1 => Nat.le_trans (addP_ge co nF L n) (addF_ge _ _ _)
theorem addP_same {co co' : Int → Int → Option CutT} {nF : Nat} {L : List CutT} (ho : ∀ p f, co p f = none → co' p f = none) : ∀ n, (addP co nF n L).length = L.length → addP co nF n L = L ∧ addP co' nF n L = L
  | 0, _ => ⟨rfl, rfl⟩
  | n + 1, h => by
    have h' : (addF (co n) nF (addP co nF n L)).length = L.length := h
    have a := addP_ge co nF L n
    have b := addF_ge (co n) (addP co nF n L) nF
    obtain ⟨e1, e2⟩ := addP_same (co := co) (co' := co') (nF := nF) (L := L) ho n (by omega)
    rw [e1] at h'
    obtain ⟨q1, q2⟩ := addF_same (co := co n) (co' := co' n) (L := L) (ho n) nF h'
    refine ⟨?_, ?_⟩
    · show addF (co n) nF (addP co nF n L) = L
      rw [e1]; exact q1
    · show addF (co' n) nF (addP co' nF n L) = L
      rw [e2]; exact q2
theorem addF_congr {co co' : Int → Option CutT} {L : List CutT} : ∀ {n : Nat}, (∀ f : Int, 0 ≤ f → f < n → co f = co' f) → addF co n L = addF co' n L
  | 0, _ => rfl
  | n + 1, h => by
    show push (addF co n L) (co n) = push (addF co' n L) (co' n)
    rw [addF_congr (n := n) (fun f a b => h f a (by omega)), h n (by omega) (by omega)]
theorem addP_congr {co co' : Int → Int → Option CutT} {nF : Nat} {L : List CutT} : ∀ {n : Nat}, (∀ p f : Int, 0 ≤ p → p < n → 0 ≤ f → f < nF → co p f = co' p f) → addP co nF n L = addP co' nF n L
  | 0, _ => rfl
  | n + 1, h => by
    show addF (co n) nF (addP co nF n L) = addF (co' n) nF (addP co' nF n L)
    rw [addP_congr (n := n) (fun p f a b c d => h p f a (by omega) c d)]
    exact addF_congr (fun f a b => h n f (by omega) (by omega) a b)
theorem coC_none {σ : Mem} {L : List CutT} {d : Int → Int} {r r' p f : Int} (h : coC σ L d r p f = none) : coC σ L d r' p f = none := by
  unfold coC at *
  split at h
  · cases h
  · rename_i hc
    rw [if_neg hc]
theorem upN_again {v up : Int} : upN v (upN v up) = upN v up := by
  unfold upN
  by_cases c : v ≠ -4 ∧ (up = -4 ∨ v < up)
  · rw [if_pos c, if_neg (by omega)]
  · rw [if_neg c, if_neg c]
theorem bN_again {v up : Int} {d b : Int → Int} : bN v (upN v up) d (bN v up d b) = bN v up d b := by
  unfold bN upN
  by_cases c : v ≠ -4 ∧ (up = -4 ∨ v < up)
  · rw [if_pos c, if_pos c, if_neg (by omega)]
  · rw [if_neg c, if_neg c, if_neg c]
/-- a round that leaves all open and brings no cut comes again -/
theorem rnd_stall {σ : Mem} {s : St} (h0 : (rnd σ s).2.2.1 = 0) (hl : (rnd σ s).1.length = s.1.length) : rnd σ (rnd σ s) = ((rnd σ s).1, (rnd σ s).2.1 + 1, (rnd σ s).2.2) := by
  obtain ⟨L, r, e, lo, up, m, b⟩ := s
  by_cases hx : mVal σ L = -4
  · have e1 : rnd σ (L, r, e, lo, up, m, b) = (L, r + 1, 2, -4, up, m, b) := if_pos hx
    rw [e1] at h0
    exact absurd (show (2 : Int) = 0 from h0) (by decide)
  · have e1 : rnd σ (L, r, e, lo, up, m, b) = (addP (coC σ L (pD (mBest σ L)) r) (σ 2 0 0 0).toNat (σ 5 0 3 0).toNat L, r + 1, (if upN (costA σ (pD (mBest σ L))) up ≠ -4 ∧ upN (costA σ (pD (mBest σ L))) up ≤ mVal σ L then 1 else 0), mVal σ L, upN (costA σ (pD (mBest σ L))) up, pD (mBest σ L), bN (costA σ (pD (mBest σ L))) up (pD (mBest σ L)) b) := if_neg hx
    rw [e1] at hl
    have q := addP_same (co := coC σ L (pD (mBest σ L)) r) (co' := coC σ L (pD (mBest σ L)) (r + 1)) (nF := (σ 2 0 0 0).toNat) (L := L) (fun p f => coC_none) _ hl
    rw [e1, q.1]
    have e2 : ∀ e' m' b', rnd σ (L, r + 1, e', mVal σ L, upN (costA σ (pD (mBest σ L))) up, m', b') = (addP (coC σ L (pD (mBest σ L)) (r + 1)) (σ 2 0 0 0).toNat (σ 5 0 3 0).toNat L, r + 1 + 1, (if upN (costA σ (pD (mBest σ L))) (upN (costA σ (pD (mBest σ L))) up) ≠ -4 ∧ upN (costA σ (pD (mBest σ L))) (upN (costA σ (pD (mBest σ L))) up) ≤ mVal σ L then 1 else 0), mVal σ L, upN (costA σ (pD (mBest σ L))) (upN (costA σ (pD (mBest σ L))) up), pD (mBest σ L), bN (costA σ (pD (mBest σ L))) (upN (costA σ (pD (mBest σ L))) up) (pD (mBest σ L)) b') := fun e' m' b' => if_neg hx
    rw [e2, q.2, upN_again, bN_again]
theorem itr_stall {σ : Mem} {s : St} (h0 : s.2.2.1 = 0) (hr : rnd σ s = (s.1, s.2.1 + 1, s.2.2)) (hr' : ∀ r, rnd σ (s.1, r, s.2.2) = (s.1, r + 1, s.2.2)) : ∀ n : Nat, itr σ n s = (s.1, s.2.1 + n, s.2.2) := by
  have key : ∀ (n : Nat) (r : Int), itr σ n (s.1, r, s.2.2) = (s.1, r + n, s.2.2) := by
    intro n
    induction n with
    | zero => intro r; simp [itr]
    | succ n ih =>
      intro r
      show (if s.2.2.1 = 0 then itr σ n (rnd σ (s.1, r, s.2.2)) else (s.1, r, s.2.2)) = _
      rw [if_pos h0, hr', ih]
      have : r + 1 + (n : Int) = r + ((n + 1 : Nat) : Int) := by omega
      rw [this]
  intro n
  exact key n s.2.1
/-- the same, for any count of rounds -/
theorem rnd_stall2 {σ : Mem} {s : St} (h0 : (rnd σ s).2.2.1 = 0) (hl : (rnd σ s).1.length = s.1.length) (r' : Int) : rnd σ ((rnd σ s).1, r', (rnd σ s).2.2) = ((rnd σ s).1, r' + 1, (rnd σ s).2.2) := by
  obtain ⟨L, r, e, lo, up, m, b⟩ := s
  by_cases hx : mVal σ L = -4
  · have e1 : rnd σ (L, r, e, lo, up, m, b) = (L, r + 1, 2, -4, up, m, b) := if_pos hx
    rw [e1] at h0
    exact absurd (show (2 : Int) = 0 from h0) (by decide)
  · have e1 : rnd σ (L, r, e, lo, up, m, b) = (addP (coC σ L (pD (mBest σ L)) r) (σ 2 0 0 0).toNat (σ 5 0 3 0).toNat L, r + 1, (if upN (costA σ (pD (mBest σ L))) up ≠ -4 ∧ upN (costA σ (pD (mBest σ L))) up ≤ mVal σ L then 1 else 0), mVal σ L, upN (costA σ (pD (mBest σ L))) up, pD (mBest σ L), bN (costA σ (pD (mBest σ L))) up (pD (mBest σ L)) b) := if_neg hx
    rw [e1] at hl
    have q := addP_same (co := coC σ L (pD (mBest σ L)) r) (co' := coC σ L (pD (mBest σ L)) r') (nF := (σ 2 0 0 0).toNat) (L := L) (fun p f => coC_none) _ hl
    rw [e1, q.1]
    have e2 : ∀ e' m' b', rnd σ (L, r', e', mVal σ L, upN (costA σ (pD (mBest σ L))) up, m', b') = (addP (coC σ L (pD (mBest σ L)) r') (σ 2 0 0 0).toNat (σ 5 0 3 0).toNat L, r' + 1, (if upN (costA σ (pD (mBest σ L))) (upN (costA σ (pD (mBest σ L))) up) ≠ -4 ∧ upN (costA σ (pD (mBest σ L))) (upN (costA σ (pD (mBest σ L))) up) ≤ mVal σ L then 1 else 0), mVal σ L, upN (costA σ (pD (mBest σ L))) (upN (costA σ (pD (mBest σ L))) up), pD (mBest σ L), bN (costA σ (pD (mBest σ L))) (upN (costA σ (pD (mBest σ L))) up) (pD (mBest σ L)) b') := fun e' m' b' => if_neg hx
    rw [e2, q.2, upN_again, bN_again]
theorem itr_stall2 {σ : Mem} {s : St} (h0 : (rnd σ s).2.2.1 = 0) (hl : (rnd σ s).1.length = s.1.length) (n : Nat) : itr σ n (rnd σ s) = ((rnd σ s).1, (rnd σ s).2.1 + n, (rnd σ s).2.2) := itr_stall h0 (rnd_stall2 h0 hl _) (fun r => rnd_stall2 h0 hl r) n

/-! ===== what cuts say of a spot ===== -/
def Mr (jc : Int) (J : Int → Int) (rs : List (Int × Int)) (sp : Int) : Prop := ∀ r ∈ rs, ∀ j, 0 ≤ j → j < jc → J j = r.1 → dS sp j = r.2
noncomputable def FMs (jc : Int) (J : Int → Int) (p f sp : Int) (a : Int) (c : CutT) : Int := @ite Int (c.1 = p ∧ c.2.1 = f ∧ Mr jc J c.2.2.2.2 sp) (Classical.propDecidable _) (comb a c.2.2.1) a
noncomputable def FM (jc : Int) (J : Int → Int) (L : List CutT) (p f sp : Int) : Int := L.foldl (FMs jc J p f sp) 0
theorem FMs_y {jc : Int} {J : Int → Int} {p f sp a : Int} {c : CutT} (h : c.1 = p ∧ c.2.1 = f ∧ Mr jc J c.2.2.2.2 sp) : FMs jc J p f sp a c = comb a c.2.2.1 := if_pos h
theorem FMs_n {jc : Int} {J : Int → Int} {p f sp a : Int} {c : CutT} (h : ¬ (c.1 = p ∧ c.2.1 = f ∧ Mr jc J c.2.2.2.2 sp)) : FMs jc J p f sp a c = a := if_neg h
theorem FM_nil {jc : Int} {J : Int → Int} {p f sp : Int} : FM jc J [] p f sp = 0 := rfl
theorem FM_snoc {jc : Int} {J : Int → Int} {L : List CutT} {c : CutT} {p f sp : Int} : FM jc J (L ++ [c]) p f sp = FMs jc J p f sp (FM jc J L p f sp) c := by
  unfold FM
  rw [List.foldl_append]
  rfl
theorem fold_keep {jc : Int} {J : Int → Int} {p q f sp : Int} (h : p ≠ q) : ∀ (L : List CutT) (a : Int), (keepP q L).foldl (FMs jc J p f sp) a = L.foldl (FMs jc J p f sp) a
  | [], _ => rfl
  | c :: L, a => by
    unfold keepP
    rw [List.filter_cons]
    by_cases hc : c.1 = q
    · have e : FMs jc J p f sp a c = a := FMs_n (fun z => h (by rw [← z.1, hc]))
      rw [if_neg (by simp [hc]), List.foldl_cons, e]
      exact fold_keep h L a
    · rw [if_pos (by simp [hc]), List.foldl_cons, List.foldl_cons]
      exact fold_keep h L _
theorem FM_keep {jc : Int} {J : Int → Int} {p q f sp : Int} {L : List CutT} (h : p ≠ q) : FM jc J (keepP q L) p f sp = FM jc J L p f sp := fold_keep h L 0
theorem fold_self {jc : Int} {J : Int → Int} {p f sp : Int} : ∀ (L : List CutT) (a : Int), (∀ c ∈ L, c.1 ≠ p) → L.foldl (FMs jc J p f sp) a = a
  | [], _, _ => rfl
  | c :: L, a, h => by
    rw [List.foldl_cons, FMs_n (fun z => h c List.mem_cons_self z.1)]
    exact fold_self L a (fun c hc => h c (List.mem_cons_of_mem _ hc))
theorem FM_self {jc : Int} {J : Int → Int} {p f sp : Int} {L : List CutT} : FM jc J (keepP p L) p f sp = 0 := fold_self _ 0 (fun c hc => by
  have := (List.mem_filter.mp hc).2
  simpa using this)
theorem Mr_congr {jc : Int} {J J' : Int → Int} {rs : List (Int × Int)} {sp : Int} (h : ∀ j, 0 ≤ j → j < jc → J j = J' j) : Mr jc J rs sp ↔ Mr jc J' rs sp := ⟨fun m r hr j a b e => m r hr j a b (by rw [h j a b]; exact e), fun m r hr j a b e => m r hr j a b (by rw [← h j a b]; exact e)⟩
theorem FM_congr {jc : Int} {J J' : Int → Int} {L : List CutT} {p f sp : Int} (h : ∀ j, 0 ≤ j → j < jc → J j = J' j) : FM jc J L p f sp = FM jc J' L p f sp := by
  have e : FMs jc J p f sp = FMs jc J' p f sp := by
    funext a c
    by_cases z : c.1 = p ∧ c.2.1 = f ∧ Mr jc J c.2.2.2.2 sp
    · rw [FMs_y z, FMs_y ⟨z.1, z.2.1, (Mr_congr h).mp z.2.2⟩]
    · rw [FMs_n z, FMs_n (fun y => z ⟨y.1, y.2.1, (Mr_congr h).mpr y.2.2⟩)]
  unfold FM
  rw [e]
theorem rsl_mem {J hd : Int → Int} : ∀ {k : Nat} {r : Int × Int}, r ∈ rsl J hd k ↔ ∃ j : Int, 0 ≤ j ∧ j < k ∧ hd j ≠ -1 ∧ r = (J j, hd j)
  | 0, r => by
    simp only [rsl, List.not_mem_nil, false_iff]
    rintro ⟨j, a, b, -⟩
    omega
  | k + 1, r => by
    have ih := rsl_mem (J := J) (hd := hd) (k := k) (r := r)
    simp only [rsl]
    by_cases c : hd (k : Int) = -1
    · rw [if_pos c, ih]
      constructor
      · rintro ⟨j, a, b, e⟩
        exact ⟨j, a, by omega, e⟩
      · rintro ⟨j, a, b, e⟩
        refine ⟨j, a, ?_, e⟩
        have : j ≠ k := fun z => e.1 (by rw [z]; exact c)
        omega
    · rw [if_neg c, List.mem_append, ih]
      constructor
      · rintro (⟨j, a, b, e⟩ | h)
        · exact ⟨j, a, by omega, e⟩
        · rw [List.mem_singleton.mp h]
          exact ⟨k, by omega, by omega, c, rfl⟩
      · rintro ⟨j, a, b, e⟩
        by_cases z : j = k
        · subst z
          exact Or.inr (by rw [e.2]; exact List.mem_singleton.mpr rfl)
        · exact Or.inl ⟨j, a, by omega, e⟩
theorem Mr_rsl {jc : Int} {J hd : Int → Int} {sp : Int} (hj : 0 ≤ jc) (hJ : ∀ i j, 0 ≤ i → i < jc → 0 ≤ j → j < jc → J i = J j → i = j) : Mr jc J (rsl J hd jc.toNat) sp ↔ Mh jc hd sp := by
  constructor
  · intro m j a b
    by_cases c : hd j = -1
    · exact Or.inl c
    · exact Or.inr (m (J j, hd j) (rsl_mem.mpr ⟨j, a, by omega, c, rfl⟩) j a b rfl).symm
  · intro m r hr j a b e
    obtain ⟨i, i0, i1, i2, rfl⟩ := rsl_mem.mp hr
    have := hJ j i a b i0 (by omega) e
    subst this
    exact ((m j a b).resolve_left i2).symm
theorem JB.inj {σ : Mem} {p : Int} (h : JB σ p) : ∀ i j, 0 ≤ i → i < σ 3 p 0 0 → 0 ≤ j → j < σ 3 p 0 0 → σ 3 p 1 i = σ 3 p 1 j → i = j := by
  intro i j a b c d e
  rcases Int.lt_trichotomy i j with z | z | z
  · have := (h j c d).2 i a z; omega
  · exact z
  · have := (h i a b).2 j c z; omega
/-- the class's floors are what its cuts say -/
def FlO (σ : Mem) (L : List CutT) : Prop := ∀ p f sp, 0 ≤ p → p < 4 → 0 ≤ f → f < 4 → Vs (σ 3 p 0 0) (σ 3 p 2) sp → σ 3 p 11 (f * 64 + sp) = FM (σ 3 p 0 0) (σ 3 p 1) L p f sp
/-! ===== plans: what they cost ===== -/
noncomputable def gA (σ : Mem) (p : Int) (d : Int → Int) (f : Int) : Int := AnC σ p (spt (σ 3 p 0 0) (fun j => d (σ 3 p 1 j))) f
noncomputable def gL (σ : Mem) (L : List CutT) (p : Int) (d : Int → Int) (f : Int) : Int := FM (σ 3 p 0 0) (σ 3 p 1) L p f (spt (σ 3 p 0 0) (fun j => d (σ 3 p 1 j)))
def FG (σ : Mem) (g : Int → (Int → Int) → Int → Int) (d : Int → Int) : Prop := (∀ c, 0 ≤ c → c < σ 0 0 0 0 → σ 0 0 2 (c * 4 + d c) ≠ -4) ∧ ∀ p, 0 ≤ p → p < σ 5 0 3 0 → ∀ f, 0 ≤ f → f < σ 2 0 0 0 → g p d f ≠ -4
def CG (σ : Mem) (g : Int → (Int → Int) → Int → Int) (d : Int → Int) : Int := sm (σ 0 0 0 0).toNat (fun c => σ 0 0 2 (c * 4 + d c)) * sm (σ 2 0 0 0).toNat (σ 2 0 1) + sm (σ 5 0 3 0).toNat (fun p => sm (σ 2 0 0 0).toNat (fun f => σ 2 0 1 f * g p d f))
theorem stl_bd {σ : Mem} {p : Int} (h : CW σ) (p0 : 0 ≤ p) (p1 : p < 4) : 0 ≤ stl σ p ∧ stl σ p ≤ σ 0 0 0 0 := by
  obtain ⟨a1, -, -, a4⟩ := h.2.2.2 p p0 p1
  have := h.1.1
  unfold stl
  split
  · omega
  · have b := (a1.2.2.2.1 (σ 3 p 0 0 - 1) (by have := a1.1; omega) (by omega)).1
    have c := (a4 (σ 3 p 0 0 - 1) (by have := a1.1; omega) (by omega)).1
    omega
theorem pco_iff {σ : Mem} {by_ p : Int} {d : Int → Int} (h : CW σ) (p0 : 0 ≤ p) (p1 : p < 4) (hd : ∀ c, 0 ≤ c → c < 6 → 0 ≤ d c ∧ d c < 4) : (pco σ by_ p d = -4 ↔ ∃ f, 0 ≤ f ∧ f < σ 2 0 0 0 ∧ gC σ by_ p d f = -4) ∧ ((∀ f, 0 ≤ f → f < σ 2 0 0 0 → gC σ by_ p d f ≠ -4) → pco σ by_ p d = sm (σ 2 0 0 0).toNat (fun f => σ 2 0 1 f * gC σ by_ p d f)) := by
  refine ⟨⟨fun e => ?_, fun e => cst_none e⟩, fun e => cst_some e⟩
  apply Classical.byContradiction
  intro hc
  have hn : ∀ f, 0 ≤ f → f < σ 2 0 0 0 → gC σ by_ p d f ≠ -4 := fun f a b z => hc ⟨f, a, b, z⟩
  have e2 : pco σ by_ p d = sm (σ 2 0 0 0).toNat (fun f => σ 2 0 1 f * gC σ by_ p d f) := cst_some hn
  have hf := h.2.1
  have := sm_bd (f := fun f => σ 2 0 1 f * gC σ by_ p d f) (lo := 0) (hi := 12000) (n := (σ 2 0 0 0).toNat) (fun f a b => by
    have b1 := hf.2 f a (by omega)
    have b2 := gC_bd (by_ := by_) h p0 p1 hd f a (by have := hf.1; omega)
    have b3 := hn f a (by omega)
    exact mul_bd (A := 20) (B := 600) (by omega) (by omega) (by omega) (by omega))
  omega
theorem sm_pick {N : Nat} {s : Int} {X : Int} (h0 : 0 ≤ s) (h1 : s < N) : sm N (fun i => if s = i then X else 0) = X := by
  induction N with
  | zero => omega
  | succ n ih =>
    simp only [sm]
    by_cases c : s = n
    · rw [if_pos c]
      have : sm n (fun i => if s = i then X else 0) = 0 := by
        rw [sm_congr (g := fun _ => 0) (fun i a b => if_neg (by omega))]
        exact sm_0
      omega
    · rw [if_neg c, ih (by omega)]
      omega
theorem sm_swap {F : Int → Int → Int} {N : Nat} : ∀ {M : Nat}, sm M (fun a => sm N (fun b => F a b)) = sm N (fun b => sm M (fun a => F a b))
  | 0 => by
    simp only [sm]
    exact sm_0.symm
  | M + 1 => by
    simp only [sm]
    rw [sm_swap (M := M), ← sm_add]
theorem sm_shift {F : Int → Int} : ∀ {N : Nat}, sm (N + 1) (fun s => if 0 < s then F (s - 1) else 0) = sm N F
  | 0 => by simp [sm]
  | N + 1 => by
    have ih := sm_shift (F := F) (N := N)
    show sm (N + 1) (fun s => if 0 < s then F (s - 1) else 0) + (if 0 < ((N + 1 : Nat) : Int) then F (((N + 1 : Nat) : Int) - 1) else 0) = sm N F + F (N : Int)
    rw [ih, if_pos (by omega), show ((N + 1 : Nat) : Int) - 1 = (N : Int) by omega]
theorem stage_plan {σ : Mem} {by_ : Int} {d : Int → Int} (h : CW σ) (hd : ∀ c, 0 ≤ c → c < 6 → 0 ≤ d c ∧ d c < 4) : ((∀ s, 0 ≤ s → s ≤ σ 0 0 0 0 → ¬ badS σ by_ s d) ↔ FG σ (gC σ by_) d) ∧ (FG σ (gC σ by_) d → sm (σ 0 0 0 0 + 1).toNat (fun s => valS σ by_ s d) = CG σ (gC σ by_) d) := by
  have hc := h.1.1
  have hP := h.2.2.1
  constructor
  · constructor
    · intro hs
      refine ⟨fun c a b z => hs (c + 1) (by omega) (by omega) (Or.inl ⟨by omega, ?_⟩), fun p a b f f0 f1 z => ?_⟩
      · rw [show c + 1 - 1 = c by omega]; exact z
      · have q := stl_bd h a (by omega)
        exact hs (stl σ p) q.1 q.2 (Or.inr ⟨p, a, b, rfl, (pco_iff h a (by omega) hd).1.mpr ⟨f, f0, f1, z⟩⟩)
    · rintro ⟨g1, g2⟩ s a b (⟨z1, z2⟩ | ⟨p, p0, p1, p2, p3⟩)
      · exact g1 (s - 1) (by omega) (by omega) z2
      · obtain ⟨f, f0, f1, z⟩ := (pco_iff h p0 (by omega) hd).1.mp p3
        exact g2 p p0 p1 f f0 f1 z
  · rintro ⟨g1, g2⟩
    have e0 : (σ 0 0 0 0 + 1).toNat = (σ 0 0 0 0).toNat + 1 := by omega
    unfold valS CG
    rw [sm_add, e0]
    congr 1
    · exact (sm_shift (F := fun c => σ 0 0 2 (c * 4 + d c) * sm (σ 2 0 0 0).toNat (σ 2 0 1)) (N := (σ 0 0 0 0).toNat)).trans sm_mul
    · rw [sm_swap]
      refine sm_congr (fun p a b => ?_)
      have q := stl_bd h a (by omega)
      rw [sm_pick q.1 (by omega)]
      exact (pco_iff h a (by omega) hd).2 (fun f f0 f1 => g2 p a (by omega) f f0 f1)
theorem Srch.congr2 {V F V' F' : Int → Prop} {pr pr' : Int → Int} {T x b : Int} (hV : ∀ t, V t ↔ V' t) (hF : ∀ t, V t → (F t ↔ F' t)) (hp : ∀ t, V t → F t → pr t = pr' t) (h : Srch V F pr T x b) : Srch V' F' pr' T x b := by
  rcases h with ⟨h1, h2⟩ | ⟨h1, h2, h3, h4, h5, h6⟩
  · exact Or.inl ⟨h1, fun t ht hv hf => h2 t ht ((hV t).mpr hv) ((hF t ((hV t).mpr hv)).mpr hf)⟩
  · exact Or.inr ⟨h1, (hV b).mp h2, (hF b h2).mp h3, h4, (hp b h2 h3) ▸ h5, fun t ht hv hf => by
      have hv' := (hV t).mpr hv
      have hf' := (hF t hv').mpr hf
      rw [← hp t hv' hf']
      exact h6 t ht hv' hf'⟩
theorem FG_congr {σ : Mem} {g g' : Int → (Int → Int) → Int → Int} {d : Int → Int} (h : ∀ p, 0 ≤ p → p < σ 5 0 3 0 → ∀ f, 0 ≤ f → f < σ 2 0 0 0 → g p d f = g' p d f) : FG σ g d ↔ FG σ g' d := ⟨fun z => ⟨z.1, fun p a b f c e => by rw [← h p a b f c e]; exact z.2 p a b f c e⟩, fun z => ⟨z.1, fun p a b f c e => by rw [h p a b f c e]; exact z.2 p a b f c e⟩⟩
theorem CG_congr {σ : Mem} {g g' : Int → (Int → Int) → Int → Int} {d : Int → Int} (h : ∀ p, 0 ≤ p → p < σ 5 0 3 0 → ∀ f, 0 ≤ f → f < σ 2 0 0 0 → g p d f = g' p d f) : CG σ g d = CG σ g' d := by
  unfold CG
  congr 1
  refine sm_congr (fun p a b => sm_congr (fun f c e => ?_))
  rw [h p a (by omega) f c (by omega)]
/-- what a plan is, and what it costs by g, in a search -/
def FGt (σ : Mem) (g : Int → (Int → Int) → Int → Int) (t : Int) : Prop := FG σ g (pD t)
def CGt (σ : Mem) (g : Int → (Int → Int) → Int → Int) (t : Int) : Int := CG σ g (pD t)
theorem dval {σ : Mem} {p : Int} {d : Int → Int} (h : CW σ) (p0 : 0 ≤ p) (p1 : p < 4) (hd : ∀ c, 0 ≤ c → c < 6 → 0 ≤ d c ∧ d c ≤ Tch σ c) (hs : ∀ j, 0 ≤ j → j < σ 3 p 0 0 → σ 3 p 2 j = σ 0 0 1 (σ 3 p 1 j)) : Vs (σ 3 p 0 0) (σ 3 p 2) (spt (σ 3 p 0 0) (fun j => d (σ 3 p 1 j))) := by
  obtain ⟨a1, -, -, a4⟩ := h.2.2.2 p p0 p1
  have hj := a1.1
  have hT := fun c c0 => Tch_bd h.1 c c0
  have hd4 : ∀ j, 0 ≤ j → j < σ 3 p 0 0 → 0 ≤ d (σ 3 p 1 j) ∧ d (σ 3 p 1 j) < 4 := fun j a b => by
    have q := (a1.2.2.2.1 j a b).1
    have := hd _ q.1 q.2
    have := hT (σ 3 p 1 j) q.1
    omega
  have hb := spt_bd (n := σ 3 p 0 0) (d := fun j => d (σ 3 p 1 j)) hj.2 hd4
  refine ⟨hb, fun j a b => ?_⟩
  split
  · rename_i c
    rw [spt_dS hj.2 hd4 j a c, hs j a c]
    have q := (a1.2.2.2.1 j a c).1
    have q2 := (a4 j a c).1
    have := (hd _ q.1 q.2).2
    unfold Tch tpv at this
    rw [if_pos q2] at this
    have this : d (σ 3 p 1 j) ≤ σ 0 0 1 (σ 3 p 1 j) - 1 := this
    show d (σ 3 p 1 j) < _
    omega
  · rename_i c
    have : dS (spt (σ 3 p 0 0) (fun j => d (σ 3 p 1 j))) j = 0 := by
      unfold spt dS
      have h0 := hd4 0
      have h1 := hd4 1
      have h2 := hd4 2
      rcases (by omega : σ 3 p 0 0 = 0 ∨ σ 3 p 0 0 = 1 ∨ σ 3 p 0 0 = 2 ∨ σ 3 p 0 0 = 3) with e | e | e | e <;> rw [e] at c h0 h1 h2 ⊢ <;> rcases (by omega : j = 0 ∨ j = 1 ∨ j = 2) with rfl | rfl | rfl <;> simp at c h0 h1 h2 ⊢ <;> omega
    omega

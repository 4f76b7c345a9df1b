abbrev Mem : Type := Nat → Int → Nat → Int → Int
abbrev Ky : Type := Nat × Int × Nat
abbrev Tc : Type := ClassId × ClassId × ClassId
def oI (x : Int) : Int32 := Int32.ofInt x
def InR (x : Int) : Prop := -2147483648 ≤ x ∧ x ≤ 2147483647
def up (σ : Mem) (c : Nat) (p : Int) (k : Nat) (i x : Int) : Mem := fun c' p' k' i' => if c' = c ∧ p' = p ∧ k' = k ∧ i' = i then x else σ c' p' k' i'
/-- a whole int array filled -/
def fl (σ : Mem) (c : Nat) (p : Int) (k : Nat) (n x : Int) : Mem := fun c' p' k' i' => if c' = c ∧ p' = p ∧ k' = k ∧ 0 ≤ i' ∧ i' < n then x else σ c' p' k' i'
/-- the first n places of one int array copied to another -/
def cp (σ : Mem) (c : Nat) (p : Int) (k : Nat) (c2 : Nat) (p2 : Int) (k2 : Nat) (n : Int) : Mem := fun c' p' k' i' => if c' = c2 ∧ p' = p2 ∧ k' = k2 ∧ 0 ≤ i' ∧ i' < n then σ c p k i' else σ c' p' k' i'
def aln (c k : Nat) : Nat := match c, k with
  | 0, 1 => 6
  | 0, 2 => 24
  | 0, 3 => 6
  | 1, 1 => 200
  | 1, 2 => 200
  | 1, 3 => 200
  | 1, 4 => 200
  | 1, 5 => 200
  | 1, 6 => 600
  | 2, 1 => 4
  | 3, 1 => 3
  | 3, 2 => 3
  | 3, 4 => 4
  | 3, 5 => 4
  | 3, 7 => 6
  | 3, 8 => 60
  | 3, 9 => 24
  | 3, 10 => 256
  | 3, 11 => 256
  | 3, 12 => 6
  | 3, 13 => 4
  | 3, 14 => 4
  | 3, 15 => 3
  | 4, 4 => 6
  | 4, 5 => 6
  | 5, 6 => 6
  | 5, 7 => 7
  | 5, 8 => 6
  | 6, 1 => 6
  | 6, 2 => 24
  | 6, 3 => 24
  | 6, 4 => 6
  | 6, 6 => 4
  | 6, 8 => 4
  | 6, 9 => 12
  | 6, 10 => 4
  | 6, 11 => 16
  | 6, 12 => 16
  | 6, 13 => 4
  | 6, 14 => 24
  | 6, 15 => 96
  | 6, 16 => 144
  | 6, 17 => 96
  | 6, 19 => 200
  | 6, 20 => 200
  | 6, 21 => 200
  | 6, 22 => 200
  | 6, 23 => 200
  | 6, 24 => 200
  | 6, 25 => 600
  | 6, 26 => 600
  | 6, 33 => 6
  | 6, 34 => 6
  | 6, 35 => 6
  | 6, 36 => 4
  | 6, 37 => 4
  | 6, 38 => 1024
  | 6, 39 => 1024
  | 6, 40 => 6
  | 6, 41 => 1024
  | _, _ => 0
def isZ (c k : Nat) : Bool := match c, k with
  | 6, 3 => true
  | 6, 19 => true
  | 6, 38 => true
  | _, _ => false
def keys : List Ky := [(0, 0, 0), (0, 0, 2), (0, 0, 3), (0, 0, 4), (1, 0, 0), (1, 0, 2), (1, 0, 3), (1, 0, 4), (1, 0, 5), (1, 0, 6), (1, 0, 7), (2, 0, 0), (2, 0, 2), (3, 0, 0), (3, 0, 2), (3, 0, 3), (3, 0, 5), (3, 0, 6), (3, 0, 8), (3, 0, 9), (3, 0, 10), (3, 0, 11), (3, 0, 12), (3, 0, 13), (3, 0, 14), (3, 0, 15), (3, 0, 16), (3, 1, 0), (3, 1, 2), (3, 1, 3), (3, 1, 5), (3, 1, 6), (3, 1, 8), (3, 1, 9), (3, 1, 10), (3, 1, 11), (3, 1, 12), (3, 1, 13), (3, 1, 14), (3, 1, 15), (3, 1, 16), (3, 2, 0), (3, 2, 2), (3, 2, 3), (3, 2, 5), (3, 2, 6), (3, 2, 8), (3, 2, 9), (3, 2, 10), (3, 2, 11), (3, 2, 12), (3, 2, 13), (3, 2, 14), (3, 2, 15), (3, 2, 16), (3, 3, 0), (3, 3, 2), (3, 3, 3), (3, 3, 5), (3, 3, 6), (3, 3, 8), (3, 3, 9), (3, 3, 10), (3, 3, 11), (3, 3, 12), (3, 3, 13), (3, 3, 14), (3, 3, 15), (3, 3, 16), (4, 0, 0), (4, 0, 5), (4, 0, 6), (5, 0, 0), (5, 0, 3), (5, 0, 7), (5, 0, 8), (5, 0, 9), (6, 0, 0), (6, 0, 2), (6, 0, 3), (6, 0, 4), (6, 0, 5), (6, 0, 7), (6, 0, 9), (6, 0, 10), (6, 0, 11), (6, 0, 12), (6, 0, 13), (6, 0, 14), (6, 0, 15), (6, 0, 16), (6, 0, 17), (6, 0, 18), (6, 0, 20), (6, 0, 21), (6, 0, 22), (6, 0, 23), (6, 0, 24), (6, 0, 25), (6, 0, 26), (6, 0, 27), (6, 0, 34), (6, 0, 35), (6, 0, 36), (6, 0, 37), (6, 0, 38), (6, 0, 39), (6, 0, 40), (6, 0, 41), (6, 0, 42)]
def fvs (ad : Ky → Nat) (σ : Mem) (c : Nat) (p : Int) : List Value := match c with
  | 0 => [.int (oI (σ 0 p 0 0)), .ref (ad (0, p, 2)), .ref (ad (0, p, 3)), .ref (ad (0, p, 4))]
  | 1 => [.int (oI (σ 1 p 0 0)), .ref (ad (1, p, 2)), .ref (ad (1, p, 3)), .ref (ad (1, p, 4)), .ref (ad (1, p, 5)), .ref (ad (1, p, 6)), .ref (ad (1, p, 7))]
  | 2 => [.int (oI (σ 2 p 0 0)), .ref (ad (2, p, 2))]
  | 3 => [.int (oI (σ 3 p 0 0)), .ref (ad (3, p, 2)), .ref (ad (3, p, 3)), .int (oI (σ 3 p 3 0)), .ref (ad (3, p, 5)), .ref (ad (3, p, 6)), .int (oI (σ 3 p 6 0)), .ref (ad (3, p, 8)), .ref (ad (3, p, 9)), .ref (ad (3, p, 10)), .ref (ad (3, p, 11)), .ref (ad (3, p, 12)), .ref (ad (3, p, 13)), .ref (ad (3, p, 14)), .ref (ad (3, p, 15)), .ref (ad (3, p, 16))]
  | 4 => [.int (oI (σ 4 p 0 0)), .int (oI (σ 4 p 1 0)), .int (oI (σ 4 p 2 0)), .int (oI (σ 4 p 3 0)), .ref (ad (4, p, 5)), .ref (ad (4, p, 6))]
  | 5 => [.ref (ad (0, 0, 0)), .ref (ad (2, 0, 0)), .ref (ad (5, p, 3)), .int (oI (σ 5 p 3 0)), .ref (ad (1, 0, 0)), .ref (ad (4, 0, 0)), .ref (ad (5, p, 7)), .ref (ad (5, p, 8)), .ref (ad (5, p, 9)), .int (oI (σ 5 p 9 0))]
  | _ => [.int (oI (σ 6 p 0 0)), .ref (ad (6, p, 2)), .ref (ad (6, p, 3)), .ref (ad (6, p, 4)), .ref (ad (6, p, 5)), .int (oI (σ 6 p 5 0)), .ref (ad (6, p, 7)), .int (oI (σ 6 p 7 0)), .ref (ad (6, p, 9)), .ref (ad (6, p, 10)), .ref (ad (6, p, 11)), .ref (ad (6, p, 12)), .ref (ad (6, p, 13)), .ref (ad (6, p, 14)), .ref (ad (6, p, 15)), .ref (ad (6, p, 16)), .ref (ad (6, p, 17)), .ref (ad (6, p, 18)), .int (oI (σ 6 p 18 0)), .ref (ad (6, p, 20)), .ref (ad (6, p, 21)), .ref (ad (6, p, 22)), .ref (ad (6, p, 23)), .ref (ad (6, p, 24)), .ref (ad (6, p, 25)), .ref (ad (6, p, 26)), .ref (ad (6, p, 27)), .int (oI (σ 6 p 27 0)), .int (oI (σ 6 p 28 0)), .int (oI (σ 6 p 29 0)), .int (oI (σ 6 p 30 0)), .int (oI (σ 6 p 31 0)), .int (oI (σ 6 p 32 0)), .ref (ad (6, p, 34)), .ref (ad (6, p, 35)), .ref (ad (6, p, 36)), .ref (ad (6, p, 37)), .ref (ad (6, p, 38)), .ref (ad (6, p, 39)), .ref (ad (6, p, 40)), .ref (ad (6, p, 41)), .ref (ad (6, p, 42))]
def cel (ad : Ky → Nat) (tc : Tc) (σ : Mem) (q : Ky) : va_E := match q with
  | (c, p, 0) => .inr (c, fvs ad σ c p)
  | (c, p, k + 1) => if c = 5 ∧ k = 2 then .inl (tc.2.2, 4, .inr (.inr (.inr (.inr (fun j => some (ad (3, (j : Int), 0))))))) else .inl (if isZ c k = true then tc.2.1 else tc.1, aln c k, .inl (fun j => oI (σ c p k (j : Int))))
def wS (ad : Ky → Nat) (tc : Tc) (σ : Mem) : va_W := keys.map (fun q => (ad q, cel ad tc σ q))
theorem keys_nd : keys.Nodup := by decide +kernel
theorem wS_at {ad : Ky → Nat} {tc : Tc} {σ : Mem} {q : Ky} {i : Nat} (hi : keys[i]? = some q) : (wS ad tc σ)[i]? = some (ad q, cel ad tc σ q) := by
  unfold wS
  rw [List.getElem?_map, hi]
  rfl
theorem keys_ix {q : Ky} (h : q ∈ keys) : ∃ i : Nat, keys[i]? = some q := List.getElem?_of_mem h
theorem map_set {γ : Type} {f g : Ky → γ} {l : List Ky} (nd : l.Nodup) {i : Nat} {q : Ky} (hi : l[i]? = some q) (hg : ∀ q' ∈ l, q' ≠ q → g q' = f q') : (l.map f).set i (g q) = l.map g := by
  have hl : i < l.length := (List.getElem?_eq_some_iff.mp hi).1
  apply List.ext_getElem?
  intro j
  by_cases hj : j = i
  · subst hj
    rw [List.getElem?_set_self (by rw [List.length_map]; exact hl), List.getElem?_map, hi]
    rfl
  · rw [List.getElem?_set_ne (Ne.symm hj), List.getElem?_map, List.getElem?_map]
    cases hq : l[j]? with
    | none => rfl
    | some q' =>
      have hne : q' ≠ q := by
        intro e
        subst e
        have hjl : j < l.length := (List.getElem?_eq_some_iff.mp hq).1
        exact hj ((List.getElem_inj nd).mp ((List.getElem?_eq_some_iff.mp hq).2.trans (List.getElem?_eq_some_iff.mp hi).2.symm))
      simp [hg q' (List.mem_of_getElem? hq) hne]
theorem wS_set {ad : Ky → Nat} {tc : Tc} {σ σ' : Mem} {q : Ky} {i : Nat} (hi : keys[i]? = some q) (h : ∀ q' ∈ keys, q' ≠ q → cel ad tc σ' q' = cel ad tc σ q') : (wS ad tc σ).set i (ad q, cel ad tc σ' q) = wS ad tc σ' := by
  unfold wS
  exact map_set (f := fun q => (ad q, cel ad tc σ q)) (g := fun q => (ad q, cel ad tc σ' q)) keys_nd hi (fun q' h1 h2 => by rw [h q' h1 h2])
def adI (ad : Ky → Nat) : Prop := ∀ q ∈ keys, ∀ q' ∈ keys, ad q = ad q' → q = q'
theorem wS_D {ad : Ky → Nat} {tc : Tc} {σ : Mem} {A : Nat → Prop} (hi : adI ad) (hA : ∀ q ∈ keys, A (ad q)) : va_D A (wS ad tc σ) := by
  have key : ∀ (k : Nat) (x : Nat × va_E), (wS ad tc σ)[k]? = some x → ∃ q, keys[k]? = some q ∧ x.1 = ad q := by
    intro k x hx
    unfold wS at hx
    rw [List.getElem?_map] at hx
    cases hq : keys[k]? with
    | none => rw [hq] at hx; cases hx
    | some q => rw [hq] at hx; cases hx; exact ⟨q, rfl, rfl⟩
  refine ⟨fun i j x y hx hy he => ?_, fun k x hx => ?_⟩
  · obtain ⟨q, h1, h2⟩ := key i x hx
    obtain ⟨q', h3, h4⟩ := key j y hy
    have e : q = q' := hi q (List.mem_of_getElem? h1) q' (List.mem_of_getElem? h3) (by rw [← h2, ← h4, he])
    subst e
    exact (List.getElem_inj keys_nd).mp ((List.getElem?_eq_some_iff.mp h1).2.trans (List.getElem?_eq_some_iff.mp h3).2.symm)
  · obtain ⟨q, h1, h2⟩ := key k x hx
    rw [h2]
    exact hA q (List.mem_of_getElem? h1)
/-- array cells of the world: their keys hold an int (boolean) array of n places -/
def Arr (c : Nat) (p : Int) (k n : Nat) : Prop := (c, p, k + 1) ∈ keys ∧ ¬ (c = 5 ∧ k = 2) ∧ isZ c k = false ∧ aln c k = n
def ArrZ (c : Nat) (p : Int) (k n : Nat) : Prop := (c, p, k + 1) ∈ keys ∧ ¬ (c = 5 ∧ k = 2) ∧ isZ c k = true ∧ aln c k = n
theorem p4 {P : Int → Prop} (h0 : P 0) (h1 : P 1) (h2 : P 2) (h3 : P 3) {p : Int} (hp : 0 ≤ p ∧ p < 4) : P p := by
  rcases (by omega : p = 0 ∨ p = 1 ∨ p = 2 ∨ p = 3) with h | h | h | h <;> subst h
  · exact h0
  · exact h1
  · exact h2
  · exact h3
theorem ob_0 : ((0, 0, 0) : Ky) ∈ keys := by decide +kernel
theorem ar_0_1 : Arr 0 0 1 6 := ⟨by decide +kernel, by decide, rfl, rfl⟩
theorem ar_0_2 : Arr 0 0 2 24 := ⟨by decide +kernel, by decide, rfl, rfl⟩
theorem ar_0_3 : Arr 0 0 3 6 := ⟨by decide +kernel, by decide, rfl, rfl⟩
theorem ob_1 : ((1, 0, 0) : Ky) ∈ keys := by decide +kernel
theorem ar_1_1 : Arr 1 0 1 200 := ⟨by decide +kernel, by decide, rfl, rfl⟩
theorem ar_1_2 : Arr 1 0 2 200 := ⟨by decide +kernel, by decide, rfl, rfl⟩
theorem ar_1_3 : Arr 1 0 3 200 := ⟨by decide +kernel, by decide, rfl, rfl⟩
theorem ar_1_4 : Arr 1 0 4 200 := ⟨by decide +kernel, by decide, rfl, rfl⟩
theorem ar_1_5 : Arr 1 0 5 200 := ⟨by decide +kernel, by decide, rfl, rfl⟩
theorem ar_1_6 : Arr 1 0 6 600 := ⟨by decide +kernel, by decide, rfl, rfl⟩
theorem ob_2 : ((2, 0, 0) : Ky) ∈ keys := by decide +kernel
theorem ar_2_1 : Arr 2 0 1 4 := ⟨by decide +kernel, by decide, rfl, rfl⟩
theorem ob_3 {p : Int} (hp : 0 ≤ p ∧ p < 4) : ((3, p, 0) : Ky) ∈ keys := p4 (P := fun p => ((3, p, 0) : Ky) ∈ keys) (by decide +kernel) (by decide +kernel) (by decide +kernel) (by decide +kernel) hp
theorem ar_3_1 {p : Int} (hp : 0 ≤ p ∧ p < 4) : Arr 3 p 1 3 := ⟨p4 (P := fun p => ((3, p, 2) : Ky) ∈ keys) (by decide +kernel) (by decide +kernel) (by decide +kernel) (by decide +kernel) hp, by decide, rfl, rfl⟩
theorem ar_3_2 {p : Int} (hp : 0 ≤ p ∧ p < 4) : Arr 3 p 2 3 := ⟨p4 (P := fun p => ((3, p, 3) : Ky) ∈ keys) (by decide +kernel) (by decide +kernel) (by decide +kernel) (by decide +kernel) hp, by decide, rfl, rfl⟩
theorem ar_3_4 {p : Int} (hp : 0 ≤ p ∧ p < 4) : Arr 3 p 4 4 := ⟨p4 (P := fun p => ((3, p, 5) : Ky) ∈ keys) (by decide +kernel) (by decide +kernel) (by decide +kernel) (by decide +kernel) hp, by decide, rfl, rfl⟩
theorem ar_3_5 {p : Int} (hp : 0 ≤ p ∧ p < 4) : Arr 3 p 5 4 := ⟨p4 (P := fun p => ((3, p, 6) : Ky) ∈ keys) (by decide +kernel) (by decide +kernel) (by decide +kernel) (by decide +kernel) hp, by decide, rfl, rfl⟩
theorem ar_3_7 {p : Int} (hp : 0 ≤ p ∧ p < 4) : Arr 3 p 7 6 := ⟨p4 (P := fun p => ((3, p, 8) : Ky) ∈ keys) (by decide +kernel) (by decide +kernel) (by decide +kernel) (by decide +kernel) hp, by decide, rfl, rfl⟩
theorem ar_3_8 {p : Int} (hp : 0 ≤ p ∧ p < 4) : Arr 3 p 8 60 := ⟨p4 (P := fun p => ((3, p, 9) : Ky) ∈ keys) (by decide +kernel) (by decide +kernel) (by decide +kernel) (by decide +kernel) hp, by decide, rfl, rfl⟩
theorem ar_3_9 {p : Int} (hp : 0 ≤ p ∧ p < 4) : Arr 3 p 9 24 := ⟨p4 (P := fun p => ((3, p, 10) : Ky) ∈ keys) (by decide +kernel) (by decide +kernel) (by decide +kernel) (by decide +kernel) hp, by decide, rfl, rfl⟩
theorem ar_3_10 {p : Int} (hp : 0 ≤ p ∧ p < 4) : Arr 3 p 10 256 := ⟨p4 (P := fun p => ((3, p, 11) : Ky) ∈ keys) (by decide +kernel) (by decide +kernel) (by decide +kernel) (by decide +kernel) hp, by decide, rfl, rfl⟩
theorem ar_3_11 {p : Int} (hp : 0 ≤ p ∧ p < 4) : Arr 3 p 11 256 := ⟨p4 (P := fun p => ((3, p, 12) : Ky) ∈ keys) (by decide +kernel) (by decide +kernel) (by decide +kernel) (by decide +kernel) hp, by decide, rfl, rfl⟩
theorem ar_3_12 {p : Int} (hp : 0 ≤ p ∧ p < 4) : Arr 3 p 12 6 := ⟨p4 (P := fun p => ((3, p, 13) : Ky) ∈ keys) (by decide +kernel) (by decide +kernel) (by decide +kernel) (by decide +kernel) hp, by decide, rfl, rfl⟩
theorem ar_3_13 {p : Int} (hp : 0 ≤ p ∧ p < 4) : Arr 3 p 13 4 := ⟨p4 (P := fun p => ((3, p, 14) : Ky) ∈ keys) (by decide +kernel) (by decide +kernel) (by decide +kernel) (by decide +kernel) hp, by decide, rfl, rfl⟩
theorem ar_3_14 {p : Int} (hp : 0 ≤ p ∧ p < 4) : Arr 3 p 14 4 := ⟨p4 (P := fun p => ((3, p, 15) : Ky) ∈ keys) (by decide +kernel) (by decide +kernel) (by decide +kernel) (by decide +kernel) hp, by decide, rfl, rfl⟩
theorem ar_3_15 {p : Int} (hp : 0 ≤ p ∧ p < 4) : Arr 3 p 15 3 := ⟨p4 (P := fun p => ((3, p, 16) : Ky) ∈ keys) (by decide +kernel) (by decide +kernel) (by decide +kernel) (by decide +kernel) hp, by decide, rfl, rfl⟩
theorem ob_4 : ((4, 0, 0) : Ky) ∈ keys := by decide +kernel
theorem ar_4_4 : Arr 4 0 4 6 := ⟨by decide +kernel, by decide, rfl, rfl⟩
theorem ar_4_5 : Arr 4 0 5 6 := ⟨by decide +kernel, by decide, rfl, rfl⟩
theorem ob_5 : ((5, 0, 0) : Ky) ∈ keys := by decide +kernel
theorem ar_5_6 : Arr 5 0 6 6 := ⟨by decide +kernel, by decide, rfl, rfl⟩
theorem ar_5_7 : Arr 5 0 7 7 := ⟨by decide +kernel, by decide, rfl, rfl⟩
theorem ar_5_8 : Arr 5 0 8 6 := ⟨by decide +kernel, by decide, rfl, rfl⟩
theorem ob_6 : ((6, 0, 0) : Ky) ∈ keys := by decide +kernel
theorem ar_6_1 : Arr 6 0 1 6 := ⟨by decide +kernel, by decide, rfl, rfl⟩
theorem ar_6_2 : Arr 6 0 2 24 := ⟨by decide +kernel, by decide, rfl, rfl⟩
theorem ar_6_3 : ArrZ 6 0 3 24 := ⟨by decide +kernel, by decide, rfl, rfl⟩
theorem ar_6_4 : Arr 6 0 4 6 := ⟨by decide +kernel, by decide, rfl, rfl⟩
theorem ar_6_6 : Arr 6 0 6 4 := ⟨by decide +kernel, by decide, rfl, rfl⟩
theorem ar_6_8 : Arr 6 0 8 4 := ⟨by decide +kernel, by decide, rfl, rfl⟩
theorem ar_6_9 : Arr 6 0 9 12 := ⟨by decide +kernel, by decide, rfl, rfl⟩
theorem ar_6_10 : Arr 6 0 10 4 := ⟨by decide +kernel, by decide, rfl, rfl⟩
theorem ar_6_11 : Arr 6 0 11 16 := ⟨by decide +kernel, by decide, rfl, rfl⟩
theorem ar_6_12 : Arr 6 0 12 16 := ⟨by decide +kernel, by decide, rfl, rfl⟩
theorem ar_6_13 : Arr 6 0 13 4 := ⟨by decide +kernel, by decide, rfl, rfl⟩
theorem ar_6_14 : Arr 6 0 14 24 := ⟨by decide +kernel, by decide, rfl, rfl⟩
theorem ar_6_15 : Arr 6 0 15 96 := ⟨by decide +kernel, by decide, rfl, rfl⟩
theorem ar_6_16 : Arr 6 0 16 144 := ⟨by decide +kernel, by decide, rfl, rfl⟩
theorem ar_6_17 : Arr 6 0 17 96 := ⟨by decide +kernel, by decide, rfl, rfl⟩
theorem ar_6_19 : ArrZ 6 0 19 200 := ⟨by decide +kernel, by decide, rfl, rfl⟩
theorem ar_6_20 : Arr 6 0 20 200 := ⟨by decide +kernel, by decide, rfl, rfl⟩
theorem ar_6_21 : Arr 6 0 21 200 := ⟨by decide +kernel, by decide, rfl, rfl⟩
theorem ar_6_22 : Arr 6 0 22 200 := ⟨by decide +kernel, by decide, rfl, rfl⟩
theorem ar_6_23 : Arr 6 0 23 200 := ⟨by decide +kernel, by decide, rfl, rfl⟩
theorem ar_6_24 : Arr 6 0 24 200 := ⟨by decide +kernel, by decide, rfl, rfl⟩
theorem ar_6_25 : Arr 6 0 25 600 := ⟨by decide +kernel, by decide, rfl, rfl⟩
theorem ar_6_26 : Arr 6 0 26 600 := ⟨by decide +kernel, by decide, rfl, rfl⟩
theorem ar_6_33 : Arr 6 0 33 6 := ⟨by decide +kernel, by decide, rfl, rfl⟩
theorem ar_6_34 : Arr 6 0 34 6 := ⟨by decide +kernel, by decide, rfl, rfl⟩
theorem ar_6_35 : Arr 6 0 35 6 := ⟨by decide +kernel, by decide, rfl, rfl⟩
theorem ar_6_36 : Arr 6 0 36 4 := ⟨by decide +kernel, by decide, rfl, rfl⟩
theorem ar_6_37 : Arr 6 0 37 4 := ⟨by decide +kernel, by decide, rfl, rfl⟩
theorem ar_6_38 : ArrZ 6 0 38 1024 := ⟨by decide +kernel, by decide, rfl, rfl⟩
theorem ar_6_39 : Arr 6 0 39 1024 := ⟨by decide +kernel, by decide, rfl, rfl⟩
theorem ar_6_40 : Arr 6 0 40 6 := ⟨by decide +kernel, by decide, rfl, rfl⟩
theorem ar_6_41 : Arr 6 0 41 1024 := ⟨by decide +kernel, by decide, rfl, rfl⟩
theorem fvs_arr {ad : Ky → Nat} {σ : Mem} {c k : Nat} {p : Int} (h : 0 < aln c k) {σ' : Mem} (hs : ∀ c' p' k' i', ¬ (c' = c ∧ p' = p ∧ k' = k) → σ' c' p' k' i' = σ c' p' k' i') (c' : Nat) (p' : Int) : fvs ad σ' c' p' = fvs ad σ c' p' := by
  have e0_0 : ∀ q : Int, σ' 0 q 0 0 = σ 0 q 0 0 := fun q => hs _ _ _ _ (by rintro ⟨e1, -, e2⟩; subst e1; subst e2; exact absurd h (by decide))
  have e1_0 : ∀ q : Int, σ' 1 q 0 0 = σ 1 q 0 0 := fun q => hs _ _ _ _ (by rintro ⟨e1, -, e2⟩; subst e1; subst e2; exact absurd h (by decide))
  have e2_0 : ∀ q : Int, σ' 2 q 0 0 = σ 2 q 0 0 := fun q => hs _ _ _ _ (by rintro ⟨e1, -, e2⟩; subst e1; subst e2; exact absurd h (by decide))
  have e3_0 : ∀ q : Int, σ' 3 q 0 0 = σ 3 q 0 0 := fun q => hs _ _ _ _ (by rintro ⟨e1, -, e2⟩; subst e1; subst e2; exact absurd h (by decide))
  have e3_3 : ∀ q : Int, σ' 3 q 3 0 = σ 3 q 3 0 := fun q => hs _ _ _ _ (by rintro ⟨e1, -, e2⟩; subst e1; subst e2; exact absurd h (by decide))
  have e3_6 : ∀ q : Int, σ' 3 q 6 0 = σ 3 q 6 0 := fun q => hs _ _ _ _ (by rintro ⟨e1, -, e2⟩; subst e1; subst e2; exact absurd h (by decide))
  have e4_0 : ∀ q : Int, σ' 4 q 0 0 = σ 4 q 0 0 := fun q => hs _ _ _ _ (by rintro ⟨e1, -, e2⟩; subst e1; subst e2; exact absurd h (by decide))
  have e4_1 : ∀ q : Int, σ' 4 q 1 0 = σ 4 q 1 0 := fun q => hs _ _ _ _ (by rintro ⟨e1, -, e2⟩; subst e1; subst e2; exact absurd h (by decide))
  have e4_2 : ∀ q : Int, σ' 4 q 2 0 = σ 4 q 2 0 := fun q => hs _ _ _ _ (by rintro ⟨e1, -, e2⟩; subst e1; subst e2; exact absurd h (by decide))
  have e4_3 : ∀ q : Int, σ' 4 q 3 0 = σ 4 q 3 0 := fun q => hs _ _ _ _ (by rintro ⟨e1, -, e2⟩; subst e1; subst e2; exact absurd h (by decide))
  have e5_3 : ∀ q : Int, σ' 5 q 3 0 = σ 5 q 3 0 := fun q => hs _ _ _ _ (by rintro ⟨e1, -, e2⟩; subst e1; subst e2; exact absurd h (by decide))
  have e5_9 : ∀ q : Int, σ' 5 q 9 0 = σ 5 q 9 0 := fun q => hs _ _ _ _ (by rintro ⟨e1, -, e2⟩; subst e1; subst e2; exact absurd h (by decide))
  have e6_0 : ∀ q : Int, σ' 6 q 0 0 = σ 6 q 0 0 := fun q => hs _ _ _ _ (by rintro ⟨e1, -, e2⟩; subst e1; subst e2; exact absurd h (by decide))
  have e6_5 : ∀ q : Int, σ' 6 q 5 0 = σ 6 q 5 0 := fun q => hs _ _ _ _ (by rintro ⟨e1, -, e2⟩; subst e1; subst e2; exact absurd h (by decide))
  have e6_7 : ∀ q : Int, σ' 6 q 7 0 = σ 6 q 7 0 := fun q => hs _ _ _ _ (by rintro ⟨e1, -, e2⟩; subst e1; subst e2; exact absurd h (by decide))
  have e6_18 : ∀ q : Int, σ' 6 q 18 0 = σ 6 q 18 0 := fun q => hs _ _ _ _ (by rintro ⟨e1, -, e2⟩; subst e1; subst e2; exact absurd h (by decide))
  have e6_27 : ∀ q : Int, σ' 6 q 27 0 = σ 6 q 27 0 := fun q => hs _ _ _ _ (by rintro ⟨e1, -, e2⟩; subst e1; subst e2; exact absurd h (by decide))
  have e6_28 : ∀ q : Int, σ' 6 q 28 0 = σ 6 q 28 0 := fun q => hs _ _ _ _ (by rintro ⟨e1, -, e2⟩; subst e1; subst e2; exact absurd h (by decide))
  have e6_29 : ∀ q : Int, σ' 6 q 29 0 = σ 6 q 29 0 := fun q => hs _ _ _ _ (by rintro ⟨e1, -, e2⟩; subst e1; subst e2; exact absurd h (by decide))
  have e6_30 : ∀ q : Int, σ' 6 q 30 0 = σ 6 q 30 0 := fun q => hs _ _ _ _ (by rintro ⟨e1, -, e2⟩; subst e1; subst e2; exact absurd h (by decide))
  have e6_31 : ∀ q : Int, σ' 6 q 31 0 = σ 6 q 31 0 := fun q => hs _ _ _ _ (by rintro ⟨e1, -, e2⟩; subst e1; subst e2; exact absurd h (by decide))
  have e6_32 : ∀ q : Int, σ' 6 q 32 0 = σ 6 q 32 0 := fun q => hs _ _ _ _ (by rintro ⟨e1, -, e2⟩; subst e1; subst e2; exact absurd h (by decide))
  unfold fvs
  split <;> simp only [e0_0, e1_0, e2_0, e3_0, e3_3, e3_6, e4_0, e4_1, e4_2, e4_3, e5_3, e5_9, e6_0, e6_5, e6_7, e6_18, e6_27, e6_28, e6_29, e6_30, e6_31, e6_32]
theorem fvs_ne {ad : Ky → Nat} {σ σ' : Mem} {c : Nat} {p : Int} (hs : ∀ c' p' k' i', ¬ (c' = c ∧ p' = p) → σ' c' p' k' i' = σ c' p' k' i') (c' : Nat) (p' : Int) (h : ¬ (c' = c ∧ p' = p)) : c' ≤ 6 → fvs ad σ' c' p' = fvs ad σ c' p' := by
  intro h6
  have e : ∀ k' i', σ' c' p' k' i' = σ c' p' k' i' := fun k' i' => hs c' p' k' i' h
  rcases (by omega : c' = 0 ∨ c' = 1 ∨ c' = 2 ∨ c' = 3 ∨ c' = 4 ∨ c' = 5 ∨ c' = 6) with h | h | h | h | h | h | h <;> subst h <;> simp only [fvs, e]
theorem keys_c : ∀ q ∈ keys, q.1 ≤ 6 ∧ (q.2.2 = 0 ∨ (q.1 = 5 ∧ q.2.2 = 3) ∨ 0 < aln q.1 (q.2.2 - 1)) := by decide +kernel
theorem cel_arr {ad : Ky → Nat} {tc : Tc} {σ σ' : Mem} {c k : Nat} {p : Int} (h : 0 < aln c k) (hs : ∀ c' p' k' i', ¬ (c' = c ∧ p' = p ∧ k' = k) → σ' c' p' k' i' = σ c' p' k' i') : ∀ q' ∈ keys, q' ≠ (c, p, k + 1) → cel ad tc σ' q' = cel ad tc σ q' := by
  rintro ⟨c', p', k'⟩ - hne
  cases k' with
  | zero =>
    show (Sum.inr (c', fvs ad σ' c' p') : va_E) = Sum.inr (c', fvs ad σ c' p')
    rw [fvs_arr h hs]
  | succ k' =>
    simp only [cel]
    split
    · rfl
    · have e : (fun j : Nat => oI (σ' c' p' k' (j : Int))) = (fun j : Nat => oI (σ c' p' k' (j : Int))) := by
        funext j
        rw [hs c' p' k' j (by rintro ⟨e1, e2, e3⟩; exact hne (by rw [e1, e2, e3]))]
      rw [e]
theorem cel_sc {ad : Ky → Nat} {tc : Tc} {σ : Mem} {c k : Nat} {p x : Int} (h : aln c k = 0) : ∀ q' ∈ keys, q' ≠ (c, p, 0) → cel ad tc (up σ c p k 0 x) q' = cel ad tc σ q' := by
  rintro ⟨c', p', k'⟩ hq hne
  cases k' with
  | zero =>
    show (Sum.inr (c', fvs ad _ c' p') : va_E) = Sum.inr (c', fvs ad σ c' p')
    rw [fvs_ne (c := c) (p := p) (σ := σ) (fun c' p' k' i' h => by simp only [up]; rw [if_neg (fun g => h ⟨g.1, g.2.1⟩)]) c' p' (fun g => hne (by rw [g.1, g.2])) (keys_c _ hq).1]
  | succ k' =>
    simp only [cel]
    split
    · rfl
    · rename_i h5
      have hk := (keys_c _ hq).2
      simp only [Nat.add_sub_cancel] at hk
      have hA : 0 < aln c' k' := by
        rcases hk with g | g | g
        · exact absurd g (by omega)
        · exact absurd ⟨g.1, by omega⟩ h5
        · exact g
      have e : (fun j : Nat => oI ((up σ c p k 0 x) c' p' k' (j : Int))) = (fun j : Nat => oI (σ c' p' k' (j : Int))) := by
        funext j
        simp only [up]
        rw [if_neg]
        rintro ⟨e1, -, e3, -⟩
        subst e1; subst e3
        omega
      rw [e]

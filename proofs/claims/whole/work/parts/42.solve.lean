/-! ===== units as ranks ===== -/
def uD (t i : Int) : Int := if i = 0 then t / 64 else if i = 1 then t / 16 % 4 else if i = 2 then t / 4 % 4 else t % 4
def rk (u : Int → Int) : Int := 64 * u 0 + 16 * u 1 + 4 * u 2 + u 3
def VU (n : Int) (tp : Int → Int) (t : Int) : Prop := (0 ≤ t ∧ t < 256) ∧ ∀ i, 0 ≤ i → i < 4 → uD t i ≤ (if i < n then tp i else 0)
def FU (n rc : Int) (W : Int → Int → Int) (room : Int → Int) (t : Int) : Prop := ∀ r, 0 ≤ r → r < rc → sm n.toNat (fun i => W r i * uD t i) ≤ room r
def prU (n : Int) (pc : Int → Int) (t : Int) : Int := sm n.toNat (fun i => uD t i * pc i)
theorem uD_rk {u : Int → Int} (h : ∀ i, 0 ≤ i → i < 4 → 0 ≤ u i ∧ u i ≤ 3) (i : Int) (h0 : 0 ≤ i) (h1 : i < 4) : uD (rk u) i = u i := by
  have a0 := h 0 (by omega) (by omega)
  have a1 := h 1 (by omega) (by omega)
  have a2 := h 2 (by omega) (by omega)
  have a3 := h 3 (by omega) (by omega)
  unfold uD rk
  rcases (by omega : i = 0 ∨ i = 1 ∨ i = 2 ∨ i = 3) with rfl | rfl | rfl | rfl <;> simp <;> omega
theorem rk_bd {u : Int → Int} (h : ∀ i, 0 ≤ i → i < 4 → 0 ≤ u i ∧ u i ≤ 3) : 0 ≤ rk u ∧ rk u < 256 := by
  have a0 := h 0 (by omega) (by omega)
  have a1 := h 1 (by omega) (by omega)
  have a2 := h 2 (by omega) (by omega)
  have a3 := h 3 (by omega) (by omega)
  unfold rk
  omega
theorem uD_bd {t : Int} (h0 : 0 ≤ t) (h1 : t < 256) (i : Int) : 0 ≤ uD t i ∧ uD t i ≤ 3 := by
  unfold uD
  split
  · omega
  · split
    · omega
    · split <;> omega
theorem rk_uD {t : Int} (h0 : 0 ≤ t) (h1 : t < 256) : rk (uD t) = t := by
  unfold rk
  simp [uD]
  omega
/-- the locals' tops, 0 behind them -/
def tpv (n : Int) (tp : Int → Int) (i : Int) : Int := if i < n then tp i else 0
theorem VU_rk {n : Int} {tp u : Int → Int} (h : ∀ i, 0 ≤ i → i < 4 → 0 ≤ u i ∧ u i ≤ 3) (hv : ∀ i, 0 ≤ i → i < 4 → u i ≤ tpv n tp i) : VU n tp (rk u) := ⟨rk_bd h, fun i h0 h1 => by rw [uD_rk h i h0 h1]; exact hv i h0 h1⟩
/-- the next units, as a raise from a place leaves them -/
def Rz (last : Int) (tp u v : Int → Int) (r : Int) : Prop := (r = 1 ∧ ∃ j, 0 ≤ j ∧ j ≤ last ∧ v j = u j + 1 ∧ u j < tp j ∧ (∀ i, 0 ≤ i → i < j → v i = u i) ∧ (∀ i, j < i → i ≤ last → v i = 0 ∧ tp i ≤ u i) ∧ (∀ i, last < i → v i = u i)) ∨ (r = 0 ∧ ∀ i, 0 ≤ i → i ≤ last → tp i ≤ u i)
theorem Rz.congr {last : Int} {tp tp' u v : Int → Int} {r : Int} (h : ∀ i, 0 ≤ i → i ≤ last → tp i = tp' i) (hz : Rz last tp u v r) : Rz last tp' u v r := by
  rcases hz with ⟨hr, j, j0, j1, j2, j3, j4, j5, j6⟩ | ⟨hr, g⟩
  · exact Or.inl ⟨hr, j, j0, j1, j2, (h j j0 j1) ▸ j3, j4, fun i i0 i1 => ⟨(j5 i i0 i1).1, (h i (by omega) i1) ▸ (j5 i i0 i1).2⟩, j6⟩
  · exact Or.inr ⟨hr, fun i i0 i1 => (h i i0 i1) ▸ g i i0 i1⟩
/-- prefixes of digits, in base 4 -/
def pf (u : Int → Int) : Nat → Int
  | 0 => 0
  | n + 1 => 4 * pf u n + u (n : Int)
theorem pf_down {u x : Int → Int} {m : Nat} : ∀ {n : Nat}, m ≤ n → (∀ i : Int, 0 ≤ i → i < n → 0 ≤ u i ∧ u i ≤ 3) → (∀ i : Int, 0 ≤ i → i < n → 0 ≤ x i ∧ x i ≤ 3) → pf u n ≤ pf x n → pf u m ≤ pf x m
  | 0, hm, _, _, h => by
    have : m = 0 := by omega
    subst this
    exact h
  | n + 1, hm, hu, hx, h => by
    by_cases e : m = n + 1
    · subst e; exact h
    · have a := hu n (by omega) (by omega)
      have b := hx n (by omega) (by omega)
      simp only [pf] at h
      exact pf_down (n := n) (by omega) (fun i h0 h1 => hu i h0 (by omega)) (fun i h0 h1 => hx i h0 (by omega)) (by omega)
theorem pf_down0 {v x : Int → Int} {m : Nat} : ∀ {n : Nat}, m ≤ n → (∀ i : Int, 0 ≤ i → i < n → 0 ≤ x i) → (∀ i : Int, m ≤ i → i < n → v i = 0) → pf x n < pf v n → pf x m < pf v m
  | 0, hm, _, _, h => by
    have : m = 0 := by omega
    subst this
    exact h
  | n + 1, hm, hx, hv, h => by
    by_cases e : m = n + 1
    · subst e; exact h
    · have a := hv n (by omega) (by omega)
      have b := hx n (by omega) (by omega)
      simp only [pf] at h
      exact pf_down0 (n := n) (by omega) (fun i h0 h1 => hx i h0 (by omega)) (fun i h0 h1 => hv i h0 (by omega)) (by omega)
theorem pf_up {u v : Int → Int} {m : Nat} : ∀ {n : Nat}, m ≤ n → (∀ i : Int, m ≤ i → i < n → u i ≤ 3) → (∀ i : Int, m ≤ i → i < n → 0 ≤ v i) → pf u m < pf v m → pf u n < pf v n
  | 0, hm, _, _, h => by
    have : m = 0 := by omega
    subst this
    exact h
  | n + 1, hm, hu, hv, h => by
    by_cases e : m = n + 1
    · subst e; exact h
    · have ih := pf_up (n := n) (by omega) (fun i h0 h1 => hu i h0 (by omega)) (fun i h0 h1 => hv i h0 (by omega)) h
      have a := hu n (by omega) (by omega)
      have b := hv n (by omega) (by omega)
      simp only [pf]
      omega
theorem pf_congr {u v : Int → Int} : ∀ {n : Nat}, (∀ i : Int, 0 ≤ i → i < n → u i = v i) → pf u n = pf v n
  | 0, _ => rfl
  | n + 1, h => by
    simp only [pf]
    rw [pf_congr (n := n) (fun i h0 h1 => h i h0 (by omega)), h n (by omega) (by omega)]
theorem pf_inj {u v : Int → Int} : ∀ {n : Nat}, (∀ i : Int, 0 ≤ i → i < n → 0 ≤ u i ∧ u i ≤ 3) → (∀ i : Int, 0 ≤ i → i < n → 0 ≤ v i ∧ v i ≤ 3) → pf u n = pf v n → ∀ i : Int, 0 ≤ i → i < n → u i = v i
  | 0, _, _, _, i, h0, h1 => absurd h1 (by omega)
  | n + 1, hu, hv, h, i, h0, h1 => by
    have a := hu n (by omega) (by omega)
    have b := hv n (by omega) (by omega)
    simp only [pf] at h
    have e : pf u n = pf v n := by omega
    by_cases hi : i = n
    · subst hi; omega
    · exact pf_inj (n := n) (fun i h0 h1 => hu i h0 (by omega)) (fun i h0 h1 => hv i h0 (by omega)) e i h0 (by omega)
theorem pf_top {u x : Int → Int} {m : Nat} : ∀ {l : Nat}, m ≤ l → pf x m = pf u m → (∀ i : Int, m ≤ i → i < l → x i ≤ u i) → (∀ k : Nat, m ≤ k → k ≤ l → pf u k ≤ pf x k) → pf x l = pf u l
  | 0, hm, he, _, _ => by
    have : m = 0 := by omega
    subst this
    exact he
  | l + 1, hm, he, hx, hk => by
    by_cases e : m = l + 1
    · subst e; exact he
    · have ih := pf_top (l := l) (by omega) he (fun i h0 h1 => hx i h0 (by omega)) (fun k h0 h1 => hk k h0 (by omega))
      have a := hx l (by omega) (by omega)
      have b := hk (l + 1) (by omega) (by omega)
      simp only [pf] at b ⊢
      omega
theorem odo {n : Nat} {last : Int} {T u v : Int → Int} {r : Int} (hl0 : -1 ≤ last) (hl1 : last < n) (hu : ∀ i : Int, 0 ≤ i → i < n → 0 ≤ u i ∧ u i ≤ T i ∧ T i ≤ 3) (hz : Rz last T u v r) (h0 : ∀ i : Int, last < i → i < n → u i = 0) : (r = 1 ∧ (∀ i : Int, 0 ≤ i → i < n → 0 ≤ v i ∧ v i ≤ T i) ∧ (∀ x : Int → Int, (∀ i : Int, 0 ≤ i → i < n → 0 ≤ x i ∧ x i ≤ 3) → (∀ i : Int, 0 ≤ i → i ≤ last → x i = u i) → pf x n < pf v n) ∧ ∀ x : Int → Int, (∀ i : Int, 0 ≤ i → i < n → 0 ≤ x i ∧ x i ≤ T i) → pf u n ≤ pf x n → pf x n < pf v n → ∀ i : Int, 0 ≤ i → i ≤ last → x i = u i) ∨ (r = 0 ∧ ∀ x : Int → Int, (∀ i : Int, 0 ≤ i → i < n → 0 ≤ x i ∧ x i ≤ T i) → pf u n ≤ pf x n → ∀ i : Int, 0 ≤ i → i ≤ last → x i = u i) := by
  have hu3 : ∀ i : Int, 0 ≤ i → i < n → 0 ≤ u i ∧ u i ≤ 3 := fun i i0 i1 => ⟨(hu i i0 i1).1, by have := hu i i0 i1; omega⟩
  rcases hz with ⟨hr, j, j0, j1, j2, j3, j4, j5, j6⟩ | ⟨hr, g⟩
  · refine Or.inl ⟨hr, ?_⟩
    obtain ⟨J, rfl⟩ := Int.eq_ofNat_of_zero_le j0
    have hv : ∀ i : Int, 0 ≤ i → i < n → 0 ≤ v i ∧ v i ≤ T i := by
      intro i i0 i1
      have a := hu i i0 i1
      by_cases c1 : i < J
      · rw [j4 i i0 c1]; omega
      · by_cases c2 : i = J
        · subst c2; omega
        · by_cases c3 : i ≤ last
          · rw [(j5 i (by omega) c3).1]; omega
          · rw [j6 i (by omega)]; omega
    have hvz : ∀ i : Int, ((J + 1 : Nat) : Int) ≤ i → i < n → v i = 0 := by
      intro i i0 i1
      by_cases c3 : i ≤ last
      · exact (j5 i (by omega) c3).1
      · rw [j6 i (by omega)]; exact h0 i (by omega) i1
    have eJ : pf v J = pf u J := pf_congr (fun i i0 i1 => j4 i i0 i1)
    have e1 : pf v (J + 1) = pf u (J + 1) + 1 := by
      simp only [pf]
      omega
    refine ⟨hv, fun x hx3 hxu => pf_up (m := J + 1) (by omega) (fun i i0 i1 => (hx3 i (by omega) i1).2) (fun i i0 i1 => (hv i (by omega) i1).1) (by rw [pf_congr (u := x) (v := u) (n := J + 1) (fun i i0 i1 => hxu i i0 (by omega))]; omega), fun x hx h1 h2 i i0 i1 => ?_⟩
    have hx3 : ∀ i : Int, 0 ≤ i → i < n → 0 ≤ x i ∧ x i ≤ 3 := fun i i0 i1 => ⟨(hx i i0 i1).1, by have := hx i i0 i1; have := hu i i0 i1; omega⟩
    have k1 := pf_down0 (m := J + 1) (by omega) (fun i i0 i1 => (hx i i0 i1).1) hvz h2
    have k2 := pf_down (m := J + 1) (by omega) hu3 hx3 h1
    obtain ⟨La, hLa⟩ := Int.eq_ofNat_of_zero_le (show 0 ≤ last by omega)
    have k3 : pf x (La + 1) = pf u (La + 1) := pf_top (m := J + 1) (by omega) (by omega) (fun i i0 i1 => by
      have a := (j5 i (by omega) (by omega)).2
      have b := hx i (by omega) (by omega)
      omega) (fun k q0 q1 => pf_down (by omega) hu3 hx3 h1)
    exact pf_inj (n := La + 1) (fun i i0 i1 => hx3 i i0 (by omega)) (fun i i0 i1 => hu3 i i0 (by omega)) k3 i i0 (by omega)
  · refine Or.inr ⟨hr, fun x hx h1 i i0 i1 => ?_⟩
    have hx3 : ∀ i : Int, 0 ≤ i → i < n → 0 ≤ x i ∧ x i ≤ 3 := fun i i0 i1 => ⟨(hx i i0 i1).1, by have := hx i i0 i1; have := hu i i0 i1; omega⟩
    obtain ⟨La, hLa⟩ := Int.eq_ofNat_of_zero_le (show 0 ≤ last by omega)
    have k3 : pf x (La + 1) = pf u (La + 1) := pf_top (m := 0) (by omega) rfl (fun i i0 i1 => by
      have a := g i (by omega) (by omega)
      have b := hx i (by omega) (by omega)
      have c := hu i (by omega) (by omega)
      omega) (fun k q0 q1 => pf_down (by omega) hu3 hx3 h1)
    exact pf_inj (n := La + 1) (fun i i0 i1 => hx3 i i0 (by omega)) (fun i i0 i1 => hu3 i i0 (by omega)) k3 i i0 (by omega)
theorem rk_pf {u : Int → Int} : pf u 4 = rk u := by
  simp only [pf, rk]
  simp
  omega

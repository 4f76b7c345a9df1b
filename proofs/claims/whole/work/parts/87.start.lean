/-! ===== the law, from its entry ===== -/
def ks0 : List Ky := [(0, 0, 0), (0, 0, 2), (0, 0, 3), (0, 0, 4)]
def ks1 : List Ky := [(1, 0, 0), (1, 0, 2), (1, 0, 3), (1, 0, 4), (1, 0, 5), (1, 0, 6), (1, 0, 7)]
def ks2 : List Ky := [(2, 0, 0), (2, 0, 2)]
def ks3 (p : Int) : List Ky := [(3, p, 0), (3, p, 2), (3, p, 3), (3, p, 5), (3, p, 6), (3, p, 8), (3, p, 9), (3, p, 10), (3, p, 11), (3, p, 12), (3, p, 13), (3, p, 14), (3, p, 15), (3, p, 16)]
def ks4 : List Ky := [(4, 0, 0), (4, 0, 5), (4, 0, 6)]
def ks6 : List Ky := [(6, 0, 0), (6, 0, 2), (6, 0, 3), (6, 0, 4), (6, 0, 5), (6, 0, 7), (6, 0, 9), (6, 0, 10), (6, 0, 11), (6, 0, 12), (6, 0, 13), (6, 0, 14), (6, 0, 15), (6, 0, 16), (6, 0, 17), (6, 0, 18), (6, 0, 20), (6, 0, 21), (6, 0, 22), (6, 0, 23), (6, 0, 24), (6, 0, 25), (6, 0, 26), (6, 0, 27), (6, 0, 34), (6, 0, 35), (6, 0, 36), (6, 0, 37), (6, 0, 38), (6, 0, 39), (6, 0, 40), (6, 0, 41), (6, 0, 42)]
def keysW : List Ky := [(5, 0, 0)] ++ ks0 ++ ks2 ++ [(5, 0, 3)] ++ ks1 ++ ks4 ++ [(5, 0, 7)] ++ [(5, 0, 8)] ++ [(5, 0, 9)] ++ ks3 0 ++ ks3 1 ++ ks3 2 ++ ks3 3 ++ ks6
theorem keys_sub : ∀ q ∈ keys, q ∈ keysW := by decide +kernel
def adf (qS qM : Nat) (ad : Ky → Nat) (a6 : Nat → Nat) (q : Ky) : Nat := match q with
  | (6, _, k) => adh qM a6 k
  | (5, _, 0) => qS
  | q => ad q
theorem cw0 {qS qM : Nat} {ad : Ky → Nat} {a6 : Nat → Nat} {tc : Tc} : ks0.map (fun q => (adf qS qM ad a6 q, cel (adf qS qM ad a6) tc sg0 q)) = bX0 tc (ad (0, 0, 0)) (fun k => ad (0, 0, k + 1)) := rfl
theorem cw1 {qS qM : Nat} {ad : Ky → Nat} {a6 : Nat → Nat} {tc : Tc} : ks1.map (fun q => (adf qS qM ad a6 q, cel (adf qS qM ad a6) tc sg0 q)) = bX1 tc (ad (1, 0, 0)) (fun k => ad (1, 0, k + 1)) := rfl
theorem cw2 {qS qM : Nat} {ad : Ky → Nat} {a6 : Nat → Nat} {tc : Tc} : ks2.map (fun q => (adf qS qM ad a6 q, cel (adf qS qM ad a6) tc sg0 q)) = bX2 tc (ad (2, 0, 0)) (fun k => ad (2, 0, k + 1)) := rfl
theorem cw3_0 {qS qM : Nat} {ad : Ky → Nat} {a6 : Nat → Nat} {tc : Tc} : (ks3 0).map (fun q => (adf qS qM ad a6 q, cel (adf qS qM ad a6) tc sg0 q)) = bX3 tc (ad (3, 0, 0)) (fun k => ad (3, 0, k + 1)) := rfl
theorem cw3_1 {qS qM : Nat} {ad : Ky → Nat} {a6 : Nat → Nat} {tc : Tc} : (ks3 1).map (fun q => (adf qS qM ad a6 q, cel (adf qS qM ad a6) tc sg0 q)) = bX3 tc (ad (3, 1, 0)) (fun k => ad (3, 1, k + 1)) := rfl
theorem cw3_2 {qS qM : Nat} {ad : Ky → Nat} {a6 : Nat → Nat} {tc : Tc} : (ks3 2).map (fun q => (adf qS qM ad a6 q, cel (adf qS qM ad a6) tc sg0 q)) = bX3 tc (ad (3, 2, 0)) (fun k => ad (3, 2, k + 1)) := rfl
theorem cw3_3 {qS qM : Nat} {ad : Ky → Nat} {a6 : Nat → Nat} {tc : Tc} : (ks3 3).map (fun q => (adf qS qM ad a6 q, cel (adf qS qM ad a6) tc sg0 q)) = bX3 tc (ad (3, 3, 0)) (fun k => ad (3, 3, k + 1)) := rfl
theorem cw4 {qS qM : Nat} {ad : Ky → Nat} {a6 : Nat → Nat} {tc : Tc} : ks4.map (fun q => (adf qS qM ad a6 q, cel (adf qS qM ad a6) tc sg0 q)) = bX4 tc (ad (4, 0, 0)) (fun k => ad (4, 0, k + 1)) := rfl
theorem cw6 {qS qM : Nat} {ad : Ky → Nat} {a6 : Nat → Nat} {tc : Tc} : ks6.map (fun q => (adf qS qM ad a6 q, cel (adf qS qM ad a6) tc sg0 q)) = bX6 tc qM a6 := rfl
theorem cw_all {qS qM : Nat} {ad : Ky → Nat} {a6 : Nat → Nat} {tc : Tc} : keysW.map (fun q => (adf qS qM ad a6 q, cel (adf qS qM ad a6) tc sg0 q)) = bX5 tc qS ad ++ bX6 tc qM a6 := by
  unfold keysW bX5
  simp only [List.map_append, cw0, cw1, cw2, cw3_0, cw3_1, cw3_2, cw3_3, cw4, cw6]
  rfl
theorem mem0 : Mem0 sg0 := by
  refine ⟨fun c q k i h1 h2 h3 h4 h5 => ?_, rfl, ⟨rfl, fun i h => ?_⟩, rfl, rfl, fun p i _ _ _ _ => rfl, rfl, rfl, fun i h => ?_⟩
  · unfold sg0
    split <;> first | rfl | omega
  · exact if_neg h
  · exact if_neg h
theorem kn_at {D : va_G} {s : State} (k0 : u_Kn s RX0 TX0 4 (D.1 0) (D.2 0)) (k1 : u_Kn s RX1 TX1 7 (D.1 1) (D.2 1)) (k2 : u_Kn s RX2 TX2 2 (D.1 2) (D.2 2)) (k3 : u_Kn s RX3 TX3 16 (D.1 3) (D.2 3)) (k4 : u_Kn s RX4 TX4 6 (D.1 4) (D.2 4)) (k5 : u_Kn s RX5 TX5 10 (D.1 5) (D.2 5)) (k6 : u_Kn s RX6 TX6 42 (D.1 6) (D.2 6)) (c : Nat) (q : vw_C) (h : vwCl[c]? = some q) : u_Kn s q.1 q.2.1 q.2.2 (D.1 c) (D.2 c) := by
  have hc : c < 7 := (List.getElem?_eq_some_iff.mp h).1
  rcases (show c = 0 ∨ c = 1 ∨ c = 2 ∨ c = 3 ∨ c = 4 ∨ c = 5 ∨ c = 6 by omega) with rfl | rfl | rfl | rfl | rfl | rfl | rfl
  · have e : (RX0, TX0, 4) = q := Option.some.inj h
    subst e; exact k0
  · have e : (RX1, TX1, 7) = q := Option.some.inj h
    subst e; exact k1
  · have e : (RX2, TX2, 2) = q := Option.some.inj h
    subst e; exact k2
  · have e : (RX3, TX3, 16) = q := Option.some.inj h
    subst e; exact k3
  · have e : (RX4, TX4, 6) = q := Option.some.inj h
    subst e; exact k4
  · have e : (RX5, TX5, 10) = q := Option.some.inj h
    subst e; exact k5
  · have e : (RX6, TX6, 42) = q := Option.some.inj h
    subst e; exact k6
/-- the classes and the kinds of arrays that the tables name -/
theorem know {args : Array Value} {s : State} (ht : ∀ w ∈ wsL_law, w.before args s = true) (hao : va_AO RX3 s) : ∃ (D : va_G) (tc : Tc), va_K D vwCl (TY tc) s := by
  obtain ⟨c0, i0, k0⟩ := u_known (n := 4) ht inlX0 (ht _ (inr_1 _ (List.mem_of_getElem? (i := 13) rfl)))
  obtain ⟨c1, i1, k1⟩ := u_known (n := 7) ht inlX1 (ht _ (inr_1 _ (List.mem_of_getElem? (i := 23) rfl)))
  obtain ⟨c2, i2, k2⟩ := u_known (n := 2) ht inlX2 (ht _ (inr_1 _ (List.mem_of_getElem? (i := 17) rfl)))
  obtain ⟨c3, i3, k3⟩ := u_known (n := 16) ht inlX3 (ht _ (inr_2 _ (List.mem_of_getElem? (i := 11) rfl)))
  obtain ⟨c4, i4, k4⟩ := u_known (n := 6) ht inlX4 (ht _ (inr_2 _ (List.mem_of_getElem? (i := 3) rfl)))
  obtain ⟨c5, i5, k5⟩ := u_known (n := 10) ht inlX5 (ht _ (inr_1 _ (List.mem_of_getElem? (i := 1) rfl)))
  obtain ⟨c6, i6, k6⟩ := u_known (n := 42) ht inlX6 (ht _ (inr_1 _ (List.mem_of_getElem? (i := 4) rfl)))
  obtain ⟨ca, ka, compa, a1, a2, a3⟩ := Cond.arrayClass_spec (ht _ wi_int)
  obtain ⟨cb, kb, compb, b1, b2, b3⟩ := Cond.arrayClass_spec (ht _ wi_bool)
  obtain ⟨comp, cq, kq, h1, h2, h3, h4, h5⟩ := Cond.arrayOver_spec hao
  refine ⟨(fun k => match k with | 0 => c0 | 1 => c1 | 2 => c2 | 3 => c3 | 4 => c4 | 5 => c5 | _ => c6, fun k => match k with | 0 => i0 | 1 => i1 | 2 => i2 | 3 => i3 | 4 => i4 | 5 => i5 | _ => i6), (ca, cb, cq), kn_at k0 k1 k2 k3 k4 k5 k6, fun k q h => ?_⟩
  have hk : k < 3 := (List.getElem?_eq_some_iff.mp h).1
  rcases (show k = 0 ∨ k = 1 ∨ k = 2 by omega) with rfl | rfl | rfl
  · have e : ((ca, .int) : ClassId × FieldType) = q := Option.some.inj h
    subst e
    exact ⟨fun n z => ⟨(fun k h => by cases h), ka, a2, compa, a3⟩, a1⟩
  · have e : ((cb, .boolean) : ClassId × FieldType) = q := Option.some.inj h
    subst e
    exact ⟨fun n z => ⟨(fun k h => by cases h), kb, b2, compb, b3⟩, b1⟩
  · have e : ((cq, .object RX3) : ClassId × FieldType) = q := Option.some.inj h
    subst e
    exact ⟨fun n z => ⟨(fun k h => by cases h), kq, h3, comp, h4⟩, kq, comp, h3, h4, h1, h5⟩
theorem e5_warm {s U : State} (hW : s.WarmedH U.vm) (h : E5 s) : E5 U := ⟨va_Nw.warmM hW h.1, va_Nw.warmM hW h.2.1, va_Nw.warmM hW h.2.2.1, va_AO.moved hW.alike h.2.2.2⟩
/-- the world that both constructors leave is the world that the walks read -/
theorem world0 {D : va_G} {A : Nat → Prop} {qS qM : Nat} {ad : Ky → Nat} {a6 : Nat → Nat} {tc : Tc} {H : Heap} (hP : va_P D vwCl (bX5 tc qS ad ++ bX6 tc qM a6) H) (hD : va_D A (bX5 tc qS ad ++ bX6 tc qM a6)) : va_P D vwCl (wS (adf qS qM ad a6) tc sg0) H ∧ adI (adf qS qM ad a6) ∧ ∀ q ∈ keys, A (adf qS qM ad a6 q) := by
  rw [← cw_all] at hP hD
  have at' : ∀ q ∈ keys, ∃ i : Nat, (keysW.map (fun q => (adf qS qM ad a6 q, cel (adf qS qM ad a6) tc sg0 q)))[i]? = some (adf qS qM ad a6 q, cel (adf qS qM ad a6) tc sg0 q) ∧ keysW[i]? = some q := by
    intro q hq
    obtain ⟨i, hi⟩ := List.getElem?_of_mem (keys_sub q hq)
    exact ⟨i, by rw [List.getElem?_map, hi]; rfl, hi⟩
  refine ⟨fun k x hx => ?_, fun q hq q' hq' he => ?_, fun q hq => ?_⟩
  · unfold wS at hx
    rw [List.getElem?_map] at hx
    cases hk : keys[k]? with
    | none => rw [hk] at hx; cases hx
    | some q =>
      rw [hk] at hx
      cases hx
      obtain ⟨i, h1, -⟩ := at' q (List.mem_of_getElem? hk)
      exact hP i _ h1
  · obtain ⟨i, h1, h2⟩ := at' q hq
    obtain ⟨j, h3, h4⟩ := at' q' hq'
    have e : i = j := hD.1 i j _ _ h1 h3 he
    subst e
    exact Option.some.inj (h2.symm.trans h4)
  · obtain ⟨i, h1, -⟩ := at' q hq
    exact hD.2 i _ h1
abbrev fs6 : List Value := [.int 0, .null, .null, .null, .null, .int 0, .null, .int 0, .null, .null, .null, .null, .null, .null, .null, .null, .null, .null, .int 0, .null, .null, .null, .null, .null, .null, .null, .null, .int 0, .int 0, .int 0, .int 0, .int 0, .int 0, .null, .null, .null, .null, .null, .null, .null, .null, .null]
theorem fs6_ok (j : Nat) (hj : j < 42) : defaultValue (tyX6 j) = vp_V fs6 j := by
  rcases (show j = 0 ∨ j = 1 ∨ j = 2 ∨ j = 3 ∨ j = 4 ∨ j = 5 ∨ j = 6 ∨ j = 7 ∨ j = 8 ∨ j = 9 ∨ j = 10 ∨ j = 11 ∨ j = 12 ∨ j = 13 ∨ j = 14 ∨ j = 15 ∨ j = 16 ∨ j = 17 ∨ j = 18 ∨ j = 19 ∨ j = 20 ∨ j = 21 ∨ j = 22 ∨ j = 23 ∨ j = 24 ∨ j = 25 ∨ j = 26 ∨ j = 27 ∨ j = 28 ∨ j = 29 ∨ j = 30 ∨ j = 31 ∨ j = 32 ∨ j = 33 ∨ j = 34 ∨ j = 35 ∨ j = 36 ∨ j = 37 ∨ j = 38 ∨ j = 39 ∨ j = 40 ∨ j = 41 by omega) with rfl | rfl | rfl | rfl | rfl | rfl | rfl | rfl | rfl | rfl | rfl | rfl | rfl | rfl | rfl | rfl | rfl | rfl | rfl | rfl | rfl | rfl | rfl | rfl | rfl | rfl | rfl | rfl | rfl | rfl | rfl | rfl | rfl | rfl | rfl | rfl | rfl | rfl | rfl | rfl | rfl | rfl <;> rfl
theorem len5 (tc : Tc) (qS : Nat) (ad : Ky → Nat) : (bX5 tc qS ad).length = 77 := rfl
theorem at77 {qM : Nat} {E : va_E} (w : va_W) (hw : w.length = 77) : [77].map (fun i => (w ++ [(qM, E)])[i]?) = ([(qM, E)] : va_W).map some := by
  have h : (w ++ [(qM, E)])[77]? = some (qM, E) := by rw [List.getElem?_append_right (by omega), hw]; rfl
  show [(w ++ [(qM, E)])[77]?] = [some (qM, E)]
  rw [h]
theorem to77 {q : Nat × va_E} (w : va_W) (hw : w.length = 77) : (List.range 77).map (fun i => (w ++ [q])[i]?) = w.map some := by
  apply List.ext_getElem?
  intro k
  rw [List.getElem?_map, List.getElem?_map]
  by_cases hk : k < 77
  · rw [List.getElem?_range hk]
    show some ((w ++ [q])[k]?) = _
    rw [List.getElem?_append_left (by omega), List.getElem?_eq_getElem (by omega : k < w.length)]
    rfl
  · rw [List.getElem?_eq_none (by rw [List.length_range]; omega), List.getElem?_eq_none (by omega : w.length ≤ k)]
    rfl
set_option maxHeartbeats 4000000 in
set_option maxRecDepth 100000 in
/-- YOUR PART: from the entry, for every script of at most 3072 ints, the law comes to its end with true -/
theorem whole_start {p : Program} {e : Env} {s : State} {m : MethodId} {below : List Frame} {meth : Method} {c : Code} (l : Launch) {b L : Nat} {xs : Nat → Int32} (hL : L ≤ 3072) (C0 : lw_At p s m meth c b L xs) : W p l e room_1 s m #[Value.ref b] below meth c s.heap [] 0 0 (lw_Z below #[Value.ref b] s) (entryFrame m ([Value.ref b] : List Value).toArray 4) := by
  obtain ⟨hx, hb, hr, hml, hown, hts, hX, hbl, hlocks, -⟩ := C0
  have ht : ∀ w ∈ wsL_law, w.before #[Value.ref b] s = true := fun w h => hts w (wsL_law_in w h)
  have hE : E5 s := ⟨va_Nw.of rfl (hts (.methodLinkNest RX5 11 yX0_init RX5) (by decide +kernel)), va_Nw.of rfl (hts (.methodLinkNest RX5 31 yX1_init RX5) (by decide +kernel)), va_Nw.of rfl (hts (.methodLinkNest RX5 38 yX4_init RX5) (by decide +kernel)), va_AO.of (hts (.arrayOver (.object RX3)) (by decide +kernel))⟩
  obtain ⟨D, tc, hK⟩ := know ht hE.2.2.2
  have X : Kx p s m #[Value.ref b] c cL_law RL 4 D tc (fun q => s.heap.size ≤ q) := ⟨hx, hb, hml, hown, ht, hK, fun _ h => h⟩
  generalize hAe : (fun q : Nat => s.heap.size ≤ q) = A at X
  have hbA : ¬ A b := by rw [← hAe]; exact Nat.not_le_of_lt hbl
  have hl := lv_entry ([.ref b]) (n := 4) (Nat.le_of_ble_eq_true rfl)
  rw [lg_entry_eq]
  have hP0 : va_P D vwCl [] s.heap := fun k q h => by cases h
  have hD0 : va_D A [] := ⟨(fun i j p q h => by cases h), (fun k q h => by cases h)⟩
  have hS0 : va_S A s.heap s.heap [] := va_S.rf
  refine kx_new (ci := 5) (C := RX5) (T := TX5) (N := 10) (fs := [.null, .null, .null, .int 0, .null, .null, .null, .null, .null, .int 0]) X hP0 hD0 hS0 tyX5 inlX5 tyX5_ok (inr_1 _ (List.mem_of_getElem? (i := 0) rfl)) (inr_1 _ (List.mem_of_getElem? (i := 1) rfl)) (inr_1 _ (List.mem_of_getElem? (i := 2) rfl)) rfl (fun j hj => by rcases (show j = 0 ∨ j = 1 ∨ j = 2 ∨ j = 3 ∨ j = 4 ∨ j = 5 ∨ j = 6 ∨ j = 7 ∨ j = 8 ∨ j = 9 by omega) with rfl | rfl | rfl | rfl | rfl | rfl | rfl | rfl | rfl | rfl <;> rfl) (Nat.le_of_ble_eq_true rfl) (Nat.le_of_ble_eq_true rfl) dL_law_0 (fun qS H hP hD hS => ?_)
  refine lv_dup X.1 X.2.1 dL_law_3 rfl ?_
  refine kx_iniP (S := Ky → Nat) (wr := []) (ci := 5) (fs := [.null, .null, .null, .int 0, .null, .null, .null, .null, .null, .int 0]) X hP hD hS 0 [] rfl rfl (by decide) (by decide) (n_X5 l D tc) (fun a U g mk h => ⟨va_Nw.same rfl rfl h.1, va_Nw.same rfl rfl h.2.1, va_Nw.same rfl rfl h.2.2.1, va_AO.moved (Vm.Alike.refl _) h.2.2.2⟩) (fun U hW => e5_warm hW hE) rfl (inr_1 _ (List.mem_of_getElem? (i := 8) rfl)) (inr_1 _ (List.mem_of_getElem? (i := 6) rfl)) (inr_1 _ (List.mem_of_getElem? (i := 7) rfl)) (inr_1 _ (List.mem_of_getElem? (i := 2) rfl)) (by decide +kernel) (Nat.le_of_ble_eq_true rfl) (Nat.le_of_ble_eq_true rfl) hl.1 (Nat.le_of_ble_eq_true rfl) dL_law_4 (Nat.le_of_ble_eq_true rfl) (Nat.le_of_ble_eq_true rfl) (fun ad H locs hP hD hS => ?_)
  have hP : va_P D vwCl (bX5 tc qS ad) H := hP
  have hD : va_D A (bX5 tc qS ad) := hD
  refine lv_astore_n (lv' := [(1, .ref qS), (0, .ref b)]) X.1 X.2.1 dL_law_7 rfl hl (by decide) rfl (fun ls hl => ?_)
  refine kx_new (ci := 6) (C := RX6) (T := TX6) (N := 42) (fs := fs6) X hP hD hS tyX6 inlX6 tyX6_ok (inr_1 _ (List.mem_of_getElem? (i := 3) rfl)) (inr_1 _ (List.mem_of_getElem? (i := 4) rfl)) (inr_1 _ (List.mem_of_getElem? (i := 5) rfl)) rfl fs6_ok (Nat.le_of_ble_eq_true rfl) (Nat.le_of_ble_eq_true rfl) dL_law_8 (fun qM H hP hD hS => ?_)
  refine lv_dup X.1 X.2.1 dL_law_11 rfl ?_
  refine kx_iniP (S := Nat → Nat) (wr := bX5 tc qS ad) (ci := 6) (fs := fs6) X hP hD hS 77 (List.range 77) (at77 _ (len5 tc qS ad)) (to77 _ (len5 tc qS ad)) (by decide +kernel) (by decide +kernel) (n_X6 l D tc) (fun _ _ _ _ h => h) (fun _ _ => trivial) rfl (inr_4 _ (List.mem_of_getElem? (i := 17) rfl)) (inr_4 _ (List.mem_of_getElem? (i := 15) rfl)) (inr_4 _ (List.mem_of_getElem? (i := 16) rfl)) (inr_1 _ (List.mem_of_getElem? (i := 5) rfl)) (by decide +kernel) (Nat.le_of_ble_eq_true rfl) (Nat.le_of_ble_eq_true rfl) hl.1 (Nat.le_of_ble_eq_true rfl) dL_law_12 (Nat.le_of_ble_eq_true rfl) (Nat.le_of_ble_eq_true rfl) (fun a6 H locs hP hD hS => ?_)
  refine lv_astore_n (lv' := [(2, .ref qM), (1, .ref qS), (0, .ref b)]) X.1 X.2.1 dL_law_15 rfl hl (by decide) rfl (fun ls hl => ?_)
  obtain ⟨hP, hI, hA⟩ := world0 hP hD
  have Y : Cx p s m #[Value.ref b] c cL_law RL 4 D (adf qS qM ad a6) tc A := ⟨X.1, X.2.1, X.2.2.1, X.2.2.2.1, X.2.2.2.2.1, X.2.2.2.2.2.1, hI, hA, X.2.2.2.2.2.2⟩
  have hsc : Scr s A b L (fun j => (xs j.toNat).toInt) := ⟨xs, hX, hbl, hbA, by omega, fun j _ => rfl⟩
  have hlaw : Lw_law (fun j => (xs j.toNat).toInt) L sg0 (fun x _ => x = 1) := w_Lw_law (fun i _ _ => InR_self _) (by omega) (Inv_start mem0) (fun _ => rfl)
  refine m_Lw_law_16 (R := room_1) (cs := 110) (sl := 10326) Y ⟨by decide, by decide, by decide, by decide⟩ ?_ hsc hlaw H locs ls hP hS ⟨hl.1, hl.2.1, ?_⟩
  · intro pc als x σ hd hq H locs ls _ hS _
    cases hq
    refine va_forget (fun q hq => by have := hS.2.2 q hq; rw [← hAe] at this; exact this) ?_
    exact W.widen (k := 600000) (n := 7302250) (by decide) (by decide) (lw_ret hx hb hr hlocks hd)
  · intro i v h
    have hi : i < 4 := (List.getElem?_eq_some_iff.mp h).1
    rcases (show i = 0 ∨ i = 1 ∨ i = 2 ∨ i = 3 by omega) with rfl | rfl | rfl | rfl
    · have e : (Value.ref b) = v := Option.some.inj (Option.some.inj h)
      subst e; exact lv_at hl 2 rfl
    · have e : (Value.ref qS) = v := Option.some.inj (Option.some.inj h)
      subst e; exact lv_at hl 1 rfl
    · have e : (Value.ref qM) = v := Option.some.inj (Option.some.inj h)
      subst e; exact lv_at hl 0 rfl
    · cases h

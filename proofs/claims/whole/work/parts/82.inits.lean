theorem wt_eq : upd (fun _ => 0) 0 1 = fun j : Nat => oI (if (j : Int) = 0 then 1 else 0) := by
  funext j
  unfold upd
  by_cases h : j = 0
  · rw [if_pos h, if_pos (by omega)]; rfl
  · rw [if_neg h, if_neg (by omega)]; rfl
/-! ===== Arrays.fill over one cell ===== -/
theorem g_fill : GoodIn wsL_law (va_wsS RX3 51 yJ7_fill_53178 (Cond.code yJ7_fill_53178 cJ7_fill_53178 4 none :: wsL_law)) := by
  intro w hw
  have hm : w ∈ wsL_law := by
    simp only [va_wsS, List.mem_append, List.mem_cons, List.not_mem_nil, or_false] at hw
    rcases hw with (rfl | rfl | rfl) | rfl | hw
    · exact inr_4 _ (List.mem_of_getElem? (i := 11) rfl)
    · exact inr_4 _ (List.mem_of_getElem? (i := 12) rfl)
    · exact inr_4 _ (List.mem_of_getElem? (i := 13) rfl)
    · exact inr_4 _ (List.mem_of_getElem? (i := 14) rfl)
    · exact hw
  exact ⟨hm, gd hm⟩
theorem cell_congr {cA : ClassId} {n : Nat} {f g : Nat → Int32} (h : ∀ j, j < n → f j = g j) : vp_cell cA (n, .inl f) = vp_cell cA (n, .inl g) := by
  rw [vp_cell_i, vp_cell_i]
  unfold arrV
  congr 1
  congr 1
  funext j
  show Value.int (f j.val) = Value.int (g j.val)
  rw [h j.val j.isLt]
def PcF (D : va_G) (tc : Tc) (q n : Nat) (f : Nat → Int32) (v : Int32) (sz : Nat) : Array Value → State → Prop := va_Pc [.ref q, .int v] (fun U => U.heap.size = sz ∧ va_P D vwCl [(q, .inl (tc.1, n, .inl f))] U.heap ∧ va_K D vwCl (TY tc) U ∧ va_D (fun _ => True) [(q, .inl (tc.1, n, .inl f))])
theorem fill_blind {D : va_G} {tc : Tc} {q n : Nat} {f : Nat → Int32} {v : Int32} {sz : Nat} : FrameBlind (PcF D tc q n f v sz) := fun a U g mk z => by
  obtain ⟨q0, q1, qP, qK, qD⟩ := z
  exact ⟨q0, q1, qP, va_K.moved (u := U) (U := U.calling g mk a) (Vm.Alike.refl U.vm) qK, qD⟩
set_option maxHeartbeats 4000000 in
set_option maxRecDepth 100000 in
theorem c_fill (l : Launch) (D : va_G) (tc : Tc) (q n : Nat) (f : Nat → Int32) (v : Int32) (sz : Nat) (hn : n < 2000) : Met l yJ7_fill_53178 (Cond.code yJ7_fill_53178 cJ7_fill_53178 4 none :: wsL_law) { frames := 0, cells := 0, slots := 0, locals := 0 } (PcF D tc q n f v sz) (va_Qv (fun (_ : Unit) => True) (fun _ t => va_P D vwCl [(q, .inl (tc.1, n, .inl (fun _ => v)))] t.heap ∧ va_D (va_A [(q, .inl (tc.1, n, .inl f))] sz) [(q, .inl (tc.1, n, .inl (fun _ => v)))]) (va_A [(q, .inl (tc.1, n, .inl f))] sz)) 0 0 (va_A [(q, .inl (tc.1, n, .inl f))] sz) := by
  refine Met.ofW (cc := cJ7_fill_53178) (maxL := 4) (ret := none) (by decide +kernel) rfl ?_
  intro p e s m args below meth c s₁ B hml hv
  obtain ⟨rfl, hsz, hP, hK, hD0⟩ := hv
  have hx := B.exec
  have hb := B.bytes
  have hr := B.returns
  have hlocks := B.notSynchronized
  subst hsz
  have hD := hD0.self (sz := s.heap.size)
  generalize hAe : va_A [(q, .inl (tc.1, n, .inl f))] s.heap.size = A at hD ⊢
  have hS : va_S A s.heap s.heap [] := va_S.rf
  have hl := lv_entry ([.ref q, .int v]) (n := 4) (Nat.le_of_ble_eq_true rfl)
  rw [lg_entry_eq]
  generalize (lg_sl ([.ref q, .int v]) ++ List.replicate (4 - (lg_sl ([.ref q, .int v])).length) Slot.unset).toArray = ls at hl ⊢
  have hl : lv_has ls 4 [(0, .ref q), (1, .int v)] := hl
  refine lv_iconst (v := oI (0 : Nat)) hx hb dJ7_fill_53178_0 (by decide) ?_
  refine lv_istore_n (lv' := [(2, .int (oI (0 : Nat))), (0, .ref q), (1, .int v)]) hx hb dJ7_fill_53178_1 rfl hl (by decide) rfl (fun ls hl => ?_)
  refine lv_aload_n hx hb dJ7_fill_53178_2 rfl (lv_at hl 1 rfl) ?_
  refine va_alen (v := oI n) hx hb hK hP 0 0 rfl rfl (by show Int32.ofNat n = Int32.ofInt (n : Int); rw [Int32.ofInt_eq_ofNat]) dJ7_fill_53178_3 ?_
  refine lv_istore_n (lv' := [(3, .int (oI n)), (2, .int (oI (0 : Nat))), (0, .ref q), (1, .int v)]) hx hb dJ7_fill_53178_4 rfl hl (by decide) rfl (fun ls hl => ?_)
  have key : ∀ (k i : Nat) (g : Nat → Int32) (H : Heap) (locs : List Loc) (ls : Array Slot), i + k = n → (∀ j, j < i → g j = v) → va_P D vwCl [(q, .inl (tc.1, n, .inl g))] H → va_D A [(q, .inl (tc.1, n, .inl g))] → va_S A s.heap H locs → lv_has ls 4 [(3, .int (oI n)), (2, .int (oI i)), (0, .ref q), (1, .int v)] → W p l e { frames := 0, cells := 0, slots := 0, locals := 0 } s m ([Value.ref q, Value.int v] : List Value).toArray below meth c H locs 0 0 (MQ below (va_Qv (fun (_ : Unit) => True) (fun _ t => va_P D vwCl [(q, .inl (tc.1, n, .inl (fun _ => v)))] t.heap ∧ va_D A [(q, .inl (tc.1, n, .inl (fun _ => v)))]) A) ([Value.ref q, Value.int v] : List Value).toArray s 0 0 A) (F0 m 5 ls []) := by
    intro k
    induction k with
    | zero =>
      intro i g H locs ls hi hg hP hD hS hl
      refine lv_iload_n hx hb dJ7_fill_53178_5 rfl (lv_at hl 1 rfl) ?_
      refine lv_iload_n hx hb dJ7_fill_53178_6 rfl (lv_at hl 0 rfl) ?_
      refine lv_icmp_ge (tgt := 20) hx hb dJ7_fill_53178_7 (by decide) (fun _ => ?_) (fun hc => absurd ((oI_le ⟨by omega, by omega⟩ ⟨by omega, by omega⟩).mpr (by omega)) hc)
      have hP9 : va_P D vwCl [(q, .inl (tc.1, n, .inl (fun _ => v)))] H := by
        intro k x hk
        match k, hk with
        | 0, hk =>
          cases hk
          have h0 := hP 0 _ rfl
          show H[q]? = some (vp_cell tc.1 (n, .inl (fun _ => v)))
          rw [← cell_congr (f := g) (fun j hj => hg j (by omega))]
          exact h0
      have hD9 : va_D A [(q, .inl (tc.1, n, .inl (fun _ => v)))] := by
        refine ⟨fun i j x y hx hy he => ?_, fun k x hk => ?_⟩
        · match i, j, hx, hy with
          | 0, 0, _, _ => rfl
        · match k, hk with
          | 0, hk =>
            cases hk
            exact hD.2 0 (q, .inl (tc.1, n, .inl g)) rfl
      exact W.vret hx hb hr (fun t ht hW => ⟨⟨(), rfl, trivial, by rw [ht]; exact hP9, hD9⟩, hS.F ht⟩) hS.2.2 dJ7_fill_53178_20
    | succ k ih =>
      intro i g H locs ls hi hg hP hD hS hl
      obtain ⟨v1, v2⟩ := oI_in (i := (i : Int)) (n := n) (by omega) (by omega) (by omega)
      refine lv_iload_n hx hb dJ7_fill_53178_5 rfl (lv_at hl 1 rfl) ?_
      refine lv_iload_n hx hb dJ7_fill_53178_6 rfl (lv_at hl 0 rfl) ?_
      refine lv_icmp_ge (tgt := 20) hx hb dJ7_fill_53178_7 (by decide) (fun hc => absurd ((oI_le ⟨by omega, by omega⟩ ⟨by omega, by omega⟩).mp hc) (by omega)) (fun _ => ?_)
      refine lv_aload_n hx hb dJ7_fill_53178_10 rfl (lv_at hl 2 rfl) ?_
      refine lv_iload_n hx hb dJ7_fill_53178_11 rfl (lv_at hl 1 rfl) ?_
      refine lv_iload_n hx hb dJ7_fill_53178_12 rfl (lv_at hl 3 rfl) ?_
      refine va_iast hx hb hK hP hD hS 0 0 rfl rfl v1 dJ7_fill_53178_13 (fun H locs hP hD hS => ?_)
      refine lv_iinc (v := oI ((i + 1 : Nat) : Int)) (lv' := [(2, .int (oI ((i + 1 : Nat) : Int))), (3, .int (oI n)), (0, .ref q), (1, .int v)]) hx hb dJ7_fill_53178_14 hl (k := 1) rfl (by show oI (i : Int) + oI 1 = _; rw [oI_add]; congr 1) (by decide) rfl (fun ls hl => ?_)
      refine lv_goto (tgt := 5) hx hb dJ7_fill_53178_17 (by decide) ?_
      refine ih (i + 1) (upd g (oI (i : Int)).toNatClampNeg v) H locs ls (by omega) (fun j hj => ?_) hP hD hS (lv_sub hl [1, 0, 2, 3] rfl)
      rw [v2]
      unfold upd
      by_cases e : j = i
      · rw [if_pos (by omega)]
      · rw [if_neg (by omega)]
        exact hg j (by omega)
  have hl : lv_has ls 4 [(3, .int (oI n)), (2, .int (oI ((0 : Nat) : Int))), (0, .ref q), (1, .int v)] := hl
  exact key n 0 f s.heap [] ls (by omega) (fun j hj => absurd hj (by omega)) hP hD hS hl
def bX0 (tc : Tc) (h : Nat) (a : Nat → Nat) : va_W := [(h, .inr (0, [.int 0, .ref (a 1), .ref (a 2), .ref (a 3)])), (a 1, .inl (tc.1, 6, .inl (fun _ => 0))), (a 2, .inl (tc.1, 24, .inl (fun _ => 0))), (a 3, .inl (tc.1, 6, .inl (fun _ => 0)))]
set_option maxHeartbeats 4000000 in
set_option maxRecDepth 100000 in
theorem n_X0 (l : Launch) (D : va_G) (tc : Tc) : CtN l D tc yX0_init cX0_init 1 { frames := 1, cells := 3, slots := 36, locals := 12 } 0 [.int 0, .null, .null, .null] (bX0 tc) (fun _ => True) := CtN.mk (by decide +kernel) rfl (Nat.le_of_ble_eq_true rfl) (fun p e s m args below meth c A Qm h0 ls X hP hD hS hE hin hl ret => by
  refine lv_aload_n X.1 X.2.1 dX0_init_0 rfl (lv_at hl 0 rfl) ?_
  refine kx_obj X hl.1 (inr_2 _ (List.mem_of_getElem? (i := 15) rfl)) dX0_init_1 (Nat.le_of_ble_eq_true rfl) (Nat.le_of_ble_eq_true rfl) ?_
  refine lv_aload_n X.1 X.2.1 dX0_init_4 rfl (lv_at hl 0 rfl) ?_
  refine lv_bipush (v := 6) X.1 X.2.1 dX0_init_5 (by decide) ?_
  refine kx_newi (N := 6) X hP hD hS (by decide) (by decide) (by decide) (Nat.le_of_ble_eq_true rfl) (Nat.le_of_ble_eq_true rfl) dX0_init_7 (fun q1 H hP hD hS => ?_)
  refine kx_putF (C := RX0) (T := TX0) (N := 4) (k := 1) (ty := tyX0 1) (v := .ref q1) X hP hD hS 0 rfl rfl fl_X0_9 hin rfl rfl (tyX0_ok 1 (by decide)) rfl rfl (Nat.le_of_ble_eq_true rfl) dX0_init_9 (fun H locs hP hD hS => ?_)
  have hP : va_P D vwCl [(h0, .inr (0, [.int 0, .ref q1, .null, .null])), (q1, .inl (tc.1, 6, .inl (fun _ => 0)))] H := hP
  have hD : va_D A [(h0, .inr (0, [.int 0, .ref q1, .null, .null])), (q1, .inl (tc.1, 6, .inl (fun _ => 0)))] := hD
  refine lv_aload_n X.1 X.2.1 dX0_init_12 rfl (lv_at hl 0 rfl) ?_
  refine lv_bipush (v := 24) X.1 X.2.1 dX0_init_13 (by decide) ?_
  refine kx_newi (N := 24) X hP hD hS (by decide) (by decide) (by decide) (Nat.le_of_ble_eq_true rfl) (Nat.le_of_ble_eq_true rfl) dX0_init_15 (fun q2 H hP hD hS => ?_)
  refine kx_putF (C := RX0) (T := TX0) (N := 4) (k := 2) (ty := tyX0 2) (v := .ref q2) X hP hD hS 0 rfl rfl fl_X0_15 hin rfl rfl (tyX0_ok 2 (by decide)) rfl rfl (Nat.le_of_ble_eq_true rfl) dX0_init_17 (fun H locs hP hD hS => ?_)
  have hP : va_P D vwCl [(h0, .inr (0, [.int 0, .ref q1, .ref q2, .null])), (q1, .inl (tc.1, 6, .inl (fun _ => 0))), (q2, .inl (tc.1, 24, .inl (fun _ => 0)))] H := hP
  have hD : va_D A [(h0, .inr (0, [.int 0, .ref q1, .ref q2, .null])), (q1, .inl (tc.1, 6, .inl (fun _ => 0))), (q2, .inl (tc.1, 24, .inl (fun _ => 0)))] := hD
  refine lv_aload_n X.1 X.2.1 dX0_init_20 rfl (lv_at hl 0 rfl) ?_
  refine lv_bipush (v := 6) X.1 X.2.1 dX0_init_21 (by decide) ?_
  refine kx_newi (N := 6) X hP hD hS (by decide) (by decide) (by decide) (Nat.le_of_ble_eq_true rfl) (Nat.le_of_ble_eq_true rfl) dX0_init_23 (fun q3 H hP hD hS => ?_)
  refine kx_putF (C := RX0) (T := TX0) (N := 4) (k := 3) (ty := tyX0 3) (v := .ref q3) X hP hD hS 0 rfl rfl fl_X0_18 hin rfl rfl (tyX0_ok 3 (by decide)) rfl rfl (Nat.le_of_ble_eq_true rfl) dX0_init_25 (fun H locs hP hD hS => ?_)
  have hP : va_P D vwCl [(h0, .inr (0, [.int 0, .ref q1, .ref q2, .ref q3])), (q1, .inl (tc.1, 6, .inl (fun _ => 0))), (q2, .inl (tc.1, 24, .inl (fun _ => 0))), (q3, .inl (tc.1, 6, .inl (fun _ => 0)))] H := hP
  have hD : va_D A [(h0, .inr (0, [.int 0, .ref q1, .ref q2, .ref q3])), (q1, .inl (tc.1, 6, .inl (fun _ => 0))), (q2, .inl (tc.1, 24, .inl (fun _ => 0))), (q3, .inl (tc.1, 6, .inl (fun _ => 0)))] := hD
  refine W.widen (k := 3) (n := 36) (Nat.le_of_ble_eq_true rfl) (Nat.le_of_ble_eq_true rfl) ?_
  exact ret _ _ (fun k => if k = 1 then q1 else if k = 2 then q2 else if k = 3 then q3 else 0) _ _ hP hD hS dX0_init_28)
def bX1 (tc : Tc) (h : Nat) (a : Nat → Nat) : va_W := [(h, .inr (1, [.int 0, .ref (a 1), .ref (a 2), .ref (a 3), .ref (a 4), .ref (a 5), .ref (a 6)])), (a 1, .inl (tc.1, 200, .inl (fun _ => 0))), (a 2, .inl (tc.1, 200, .inl (fun _ => 0))), (a 3, .inl (tc.1, 200, .inl (fun _ => 0))), (a 4, .inl (tc.1, 200, .inl (fun _ => 0))), (a 5, .inl (tc.1, 200, .inl (fun _ => 0))), (a 6, .inl (tc.1, 600, .inl (fun _ => 0)))]
set_option maxHeartbeats 4000000 in
set_option maxRecDepth 100000 in
theorem n_X1 (l : Launch) (D : va_G) (tc : Tc) : CtN l D tc yX1_init cX1_init 1 { frames := 1, cells := 6, slots := 1600, locals := 12 } 1 [.int 0, .null, .null, .null, .null, .null, .null] (bX1 tc) (fun _ => True) := CtN.mk (by decide +kernel) rfl (Nat.le_of_ble_eq_true rfl) (fun p e s m args below meth c A Qm h0 ls X hP hD hS hE hin hl ret => by
  refine lv_aload_n X.1 X.2.1 dX1_init_0 rfl (lv_at hl 0 rfl) ?_
  refine kx_obj X hl.1 (inr_3 _ (List.mem_of_getElem? (i := 3) rfl)) dX1_init_1 (Nat.le_of_ble_eq_true rfl) (Nat.le_of_ble_eq_true rfl) ?_
  refine lv_aload_n X.1 X.2.1 dX1_init_4 rfl (lv_at hl 0 rfl) ?_
  refine lv_sipush (v := 200) X.1 X.2.1 dX1_init_5 (by decide) ?_
  refine kx_newi (N := 200) X hP hD hS (by decide) (by decide) (by decide) (Nat.le_of_ble_eq_true rfl) (Nat.le_of_ble_eq_true rfl) dX1_init_8 (fun q1 H hP hD hS => ?_)
  refine kx_putF (C := RX1) (T := TX1) (N := 7) (k := 1) (ty := tyX1 1) (v := .ref q1) X hP hD hS 0 rfl rfl fl_X1_9 hin rfl rfl (tyX1_ok 1 (by decide)) rfl rfl (Nat.le_of_ble_eq_true rfl) dX1_init_10 (fun H locs hP hD hS => ?_)
  have hP : va_P D vwCl [(h0, .inr (1, [.int 0, .ref q1, .null, .null, .null, .null, .null])), (q1, .inl (tc.1, 200, .inl (fun _ => 0)))] H := hP
  have hD : va_D A [(h0, .inr (1, [.int 0, .ref q1, .null, .null, .null, .null, .null])), (q1, .inl (tc.1, 200, .inl (fun _ => 0)))] := hD
  refine lv_aload_n X.1 X.2.1 dX1_init_13 rfl (lv_at hl 0 rfl) ?_
  refine lv_sipush (v := 200) X.1 X.2.1 dX1_init_14 (by decide) ?_
  refine kx_newi (N := 200) X hP hD hS (by decide) (by decide) (by decide) (Nat.le_of_ble_eq_true rfl) (Nat.le_of_ble_eq_true rfl) dX1_init_17 (fun q2 H hP hD hS => ?_)
  refine kx_putF (C := RX1) (T := TX1) (N := 7) (k := 2) (ty := tyX1 2) (v := .ref q2) X hP hD hS 0 rfl rfl fl_X1_15 hin rfl rfl (tyX1_ok 2 (by decide)) rfl rfl (Nat.le_of_ble_eq_true rfl) dX1_init_19 (fun H locs hP hD hS => ?_)
  have hP : va_P D vwCl [(h0, .inr (1, [.int 0, .ref q1, .ref q2, .null, .null, .null, .null])), (q1, .inl (tc.1, 200, .inl (fun _ => 0))), (q2, .inl (tc.1, 200, .inl (fun _ => 0)))] H := hP
  have hD : va_D A [(h0, .inr (1, [.int 0, .ref q1, .ref q2, .null, .null, .null, .null])), (q1, .inl (tc.1, 200, .inl (fun _ => 0))), (q2, .inl (tc.1, 200, .inl (fun _ => 0)))] := hD
  refine lv_aload_n X.1 X.2.1 dX1_init_22 rfl (lv_at hl 0 rfl) ?_
  refine lv_sipush (v := 200) X.1 X.2.1 dX1_init_23 (by decide) ?_
  refine kx_newi (N := 200) X hP hD hS (by decide) (by decide) (by decide) (Nat.le_of_ble_eq_true rfl) (Nat.le_of_ble_eq_true rfl) dX1_init_26 (fun q3 H hP hD hS => ?_)
  refine kx_putF (C := RX1) (T := TX1) (N := 7) (k := 3) (ty := tyX1 3) (v := .ref q3) X hP hD hS 0 rfl rfl fl_X1_18 hin rfl rfl (tyX1_ok 3 (by decide)) rfl rfl (Nat.le_of_ble_eq_true rfl) dX1_init_28 (fun H locs hP hD hS => ?_)
  have hP : va_P D vwCl [(h0, .inr (1, [.int 0, .ref q1, .ref q2, .ref q3, .null, .null, .null])), (q1, .inl (tc.1, 200, .inl (fun _ => 0))), (q2, .inl (tc.1, 200, .inl (fun _ => 0))), (q3, .inl (tc.1, 200, .inl (fun _ => 0)))] H := hP
  have hD : va_D A [(h0, .inr (1, [.int 0, .ref q1, .ref q2, .ref q3, .null, .null, .null])), (q1, .inl (tc.1, 200, .inl (fun _ => 0))), (q2, .inl (tc.1, 200, .inl (fun _ => 0))), (q3, .inl (tc.1, 200, .inl (fun _ => 0)))] := hD
  refine lv_aload_n X.1 X.2.1 dX1_init_31 rfl (lv_at hl 0 rfl) ?_
  refine lv_sipush (v := 200) X.1 X.2.1 dX1_init_32 (by decide) ?_
  refine kx_newi (N := 200) X hP hD hS (by decide) (by decide) (by decide) (Nat.le_of_ble_eq_true rfl) (Nat.le_of_ble_eq_true rfl) dX1_init_35 (fun q4 H hP hD hS => ?_)
  refine kx_putF (C := RX1) (T := TX1) (N := 7) (k := 4) (ty := tyX1 4) (v := .ref q4) X hP hD hS 0 rfl rfl fl_X1_21 hin rfl rfl (tyX1_ok 4 (by decide)) rfl rfl (Nat.le_of_ble_eq_true rfl) dX1_init_37 (fun H locs hP hD hS => ?_)
  have hP : va_P D vwCl [(h0, .inr (1, [.int 0, .ref q1, .ref q2, .ref q3, .ref q4, .null, .null])), (q1, .inl (tc.1, 200, .inl (fun _ => 0))), (q2, .inl (tc.1, 200, .inl (fun _ => 0))), (q3, .inl (tc.1, 200, .inl (fun _ => 0))), (q4, .inl (tc.1, 200, .inl (fun _ => 0)))] H := hP
  have hD : va_D A [(h0, .inr (1, [.int 0, .ref q1, .ref q2, .ref q3, .ref q4, .null, .null])), (q1, .inl (tc.1, 200, .inl (fun _ => 0))), (q2, .inl (tc.1, 200, .inl (fun _ => 0))), (q3, .inl (tc.1, 200, .inl (fun _ => 0))), (q4, .inl (tc.1, 200, .inl (fun _ => 0)))] := hD
  refine lv_aload_n X.1 X.2.1 dX1_init_40 rfl (lv_at hl 0 rfl) ?_
  refine lv_sipush (v := 200) X.1 X.2.1 dX1_init_41 (by decide) ?_
  refine kx_newi (N := 200) X hP hD hS (by decide) (by decide) (by decide) (Nat.le_of_ble_eq_true rfl) (Nat.le_of_ble_eq_true rfl) dX1_init_44 (fun q5 H hP hD hS => ?_)
  refine kx_putF (C := RX1) (T := TX1) (N := 7) (k := 5) (ty := tyX1 5) (v := .ref q5) X hP hD hS 0 rfl rfl fl_X1_24 hin rfl rfl (tyX1_ok 5 (by decide)) rfl rfl (Nat.le_of_ble_eq_true rfl) dX1_init_46 (fun H locs hP hD hS => ?_)
  have hP : va_P D vwCl [(h0, .inr (1, [.int 0, .ref q1, .ref q2, .ref q3, .ref q4, .ref q5, .null])), (q1, .inl (tc.1, 200, .inl (fun _ => 0))), (q2, .inl (tc.1, 200, .inl (fun _ => 0))), (q3, .inl (tc.1, 200, .inl (fun _ => 0))), (q4, .inl (tc.1, 200, .inl (fun _ => 0))), (q5, .inl (tc.1, 200, .inl (fun _ => 0)))] H := hP
  have hD : va_D A [(h0, .inr (1, [.int 0, .ref q1, .ref q2, .ref q3, .ref q4, .ref q5, .null])), (q1, .inl (tc.1, 200, .inl (fun _ => 0))), (q2, .inl (tc.1, 200, .inl (fun _ => 0))), (q3, .inl (tc.1, 200, .inl (fun _ => 0))), (q4, .inl (tc.1, 200, .inl (fun _ => 0))), (q5, .inl (tc.1, 200, .inl (fun _ => 0)))] := hD
  refine lv_aload_n X.1 X.2.1 dX1_init_49 rfl (lv_at hl 0 rfl) ?_
  refine lv_sipush (v := 600) X.1 X.2.1 dX1_init_50 (by decide) ?_
  refine kx_newi (N := 600) X hP hD hS (by decide) (by decide) (by decide) (Nat.le_of_ble_eq_true rfl) (Nat.le_of_ble_eq_true rfl) dX1_init_53 (fun q6 H hP hD hS => ?_)
  refine kx_putF (C := RX1) (T := TX1) (N := 7) (k := 6) (ty := tyX1 6) (v := .ref q6) X hP hD hS 0 rfl rfl fl_X1_27 hin rfl rfl (tyX1_ok 6 (by decide)) rfl rfl (Nat.le_of_ble_eq_true rfl) dX1_init_55 (fun H locs hP hD hS => ?_)
  have hP : va_P D vwCl [(h0, .inr (1, [.int 0, .ref q1, .ref q2, .ref q3, .ref q4, .ref q5, .ref q6])), (q1, .inl (tc.1, 200, .inl (fun _ => 0))), (q2, .inl (tc.1, 200, .inl (fun _ => 0))), (q3, .inl (tc.1, 200, .inl (fun _ => 0))), (q4, .inl (tc.1, 200, .inl (fun _ => 0))), (q5, .inl (tc.1, 200, .inl (fun _ => 0))), (q6, .inl (tc.1, 600, .inl (fun _ => 0)))] H := hP
  have hD : va_D A [(h0, .inr (1, [.int 0, .ref q1, .ref q2, .ref q3, .ref q4, .ref q5, .ref q6])), (q1, .inl (tc.1, 200, .inl (fun _ => 0))), (q2, .inl (tc.1, 200, .inl (fun _ => 0))), (q3, .inl (tc.1, 200, .inl (fun _ => 0))), (q4, .inl (tc.1, 200, .inl (fun _ => 0))), (q5, .inl (tc.1, 200, .inl (fun _ => 0))), (q6, .inl (tc.1, 600, .inl (fun _ => 0)))] := hD
  refine W.widen (k := 6) (n := 1600) (Nat.le_of_ble_eq_true rfl) (Nat.le_of_ble_eq_true rfl) ?_
  exact ret _ _ (fun k => if k = 1 then q1 else if k = 2 then q2 else if k = 3 then q3 else if k = 4 then q4 else if k = 5 then q5 else if k = 6 then q6 else 0) _ _ hP hD hS dX1_init_58)
def bX2 (tc : Tc) (h : Nat) (a : Nat → Nat) : va_W := [(h, .inr (2, [.int 1, .ref (a 1)])), (a 1, .inl (tc.1, 4, .inl (fun j : Nat => oI (if (j : Int) = 0 then 1 else 0))))]
set_option maxHeartbeats 4000000 in
set_option maxRecDepth 100000 in
theorem n_X2 (l : Launch) (D : va_G) (tc : Tc) : CtN l D tc yX2_init cX2_init 1 { frames := 1, cells := 1, slots := 4, locals := 12 } 2 [.int 0, .null] (bX2 tc) (fun _ => True) := CtN.mk (by decide +kernel) rfl (Nat.le_of_ble_eq_true rfl) (fun p e s m args below meth c A Qm h0 ls X hP hD hS hE hin hl ret => by
  refine lv_aload_n X.1 X.2.1 dX2_init_0 rfl (lv_at hl 0 rfl) ?_
  refine kx_obj X hl.1 (inr_2 _ (List.mem_of_getElem? (i := 22) rfl)) dX2_init_1 (Nat.le_of_ble_eq_true rfl) (Nat.le_of_ble_eq_true rfl) ?_
  refine lv_aload_n X.1 X.2.1 dX2_init_4 rfl (lv_at hl 0 rfl) ?_
  refine lv_iconst (v := 1) X.1 X.2.1 dX2_init_5 (by decide) ?_
  refine kx_put (C := RX2) (T := TX2) (N := 2) (k := 0) (ty := tyX2 0) (v := .int 1) X hP hD hS 0 rfl rfl fl_X2_9 rfl (tyX2_ok 0 (by decide)) rfl rfl (Nat.le_of_ble_eq_true rfl) dX2_init_6 (fun H locs hP hD hS => ?_)
  have hP : va_P D vwCl [(h0, .inr (2, [.int 1, .null]))] H := hP
  have hD : va_D A [(h0, .inr (2, [.int 1, .null]))] := hD
  refine lv_aload_n X.1 X.2.1 dX2_init_9 rfl (lv_at hl 0 rfl) ?_
  refine lv_iconst (v := 4) X.1 X.2.1 dX2_init_10 (by decide) ?_
  refine kx_newi (N := 4) X hP hD hS (by decide) (by decide) (by decide) (Nat.le_of_ble_eq_true rfl) (Nat.le_of_ble_eq_true rfl) dX2_init_11 (fun q1 H hP hD hS => ?_)
  refine kx_putF (C := RX2) (T := TX2) (N := 2) (k := 1) (ty := tyX2 1) (v := .ref q1) X hP hD hS 0 rfl rfl fl_X2_15 hin rfl rfl (tyX2_ok 1 (by decide)) rfl rfl (Nat.le_of_ble_eq_true rfl) dX2_init_13 (fun H locs hP hD hS => ?_)
  have hP : va_P D vwCl [(h0, .inr (2, [.int 1, .ref q1])), (q1, .inl (tc.1, 4, .inl (fun _ => 0)))] H := hP
  have hD : va_D A [(h0, .inr (2, [.int 1, .ref q1])), (q1, .inl (tc.1, 4, .inl (fun _ => 0)))] := hD
  refine lv_aload_n X.1 X.2.1 dX2_init_16 rfl (lv_at hl 0 rfl) ?_
  refine kx_get (v := .ref q1) X hP 0 rfl fl_X2_15 rfl dX2_init_17 ?_
  refine lv_iconst (v := 0) X.1 X.2.1 dX2_init_20 (by decide) ?_
  refine lv_iconst (v := 1) X.1 X.2.1 dX2_init_21 (by decide) ?_
  refine va_iast X.1 X.2.1 X.2.2.2.2.2.1 hP hD hS 1 0 rfl rfl (by unfold vp_in; decide) dX2_init_22 (fun H locs hP hD hS => ?_)
  have hP : va_P D vwCl [(h0, .inr (2, [.int 1, .ref q1])), (q1, .inl (tc.1, 4, .inl (upd (fun _ => 0) 0 1)))] H := hP
  have hD : va_D A [(h0, .inr (2, [.int 1, .ref q1])), (q1, .inl (tc.1, 4, .inl (upd (fun _ => 0) 0 1)))] := hD
  rw [wt_eq] at hP hD
  refine W.widen (k := 1) (n := 4) (Nat.le_of_ble_eq_true rfl) (Nat.le_of_ble_eq_true rfl) ?_
  exact ret _ _ (fun k => if k = 1 then q1 else 0) _ _ hP hD hS dX2_init_23)
def bX4 (tc : Tc) (h : Nat) (a : Nat → Nat) : va_W := [(h, .inr (4, [.int 0, .int 0, .int (-4), .int (-4), .ref (a 4), .ref (a 5)])), (a 4, .inl (tc.1, 6, .inl (fun _ => 0))), (a 5, .inl (tc.1, 6, .inl (fun _ => 0)))]
set_option maxHeartbeats 4000000 in
set_option maxRecDepth 100000 in
theorem n_X4 (l : Launch) (D : va_G) (tc : Tc) : CtN l D tc yX4_init cX4_init 1 { frames := 1, cells := 2, slots := 12, locals := 12 } 4 [.int 0, .int 0, .int 0, .int 0, .null, .null] (bX4 tc) (fun _ => True) := CtN.mk (by decide +kernel) rfl (Nat.le_of_ble_eq_true rfl) (fun p e s m args below meth c A Qm h0 ls X hP hD hS hE hin hl ret => by
  refine lv_aload_n X.1 X.2.1 dX4_init_0 rfl (lv_at hl 0 rfl) ?_
  refine kx_obj X hl.1 (inr_3 _ (List.mem_of_getElem? (i := 12) rfl)) dX4_init_1 (Nat.le_of_ble_eq_true rfl) (Nat.le_of_ble_eq_true rfl) ?_
  refine lv_aload_n X.1 X.2.1 dX4_init_4 rfl (lv_at hl 0 rfl) ?_
  refine lv_iconst (v := 0) X.1 X.2.1 dX4_init_5 (by decide) ?_
  refine kx_put (C := RX4) (T := TX4) (N := 6) (k := 1) (ty := tyX4 1) (v := .int 0) X hP hD hS 0 rfl rfl fl_X4_9 rfl (tyX4_ok 1 (by decide)) rfl rfl (Nat.le_of_ble_eq_true rfl) dX4_init_6 (fun H locs hP hD hS => ?_)
  have hP : va_P D vwCl [(h0, .inr (4, [.int 0, .int 0, .int 0, .int 0, .null, .null]))] H := hP
  have hD : va_D A [(h0, .inr (4, [.int 0, .int 0, .int 0, .int 0, .null, .null]))] := hD
  refine lv_aload_n X.1 X.2.1 dX4_init_9 rfl (lv_at hl 0 rfl) ?_
  refine lv_bipush (v := -4) X.1 X.2.1 dX4_init_10 (by decide) ?_
  refine kx_put (C := RX4) (T := TX4) (N := 6) (k := 2) (ty := tyX4 2) (v := .int (-4)) X hP hD hS 0 rfl rfl fl_X4_15 rfl (tyX4_ok 2 (by decide)) rfl rfl (Nat.le_of_ble_eq_true rfl) dX4_init_12 (fun H locs hP hD hS => ?_)
  have hP : va_P D vwCl [(h0, .inr (4, [.int 0, .int 0, .int (-4), .int 0, .null, .null]))] H := hP
  have hD : va_D A [(h0, .inr (4, [.int 0, .int 0, .int (-4), .int 0, .null, .null]))] := hD
  refine lv_aload_n X.1 X.2.1 dX4_init_15 rfl (lv_at hl 0 rfl) ?_
  refine lv_bipush (v := -4) X.1 X.2.1 dX4_init_16 (by decide) ?_
  refine kx_put (C := RX4) (T := TX4) (N := 6) (k := 3) (ty := tyX4 3) (v := .int (-4)) X hP hD hS 0 rfl rfl fl_X4_18 rfl (tyX4_ok 3 (by decide)) rfl rfl (Nat.le_of_ble_eq_true rfl) dX4_init_18 (fun H locs hP hD hS => ?_)
  have hP : va_P D vwCl [(h0, .inr (4, [.int 0, .int 0, .int (-4), .int (-4), .null, .null]))] H := hP
  have hD : va_D A [(h0, .inr (4, [.int 0, .int 0, .int (-4), .int (-4), .null, .null]))] := hD
  refine lv_aload_n X.1 X.2.1 dX4_init_21 rfl (lv_at hl 0 rfl) ?_
  refine lv_bipush (v := 6) X.1 X.2.1 dX4_init_22 (by decide) ?_
  refine kx_newi (N := 6) X hP hD hS (by decide) (by decide) (by decide) (Nat.le_of_ble_eq_true rfl) (Nat.le_of_ble_eq_true rfl) dX4_init_24 (fun q1 H hP hD hS => ?_)
  refine kx_putF (C := RX4) (T := TX4) (N := 6) (k := 4) (ty := tyX4 4) (v := .ref q1) X hP hD hS 0 rfl rfl fl_X4_21 hin rfl rfl (tyX4_ok 4 (by decide)) rfl rfl (Nat.le_of_ble_eq_true rfl) dX4_init_26 (fun H locs hP hD hS => ?_)
  have hP : va_P D vwCl [(h0, .inr (4, [.int 0, .int 0, .int (-4), .int (-4), .ref q1, .null])), (q1, .inl (tc.1, 6, .inl (fun _ => 0)))] H := hP
  have hD : va_D A [(h0, .inr (4, [.int 0, .int 0, .int (-4), .int (-4), .ref q1, .null])), (q1, .inl (tc.1, 6, .inl (fun _ => 0)))] := hD
  refine lv_aload_n X.1 X.2.1 dX4_init_29 rfl (lv_at hl 0 rfl) ?_
  refine lv_bipush (v := 6) X.1 X.2.1 dX4_init_30 (by decide) ?_
  refine kx_newi (N := 6) X hP hD hS (by decide) (by decide) (by decide) (Nat.le_of_ble_eq_true rfl) (Nat.le_of_ble_eq_true rfl) dX4_init_32 (fun q2 H hP hD hS => ?_)
  refine kx_putF (C := RX4) (T := TX4) (N := 6) (k := 5) (ty := tyX4 5) (v := .ref q2) X hP hD hS 0 rfl rfl fl_X4_25 hin rfl rfl (tyX4_ok 5 (by decide)) rfl rfl (Nat.le_of_ble_eq_true rfl) dX4_init_34 (fun H locs hP hD hS => ?_)
  have hP : va_P D vwCl [(h0, .inr (4, [.int 0, .int 0, .int (-4), .int (-4), .ref q1, .ref q2])), (q1, .inl (tc.1, 6, .inl (fun _ => 0))), (q2, .inl (tc.1, 6, .inl (fun _ => 0)))] H := hP
  have hD : va_D A [(h0, .inr (4, [.int 0, .int 0, .int (-4), .int (-4), .ref q1, .ref q2])), (q1, .inl (tc.1, 6, .inl (fun _ => 0))), (q2, .inl (tc.1, 6, .inl (fun _ => 0)))] := hD
  refine W.widen (k := 2) (n := 12) (Nat.le_of_ble_eq_true rfl) (Nat.le_of_ble_eq_true rfl) ?_
  exact ret _ _ (fun k => if k = 4 then q1 else if k = 5 then q2 else 0) _ _ hP hD hS dX4_init_37)

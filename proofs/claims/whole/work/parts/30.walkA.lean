theorem fl_step {σ : Mem} {c0 k : Nat} {pp v i : Int} (h0 : 0 ≤ i) : up (fl σ c0 pp k i v) c0 pp k i v = fl σ c0 pp k (i + 1) v := by
  funext c' p' k' i'
  simp only [up, fl]
  by_cases h : c' = c0 ∧ p' = pp ∧ k' = k
  · obtain ⟨rfl, rfl, rfl⟩ := h
    by_cases h1 : i' = i
    · subst h1
      rw [if_pos ⟨rfl, rfl, rfl, rfl⟩, if_pos ⟨rfl, rfl, rfl, h0, by omega⟩]
    · rw [if_neg (by omega)]
      by_cases h2 : 0 ≤ i' ∧ i' < i
      · rw [if_pos ⟨rfl, rfl, rfl, h2⟩, if_pos ⟨rfl, rfl, rfl, h2.1, by omega⟩]
      · rw [if_neg (fun z => h2 z.2.2.2), if_neg (fun z => h2 ⟨z.2.2.2.1, by have := z.2.2.2.2; omega⟩)]
  · rw [if_neg (fun z => h ⟨z.1, z.2.1, z.2.2.1⟩), if_neg (fun z => h ⟨z.1, z.2.1, z.2.2.1⟩), if_neg (fun z => h ⟨z.1, z.2.1, z.2.2.1⟩)]
theorem fl_0 {σ : Mem} {c0 k : Nat} {pp v : Int} : fl σ c0 pp k 0 v = σ := by
  funext c' p' k' i'
  simp only [fl]
  rw [if_neg (by omega)]
set_option maxHeartbeats 4000000 in
set_option maxRecDepth 100000 in
theorem m_fill {p : Program} {l : Launch} {e : Env} {R : Room} {s : State} {m : MethodId} {args : Array Value} {below : List Frame} {meth : Method} {c : Code} {D : va_G} {ad : Ky → Nat} {tc : Tc} {A : Nat → Prop} {cs sl : Nat} {Qm : State → Prop} (X : Cx p s m args c cJ7_fill_53178 RJ7 4 D ad tc A) {Q : Mem → Prop} (hret : RtV p l e R s m args below meth c D ad tc A cs sl Qm cJ7_fill_53178 Q) {c0 k n : Nat} {pp v : Int} {σ : Mem} (hr : Arr c0 pp k n) (hq : Q (fl σ c0 pp k n v)) : ∀ (j i : Nat), i + j = n → AW p l e R s m args below meth c D ad tc A cs sl Qm 5 [some (.ref (ad (c0, pp, k + 1))), some (.int (oI v)), some (.int (oI (i : Int))), some (.int (oI (n : Int)))] [] (fl σ c0 pp k i v) := by
  have hn : n < 2000 := by rw [← hr.2.2.2]; exact aln_lt c0 k
  intro j
  induction j with
  | zero =>
    intro i hi
    refine aw_iload_n X dJ7_fill_53178_5 rfl ?_
    refine aw_iload_n X dJ7_fill_53178_6 rfl ?_
    refine aw_icmp_ge X dJ7_fill_53178_7 (tgt := 20) (by decide) ⟨by omega, by omega⟩ ⟨by omega, by omega⟩ (fun hc => ?_) (fun hc => ?_)
    · have e : i = n := by omega
      subst e
      exact hret 20 _ _ dJ7_fill_53178_20 hq
    · exact absurd hc (by omega)
  | succ j ih =>
    intro i hi
    refine aw_iload_n X dJ7_fill_53178_5 rfl ?_
    refine aw_iload_n X dJ7_fill_53178_6 rfl ?_
    refine aw_icmp_ge X dJ7_fill_53178_7 (tgt := 20) (by decide) ⟨by omega, by omega⟩ ⟨by omega, by omega⟩ (fun hc => ?_) (fun hc => ?_)
    · exact absurd hc (by omega)
    · refine aw_aload_n X dJ7_fill_53178_10 rfl ?_
      refine aw_iload_n X dJ7_fill_53178_11 rfl ?_
      refine aw_iload_n X dJ7_fill_53178_12 rfl ?_
      refine aw_iast X hr (by omega) (by omega) dJ7_fill_53178_13 ?_
      refine aw_iinc X dJ7_fill_53178_14 rfl rfl ?_
      refine aw_goto X dJ7_fill_53178_17 (tgt := 5) (by decide) ?_
      refine aw_mem (fl_step (by omega)).symm ?_
      have k1 := ih (i + 1) (by omega)
      rw [show (((i + 1 : Nat)) : Int) = (i : Int) + 1 by omega] at k1
      exact k1
theorem s_fill (l : Launch) (D : va_G) (ad : Ky → Nat) (tc : Tc) (hi : adI ad) {c0 k n : Nat} {pp v : Int} {σ : Mem} (hr : Arr c0 pp k n) : CtV l D ad tc yJ7_fill_53178 cJ7_fill_53178 4 none { frames := 0, cells := 0, slots := 0, locals := 0 } [.ref (ad (c0, pp, k + 1)), .int (oI v)] σ (fun σ1 => σ1 = fl σ c0 pp k n v) := CtV.mk (by decide +kernel) hi (Nat.le_of_ble_eq_true rfl) rfl (fun p e s m args below meth c A Qm X hR hret => by
  refine aw_iconst X dJ7_fill_53178_0 ?_
  refine aw_istore_n X dJ7_fill_53178_1 (Nat.le_of_ble_eq_true rfl) rfl ?_
  refine aw_aload_n X dJ7_fill_53178_2 rfl ?_
  refine aw_alen X hr dJ7_fill_53178_3 ?_
  refine aw_istore_n X dJ7_fill_53178_4 (Nat.le_of_ble_eq_true rfl) rfl ?_
  refine aw_mem (fl_0 (c0 := c0) (k := k) (pp := pp) (v := v)) ?_
  exact m_fill X hret hr rfl n 0 (by omega))
set_option maxHeartbeats 4000000 in
set_option maxRecDepth 100000 in
theorem m_Ch_knows_17 {p : Program} {l : Launch} {e : Env} {R : Room} {s : State} {m : MethodId} {args : Array Value} {below : List Frame} {meth : Method} {c : Code} {D : va_G} {ad : Ky → Nat} {tc : Tc} {A : Nat → Prop} {cs sl : Nat} {Qm : State → Prop} (X : Cx p s m args c cX0_knows RX0 2 D ad tc A) (hR : RmOK R cs sl 0 0) {Q : Int → Mem → Prop} (hret : RtZ p l e R s m args below meth c D ad tc A cs sl Qm cX0_knows Q) {s0 : Int} {σ : Mem} (h : Ch_knows_17 Q s0 σ) : AW p l e R s m args below meth c D ad tc A cs sl Qm 17 [none, none] [.int (oI s0)] σ := by
  unfold Ch_knows_17 at h
  exact hret 17 _ _ _ dX0_knows_17 h.1 h.2

set_option maxHeartbeats 4000000 in
set_option maxRecDepth 100000 in
theorem m_Ch_knows_16 {p : Program} {l : Launch} {e : Env} {R : Room} {s : State} {m : MethodId} {args : Array Value} {below : List Frame} {meth : Method} {c : Code} {D : va_G} {ad : Ky → Nat} {tc : Tc} {A : Nat → Prop} {cs sl : Nat} {Qm : State → Prop} (X : Cx p s m args c cX0_knows RX0 2 D ad tc A) (hR : RmOK R cs sl 0 0) {Q : Int → Mem → Prop} (hret : RtZ p l e R s m args below meth c D ad tc A cs sl Qm cX0_knows Q) {σ : Mem} (h : Ch_knows_16 Q σ) : AW p l e R s m args below meth c D ad tc A cs sl Qm 16 [none, none] [] σ := by
  unfold Ch_knows_16 at h
  refine aw_iconst X dX0_knows_16 ?_
  refine aw_weak (als' := [none, none]) trivial ?_
  exact m_Ch_knows_17 X hR hret h

set_option maxHeartbeats 4000000 in
set_option maxRecDepth 100000 in
theorem m_Ch_knows_0 {p : Program} {l : Launch} {e : Env} {R : Room} {s : State} {m : MethodId} {args : Array Value} {below : List Frame} {meth : Method} {c : Code} {D : va_G} {ad : Ky → Nat} {tc : Tc} {A : Nat → Prop} {cs sl : Nat} {Qm : State → Prop} (X : Cx p s m args c cX0_knows RX0 2 D ad tc A) (hR : RmOK R cs sl 0 0) {Q : Int → Mem → Prop} (hret : RtZ p l e R s m args below meth c D ad tc A cs sl Qm cX0_knows Q) {l1 : Int} {σ : Mem} (h : Ch_knows l1 σ Q) : AW p l e R s m args below meth c D ad tc A cs sl Qm 0 [some (.ref (ad (0, 0, 0))), some (.int (oI l1))] [] σ := by
  unfold Ch_knows at h
  refine aw_iload_n X dX0_knows_0 rfl ?_
  obtain ⟨g1, h⟩ := h
  refine aw_if_lt X dX0_knows_1 (tgt := 16) (by decide) g1 (fun hc => ?_) (fun hc => ?_)
  · replace h := h.1 hc
    refine aw_weak (als' := [none, none]) trivial ?_
    exact m_Ch_knows_16 X hR hret h
  · replace h := h.2 hc
    refine aw_iload_n X dX0_knows_4 rfl ?_
    refine aw_aload_n X dX0_knows_5 rfl ?_
    refine aw_get X ob_0 fl_X0_21 rfl dX0_knows_6 ?_
    obtain ⟨g2, h⟩ := h
    obtain ⟨g3, h⟩ := h
    refine aw_icmp_ge X dX0_knows_9 (tgt := 16) (by decide) g2 g3 (fun hc => ?_) (fun hc => ?_)
    · replace h := h.1 hc
      refine aw_weak (als' := [none, none]) trivial ?_
      exact m_Ch_knows_16 X hR hret h
    · replace h := h.2 hc
      refine aw_iconst X dX0_knows_12 ?_
      refine aw_goto X dX0_knows_13 (tgt := 17) (by decide) ?_
      refine aw_weak (als' := [none, none]) trivial ?_
      exact m_Ch_knows_17 X hR hret h
theorem s_Ch_knows (l : Launch) (D : va_G) (ad : Ky → Nat) (tc : Tc) (hi : adI ad) {l1 : Int} {σ : Mem} {Q : Int → Mem → Prop} (h : Ch_knows l1 σ Q) : CtI l D ad tc yX0_knows cX0_knows 2 (some .boolean) { frames := 0, cells := 0, slots := 0, locals := 0 } [.ref (ad (0, 0, 0)), .int (oI l1)] σ Q := CtI.mkz (by decide +kernel) hi (Nat.le_of_ble_eq_true rfl) rfl (fun p e s m args below meth c A Qm X hR hret => m_Ch_knows_0 X hR hret h)

set_option maxHeartbeats 4000000 in
set_option maxRecDepth 100000 in
theorem m_Ch_knowsValue_27 {p : Program} {l : Launch} {e : Env} {R : Room} {s : State} {m : MethodId} {args : Array Value} {below : List Frame} {meth : Method} {c : Code} {D : va_G} {ad : Ky → Nat} {tc : Tc} {A : Nat → Prop} {cs sl : Nat} {Qm : State → Prop} (X : Cx p s m args c cX0_knowsValue RX0 3 D ad tc A) (hR : RmOK R cs sl 1 21) {Q : Int → Mem → Prop} (hret : RtZ p l e R s m args below meth c D ad tc A cs sl Qm cX0_knowsValue Q) {s0 : Int} {σ : Mem} (h : Ch_knowsValue_27 Q s0 σ) : AW p l e R s m args below meth c D ad tc A cs sl Qm 27 [none, none, none] [.int (oI s0)] σ := by
  unfold Ch_knowsValue_27 at h
  exact hret 27 _ _ _ dX0_knowsValue_27 h.1 h.2

set_option maxHeartbeats 4000000 in
set_option maxRecDepth 100000 in
theorem m_Ch_knowsValue_26 {p : Program} {l : Launch} {e : Env} {R : Room} {s : State} {m : MethodId} {args : Array Value} {below : List Frame} {meth : Method} {c : Code} {D : va_G} {ad : Ky → Nat} {tc : Tc} {A : Nat → Prop} {cs sl : Nat} {Qm : State → Prop} (X : Cx p s m args c cX0_knowsValue RX0 3 D ad tc A) (hR : RmOK R cs sl 1 21) {Q : Int → Mem → Prop} (hret : RtZ p l e R s m args below meth c D ad tc A cs sl Qm cX0_knowsValue Q) {σ : Mem} (h : Ch_knowsValue_26 Q σ) : AW p l e R s m args below meth c D ad tc A cs sl Qm 26 [none, none, none] [] σ := by
  unfold Ch_knowsValue_26 at h
  refine aw_iconst X dX0_knowsValue_26 ?_
  refine aw_weak (als' := [none, none, none]) trivial ?_
  exact m_Ch_knowsValue_27 X hR hret h

set_option maxHeartbeats 4000000 in
set_option maxRecDepth 100000 in
theorem m_Ch_knowsValue_0 {p : Program} {l : Launch} {e : Env} {R : Room} {s : State} {m : MethodId} {args : Array Value} {below : List Frame} {meth : Method} {c : Code} {D : va_G} {ad : Ky → Nat} {tc : Tc} {A : Nat → Prop} {cs sl : Nat} {Qm : State → Prop} (X : Cx p s m args c cX0_knowsValue RX0 3 D ad tc A) (hR : RmOK R cs sl 1 21) {Q : Int → Mem → Prop} (hret : RtZ p l e R s m args below meth c D ad tc A cs sl Qm cX0_knowsValue Q) {l1 : Int} {l2 : Int} {σ : Mem} (h : Ch_knowsValue l1 l2 σ Q) : AW p l e R s m args below meth c D ad tc A cs sl Qm 0 [some (.ref (ad (0, 0, 0))), some (.int (oI l1)), some (.int (oI l2))] [] σ := by
  unfold Ch_knowsValue at h
  refine aw_aload_n X dX0_knowsValue_0 rfl ?_
  refine aw_iload_n X dX0_knowsValue_1 rfl ?_
  refine aw_callVI X hR (s_Ch_knows l D ad tc X.2.2.2.2.2.2.1 h) ml_X0_25 ob_0 rfl (by decide) (by decide) rfl rfl rfl rfl (Nat.le_of_ble_eq_true rfl) rfl dX0_knowsValue_2 (fun r1 σ1 h => ?_)
  obtain ⟨g2, h⟩ := h
  refine aw_if_eq X dX0_knowsValue_5 (tgt := 26) (by decide) g2 (fun hc => ?_) (fun hc => ?_)
  · replace h := h.1 hc
    refine aw_weak (als' := [none, none, none]) trivial ?_
    exact m_Ch_knowsValue_26 X hR hret h
  · replace h := h.2 hc
    refine aw_iload_n X dX0_knowsValue_8 rfl ?_
    obtain ⟨g3, h⟩ := h
    refine aw_if_lt X dX0_knowsValue_9 (tgt := 26) (by decide) g3 (fun hc => ?_) (fun hc => ?_)
    · replace h := h.1 hc
      refine aw_weak (als' := [none, none, none]) trivial ?_
      exact m_Ch_knowsValue_26 X hR hret h
    · replace h := h.2 hc
      refine aw_iload_n X dX0_knowsValue_12 rfl ?_
      refine aw_aload_n X dX0_knowsValue_13 rfl ?_
      refine aw_get X ob_0 fl_X0_9 rfl dX0_knowsValue_14 ?_
      refine aw_iload_n X dX0_knowsValue_17 rfl ?_
      obtain ⟨g4a, g4b, h⟩ := h
      refine aw_iald X ar_0_1 g4a g4b dX0_knowsValue_18 ?_
      obtain ⟨g5, h⟩ := h
      obtain ⟨g6, h⟩ := h
      refine aw_icmp_ge X dX0_knowsValue_19 (tgt := 26) (by decide) g5 g6 (fun hc => ?_) (fun hc => ?_)
      · replace h := h.1 hc
        refine aw_weak (als' := [none, none, none]) trivial ?_
        exact m_Ch_knowsValue_26 X hR hret h
      · replace h := h.2 hc
        refine aw_iconst X dX0_knowsValue_22 ?_
        refine aw_goto X dX0_knowsValue_23 (tgt := 27) (by decide) ?_
        refine aw_weak (als' := [none, none, none]) trivial ?_
        exact m_Ch_knowsValue_27 X hR hret h
theorem s_Ch_knowsValue (l : Launch) (D : va_G) (ad : Ky → Nat) (tc : Tc) (hi : adI ad) {l1 : Int} {l2 : Int} {σ : Mem} {Q : Int → Mem → Prop} (h : Ch_knowsValue l1 l2 σ Q) : CtI l D ad tc yX0_knowsValue cX0_knowsValue 3 (some .boolean) { frames := 1, cells := 0, slots := 0, locals := 21 } [.ref (ad (0, 0, 0)), .int (oI l1), .int (oI l2)] σ Q := CtI.mkz (by decide +kernel) hi (Nat.le_of_ble_eq_true rfl) rfl (fun p e s m args below meth c A Qm X hR hret => m_Ch_knowsValue_0 X hR hret h)

set_option maxHeartbeats 4000000 in
set_option maxRecDepth 100000 in
theorem m_Cu_knows_17 {p : Program} {l : Launch} {e : Env} {R : Room} {s : State} {m : MethodId} {args : Array Value} {below : List Frame} {meth : Method} {c : Code} {D : va_G} {ad : Ky → Nat} {tc : Tc} {A : Nat → Prop} {cs sl : Nat} {Qm : State → Prop} (X : Cx p s m args c cX1_knows RX1 2 D ad tc A) (hR : RmOK R cs sl 0 0) {Q : Int → Mem → Prop} (hret : RtZ p l e R s m args below meth c D ad tc A cs sl Qm cX1_knows Q) {s0 : Int} {σ : Mem} (h : Cu_knows_17 Q s0 σ) : AW p l e R s m args below meth c D ad tc A cs sl Qm 17 [none, none] [.int (oI s0)] σ := by
  unfold Cu_knows_17 at h
  exact hret 17 _ _ _ dX1_knows_17 h.1 h.2

set_option maxHeartbeats 4000000 in
set_option maxRecDepth 100000 in
theorem m_Cu_knows_16 {p : Program} {l : Launch} {e : Env} {R : Room} {s : State} {m : MethodId} {args : Array Value} {below : List Frame} {meth : Method} {c : Code} {D : va_G} {ad : Ky → Nat} {tc : Tc} {A : Nat → Prop} {cs sl : Nat} {Qm : State → Prop} (X : Cx p s m args c cX1_knows RX1 2 D ad tc A) (hR : RmOK R cs sl 0 0) {Q : Int → Mem → Prop} (hret : RtZ p l e R s m args below meth c D ad tc A cs sl Qm cX1_knows Q) {σ : Mem} (h : Cu_knows_16 Q σ) : AW p l e R s m args below meth c D ad tc A cs sl Qm 16 [none, none] [] σ := by
  unfold Cu_knows_16 at h
  refine aw_iconst X dX1_knows_16 ?_
  refine aw_weak (als' := [none, none]) trivial ?_
  exact m_Cu_knows_17 X hR hret h

set_option maxHeartbeats 4000000 in
set_option maxRecDepth 100000 in
theorem m_Cu_knows_0 {p : Program} {l : Launch} {e : Env} {R : Room} {s : State} {m : MethodId} {args : Array Value} {below : List Frame} {meth : Method} {c : Code} {D : va_G} {ad : Ky → Nat} {tc : Tc} {A : Nat → Prop} {cs sl : Nat} {Qm : State → Prop} (X : Cx p s m args c cX1_knows RX1 2 D ad tc A) (hR : RmOK R cs sl 0 0) {Q : Int → Mem → Prop} (hret : RtZ p l e R s m args below meth c D ad tc A cs sl Qm cX1_knows Q) {l1 : Int} {σ : Mem} (h : Cu_knows l1 σ Q) : AW p l e R s m args below meth c D ad tc A cs sl Qm 0 [some (.ref (ad (1, 0, 0))), some (.int (oI l1))] [] σ := by
  unfold Cu_knows at h
  refine aw_iload_n X dX1_knows_0 rfl ?_
  obtain ⟨g1, h⟩ := h
  refine aw_if_lt X dX1_knows_1 (tgt := 16) (by decide) g1 (fun hc => ?_) (fun hc => ?_)
  · replace h := h.1 hc
    refine aw_weak (als' := [none, none]) trivial ?_
    exact m_Cu_knows_16 X hR hret h
  · replace h := h.2 hc
    refine aw_iload_n X dX1_knows_4 rfl ?_
    refine aw_aload_n X dX1_knows_5 rfl ?_
    refine aw_get X ob_1 fl_X1_30 rfl dX1_knows_6 ?_
    obtain ⟨g2, h⟩ := h
    obtain ⟨g3, h⟩ := h
    refine aw_icmp_ge X dX1_knows_9 (tgt := 16) (by decide) g2 g3 (fun hc => ?_) (fun hc => ?_)
    · replace h := h.1 hc
      refine aw_weak (als' := [none, none]) trivial ?_
      exact m_Cu_knows_16 X hR hret h
    · replace h := h.2 hc
      refine aw_iconst X dX1_knows_12 ?_
      refine aw_goto X dX1_knows_13 (tgt := 17) (by decide) ?_
      refine aw_weak (als' := [none, none]) trivial ?_
      exact m_Cu_knows_17 X hR hret h
theorem s_Cu_knows (l : Launch) (D : va_G) (ad : Ky → Nat) (tc : Tc) (hi : adI ad) {l1 : Int} {σ : Mem} {Q : Int → Mem → Prop} (h : Cu_knows l1 σ Q) : CtI l D ad tc yX1_knows cX1_knows 2 (some .boolean) { frames := 0, cells := 0, slots := 0, locals := 0 } [.ref (ad (1, 0, 0)), .int (oI l1)] σ Q := CtI.mkz (by decide +kernel) hi (Nat.le_of_ble_eq_true rfl) rfl (fun p e s m args below meth c A Qm X hR hret => m_Cu_knows_0 X hR hret h)

set_option maxHeartbeats 4000000 in
set_option maxRecDepth 100000 in
theorem m_Cu_add_106 {p : Program} {l : Launch} {e : Env} {R : Room} {s : State} {m : MethodId} {args : Array Value} {below : List Frame} {meth : Method} {c : Code} {D : va_G} {ad : Ky → Nat} {tc : Tc} {A : Nat → Prop} {cs sl : Nat} {Qm : State → Prop} (X : Cx p s m args c cX1_add RX1 8 D ad tc A) (hR : RmOK R cs sl 0 0) {Q : Mem → Prop} (hret : RtV p l e R s m args below meth c D ad tc A cs sl Qm cX1_add Q) {k47 : Int → Int → Int → Mem → Prop} (hk47 : ∀ (l5 : Int) (l6 : Int) (l7 : Int) (σ : Mem) (_ : 0 ≤ l5 ∧ l5 < 4), k47 l5 l6 l7 σ → AW p l e R s m args below meth c D ad tc A cs sl Qm 47 [some (.ref (ad (1, 0, 0))), none, none, none, none, some (.ref (ad (3, l5, 0))), some (.int (oI l6)), some (.int (oI l7))] [] σ) {l5 : Int} {l6 : Int} {l7 : Int} {σ : Mem} (hl5 : 0 ≤ l5 ∧ l5 < 4) (h : Cu_add_106 k47 Q l5 l6 l7 σ) : AW p l e R s m args below meth c D ad tc A cs sl Qm 106 [some (.ref (ad (1, 0, 0))), none, none, none, none, some (.ref (ad (3, l5, 0))), some (.int (oI l6)), some (.int (oI l7))] [] σ := by
  unfold Cu_add_106 at h
  refine aw_iinc X dX1_add_106 rfl rfl ?_
  obtain ⟨x1, ex1⟩ : ∃ z : Int, z = (l7 + 1) := ⟨_, rfl⟩
  replace h := h x1 ex1
  refine aw_als (als' := [some (.ref (ad (1, 0, 0))), none, none, none, none, some (.ref (ad (3, l5, 0))), some (.int (oI l6)), some (.int (oI x1))]) (by subst ex1; rfl) ?_
  refine aw_goto X dX1_add_109 (tgt := 47) (by decide) ?_
  refine aw_weak (als' := [some (.ref (ad (1, 0, 0))), none, none, none, none, some (.ref (ad (3, l5, 0))), some (.int (oI l6)), some (.int (oI x1))]) ⟨rfl, rfl, rfl, rfl, trivial⟩ ?_
  exact hk47 _ _ _ _ hl5 h

set_option maxHeartbeats 4000000 in
set_option maxRecDepth 100000 in
theorem m_Cu_add_47 {p : Program} {l : Launch} {e : Env} {R : Room} {s : State} {m : MethodId} {args : Array Value} {below : List Frame} {meth : Method} {c : Code} {D : va_G} {ad : Ky → Nat} {tc : Tc} {A : Nat → Prop} {cs sl : Nat} {Qm : State → Prop} (X : Cx p s m args c cX1_add RX1 8 D ad tc A) (hR : RmOK R cs sl 0 0) {Q : Mem → Prop} (hret : RtV p l e R s m args below meth c D ad tc A cs sl Qm cX1_add Q) : ∀ (n : Nat) (l5 : Int) (l6 : Int) (l7 : Int) (σ : Mem) (_ : 0 ≤ l5 ∧ l5 < 4), Cu_add_47 Q n l5 l6 l7 σ → AW p l e R s m args below meth c D ad tc A cs sl Qm 47 [some (.ref (ad (1, 0, 0))), none, none, none, none, some (.ref (ad (3, l5, 0))), some (.int (oI l6)), some (.int (oI l7))] [] σ := by
  intro n
  induction n with
  | zero =>
    intro l5 l6 l7 σ hl5 h
    exact False.elim h
  | succ n ih =>
    intro l5 l6 l7 σ hl5 h
    unfold Cu_add_47 at h
    refine aw_iload X dX1_add_47 rfl ?_
    refine aw_aload X dX1_add_49 rfl ?_
    refine aw_get X (ob_3 hl5) fl_X1_34 rfl dX1_add_51 ?_
    obtain ⟨g1, h⟩ := h
    obtain ⟨g2, h⟩ := h
    refine aw_icmp_ge X dX1_add_54 (tgt := 112) (by decide) g1 g2 (fun hc => ?_) (fun hc => ?_)
    · replace h := h.1 hc
      refine aw_aload_n X dX1_add_112 rfl ?_
      refine aw_get X ob_1 fl_X1_24 rfl dX1_add_113 ?_
      refine aw_aload_n X dX1_add_116 rfl ?_
      refine aw_get X ob_1 fl_X1_30 rfl dX1_add_117 ?_
      refine aw_iload X dX1_add_120 rfl ?_
      obtain ⟨g3a, g3b, h⟩ := h
      refine aw_iast X ar_1_5 g3a g3b dX1_add_122 ?_
      obtain ⟨σ3, eσ3⟩ : ∃ z : Mem, z = up σ 1 0 5 (σ 1 0 0 0) l6 := ⟨_, rfl⟩
      replace h := h σ3 eσ3
      refine aw_mem eσ3 ?_
      refine aw_aload_n X dX1_add_123 rfl ?_
      refine aw_dup X dX1_add_124 rfl ?_
      refine aw_get X ob_1 fl_X1_30 rfl dX1_add_125 ?_
      refine aw_iconst X dX1_add_128 ?_
      refine aw_iadd X dX1_add_129 ?_
      refine aw_put X ob_1 fl_X1_30 (sf_1_0 ad) rfl rfl dX1_add_130 ?_
      obtain ⟨σ4, eσ4⟩ : ∃ z : Mem, z = up σ3 1 0 0 0 ((σ3 1 0 0 0) + 1) := ⟨_, rfl⟩
      replace h := h σ4 eσ4
      refine aw_mem eσ4 ?_
      exact hret 133 _ _ dX1_add_133 h
    · replace h := h.2 hc
      refine aw_aload X dX1_add_57 rfl ?_
      refine aw_get X (ob_3 hl5) fl_X1_39 rfl dX1_add_59 ?_
      refine aw_iload X dX1_add_62 rfl ?_
      obtain ⟨g5a, g5b, h⟩ := h
      refine aw_iald X (ar_3_15 hl5) g5a g5b dX1_add_64 ?_
      refine aw_iconst X dX1_add_65 ?_
      obtain ⟨g6, h⟩ := h
      refine aw_icmp_eq X dX1_add_66 (tgt := 106) (by decide) g6 ⟨by decide, by decide⟩ (fun hc => ?_) (fun hc => ?_)
      · replace h := h.1 hc
        refine aw_weak (als' := [some (.ref (ad (1, 0, 0))), none, none, none, none, some (.ref (ad (3, l5, 0))), some (.int (oI l6)), some (.int (oI l7))]) ⟨rfl, rfl, rfl, rfl, trivial⟩ ?_
        exact m_Cu_add_106 X hR hret ih hl5 h
      · replace h := h.2 hc
        refine aw_aload_n X dX1_add_69 rfl ?_
        refine aw_get X ob_1 fl_X1_27 rfl dX1_add_70 ?_
        refine aw_aload_n X dX1_add_73 rfl ?_
        refine aw_get X ob_1 fl_X1_30 rfl dX1_add_74 ?_
        refine aw_iconst X dX1_add_77 ?_
        refine aw_imul X dX1_add_78 ?_
        refine aw_iload X dX1_add_79 rfl ?_
        refine aw_iadd X dX1_add_81 ?_
        refine aw_bipush X dX1_add_82 rfl ?_
        refine aw_aload X dX1_add_84 rfl ?_
        refine aw_get X (ob_3 hl5) fl_X1_42 rfl dX1_add_86 ?_
        refine aw_iload X dX1_add_89 rfl ?_
        obtain ⟨g8a, g8b, h⟩ := h
        refine aw_iald X (ar_3_1 hl5) g8a g8b dX1_add_91 ?_
        refine aw_imul X dX1_add_92 ?_
        refine aw_aload X dX1_add_93 rfl ?_
        refine aw_get X (ob_3 hl5) fl_X1_39 rfl dX1_add_95 ?_
        refine aw_iload X dX1_add_98 rfl ?_
        obtain ⟨g9a, g9b, h⟩ := h
        refine aw_iald X (ar_3_15 hl5) g9a g9b dX1_add_100 ?_
        refine aw_iadd X dX1_add_101 ?_
        obtain ⟨g10a, g10b, h⟩ := h
        refine aw_iast X ar_1_6 g10a g10b dX1_add_102 ?_
        obtain ⟨σ10, eσ10⟩ : ∃ z : Mem, z = up σ 1 0 6 (((σ 1 0 0 0) * 3) + l6) ((10 * (σ 3 l5 1 l7)) + (σ 3 l5 15 l7)) := ⟨_, rfl⟩
        replace h := h σ10 eσ10
        refine aw_mem eσ10 ?_
        refine aw_iinc X dX1_add_103 rfl rfl ?_
        obtain ⟨x11, ex11⟩ : ∃ z : Int, z = (l6 + 1) := ⟨_, rfl⟩
        replace h := h x11 ex11
        refine aw_als (als' := [some (.ref (ad (1, 0, 0))), none, none, none, none, some (.ref (ad (3, l5, 0))), some (.int (oI x11)), some (.int (oI l7))]) (by subst ex11; rfl) ?_
        refine aw_weak (als' := [some (.ref (ad (1, 0, 0))), none, none, none, none, some (.ref (ad (3, l5, 0))), some (.int (oI x11)), some (.int (oI l7))]) ⟨rfl, rfl, rfl, rfl, trivial⟩ ?_
        exact m_Cu_add_106 X hR hret ih hl5 h

set_option maxHeartbeats 4000000 in
set_option maxRecDepth 100000 in
theorem m_Cu_add_0 {p : Program} {l : Launch} {e : Env} {R : Room} {s : State} {m : MethodId} {args : Array Value} {below : List Frame} {meth : Method} {c : Code} {D : va_G} {ad : Ky → Nat} {tc : Tc} {A : Nat → Prop} {cs sl : Nat} {Qm : State → Prop} (X : Cx p s m args c cX1_add RX1 8 D ad tc A) (hR : RmOK R cs sl 0 0) {Q : Mem → Prop} (hret : RtV p l e R s m args below meth c D ad tc A cs sl Qm cX1_add Q) {l1 : Int} {l2 : Int} {l3 : Int} {l4 : Int} {l5 : Int} {σ : Mem} (hl5 : 0 ≤ l5 ∧ l5 < 4) (h : Cu_add l1 l2 l3 l4 l5 σ Q) : AW p l e R s m args below meth c D ad tc A cs sl Qm 0 [some (.ref (ad (1, 0, 0))), some (.int (oI l1)), some (.int (oI l2)), some (.int (oI l3)), some (.int (oI l4)), some (.ref (ad (3, l5, 0))), none, none] [] σ := by
  unfold Cu_add at h
  refine aw_aload_n X dX1_add_0 rfl ?_
  refine aw_get X ob_1 fl_X1_9 rfl dX1_add_1 ?_
  refine aw_aload_n X dX1_add_4 rfl ?_
  refine aw_get X ob_1 fl_X1_30 rfl dX1_add_5 ?_
  refine aw_iload_n X dX1_add_8 rfl ?_
  obtain ⟨g1a, g1b, h⟩ := h
  refine aw_iast X ar_1_1 g1a g1b dX1_add_9 ?_
  obtain ⟨σ1, eσ1⟩ : ∃ z : Mem, z = up σ 1 0 1 (σ 1 0 0 0) l1 := ⟨_, rfl⟩
  replace h := h σ1 eσ1
  refine aw_mem eσ1 ?_
  refine aw_aload_n X dX1_add_10 rfl ?_
  refine aw_get X ob_1 fl_X1_15 rfl dX1_add_11 ?_
  refine aw_aload_n X dX1_add_14 rfl ?_
  refine aw_get X ob_1 fl_X1_30 rfl dX1_add_15 ?_
  refine aw_iload_n X dX1_add_18 rfl ?_
  obtain ⟨g2a, g2b, h⟩ := h
  refine aw_iast X ar_1_2 g2a g2b dX1_add_19 ?_
  obtain ⟨σ2, eσ2⟩ : ∃ z : Mem, z = up σ1 1 0 2 (σ1 1 0 0 0) l2 := ⟨_, rfl⟩
  replace h := h σ2 eσ2
  refine aw_mem eσ2 ?_
  refine aw_aload_n X dX1_add_20 rfl ?_
  refine aw_get X ob_1 fl_X1_18 rfl dX1_add_21 ?_
  refine aw_aload_n X dX1_add_24 rfl ?_
  refine aw_get X ob_1 fl_X1_30 rfl dX1_add_25 ?_
  refine aw_iload_n X dX1_add_28 rfl ?_
  obtain ⟨g3a, g3b, h⟩ := h
  refine aw_iast X ar_1_3 g3a g3b dX1_add_29 ?_
  obtain ⟨σ3, eσ3⟩ : ∃ z : Mem, z = up σ2 1 0 3 (σ2 1 0 0 0) l3 := ⟨_, rfl⟩
  replace h := h σ3 eσ3
  refine aw_mem eσ3 ?_
  refine aw_aload_n X dX1_add_30 rfl ?_
  refine aw_get X ob_1 fl_X1_21 rfl dX1_add_31 ?_
  refine aw_aload_n X dX1_add_34 rfl ?_
  refine aw_get X ob_1 fl_X1_30 rfl dX1_add_35 ?_
  refine aw_iload X dX1_add_38 rfl ?_
  obtain ⟨g4a, g4b, h⟩ := h
  refine aw_iast X ar_1_4 g4a g4b dX1_add_40 ?_
  obtain ⟨σ4, eσ4⟩ : ∃ z : Mem, z = up σ3 1 0 4 (σ3 1 0 0 0) l4 := ⟨_, rfl⟩
  replace h := h σ4 eσ4
  refine aw_mem eσ4 ?_
  refine aw_iconst X dX1_add_41 ?_
  refine aw_istore X dX1_add_42 (Nat.le_of_ble_eq_true rfl) rfl ?_
  refine aw_als (als' := [some (.ref (ad (1, 0, 0))), some (.int (oI l1)), some (.int (oI l2)), some (.int (oI l3)), some (.int (oI l4)), some (.ref (ad (3, l5, 0))), some (.int (oI 0)), none]) rfl ?_
  refine aw_iconst X dX1_add_44 ?_
  refine aw_istore X dX1_add_45 (Nat.le_of_ble_eq_true rfl) rfl ?_
  refine aw_als (als' := [some (.ref (ad (1, 0, 0))), some (.int (oI l1)), some (.int (oI l2)), some (.int (oI l3)), some (.int (oI l4)), some (.ref (ad (3, l5, 0))), some (.int (oI 0)), some (.int (oI 0))]) rfl ?_
  refine aw_weak (als' := [some (.ref (ad (1, 0, 0))), none, none, none, none, some (.ref (ad (3, l5, 0))), some (.int (oI 0)), some (.int (oI 0))]) ⟨rfl, rfl, rfl, rfl, trivial⟩ ?_
  obtain ⟨n0, h⟩ := h
  exact m_Cu_add_47 X hR hret n0 _ _ _ _ hl5 h
theorem s_Cu_add (l : Launch) (D : va_G) (ad : Ky → Nat) (tc : Tc) (hi : adI ad) {l1 : Int} {l2 : Int} {l3 : Int} {l4 : Int} {l5 : Int} (hl5 : 0 ≤ l5 ∧ l5 < 4) {σ : Mem} {Q : Mem → Prop} (h : Cu_add l1 l2 l3 l4 l5 σ Q) : CtV l D ad tc yX1_add cX1_add 8 none { frames := 0, cells := 0, slots := 0, locals := 0 } [.ref (ad (1, 0, 0)), .int (oI l1), .int (oI l2), .int (oI l3), .int (oI l4), .ref (ad (3, l5, 0))] σ Q := CtV.mk (by decide +kernel) hi (Nat.le_of_ble_eq_true rfl) rfl (fun p e s m args below meth c A Qm X hR hret => m_Cu_add_0 X hR hret hl5 h)

set_option maxHeartbeats 4000000 in
set_option maxRecDepth 100000 in
theorem m_Cu_isMetBy_2 {p : Program} {l : Launch} {e : Env} {R : Room} {s : State} {m : MethodId} {args : Array Value} {below : List Frame} {meth : Method} {c : Code} {D : va_G} {ad : Ky → Nat} {tc : Tc} {A : Nat → Prop} {cs sl : Nat} {Qm : State → Prop} (X : Cx p s m args c cX1_isMetBy RX1 5 D ad tc A) (hR : RmOK R cs sl 0 0) {Q : Int → Mem → Prop} (hret : RtZ p l e R s m args below meth c D ad tc A cs sl Qm cX1_isMetBy Q) : ∀ (n : Nat) (l1 : Int) (l2c : Nat) (l2p : Int) (l2k : Nat) (l3 : Int) (σ : Mem) (_ : Arr l2c l2p l2k 6), Cu_isMetBy_2 Q n l1 l2c l2p l2k l3 σ → AW p l e R s m args below meth c D ad tc A cs sl Qm 2 [some (.ref (ad (1, 0, 0))), some (.int (oI l1)), some (.ref (ad (l2c, l2p, l2k + 1))), some (.int (oI l3)), none] [] σ := by
  intro n
  induction n with
  | zero =>
    intro l1 l2c l2p l2k l3 σ hl2 h
    exact False.elim h
  | succ n ih =>
    intro l1 l2c l2p l2k l3 σ hl2 h
    unfold Cu_isMetBy_2 at h
    refine aw_iload_n X dX1_isMetBy_2 rfl ?_
    refine aw_aload_n X dX1_isMetBy_3 rfl ?_
    refine aw_get X ob_1 fl_X1_24 rfl dX1_isMetBy_4 ?_
    refine aw_iload_n X dX1_isMetBy_7 rfl ?_
    obtain ⟨g1a, g1b, h⟩ := h
    refine aw_iald X ar_1_5 g1a g1b dX1_isMetBy_8 ?_
    obtain ⟨g2, h⟩ := h
    obtain ⟨g3, h⟩ := h
    refine aw_icmp_ge X dX1_isMetBy_9 (tgt := 47) (by decide) g2 g3 (fun hc => ?_) (fun hc => ?_)
    · replace h := h.1 hc
      refine aw_iconst X dX1_isMetBy_47 ?_
      exact hret 48 _ _ _ dX1_isMetBy_48 (by decide) h
    · replace h := h.2 hc
      refine aw_aload_n X dX1_isMetBy_12 rfl ?_
      refine aw_get X ob_1 fl_X1_27 rfl dX1_isMetBy_13 ?_
      refine aw_iload_n X dX1_isMetBy_16 rfl ?_
      refine aw_iconst X dX1_isMetBy_17 ?_
      refine aw_imul X dX1_isMetBy_18 ?_
      refine aw_iload_n X dX1_isMetBy_19 rfl ?_
      refine aw_iadd X dX1_isMetBy_20 ?_
      obtain ⟨g4a, g4b, h⟩ := h
      refine aw_iald X ar_1_6 g4a g4b dX1_isMetBy_21 ?_
      refine aw_istore X dX1_isMetBy_22 (Nat.le_of_ble_eq_true rfl) rfl ?_
      obtain ⟨x5, ex5⟩ : ∃ z : Int, z = (σ 1 0 6 ((l1 * 3) + l3)) := ⟨_, rfl⟩
      replace h := h x5 ex5
      refine aw_als (als' := [some (.ref (ad (1, 0, 0))), some (.int (oI l1)), some (.ref (ad (l2c, l2p, l2k + 1))), some (.int (oI l3)), some (.int (oI x5))]) (by subst ex5; rfl) ?_
      refine aw_aload_n X dX1_isMetBy_24 rfl ?_
      refine aw_iload X dX1_isMetBy_25 rfl ?_
      refine aw_bipush X dX1_isMetBy_27 rfl ?_
      refine aw_idiv X dX1_isMetBy_29 (by decide) ?_
      obtain ⟨g6a, g6b, h⟩ := h
      refine aw_iald X hl2 g6a g6b dX1_isMetBy_30 ?_
      refine aw_iload X dX1_isMetBy_31 rfl ?_
      refine aw_bipush X dX1_isMetBy_33 rfl ?_
      refine aw_irem X dX1_isMetBy_35 (by decide) ?_
      obtain ⟨g7, h⟩ := h
      obtain ⟨g8, h⟩ := h
      refine aw_icmp_eq X dX1_isMetBy_36 (tgt := 41) (by decide) g7 g8 (fun hc => ?_) (fun hc => ?_)
      · replace h := h.1 hc
        refine aw_iinc X dX1_isMetBy_41 rfl rfl ?_
        obtain ⟨x9, ex9⟩ : ∃ z : Int, z = (l3 + 1) := ⟨_, rfl⟩
        replace h := h x9 ex9
        refine aw_als (als' := [some (.ref (ad (1, 0, 0))), some (.int (oI l1)), some (.ref (ad (l2c, l2p, l2k + 1))), some (.int (oI x9)), some (.int (oI x5))]) (by subst ex9; rfl) ?_
        refine aw_goto X dX1_isMetBy_44 (tgt := 2) (by decide) ?_
        refine aw_weak (als' := [some (.ref (ad (1, 0, 0))), some (.int (oI l1)), some (.ref (ad (l2c, l2p, l2k + 1))), some (.int (oI x9)), none]) ⟨rfl, rfl, rfl, rfl, trivial⟩ ?_
        exact ih _ _ _ _ _ _ hl2 h
      · replace h := h.2 hc
        refine aw_iconst X dX1_isMetBy_39 ?_
        exact hret 40 _ _ _ dX1_isMetBy_40 (by decide) h

set_option maxHeartbeats 4000000 in
set_option maxRecDepth 100000 in
theorem m_Cu_isMetBy_0 {p : Program} {l : Launch} {e : Env} {R : Room} {s : State} {m : MethodId} {args : Array Value} {below : List Frame} {meth : Method} {c : Code} {D : va_G} {ad : Ky → Nat} {tc : Tc} {A : Nat → Prop} {cs sl : Nat} {Qm : State → Prop} (X : Cx p s m args c cX1_isMetBy RX1 5 D ad tc A) (hR : RmOK R cs sl 0 0) {Q : Int → Mem → Prop} (hret : RtZ p l e R s m args below meth c D ad tc A cs sl Qm cX1_isMetBy Q) {l1 : Int} {l2c : Nat} {l2p : Int} {l2k : Nat} {σ : Mem} (hl2 : Arr l2c l2p l2k 6) (h : Cu_isMetBy l1 l2c l2p l2k σ Q) : AW p l e R s m args below meth c D ad tc A cs sl Qm 0 [some (.ref (ad (1, 0, 0))), some (.int (oI l1)), some (.ref (ad (l2c, l2p, l2k + 1))), none, none] [] σ := by
  unfold Cu_isMetBy at h
  refine aw_iconst X dX1_isMetBy_0 ?_
  refine aw_istore_n X dX1_isMetBy_1 (Nat.le_of_ble_eq_true rfl) rfl ?_
  refine aw_als (als' := [some (.ref (ad (1, 0, 0))), some (.int (oI l1)), some (.ref (ad (l2c, l2p, l2k + 1))), some (.int (oI 0)), none]) rfl ?_
  refine aw_weak (als' := [some (.ref (ad (1, 0, 0))), some (.int (oI l1)), some (.ref (ad (l2c, l2p, l2k + 1))), some (.int (oI 0)), none]) ⟨rfl, rfl, rfl, rfl, trivial⟩ ?_
  obtain ⟨n0, h⟩ := h
  exact m_Cu_isMetBy_2 X hR hret n0 _ _ _ _ _ _ hl2 h
theorem s_Cu_isMetBy (l : Launch) (D : va_G) (ad : Ky → Nat) (tc : Tc) (hi : adI ad) {l1 : Int} {l2c : Nat} {l2p : Int} {l2k : Nat} (hl2 : Arr l2c l2p l2k 6) {σ : Mem} {Q : Int → Mem → Prop} (h : Cu_isMetBy l1 l2c l2p l2k σ Q) : CtI l D ad tc yX1_isMetBy cX1_isMetBy 5 (some .boolean) { frames := 0, cells := 0, slots := 0, locals := 0 } [.ref (ad (1, 0, 0)), .int (oI l1), .ref (ad (l2c, l2p, l2k + 1))] σ Q := CtI.mkz (by decide +kernel) hi (Nat.le_of_ble_eq_true rfl) rfl (fun p e s m args below meth c A Qm X hR hret => m_Cu_isMetBy_0 X hR hret hl2 h)

set_option maxHeartbeats 4000000 in
set_option maxRecDepth 100000 in
theorem m_Cu_move_62 {p : Program} {l : Launch} {e : Env} {R : Room} {s : State} {m : MethodId} {args : Array Value} {below : List Frame} {meth : Method} {c : Code} {D : va_G} {ad : Ky → Nat} {tc : Tc} {A : Nat → Prop} {cs sl : Nat} {Qm : State → Prop} (X : Cx p s m args c cX1_move RX1 4 D ad tc A) (hR : RmOK R cs sl 0 0) {Q : Mem → Prop} (hret : RtV p l e R s m args below meth c D ad tc A cs sl Qm cX1_move Q) : ∀ (n : Nat) (l1 : Int) (l2 : Int) (l3 : Int) (σ : Mem), Cu_move_62 Q n l1 l2 l3 σ → AW p l e R s m args below meth c D ad tc A cs sl Qm 62 [some (.ref (ad (1, 0, 0))), some (.int (oI l1)), some (.int (oI l2)), some (.int (oI l3))] [] σ := by
  intro n
  induction n with
  | zero =>
    intro l1 l2 l3 σ h
    exact False.elim h
  | succ n ih =>
    intro l1 l2 l3 σ h
    unfold Cu_move_62 at h
    refine aw_iload_n X dX1_move_62 rfl ?_
    refine aw_iconst X dX1_move_63 ?_
    obtain ⟨g1, h⟩ := h
    refine aw_icmp_ge X dX1_move_64 (tgt := 93) (by decide) g1 ⟨by decide, by decide⟩ (fun hc => ?_) (fun hc => ?_)
    · replace h := h.1 hc
      exact hret 93 _ _ dX1_move_93 h
    · replace h := h.2 hc
      refine aw_aload_n X dX1_move_67 rfl ?_
      refine aw_get X ob_1 fl_X1_27 rfl dX1_move_68 ?_
      refine aw_iload_n X dX1_move_71 rfl ?_
      refine aw_iconst X dX1_move_72 ?_
      refine aw_imul X dX1_move_73 ?_
      refine aw_iload_n X dX1_move_74 rfl ?_
      refine aw_iadd X dX1_move_75 ?_
      refine aw_aload_n X dX1_move_76 rfl ?_
      refine aw_get X ob_1 fl_X1_27 rfl dX1_move_77 ?_
      refine aw_iload_n X dX1_move_80 rfl ?_
      refine aw_iconst X dX1_move_81 ?_
      refine aw_imul X dX1_move_82 ?_
      refine aw_iload_n X dX1_move_83 rfl ?_
      refine aw_iadd X dX1_move_84 ?_
      obtain ⟨g3a, g3b, h⟩ := h
      refine aw_iald X ar_1_6 g3a g3b dX1_move_85 ?_
      obtain ⟨g4a, g4b, h⟩ := h
      refine aw_iast X ar_1_6 g4a g4b dX1_move_86 ?_
      obtain ⟨σ4, eσ4⟩ : ∃ z : Mem, z = up σ 1 0 6 ((l2 * 3) + l3) (σ 1 0 6 ((l1 * 3) + l3)) := ⟨_, rfl⟩
      replace h := h σ4 eσ4
      refine aw_mem eσ4 ?_
      refine aw_iinc X dX1_move_87 rfl rfl ?_
      obtain ⟨x5, ex5⟩ : ∃ z : Int, z = (l3 + 1) := ⟨_, rfl⟩
      replace h := h x5 ex5
      refine aw_als (als' := [some (.ref (ad (1, 0, 0))), some (.int (oI l1)), some (.int (oI l2)), some (.int (oI x5))]) (by subst ex5; rfl) ?_
      refine aw_goto X dX1_move_90 (tgt := 62) (by decide) ?_
      refine aw_weak (als' := [some (.ref (ad (1, 0, 0))), some (.int (oI l1)), some (.int (oI l2)), some (.int (oI x5))]) ⟨rfl, rfl, rfl, rfl, trivial⟩ ?_
      exact ih _ _ _ _ h

set_option maxHeartbeats 4000000 in
set_option maxRecDepth 100000 in
theorem m_Cu_move_0 {p : Program} {l : Launch} {e : Env} {R : Room} {s : State} {m : MethodId} {args : Array Value} {below : List Frame} {meth : Method} {c : Code} {D : va_G} {ad : Ky → Nat} {tc : Tc} {A : Nat → Prop} {cs sl : Nat} {Qm : State → Prop} (X : Cx p s m args c cX1_move RX1 4 D ad tc A) (hR : RmOK R cs sl 0 0) {Q : Mem → Prop} (hret : RtV p l e R s m args below meth c D ad tc A cs sl Qm cX1_move Q) {l1 : Int} {l2 : Int} {σ : Mem} (h : Cu_move l1 l2 σ Q) : AW p l e R s m args below meth c D ad tc A cs sl Qm 0 [some (.ref (ad (1, 0, 0))), some (.int (oI l1)), some (.int (oI l2)), none] [] σ := by
  unfold Cu_move at h
  refine aw_aload_n X dX1_move_0 rfl ?_
  refine aw_get X ob_1 fl_X1_9 rfl dX1_move_1 ?_
  refine aw_iload_n X dX1_move_4 rfl ?_
  refine aw_aload_n X dX1_move_5 rfl ?_
  refine aw_get X ob_1 fl_X1_9 rfl dX1_move_6 ?_
  refine aw_iload_n X dX1_move_9 rfl ?_
  obtain ⟨g1a, g1b, h⟩ := h
  refine aw_iald X ar_1_1 g1a g1b dX1_move_10 ?_
  obtain ⟨g2a, g2b, h⟩ := h
  refine aw_iast X ar_1_1 g2a g2b dX1_move_11 ?_
  obtain ⟨σ2, eσ2⟩ : ∃ z : Mem, z = up σ 1 0 1 l2 (σ 1 0 1 l1) := ⟨_, rfl⟩
  replace h := h σ2 eσ2
  refine aw_mem eσ2 ?_
  refine aw_aload_n X dX1_move_12 rfl ?_
  refine aw_get X ob_1 fl_X1_15 rfl dX1_move_13 ?_
  refine aw_iload_n X dX1_move_16 rfl ?_
  refine aw_aload_n X dX1_move_17 rfl ?_
  refine aw_get X ob_1 fl_X1_15 rfl dX1_move_18 ?_
  refine aw_iload_n X dX1_move_21 rfl ?_
  obtain ⟨g3a, g3b, h⟩ := h
  refine aw_iald X ar_1_2 g3a g3b dX1_move_22 ?_
  obtain ⟨g4a, g4b, h⟩ := h
  refine aw_iast X ar_1_2 g4a g4b dX1_move_23 ?_
  obtain ⟨σ4, eσ4⟩ : ∃ z : Mem, z = up σ2 1 0 2 l2 (σ2 1 0 2 l1) := ⟨_, rfl⟩
  replace h := h σ4 eσ4
  refine aw_mem eσ4 ?_
  refine aw_aload_n X dX1_move_24 rfl ?_
  refine aw_get X ob_1 fl_X1_18 rfl dX1_move_25 ?_
  refine aw_iload_n X dX1_move_28 rfl ?_
  refine aw_aload_n X dX1_move_29 rfl ?_
  refine aw_get X ob_1 fl_X1_18 rfl dX1_move_30 ?_
  refine aw_iload_n X dX1_move_33 rfl ?_
  obtain ⟨g5a, g5b, h⟩ := h
  refine aw_iald X ar_1_3 g5a g5b dX1_move_34 ?_
  obtain ⟨g6a, g6b, h⟩ := h
  refine aw_iast X ar_1_3 g6a g6b dX1_move_35 ?_
  obtain ⟨σ6, eσ6⟩ : ∃ z : Mem, z = up σ4 1 0 3 l2 (σ4 1 0 3 l1) := ⟨_, rfl⟩
  replace h := h σ6 eσ6
  refine aw_mem eσ6 ?_
  refine aw_aload_n X dX1_move_36 rfl ?_
  refine aw_get X ob_1 fl_X1_21 rfl dX1_move_37 ?_
  refine aw_iload_n X dX1_move_40 rfl ?_
  refine aw_aload_n X dX1_move_41 rfl ?_
  refine aw_get X ob_1 fl_X1_21 rfl dX1_move_42 ?_
  refine aw_iload_n X dX1_move_45 rfl ?_
  obtain ⟨g7a, g7b, h⟩ := h
  refine aw_iald X ar_1_4 g7a g7b dX1_move_46 ?_
  obtain ⟨g8a, g8b, h⟩ := h
  refine aw_iast X ar_1_4 g8a g8b dX1_move_47 ?_
  obtain ⟨σ8, eσ8⟩ : ∃ z : Mem, z = up σ6 1 0 4 l2 (σ6 1 0 4 l1) := ⟨_, rfl⟩
  replace h := h σ8 eσ8
  refine aw_mem eσ8 ?_
  refine aw_aload_n X dX1_move_48 rfl ?_
  refine aw_get X ob_1 fl_X1_24 rfl dX1_move_49 ?_
  refine aw_iload_n X dX1_move_52 rfl ?_
  refine aw_aload_n X dX1_move_53 rfl ?_
  refine aw_get X ob_1 fl_X1_24 rfl dX1_move_54 ?_
  refine aw_iload_n X dX1_move_57 rfl ?_
  obtain ⟨g9a, g9b, h⟩ := h
  refine aw_iald X ar_1_5 g9a g9b dX1_move_58 ?_
  obtain ⟨g10a, g10b, h⟩ := h
  refine aw_iast X ar_1_5 g10a g10b dX1_move_59 ?_
  obtain ⟨σ10, eσ10⟩ : ∃ z : Mem, z = up σ8 1 0 5 l2 (σ8 1 0 5 l1) := ⟨_, rfl⟩
  replace h := h σ10 eσ10
  refine aw_mem eσ10 ?_
  refine aw_iconst X dX1_move_60 ?_
  refine aw_istore_n X dX1_move_61 (Nat.le_of_ble_eq_true rfl) rfl ?_
  refine aw_als (als' := [some (.ref (ad (1, 0, 0))), some (.int (oI l1)), some (.int (oI l2)), some (.int (oI 0))]) rfl ?_
  refine aw_weak (als' := [some (.ref (ad (1, 0, 0))), some (.int (oI l1)), some (.int (oI l2)), some (.int (oI 0))]) ⟨rfl, rfl, rfl, rfl, trivial⟩ ?_
  obtain ⟨n0, h⟩ := h
  exact m_Cu_move_62 X hR hret n0 _ _ _ _ h
theorem s_Cu_move (l : Launch) (D : va_G) (ad : Ky → Nat) (tc : Tc) (hi : adI ad) {l1 : Int} {l2 : Int} {σ : Mem} {Q : Mem → Prop} (h : Cu_move l1 l2 σ Q) : CtV l D ad tc yX1_move cX1_move 4 none { frames := 0, cells := 0, slots := 0, locals := 0 } [.ref (ad (1, 0, 0)), .int (oI l1), .int (oI l2)] σ Q := CtV.mk (by decide +kernel) hi (Nat.le_of_ble_eq_true rfl) rfl (fun p e s m args below meth c A Qm X hR hret => m_Cu_move_0 X hR hret h)

set_option maxHeartbeats 4000000 in
set_option maxRecDepth 100000 in
theorem m_Cu_takeAway_31 {p : Program} {l : Launch} {e : Env} {R : Room} {s : State} {m : MethodId} {args : Array Value} {below : List Frame} {meth : Method} {c : Code} {D : va_G} {ad : Ky → Nat} {tc : Tc} {A : Nat → Prop} {cs sl : Nat} {Qm : State → Prop} (X : Cx p s m args c cX1_takeAway RX1 4 D ad tc A) (hR : RmOK R cs sl 1 23) {Q : Mem → Prop} (hret : RtV p l e R s m args below meth c D ad tc A cs sl Qm cX1_takeAway Q) {k4 : Int → Int → Int → Mem → Prop} (hk4 : ∀ (l1 : Int) (l2 : Int) (l3 : Int) (σ : Mem), k4 l1 l2 l3 σ → AW p l e R s m args below meth c D ad tc A cs sl Qm 4 [some (.ref (ad (1, 0, 0))), some (.int (oI l1)), some (.int (oI l2)), some (.int (oI l3))] [] σ) {l1 : Int} {l2 : Int} {l3 : Int} {σ : Mem} (h : Cu_takeAway_31 k4 Q l1 l2 l3 σ) : AW p l e R s m args below meth c D ad tc A cs sl Qm 31 [some (.ref (ad (1, 0, 0))), some (.int (oI l1)), some (.int (oI l2)), some (.int (oI l3))] [] σ := by
  unfold Cu_takeAway_31 at h
  refine aw_iinc X dX1_takeAway_31 rfl rfl ?_
  obtain ⟨x1, ex1⟩ : ∃ z : Int, z = (l3 + 1) := ⟨_, rfl⟩
  replace h := h x1 ex1
  refine aw_als (als' := [some (.ref (ad (1, 0, 0))), some (.int (oI l1)), some (.int (oI l2)), some (.int (oI x1))]) (by subst ex1; rfl) ?_
  refine aw_goto X dX1_takeAway_34 (tgt := 4) (by decide) ?_
  refine aw_weak (als' := [some (.ref (ad (1, 0, 0))), some (.int (oI l1)), some (.int (oI l2)), some (.int (oI x1))]) ⟨rfl, rfl, rfl, rfl, trivial⟩ ?_
  exact hk4 _ _ _ _ h

set_option maxHeartbeats 4000000 in
set_option maxRecDepth 100000 in
theorem m_Cu_takeAway_4 {p : Program} {l : Launch} {e : Env} {R : Room} {s : State} {m : MethodId} {args : Array Value} {below : List Frame} {meth : Method} {c : Code} {D : va_G} {ad : Ky → Nat} {tc : Tc} {A : Nat → Prop} {cs sl : Nat} {Qm : State → Prop} (X : Cx p s m args c cX1_takeAway RX1 4 D ad tc A) (hR : RmOK R cs sl 1 23) {Q : Mem → Prop} (hret : RtV p l e R s m args below meth c D ad tc A cs sl Qm cX1_takeAway Q) : ∀ (n : Nat) (l1 : Int) (l2 : Int) (l3 : Int) (σ : Mem), Cu_takeAway_4 Q n l1 l2 l3 σ → AW p l e R s m args below meth c D ad tc A cs sl Qm 4 [some (.ref (ad (1, 0, 0))), some (.int (oI l1)), some (.int (oI l2)), some (.int (oI l3))] [] σ := by
  intro n
  induction n with
  | zero =>
    intro l1 l2 l3 σ h
    exact False.elim h
  | succ n ih =>
    intro l1 l2 l3 σ h
    unfold Cu_takeAway_4 at h
    refine aw_iload_n X dX1_takeAway_4 rfl ?_
    refine aw_aload_n X dX1_takeAway_5 rfl ?_
    refine aw_get X ob_1 fl_X1_30 rfl dX1_takeAway_6 ?_
    obtain ⟨g1, h⟩ := h
    obtain ⟨g2, h⟩ := h
    refine aw_icmp_ge X dX1_takeAway_9 (tgt := 37) (by decide) g1 g2 (fun hc => ?_) (fun hc => ?_)
    · replace h := h.1 hc
      refine aw_aload_n X dX1_takeAway_37 rfl ?_
      refine aw_iload_n X dX1_takeAway_38 rfl ?_
      refine aw_put X ob_1 fl_X1_30 (sf_1_0 ad) rfl rfl dX1_takeAway_39 ?_
      obtain ⟨σ3, eσ3⟩ : ∃ z : Mem, z = up σ 1 0 0 0 l2 := ⟨_, rfl⟩
      replace h := h σ3 eσ3
      refine aw_mem eσ3 ?_
      exact hret 42 _ _ dX1_takeAway_42 h
    · replace h := h.2 hc
      refine aw_aload_n X dX1_takeAway_12 rfl ?_
      refine aw_get X ob_1 fl_X1_9 rfl dX1_takeAway_13 ?_
      refine aw_iload_n X dX1_takeAway_16 rfl ?_
      obtain ⟨g4a, g4b, h⟩ := h
      refine aw_iald X ar_1_1 g4a g4b dX1_takeAway_17 ?_
      refine aw_iload_n X dX1_takeAway_18 rfl ?_
      obtain ⟨g5, h⟩ := h
      obtain ⟨g6, h⟩ := h
      refine aw_icmp_eq X dX1_takeAway_19 (tgt := 31) (by decide) g5 g6 (fun hc => ?_) (fun hc => ?_)
      · replace h := h.1 hc
        refine aw_weak (als' := [some (.ref (ad (1, 0, 0))), some (.int (oI l1)), some (.int (oI l2)), some (.int (oI l3))]) ⟨rfl, rfl, rfl, rfl, trivial⟩ ?_
        exact m_Cu_takeAway_31 X hR hret ih h
      · replace h := h.2 hc
        refine aw_aload_n X dX1_takeAway_22 rfl ?_
        refine aw_iload_n X dX1_takeAway_23 rfl ?_
        refine aw_iload_n X dX1_takeAway_24 rfl ?_
        refine aw_callVV X hR (s_Cu_move l D ad tc X.2.2.2.2.2.2.1 h) ml_X1_45 ob_1 rfl (by decide) (by decide) rfl rfl rfl rfl (Nat.le_of_ble_eq_true rfl) rfl dX1_takeAway_25 (fun σ7 h => ?_)
        refine aw_iinc X dX1_takeAway_28 rfl rfl ?_
        obtain ⟨x8, ex8⟩ : ∃ z : Int, z = (l2 + 1) := ⟨_, rfl⟩
        replace h := h x8 ex8
        refine aw_als (als' := [some (.ref (ad (1, 0, 0))), some (.int (oI l1)), some (.int (oI x8)), some (.int (oI l3))]) (by subst ex8; rfl) ?_
        refine aw_weak (als' := [some (.ref (ad (1, 0, 0))), some (.int (oI l1)), some (.int (oI x8)), some (.int (oI l3))]) ⟨rfl, rfl, rfl, rfl, trivial⟩ ?_
        exact m_Cu_takeAway_31 X hR hret ih h

set_option maxHeartbeats 4000000 in
set_option maxRecDepth 100000 in
theorem m_Cu_takeAway_0 {p : Program} {l : Launch} {e : Env} {R : Room} {s : State} {m : MethodId} {args : Array Value} {below : List Frame} {meth : Method} {c : Code} {D : va_G} {ad : Ky → Nat} {tc : Tc} {A : Nat → Prop} {cs sl : Nat} {Qm : State → Prop} (X : Cx p s m args c cX1_takeAway RX1 4 D ad tc A) (hR : RmOK R cs sl 1 23) {Q : Mem → Prop} (hret : RtV p l e R s m args below meth c D ad tc A cs sl Qm cX1_takeAway Q) {l1 : Int} {σ : Mem} (h : Cu_takeAway l1 σ Q) : AW p l e R s m args below meth c D ad tc A cs sl Qm 0 [some (.ref (ad (1, 0, 0))), some (.int (oI l1)), none, none] [] σ := by
  unfold Cu_takeAway at h
  refine aw_iconst X dX1_takeAway_0 ?_
  refine aw_istore_n X dX1_takeAway_1 (Nat.le_of_ble_eq_true rfl) rfl ?_
  refine aw_als (als' := [some (.ref (ad (1, 0, 0))), some (.int (oI l1)), some (.int (oI 0)), none]) rfl ?_
  refine aw_iconst X dX1_takeAway_2 ?_
  refine aw_istore_n X dX1_takeAway_3 (Nat.le_of_ble_eq_true rfl) rfl ?_
  refine aw_als (als' := [some (.ref (ad (1, 0, 0))), some (.int (oI l1)), some (.int (oI 0)), some (.int (oI 0))]) rfl ?_
  refine aw_weak (als' := [some (.ref (ad (1, 0, 0))), some (.int (oI l1)), some (.int (oI 0)), some (.int (oI 0))]) ⟨rfl, rfl, rfl, rfl, trivial⟩ ?_
  obtain ⟨n0, h⟩ := h
  exact m_Cu_takeAway_4 X hR hret n0 _ _ _ _ h
theorem s_Cu_takeAway (l : Launch) (D : va_G) (ad : Ky → Nat) (tc : Tc) (hi : adI ad) {l1 : Int} {σ : Mem} {Q : Mem → Prop} (h : Cu_takeAway l1 σ Q) : CtV l D ad tc yX1_takeAway cX1_takeAway 4 none { frames := 1, cells := 0, slots := 0, locals := 23 } [.ref (ad (1, 0, 0)), .int (oI l1)] σ Q := CtV.mk (by decide +kernel) hi (Nat.le_of_ble_eq_true rfl) rfl (fun p e s m args below meth c A Qm X hR hret => m_Cu_takeAway_0 X hR hret h)

set_option maxHeartbeats 4000000 in
set_option maxRecDepth 100000 in
theorem m_Fu_knows_17 {p : Program} {l : Launch} {e : Env} {R : Room} {s : State} {m : MethodId} {args : Array Value} {below : List Frame} {meth : Method} {c : Code} {D : va_G} {ad : Ky → Nat} {tc : Tc} {A : Nat → Prop} {cs sl : Nat} {Qm : State → Prop} (X : Cx p s m args c cX2_knows RX2 2 D ad tc A) (hR : RmOK R cs sl 0 0) {Q : Int → Mem → Prop} (hret : RtZ p l e R s m args below meth c D ad tc A cs sl Qm cX2_knows Q) {s0 : Int} {σ : Mem} (h : Fu_knows_17 Q s0 σ) : AW p l e R s m args below meth c D ad tc A cs sl Qm 17 [none, none] [.int (oI s0)] σ := by
  unfold Fu_knows_17 at h
  exact hret 17 _ _ _ dX2_knows_17 h.1 h.2

set_option maxHeartbeats 4000000 in
set_option maxRecDepth 100000 in
theorem m_Fu_knows_16 {p : Program} {l : Launch} {e : Env} {R : Room} {s : State} {m : MethodId} {args : Array Value} {below : List Frame} {meth : Method} {c : Code} {D : va_G} {ad : Ky → Nat} {tc : Tc} {A : Nat → Prop} {cs sl : Nat} {Qm : State → Prop} (X : Cx p s m args c cX2_knows RX2 2 D ad tc A) (hR : RmOK R cs sl 0 0) {Q : Int → Mem → Prop} (hret : RtZ p l e R s m args below meth c D ad tc A cs sl Qm cX2_knows Q) {σ : Mem} (h : Fu_knows_16 Q σ) : AW p l e R s m args below meth c D ad tc A cs sl Qm 16 [none, none] [] σ := by
  unfold Fu_knows_16 at h
  refine aw_iconst X dX2_knows_16 ?_
  refine aw_weak (als' := [none, none]) trivial ?_
  exact m_Fu_knows_17 X hR hret h

set_option maxHeartbeats 4000000 in
set_option maxRecDepth 100000 in
theorem m_Fu_knows_0 {p : Program} {l : Launch} {e : Env} {R : Room} {s : State} {m : MethodId} {args : Array Value} {below : List Frame} {meth : Method} {c : Code} {D : va_G} {ad : Ky → Nat} {tc : Tc} {A : Nat → Prop} {cs sl : Nat} {Qm : State → Prop} (X : Cx p s m args c cX2_knows RX2 2 D ad tc A) (hR : RmOK R cs sl 0 0) {Q : Int → Mem → Prop} (hret : RtZ p l e R s m args below meth c D ad tc A cs sl Qm cX2_knows Q) {l1 : Int} {σ : Mem} (h : Fu_knows l1 σ Q) : AW p l e R s m args below meth c D ad tc A cs sl Qm 0 [some (.ref (ad (2, 0, 0))), some (.int (oI l1))] [] σ := by
  unfold Fu_knows at h
  refine aw_iload_n X dX2_knows_0 rfl ?_
  obtain ⟨g1, h⟩ := h
  refine aw_if_lt X dX2_knows_1 (tgt := 16) (by decide) g1 (fun hc => ?_) (fun hc => ?_)
  · replace h := h.1 hc
    refine aw_weak (als' := [none, none]) trivial ?_
    exact m_Fu_knows_16 X hR hret h
  · replace h := h.2 hc
    refine aw_iload_n X dX2_knows_4 rfl ?_
    refine aw_aload_n X dX2_knows_5 rfl ?_
    refine aw_get X ob_2 fl_X2_9 rfl dX2_knows_6 ?_
    obtain ⟨g2, h⟩ := h
    obtain ⟨g3, h⟩ := h
    refine aw_icmp_ge X dX2_knows_9 (tgt := 16) (by decide) g2 g3 (fun hc => ?_) (fun hc => ?_)
    · replace h := h.1 hc
      refine aw_weak (als' := [none, none]) trivial ?_
      exact m_Fu_knows_16 X hR hret h
    · replace h := h.2 hc
      refine aw_iconst X dX2_knows_12 ?_
      refine aw_goto X dX2_knows_13 (tgt := 17) (by decide) ?_
      refine aw_weak (als' := [none, none]) trivial ?_
      exact m_Fu_knows_17 X hR hret h
theorem s_Fu_knows (l : Launch) (D : va_G) (ad : Ky → Nat) (tc : Tc) (hi : adI ad) {l1 : Int} {σ : Mem} {Q : Int → Mem → Prop} (h : Fu_knows l1 σ Q) : CtI l D ad tc yX2_knows cX2_knows 2 (some .boolean) { frames := 0, cells := 0, slots := 0, locals := 0 } [.ref (ad (2, 0, 0)), .int (oI l1)] σ Q := CtI.mkz (by decide +kernel) hi (Nat.le_of_ble_eq_true rfl) rfl (fun p e s m args below meth c A Qm X hR hret => m_Fu_knows_0 X hR hret h)

set_option maxHeartbeats 4000000 in
set_option maxRecDepth 100000 in
theorem m_Fu_sumOfWeights_4 {p : Program} {l : Launch} {e : Env} {R : Room} {s : State} {m : MethodId} {args : Array Value} {below : List Frame} {meth : Method} {c : Code} {D : va_G} {ad : Ky → Nat} {tc : Tc} {A : Nat → Prop} {cs sl : Nat} {Qm : State → Prop} (X : Cx p s m args c cX2_sumOfWeights RX2 3 D ad tc A) (hR : RmOK R cs sl 0 0) {Q : Int → Mem → Prop} (hret : RtI p l e R s m args below meth c D ad tc A cs sl Qm cX2_sumOfWeights Q) : ∀ (n : Nat) (l1 : Int) (l2 : Int) (σ : Mem), Fu_sumOfWeights_4 Q n l1 l2 σ → AW p l e R s m args below meth c D ad tc A cs sl Qm 4 [some (.ref (ad (2, 0, 0))), some (.int (oI l1)), some (.int (oI l2))] [] σ := by
  intro n
  induction n with
  | zero =>
    intro l1 l2 σ h
    exact False.elim h
  | succ n ih =>
    intro l1 l2 σ h
    unfold Fu_sumOfWeights_4 at h
    refine aw_iload_n X dX2_sumOfWeights_4 rfl ?_
    refine aw_aload_n X dX2_sumOfWeights_5 rfl ?_
    refine aw_get X ob_2 fl_X2_9 rfl dX2_sumOfWeights_6 ?_
    obtain ⟨g1, h⟩ := h
    obtain ⟨g2, h⟩ := h
    refine aw_icmp_ge X dX2_sumOfWeights_9 (tgt := 27) (by decide) g1 g2 (fun hc => ?_) (fun hc => ?_)
    · replace h := h.1 hc
      refine aw_iload_n X dX2_sumOfWeights_27 rfl ?_
      exact hret 28 _ _ _ dX2_sumOfWeights_28 h
    · replace h := h.2 hc
      refine aw_iload_n X dX2_sumOfWeights_12 rfl ?_
      refine aw_aload_n X dX2_sumOfWeights_13 rfl ?_
      refine aw_get X ob_2 fl_X2_15 rfl dX2_sumOfWeights_14 ?_
      refine aw_iload_n X dX2_sumOfWeights_17 rfl ?_
      obtain ⟨g3a, g3b, h⟩ := h
      refine aw_iald X ar_2_1 g3a g3b dX2_sumOfWeights_18 ?_
      refine aw_iadd X dX2_sumOfWeights_19 ?_
      refine aw_istore_n X dX2_sumOfWeights_20 (Nat.le_of_ble_eq_true rfl) rfl ?_
      obtain ⟨x4, ex4⟩ : ∃ z : Int, z = (l1 + (σ 2 0 1 l2)) := ⟨_, rfl⟩
      replace h := h x4 ex4
      refine aw_als (als' := [some (.ref (ad (2, 0, 0))), some (.int (oI x4)), some (.int (oI l2))]) (by subst ex4; rfl) ?_
      refine aw_iinc X dX2_sumOfWeights_21 rfl rfl ?_
      obtain ⟨x5, ex5⟩ : ∃ z : Int, z = (l2 + 1) := ⟨_, rfl⟩
      replace h := h x5 ex5
      refine aw_als (als' := [some (.ref (ad (2, 0, 0))), some (.int (oI x4)), some (.int (oI x5))]) (by subst ex5; rfl) ?_
      refine aw_goto X dX2_sumOfWeights_24 (tgt := 4) (by decide) ?_
      refine aw_weak (als' := [some (.ref (ad (2, 0, 0))), some (.int (oI x4)), some (.int (oI x5))]) ⟨rfl, rfl, rfl, trivial⟩ ?_
      exact ih _ _ _ h

set_option maxHeartbeats 4000000 in
set_option maxRecDepth 100000 in
theorem m_Fu_sumOfWeights_0 {p : Program} {l : Launch} {e : Env} {R : Room} {s : State} {m : MethodId} {args : Array Value} {below : List Frame} {meth : Method} {c : Code} {D : va_G} {ad : Ky → Nat} {tc : Tc} {A : Nat → Prop} {cs sl : Nat} {Qm : State → Prop} (X : Cx p s m args c cX2_sumOfWeights RX2 3 D ad tc A) (hR : RmOK R cs sl 0 0) {Q : Int → Mem → Prop} (hret : RtI p l e R s m args below meth c D ad tc A cs sl Qm cX2_sumOfWeights Q) {σ : Mem} (h : Fu_sumOfWeights σ Q) : AW p l e R s m args below meth c D ad tc A cs sl Qm 0 [some (.ref (ad (2, 0, 0))), none, none] [] σ := by
  unfold Fu_sumOfWeights at h
  refine aw_iconst X dX2_sumOfWeights_0 ?_
  refine aw_istore_n X dX2_sumOfWeights_1 (Nat.le_of_ble_eq_true rfl) rfl ?_
  refine aw_als (als' := [some (.ref (ad (2, 0, 0))), some (.int (oI 0)), none]) rfl ?_
  refine aw_iconst X dX2_sumOfWeights_2 ?_
  refine aw_istore_n X dX2_sumOfWeights_3 (Nat.le_of_ble_eq_true rfl) rfl ?_
  refine aw_als (als' := [some (.ref (ad (2, 0, 0))), some (.int (oI 0)), some (.int (oI 0))]) rfl ?_
  refine aw_weak (als' := [some (.ref (ad (2, 0, 0))), some (.int (oI 0)), some (.int (oI 0))]) ⟨rfl, rfl, rfl, trivial⟩ ?_
  obtain ⟨n0, h⟩ := h
  exact m_Fu_sumOfWeights_4 X hR hret n0 _ _ _ h
theorem s_Fu_sumOfWeights (l : Launch) (D : va_G) (ad : Ky → Nat) (tc : Tc) (hi : adI ad) {σ : Mem} {Q : Int → Mem → Prop} (h : Fu_sumOfWeights σ Q) : CtI l D ad tc yX2_sumOfWeights cX2_sumOfWeights 3 (some .int) { frames := 0, cells := 0, slots := 0, locals := 0 } [.ref (ad (2, 0, 0))] σ Q := CtI.mk (by decide +kernel) hi (Nat.le_of_ble_eq_true rfl) rfl (fun p e s m args below meth c A Qm X hR hret => m_Fu_sumOfWeights_0 X hR hret h)

set_option maxHeartbeats 4000000 in
set_option maxRecDepth 100000 in
theorem m_Pg_restart_0 {p : Program} {l : Launch} {e : Env} {R : Room} {s : State} {m : MethodId} {args : Array Value} {below : List Frame} {meth : Method} {c : Code} {D : va_G} {ad : Ky → Nat} {tc : Tc} {A : Nat → Prop} {cs sl : Nat} {Qm : State → Prop} (X : Cx p s m args c cX4_restart RX4 1 D ad tc A) (hR : RmOK R cs sl 0 0) {Q : Mem → Prop} (hret : RtV p l e R s m args below meth c D ad tc A cs sl Qm cX4_restart Q) {σ : Mem} (h : Pg_restart σ Q) : AW p l e R s m args below meth c D ad tc A cs sl Qm 0 [some (.ref (ad (4, 0, 0)))] [] σ := by
  unfold Pg_restart at h
  refine aw_aload_n X dX4_restart_0 rfl ?_
  refine aw_iconst X dX4_restart_1 ?_
  refine aw_put X ob_4 fl_X4_28 (sf_4_0 ad) rfl rfl dX4_restart_2 ?_
  obtain ⟨σ1, eσ1⟩ : ∃ z : Mem, z = up σ 4 0 0 0 0 := ⟨_, rfl⟩
  replace h := h σ1 eσ1
  refine aw_mem eσ1 ?_
  refine aw_aload_n X dX4_restart_5 rfl ?_
  refine aw_iconst X dX4_restart_6 ?_
  refine aw_put X ob_4 fl_X4_9 (sf_4_1 ad) rfl rfl dX4_restart_7 ?_
  obtain ⟨σ2, eσ2⟩ : ∃ z : Mem, z = up σ1 4 0 1 0 0 := ⟨_, rfl⟩
  replace h := h σ2 eσ2
  refine aw_mem eσ2 ?_
  refine aw_aload_n X dX4_restart_10 rfl ?_
  refine aw_bipush X dX4_restart_11 rfl ?_
  refine aw_put X ob_4 fl_X4_15 (sf_4_2 ad) rfl rfl dX4_restart_13 ?_
  obtain ⟨σ3, eσ3⟩ : ∃ z : Mem, z = up σ2 4 0 2 0 (-4) := ⟨_, rfl⟩
  replace h := h σ3 eσ3
  refine aw_mem eσ3 ?_
  refine aw_aload_n X dX4_restart_16 rfl ?_
  refine aw_bipush X dX4_restart_17 rfl ?_
  refine aw_put X ob_4 fl_X4_18 (sf_4_3 ad) rfl rfl dX4_restart_19 ?_
  obtain ⟨σ4, eσ4⟩ : ∃ z : Mem, z = up σ3 4 0 3 0 (-4) := ⟨_, rfl⟩
  replace h := h σ4 eσ4
  refine aw_mem eσ4 ?_
  exact hret 22 _ _ dX4_restart_22 h
theorem s_Pg_restart (l : Launch) (D : va_G) (ad : Ky → Nat) (tc : Tc) (hi : adI ad) {σ : Mem} {Q : Mem → Prop} (h : Pg_restart σ Q) : CtV l D ad tc yX4_restart cX4_restart 1 none { frames := 0, cells := 0, slots := 0, locals := 0 } [.ref (ad (4, 0, 0))] σ Q := CtV.mk (by decide +kernel) hi (Nat.le_of_ble_eq_true rfl) rfl (fun p e s m args below meth c A Qm X hR hret => m_Pg_restart_0 X hR hret h)

set_option maxHeartbeats 4000000 in
set_option maxRecDepth 100000 in
theorem m_Pg_hasMaster_14 {p : Program} {l : Launch} {e : Env} {R : Room} {s : State} {m : MethodId} {args : Array Value} {below : List Frame} {meth : Method} {c : Code} {D : va_G} {ad : Ky → Nat} {tc : Tc} {A : Nat → Prop} {cs sl : Nat} {Qm : State → Prop} (X : Cx p s m args c cX4_hasMaster RX4 1 D ad tc A) (hR : RmOK R cs sl 0 0) {Q : Int → Mem → Prop} (hret : RtZ p l e R s m args below meth c D ad tc A cs sl Qm cX4_hasMaster Q) {s0 : Int} {σ : Mem} (h : Pg_hasMaster_14 Q s0 σ) : AW p l e R s m args below meth c D ad tc A cs sl Qm 14 [none] [.int (oI s0)] σ := by
  unfold Pg_hasMaster_14 at h
  exact hret 14 _ _ _ dX4_hasMaster_14 h.1 h.2

set_option maxHeartbeats 4000000 in
set_option maxRecDepth 100000 in
theorem m_Pg_hasMaster_0 {p : Program} {l : Launch} {e : Env} {R : Room} {s : State} {m : MethodId} {args : Array Value} {below : List Frame} {meth : Method} {c : Code} {D : va_G} {ad : Ky → Nat} {tc : Tc} {A : Nat → Prop} {cs sl : Nat} {Qm : State → Prop} (X : Cx p s m args c cX4_hasMaster RX4 1 D ad tc A) (hR : RmOK R cs sl 0 0) {Q : Int → Mem → Prop} (hret : RtZ p l e R s m args below meth c D ad tc A cs sl Qm cX4_hasMaster Q) {σ : Mem} (h : Pg_hasMaster σ Q) : AW p l e R s m args below meth c D ad tc A cs sl Qm 0 [some (.ref (ad (4, 0, 0)))] [] σ := by
  unfold Pg_hasMaster at h
  refine aw_aload_n X dX4_hasMaster_0 rfl ?_
  refine aw_get X ob_4 fl_X4_15 rfl dX4_hasMaster_1 ?_
  refine aw_bipush X dX4_hasMaster_4 rfl ?_
  obtain ⟨g1, h⟩ := h
  refine aw_icmp_eq X dX4_hasMaster_6 (tgt := 13) (by decide) g1 ⟨by decide, by decide⟩ (fun hc => ?_) (fun hc => ?_)
  · replace h := h.1 hc
    refine aw_iconst X dX4_hasMaster_13 ?_
    refine aw_weak (als' := [none]) trivial ?_
    exact m_Pg_hasMaster_14 X hR hret h
  · replace h := h.2 hc
    refine aw_iconst X dX4_hasMaster_9 ?_
    refine aw_goto X dX4_hasMaster_10 (tgt := 14) (by decide) ?_
    refine aw_weak (als' := [none]) trivial ?_
    exact m_Pg_hasMaster_14 X hR hret h
theorem s_Pg_hasMaster (l : Launch) (D : va_G) (ad : Ky → Nat) (tc : Tc) (hi : adI ad) {σ : Mem} {Q : Int → Mem → Prop} (h : Pg_hasMaster σ Q) : CtI l D ad tc yX4_hasMaster cX4_hasMaster 1 (some .boolean) { frames := 0, cells := 0, slots := 0, locals := 0 } [.ref (ad (4, 0, 0))] σ Q := CtI.mkz (by decide +kernel) hi (Nat.le_of_ble_eq_true rfl) rfl (fun p e s m args below meth c A Qm X hR hret => m_Pg_hasMaster_0 X hR hret h)

set_option maxHeartbeats 4000000 in
set_option maxRecDepth 100000 in
theorem m_Pg_hasBest_14 {p : Program} {l : Launch} {e : Env} {R : Room} {s : State} {m : MethodId} {args : Array Value} {below : List Frame} {meth : Method} {c : Code} {D : va_G} {ad : Ky → Nat} {tc : Tc} {A : Nat → Prop} {cs sl : Nat} {Qm : State → Prop} (X : Cx p s m args c cX4_hasBest RX4 1 D ad tc A) (hR : RmOK R cs sl 0 0) {Q : Int → Mem → Prop} (hret : RtZ p l e R s m args below meth c D ad tc A cs sl Qm cX4_hasBest Q) {s0 : Int} {σ : Mem} (h : Pg_hasBest_14 Q s0 σ) : AW p l e R s m args below meth c D ad tc A cs sl Qm 14 [none] [.int (oI s0)] σ := by
  unfold Pg_hasBest_14 at h
  exact hret 14 _ _ _ dX4_hasBest_14 h.1 h.2

set_option maxHeartbeats 4000000 in
set_option maxRecDepth 100000 in
theorem m_Pg_hasBest_0 {p : Program} {l : Launch} {e : Env} {R : Room} {s : State} {m : MethodId} {args : Array Value} {below : List Frame} {meth : Method} {c : Code} {D : va_G} {ad : Ky → Nat} {tc : Tc} {A : Nat → Prop} {cs sl : Nat} {Qm : State → Prop} (X : Cx p s m args c cX4_hasBest RX4 1 D ad tc A) (hR : RmOK R cs sl 0 0) {Q : Int → Mem → Prop} (hret : RtZ p l e R s m args below meth c D ad tc A cs sl Qm cX4_hasBest Q) {σ : Mem} (h : Pg_hasBest σ Q) : AW p l e R s m args below meth c D ad tc A cs sl Qm 0 [some (.ref (ad (4, 0, 0)))] [] σ := by
  unfold Pg_hasBest at h
  refine aw_aload_n X dX4_hasBest_0 rfl ?_
  refine aw_get X ob_4 fl_X4_18 rfl dX4_hasBest_1 ?_
  refine aw_bipush X dX4_hasBest_4 rfl ?_
  obtain ⟨g1, h⟩ := h
  refine aw_icmp_eq X dX4_hasBest_6 (tgt := 13) (by decide) g1 ⟨by decide, by decide⟩ (fun hc => ?_) (fun hc => ?_)
  · replace h := h.1 hc
    refine aw_iconst X dX4_hasBest_13 ?_
    refine aw_weak (als' := [none]) trivial ?_
    exact m_Pg_hasBest_14 X hR hret h
  · replace h := h.2 hc
    refine aw_iconst X dX4_hasBest_9 ?_
    refine aw_goto X dX4_hasBest_10 (tgt := 14) (by decide) ?_
    refine aw_weak (als' := [none]) trivial ?_
    exact m_Pg_hasBest_14 X hR hret h
theorem s_Pg_hasBest (l : Launch) (D : va_G) (ad : Ky → Nat) (tc : Tc) (hi : adI ad) {σ : Mem} {Q : Int → Mem → Prop} (h : Pg_hasBest σ Q) : CtI l D ad tc yX4_hasBest cX4_hasBest 1 (some .boolean) { frames := 0, cells := 0, slots := 0, locals := 0 } [.ref (ad (4, 0, 0))] σ Q := CtI.mkz (by decide +kernel) hi (Nat.le_of_ble_eq_true rfl) rfl (fun p e s m args below meth c A Qm X hR hret => m_Pg_hasBest_0 X hR hret h)

set_option maxHeartbeats 4000000 in
set_option maxRecDepth 100000 in
theorem m_Pg_takeMaster_31 {p : Program} {l : Launch} {e : Env} {R : Room} {s : State} {m : MethodId} {args : Array Value} {below : List Frame} {meth : Method} {c : Code} {D : va_G} {ad : Ky → Nat} {tc : Tc} {A : Nat → Prop} {cs sl : Nat} {Qm : State → Prop} (X : Cx p s m args c cX4_takeMaster RX4 3 D ad tc A) (hR : RmOK R cs sl 1 40) {Q : Mem → Prop} (hret : RtV p l e R s m args below meth c D ad tc A cs sl Qm cX4_takeMaster Q) {σ : Mem} (h : Pg_takeMaster_31 Q σ) : AW p l e R s m args below meth c D ad tc A cs sl Qm 31 [none, none, none] [] σ := by
  unfold Pg_takeMaster_31 at h
  exact hret 31 _ _ dX4_takeMaster_31 h

set_option maxHeartbeats 4000000 in
set_option maxRecDepth 100000 in
theorem m_Pg_takeMaster_0 {p : Program} {l : Launch} {e : Env} {R : Room} {s : State} {m : MethodId} {args : Array Value} {below : List Frame} {meth : Method} {c : Code} {D : va_G} {ad : Ky → Nat} {tc : Tc} {A : Nat → Prop} {cs sl : Nat} {Qm : State → Prop} (X : Cx p s m args c cX4_takeMaster RX4 3 D ad tc A) (hR : RmOK R cs sl 1 40) {Q : Mem → Prop} (hret : RtV p l e R s m args below meth c D ad tc A cs sl Qm cX4_takeMaster Q) {l1c : Nat} {l1p : Int} {l1k : Nat} {l2 : Int} {σ : Mem} (hl1 : Arr l1c l1p l1k 6) (h : Pg_takeMaster l1c l1p l1k l2 σ Q) : AW p l e R s m args below meth c D ad tc A cs sl Qm 0 [some (.ref (ad (4, 0, 0))), some (.ref (ad (l1c, l1p, l1k + 1))), some (.int (oI l2))] [] σ := by
  unfold Pg_takeMaster at h
  refine aw_aload_n X dX4_takeMaster_0 rfl ?_
  refine aw_iload_n X dX4_takeMaster_1 rfl ?_
  refine aw_put X ob_4 fl_X4_15 (sf_4_2 ad) rfl rfl dX4_takeMaster_2 ?_
  obtain ⟨σ1, eσ1⟩ : ∃ z : Mem, z = up σ 4 0 2 0 l2 := ⟨_, rfl⟩
  replace h := h σ1 eσ1
  refine aw_mem eσ1 ?_
  refine aw_iload_n X dX4_takeMaster_5 rfl ?_
  refine aw_bipush X dX4_takeMaster_6 rfl ?_
  obtain ⟨g2, h⟩ := h
  refine aw_icmp_ne X dX4_takeMaster_8 (tgt := 19) (by decide) g2 ⟨by decide, by decide⟩ (fun hc => ?_) (fun hc => ?_)
  · replace h := h.1 hc
    refine aw_aload_n X dX4_takeMaster_19 rfl ?_
    refine aw_iconst X dX4_takeMaster_20 ?_
    refine aw_aload_n X dX4_takeMaster_21 rfl ?_
    refine aw_get X ob_4 fl_X4_21 rfl dX4_takeMaster_22 ?_
    refine aw_iconst X dX4_takeMaster_25 ?_
    refine aw_bipush X dX4_takeMaster_26 rfl ?_
    refine aw_copy X hR cpl_X4_31 hl1 ar_4_4 (by decide) (by decide) (by decide) (by decide) (Nat.le_of_ble_eq_true rfl) rfl dX4_takeMaster_28 ?_
    obtain ⟨σ4, eσ4⟩ : ∃ z : Mem, z = cp σ1 l1c l1p l1k 4 0 4 6 := ⟨_, rfl⟩
    replace h := h σ4 eσ4
    refine aw_mem eσ4 ?_
    refine aw_weak (als' := [none, none, none]) trivial ?_
    exact m_Pg_takeMaster_31 X hR hret h
  · replace h := h.2 hc
    refine aw_aload_n X dX4_takeMaster_11 rfl ?_
    refine aw_iconst X dX4_takeMaster_12 ?_
    refine aw_put X ob_4 fl_X4_9 (sf_4_1 ad) rfl rfl dX4_takeMaster_13 ?_
    obtain ⟨σ5, eσ5⟩ : ∃ z : Mem, z = up σ1 4 0 1 0 2 := ⟨_, rfl⟩
    replace h := h σ5 eσ5
    refine aw_mem eσ5 ?_
    refine aw_goto X dX4_takeMaster_16 (tgt := 31) (by decide) ?_
    refine aw_weak (als' := [none, none, none]) trivial ?_
    exact m_Pg_takeMaster_31 X hR hret h
theorem s_Pg_takeMaster (l : Launch) (D : va_G) (ad : Ky → Nat) (tc : Tc) (hi : adI ad) {l1c : Nat} {l1p : Int} {l1k : Nat} {l2 : Int} (hl1 : Arr l1c l1p l1k 6) {σ : Mem} {Q : Mem → Prop} (h : Pg_takeMaster l1c l1p l1k l2 σ Q) : CtV l D ad tc yX4_takeMaster cX4_takeMaster 3 none { frames := 1, cells := 0, slots := 0, locals := 40 } [.ref (ad (4, 0, 0)), .ref (ad (l1c, l1p, l1k + 1)), .int (oI l2)] σ Q := CtV.mk (by decide +kernel) hi (Nat.le_of_ble_eq_true rfl) rfl (fun p e s m args below meth c A Qm X hR hret => m_Pg_takeMaster_0 X hR hret hl1 h)

set_option maxHeartbeats 4000000 in
set_option maxRecDepth 100000 in
theorem m_Pg_takeCost_68 {p : Program} {l : Launch} {e : Env} {R : Room} {s : State} {m : MethodId} {args : Array Value} {below : List Frame} {meth : Method} {c : Code} {D : va_G} {ad : Ky → Nat} {tc : Tc} {A : Nat → Prop} {cs sl : Nat} {Qm : State → Prop} (X : Cx p s m args c cX4_takeCost RX4 2 D ad tc A) (hR : RmOK R cs sl 1 40) {Q : Mem → Prop} (hret : RtV p l e R s m args below meth c D ad tc A cs sl Qm cX4_takeCost Q) {σ : Mem} (h : Pg_takeCost_68 Q σ) : AW p l e R s m args below meth c D ad tc A cs sl Qm 68 [none, none] [] σ := by
  unfold Pg_takeCost_68 at h
  exact hret 68 _ _ dX4_takeCost_68 h

set_option maxHeartbeats 4000000 in
set_option maxRecDepth 100000 in
theorem m_Pg_takeCost_43 {p : Program} {l : Launch} {e : Env} {R : Room} {s : State} {m : MethodId} {args : Array Value} {below : List Frame} {meth : Method} {c : Code} {D : va_G} {ad : Ky → Nat} {tc : Tc} {A : Nat → Prop} {cs sl : Nat} {Qm : State → Prop} (X : Cx p s m args c cX4_takeCost RX4 2 D ad tc A) (hR : RmOK R cs sl 1 40) {Q : Mem → Prop} (hret : RtV p l e R s m args below meth c D ad tc A cs sl Qm cX4_takeCost Q) {σ : Mem} (h : Pg_takeCost_43 Q σ) : AW p l e R s m args below meth c D ad tc A cs sl Qm 43 [some (.ref (ad (4, 0, 0))), none] [] σ := by
  unfold Pg_takeCost_43 at h
  refine aw_aload_n X dX4_takeCost_43 rfl ?_
  refine aw_get X ob_4 fl_X4_18 rfl dX4_takeCost_44 ?_
  refine aw_bipush X dX4_takeCost_47 rfl ?_
  obtain ⟨g1, h⟩ := h
  refine aw_icmp_eq X dX4_takeCost_49 (tgt := 68) (by decide) g1 ⟨by decide, by decide⟩ (fun hc => ?_) (fun hc => ?_)
  · replace h := h.1 hc
    refine aw_weak (als' := [none, none]) trivial ?_
    exact m_Pg_takeCost_68 X hR hret h
  · replace h := h.2 hc
    refine aw_aload_n X dX4_takeCost_52 rfl ?_
    refine aw_get X ob_4 fl_X4_15 rfl dX4_takeCost_53 ?_
    refine aw_aload_n X dX4_takeCost_56 rfl ?_
    refine aw_get X ob_4 fl_X4_18 rfl dX4_takeCost_57 ?_
    obtain ⟨g3, h⟩ := h
    obtain ⟨g4, h⟩ := h
    refine aw_icmp_lt X dX4_takeCost_60 (tgt := 68) (by decide) g3 g4 (fun hc => ?_) (fun hc => ?_)
    · replace h := h.1 hc
      refine aw_weak (als' := [none, none]) trivial ?_
      exact m_Pg_takeCost_68 X hR hret h
    · replace h := h.2 hc
      refine aw_aload_n X dX4_takeCost_63 rfl ?_
      refine aw_iconst X dX4_takeCost_64 ?_
      refine aw_put X ob_4 fl_X4_9 (sf_4_1 ad) rfl rfl dX4_takeCost_65 ?_
      obtain ⟨σ5, eσ5⟩ : ∃ z : Mem, z = up σ 4 0 1 0 1 := ⟨_, rfl⟩
      replace h := h σ5 eσ5
      refine aw_mem eσ5 ?_
      refine aw_weak (als' := [none, none]) trivial ?_
      exact m_Pg_takeCost_68 X hR hret h

set_option maxHeartbeats 4000000 in
set_option maxRecDepth 100000 in
theorem m_Pg_takeCost_23 {p : Program} {l : Launch} {e : Env} {R : Room} {s : State} {m : MethodId} {args : Array Value} {below : List Frame} {meth : Method} {c : Code} {D : va_G} {ad : Ky → Nat} {tc : Tc} {A : Nat → Prop} {cs sl : Nat} {Qm : State → Prop} (X : Cx p s m args c cX4_takeCost RX4 2 D ad tc A) (hR : RmOK R cs sl 1 40) {Q : Mem → Prop} (hret : RtV p l e R s m args below meth c D ad tc A cs sl Qm cX4_takeCost Q) {l1 : Int} {σ : Mem} (h : Pg_takeCost_23 Q l1 σ) : AW p l e R s m args below meth c D ad tc A cs sl Qm 23 [some (.ref (ad (4, 0, 0))), some (.int (oI l1))] [] σ := by
  unfold Pg_takeCost_23 at h
  refine aw_aload_n X dX4_takeCost_23 rfl ?_
  refine aw_iload_n X dX4_takeCost_24 rfl ?_
  refine aw_put X ob_4 fl_X4_18 (sf_4_3 ad) rfl rfl dX4_takeCost_25 ?_
  obtain ⟨σ1, eσ1⟩ : ∃ z : Mem, z = up σ 4 0 3 0 l1 := ⟨_, rfl⟩
  replace h := h σ1 eσ1
  refine aw_mem eσ1 ?_
  refine aw_aload_n X dX4_takeCost_28 rfl ?_
  refine aw_get X ob_4 fl_X4_21 rfl dX4_takeCost_29 ?_
  refine aw_iconst X dX4_takeCost_32 ?_
  refine aw_aload_n X dX4_takeCost_33 rfl ?_
  refine aw_get X ob_4 fl_X4_25 rfl dX4_takeCost_34 ?_
  refine aw_iconst X dX4_takeCost_37 ?_
  refine aw_bipush X dX4_takeCost_38 rfl ?_
  refine aw_copy X hR cpl_X4_31 ar_4_4 ar_4_5 (by decide) (by decide) (by decide) (by decide) (Nat.le_of_ble_eq_true rfl) rfl dX4_takeCost_40 ?_
  obtain ⟨σ2, eσ2⟩ : ∃ z : Mem, z = cp σ1 4 0 4 4 0 5 6 := ⟨_, rfl⟩
  replace h := h σ2 eσ2
  refine aw_mem eσ2 ?_
  refine aw_weak (als' := [some (.ref (ad (4, 0, 0))), none]) ⟨rfl, trivial⟩ ?_
  exact m_Pg_takeCost_43 X hR hret h

set_option maxHeartbeats 4000000 in
set_option maxRecDepth 100000 in
theorem m_Pg_takeCost_0 {p : Program} {l : Launch} {e : Env} {R : Room} {s : State} {m : MethodId} {args : Array Value} {below : List Frame} {meth : Method} {c : Code} {D : va_G} {ad : Ky → Nat} {tc : Tc} {A : Nat → Prop} {cs sl : Nat} {Qm : State → Prop} (X : Cx p s m args c cX4_takeCost RX4 2 D ad tc A) (hR : RmOK R cs sl 1 40) {Q : Mem → Prop} (hret : RtV p l e R s m args below meth c D ad tc A cs sl Qm cX4_takeCost Q) {l1 : Int} {σ : Mem} (h : Pg_takeCost l1 σ Q) : AW p l e R s m args below meth c D ad tc A cs sl Qm 0 [some (.ref (ad (4, 0, 0))), some (.int (oI l1))] [] σ := by
  unfold Pg_takeCost at h
  refine aw_iload_n X dX4_takeCost_0 rfl ?_
  refine aw_bipush X dX4_takeCost_1 rfl ?_
  obtain ⟨g1, h⟩ := h
  refine aw_icmp_eq X dX4_takeCost_3 (tgt := 43) (by decide) g1 ⟨by decide, by decide⟩ (fun hc => ?_) (fun hc => ?_)
  · replace h := h.1 hc
    refine aw_weak (als' := [some (.ref (ad (4, 0, 0))), none]) ⟨rfl, trivial⟩ ?_
    exact m_Pg_takeCost_43 X hR hret h
  · replace h := h.2 hc
    refine aw_aload_n X dX4_takeCost_6 rfl ?_
    refine aw_get X ob_4 fl_X4_18 rfl dX4_takeCost_7 ?_
    refine aw_bipush X dX4_takeCost_10 rfl ?_
    obtain ⟨g3, h⟩ := h
    refine aw_icmp_eq X dX4_takeCost_12 (tgt := 23) (by decide) g3 ⟨by decide, by decide⟩ (fun hc => ?_) (fun hc => ?_)
    · replace h := h.1 hc
      refine aw_weak (als' := [some (.ref (ad (4, 0, 0))), some (.int (oI l1))]) ⟨rfl, rfl, trivial⟩ ?_
      exact m_Pg_takeCost_23 X hR hret h
    · replace h := h.2 hc
      refine aw_iload_n X dX4_takeCost_15 rfl ?_
      refine aw_aload_n X dX4_takeCost_16 rfl ?_
      refine aw_get X ob_4 fl_X4_18 rfl dX4_takeCost_17 ?_
      obtain ⟨g5, h⟩ := h
      obtain ⟨g6, h⟩ := h
      refine aw_icmp_ge X dX4_takeCost_20 (tgt := 43) (by decide) g5 g6 (fun hc => ?_) (fun hc => ?_)
      · replace h := h.1 hc
        refine aw_weak (als' := [some (.ref (ad (4, 0, 0))), none]) ⟨rfl, trivial⟩ ?_
        exact m_Pg_takeCost_43 X hR hret h
      · replace h := h.2 hc
        refine aw_weak (als' := [some (.ref (ad (4, 0, 0))), some (.int (oI l1))]) ⟨rfl, rfl, trivial⟩ ?_
        exact m_Pg_takeCost_23 X hR hret h
theorem s_Pg_takeCost (l : Launch) (D : va_G) (ad : Ky → Nat) (tc : Tc) (hi : adI ad) {l1 : Int} {σ : Mem} {Q : Mem → Prop} (h : Pg_takeCost l1 σ Q) : CtV l D ad tc yX4_takeCost cX4_takeCost 2 none { frames := 1, cells := 0, slots := 0, locals := 40 } [.ref (ad (4, 0, 0)), .int (oI l1)] σ Q := CtV.mk (by decide +kernel) hi (Nat.le_of_ble_eq_true rfl) rfl (fun p e s m args below meth c A Qm X hR hret => m_Pg_takeCost_0 X hR hret h)

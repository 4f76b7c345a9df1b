set_option maxHeartbeats 4000000 in
set_option maxRecDepth 100000 in
theorem m_Pa_forget_0 {p : Program} {l : Launch} {e : Env} {R : Room} {s : State} {m : MethodId} {args : Array Value} {below : List Frame} {meth : Method} {c : Code} {D : va_G} {ad : Ky → Nat} {tc : Tc} {A : Nat → Prop} {cs sl : Nat} {Qm : State → Prop} (X : Cx p s m args c cX3_forget RX3 1 D ad tc A) (hR : RmOK R cs sl 1 23) {Q : Mem → Prop} (hret : RtV p l e R s m args below meth c D ad tc A cs sl Qm cX3_forget Q) {l0 : Int} {σ : Mem} (hl0 : 0 ≤ l0 ∧ l0 < 4) (h : Pa_forget l0 σ Q) : AW p l e R s m args below meth c D ad tc A cs sl Qm 0 [some (.ref (ad (3, l0, 0)))] [] σ := by
  unfold Pa_forget at h
  refine aw_aload_n X dX3_forget_0 rfl ?_
  refine aw_get X (ob_3 hl0) fl_X3_33 rfl dX3_forget_1 ?_
  refine aw_bipush X dX3_forget_4 rfl ?_
  refine aw_callSV X hR (s_fill l D ad tc X.2.2.2.2.2.2.1 (ar_3_10 hl0) (v := (-9)) (σ := σ)) ms_X3_51 (by decide) (by decide) rfl rfl rfl rfl (Nat.le_of_ble_eq_true rfl) rfl dX3_forget_6 (fun σ1 eσ1 => ?_)
  replace h := h σ1 eσ1
  refine aw_aload_n X dX3_forget_9 rfl ?_
  refine aw_get X (ob_3 hl0) fl_X3_36 rfl dX3_forget_10 ?_
  refine aw_iconst X dX3_forget_13 ?_
  refine aw_callSV X hR (s_fill l D ad tc X.2.2.2.2.2.2.1 (ar_3_11 hl0) (v := 0) (σ := σ1)) ms_X3_51 (by decide) (by decide) rfl rfl rfl rfl (Nat.le_of_ble_eq_true rfl) rfl dX3_forget_14 (fun σ2 eσ2 => ?_)
  replace h := h σ2 eσ2
  exact hret 17 _ _ dX3_forget_17 h
theorem s_Pa_forget (l : Launch) (D : va_G) (ad : Ky → Nat) (tc : Tc) (hi : adI ad) {l0 : Int} (hl0 : 0 ≤ l0 ∧ l0 < 4) {σ : Mem} {Q : Mem → Prop} (h : Pa_forget l0 σ Q) : CtV l D ad tc yX3_forget cX3_forget 1 none { frames := 1, cells := 0, slots := 0, locals := 23 } [.ref (ad (3, l0, 0))] σ Q := CtV.mk (by decide +kernel) hi (Nat.le_of_ble_eq_true rfl) rfl (fun p e s m args below meth c A Qm X hR hret => m_Pa_forget_0 X hR hret hl0 h)

set_option maxHeartbeats 4000000 in
set_option maxRecDepth 100000 in
theorem m_Pa_isJoinedTo_2 {p : Program} {l : Launch} {e : Env} {R : Room} {s : State} {m : MethodId} {args : Array Value} {below : List Frame} {meth : Method} {c : Code} {D : va_G} {ad : Ky → Nat} {tc : Tc} {A : Nat → Prop} {cs sl : Nat} {Qm : State → Prop} (X : Cx p s m args c cX3_isJoinedTo RX3 3 D ad tc A) (hR : RmOK R cs sl 0 0) {Q : Int → Mem → Prop} (hret : RtZ p l e R s m args below meth c D ad tc A cs sl Qm cX3_isJoinedTo Q) : ∀ (n : Nat) (l0 : Int) (l1 : Int) (l2 : Int) (σ : Mem) (_ : 0 ≤ l0 ∧ l0 < 4), Pa_isJoinedTo_2 Q n l0 l1 l2 σ → AW p l e R s m args below meth c D ad tc A cs sl Qm 2 [some (.ref (ad (3, l0, 0))), some (.int (oI l1)), some (.int (oI l2))] [] σ := by
  intro n
  induction n with
  | zero =>
    intro l0 l1 l2 σ hl0 h
    exact False.elim h
  | succ n ih =>
    intro l0 l1 l2 σ hl0 h
    unfold Pa_isJoinedTo_2 at h
    refine aw_iload_n X dX3_isJoinedTo_2 rfl ?_
    refine aw_aload_n X dX3_isJoinedTo_3 rfl ?_
    refine aw_get X (ob_3 hl0) fl_X3_57 rfl dX3_isJoinedTo_4 ?_
    obtain ⟨g1, h⟩ := h
    obtain ⟨g2, h⟩ := h
    refine aw_icmp_ge X dX3_isJoinedTo_7 (tgt := 28) (by decide) g1 g2 (fun hc => ?_) (fun hc => ?_)
    · replace h := h.1 hc
      refine aw_iconst X dX3_isJoinedTo_28 ?_
      exact hret 29 _ _ _ dX3_isJoinedTo_29 (by decide) h
    · replace h := h.2 hc
      refine aw_aload_n X dX3_isJoinedTo_10 rfl ?_
      refine aw_get X (ob_3 hl0) fl_X3_9 rfl dX3_isJoinedTo_11 ?_
      refine aw_iload_n X dX3_isJoinedTo_14 rfl ?_
      obtain ⟨g3a, g3b, h⟩ := h
      refine aw_iald X (ar_3_1 hl0) g3a g3b dX3_isJoinedTo_15 ?_
      refine aw_iload_n X dX3_isJoinedTo_16 rfl ?_
      obtain ⟨g4, h⟩ := h
      obtain ⟨g5, h⟩ := h
      refine aw_icmp_ne X dX3_isJoinedTo_17 (tgt := 22) (by decide) g4 g5 (fun hc => ?_) (fun hc => ?_)
      · replace h := h.1 hc
        refine aw_iinc X dX3_isJoinedTo_22 rfl rfl ?_
        obtain ⟨x6, ex6⟩ : ∃ z : Int, z = (l2 + 1) := ⟨_, rfl⟩
        replace h := h x6 ex6
        refine aw_als (als' := [some (.ref (ad (3, l0, 0))), some (.int (oI l1)), some (.int (oI x6))]) (by subst ex6; rfl) ?_
        refine aw_goto X dX3_isJoinedTo_25 (tgt := 2) (by decide) ?_
        refine aw_weak (als' := [some (.ref (ad (3, l0, 0))), some (.int (oI l1)), some (.int (oI x6))]) ⟨rfl, rfl, rfl, trivial⟩ ?_
        exact ih _ _ _ _ hl0 h
      · replace h := h.2 hc
        refine aw_iconst X dX3_isJoinedTo_20 ?_
        exact hret 21 _ _ _ dX3_isJoinedTo_21 (by decide) h

set_option maxHeartbeats 4000000 in
set_option maxRecDepth 100000 in
theorem m_Pa_isJoinedTo_0 {p : Program} {l : Launch} {e : Env} {R : Room} {s : State} {m : MethodId} {args : Array Value} {below : List Frame} {meth : Method} {c : Code} {D : va_G} {ad : Ky → Nat} {tc : Tc} {A : Nat → Prop} {cs sl : Nat} {Qm : State → Prop} (X : Cx p s m args c cX3_isJoinedTo RX3 3 D ad tc A) (hR : RmOK R cs sl 0 0) {Q : Int → Mem → Prop} (hret : RtZ p l e R s m args below meth c D ad tc A cs sl Qm cX3_isJoinedTo Q) {l0 : Int} {l1 : Int} {σ : Mem} (hl0 : 0 ≤ l0 ∧ l0 < 4) (h : Pa_isJoinedTo l0 l1 σ Q) : AW p l e R s m args below meth c D ad tc A cs sl Qm 0 [some (.ref (ad (3, l0, 0))), some (.int (oI l1)), none] [] σ := by
  unfold Pa_isJoinedTo at h
  refine aw_iconst X dX3_isJoinedTo_0 ?_
  refine aw_istore_n X dX3_isJoinedTo_1 (Nat.le_of_ble_eq_true rfl) rfl ?_
  refine aw_als (als' := [some (.ref (ad (3, l0, 0))), some (.int (oI l1)), some (.int (oI 0))]) rfl ?_
  refine aw_weak (als' := [some (.ref (ad (3, l0, 0))), some (.int (oI l1)), some (.int (oI 0))]) ⟨rfl, rfl, rfl, trivial⟩ ?_
  obtain ⟨n0, h⟩ := h
  exact m_Pa_isJoinedTo_2 X hR hret n0 _ _ _ _ hl0 h
theorem s_Pa_isJoinedTo (l : Launch) (D : va_G) (ad : Ky → Nat) (tc : Tc) (hi : adI ad) {l0 : Int} {l1 : Int} (hl0 : 0 ≤ l0 ∧ l0 < 4) {σ : Mem} {Q : Int → Mem → Prop} (h : Pa_isJoinedTo l0 l1 σ Q) : CtI l D ad tc yX3_isJoinedTo cX3_isJoinedTo 3 (some .boolean) { frames := 0, cells := 0, slots := 0, locals := 0 } [.ref (ad (3, l0, 0)), .int (oI l1)] σ Q := CtI.mkz (by decide +kernel) hi (Nat.le_of_ble_eq_true rfl) rfl (fun p e s m args below meth c A Qm X hR hret => m_Pa_isJoinedTo_0 X hR hret hl0 h)

set_option maxHeartbeats 4000000 in
set_option maxRecDepth 100000 in
theorem m_Pa_knowsLocal_17 {p : Program} {l : Launch} {e : Env} {R : Room} {s : State} {m : MethodId} {args : Array Value} {below : List Frame} {meth : Method} {c : Code} {D : va_G} {ad : Ky → Nat} {tc : Tc} {A : Nat → Prop} {cs sl : Nat} {Qm : State → Prop} (X : Cx p s m args c cX3_knowsLocal RX3 2 D ad tc A) (hR : RmOK R cs sl 0 0) {Q : Int → Mem → Prop} (hret : RtZ p l e R s m args below meth c D ad tc A cs sl Qm cX3_knowsLocal Q) {s0 : Int} {σ : Mem} (h : Pa_knowsLocal_17 Q s0 σ) : AW p l e R s m args below meth c D ad tc A cs sl Qm 17 [none, none] [.int (oI s0)] σ := by
  unfold Pa_knowsLocal_17 at h
  exact hret 17 _ _ _ dX3_knowsLocal_17 h.1 h.2

set_option maxHeartbeats 4000000 in
set_option maxRecDepth 100000 in
theorem m_Pa_knowsLocal_16 {p : Program} {l : Launch} {e : Env} {R : Room} {s : State} {m : MethodId} {args : Array Value} {below : List Frame} {meth : Method} {c : Code} {D : va_G} {ad : Ky → Nat} {tc : Tc} {A : Nat → Prop} {cs sl : Nat} {Qm : State → Prop} (X : Cx p s m args c cX3_knowsLocal RX3 2 D ad tc A) (hR : RmOK R cs sl 0 0) {Q : Int → Mem → Prop} (hret : RtZ p l e R s m args below meth c D ad tc A cs sl Qm cX3_knowsLocal Q) {σ : Mem} (h : Pa_knowsLocal_16 Q σ) : AW p l e R s m args below meth c D ad tc A cs sl Qm 16 [none, none] [] σ := by
  unfold Pa_knowsLocal_16 at h
  refine aw_iconst X dX3_knowsLocal_16 ?_
  refine aw_weak (als' := [none, none]) trivial ?_
  exact m_Pa_knowsLocal_17 X hR hret h

set_option maxHeartbeats 4000000 in
set_option maxRecDepth 100000 in
theorem m_Pa_knowsLocal_0 {p : Program} {l : Launch} {e : Env} {R : Room} {s : State} {m : MethodId} {args : Array Value} {below : List Frame} {meth : Method} {c : Code} {D : va_G} {ad : Ky → Nat} {tc : Tc} {A : Nat → Prop} {cs sl : Nat} {Qm : State → Prop} (X : Cx p s m args c cX3_knowsLocal RX3 2 D ad tc A) (hR : RmOK R cs sl 0 0) {Q : Int → Mem → Prop} (hret : RtZ p l e R s m args below meth c D ad tc A cs sl Qm cX3_knowsLocal Q) {l0 : Int} {l1 : Int} {σ : Mem} (hl0 : 0 ≤ l0 ∧ l0 < 4) (h : Pa_knowsLocal l0 l1 σ Q) : AW p l e R s m args below meth c D ad tc A cs sl Qm 0 [some (.ref (ad (3, l0, 0))), some (.int (oI l1))] [] σ := by
  unfold Pa_knowsLocal at h
  refine aw_iload_n X dX3_knowsLocal_0 rfl ?_
  obtain ⟨g1, h⟩ := h
  refine aw_if_lt X dX3_knowsLocal_1 (tgt := 16) (by decide) g1 (fun hc => ?_) (fun hc => ?_)
  · replace h := h.1 hc
    refine aw_weak (als' := [none, none]) trivial ?_
    exact m_Pa_knowsLocal_16 X hR hret h
  · replace h := h.2 hc
    refine aw_iload_n X dX3_knowsLocal_4 rfl ?_
    refine aw_aload_n X dX3_knowsLocal_5 rfl ?_
    refine aw_get X (ob_3 hl0) fl_X3_61 rfl dX3_knowsLocal_6 ?_
    obtain ⟨g2, h⟩ := h
    obtain ⟨g3, h⟩ := h
    refine aw_icmp_ge X dX3_knowsLocal_9 (tgt := 16) (by decide) g2 g3 (fun hc => ?_) (fun hc => ?_)
    · replace h := h.1 hc
      refine aw_weak (als' := [none, none]) trivial ?_
      exact m_Pa_knowsLocal_16 X hR hret h
    · replace h := h.2 hc
      refine aw_iconst X dX3_knowsLocal_12 ?_
      refine aw_goto X dX3_knowsLocal_13 (tgt := 17) (by decide) ?_
      refine aw_weak (als' := [none, none]) trivial ?_
      exact m_Pa_knowsLocal_17 X hR hret h
theorem s_Pa_knowsLocal (l : Launch) (D : va_G) (ad : Ky → Nat) (tc : Tc) (hi : adI ad) {l0 : Int} {l1 : Int} (hl0 : 0 ≤ l0 ∧ l0 < 4) {σ : Mem} {Q : Int → Mem → Prop} (h : Pa_knowsLocal l0 l1 σ Q) : CtI l D ad tc yX3_knowsLocal cX3_knowsLocal 2 (some .boolean) { frames := 0, cells := 0, slots := 0, locals := 0 } [.ref (ad (3, l0, 0)), .int (oI l1)] σ Q := CtI.mkz (by decide +kernel) hi (Nat.le_of_ble_eq_true rfl) rfl (fun p e s m args below meth c A Qm X hR hret => m_Pa_knowsLocal_0 X hR hret hl0 h)

set_option maxHeartbeats 4000000 in
set_option maxRecDepth 100000 in
theorem m_Pa_joinTo_55 {p : Program} {l : Launch} {e : Env} {R : Room} {s : State} {m : MethodId} {args : Array Value} {below : List Frame} {meth : Method} {c : Code} {D : va_G} {ad : Ky → Nat} {tc : Tc} {A : Nat → Prop} {cs sl : Nat} {Qm : State → Prop} (X : Cx p s m args c cX3_joinTo RX3 4 D ad tc A) (hR : RmOK R cs sl 0 0) {Q : Mem → Prop} (hret : RtV p l e R s m args below meth c D ad tc A cs sl Qm cX3_joinTo Q) {l0 : Int} {l1 : Int} {l2 : Int} {l3 : Int} {σ : Mem} (hl0 : 0 ≤ l0 ∧ l0 < 4) (h : Pa_joinTo_55 Q l0 l1 l2 l3 σ) : AW p l e R s m args below meth c D ad tc A cs sl Qm 55 [some (.ref (ad (3, l0, 0))), some (.int (oI l1)), some (.int (oI l2)), some (.int (oI l3))] [] σ := by
  unfold Pa_joinTo_55 at h
  refine aw_aload_n X dX3_joinTo_55 rfl ?_
  refine aw_get X (ob_3 hl0) fl_X3_9 rfl dX3_joinTo_56 ?_
  refine aw_iload_n X dX3_joinTo_59 rfl ?_
  refine aw_iload_n X dX3_joinTo_60 rfl ?_
  obtain ⟨g1a, g1b, h⟩ := h
  refine aw_iast X (ar_3_1 hl0) g1a g1b dX3_joinTo_61 ?_
  obtain ⟨σ1, eσ1⟩ : ∃ z : Mem, z = up σ 3 l0 1 l3 l1 := ⟨_, rfl⟩
  replace h := h σ1 eσ1
  refine aw_mem eσ1 ?_
  refine aw_aload_n X dX3_joinTo_62 rfl ?_
  refine aw_get X (ob_3 hl0) fl_X3_15 rfl dX3_joinTo_63 ?_
  refine aw_iload_n X dX3_joinTo_66 rfl ?_
  refine aw_iload_n X dX3_joinTo_67 rfl ?_
  obtain ⟨g2a, g2b, h⟩ := h
  refine aw_iast X (ar_3_2 hl0) g2a g2b dX3_joinTo_68 ?_
  obtain ⟨σ2, eσ2⟩ : ∃ z : Mem, z = up σ1 3 l0 2 l3 l2 := ⟨_, rfl⟩
  replace h := h σ2 eσ2
  refine aw_mem eσ2 ?_
  refine aw_aload_n X dX3_joinTo_69 rfl ?_
  refine aw_dup X dX3_joinTo_70 rfl ?_
  refine aw_get X (ob_3 hl0) fl_X3_57 rfl dX3_joinTo_71 ?_
  refine aw_iconst X dX3_joinTo_74 ?_
  refine aw_iadd X dX3_joinTo_75 ?_
  refine aw_put X (ob_3 hl0) fl_X3_57 (sf_3_0 ad) rfl rfl dX3_joinTo_76 ?_
  obtain ⟨σ3, eσ3⟩ : ∃ z : Mem, z = up σ2 3 l0 0 0 ((σ2 3 l0 0 0) + 1) := ⟨_, rfl⟩
  replace h := h σ3 eσ3
  refine aw_mem eσ3 ?_
  exact hret 79 _ _ dX3_joinTo_79 h

set_option maxHeartbeats 4000000 in
set_option maxRecDepth 100000 in
theorem m_Pa_joinTo_5 {p : Program} {l : Launch} {e : Env} {R : Room} {s : State} {m : MethodId} {args : Array Value} {below : List Frame} {meth : Method} {c : Code} {D : va_G} {ad : Ky → Nat} {tc : Tc} {A : Nat → Prop} {cs sl : Nat} {Qm : State → Prop} (X : Cx p s m args c cX3_joinTo RX3 4 D ad tc A) (hR : RmOK R cs sl 0 0) {Q : Mem → Prop} (hret : RtV p l e R s m args below meth c D ad tc A cs sl Qm cX3_joinTo Q) : ∀ (n : Nat) (l0 : Int) (l1 : Int) (l2 : Int) (l3 : Int) (σ : Mem) (_ : 0 ≤ l0 ∧ l0 < 4), Pa_joinTo_5 Q n l0 l1 l2 l3 σ → AW p l e R s m args below meth c D ad tc A cs sl Qm 5 [some (.ref (ad (3, l0, 0))), some (.int (oI l1)), some (.int (oI l2)), some (.int (oI l3))] [] σ := by
  intro n
  induction n with
  | zero =>
    intro l0 l1 l2 l3 σ hl0 h
    exact False.elim h
  | succ n ih =>
    intro l0 l1 l2 l3 σ hl0 h
    unfold Pa_joinTo_5 at h
    refine aw_iload_n X dX3_joinTo_5 rfl ?_
    obtain ⟨g1, h⟩ := h
    refine aw_if_le X dX3_joinTo_6 (tgt := 55) (by decide) g1 (fun hc => ?_) (fun hc => ?_)
    · replace h := h.1 hc
      refine aw_weak (als' := [some (.ref (ad (3, l0, 0))), some (.int (oI l1)), some (.int (oI l2)), some (.int (oI l3))]) ⟨rfl, rfl, rfl, rfl, trivial⟩ ?_
      exact m_Pa_joinTo_55 X hR hret hl0 h
    · replace h := h.2 hc
      refine aw_aload_n X dX3_joinTo_9 rfl ?_
      refine aw_get X (ob_3 hl0) fl_X3_9 rfl dX3_joinTo_10 ?_
      refine aw_iload_n X dX3_joinTo_13 rfl ?_
      refine aw_iconst X dX3_joinTo_14 ?_
      refine aw_isub X dX3_joinTo_15 ?_
      obtain ⟨g2a, g2b, h⟩ := h
      refine aw_iald X (ar_3_1 hl0) g2a g2b dX3_joinTo_16 ?_
      refine aw_iload_n X dX3_joinTo_17 rfl ?_
      obtain ⟨g3, h⟩ := h
      obtain ⟨g4, h⟩ := h
      refine aw_icmp_le X dX3_joinTo_18 (tgt := 55) (by decide) g3 g4 (fun hc => ?_) (fun hc => ?_)
      · replace h := h.1 hc
        refine aw_weak (als' := [some (.ref (ad (3, l0, 0))), some (.int (oI l1)), some (.int (oI l2)), some (.int (oI l3))]) ⟨rfl, rfl, rfl, rfl, trivial⟩ ?_
        exact m_Pa_joinTo_55 X hR hret hl0 h
      · replace h := h.2 hc
        refine aw_aload_n X dX3_joinTo_21 rfl ?_
        refine aw_get X (ob_3 hl0) fl_X3_9 rfl dX3_joinTo_22 ?_
        refine aw_iload_n X dX3_joinTo_25 rfl ?_
        refine aw_aload_n X dX3_joinTo_26 rfl ?_
        refine aw_get X (ob_3 hl0) fl_X3_9 rfl dX3_joinTo_27 ?_
        refine aw_iload_n X dX3_joinTo_30 rfl ?_
        refine aw_iconst X dX3_joinTo_31 ?_
        refine aw_isub X dX3_joinTo_32 ?_
        obtain ⟨g5a, g5b, h⟩ := h
        refine aw_iald X (ar_3_1 hl0) g5a g5b dX3_joinTo_33 ?_
        obtain ⟨g6a, g6b, h⟩ := h
        refine aw_iast X (ar_3_1 hl0) g6a g6b dX3_joinTo_34 ?_
        obtain ⟨σ6, eσ6⟩ : ∃ z : Mem, z = up σ 3 l0 1 l3 (σ 3 l0 1 (l3 - 1)) := ⟨_, rfl⟩
        replace h := h σ6 eσ6
        refine aw_mem eσ6 ?_
        refine aw_aload_n X dX3_joinTo_35 rfl ?_
        refine aw_get X (ob_3 hl0) fl_X3_15 rfl dX3_joinTo_36 ?_
        refine aw_iload_n X dX3_joinTo_39 rfl ?_
        refine aw_aload_n X dX3_joinTo_40 rfl ?_
        refine aw_get X (ob_3 hl0) fl_X3_15 rfl dX3_joinTo_41 ?_
        refine aw_iload_n X dX3_joinTo_44 rfl ?_
        refine aw_iconst X dX3_joinTo_45 ?_
        refine aw_isub X dX3_joinTo_46 ?_
        obtain ⟨g7a, g7b, h⟩ := h
        refine aw_iald X (ar_3_2 hl0) g7a g7b dX3_joinTo_47 ?_
        obtain ⟨g8a, g8b, h⟩ := h
        refine aw_iast X (ar_3_2 hl0) g8a g8b dX3_joinTo_48 ?_
        obtain ⟨σ8, eσ8⟩ : ∃ z : Mem, z = up σ6 3 l0 2 l3 (σ6 3 l0 2 (l3 - 1)) := ⟨_, rfl⟩
        replace h := h σ8 eσ8
        refine aw_mem eσ8 ?_
        refine aw_iinc X dX3_joinTo_49 rfl rfl ?_
        obtain ⟨x9, ex9⟩ : ∃ z : Int, z = (l3 + (-1)) := ⟨_, rfl⟩
        replace h := h x9 ex9
        refine aw_als (als' := [some (.ref (ad (3, l0, 0))), some (.int (oI l1)), some (.int (oI l2)), some (.int (oI x9))]) (by subst ex9; rfl) ?_
        refine aw_goto X dX3_joinTo_52 (tgt := 5) (by decide) ?_
        refine aw_weak (als' := [some (.ref (ad (3, l0, 0))), some (.int (oI l1)), some (.int (oI l2)), some (.int (oI x9))]) ⟨rfl, rfl, rfl, rfl, trivial⟩ ?_
        exact ih _ _ _ _ _ hl0 h

set_option maxHeartbeats 4000000 in
set_option maxRecDepth 100000 in
theorem m_Pa_joinTo_0 {p : Program} {l : Launch} {e : Env} {R : Room} {s : State} {m : MethodId} {args : Array Value} {below : List Frame} {meth : Method} {c : Code} {D : va_G} {ad : Ky → Nat} {tc : Tc} {A : Nat → Prop} {cs sl : Nat} {Qm : State → Prop} (X : Cx p s m args c cX3_joinTo RX3 4 D ad tc A) (hR : RmOK R cs sl 0 0) {Q : Mem → Prop} (hret : RtV p l e R s m args below meth c D ad tc A cs sl Qm cX3_joinTo Q) {l0 : Int} {l1 : Int} {l2 : Int} {σ : Mem} (hl0 : 0 ≤ l0 ∧ l0 < 4) (h : Pa_joinTo l0 l1 l2 σ Q) : AW p l e R s m args below meth c D ad tc A cs sl Qm 0 [some (.ref (ad (3, l0, 0))), some (.int (oI l1)), some (.int (oI l2)), none] [] σ := by
  unfold Pa_joinTo at h
  refine aw_aload_n X dX3_joinTo_0 rfl ?_
  refine aw_get X (ob_3 hl0) fl_X3_57 rfl dX3_joinTo_1 ?_
  refine aw_istore_n X dX3_joinTo_4 (Nat.le_of_ble_eq_true rfl) rfl ?_
  obtain ⟨x1, ex1⟩ : ∃ z : Int, z = (σ 3 l0 0 0) := ⟨_, rfl⟩
  replace h := h x1 ex1
  refine aw_als (als' := [some (.ref (ad (3, l0, 0))), some (.int (oI l1)), some (.int (oI l2)), some (.int (oI x1))]) (by subst ex1; rfl) ?_
  refine aw_weak (als' := [some (.ref (ad (3, l0, 0))), some (.int (oI l1)), some (.int (oI l2)), some (.int (oI x1))]) ⟨rfl, rfl, rfl, rfl, trivial⟩ ?_
  obtain ⟨n0, h⟩ := h
  exact m_Pa_joinTo_5 X hR hret n0 _ _ _ _ _ hl0 h
theorem s_Pa_joinTo (l : Launch) (D : va_G) (ad : Ky → Nat) (tc : Tc) (hi : adI ad) {l0 : Int} {l1 : Int} {l2 : Int} (hl0 : 0 ≤ l0 ∧ l0 < 4) {σ : Mem} {Q : Mem → Prop} (h : Pa_joinTo l0 l1 l2 σ Q) : CtV l D ad tc yX3_joinTo cX3_joinTo 4 none { frames := 0, cells := 0, slots := 0, locals := 0 } [.ref (ad (3, l0, 0)), .int (oI l1), .int (oI l2)] σ Q := CtV.mk (by decide +kernel) hi (Nat.le_of_ble_eq_true rfl) rfl (fun p e s m args below meth c A Qm X hR hret => m_Pa_joinTo_0 X hR hret hl0 h)

set_option maxHeartbeats 4000000 in
set_option maxRecDepth 100000 in
theorem m_Pa_settledAt_24 {p : Program} {l : Launch} {e : Env} {R : Room} {s : State} {m : MethodId} {args : Array Value} {below : List Frame} {meth : Method} {c : Code} {D : va_G} {ad : Ky → Nat} {tc : Tc} {A : Nat → Prop} {cs sl : Nat} {Qm : State → Prop} (X : Cx p s m args c cX3_settledAt RX3 1 D ad tc A) (hR : RmOK R cs sl 0 0) {Q : Int → Mem → Prop} (hret : RtI p l e R s m args below meth c D ad tc A cs sl Qm cX3_settledAt Q) {s0 : Int} {σ : Mem} (h : Pa_settledAt_24 Q s0 σ) : AW p l e R s m args below meth c D ad tc A cs sl Qm 24 [none] [.int (oI s0)] σ := by
  unfold Pa_settledAt_24 at h
  exact hret 24 _ _ _ dX3_settledAt_24 h

set_option maxHeartbeats 4000000 in
set_option maxRecDepth 100000 in
theorem m_Pa_settledAt_0 {p : Program} {l : Launch} {e : Env} {R : Room} {s : State} {m : MethodId} {args : Array Value} {below : List Frame} {meth : Method} {c : Code} {D : va_G} {ad : Ky → Nat} {tc : Tc} {A : Nat → Prop} {cs sl : Nat} {Qm : State → Prop} (X : Cx p s m args c cX3_settledAt RX3 1 D ad tc A) (hR : RmOK R cs sl 0 0) {Q : Int → Mem → Prop} (hret : RtI p l e R s m args below meth c D ad tc A cs sl Qm cX3_settledAt Q) {l0 : Int} {σ : Mem} (hl0 : 0 ≤ l0 ∧ l0 < 4) (h : Pa_settledAt l0 σ Q) : AW p l e R s m args below meth c D ad tc A cs sl Qm 0 [some (.ref (ad (3, l0, 0)))] [] σ := by
  unfold Pa_settledAt at h
  refine aw_aload_n X dX3_settledAt_0 rfl ?_
  refine aw_get X (ob_3 hl0) fl_X3_57 rfl dX3_settledAt_1 ?_
  obtain ⟨g1, h⟩ := h
  refine aw_if_ne X dX3_settledAt_4 (tgt := 11) (by decide) g1 (fun hc => ?_) (fun hc => ?_)
  · replace h := h.1 hc
    refine aw_aload_n X dX3_settledAt_11 rfl ?_
    refine aw_get X (ob_3 hl0) fl_X3_9 rfl dX3_settledAt_12 ?_
    refine aw_aload_n X dX3_settledAt_15 rfl ?_
    refine aw_get X (ob_3 hl0) fl_X3_57 rfl dX3_settledAt_16 ?_
    refine aw_iconst X dX3_settledAt_19 ?_
    refine aw_isub X dX3_settledAt_20 ?_
    obtain ⟨g2a, g2b, h⟩ := h
    refine aw_iald X (ar_3_1 hl0) g2a g2b dX3_settledAt_21 ?_
    refine aw_iconst X dX3_settledAt_22 ?_
    refine aw_iadd X dX3_settledAt_23 ?_
    refine aw_weak (als' := [none]) trivial ?_
    exact m_Pa_settledAt_24 X hR hret h
  · replace h := h.2 hc
    refine aw_iconst X dX3_settledAt_7 ?_
    refine aw_goto X dX3_settledAt_8 (tgt := 24) (by decide) ?_
    refine aw_weak (als' := [none]) trivial ?_
    exact m_Pa_settledAt_24 X hR hret h
theorem s_Pa_settledAt (l : Launch) (D : va_G) (ad : Ky → Nat) (tc : Tc) (hi : adI ad) {l0 : Int} (hl0 : 0 ≤ l0 ∧ l0 < 4) {σ : Mem} {Q : Int → Mem → Prop} (h : Pa_settledAt l0 σ Q) : CtI l D ad tc yX3_settledAt cX3_settledAt 1 (some .int) { frames := 0, cells := 0, slots := 0, locals := 0 } [.ref (ad (3, l0, 0))] σ Q := CtI.mk (by decide +kernel) hi (Nat.le_of_ble_eq_true rfl) rfl (fun p e s m args below meth c A Qm X hR hret => m_Pa_settledAt_0 X hR hret hl0 h)

set_option maxHeartbeats 4000000 in
set_option maxRecDepth 100000 in
theorem m_Pa_spotOf_4 {p : Program} {l : Launch} {e : Env} {R : Room} {s : State} {m : MethodId} {args : Array Value} {below : List Frame} {meth : Method} {c : Code} {D : va_G} {ad : Ky → Nat} {tc : Tc} {A : Nat → Prop} {cs sl : Nat} {Qm : State → Prop} (X : Cx p s m args c cX3_spotOf RX3 4 D ad tc A) (hR : RmOK R cs sl 0 0) {Q : Int → Mem → Prop} (hret : RtI p l e R s m args below meth c D ad tc A cs sl Qm cX3_spotOf Q) : ∀ (n : Nat) (l0 : Int) (l1c : Nat) (l1p : Int) (l1k : Nat) (l2 : Int) (l3 : Int) (σ : Mem) (_ : 0 ≤ l0 ∧ l0 < 4) (_ : Arr l1c l1p l1k 6), Pa_spotOf_4 Q n l0 l1c l1p l1k l2 l3 σ → AW p l e R s m args below meth c D ad tc A cs sl Qm 4 [some (.ref (ad (3, l0, 0))), some (.ref (ad (l1c, l1p, l1k + 1))), some (.int (oI l2)), some (.int (oI l3))] [] σ := by
  intro n
  induction n with
  | zero =>
    intro l0 l1c l1p l1k l2 l3 σ hl0 hl1 h
    exact False.elim h
  | succ n ih =>
    intro l0 l1c l1p l1k l2 l3 σ hl0 hl1 h
    unfold Pa_spotOf_4 at h
    refine aw_iload_n X dX3_spotOf_4 rfl ?_
    refine aw_aload_n X dX3_spotOf_5 rfl ?_
    refine aw_get X (ob_3 hl0) fl_X3_57 rfl dX3_spotOf_6 ?_
    obtain ⟨g1, h⟩ := h
    obtain ⟨g2, h⟩ := h
    refine aw_icmp_ge X dX3_spotOf_9 (tgt := 33) (by decide) g1 g2 (fun hc => ?_) (fun hc => ?_)
    · replace h := h.1 hc
      refine aw_iload_n X dX3_spotOf_33 rfl ?_
      exact hret 34 _ _ _ dX3_spotOf_34 h
    · replace h := h.2 hc
      refine aw_iload_n X dX3_spotOf_12 rfl ?_
      refine aw_aload_n X dX3_spotOf_13 rfl ?_
      refine aw_aload_n X dX3_spotOf_14 rfl ?_
      refine aw_get X (ob_3 hl0) fl_X3_9 rfl dX3_spotOf_15 ?_
      refine aw_iload_n X dX3_spotOf_18 rfl ?_
      obtain ⟨g3a, g3b, h⟩ := h
      refine aw_iald X (ar_3_1 hl0) g3a g3b dX3_spotOf_19 ?_
      obtain ⟨g4a, g4b, h⟩ := h
      refine aw_iald X hl1 g4a g4b dX3_spotOf_20 ?_
      refine aw_iload_n X dX3_spotOf_21 rfl ?_
      refine aw_iconst X dX3_spotOf_22 ?_
      refine aw_imul X dX3_spotOf_23 ?_
      refine aw_ishl X dX3_spotOf_24 ?_
      refine aw_ior X dX3_spotOf_25 ?_
      refine aw_istore_n X dX3_spotOf_26 (Nat.le_of_ble_eq_true rfl) rfl ?_
      obtain ⟨x5, ex5⟩ : ∃ z : Int, z = (iOr l2 (iShl (σ l1c l1p l1k (σ 3 l0 1 l3)) (l3 * 2))) := ⟨_, rfl⟩
      replace h := h x5 ex5
      refine aw_als (als' := [some (.ref (ad (3, l0, 0))), some (.ref (ad (l1c, l1p, l1k + 1))), some (.int (oI x5)), some (.int (oI l3))]) (by subst ex5; rfl) ?_
      refine aw_iinc X dX3_spotOf_27 rfl rfl ?_
      obtain ⟨x6, ex6⟩ : ∃ z : Int, z = (l3 + 1) := ⟨_, rfl⟩
      replace h := h x6 ex6
      refine aw_als (als' := [some (.ref (ad (3, l0, 0))), some (.ref (ad (l1c, l1p, l1k + 1))), some (.int (oI x5)), some (.int (oI x6))]) (by subst ex6; rfl) ?_
      refine aw_goto X dX3_spotOf_30 (tgt := 4) (by decide) ?_
      refine aw_weak (als' := [some (.ref (ad (3, l0, 0))), some (.ref (ad (l1c, l1p, l1k + 1))), some (.int (oI x5)), some (.int (oI x6))]) ⟨rfl, rfl, rfl, rfl, trivial⟩ ?_
      exact ih _ _ _ _ _ _ _ hl0 hl1 h

set_option maxHeartbeats 4000000 in
set_option maxRecDepth 100000 in
theorem m_Pa_spotOf_0 {p : Program} {l : Launch} {e : Env} {R : Room} {s : State} {m : MethodId} {args : Array Value} {below : List Frame} {meth : Method} {c : Code} {D : va_G} {ad : Ky → Nat} {tc : Tc} {A : Nat → Prop} {cs sl : Nat} {Qm : State → Prop} (X : Cx p s m args c cX3_spotOf RX3 4 D ad tc A) (hR : RmOK R cs sl 0 0) {Q : Int → Mem → Prop} (hret : RtI p l e R s m args below meth c D ad tc A cs sl Qm cX3_spotOf Q) {l0 : Int} {l1c : Nat} {l1p : Int} {l1k : Nat} {σ : Mem} (hl0 : 0 ≤ l0 ∧ l0 < 4) (hl1 : Arr l1c l1p l1k 6) (h : Pa_spotOf l0 l1c l1p l1k σ Q) : AW p l e R s m args below meth c D ad tc A cs sl Qm 0 [some (.ref (ad (3, l0, 0))), some (.ref (ad (l1c, l1p, l1k + 1))), none, none] [] σ := by
  unfold Pa_spotOf at h
  refine aw_iconst X dX3_spotOf_0 ?_
  refine aw_istore_n X dX3_spotOf_1 (Nat.le_of_ble_eq_true rfl) rfl ?_
  refine aw_als (als' := [some (.ref (ad (3, l0, 0))), some (.ref (ad (l1c, l1p, l1k + 1))), some (.int (oI 0)), none]) rfl ?_
  refine aw_iconst X dX3_spotOf_2 ?_
  refine aw_istore_n X dX3_spotOf_3 (Nat.le_of_ble_eq_true rfl) rfl ?_
  refine aw_als (als' := [some (.ref (ad (3, l0, 0))), some (.ref (ad (l1c, l1p, l1k + 1))), some (.int (oI 0)), some (.int (oI 0))]) rfl ?_
  refine aw_weak (als' := [some (.ref (ad (3, l0, 0))), some (.ref (ad (l1c, l1p, l1k + 1))), some (.int (oI 0)), some (.int (oI 0))]) ⟨rfl, rfl, rfl, rfl, trivial⟩ ?_
  obtain ⟨n0, h⟩ := h
  exact m_Pa_spotOf_4 X hR hret n0 _ _ _ _ _ _ _ hl0 hl1 h
theorem s_Pa_spotOf (l : Launch) (D : va_G) (ad : Ky → Nat) (tc : Tc) (hi : adI ad) {l0 : Int} {l1c : Nat} {l1p : Int} {l1k : Nat} (hl0 : 0 ≤ l0 ∧ l0 < 4) (hl1 : Arr l1c l1p l1k 6) {σ : Mem} {Q : Int → Mem → Prop} (h : Pa_spotOf l0 l1c l1p l1k σ Q) : CtI l D ad tc yX3_spotOf cX3_spotOf 4 (some .int) { frames := 0, cells := 0, slots := 0, locals := 0 } [.ref (ad (3, l0, 0)), .ref (ad (l1c, l1p, l1k + 1))] σ Q := CtI.mk (by decide +kernel) hi (Nat.le_of_ble_eq_true rfl) rfl (fun p e s m args below meth c A Qm X hR hret => m_Pa_spotOf_0 X hR hret hl0 hl1 h)

set_option maxHeartbeats 4000000 in
set_option maxRecDepth 100000 in
theorem m_Pa_clearLastUsed_37 {p : Program} {l : Launch} {e : Env} {R : Room} {s : State} {m : MethodId} {args : Array Value} {below : List Frame} {meth : Method} {c : Code} {D : va_G} {ad : Ky → Nat} {tc : Tc} {A : Nat → Prop} {cs sl : Nat} {Qm : State → Prop} (X : Cx p s m args c cX3_clearLastUsed RX3 2 D ad tc A) (hR : RmOK R cs sl 0 0) {Q : Int → Mem → Prop} (hret : RtI p l e R s m args below meth c D ad tc A cs sl Qm cX3_clearLastUsed Q) {l1 : Int} {σ : Mem} (h : Pa_clearLastUsed_37 Q l1 σ) : AW p l e R s m args below meth c D ad tc A cs sl Qm 37 [none, some (.int (oI l1))] [] σ := by
  unfold Pa_clearLastUsed_37 at h
  refine aw_iload_n X dX3_clearLastUsed_37 rfl ?_
  exact hret 38 _ _ _ dX3_clearLastUsed_38 h

set_option maxHeartbeats 4000000 in
set_option maxRecDepth 100000 in
theorem m_Pa_clearLastUsed_26 {p : Program} {l : Launch} {e : Env} {R : Room} {s : State} {m : MethodId} {args : Array Value} {below : List Frame} {meth : Method} {c : Code} {D : va_G} {ad : Ky → Nat} {tc : Tc} {A : Nat → Prop} {cs sl : Nat} {Qm : State → Prop} (X : Cx p s m args c cX3_clearLastUsed RX3 2 D ad tc A) (hR : RmOK R cs sl 0 0) {Q : Int → Mem → Prop} (hret : RtI p l e R s m args below meth c D ad tc A cs sl Qm cX3_clearLastUsed Q) {l0 : Int} {l1 : Int} {σ : Mem} (hl0 : 0 ≤ l0 ∧ l0 < 4) (h : Pa_clearLastUsed_26 Q l0 l1 σ) : AW p l e R s m args below meth c D ad tc A cs sl Qm 26 [some (.ref (ad (3, l0, 0))), some (.int (oI l1))] [] σ := by
  unfold Pa_clearLastUsed_26 at h
  refine aw_iload_n X dX3_clearLastUsed_26 rfl ?_
  obtain ⟨g1, h⟩ := h
  refine aw_if_lt X dX3_clearLastUsed_27 (tgt := 37) (by decide) g1 (fun hc => ?_) (fun hc => ?_)
  · replace h := h.1 hc
    refine aw_weak (als' := [none, some (.int (oI l1))]) ⟨rfl, trivial⟩ ?_
    exact m_Pa_clearLastUsed_37 X hR hret h
  · replace h := h.2 hc
    refine aw_aload_n X dX3_clearLastUsed_30 rfl ?_
    refine aw_get X (ob_3 hl0) fl_X3_42 rfl dX3_clearLastUsed_31 ?_
    refine aw_iload_n X dX3_clearLastUsed_34 rfl ?_
    refine aw_iconst X dX3_clearLastUsed_35 ?_
    obtain ⟨g2a, g2b, h⟩ := h
    refine aw_iast X (ar_3_13 hl0) g2a g2b dX3_clearLastUsed_36 ?_
    obtain ⟨σ2, eσ2⟩ : ∃ z : Mem, z = up σ 3 l0 13 l1 0 := ⟨_, rfl⟩
    replace h := h σ2 eσ2
    refine aw_mem eσ2 ?_
    refine aw_weak (als' := [none, some (.int (oI l1))]) ⟨rfl, trivial⟩ ?_
    exact m_Pa_clearLastUsed_37 X hR hret h

set_option maxHeartbeats 4000000 in
set_option maxRecDepth 100000 in
theorem m_Pa_clearLastUsed_7 {p : Program} {l : Launch} {e : Env} {R : Room} {s : State} {m : MethodId} {args : Array Value} {below : List Frame} {meth : Method} {c : Code} {D : va_G} {ad : Ky → Nat} {tc : Tc} {A : Nat → Prop} {cs sl : Nat} {Qm : State → Prop} (X : Cx p s m args c cX3_clearLastUsed RX3 2 D ad tc A) (hR : RmOK R cs sl 0 0) {Q : Int → Mem → Prop} (hret : RtI p l e R s m args below meth c D ad tc A cs sl Qm cX3_clearLastUsed Q) : ∀ (n : Nat) (l0 : Int) (l1 : Int) (σ : Mem) (_ : 0 ≤ l0 ∧ l0 < 4), Pa_clearLastUsed_7 Q n l0 l1 σ → AW p l e R s m args below meth c D ad tc A cs sl Qm 7 [some (.ref (ad (3, l0, 0))), some (.int (oI l1))] [] σ := by
  intro n
  induction n with
  | zero =>
    intro l0 l1 σ hl0 h
    exact False.elim h
  | succ n ih =>
    intro l0 l1 σ hl0 h
    unfold Pa_clearLastUsed_7 at h
    refine aw_iload_n X dX3_clearLastUsed_7 rfl ?_
    obtain ⟨g1, h⟩ := h
    refine aw_if_le X dX3_clearLastUsed_8 (tgt := 26) (by decide) g1 (fun hc => ?_) (fun hc => ?_)
    · replace h := h.1 hc
      refine aw_weak (als' := [some (.ref (ad (3, l0, 0))), some (.int (oI l1))]) ⟨rfl, rfl, trivial⟩ ?_
      exact m_Pa_clearLastUsed_26 X hR hret hl0 h
    · replace h := h.2 hc
      refine aw_aload_n X dX3_clearLastUsed_11 rfl ?_
      refine aw_get X (ob_3 hl0) fl_X3_42 rfl dX3_clearLastUsed_12 ?_
      refine aw_iload_n X dX3_clearLastUsed_15 rfl ?_
      obtain ⟨g2a, g2b, h⟩ := h
      refine aw_iald X (ar_3_13 hl0) g2a g2b dX3_clearLastUsed_16 ?_
      obtain ⟨g3, h⟩ := h
      refine aw_if_ne X dX3_clearLastUsed_17 (tgt := 26) (by decide) g3 (fun hc => ?_) (fun hc => ?_)
      · replace h := h.1 hc
        refine aw_weak (als' := [some (.ref (ad (3, l0, 0))), some (.int (oI l1))]) ⟨rfl, rfl, trivial⟩ ?_
        exact m_Pa_clearLastUsed_26 X hR hret hl0 h
      · replace h := h.2 hc
        refine aw_iinc X dX3_clearLastUsed_20 rfl rfl ?_
        obtain ⟨x4, ex4⟩ : ∃ z : Int, z = (l1 + (-1)) := ⟨_, rfl⟩
        replace h := h x4 ex4
        refine aw_als (als' := [some (.ref (ad (3, l0, 0))), some (.int (oI x4))]) (by subst ex4; rfl) ?_
        refine aw_goto X dX3_clearLastUsed_23 (tgt := 7) (by decide) ?_
        refine aw_weak (als' := [some (.ref (ad (3, l0, 0))), some (.int (oI x4))]) ⟨rfl, rfl, trivial⟩ ?_
        exact ih _ _ _ hl0 h

set_option maxHeartbeats 4000000 in
set_option maxRecDepth 100000 in
theorem m_Pa_clearLastUsed_0 {p : Program} {l : Launch} {e : Env} {R : Room} {s : State} {m : MethodId} {args : Array Value} {below : List Frame} {meth : Method} {c : Code} {D : va_G} {ad : Ky → Nat} {tc : Tc} {A : Nat → Prop} {cs sl : Nat} {Qm : State → Prop} (X : Cx p s m args c cX3_clearLastUsed RX3 2 D ad tc A) (hR : RmOK R cs sl 0 0) {Q : Int → Mem → Prop} (hret : RtI p l e R s m args below meth c D ad tc A cs sl Qm cX3_clearLastUsed Q) {l0 : Int} {σ : Mem} (hl0 : 0 ≤ l0 ∧ l0 < 4) (h : Pa_clearLastUsed l0 σ Q) : AW p l e R s m args below meth c D ad tc A cs sl Qm 0 [some (.ref (ad (3, l0, 0))), none] [] σ := by
  unfold Pa_clearLastUsed at h
  refine aw_aload_n X dX3_clearLastUsed_0 rfl ?_
  refine aw_get X (ob_3 hl0) fl_X3_61 rfl dX3_clearLastUsed_1 ?_
  refine aw_iconst X dX3_clearLastUsed_4 ?_
  refine aw_isub X dX3_clearLastUsed_5 ?_
  refine aw_istore_n X dX3_clearLastUsed_6 (Nat.le_of_ble_eq_true rfl) rfl ?_
  obtain ⟨x1, ex1⟩ : ∃ z : Int, z = ((σ 3 l0 3 0) - 1) := ⟨_, rfl⟩
  replace h := h x1 ex1
  refine aw_als (als' := [some (.ref (ad (3, l0, 0))), some (.int (oI x1))]) (by subst ex1; rfl) ?_
  refine aw_weak (als' := [some (.ref (ad (3, l0, 0))), some (.int (oI x1))]) ⟨rfl, rfl, trivial⟩ ?_
  obtain ⟨n0, h⟩ := h
  exact m_Pa_clearLastUsed_7 X hR hret n0 _ _ _ hl0 h
theorem s_Pa_clearLastUsed (l : Launch) (D : va_G) (ad : Ky → Nat) (tc : Tc) (hi : adI ad) {l0 : Int} (hl0 : 0 ≤ l0 ∧ l0 < 4) {σ : Mem} {Q : Int → Mem → Prop} (h : Pa_clearLastUsed l0 σ Q) : CtI l D ad tc yX3_clearLastUsed cX3_clearLastUsed 2 (some .int) { frames := 0, cells := 0, slots := 0, locals := 0 } [.ref (ad (3, l0, 0))] σ Q := CtI.mk (by decide +kernel) hi (Nat.le_of_ble_eq_true rfl) rfl (fun p e s m args below meth c A Qm X hR hret => m_Pa_clearLastUsed_0 X hR hret hl0 h)

set_option maxHeartbeats 4000000 in
set_option maxRecDepth 100000 in
theorem m_Pa_measureRooms_33 {p : Program} {l : Launch} {e : Env} {R : Room} {s : State} {m : MethodId} {args : Array Value} {below : List Frame} {meth : Method} {c : Code} {D : va_G} {ad : Ky → Nat} {tc : Tc} {A : Nat → Prop} {cs sl : Nat} {Qm : State → Prop} (X : Cx p s m args c cX3_measureRooms RX3 7 D ad tc A) (hR : RmOK R cs sl 0 0) {Q : Mem → Prop} (hret : RtV p l e R s m args below meth c D ad tc A cs sl Qm cX3_measureRooms Q) {k2 : Int → Int → Int → Int → Mem → Prop} (hk2 : ∀ (l0 : Int) (l1 : Int) (l2 : Int) (l3 : Int) (σ : Mem) (_ : 0 ≤ l0 ∧ l0 < 4), k2 l0 l1 l2 l3 σ → AW p l e R s m args below meth c D ad tc A cs sl Qm 2 [some (.ref (ad (3, l0, 0))), some (.int (oI l1)), some (.int (oI l2)), some (.int (oI l3)), none, none, none] [] σ) : ∀ (n : Nat) (l0 : Int) (l1 : Int) (l2 : Int) (l3 : Int) (l4 : Int) (l5 : Int) (σ : Mem) (_ : 0 ≤ l0 ∧ l0 < 4), Pa_measureRooms_33 k2 Q n l0 l1 l2 l3 l4 l5 σ → AW p l e R s m args below meth c D ad tc A cs sl Qm 33 [some (.ref (ad (3, l0, 0))), some (.int (oI l1)), some (.int (oI l2)), some (.int (oI l3)), some (.int (oI l4)), some (.int (oI l5)), none] [] σ := by
  intro n
  induction n with
  | zero =>
    intro l0 l1 l2 l3 l4 l5 σ hl0 h
    exact False.elim h
  | succ n ih =>
    intro l0 l1 l2 l3 l4 l5 σ hl0 h
    unfold Pa_measureRooms_33 at h
    refine aw_iload X dX3_measureRooms_33 rfl ?_
    refine aw_aload_n X dX3_measureRooms_35 rfl ?_
    refine aw_get X (ob_3 hl0) fl_X3_57 rfl dX3_measureRooms_36 ?_
    obtain ⟨g1, h⟩ := h
    obtain ⟨g2, h⟩ := h
    refine aw_icmp_ge X dX3_measureRooms_39 (tgt := 85) (by decide) g1 g2 (fun hc => ?_) (fun hc => ?_)
    · replace h := h.1 hc
      refine aw_aload_n X dX3_measureRooms_85 rfl ?_
      refine aw_get X (ob_3 hl0) fl_X3_39 rfl dX3_measureRooms_86 ?_
      refine aw_iload_n X dX3_measureRooms_89 rfl ?_
      refine aw_iload X dX3_measureRooms_90 rfl ?_
      obtain ⟨g3a, g3b, h⟩ := h
      refine aw_iast X (ar_3_12 hl0) g3a g3b dX3_measureRooms_92 ?_
      obtain ⟨σ3, eσ3⟩ : ∃ z : Mem, z = up σ 3 l0 12 l3 l4 := ⟨_, rfl⟩
      replace h := h σ3 eσ3
      refine aw_mem eσ3 ?_
      refine aw_iinc X dX3_measureRooms_93 rfl rfl ?_
      obtain ⟨x4, ex4⟩ : ∃ z : Int, z = (l3 + 1) := ⟨_, rfl⟩
      replace h := h x4 ex4
      refine aw_als (als' := [some (.ref (ad (3, l0, 0))), some (.int (oI l1)), some (.int (oI l2)), some (.int (oI x4)), some (.int (oI l4)), some (.int (oI l5)), none]) (by subst ex4; rfl) ?_
      refine aw_goto X dX3_measureRooms_96 (tgt := 2) (by decide) ?_
      refine aw_weak (als' := [some (.ref (ad (3, l0, 0))), some (.int (oI l1)), some (.int (oI l2)), some (.int (oI x4)), none, none, none]) ⟨rfl, rfl, rfl, rfl, trivial⟩ ?_
      exact hk2 _ _ _ _ _ hl0 h
    · replace h := h.2 hc
      refine aw_iload_n X dX3_measureRooms_42 rfl ?_
      refine aw_iload X dX3_measureRooms_43 rfl ?_
      refine aw_iconst X dX3_measureRooms_45 ?_
      refine aw_imul X dX3_measureRooms_46 ?_
      refine aw_ishr X dX3_measureRooms_47 ?_
      refine aw_iconst X dX3_measureRooms_48 ?_
      refine aw_iand X dX3_measureRooms_49 ?_
      refine aw_istore X dX3_measureRooms_50 (Nat.le_of_ble_eq_true rfl) rfl ?_
      obtain ⟨x5, ex5⟩ : ∃ z : Int, z = (iAnd (iShr l1 (l5 * 2)) 3) := ⟨_, rfl⟩
      replace h := h x5 ex5
      refine aw_als (als' := [some (.ref (ad (3, l0, 0))), some (.int (oI l1)), some (.int (oI l2)), some (.int (oI l3)), some (.int (oI l4)), some (.int (oI l5)), some (.int (oI x5))]) (by subst ex5; rfl) ?_
      refine aw_iload X dX3_measureRooms_52 rfl ?_
      refine aw_aload_n X dX3_measureRooms_54 rfl ?_
      refine aw_get X (ob_3 hl0) fl_X3_27 rfl dX3_measureRooms_55 ?_
      refine aw_iload_n X dX3_measureRooms_58 rfl ?_
      refine aw_bipush X dX3_measureRooms_59 rfl ?_
      refine aw_imul X dX3_measureRooms_61 ?_
      refine aw_iconst X dX3_measureRooms_62 ?_
      refine aw_iadd X dX3_measureRooms_63 ?_
      refine aw_aload_n X dX3_measureRooms_64 rfl ?_
      refine aw_get X (ob_3 hl0) fl_X3_9 rfl dX3_measureRooms_65 ?_
      refine aw_iload X dX3_measureRooms_68 rfl ?_
      obtain ⟨g6a, g6b, h⟩ := h
      refine aw_iald X (ar_3_1 hl0) g6a g6b dX3_measureRooms_70 ?_
      refine aw_iadd X dX3_measureRooms_71 ?_
      obtain ⟨g7a, g7b, h⟩ := h
      refine aw_iald X (ar_3_8 hl0) g7a g7b dX3_measureRooms_72 ?_
      refine aw_iload X dX3_measureRooms_73 rfl ?_
      refine aw_imul X dX3_measureRooms_75 ?_
      refine aw_isub X dX3_measureRooms_76 ?_
      refine aw_istore X dX3_measureRooms_77 (Nat.le_of_ble_eq_true rfl) rfl ?_
      obtain ⟨x8, ex8⟩ : ∃ z : Int, z = (l4 - ((σ 3 l0 8 (((l3 * 10) + 4) + (σ 3 l0 1 l5))) * x5)) := ⟨_, rfl⟩
      replace h := h x8 ex8
      refine aw_als (als' := [some (.ref (ad (3, l0, 0))), some (.int (oI l1)), some (.int (oI l2)), some (.int (oI l3)), some (.int (oI x8)), some (.int (oI l5)), some (.int (oI x5))]) (by subst ex8; rfl) ?_
      refine aw_iinc X dX3_measureRooms_79 rfl rfl ?_
      obtain ⟨x9, ex9⟩ : ∃ z : Int, z = (l5 + 1) := ⟨_, rfl⟩
      replace h := h x9 ex9
      refine aw_als (als' := [some (.ref (ad (3, l0, 0))), some (.int (oI l1)), some (.int (oI l2)), some (.int (oI l3)), some (.int (oI x8)), some (.int (oI x9)), some (.int (oI x5))]) (by subst ex9; rfl) ?_
      refine aw_goto X dX3_measureRooms_82 (tgt := 33) (by decide) ?_
      refine aw_weak (als' := [some (.ref (ad (3, l0, 0))), some (.int (oI l1)), some (.int (oI l2)), some (.int (oI l3)), some (.int (oI x8)), some (.int (oI x9)), none]) ⟨rfl, rfl, rfl, rfl, rfl, rfl, trivial⟩ ?_
      exact ih _ _ _ _ _ _ _ hl0 h

set_option maxHeartbeats 4000000 in
set_option maxRecDepth 100000 in
theorem m_Pa_measureRooms_2 {p : Program} {l : Launch} {e : Env} {R : Room} {s : State} {m : MethodId} {args : Array Value} {below : List Frame} {meth : Method} {c : Code} {D : va_G} {ad : Ky → Nat} {tc : Tc} {A : Nat → Prop} {cs sl : Nat} {Qm : State → Prop} (X : Cx p s m args c cX3_measureRooms RX3 7 D ad tc A) (hR : RmOK R cs sl 0 0) {Q : Mem → Prop} (hret : RtV p l e R s m args below meth c D ad tc A cs sl Qm cX3_measureRooms Q) : ∀ (n : Nat) (l0 : Int) (l1 : Int) (l2 : Int) (l3 : Int) (σ : Mem) (_ : 0 ≤ l0 ∧ l0 < 4), Pa_measureRooms_2 Q n l0 l1 l2 l3 σ → AW p l e R s m args below meth c D ad tc A cs sl Qm 2 [some (.ref (ad (3, l0, 0))), some (.int (oI l1)), some (.int (oI l2)), some (.int (oI l3)), none, none, none] [] σ := by
  intro n
  induction n with
  | zero =>
    intro l0 l1 l2 l3 σ hl0 h
    exact False.elim h
  | succ n ih =>
    intro l0 l1 l2 l3 σ hl0 h
    unfold Pa_measureRooms_2 at h
    refine aw_iload_n X dX3_measureRooms_2 rfl ?_
    refine aw_aload_n X dX3_measureRooms_3 rfl ?_
    refine aw_get X (ob_3 hl0) fl_X3_108 rfl dX3_measureRooms_4 ?_
    obtain ⟨g1, h⟩ := h
    obtain ⟨g2, h⟩ := h
    refine aw_icmp_ge X dX3_measureRooms_7 (tgt := 99) (by decide) g1 g2 (fun hc => ?_) (fun hc => ?_)
    · replace h := h.1 hc
      exact hret 99 _ _ dX3_measureRooms_99 h
    · replace h := h.2 hc
      refine aw_aload_n X dX3_measureRooms_10 rfl ?_
      refine aw_get X (ob_3 hl0) fl_X3_24 rfl dX3_measureRooms_11 ?_
      refine aw_iload_n X dX3_measureRooms_14 rfl ?_
      obtain ⟨g3a, g3b, h⟩ := h
      refine aw_iald X (ar_3_7 hl0) g3a g3b dX3_measureRooms_15 ?_
      refine aw_aload_n X dX3_measureRooms_16 rfl ?_
      refine aw_get X (ob_3 hl0) fl_X3_30 rfl dX3_measureRooms_17 ?_
      refine aw_iload_n X dX3_measureRooms_20 rfl ?_
      refine aw_bipush X dX3_measureRooms_21 rfl ?_
      refine aw_imul X dX3_measureRooms_23 ?_
      refine aw_iload_n X dX3_measureRooms_24 rfl ?_
      refine aw_iadd X dX3_measureRooms_25 ?_
      obtain ⟨g4a, g4b, h⟩ := h
      refine aw_iald X (ar_3_9 hl0) g4a g4b dX3_measureRooms_26 ?_
      refine aw_iadd X dX3_measureRooms_27 ?_
      refine aw_istore X dX3_measureRooms_28 (Nat.le_of_ble_eq_true rfl) rfl ?_
      obtain ⟨x5, ex5⟩ : ∃ z : Int, z = ((σ 3 l0 7 l3) + (σ 3 l0 9 ((l2 * 6) + l3))) := ⟨_, rfl⟩
      replace h := h x5 ex5
      refine aw_als (als' := [some (.ref (ad (3, l0, 0))), some (.int (oI l1)), some (.int (oI l2)), some (.int (oI l3)), some (.int (oI x5)), none, none]) (by subst ex5; rfl) ?_
      refine aw_iconst X dX3_measureRooms_30 ?_
      refine aw_istore X dX3_measureRooms_31 (Nat.le_of_ble_eq_true rfl) rfl ?_
      refine aw_als (als' := [some (.ref (ad (3, l0, 0))), some (.int (oI l1)), some (.int (oI l2)), some (.int (oI l3)), some (.int (oI x5)), some (.int (oI 0)), none]) rfl ?_
      refine aw_weak (als' := [some (.ref (ad (3, l0, 0))), some (.int (oI l1)), some (.int (oI l2)), some (.int (oI l3)), some (.int (oI x5)), some (.int (oI 0)), none]) ⟨rfl, rfl, rfl, rfl, rfl, rfl, trivial⟩ ?_
      obtain ⟨n0, h⟩ := h
      exact m_Pa_measureRooms_33 X hR hret ih n0 _ _ _ _ _ _ _ hl0 h

set_option maxHeartbeats 4000000 in
set_option maxRecDepth 100000 in
theorem m_Pa_measureRooms_0 {p : Program} {l : Launch} {e : Env} {R : Room} {s : State} {m : MethodId} {args : Array Value} {below : List Frame} {meth : Method} {c : Code} {D : va_G} {ad : Ky → Nat} {tc : Tc} {A : Nat → Prop} {cs sl : Nat} {Qm : State → Prop} (X : Cx p s m args c cX3_measureRooms RX3 7 D ad tc A) (hR : RmOK R cs sl 0 0) {Q : Mem → Prop} (hret : RtV p l e R s m args below meth c D ad tc A cs sl Qm cX3_measureRooms Q) {l0 : Int} {l1 : Int} {l2 : Int} {σ : Mem} (hl0 : 0 ≤ l0 ∧ l0 < 4) (h : Pa_measureRooms l0 l1 l2 σ Q) : AW p l e R s m args below meth c D ad tc A cs sl Qm 0 [some (.ref (ad (3, l0, 0))), some (.int (oI l1)), some (.int (oI l2)), none, none, none, none] [] σ := by
  unfold Pa_measureRooms at h
  refine aw_iconst X dX3_measureRooms_0 ?_
  refine aw_istore_n X dX3_measureRooms_1 (Nat.le_of_ble_eq_true rfl) rfl ?_
  refine aw_als (als' := [some (.ref (ad (3, l0, 0))), some (.int (oI l1)), some (.int (oI l2)), some (.int (oI 0)), none, none, none]) rfl ?_
  refine aw_weak (als' := [some (.ref (ad (3, l0, 0))), some (.int (oI l1)), some (.int (oI l2)), some (.int (oI 0)), none, none, none]) ⟨rfl, rfl, rfl, rfl, trivial⟩ ?_
  obtain ⟨n0, h⟩ := h
  exact m_Pa_measureRooms_2 X hR hret n0 _ _ _ _ _ hl0 h
theorem s_Pa_measureRooms (l : Launch) (D : va_G) (ad : Ky → Nat) (tc : Tc) (hi : adI ad) {l0 : Int} {l1 : Int} {l2 : Int} (hl0 : 0 ≤ l0 ∧ l0 < 4) {σ : Mem} {Q : Mem → Prop} (h : Pa_measureRooms l0 l1 l2 σ Q) : CtV l D ad tc yX3_measureRooms cX3_measureRooms 7 none { frames := 0, cells := 0, slots := 0, locals := 0 } [.ref (ad (3, l0, 0)), .int (oI l1), .int (oI l2)] σ Q := CtV.mk (by decide +kernel) hi (Nat.le_of_ble_eq_true rfl) rfl (fun p e s m args below meth c A Qm X hR hret => m_Pa_measureRooms_0 X hR hret hl0 h)

set_option maxHeartbeats 4000000 in
set_option maxRecDepth 100000 in
theorem m_Pa_priceOfUnits_4 {p : Program} {l : Launch} {e : Env} {R : Room} {s : State} {m : MethodId} {args : Array Value} {below : List Frame} {meth : Method} {c : Code} {D : va_G} {ad : Ky → Nat} {tc : Tc} {A : Nat → Prop} {cs sl : Nat} {Qm : State → Prop} (X : Cx p s m args c cX3_priceOfUnits RX3 3 D ad tc A) (hR : RmOK R cs sl 0 0) {Q : Int → Mem → Prop} (hret : RtI p l e R s m args below meth c D ad tc A cs sl Qm cX3_priceOfUnits Q) : ∀ (n : Nat) (l0 : Int) (l1 : Int) (l2 : Int) (σ : Mem) (_ : 0 ≤ l0 ∧ l0 < 4), Pa_priceOfUnits_4 Q n l0 l1 l2 σ → AW p l e R s m args below meth c D ad tc A cs sl Qm 4 [some (.ref (ad (3, l0, 0))), some (.int (oI l1)), some (.int (oI l2))] [] σ := by
  intro n
  induction n with
  | zero =>
    intro l0 l1 l2 σ hl0 h
    exact False.elim h
  | succ n ih =>
    intro l0 l1 l2 σ hl0 h
    unfold Pa_priceOfUnits_4 at h
    refine aw_iload_n X dX3_priceOfUnits_4 rfl ?_
    refine aw_aload_n X dX3_priceOfUnits_5 rfl ?_
    refine aw_get X (ob_3 hl0) fl_X3_61 rfl dX3_priceOfUnits_6 ?_
    obtain ⟨g1, h⟩ := h
    obtain ⟨g2, h⟩ := h
    refine aw_icmp_ge X dX3_priceOfUnits_9 (tgt := 34) (by decide) g1 g2 (fun hc => ?_) (fun hc => ?_)
    · replace h := h.1 hc
      refine aw_iload_n X dX3_priceOfUnits_34 rfl ?_
      exact hret 35 _ _ _ dX3_priceOfUnits_35 h
    · replace h := h.2 hc
      refine aw_iload_n X dX3_priceOfUnits_12 rfl ?_
      refine aw_aload_n X dX3_priceOfUnits_13 rfl ?_
      refine aw_get X (ob_3 hl0) fl_X3_42 rfl dX3_priceOfUnits_14 ?_
      refine aw_iload_n X dX3_priceOfUnits_17 rfl ?_
      obtain ⟨g3a, g3b, h⟩ := h
      refine aw_iald X (ar_3_13 hl0) g3a g3b dX3_priceOfUnits_18 ?_
      refine aw_aload_n X dX3_priceOfUnits_19 rfl ?_
      refine aw_get X (ob_3 hl0) fl_X3_21 rfl dX3_priceOfUnits_20 ?_
      refine aw_iload_n X dX3_priceOfUnits_23 rfl ?_
      obtain ⟨g4a, g4b, h⟩ := h
      refine aw_iald X (ar_3_5 hl0) g4a g4b dX3_priceOfUnits_24 ?_
      refine aw_imul X dX3_priceOfUnits_25 ?_
      refine aw_iadd X dX3_priceOfUnits_26 ?_
      refine aw_istore_n X dX3_priceOfUnits_27 (Nat.le_of_ble_eq_true rfl) rfl ?_
      obtain ⟨x5, ex5⟩ : ∃ z : Int, z = (l1 + ((σ 3 l0 13 l2) * (σ 3 l0 5 l2))) := ⟨_, rfl⟩
      replace h := h x5 ex5
      refine aw_als (als' := [some (.ref (ad (3, l0, 0))), some (.int (oI x5)), some (.int (oI l2))]) (by subst ex5; rfl) ?_
      refine aw_iinc X dX3_priceOfUnits_28 rfl rfl ?_
      obtain ⟨x6, ex6⟩ : ∃ z : Int, z = (l2 + 1) := ⟨_, rfl⟩
      replace h := h x6 ex6
      refine aw_als (als' := [some (.ref (ad (3, l0, 0))), some (.int (oI x5)), some (.int (oI x6))]) (by subst ex6; rfl) ?_
      refine aw_goto X dX3_priceOfUnits_31 (tgt := 4) (by decide) ?_
      refine aw_weak (als' := [some (.ref (ad (3, l0, 0))), some (.int (oI x5)), some (.int (oI x6))]) ⟨rfl, rfl, rfl, trivial⟩ ?_
      exact ih _ _ _ _ hl0 h

set_option maxHeartbeats 4000000 in
set_option maxRecDepth 100000 in
theorem m_Pa_priceOfUnits_0 {p : Program} {l : Launch} {e : Env} {R : Room} {s : State} {m : MethodId} {args : Array Value} {below : List Frame} {meth : Method} {c : Code} {D : va_G} {ad : Ky → Nat} {tc : Tc} {A : Nat → Prop} {cs sl : Nat} {Qm : State → Prop} (X : Cx p s m args c cX3_priceOfUnits RX3 3 D ad tc A) (hR : RmOK R cs sl 0 0) {Q : Int → Mem → Prop} (hret : RtI p l e R s m args below meth c D ad tc A cs sl Qm cX3_priceOfUnits Q) {l0 : Int} {σ : Mem} (hl0 : 0 ≤ l0 ∧ l0 < 4) (h : Pa_priceOfUnits l0 σ Q) : AW p l e R s m args below meth c D ad tc A cs sl Qm 0 [some (.ref (ad (3, l0, 0))), none, none] [] σ := by
  unfold Pa_priceOfUnits at h
  refine aw_iconst X dX3_priceOfUnits_0 ?_
  refine aw_istore_n X dX3_priceOfUnits_1 (Nat.le_of_ble_eq_true rfl) rfl ?_
  refine aw_als (als' := [some (.ref (ad (3, l0, 0))), some (.int (oI 0)), none]) rfl ?_
  refine aw_iconst X dX3_priceOfUnits_2 ?_
  refine aw_istore_n X dX3_priceOfUnits_3 (Nat.le_of_ble_eq_true rfl) rfl ?_
  refine aw_als (als' := [some (.ref (ad (3, l0, 0))), some (.int (oI 0)), some (.int (oI 0))]) rfl ?_
  refine aw_weak (als' := [some (.ref (ad (3, l0, 0))), some (.int (oI 0)), some (.int (oI 0))]) ⟨rfl, rfl, rfl, trivial⟩ ?_
  obtain ⟨n0, h⟩ := h
  exact m_Pa_priceOfUnits_4 X hR hret n0 _ _ _ _ hl0 h
theorem s_Pa_priceOfUnits (l : Launch) (D : va_G) (ad : Ky → Nat) (tc : Tc) (hi : adI ad) {l0 : Int} (hl0 : 0 ≤ l0 ∧ l0 < 4) {σ : Mem} {Q : Int → Mem → Prop} (h : Pa_priceOfUnits l0 σ Q) : CtI l D ad tc yX3_priceOfUnits cX3_priceOfUnits 3 (some .int) { frames := 0, cells := 0, slots := 0, locals := 0 } [.ref (ad (3, l0, 0))] σ Q := CtI.mk (by decide +kernel) hi (Nat.le_of_ble_eq_true rfl) rfl (fun p e s m args below meth c A Qm X hR hret => m_Pa_priceOfUnits_0 X hR hret hl0 h)

set_option maxHeartbeats 4000000 in
set_option maxRecDepth 100000 in
theorem m_Pa_raiseFrom_2 {p : Program} {l : Launch} {e : Env} {R : Room} {s : State} {m : MethodId} {args : Array Value} {below : List Frame} {meth : Method} {c : Code} {D : va_G} {ad : Ky → Nat} {tc : Tc} {A : Nat → Prop} {cs sl : Nat} {Qm : State → Prop} (X : Cx p s m args c cX3_raiseFrom RX3 3 D ad tc A) (hR : RmOK R cs sl 0 0) {Q : Int → Mem → Prop} (hret : RtZ p l e R s m args below meth c D ad tc A cs sl Qm cX3_raiseFrom Q) : ∀ (n : Nat) (l0 : Int) (l2 : Int) (σ : Mem) (_ : 0 ≤ l0 ∧ l0 < 4), Pa_raiseFrom_2 Q n l0 l2 σ → AW p l e R s m args below meth c D ad tc A cs sl Qm 2 [some (.ref (ad (3, l0, 0))), none, some (.int (oI l2))] [] σ := by
  intro n
  induction n with
  | zero =>
    intro l0 l2 σ hl0 h
    exact False.elim h
  | succ n ih =>
    intro l0 l2 σ hl0 h
    unfold Pa_raiseFrom_2 at h
    refine aw_iload_n X dX3_raiseFrom_2 rfl ?_
    obtain ⟨g1, h⟩ := h
    refine aw_if_lt X dX3_raiseFrom_3 (tgt := 46) (by decide) g1 (fun hc => ?_) (fun hc => ?_)
    · replace h := h.1 hc
      refine aw_iconst X dX3_raiseFrom_46 ?_
      exact hret 47 _ _ _ dX3_raiseFrom_47 (by decide) h
    · replace h := h.2 hc
      refine aw_aload_n X dX3_raiseFrom_6 rfl ?_
      refine aw_get X (ob_3 hl0) fl_X3_42 rfl dX3_raiseFrom_7 ?_
      refine aw_iload_n X dX3_raiseFrom_10 rfl ?_
      obtain ⟨g2a, g2b, h⟩ := h
      refine aw_iald X (ar_3_13 hl0) g2a g2b dX3_raiseFrom_11 ?_
      refine aw_aload_n X dX3_raiseFrom_12 rfl ?_
      refine aw_get X (ob_3 hl0) fl_X3_18 rfl dX3_raiseFrom_13 ?_
      refine aw_iload_n X dX3_raiseFrom_16 rfl ?_
      obtain ⟨g3a, g3b, h⟩ := h
      refine aw_iald X (ar_3_4 hl0) g3a g3b dX3_raiseFrom_17 ?_
      obtain ⟨g4, h⟩ := h
      obtain ⟨g5, h⟩ := h
      refine aw_icmp_ge X dX3_raiseFrom_18 (tgt := 33) (by decide) g4 g5 (fun hc => ?_) (fun hc => ?_)
      · replace h := h.1 hc
        refine aw_aload_n X dX3_raiseFrom_33 rfl ?_
        refine aw_get X (ob_3 hl0) fl_X3_42 rfl dX3_raiseFrom_34 ?_
        refine aw_iload_n X dX3_raiseFrom_37 rfl ?_
        refine aw_iconst X dX3_raiseFrom_38 ?_
        obtain ⟨g6a, g6b, h⟩ := h
        refine aw_iast X (ar_3_13 hl0) g6a g6b dX3_raiseFrom_39 ?_
        obtain ⟨σ6, eσ6⟩ : ∃ z : Mem, z = up σ 3 l0 13 l2 0 := ⟨_, rfl⟩
        replace h := h σ6 eσ6
        refine aw_mem eσ6 ?_
        refine aw_iinc X dX3_raiseFrom_40 rfl rfl ?_
        obtain ⟨x7, ex7⟩ : ∃ z : Int, z = (l2 + (-1)) := ⟨_, rfl⟩
        replace h := h x7 ex7
        refine aw_als (als' := [some (.ref (ad (3, l0, 0))), none, some (.int (oI x7))]) (by subst ex7; rfl) ?_
        refine aw_goto X dX3_raiseFrom_43 (tgt := 2) (by decide) ?_
        refine aw_weak (als' := [some (.ref (ad (3, l0, 0))), none, some (.int (oI x7))]) ⟨rfl, rfl, trivial⟩ ?_
        exact ih _ _ _ hl0 h
      · replace h := h.2 hc
        refine aw_aload_n X dX3_raiseFrom_21 rfl ?_
        refine aw_get X (ob_3 hl0) fl_X3_42 rfl dX3_raiseFrom_22 ?_
        refine aw_iload_n X dX3_raiseFrom_25 rfl ?_
        refine aw_dup2 X dX3_raiseFrom_26 rfl rfl ?_
        obtain ⟨g8a, g8b, h⟩ := h
        refine aw_iald X (ar_3_13 hl0) g8a g8b dX3_raiseFrom_27 ?_
        refine aw_iconst X dX3_raiseFrom_28 ?_
        refine aw_iadd X dX3_raiseFrom_29 ?_
        obtain ⟨g9a, g9b, h⟩ := h
        refine aw_iast X (ar_3_13 hl0) g9a g9b dX3_raiseFrom_30 ?_
        obtain ⟨σ9, eσ9⟩ : ∃ z : Mem, z = up σ 3 l0 13 l2 ((σ 3 l0 13 l2) + 1) := ⟨_, rfl⟩
        replace h := h σ9 eσ9
        refine aw_mem eσ9 ?_
        refine aw_iconst X dX3_raiseFrom_31 ?_
        exact hret 32 _ _ _ dX3_raiseFrom_32 (by decide) h

set_option maxHeartbeats 4000000 in
set_option maxRecDepth 100000 in
theorem m_Pa_raiseFrom_0 {p : Program} {l : Launch} {e : Env} {R : Room} {s : State} {m : MethodId} {args : Array Value} {below : List Frame} {meth : Method} {c : Code} {D : va_G} {ad : Ky → Nat} {tc : Tc} {A : Nat → Prop} {cs sl : Nat} {Qm : State → Prop} (X : Cx p s m args c cX3_raiseFrom RX3 3 D ad tc A) (hR : RmOK R cs sl 0 0) {Q : Int → Mem → Prop} (hret : RtZ p l e R s m args below meth c D ad tc A cs sl Qm cX3_raiseFrom Q) {l0 : Int} {l1 : Int} {σ : Mem} (hl0 : 0 ≤ l0 ∧ l0 < 4) (h : Pa_raiseFrom l0 l1 σ Q) : AW p l e R s m args below meth c D ad tc A cs sl Qm 0 [some (.ref (ad (3, l0, 0))), some (.int (oI l1)), none] [] σ := by
  unfold Pa_raiseFrom at h
  refine aw_iload_n X dX3_raiseFrom_0 rfl ?_
  refine aw_istore_n X dX3_raiseFrom_1 (Nat.le_of_ble_eq_true rfl) rfl ?_
  refine aw_als (als' := [some (.ref (ad (3, l0, 0))), some (.int (oI l1)), some (.int (oI l1))]) rfl ?_
  refine aw_weak (als' := [some (.ref (ad (3, l0, 0))), none, some (.int (oI l1))]) ⟨rfl, rfl, trivial⟩ ?_
  obtain ⟨n0, h⟩ := h
  exact m_Pa_raiseFrom_2 X hR hret n0 _ _ _ hl0 h
theorem s_Pa_raiseFrom (l : Launch) (D : va_G) (ad : Ky → Nat) (tc : Tc) (hi : adI ad) {l0 : Int} {l1 : Int} (hl0 : 0 ≤ l0 ∧ l0 < 4) {σ : Mem} {Q : Int → Mem → Prop} (h : Pa_raiseFrom l0 l1 σ Q) : CtI l D ad tc yX3_raiseFrom cX3_raiseFrom 3 (some .boolean) { frames := 0, cells := 0, slots := 0, locals := 0 } [.ref (ad (3, l0, 0)), .int (oI l1)] σ Q := CtI.mkz (by decide +kernel) hi (Nat.le_of_ble_eq_true rfl) rfl (fun p e s m args below meth c A Qm X hR hret => m_Pa_raiseFrom_0 X hR hret hl0 h)

set_option maxHeartbeats 4000000 in
set_option maxRecDepth 100000 in
theorem m_Pa_rowsHold_14 {p : Program} {l : Launch} {e : Env} {R : Room} {s : State} {m : MethodId} {args : Array Value} {below : List Frame} {meth : Method} {c : Code} {D : va_G} {ad : Ky → Nat} {tc : Tc} {A : Nat → Prop} {cs sl : Nat} {Qm : State → Prop} (X : Cx p s m args c cX3_rowsHold RX3 4 D ad tc A) (hR : RmOK R cs sl 0 0) {Q : Int → Mem → Prop} (hret : RtZ p l e R s m args below meth c D ad tc A cs sl Qm cX3_rowsHold Q) {k2 : Int → Int → Mem → Prop} (hk2 : ∀ (l0 : Int) (l1 : Int) (σ : Mem) (_ : 0 ≤ l0 ∧ l0 < 4), k2 l0 l1 σ → AW p l e R s m args below meth c D ad tc A cs sl Qm 2 [some (.ref (ad (3, l0, 0))), some (.int (oI l1)), none, none] [] σ) : ∀ (n : Nat) (l0 : Int) (l1 : Int) (l2 : Int) (l3 : Int) (σ : Mem) (_ : 0 ≤ l0 ∧ l0 < 4), Pa_rowsHold_14 k2 Q n l0 l1 l2 l3 σ → AW p l e R s m args below meth c D ad tc A cs sl Qm 14 [some (.ref (ad (3, l0, 0))), some (.int (oI l1)), some (.int (oI l2)), some (.int (oI l3))] [] σ := by
  intro n
  induction n with
  | zero =>
    intro l0 l1 l2 l3 σ hl0 h
    exact False.elim h
  | succ n ih =>
    intro l0 l1 l2 l3 σ hl0 h
    unfold Pa_rowsHold_14 at h
    refine aw_iload_n X dX3_rowsHold_14 rfl ?_
    refine aw_aload_n X dX3_rowsHold_15 rfl ?_
    refine aw_get X (ob_3 hl0) fl_X3_61 rfl dX3_rowsHold_16 ?_
    obtain ⟨g1, h⟩ := h
    obtain ⟨g2, h⟩ := h
    refine aw_icmp_ge X dX3_rowsHold_19 (tgt := 49) (by decide) g1 g2 (fun hc => ?_) (fun hc => ?_)
    · replace h := h.1 hc
      refine aw_iload_n X dX3_rowsHold_49 rfl ?_
      refine aw_aload_n X dX3_rowsHold_50 rfl ?_
      refine aw_get X (ob_3 hl0) fl_X3_39 rfl dX3_rowsHold_51 ?_
      refine aw_iload_n X dX3_rowsHold_54 rfl ?_
      obtain ⟨g3a, g3b, h⟩ := h
      refine aw_iald X (ar_3_12 hl0) g3a g3b dX3_rowsHold_55 ?_
      obtain ⟨g4, h⟩ := h
      obtain ⟨g5, h⟩ := h
      refine aw_icmp_le X dX3_rowsHold_56 (tgt := 61) (by decide) g4 g5 (fun hc => ?_) (fun hc => ?_)
      · replace h := h.1 hc
        refine aw_iinc X dX3_rowsHold_61 rfl rfl ?_
        obtain ⟨x6, ex6⟩ : ∃ z : Int, z = (l1 + 1) := ⟨_, rfl⟩
        replace h := h x6 ex6
        refine aw_als (als' := [some (.ref (ad (3, l0, 0))), some (.int (oI x6)), some (.int (oI l2)), some (.int (oI l3))]) (by subst ex6; rfl) ?_
        refine aw_goto X dX3_rowsHold_64 (tgt := 2) (by decide) ?_
        refine aw_weak (als' := [some (.ref (ad (3, l0, 0))), some (.int (oI x6)), none, none]) ⟨rfl, rfl, trivial⟩ ?_
        exact hk2 _ _ _ hl0 h
      · replace h := h.2 hc
        refine aw_iconst X dX3_rowsHold_59 ?_
        exact hret 60 _ _ _ dX3_rowsHold_60 (by decide) h
    · replace h := h.2 hc
      refine aw_iload_n X dX3_rowsHold_22 rfl ?_
      refine aw_aload_n X dX3_rowsHold_23 rfl ?_
      refine aw_get X (ob_3 hl0) fl_X3_27 rfl dX3_rowsHold_24 ?_
      refine aw_iload_n X dX3_rowsHold_27 rfl ?_
      refine aw_bipush X dX3_rowsHold_28 rfl ?_
      refine aw_imul X dX3_rowsHold_30 ?_
      refine aw_iload_n X dX3_rowsHold_31 rfl ?_
      refine aw_iadd X dX3_rowsHold_32 ?_
      obtain ⟨g7a, g7b, h⟩ := h
      refine aw_iald X (ar_3_8 hl0) g7a g7b dX3_rowsHold_33 ?_
      refine aw_aload_n X dX3_rowsHold_34 rfl ?_
      refine aw_get X (ob_3 hl0) fl_X3_42 rfl dX3_rowsHold_35 ?_
      refine aw_iload_n X dX3_rowsHold_38 rfl ?_
      obtain ⟨g8a, g8b, h⟩ := h
      refine aw_iald X (ar_3_13 hl0) g8a g8b dX3_rowsHold_39 ?_
      refine aw_imul X dX3_rowsHold_40 ?_
      refine aw_iadd X dX3_rowsHold_41 ?_
      refine aw_istore_n X dX3_rowsHold_42 (Nat.le_of_ble_eq_true rfl) rfl ?_
      obtain ⟨x9, ex9⟩ : ∃ z : Int, z = (l2 + ((σ 3 l0 8 ((l1 * 10) + l3)) * (σ 3 l0 13 l3))) := ⟨_, rfl⟩
      replace h := h x9 ex9
      refine aw_als (als' := [some (.ref (ad (3, l0, 0))), some (.int (oI l1)), some (.int (oI x9)), some (.int (oI l3))]) (by subst ex9; rfl) ?_
      refine aw_iinc X dX3_rowsHold_43 rfl rfl ?_
      obtain ⟨x10, ex10⟩ : ∃ z : Int, z = (l3 + 1) := ⟨_, rfl⟩
      replace h := h x10 ex10
      refine aw_als (als' := [some (.ref (ad (3, l0, 0))), some (.int (oI l1)), some (.int (oI x9)), some (.int (oI x10))]) (by subst ex10; rfl) ?_
      refine aw_goto X dX3_rowsHold_46 (tgt := 14) (by decide) ?_
      refine aw_weak (als' := [some (.ref (ad (3, l0, 0))), some (.int (oI l1)), some (.int (oI x9)), some (.int (oI x10))]) ⟨rfl, rfl, rfl, rfl, trivial⟩ ?_
      exact ih _ _ _ _ _ hl0 h

set_option maxHeartbeats 4000000 in
set_option maxRecDepth 100000 in
theorem m_Pa_rowsHold_2 {p : Program} {l : Launch} {e : Env} {R : Room} {s : State} {m : MethodId} {args : Array Value} {below : List Frame} {meth : Method} {c : Code} {D : va_G} {ad : Ky → Nat} {tc : Tc} {A : Nat → Prop} {cs sl : Nat} {Qm : State → Prop} (X : Cx p s m args c cX3_rowsHold RX3 4 D ad tc A) (hR : RmOK R cs sl 0 0) {Q : Int → Mem → Prop} (hret : RtZ p l e R s m args below meth c D ad tc A cs sl Qm cX3_rowsHold Q) : ∀ (n : Nat) (l0 : Int) (l1 : Int) (σ : Mem) (_ : 0 ≤ l0 ∧ l0 < 4), Pa_rowsHold_2 Q n l0 l1 σ → AW p l e R s m args below meth c D ad tc A cs sl Qm 2 [some (.ref (ad (3, l0, 0))), some (.int (oI l1)), none, none] [] σ := by
  intro n
  induction n with
  | zero =>
    intro l0 l1 σ hl0 h
    exact False.elim h
  | succ n ih =>
    intro l0 l1 σ hl0 h
    unfold Pa_rowsHold_2 at h
    refine aw_iload_n X dX3_rowsHold_2 rfl ?_
    refine aw_aload_n X dX3_rowsHold_3 rfl ?_
    refine aw_get X (ob_3 hl0) fl_X3_108 rfl dX3_rowsHold_4 ?_
    obtain ⟨g1, h⟩ := h
    obtain ⟨g2, h⟩ := h
    refine aw_icmp_ge X dX3_rowsHold_7 (tgt := 67) (by decide) g1 g2 (fun hc => ?_) (fun hc => ?_)
    · replace h := h.1 hc
      refine aw_iconst X dX3_rowsHold_67 ?_
      exact hret 68 _ _ _ dX3_rowsHold_68 (by decide) h
    · replace h := h.2 hc
      refine aw_iconst X dX3_rowsHold_10 ?_
      refine aw_istore_n X dX3_rowsHold_11 (Nat.le_of_ble_eq_true rfl) rfl ?_
      refine aw_als (als' := [some (.ref (ad (3, l0, 0))), some (.int (oI l1)), some (.int (oI 0)), none]) rfl ?_
      refine aw_iconst X dX3_rowsHold_12 ?_
      refine aw_istore_n X dX3_rowsHold_13 (Nat.le_of_ble_eq_true rfl) rfl ?_
      refine aw_als (als' := [some (.ref (ad (3, l0, 0))), some (.int (oI l1)), some (.int (oI 0)), some (.int (oI 0))]) rfl ?_
      refine aw_weak (als' := [some (.ref (ad (3, l0, 0))), some (.int (oI l1)), some (.int (oI 0)), some (.int (oI 0))]) ⟨rfl, rfl, rfl, rfl, trivial⟩ ?_
      obtain ⟨n0, h⟩ := h
      exact m_Pa_rowsHold_14 X hR hret ih n0 _ _ _ _ _ hl0 h

set_option maxHeartbeats 4000000 in
set_option maxRecDepth 100000 in
theorem m_Pa_rowsHold_0 {p : Program} {l : Launch} {e : Env} {R : Room} {s : State} {m : MethodId} {args : Array Value} {below : List Frame} {meth : Method} {c : Code} {D : va_G} {ad : Ky → Nat} {tc : Tc} {A : Nat → Prop} {cs sl : Nat} {Qm : State → Prop} (X : Cx p s m args c cX3_rowsHold RX3 4 D ad tc A) (hR : RmOK R cs sl 0 0) {Q : Int → Mem → Prop} (hret : RtZ p l e R s m args below meth c D ad tc A cs sl Qm cX3_rowsHold Q) {l0 : Int} {σ : Mem} (hl0 : 0 ≤ l0 ∧ l0 < 4) (h : Pa_rowsHold l0 σ Q) : AW p l e R s m args below meth c D ad tc A cs sl Qm 0 [some (.ref (ad (3, l0, 0))), none, none, none] [] σ := by
  unfold Pa_rowsHold at h
  refine aw_iconst X dX3_rowsHold_0 ?_
  refine aw_istore_n X dX3_rowsHold_1 (Nat.le_of_ble_eq_true rfl) rfl ?_
  refine aw_als (als' := [some (.ref (ad (3, l0, 0))), some (.int (oI 0)), none, none]) rfl ?_
  refine aw_weak (als' := [some (.ref (ad (3, l0, 0))), some (.int (oI 0)), none, none]) ⟨rfl, rfl, trivial⟩ ?_
  obtain ⟨n0, h⟩ := h
  exact m_Pa_rowsHold_2 X hR hret n0 _ _ _ hl0 h
theorem s_Pa_rowsHold (l : Launch) (D : va_G) (ad : Ky → Nat) (tc : Tc) (hi : adI ad) {l0 : Int} (hl0 : 0 ≤ l0 ∧ l0 < 4) {σ : Mem} {Q : Int → Mem → Prop} (h : Pa_rowsHold l0 σ Q) : CtI l D ad tc yX3_rowsHold cX3_rowsHold 4 (some .boolean) { frames := 0, cells := 0, slots := 0, locals := 0 } [.ref (ad (3, l0, 0))] σ Q := CtI.mkz (by decide +kernel) hi (Nat.le_of_ble_eq_true rfl) rfl (fun p e s m args below meth c A Qm X hR hret => m_Pa_rowsHold_0 X hR hret hl0 h)

set_option maxHeartbeats 4000000 in
set_option maxRecDepth 100000 in
theorem m_Pa_solve_125 {p : Program} {l : Launch} {e : Env} {R : Room} {s : State} {m : MethodId} {args : Array Value} {below : List Frame} {meth : Method} {c : Code} {D : va_G} {ad : Ky → Nat} {tc : Tc} {A : Nat → Prop} {cs sl : Nat} {Qm : State → Prop} (X : Cx p s m args c cX3_solve RX3 8 D ad tc A) (hR : RmOK R cs sl 1 40) {Q : Int → Mem → Prop} (hret : RtI p l e R s m args below meth c D ad tc A cs sl Qm cX3_solve Q) {l3 : Int} {σ : Mem} (h : Pa_solve_125 Q l3 σ) : AW p l e R s m args below meth c D ad tc A cs sl Qm 125 [none, none, none, some (.int (oI l3)), none, none, none, none] [] σ := by
  unfold Pa_solve_125 at h
  refine aw_iload_n X dX3_solve_125 rfl ?_
  exact hret 126 _ _ _ dX3_solve_126 h

set_option maxHeartbeats 4000000 in
set_option maxRecDepth 100000 in
theorem m_Pa_solve_114 {p : Program} {l : Launch} {e : Env} {R : Room} {s : State} {m : MethodId} {args : Array Value} {below : List Frame} {meth : Method} {c : Code} {D : va_G} {ad : Ky → Nat} {tc : Tc} {A : Nat → Prop} {cs sl : Nat} {Qm : State → Prop} (X : Cx p s m args c cX3_solve RX3 8 D ad tc A) (hR : RmOK R cs sl 1 40) {Q : Int → Mem → Prop} (hret : RtI p l e R s m args below meth c D ad tc A cs sl Qm cX3_solve Q) {k23 : Int → Int → Int → Int → Mem → Prop} (hk23 : ∀ (l0 : Int) (l3 : Int) (l4 : Int) (l5 : Int) (σ : Mem) (_ : 0 ≤ l0 ∧ l0 < 4), k23 l0 l3 l4 l5 σ → AW p l e R s m args below meth c D ad tc A cs sl Qm 23 [some (.ref (ad (3, l0, 0))), none, none, some (.int (oI l3)), some (.int (oI l4)), some (.int (oI l5)), none, none] [] σ) {l0 : Int} {l3 : Int} {l5 : Int} {s0 : Int} {s1 : Int} {σ : Mem} (hl0 : 0 ≤ l0 ∧ l0 < 4) (hs0 : 0 ≤ s0 ∧ s0 < 4) (h : Pa_solve_114 k23 Q l0 l3 l5 s0 s1 σ) : AW p l e R s m args below meth c D ad tc A cs sl Qm 114 [some (.ref (ad (3, l0, 0))), none, none, some (.int (oI l3)), none, some (.int (oI l5)), none, none] [.int (oI s1), .ref (ad (3, s0, 0))] σ := by
  unfold Pa_solve_114 at h
  refine aw_callVI X hR (s_Pa_raiseFrom l D ad tc X.2.2.2.2.2.2.1 hs0 h) ml_X3_104 (ob_3 hs0) rfl (by decide) (by decide) rfl rfl rfl rfl (Nat.le_of_ble_eq_true rfl) rfl dX3_solve_114 (fun r1 σ1 h => ?_)
  refine aw_istore X dX3_solve_117 (Nat.le_of_ble_eq_true rfl) rfl ?_
  refine aw_als (als' := [some (.ref (ad (3, l0, 0))), none, none, some (.int (oI l3)), some (.int (oI r1)), some (.int (oI l5)), none, none]) rfl ?_
  refine aw_iinc X dX3_solve_119 rfl rfl ?_
  obtain ⟨x2, ex2⟩ : ∃ z : Int, z = (l5 + 1) := ⟨_, rfl⟩
  replace h := h x2 ex2
  refine aw_als (als' := [some (.ref (ad (3, l0, 0))), none, none, some (.int (oI l3)), some (.int (oI r1)), some (.int (oI x2)), none, none]) (by subst ex2; rfl) ?_
  refine aw_goto X dX3_solve_122 (tgt := 23) (by decide) ?_
  refine aw_weak (als' := [some (.ref (ad (3, l0, 0))), none, none, some (.int (oI l3)), some (.int (oI r1)), some (.int (oI x2)), none, none]) ⟨rfl, rfl, rfl, rfl, trivial⟩ ?_
  exact hk23 _ _ _ _ _ hl0 h

set_option maxHeartbeats 4000000 in
set_option maxRecDepth 100000 in
theorem m_Pa_solve_93 {p : Program} {l : Launch} {e : Env} {R : Room} {s : State} {m : MethodId} {args : Array Value} {below : List Frame} {meth : Method} {c : Code} {D : va_G} {ad : Ky → Nat} {tc : Tc} {A : Nat → Prop} {cs sl : Nat} {Qm : State → Prop} (X : Cx p s m args c cX3_solve RX3 8 D ad tc A) (hR : RmOK R cs sl 1 40) {Q : Int → Mem → Prop} (hret : RtI p l e R s m args below meth c D ad tc A cs sl Qm cX3_solve Q) {k23 : Int → Int → Int → Int → Mem → Prop} (hk23 : ∀ (l0 : Int) (l3 : Int) (l4 : Int) (l5 : Int) (σ : Mem) (_ : 0 ≤ l0 ∧ l0 < 4), k23 l0 l3 l4 l5 σ → AW p l e R s m args below meth c D ad tc A cs sl Qm 23 [some (.ref (ad (3, l0, 0))), none, none, some (.int (oI l3)), some (.int (oI l4)), some (.int (oI l5)), none, none] [] σ) {l0 : Int} {l3 : Int} {l5 : Int} {l7 : Int} {σ : Mem} (hl0 : 0 ≤ l0 ∧ l0 < 4) (h : Pa_solve_93 k23 Q l0 l3 l5 l7 σ) : AW p l e R s m args below meth c D ad tc A cs sl Qm 93 [some (.ref (ad (3, l0, 0))), none, none, some (.int (oI l3)), none, some (.int (oI l5)), none, some (.int (oI l7))] [] σ := by
  unfold Pa_solve_93 at h
  refine aw_aload_n X dX3_solve_93 rfl ?_
  refine aw_iload X dX3_solve_94 rfl ?_
  obtain ⟨g1, h⟩ := h
  refine aw_if_eq X dX3_solve_96 (tgt := 108) (by decide) g1 (fun hc => ?_) (fun hc => ?_)
  · replace h := h.1 hc
    refine aw_aload_n X dX3_solve_108 rfl ?_
    refine aw_get X (ob_3 hl0) fl_X3_61 rfl dX3_solve_109 ?_
    refine aw_iconst X dX3_solve_112 ?_
    refine aw_isub X dX3_solve_113 ?_
    refine aw_weak (als' := [some (.ref (ad (3, l0, 0))), none, none, some (.int (oI l3)), none, some (.int (oI l5)), none, none]) ⟨rfl, rfl, rfl, trivial⟩ ?_
    exact m_Pa_solve_114 X hR hret hk23 hl0 hl0 h
  · replace h := h.2 hc
    refine aw_aload_n X dX3_solve_99 rfl ?_
    refine aw_callVI X hR (s_Pa_clearLastUsed l D ad tc X.2.2.2.2.2.2.1 hl0 h) ml_X3_101 (ob_3 hl0) rfl (by decide) (by decide) rfl rfl rfl rfl (Nat.le_of_ble_eq_true rfl) rfl dX3_solve_100 (fun r2 σ2 h => ?_)
    refine aw_iconst X dX3_solve_103 ?_
    refine aw_isub X dX3_solve_104 ?_
    refine aw_goto X dX3_solve_105 (tgt := 114) (by decide) ?_
    refine aw_weak (als' := [some (.ref (ad (3, l0, 0))), none, none, some (.int (oI l3)), none, some (.int (oI l5)), none, none]) ⟨rfl, rfl, rfl, trivial⟩ ?_
    exact m_Pa_solve_114 X hR hret hk23 hl0 hl0 h

set_option maxHeartbeats 4000000 in
set_option maxRecDepth 100000 in
theorem m_Pa_solve_59 {p : Program} {l : Launch} {e : Env} {R : Room} {s : State} {m : MethodId} {args : Array Value} {below : List Frame} {meth : Method} {c : Code} {D : va_G} {ad : Ky → Nat} {tc : Tc} {A : Nat → Prop} {cs sl : Nat} {Qm : State → Prop} (X : Cx p s m args c cX3_solve RX3 8 D ad tc A) (hR : RmOK R cs sl 1 40) {Q : Int → Mem → Prop} (hret : RtI p l e R s m args below meth c D ad tc A cs sl Qm cX3_solve Q) {k23 : Int → Int → Int → Int → Mem → Prop} (hk23 : ∀ (l0 : Int) (l3 : Int) (l4 : Int) (l5 : Int) (σ : Mem) (_ : 0 ≤ l0 ∧ l0 < 4), k23 l0 l3 l4 l5 σ → AW p l e R s m args below meth c D ad tc A cs sl Qm 23 [some (.ref (ad (3, l0, 0))), none, none, some (.int (oI l3)), some (.int (oI l4)), some (.int (oI l5)), none, none] [] σ) {l0 : Int} {l3 : Int} {l5 : Int} {l6 : Int} {s0 : Int} {σ : Mem} (hl0 : 0 ≤ l0 ∧ l0 < 4) (h : Pa_solve_59 k23 Q l0 l3 l5 l6 s0 σ) : AW p l e R s m args below meth c D ad tc A cs sl Qm 59 [some (.ref (ad (3, l0, 0))), none, none, some (.int (oI l3)), none, some (.int (oI l5)), some (.int (oI l6)), none] [.int (oI s0)] σ := by
  unfold Pa_solve_59 at h
  refine aw_istore X dX3_solve_59 (Nat.le_of_ble_eq_true rfl) rfl ?_
  refine aw_als (als' := [some (.ref (ad (3, l0, 0))), none, none, some (.int (oI l3)), none, some (.int (oI l5)), some (.int (oI l6)), some (.int (oI s0))]) rfl ?_
  refine aw_iload X dX3_solve_61 rfl ?_
  obtain ⟨g1, h⟩ := h
  refine aw_if_ne X dX3_solve_63 (tgt := 93) (by decide) g1 (fun hc => ?_) (fun hc => ?_)
  · replace h := h.1 hc
    refine aw_weak (als' := [some (.ref (ad (3, l0, 0))), none, none, some (.int (oI l3)), none, some (.int (oI l5)), none, some (.int (oI s0))]) ⟨rfl, rfl, rfl, rfl, trivial⟩ ?_
    exact m_Pa_solve_93 X hR hret hk23 hl0 h
  · replace h := h.2 hc
    refine aw_aload_n X dX3_solve_66 rfl ?_
    refine aw_callVI X hR (s_Pa_rowsHold l D ad tc X.2.2.2.2.2.2.1 hl0 h) ml_X3_91 (ob_3 hl0) rfl (by decide) (by decide) rfl rfl rfl rfl (Nat.le_of_ble_eq_true rfl) rfl dX3_solve_67 (fun r2 σ2 h => ?_)
    obtain ⟨g3, h⟩ := h
    refine aw_if_eq X dX3_solve_70 (tgt := 93) (by decide) g3 (fun hc => ?_) (fun hc => ?_)
    · replace h := h.1 hc
      refine aw_weak (als' := [some (.ref (ad (3, l0, 0))), none, none, some (.int (oI l3)), none, some (.int (oI l5)), none, some (.int (oI s0))]) ⟨rfl, rfl, rfl, rfl, trivial⟩ ?_
      exact m_Pa_solve_93 X hR hret hk23 hl0 h
    · replace h := h.2 hc
      refine aw_iload X dX3_solve_73 rfl ?_
      refine aw_istore_n X dX3_solve_75 (Nat.le_of_ble_eq_true rfl) rfl ?_
      refine aw_als (als' := [some (.ref (ad (3, l0, 0))), none, none, some (.int (oI l6)), none, some (.int (oI l5)), some (.int (oI l6)), some (.int (oI s0))]) rfl ?_
      refine aw_aload_n X dX3_solve_76 rfl ?_
      refine aw_get X (ob_3 hl0) fl_X3_42 rfl dX3_solve_77 ?_
      refine aw_iconst X dX3_solve_80 ?_
      refine aw_aload_n X dX3_solve_81 rfl ?_
      refine aw_get X (ob_3 hl0) fl_X3_45 rfl dX3_solve_82 ?_
      refine aw_iconst X dX3_solve_85 ?_
      refine aw_iconst X dX3_solve_86 ?_
      refine aw_copy X hR cpl_X3_95 (ar_3_13 hl0) (ar_3_14 hl0) (by decide) (by decide) (by decide) (by decide) (Nat.le_of_ble_eq_true rfl) rfl dX3_solve_87 ?_
      obtain ⟨σ4, eσ4⟩ : ∃ z : Mem, z = cp σ2 3 l0 13 3 l0 14 4 := ⟨_, rfl⟩
      replace h := h σ4 eσ4
      refine aw_mem eσ4 ?_
      refine aw_iconst X dX3_solve_90 ?_
      refine aw_istore X dX3_solve_91 (Nat.le_of_ble_eq_true rfl) rfl ?_
      refine aw_als (als' := [some (.ref (ad (3, l0, 0))), none, none, some (.int (oI l6)), none, some (.int (oI l5)), some (.int (oI l6)), some (.int (oI 1))]) rfl ?_
      refine aw_weak (als' := [some (.ref (ad (3, l0, 0))), none, none, some (.int (oI l6)), none, some (.int (oI l5)), none, some (.int (oI 1))]) ⟨rfl, rfl, rfl, rfl, trivial⟩ ?_
      exact m_Pa_solve_93 X hR hret hk23 hl0 h

set_option maxHeartbeats 4000000 in
set_option maxRecDepth 100000 in
theorem m_Pa_solve_58 {p : Program} {l : Launch} {e : Env} {R : Room} {s : State} {m : MethodId} {args : Array Value} {below : List Frame} {meth : Method} {c : Code} {D : va_G} {ad : Ky → Nat} {tc : Tc} {A : Nat → Prop} {cs sl : Nat} {Qm : State → Prop} (X : Cx p s m args c cX3_solve RX3 8 D ad tc A) (hR : RmOK R cs sl 1 40) {Q : Int → Mem → Prop} (hret : RtI p l e R s m args below meth c D ad tc A cs sl Qm cX3_solve Q) {k23 : Int → Int → Int → Int → Mem → Prop} (hk23 : ∀ (l0 : Int) (l3 : Int) (l4 : Int) (l5 : Int) (σ : Mem) (_ : 0 ≤ l0 ∧ l0 < 4), k23 l0 l3 l4 l5 σ → AW p l e R s m args below meth c D ad tc A cs sl Qm 23 [some (.ref (ad (3, l0, 0))), none, none, some (.int (oI l3)), some (.int (oI l4)), some (.int (oI l5)), none, none] [] σ) {l0 : Int} {l3 : Int} {l5 : Int} {l6 : Int} {σ : Mem} (hl0 : 0 ≤ l0 ∧ l0 < 4) (h : Pa_solve_58 k23 Q l0 l3 l5 l6 σ) : AW p l e R s m args below meth c D ad tc A cs sl Qm 58 [some (.ref (ad (3, l0, 0))), none, none, some (.int (oI l3)), none, some (.int (oI l5)), some (.int (oI l6)), none] [] σ := by
  unfold Pa_solve_58 at h
  refine aw_iconst X dX3_solve_58 ?_
  refine aw_weak (als' := [some (.ref (ad (3, l0, 0))), none, none, some (.int (oI l3)), none, some (.int (oI l5)), some (.int (oI l6)), none]) ⟨rfl, rfl, rfl, rfl, trivial⟩ ?_
  exact m_Pa_solve_59 X hR hret hk23 hl0 h

set_option maxHeartbeats 4000000 in
set_option maxRecDepth 100000 in
theorem m_Pa_solve_23 {p : Program} {l : Launch} {e : Env} {R : Room} {s : State} {m : MethodId} {args : Array Value} {below : List Frame} {meth : Method} {c : Code} {D : va_G} {ad : Ky → Nat} {tc : Tc} {A : Nat → Prop} {cs sl : Nat} {Qm : State → Prop} (X : Cx p s m args c cX3_solve RX3 8 D ad tc A) (hR : RmOK R cs sl 1 40) {Q : Int → Mem → Prop} (hret : RtI p l e R s m args below meth c D ad tc A cs sl Qm cX3_solve Q) : ∀ (n : Nat) (l0 : Int) (l3 : Int) (l4 : Int) (l5 : Int) (σ : Mem) (_ : 0 ≤ l0 ∧ l0 < 4), Pa_solve_23 Q n l0 l3 l4 l5 σ → AW p l e R s m args below meth c D ad tc A cs sl Qm 23 [some (.ref (ad (3, l0, 0))), none, none, some (.int (oI l3)), some (.int (oI l4)), some (.int (oI l5)), none, none] [] σ := by
  intro n
  induction n with
  | zero =>
    intro l0 l3 l4 l5 σ hl0 h
    exact False.elim h
  | succ n ih =>
    intro l0 l3 l4 l5 σ hl0 h
    unfold Pa_solve_23 at h
    refine aw_iload X dX3_solve_23 rfl ?_
    refine aw_sipush X dX3_solve_25 rfl ?_
    obtain ⟨g1, h⟩ := h
    refine aw_icmp_ge X dX3_solve_28 (tgt := 125) (by decide) g1 ⟨by decide, by decide⟩ (fun hc => ?_) (fun hc => ?_)
    · replace h := h.1 hc
      refine aw_weak (als' := [none, none, none, some (.int (oI l3)), none, none, none, none]) ⟨rfl, trivial⟩ ?_
      exact m_Pa_solve_125 X hR hret h
    · replace h := h.2 hc
      refine aw_iload X dX3_solve_31 rfl ?_
      obtain ⟨g3, h⟩ := h
      refine aw_if_eq X dX3_solve_33 (tgt := 125) (by decide) g3 (fun hc => ?_) (fun hc => ?_)
      · replace h := h.1 hc
        refine aw_weak (als' := [none, none, none, some (.int (oI l3)), none, none, none, none]) ⟨rfl, trivial⟩ ?_
        exact m_Pa_solve_125 X hR hret h
      · replace h := h.2 hc
        refine aw_aload_n X dX3_solve_36 rfl ?_
        refine aw_callVI X hR (s_Pa_priceOfUnits l D ad tc X.2.2.2.2.2.2.1 hl0 h) ml_X3_87 (ob_3 hl0) rfl (by decide) (by decide) rfl rfl rfl rfl (Nat.le_of_ble_eq_true rfl) rfl dX3_solve_37 (fun r4 σ4 h => ?_)
        refine aw_istore X dX3_solve_40 (Nat.le_of_ble_eq_true rfl) rfl ?_
        refine aw_als (als' := [some (.ref (ad (3, l0, 0))), none, none, some (.int (oI l3)), some (.int (oI l4)), some (.int (oI l5)), some (.int (oI r4)), none]) rfl ?_
        refine aw_iload_n X dX3_solve_42 rfl ?_
        refine aw_bipush X dX3_solve_43 rfl ?_
        obtain ⟨g5, h⟩ := h
        refine aw_icmp_eq X dX3_solve_45 (tgt := 58) (by decide) g5 ⟨by decide, by decide⟩ (fun hc => ?_) (fun hc => ?_)
        · replace h := h.1 hc
          refine aw_weak (als' := [some (.ref (ad (3, l0, 0))), none, none, some (.int (oI l3)), none, some (.int (oI l5)), some (.int (oI r4)), none]) ⟨rfl, rfl, rfl, rfl, trivial⟩ ?_
          exact m_Pa_solve_58 X hR hret ih hl0 h
        · replace h := h.2 hc
          refine aw_iload X dX3_solve_48 rfl ?_
          refine aw_iload_n X dX3_solve_50 rfl ?_
          obtain ⟨g7, h⟩ := h
          obtain ⟨g8, h⟩ := h
          refine aw_icmp_lt X dX3_solve_51 (tgt := 58) (by decide) g7 g8 (fun hc => ?_) (fun hc => ?_)
          · replace h := h.1 hc
            refine aw_weak (als' := [some (.ref (ad (3, l0, 0))), none, none, some (.int (oI l3)), none, some (.int (oI l5)), some (.int (oI r4)), none]) ⟨rfl, rfl, rfl, rfl, trivial⟩ ?_
            exact m_Pa_solve_58 X hR hret ih hl0 h
          · replace h := h.2 hc
            refine aw_iconst X dX3_solve_54 ?_
            refine aw_goto X dX3_solve_55 (tgt := 59) (by decide) ?_
            refine aw_weak (als' := [some (.ref (ad (3, l0, 0))), none, none, some (.int (oI l3)), none, some (.int (oI l5)), some (.int (oI r4)), none]) ⟨rfl, rfl, rfl, rfl, trivial⟩ ?_
            exact m_Pa_solve_59 X hR hret ih hl0 h

set_option maxHeartbeats 4000000 in
set_option maxRecDepth 100000 in
theorem m_Pa_solve_0 {p : Program} {l : Launch} {e : Env} {R : Room} {s : State} {m : MethodId} {args : Array Value} {below : List Frame} {meth : Method} {c : Code} {D : va_G} {ad : Ky → Nat} {tc : Tc} {A : Nat → Prop} {cs sl : Nat} {Qm : State → Prop} (X : Cx p s m args c cX3_solve RX3 8 D ad tc A) (hR : RmOK R cs sl 1 40) {Q : Int → Mem → Prop} (hret : RtI p l e R s m args below meth c D ad tc A cs sl Qm cX3_solve Q) {l0 : Int} {l1 : Int} {l2 : Int} {σ : Mem} (hl0 : 0 ≤ l0 ∧ l0 < 4) (h : Pa_solve l0 l1 l2 σ Q) : AW p l e R s m args below meth c D ad tc A cs sl Qm 0 [some (.ref (ad (3, l0, 0))), some (.int (oI l1)), some (.int (oI l2)), none, none, none, none, none] [] σ := by
  unfold Pa_solve at h
  refine aw_aload_n X dX3_solve_0 rfl ?_
  refine aw_iload_n X dX3_solve_1 rfl ?_
  refine aw_iload_n X dX3_solve_2 rfl ?_
  refine aw_callVV X hR (s_Pa_measureRooms l D ad tc X.2.2.2.2.2.2.1 hl0 h) ml_X3_83 (ob_3 hl0) rfl (by decide) (by decide) rfl rfl rfl rfl (Nat.le_of_ble_eq_true rfl) rfl dX3_solve_3 (fun σ1 h => ?_)
  refine aw_aload_n X dX3_solve_6 rfl ?_
  refine aw_get X (ob_3 hl0) fl_X3_42 rfl dX3_solve_7 ?_
  refine aw_iconst X dX3_solve_10 ?_
  refine aw_callSV X hR (s_fill l D ad tc X.2.2.2.2.2.2.1 (ar_3_13 hl0) (v := 0) (σ := σ1)) ms_X3_51 (by decide) (by decide) rfl rfl rfl rfl (Nat.le_of_ble_eq_true rfl) rfl dX3_solve_11 (fun σ2 eσ2 => ?_)
  replace h := h σ2 eσ2
  refine aw_bipush X dX3_solve_14 rfl ?_
  refine aw_istore_n X dX3_solve_16 (Nat.le_of_ble_eq_true rfl) rfl ?_
  refine aw_als (als' := [some (.ref (ad (3, l0, 0))), some (.int (oI l1)), some (.int (oI l2)), some (.int (oI (-4))), none, none, none, none]) rfl ?_
  refine aw_iconst X dX3_solve_17 ?_
  refine aw_istore X dX3_solve_18 (Nat.le_of_ble_eq_true rfl) rfl ?_
  refine aw_als (als' := [some (.ref (ad (3, l0, 0))), some (.int (oI l1)), some (.int (oI l2)), some (.int (oI (-4))), some (.int (oI 1)), none, none, none]) rfl ?_
  refine aw_iconst X dX3_solve_20 ?_
  refine aw_istore X dX3_solve_21 (Nat.le_of_ble_eq_true rfl) rfl ?_
  refine aw_als (als' := [some (.ref (ad (3, l0, 0))), some (.int (oI l1)), some (.int (oI l2)), some (.int (oI (-4))), some (.int (oI 1)), some (.int (oI 0)), none, none]) rfl ?_
  refine aw_weak (als' := [some (.ref (ad (3, l0, 0))), none, none, some (.int (oI (-4))), some (.int (oI 1)), some (.int (oI 0)), none, none]) ⟨rfl, rfl, rfl, rfl, trivial⟩ ?_
  obtain ⟨n0, h⟩ := h
  exact m_Pa_solve_23 X hR hret n0 _ _ _ _ _ hl0 h
theorem s_Pa_solve (l : Launch) (D : va_G) (ad : Ky → Nat) (tc : Tc) (hi : adI ad) {l0 : Int} {l1 : Int} {l2 : Int} (hl0 : 0 ≤ l0 ∧ l0 < 4) {σ : Mem} {Q : Int → Mem → Prop} (h : Pa_solve l0 l1 l2 σ Q) : CtI l D ad tc yX3_solve cX3_solve 8 (some .int) { frames := 1, cells := 0, slots := 0, locals := 40 } [.ref (ad (3, l0, 0)), .int (oI l1), .int (oI l2)] σ Q := CtI.mk (by decide +kernel) hi (Nat.le_of_ble_eq_true rfl) rfl (fun p e s m args below meth c A Qm X hR hret => m_Pa_solve_0 X hR hret hl0 h)

set_option maxHeartbeats 4000000 in
set_option maxRecDepth 100000 in
theorem m_Pa_answerTo_30 {p : Program} {l : Launch} {e : Env} {R : Room} {s : State} {m : MethodId} {args : Array Value} {below : List Frame} {meth : Method} {c : Code} {D : va_G} {ad : Ky → Nat} {tc : Tc} {A : Nat → Prop} {cs sl : Nat} {Qm : State → Prop} (X : Cx p s m args c cX3_answerTo RX3 4 D ad tc A) (hR : RmOK R cs sl 2 67) {Q : Int → Mem → Prop} (hret : RtI p l e R s m args below meth c D ad tc A cs sl Qm cX3_answerTo Q) {l0 : Int} {l3 : Int} {σ : Mem} (hl0 : 0 ≤ l0 ∧ l0 < 4) (h : Pa_answerTo_30 Q l0 l3 σ) : AW p l e R s m args below meth c D ad tc A cs sl Qm 30 [some (.ref (ad (3, l0, 0))), none, none, some (.int (oI l3))] [] σ := by
  unfold Pa_answerTo_30 at h
  refine aw_aload_n X dX3_answerTo_30 rfl ?_
  refine aw_get X (ob_3 hl0) fl_X3_33 rfl dX3_answerTo_31 ?_
  refine aw_iload_n X dX3_answerTo_34 rfl ?_
  obtain ⟨g1a, g1b, h⟩ := h
  refine aw_iald X (ar_3_10 hl0) g1a g1b dX3_answerTo_35 ?_
  exact hret 36 _ _ _ dX3_answerTo_36 h

set_option maxHeartbeats 4000000 in
set_option maxRecDepth 100000 in
theorem m_Pa_answerTo_0 {p : Program} {l : Launch} {e : Env} {R : Room} {s : State} {m : MethodId} {args : Array Value} {below : List Frame} {meth : Method} {c : Code} {D : va_G} {ad : Ky → Nat} {tc : Tc} {A : Nat → Prop} {cs sl : Nat} {Qm : State → Prop} (X : Cx p s m args c cX3_answerTo RX3 4 D ad tc A) (hR : RmOK R cs sl 2 67) {Q : Int → Mem → Prop} (hret : RtI p l e R s m args below meth c D ad tc A cs sl Qm cX3_answerTo Q) {l0 : Int} {l1 : Int} {l2 : Int} {σ : Mem} (hl0 : 0 ≤ l0 ∧ l0 < 4) (h : Pa_answerTo l0 l1 l2 σ Q) : AW p l e R s m args below meth c D ad tc A cs sl Qm 0 [some (.ref (ad (3, l0, 0))), some (.int (oI l1)), some (.int (oI l2)), none] [] σ := by
  unfold Pa_answerTo at h
  refine aw_iload_n X dX3_answerTo_0 rfl ?_
  refine aw_bipush X dX3_answerTo_1 rfl ?_
  refine aw_imul X dX3_answerTo_3 ?_
  refine aw_iload_n X dX3_answerTo_4 rfl ?_
  refine aw_iadd X dX3_answerTo_5 ?_
  refine aw_istore_n X dX3_answerTo_6 (Nat.le_of_ble_eq_true rfl) rfl ?_
  obtain ⟨x1, ex1⟩ : ∃ z : Int, z = ((l2 * 64) + l1) := ⟨_, rfl⟩
  replace h := h x1 ex1
  refine aw_als (als' := [some (.ref (ad (3, l0, 0))), some (.int (oI l1)), some (.int (oI l2)), some (.int (oI x1))]) (by subst ex1; rfl) ?_
  refine aw_aload_n X dX3_answerTo_7 rfl ?_
  refine aw_get X (ob_3 hl0) fl_X3_33 rfl dX3_answerTo_8 ?_
  refine aw_iload_n X dX3_answerTo_11 rfl ?_
  obtain ⟨g2a, g2b, h⟩ := h
  refine aw_iald X (ar_3_10 hl0) g2a g2b dX3_answerTo_12 ?_
  refine aw_bipush X dX3_answerTo_13 rfl ?_
  obtain ⟨g3, h⟩ := h
  refine aw_icmp_ne X dX3_answerTo_15 (tgt := 30) (by decide) g3 ⟨by decide, by decide⟩ (fun hc => ?_) (fun hc => ?_)
  · replace h := h.1 hc
    refine aw_weak (als' := [some (.ref (ad (3, l0, 0))), none, none, some (.int (oI x1))]) ⟨rfl, rfl, trivial⟩ ?_
    exact m_Pa_answerTo_30 X hR hret hl0 h
  · replace h := h.2 hc
    refine aw_aload_n X dX3_answerTo_18 rfl ?_
    refine aw_get X (ob_3 hl0) fl_X3_33 rfl dX3_answerTo_19 ?_
    refine aw_iload_n X dX3_answerTo_22 rfl ?_
    refine aw_aload_n X dX3_answerTo_23 rfl ?_
    refine aw_iload_n X dX3_answerTo_24 rfl ?_
    refine aw_iload_n X dX3_answerTo_25 rfl ?_
    refine aw_callVI X hR (s_Pa_solve l D ad tc X.2.2.2.2.2.2.1 hl0 h) ml_X3_80 (ob_3 hl0) rfl (by decide) (by decide) rfl rfl rfl rfl (Nat.le_of_ble_eq_true rfl) rfl dX3_answerTo_26 (fun r5 σ5 h => ?_)
    obtain ⟨g6a, g6b, h⟩ := h
    refine aw_iast X (ar_3_10 hl0) g6a g6b dX3_answerTo_29 ?_
    obtain ⟨σ6, eσ6⟩ : ∃ z : Mem, z = up σ5 3 l0 10 x1 r5 := ⟨_, rfl⟩
    replace h := h σ6 eσ6
    refine aw_mem eσ6 ?_
    refine aw_weak (als' := [some (.ref (ad (3, l0, 0))), none, none, some (.int (oI x1))]) ⟨rfl, rfl, trivial⟩ ?_
    exact m_Pa_answerTo_30 X hR hret hl0 h
theorem s_Pa_answerTo (l : Launch) (D : va_G) (ad : Ky → Nat) (tc : Tc) (hi : adI ad) {l0 : Int} {l1 : Int} {l2 : Int} (hl0 : 0 ≤ l0 ∧ l0 < 4) {σ : Mem} {Q : Int → Mem → Prop} (h : Pa_answerTo l0 l1 l2 σ Q) : CtI l D ad tc yX3_answerTo cX3_answerTo 4 (some .int) { frames := 2, cells := 0, slots := 0, locals := 67 } [.ref (ad (3, l0, 0)), .int (oI l1), .int (oI l2)] σ Q := CtI.mk (by decide +kernel) hi (Nat.le_of_ble_eq_true rfl) rfl (fun p e s m args below meth c A Qm X hR hret => m_Pa_answerTo_0 X hR hret hl0 h)

set_option maxHeartbeats 4000000 in
set_option maxRecDepth 100000 in
theorem m_Pa_costTo_50 {p : Program} {l : Launch} {e : Env} {R : Room} {s : State} {m : MethodId} {args : Array Value} {below : List Frame} {meth : Method} {c : Code} {D : va_G} {ad : Ky → Nat} {tc : Tc} {A : Nat → Prop} {cs sl : Nat} {Qm : State → Prop} (X : Cx p s m args c cX3_costTo RX3 8 D ad tc A) (hR : RmOK R cs sl 3 90) {Q : Int → Mem → Prop} (hret : RtI p l e R s m args below meth c D ad tc A cs sl Qm cX3_costTo Q) {k13 : Int → Int → Int → Int → Int → Mem → Prop} (hk13 : ∀ (l0 : Int) (l3 : Int) (l4 : Int) (l5 : Int) (l6 : Int) (σ : Mem) (_ : 0 ≤ l0 ∧ l0 < 4), k13 l0 l3 l4 l5 l6 σ → AW p l e R s m args below meth c D ad tc A cs sl Qm 13 [some (.ref (ad (3, l0, 0))), none, some (.ref (ad (2, 0, 0))), some (.int (oI l3)), some (.int (oI l4)), some (.int (oI l5)), some (.int (oI l6)), none] [] σ) {l0 : Int} {l3 : Int} {l4 : Int} {l5 : Int} {l6 : Int} {s0 : Int} {σ : Mem} (hl0 : 0 ≤ l0 ∧ l0 < 4) (h : Pa_costTo_50 k13 Q l0 l3 l4 l5 l6 s0 σ) : AW p l e R s m args below meth c D ad tc A cs sl Qm 50 [some (.ref (ad (3, l0, 0))), none, some (.ref (ad (2, 0, 0))), some (.int (oI l3)), some (.int (oI l4)), some (.int (oI l5)), some (.int (oI l6)), none] [.int (oI s0)] σ := by
  unfold Pa_costTo_50 at h
  refine aw_istore X dX3_costTo_50 (Nat.le_of_ble_eq_true rfl) rfl ?_
  refine aw_als (als' := [some (.ref (ad (3, l0, 0))), none, some (.ref (ad (2, 0, 0))), some (.int (oI l3)), some (.int (oI l4)), some (.int (oI l5)), some (.int (oI l6)), some (.int (oI s0))]) rfl ?_
  refine aw_iload X dX3_costTo_52 rfl ?_
  refine aw_bipush X dX3_costTo_54 rfl ?_
  obtain ⟨g1, h⟩ := h
  refine aw_icmp_ne X dX3_costTo_56 (tgt := 62) (by decide) g1 ⟨by decide, by decide⟩ (fun hc => ?_) (fun hc => ?_)
  · replace h := h.1 hc
    refine aw_iload X dX3_costTo_62 rfl ?_
    refine aw_aload_n X dX3_costTo_64 rfl ?_
    refine aw_get X ob_2 fl_X3_77 rfl dX3_costTo_65 ?_
    refine aw_iload X dX3_costTo_68 rfl ?_
    obtain ⟨g3a, g3b, h⟩ := h
    refine aw_iald X ar_2_1 g3a g3b dX3_costTo_70 ?_
    refine aw_iload X dX3_costTo_71 rfl ?_
    refine aw_imul X dX3_costTo_73 ?_
    refine aw_iadd X dX3_costTo_74 ?_
    refine aw_istore X dX3_costTo_75 (Nat.le_of_ble_eq_true rfl) rfl ?_
    obtain ⟨x4, ex4⟩ : ∃ z : Int, z = (l5 + ((σ 2 0 1 l6) * s0)) := ⟨_, rfl⟩
    replace h := h x4 ex4
    refine aw_als (als' := [some (.ref (ad (3, l0, 0))), none, some (.ref (ad (2, 0, 0))), some (.int (oI l3)), some (.int (oI l4)), some (.int (oI x4)), some (.int (oI l6)), some (.int (oI s0))]) (by subst ex4; rfl) ?_
    refine aw_iinc X dX3_costTo_77 rfl rfl ?_
    obtain ⟨x5, ex5⟩ : ∃ z : Int, z = (l6 + 1) := ⟨_, rfl⟩
    replace h := h x5 ex5
    refine aw_als (als' := [some (.ref (ad (3, l0, 0))), none, some (.ref (ad (2, 0, 0))), some (.int (oI l3)), some (.int (oI l4)), some (.int (oI x4)), some (.int (oI x5)), some (.int (oI s0))]) (by subst ex5; rfl) ?_
    refine aw_goto X dX3_costTo_80 (tgt := 13) (by decide) ?_
    refine aw_weak (als' := [some (.ref (ad (3, l0, 0))), none, some (.ref (ad (2, 0, 0))), some (.int (oI l3)), some (.int (oI l4)), some (.int (oI x4)), some (.int (oI x5)), none]) ⟨rfl, rfl, rfl, rfl, rfl, rfl, trivial⟩ ?_
    exact hk13 _ _ _ _ _ _ hl0 h
  · replace h := h.2 hc
    refine aw_bipush X dX3_costTo_59 rfl ?_
    exact hret 61 _ _ _ dX3_costTo_61 h

set_option maxHeartbeats 4000000 in
set_option maxRecDepth 100000 in
theorem m_Pa_costTo_13 {p : Program} {l : Launch} {e : Env} {R : Room} {s : State} {m : MethodId} {args : Array Value} {below : List Frame} {meth : Method} {c : Code} {D : va_G} {ad : Ky → Nat} {tc : Tc} {A : Nat → Prop} {cs sl : Nat} {Qm : State → Prop} (X : Cx p s m args c cX3_costTo RX3 8 D ad tc A) (hR : RmOK R cs sl 3 90) {Q : Int → Mem → Prop} (hret : RtI p l e R s m args below meth c D ad tc A cs sl Qm cX3_costTo Q) : ∀ (n : Nat) (l0 : Int) (l3 : Int) (l4 : Int) (l5 : Int) (l6 : Int) (σ : Mem) (_ : 0 ≤ l0 ∧ l0 < 4), Pa_costTo_13 Q n l0 l3 l4 l5 l6 σ → AW p l e R s m args below meth c D ad tc A cs sl Qm 13 [some (.ref (ad (3, l0, 0))), none, some (.ref (ad (2, 0, 0))), some (.int (oI l3)), some (.int (oI l4)), some (.int (oI l5)), some (.int (oI l6)), none] [] σ := by
  intro n
  induction n with
  | zero =>
    intro l0 l3 l4 l5 l6 σ hl0 h
    exact False.elim h
  | succ n ih =>
    intro l0 l3 l4 l5 l6 σ hl0 h
    unfold Pa_costTo_13 at h
    refine aw_iload X dX3_costTo_13 rfl ?_
    refine aw_aload_n X dX3_costTo_15 rfl ?_
    refine aw_get X ob_2 fl_X3_68 rfl dX3_costTo_16 ?_
    obtain ⟨g1, h⟩ := h
    obtain ⟨g2, h⟩ := h
    refine aw_icmp_ge X dX3_costTo_19 (tgt := 83) (by decide) g1 g2 (fun hc => ?_) (fun hc => ?_)
    · replace h := h.1 hc
      refine aw_iload X dX3_costTo_83 rfl ?_
      exact hret 85 _ _ _ dX3_costTo_85 h
    · replace h := h.2 hc
      refine aw_iload_n X dX3_costTo_22 rfl ?_
      obtain ⟨g3, h⟩ := h
      refine aw_if_eq X dX3_costTo_23 (tgt := 42) (by decide) g3 (fun hc => ?_) (fun hc => ?_)
      · replace h := h.1 hc
        refine aw_aload_n X dX3_costTo_42 rfl ?_
        refine aw_iload X dX3_costTo_43 rfl ?_
        refine aw_iload X dX3_costTo_45 rfl ?_
        refine aw_callVI X hR (s_Pa_answerTo l D ad tc X.2.2.2.2.2.2.1 hl0 h) ml_X3_73 (ob_3 hl0) rfl (by decide) (by decide) rfl rfl rfl rfl (Nat.le_of_ble_eq_true rfl) rfl dX3_costTo_47 (fun r4 σ4 h => ?_)
        refine aw_weak (als' := [some (.ref (ad (3, l0, 0))), none, some (.ref (ad (2, 0, 0))), some (.int (oI l3)), some (.int (oI l4)), some (.int (oI l5)), some (.int (oI l6)), none]) ⟨rfl, rfl, rfl, rfl, rfl, rfl, trivial⟩ ?_
        exact m_Pa_costTo_50 X hR hret ih hl0 h
      · replace h := h.2 hc
        refine aw_aload_n X dX3_costTo_26 rfl ?_
        refine aw_get X (ob_3 hl0) fl_X3_36 rfl dX3_costTo_27 ?_
        refine aw_iload X dX3_costTo_30 rfl ?_
        refine aw_bipush X dX3_costTo_32 rfl ?_
        refine aw_imul X dX3_costTo_34 ?_
        refine aw_iload X dX3_costTo_35 rfl ?_
        refine aw_iadd X dX3_costTo_37 ?_
        obtain ⟨g5a, g5b, h⟩ := h
        refine aw_iald X (ar_3_11 hl0) g5a g5b dX3_costTo_38 ?_
        refine aw_goto X dX3_costTo_39 (tgt := 50) (by decide) ?_
        refine aw_weak (als' := [some (.ref (ad (3, l0, 0))), none, some (.ref (ad (2, 0, 0))), some (.int (oI l3)), some (.int (oI l4)), some (.int (oI l5)), some (.int (oI l6)), none]) ⟨rfl, rfl, rfl, rfl, rfl, rfl, trivial⟩ ?_
        exact m_Pa_costTo_50 X hR hret ih hl0 h

set_option maxHeartbeats 4000000 in
set_option maxRecDepth 100000 in
theorem m_Pa_costTo_0 {p : Program} {l : Launch} {e : Env} {R : Room} {s : State} {m : MethodId} {args : Array Value} {below : List Frame} {meth : Method} {c : Code} {D : va_G} {ad : Ky → Nat} {tc : Tc} {A : Nat → Prop} {cs sl : Nat} {Qm : State → Prop} (X : Cx p s m args c cX3_costTo RX3 8 D ad tc A) (hR : RmOK R cs sl 3 90) {Q : Int → Mem → Prop} (hret : RtI p l e R s m args below meth c D ad tc A cs sl Qm cX3_costTo Q) {l0 : Int} {l1c : Nat} {l1p : Int} {l1k : Nat} {l3 : Int} {σ : Mem} (hl0 : 0 ≤ l0 ∧ l0 < 4) (hl1 : Arr l1c l1p l1k 6) (h : Pa_costTo l0 l1c l1p l1k l3 σ Q) : AW p l e R s m args below meth c D ad tc A cs sl Qm 0 [some (.ref (ad (3, l0, 0))), some (.ref (ad (l1c, l1p, l1k + 1))), some (.ref (ad (2, 0, 0))), some (.int (oI l3)), none, none, none, none] [] σ := by
  unfold Pa_costTo at h
  refine aw_aload_n X dX3_costTo_0 rfl ?_
  refine aw_aload_n X dX3_costTo_1 rfl ?_
  refine aw_callVI X hR (s_Pa_spotOf l D ad tc X.2.2.2.2.2.2.1 hl0 hl1 h) ml_X3_64 (ob_3 hl0) rfl (by decide) (by decide) rfl rfl rfl rfl (Nat.le_of_ble_eq_true rfl) rfl dX3_costTo_2 (fun r1 σ1 h => ?_)
  refine aw_istore X dX3_costTo_5 (Nat.le_of_ble_eq_true rfl) rfl ?_
  refine aw_als (als' := [some (.ref (ad (3, l0, 0))), some (.ref (ad (l1c, l1p, l1k + 1))), some (.ref (ad (2, 0, 0))), some (.int (oI l3)), some (.int (oI r1)), none, none, none]) rfl ?_
  refine aw_iconst X dX3_costTo_7 ?_
  refine aw_istore X dX3_costTo_8 (Nat.le_of_ble_eq_true rfl) rfl ?_
  refine aw_als (als' := [some (.ref (ad (3, l0, 0))), some (.ref (ad (l1c, l1p, l1k + 1))), some (.ref (ad (2, 0, 0))), some (.int (oI l3)), some (.int (oI r1)), some (.int (oI 0)), none, none]) rfl ?_
  refine aw_iconst X dX3_costTo_10 ?_
  refine aw_istore X dX3_costTo_11 (Nat.le_of_ble_eq_true rfl) rfl ?_
  refine aw_als (als' := [some (.ref (ad (3, l0, 0))), some (.ref (ad (l1c, l1p, l1k + 1))), some (.ref (ad (2, 0, 0))), some (.int (oI l3)), some (.int (oI r1)), some (.int (oI 0)), some (.int (oI 0)), none]) rfl ?_
  refine aw_weak (als' := [some (.ref (ad (3, l0, 0))), none, some (.ref (ad (2, 0, 0))), some (.int (oI l3)), some (.int (oI r1)), some (.int (oI 0)), some (.int (oI 0)), none]) ⟨rfl, rfl, rfl, rfl, rfl, rfl, trivial⟩ ?_
  obtain ⟨n0, h⟩ := h
  exact m_Pa_costTo_13 X hR hret n0 _ _ _ _ _ _ hl0 h
theorem s_Pa_costTo (l : Launch) (D : va_G) (ad : Ky → Nat) (tc : Tc) (hi : adI ad) {l0 : Int} {l1c : Nat} {l1p : Int} {l1k : Nat} {l3 : Int} (hl0 : 0 ≤ l0 ∧ l0 < 4) (hl1 : Arr l1c l1p l1k 6) {σ : Mem} {Q : Int → Mem → Prop} (h : Pa_costTo l0 l1c l1p l1k l3 σ Q) : CtI l D ad tc yX3_costTo cX3_costTo 8 (some .int) { frames := 3, cells := 0, slots := 0, locals := 90 } [.ref (ad (3, l0, 0)), .ref (ad (l1c, l1p, l1k + 1)), .ref (ad (2, 0, 0)), .int (oI l3)] σ Q := CtI.mk (by decide +kernel) hi (Nat.le_of_ble_eq_true rfl) rfl (fun p e s m args below meth c A Qm X hR hret => m_Pa_costTo_0 X hR hret hl0 hl1 h)

set_option maxHeartbeats 4000000 in
set_option maxRecDepth 100000 in
theorem m_Pa_meets_50 {p : Program} {l : Launch} {e : Env} {R : Room} {s : State} {m : MethodId} {args : Array Value} {below : List Frame} {meth : Method} {c : Code} {D : va_G} {ad : Ky → Nat} {tc : Tc} {A : Nat → Prop} {cs sl : Nat} {Qm : State → Prop} (X : Cx p s m args c cX3_meets RX3 4 D ad tc A) (hR : RmOK R cs sl 0 0) {Q : Int → Mem → Prop} (hret : RtZ p l e R s m args below meth c D ad tc A cs sl Qm cX3_meets Q) {k2 : Int → Int → Int → Mem → Prop} (hk2 : ∀ (l0 : Int) (l1 : Int) (l2 : Int) (σ : Mem) (_ : 0 ≤ l0 ∧ l0 < 4), k2 l0 l1 l2 σ → AW p l e R s m args below meth c D ad tc A cs sl Qm 2 [some (.ref (ad (3, l0, 0))), some (.int (oI l1)), some (.int (oI l2)), none] [] σ) {l0 : Int} {l1 : Int} {l2 : Int} {σ : Mem} (hl0 : 0 ≤ l0 ∧ l0 < 4) (h : Pa_meets_50 k2 Q l0 l1 l2 σ) : AW p l e R s m args below meth c D ad tc A cs sl Qm 50 [some (.ref (ad (3, l0, 0))), some (.int (oI l1)), some (.int (oI l2)), none] [] σ := by
  unfold Pa_meets_50 at h
  refine aw_iinc X dX3_meets_50 rfl rfl ?_
  obtain ⟨x1, ex1⟩ : ∃ z : Int, z = (l2 + 1) := ⟨_, rfl⟩
  replace h := h x1 ex1
  refine aw_als (als' := [some (.ref (ad (3, l0, 0))), some (.int (oI l1)), some (.int (oI x1)), none]) (by subst ex1; rfl) ?_
  refine aw_goto X dX3_meets_53 (tgt := 2) (by decide) ?_
  refine aw_weak (als' := [some (.ref (ad (3, l0, 0))), some (.int (oI l1)), some (.int (oI x1)), none]) ⟨rfl, rfl, rfl, trivial⟩ ?_
  exact hk2 _ _ _ _ hl0 h

set_option maxHeartbeats 4000000 in
set_option maxRecDepth 100000 in
theorem m_Pa_meets_48 {p : Program} {l : Launch} {e : Env} {R : Room} {s : State} {m : MethodId} {args : Array Value} {below : List Frame} {meth : Method} {c : Code} {D : va_G} {ad : Ky → Nat} {tc : Tc} {A : Nat → Prop} {cs sl : Nat} {Qm : State → Prop} (X : Cx p s m args c cX3_meets RX3 4 D ad tc A) (hR : RmOK R cs sl 0 0) {Q : Int → Mem → Prop} (hret : RtZ p l e R s m args below meth c D ad tc A cs sl Qm cX3_meets Q) {σ : Mem} (h : Pa_meets_48 Q σ) : AW p l e R s m args below meth c D ad tc A cs sl Qm 48 [none, none, none, none] [] σ := by
  unfold Pa_meets_48 at h
  refine aw_iconst X dX3_meets_48 ?_
  exact hret 49 _ _ _ dX3_meets_49 (by decide) h

set_option maxHeartbeats 4000000 in
set_option maxRecDepth 100000 in
theorem m_Pa_meets_2 {p : Program} {l : Launch} {e : Env} {R : Room} {s : State} {m : MethodId} {args : Array Value} {below : List Frame} {meth : Method} {c : Code} {D : va_G} {ad : Ky → Nat} {tc : Tc} {A : Nat → Prop} {cs sl : Nat} {Qm : State → Prop} (X : Cx p s m args c cX3_meets RX3 4 D ad tc A) (hR : RmOK R cs sl 0 0) {Q : Int → Mem → Prop} (hret : RtZ p l e R s m args below meth c D ad tc A cs sl Qm cX3_meets Q) : ∀ (n : Nat) (l0 : Int) (l1 : Int) (l2 : Int) (σ : Mem) (_ : 0 ≤ l0 ∧ l0 < 4), Pa_meets_2 Q n l0 l1 l2 σ → AW p l e R s m args below meth c D ad tc A cs sl Qm 2 [some (.ref (ad (3, l0, 0))), some (.int (oI l1)), some (.int (oI l2)), none] [] σ := by
  intro n
  induction n with
  | zero =>
    intro l0 l1 l2 σ hl0 h
    exact False.elim h
  | succ n ih =>
    intro l0 l1 l2 σ hl0 h
    unfold Pa_meets_2 at h
    refine aw_iload_n X dX3_meets_2 rfl ?_
    refine aw_aload_n X dX3_meets_3 rfl ?_
    refine aw_get X (ob_3 hl0) fl_X3_57 rfl dX3_meets_4 ?_
    obtain ⟨g1, h⟩ := h
    obtain ⟨g2, h⟩ := h
    refine aw_icmp_ge X dX3_meets_7 (tgt := 56) (by decide) g1 g2 (fun hc => ?_) (fun hc => ?_)
    · replace h := h.1 hc
      refine aw_iconst X dX3_meets_56 ?_
      exact hret 57 _ _ _ dX3_meets_57 (by decide) h
    · replace h := h.2 hc
      refine aw_iload_n X dX3_meets_10 rfl ?_
      refine aw_iload_n X dX3_meets_11 rfl ?_
      refine aw_iconst X dX3_meets_12 ?_
      refine aw_imul X dX3_meets_13 ?_
      refine aw_ishr X dX3_meets_14 ?_
      refine aw_iconst X dX3_meets_15 ?_
      refine aw_iand X dX3_meets_16 ?_
      refine aw_istore_n X dX3_meets_17 (Nat.le_of_ble_eq_true rfl) rfl ?_
      obtain ⟨x3, ex3⟩ : ∃ z : Int, z = (iAnd (iShr l1 (l2 * 2)) 3) := ⟨_, rfl⟩
      replace h := h x3 ex3
      refine aw_als (als' := [some (.ref (ad (3, l0, 0))), some (.int (oI l1)), some (.int (oI l2)), some (.int (oI x3))]) (by subst ex3; rfl) ?_
      refine aw_iload_n X dX3_meets_18 rfl ?_
      refine aw_aload_n X dX3_meets_19 rfl ?_
      refine aw_get X (ob_3 hl0) fl_X3_15 rfl dX3_meets_20 ?_
      refine aw_iload_n X dX3_meets_23 rfl ?_
      obtain ⟨g4a, g4b, h⟩ := h
      refine aw_iald X (ar_3_2 hl0) g4a g4b dX3_meets_24 ?_
      obtain ⟨g5, h⟩ := h
      obtain ⟨g6, h⟩ := h
      refine aw_icmp_ge X dX3_meets_25 (tgt := 48) (by decide) g5 g6 (fun hc => ?_) (fun hc => ?_)
      · replace h := h.1 hc
        refine aw_weak (als' := [none, none, none, none]) trivial ?_
        exact m_Pa_meets_48 X hR hret h
      · replace h := h.2 hc
        refine aw_aload_n X dX3_meets_28 rfl ?_
        refine aw_get X (ob_3 hl0) fl_X3_48 rfl dX3_meets_29 ?_
        refine aw_iload_n X dX3_meets_32 rfl ?_
        obtain ⟨g7a, g7b, h⟩ := h
        refine aw_iald X (ar_3_15 hl0) g7a g7b dX3_meets_33 ?_
        refine aw_iconst X dX3_meets_34 ?_
        obtain ⟨g8, h⟩ := h
        refine aw_icmp_eq X dX3_meets_35 (tgt := 50) (by decide) g8 ⟨by decide, by decide⟩ (fun hc => ?_) (fun hc => ?_)
        · replace h := h.1 hc
          refine aw_weak (als' := [some (.ref (ad (3, l0, 0))), some (.int (oI l1)), some (.int (oI l2)), none]) ⟨rfl, rfl, rfl, trivial⟩ ?_
          exact m_Pa_meets_50 X hR hret ih hl0 h
        · replace h := h.2 hc
          refine aw_aload_n X dX3_meets_38 rfl ?_
          refine aw_get X (ob_3 hl0) fl_X3_48 rfl dX3_meets_39 ?_
          refine aw_iload_n X dX3_meets_42 rfl ?_
          obtain ⟨g10a, g10b, h⟩ := h
          refine aw_iald X (ar_3_15 hl0) g10a g10b dX3_meets_43 ?_
          refine aw_iload_n X dX3_meets_44 rfl ?_
          obtain ⟨g11, h⟩ := h
          obtain ⟨g12, h⟩ := h
          refine aw_icmp_eq X dX3_meets_45 (tgt := 50) (by decide) g11 g12 (fun hc => ?_) (fun hc => ?_)
          · replace h := h.1 hc
            refine aw_weak (als' := [some (.ref (ad (3, l0, 0))), some (.int (oI l1)), some (.int (oI l2)), none]) ⟨rfl, rfl, rfl, trivial⟩ ?_
            exact m_Pa_meets_50 X hR hret ih hl0 h
          · replace h := h.2 hc
            refine aw_weak (als' := [none, none, none, none]) trivial ?_
            exact m_Pa_meets_48 X hR hret h

set_option maxHeartbeats 4000000 in
set_option maxRecDepth 100000 in
theorem m_Pa_meets_0 {p : Program} {l : Launch} {e : Env} {R : Room} {s : State} {m : MethodId} {args : Array Value} {below : List Frame} {meth : Method} {c : Code} {D : va_G} {ad : Ky → Nat} {tc : Tc} {A : Nat → Prop} {cs sl : Nat} {Qm : State → Prop} (X : Cx p s m args c cX3_meets RX3 4 D ad tc A) (hR : RmOK R cs sl 0 0) {Q : Int → Mem → Prop} (hret : RtZ p l e R s m args below meth c D ad tc A cs sl Qm cX3_meets Q) {l0 : Int} {l1 : Int} {σ : Mem} (hl0 : 0 ≤ l0 ∧ l0 < 4) (h : Pa_meets l0 l1 σ Q) : AW p l e R s m args below meth c D ad tc A cs sl Qm 0 [some (.ref (ad (3, l0, 0))), some (.int (oI l1)), none, none] [] σ := by
  unfold Pa_meets at h
  refine aw_iconst X dX3_meets_0 ?_
  refine aw_istore_n X dX3_meets_1 (Nat.le_of_ble_eq_true rfl) rfl ?_
  refine aw_als (als' := [some (.ref (ad (3, l0, 0))), some (.int (oI l1)), some (.int (oI 0)), none]) rfl ?_
  refine aw_weak (als' := [some (.ref (ad (3, l0, 0))), some (.int (oI l1)), some (.int (oI 0)), none]) ⟨rfl, rfl, rfl, trivial⟩ ?_
  obtain ⟨n0, h⟩ := h
  exact m_Pa_meets_2 X hR hret n0 _ _ _ _ hl0 h
theorem s_Pa_meets (l : Launch) (D : va_G) (ad : Ky → Nat) (tc : Tc) (hi : adI ad) {l0 : Int} {l1 : Int} (hl0 : 0 ≤ l0 ∧ l0 < 4) {σ : Mem} {Q : Int → Mem → Prop} (h : Pa_meets l0 l1 σ Q) : CtI l D ad tc yX3_meets cX3_meets 4 (some .boolean) { frames := 0, cells := 0, slots := 0, locals := 0 } [.ref (ad (3, l0, 0)), .int (oI l1)] σ Q := CtI.mkz (by decide +kernel) hi (Nat.le_of_ble_eq_true rfl) rfl (fun p e s m args below meth c A Qm X hR hret => m_Pa_meets_0 X hR hret hl0 h)

set_option maxHeartbeats 4000000 in
set_option maxRecDepth 100000 in
theorem m_Pa_isTrue_57 {p : Program} {l : Launch} {e : Env} {R : Room} {s : State} {m : MethodId} {args : Array Value} {below : List Frame} {meth : Method} {c : Code} {D : va_G} {ad : Ky → Nat} {tc : Tc} {A : Nat → Prop} {cs sl : Nat} {Qm : State → Prop} (X : Cx p s m args c cX3_isTrue RX3 6 D ad tc A) (hR : RmOK R cs sl 3 90) {Q : Int → Mem → Prop} (hret : RtZ p l e R s m args below meth c D ad tc A cs sl Qm cX3_isTrue Q) {k12 : Int → Int → Int → Int → Int → Mem → Prop} (hk12 : ∀ (l0 : Int) (l1 : Int) (l2 : Int) (l3 : Int) (l4 : Int) (σ : Mem) (_ : 0 ≤ l0 ∧ l0 < 4), k12 l0 l1 l2 l3 l4 σ → AW p l e R s m args below meth c D ad tc A cs sl Qm 12 [some (.ref (ad (3, l0, 0))), some (.int (oI l1)), some (.int (oI l2)), some (.int (oI l3)), some (.int (oI l4)), none] [] σ) {l0 : Int} {l1 : Int} {l2 : Int} {l3 : Int} {l4 : Int} {σ : Mem} (hl0 : 0 ≤ l0 ∧ l0 < 4) (h : Pa_isTrue_57 k12 Q l0 l1 l2 l3 l4 σ) : AW p l e R s m args below meth c D ad tc A cs sl Qm 57 [some (.ref (ad (3, l0, 0))), some (.int (oI l1)), some (.int (oI l2)), some (.int (oI l3)), some (.int (oI l4)), none] [] σ := by
  unfold Pa_isTrue_57 at h
  refine aw_iinc X dX3_isTrue_57 rfl rfl ?_
  obtain ⟨x1, ex1⟩ : ∃ z : Int, z = (l4 + 1) := ⟨_, rfl⟩
  replace h := h x1 ex1
  refine aw_als (als' := [some (.ref (ad (3, l0, 0))), some (.int (oI l1)), some (.int (oI l2)), some (.int (oI l3)), some (.int (oI x1)), none]) (by subst ex1; rfl) ?_
  refine aw_goto X dX3_isTrue_60 (tgt := 12) (by decide) ?_
  refine aw_weak (als' := [some (.ref (ad (3, l0, 0))), some (.int (oI l1)), some (.int (oI l2)), some (.int (oI l3)), some (.int (oI x1)), none]) ⟨rfl, rfl, rfl, rfl, rfl, trivial⟩ ?_
  exact hk12 _ _ _ _ _ _ hl0 h

set_option maxHeartbeats 4000000 in
set_option maxRecDepth 100000 in
theorem m_Pa_isTrue_55 {p : Program} {l : Launch} {e : Env} {R : Room} {s : State} {m : MethodId} {args : Array Value} {below : List Frame} {meth : Method} {c : Code} {D : va_G} {ad : Ky → Nat} {tc : Tc} {A : Nat → Prop} {cs sl : Nat} {Qm : State → Prop} (X : Cx p s m args c cX3_isTrue RX3 6 D ad tc A) (hR : RmOK R cs sl 3 90) {Q : Int → Mem → Prop} (hret : RtZ p l e R s m args below meth c D ad tc A cs sl Qm cX3_isTrue Q) {σ : Mem} (h : Pa_isTrue_55 Q σ) : AW p l e R s m args below meth c D ad tc A cs sl Qm 55 [none, none, none, none, none, none] [] σ := by
  unfold Pa_isTrue_55 at h
  refine aw_iconst X dX3_isTrue_55 ?_
  exact hret 56 _ _ _ dX3_isTrue_56 (by decide) h

set_option maxHeartbeats 4000000 in
set_option maxRecDepth 100000 in
theorem m_Pa_isTrue_12 {p : Program} {l : Launch} {e : Env} {R : Room} {s : State} {m : MethodId} {args : Array Value} {below : List Frame} {meth : Method} {c : Code} {D : va_G} {ad : Ky → Nat} {tc : Tc} {A : Nat → Prop} {cs sl : Nat} {Qm : State → Prop} (X : Cx p s m args c cX3_isTrue RX3 6 D ad tc A) (hR : RmOK R cs sl 3 90) {Q : Int → Mem → Prop} (hret : RtZ p l e R s m args below meth c D ad tc A cs sl Qm cX3_isTrue Q) : ∀ (n : Nat) (l0 : Int) (l1 : Int) (l2 : Int) (l3 : Int) (l4 : Int) (σ : Mem) (_ : 0 ≤ l0 ∧ l0 < 4), Pa_isTrue_12 Q n l0 l1 l2 l3 l4 σ → AW p l e R s m args below meth c D ad tc A cs sl Qm 12 [some (.ref (ad (3, l0, 0))), some (.int (oI l1)), some (.int (oI l2)), some (.int (oI l3)), some (.int (oI l4)), none] [] σ := by
  intro n
  induction n with
  | zero =>
    intro l0 l1 l2 l3 l4 σ hl0 h
    exact False.elim h
  | succ n ih =>
    intro l0 l1 l2 l3 l4 σ hl0 h
    unfold Pa_isTrue_12 at h
    refine aw_iload X dX3_isTrue_12 rfl ?_
    refine aw_iload_n X dX3_isTrue_14 rfl ?_
    obtain ⟨g1, h⟩ := h
    obtain ⟨g2, h⟩ := h
    refine aw_icmp_ge X dX3_isTrue_15 (tgt := 63) (by decide) g1 g2 (fun hc => ?_) (fun hc => ?_)
    · replace h := h.1 hc
      refine aw_iconst X dX3_isTrue_63 ?_
      exact hret 64 _ _ _ dX3_isTrue_64 (by decide) h
    · replace h := h.2 hc
      refine aw_aload_n X dX3_isTrue_18 rfl ?_
      refine aw_iload X dX3_isTrue_19 rfl ?_
      refine aw_callVI X hR (s_Pa_meets l D ad tc X.2.2.2.2.2.2.1 hl0 h) ml_X3_115 (ob_3 hl0) rfl (by decide) (by decide) rfl rfl rfl rfl (Nat.le_of_ble_eq_true rfl) rfl dX3_isTrue_21 (fun r3 σ3 h => ?_)
      obtain ⟨g4, h⟩ := h
      refine aw_if_eq X dX3_isTrue_24 (tgt := 57) (by decide) g4 (fun hc => ?_) (fun hc => ?_)
      · replace h := h.1 hc
        refine aw_weak (als' := [some (.ref (ad (3, l0, 0))), some (.int (oI l1)), some (.int (oI l2)), some (.int (oI l3)), some (.int (oI l4)), none]) ⟨rfl, rfl, rfl, rfl, rfl, trivial⟩ ?_
        exact m_Pa_isTrue_57 X hR hret ih hl0 h
      · replace h := h.2 hc
        refine aw_aload_n X dX3_isTrue_27 rfl ?_
        refine aw_iload X dX3_isTrue_28 rfl ?_
        refine aw_iload_n X dX3_isTrue_30 rfl ?_
        refine aw_callVI X hR (s_Pa_answerTo l D ad tc X.2.2.2.2.2.2.1 hl0 h) ml_X3_73 (ob_3 hl0) rfl (by decide) (by decide) rfl rfl rfl rfl (Nat.le_of_ble_eq_true rfl) rfl dX3_isTrue_31 (fun r5 σ5 h => ?_)
        refine aw_istore X dX3_isTrue_34 (Nat.le_of_ble_eq_true rfl) rfl ?_
        refine aw_als (als' := [some (.ref (ad (3, l0, 0))), some (.int (oI l1)), some (.int (oI l2)), some (.int (oI l3)), some (.int (oI l4)), some (.int (oI r5))]) rfl ?_
        refine aw_iload X dX3_isTrue_36 rfl ?_
        refine aw_bipush X dX3_isTrue_38 rfl ?_
        obtain ⟨g6, h⟩ := h
        refine aw_icmp_eq X dX3_isTrue_40 (tgt := 57) (by decide) g6 ⟨by decide, by decide⟩ (fun hc => ?_) (fun hc => ?_)
        · replace h := h.1 hc
          refine aw_weak (als' := [some (.ref (ad (3, l0, 0))), some (.int (oI l1)), some (.int (oI l2)), some (.int (oI l3)), some (.int (oI l4)), none]) ⟨rfl, rfl, rfl, rfl, rfl, trivial⟩ ?_
          exact m_Pa_isTrue_57 X hR hret ih hl0 h
        · replace h := h.2 hc
          refine aw_iload_n X dX3_isTrue_43 rfl ?_
          refine aw_bipush X dX3_isTrue_44 rfl ?_
          obtain ⟨g8, h⟩ := h
          refine aw_icmp_eq X dX3_isTrue_46 (tgt := 55) (by decide) g8 ⟨by decide, by decide⟩ (fun hc => ?_) (fun hc => ?_)
          · replace h := h.1 hc
            refine aw_weak (als' := [none, none, none, none, none, none]) trivial ?_
            exact m_Pa_isTrue_55 X hR hret h
          · replace h := h.2 hc
            refine aw_iload X dX3_isTrue_49 rfl ?_
            refine aw_iload_n X dX3_isTrue_51 rfl ?_
            obtain ⟨g10, h⟩ := h
            obtain ⟨g11, h⟩ := h
            refine aw_icmp_ge X dX3_isTrue_52 (tgt := 57) (by decide) g10 g11 (fun hc => ?_) (fun hc => ?_)
            · replace h := h.1 hc
              refine aw_weak (als' := [some (.ref (ad (3, l0, 0))), some (.int (oI l1)), some (.int (oI l2)), some (.int (oI l3)), some (.int (oI l4)), none]) ⟨rfl, rfl, rfl, rfl, rfl, trivial⟩ ?_
              exact m_Pa_isTrue_57 X hR hret ih hl0 h
            · replace h := h.2 hc
              refine aw_weak (als' := [none, none, none, none, none, none]) trivial ?_
              exact m_Pa_isTrue_55 X hR hret h

set_option maxHeartbeats 4000000 in
set_option maxRecDepth 100000 in
theorem m_Pa_isTrue_0 {p : Program} {l : Launch} {e : Env} {R : Room} {s : State} {m : MethodId} {args : Array Value} {below : List Frame} {meth : Method} {c : Code} {D : va_G} {ad : Ky → Nat} {tc : Tc} {A : Nat → Prop} {cs sl : Nat} {Qm : State → Prop} (X : Cx p s m args c cX3_isTrue RX3 6 D ad tc A) (hR : RmOK R cs sl 3 90) {Q : Int → Mem → Prop} (hret : RtZ p l e R s m args below meth c D ad tc A cs sl Qm cX3_isTrue Q) {l0 : Int} {l1 : Int} {l2 : Int} {σ : Mem} (hl0 : 0 ≤ l0 ∧ l0 < 4) (h : Pa_isTrue l0 l1 l2 σ Q) : AW p l e R s m args below meth c D ad tc A cs sl Qm 0 [some (.ref (ad (3, l0, 0))), some (.int (oI l1)), some (.int (oI l2)), none, none, none] [] σ := by
  unfold Pa_isTrue at h
  refine aw_iconst X dX3_isTrue_0 ?_
  refine aw_aload_n X dX3_isTrue_1 rfl ?_
  refine aw_get X (ob_3 hl0) fl_X3_57 rfl dX3_isTrue_2 ?_
  refine aw_iconst X dX3_isTrue_5 ?_
  refine aw_imul X dX3_isTrue_6 ?_
  refine aw_ishl X dX3_isTrue_7 ?_
  refine aw_istore_n X dX3_isTrue_8 (Nat.le_of_ble_eq_true rfl) rfl ?_
  obtain ⟨x1, ex1⟩ : ∃ z : Int, z = (iShl 1 ((σ 3 l0 0 0) * 2)) := ⟨_, rfl⟩
  replace h := h x1 ex1
  refine aw_als (als' := [some (.ref (ad (3, l0, 0))), some (.int (oI l1)), some (.int (oI l2)), some (.int (oI x1)), none, none]) (by subst ex1; rfl) ?_
  refine aw_iconst X dX3_isTrue_9 ?_
  refine aw_istore X dX3_isTrue_10 (Nat.le_of_ble_eq_true rfl) rfl ?_
  refine aw_als (als' := [some (.ref (ad (3, l0, 0))), some (.int (oI l1)), some (.int (oI l2)), some (.int (oI x1)), some (.int (oI 0)), none]) rfl ?_
  refine aw_weak (als' := [some (.ref (ad (3, l0, 0))), some (.int (oI l1)), some (.int (oI l2)), some (.int (oI x1)), some (.int (oI 0)), none]) ⟨rfl, rfl, rfl, rfl, rfl, trivial⟩ ?_
  obtain ⟨n0, h⟩ := h
  exact m_Pa_isTrue_12 X hR hret n0 _ _ _ _ _ _ hl0 h
theorem s_Pa_isTrue (l : Launch) (D : va_G) (ad : Ky → Nat) (tc : Tc) (hi : adI ad) {l0 : Int} {l1 : Int} {l2 : Int} (hl0 : 0 ≤ l0 ∧ l0 < 4) {σ : Mem} {Q : Int → Mem → Prop} (h : Pa_isTrue l0 l1 l2 σ Q) : CtI l D ad tc yX3_isTrue cX3_isTrue 6 (some .boolean) { frames := 3, cells := 0, slots := 0, locals := 90 } [.ref (ad (3, l0, 0)), .int (oI l1), .int (oI l2)] σ Q := CtI.mkz (by decide +kernel) hi (Nat.le_of_ble_eq_true rfl) rfl (fun p e s m args below meth c A Qm X hR hret => m_Pa_isTrue_0 X hR hret hl0 h)

set_option maxHeartbeats 4000000 in
set_option maxRecDepth 100000 in
theorem m_Pa_findReasons_80 {p : Program} {l : Launch} {e : Env} {R : Room} {s : State} {m : MethodId} {args : Array Value} {below : List Frame} {meth : Method} {c : Code} {D : va_G} {ad : Ky → Nat} {tc : Tc} {A : Nat → Prop} {cs sl : Nat} {Qm : State → Prop} (X : Cx p s m args c cX3_findReasons RX3 6 D ad tc A) (hR : RmOK R cs sl 4 115) {Q : Mem → Prop} (hret : RtV p l e R s m args below meth c D ad tc A cs sl Qm cX3_findReasons Q) {k36 : Int → Int → Int → Int → Mem → Prop} (hk36 : ∀ (l0 : Int) (l2 : Int) (l3 : Int) (l4 : Int) (σ : Mem) (_ : 0 ≤ l0 ∧ l0 < 4), k36 l0 l2 l3 l4 σ → AW p l e R s m args below meth c D ad tc A cs sl Qm 36 [some (.ref (ad (3, l0, 0))), none, some (.int (oI l2)), some (.int (oI l3)), some (.int (oI l4)), none] [] σ) {l0 : Int} {l2 : Int} {l3 : Int} {l4 : Int} {σ : Mem} (hl0 : 0 ≤ l0 ∧ l0 < 4) (h : Pa_findReasons_80 k36 Q l0 l2 l3 l4 σ) : AW p l e R s m args below meth c D ad tc A cs sl Qm 80 [some (.ref (ad (3, l0, 0))), none, some (.int (oI l2)), some (.int (oI l3)), some (.int (oI l4)), none] [] σ := by
  unfold Pa_findReasons_80 at h
  refine aw_iinc X dX3_findReasons_80 rfl rfl ?_
  obtain ⟨x1, ex1⟩ : ∃ z : Int, z = (l4 + 1) := ⟨_, rfl⟩
  replace h := h x1 ex1
  refine aw_als (als' := [some (.ref (ad (3, l0, 0))), none, some (.int (oI l2)), some (.int (oI l3)), some (.int (oI x1)), none]) (by subst ex1; rfl) ?_
  refine aw_goto X dX3_findReasons_83 (tgt := 36) (by decide) ?_
  refine aw_weak (als' := [some (.ref (ad (3, l0, 0))), none, some (.int (oI l2)), some (.int (oI l3)), some (.int (oI x1)), none]) ⟨rfl, rfl, rfl, rfl, trivial⟩ ?_
  exact hk36 _ _ _ _ _ hl0 h

set_option maxHeartbeats 4000000 in
set_option maxRecDepth 100000 in
theorem m_Pa_findReasons_36 {p : Program} {l : Launch} {e : Env} {R : Room} {s : State} {m : MethodId} {args : Array Value} {below : List Frame} {meth : Method} {c : Code} {D : va_G} {ad : Ky → Nat} {tc : Tc} {A : Nat → Prop} {cs sl : Nat} {Qm : State → Prop} (X : Cx p s m args c cX3_findReasons RX3 6 D ad tc A) (hR : RmOK R cs sl 4 115) {Q : Mem → Prop} (hret : RtV p l e R s m args below meth c D ad tc A cs sl Qm cX3_findReasons Q) : ∀ (n : Nat) (l0 : Int) (l2 : Int) (l3 : Int) (l4 : Int) (σ : Mem) (_ : 0 ≤ l0 ∧ l0 < 4), Pa_findReasons_36 Q n l0 l2 l3 l4 σ → AW p l e R s m args below meth c D ad tc A cs sl Qm 36 [some (.ref (ad (3, l0, 0))), none, some (.int (oI l2)), some (.int (oI l3)), some (.int (oI l4)), none] [] σ := by
  intro n
  induction n with
  | zero =>
    intro l0 l2 l3 l4 σ hl0 h
    exact False.elim h
  | succ n ih =>
    intro l0 l2 l3 l4 σ hl0 h
    unfold Pa_findReasons_36 at h
    refine aw_iload X dX3_findReasons_36 rfl ?_
    refine aw_aload_n X dX3_findReasons_38 rfl ?_
    refine aw_get X (ob_3 hl0) fl_X3_57 rfl dX3_findReasons_39 ?_
    obtain ⟨g1, h⟩ := h
    obtain ⟨g2, h⟩ := h
    refine aw_icmp_ge X dX3_findReasons_42 (tgt := 86) (by decide) g1 g2 (fun hc => ?_) (fun hc => ?_)
    · replace h := h.1 hc
      exact hret 86 _ _ dX3_findReasons_86 h
    · replace h := h.2 hc
      refine aw_aload_n X dX3_findReasons_45 rfl ?_
      refine aw_get X (ob_3 hl0) fl_X3_48 rfl dX3_findReasons_46 ?_
      refine aw_iload X dX3_findReasons_49 rfl ?_
      obtain ⟨g3a, g3b, h⟩ := h
      refine aw_iald X (ar_3_15 hl0) g3a g3b dX3_findReasons_51 ?_
      refine aw_istore X dX3_findReasons_52 (Nat.le_of_ble_eq_true rfl) rfl ?_
      obtain ⟨x4, ex4⟩ : ∃ z : Int, z = (σ 3 l0 15 l4) := ⟨_, rfl⟩
      replace h := h x4 ex4
      refine aw_als (als' := [some (.ref (ad (3, l0, 0))), none, some (.int (oI l2)), some (.int (oI l3)), some (.int (oI l4)), some (.int (oI x4))]) (by subst ex4; rfl) ?_
      refine aw_aload_n X dX3_findReasons_54 rfl ?_
      refine aw_get X (ob_3 hl0) fl_X3_48 rfl dX3_findReasons_55 ?_
      refine aw_iload X dX3_findReasons_58 rfl ?_
      refine aw_iconst X dX3_findReasons_60 ?_
      obtain ⟨g5a, g5b, h⟩ := h
      refine aw_iast X (ar_3_15 hl0) g5a g5b dX3_findReasons_61 ?_
      obtain ⟨σ5, eσ5⟩ : ∃ z : Mem, z = up σ 3 l0 15 l4 (-1) := ⟨_, rfl⟩
      replace h := h σ5 eσ5
      refine aw_mem eσ5 ?_
      refine aw_aload_n X dX3_findReasons_62 rfl ?_
      refine aw_iload_n X dX3_findReasons_63 rfl ?_
      refine aw_iload_n X dX3_findReasons_64 rfl ?_
      refine aw_callVI X hR (s_Pa_isTrue l D ad tc X.2.2.2.2.2.2.1 hl0 h) ml_X3_111 (ob_3 hl0) rfl (by decide) (by decide) rfl rfl rfl rfl (Nat.le_of_ble_eq_true rfl) rfl dX3_findReasons_65 (fun r6 σ6 h => ?_)
      obtain ⟨g7, h⟩ := h
      refine aw_if_ne X dX3_findReasons_68 (tgt := 80) (by decide) g7 (fun hc => ?_) (fun hc => ?_)
      · replace h := h.1 hc
        refine aw_weak (als' := [some (.ref (ad (3, l0, 0))), none, some (.int (oI l2)), some (.int (oI l3)), some (.int (oI l4)), none]) ⟨rfl, rfl, rfl, rfl, trivial⟩ ?_
        exact m_Pa_findReasons_80 X hR hret ih hl0 h
      · replace h := h.2 hc
        refine aw_aload_n X dX3_findReasons_71 rfl ?_
        refine aw_get X (ob_3 hl0) fl_X3_48 rfl dX3_findReasons_72 ?_
        refine aw_iload X dX3_findReasons_75 rfl ?_
        refine aw_iload X dX3_findReasons_77 rfl ?_
        obtain ⟨g8a, g8b, h⟩ := h
        refine aw_iast X (ar_3_15 hl0) g8a g8b dX3_findReasons_79 ?_
        obtain ⟨σ8, eσ8⟩ : ∃ z : Mem, z = up σ6 3 l0 15 l4 x4 := ⟨_, rfl⟩
        replace h := h σ8 eσ8
        refine aw_mem eσ8 ?_
        refine aw_weak (als' := [some (.ref (ad (3, l0, 0))), none, some (.int (oI l2)), some (.int (oI l3)), some (.int (oI l4)), none]) ⟨rfl, rfl, rfl, rfl, trivial⟩ ?_
        exact m_Pa_findReasons_80 X hR hret ih hl0 h

set_option maxHeartbeats 4000000 in
set_option maxRecDepth 100000 in
theorem m_Pa_findReasons_3 {p : Program} {l : Launch} {e : Env} {R : Room} {s : State} {m : MethodId} {args : Array Value} {below : List Frame} {meth : Method} {c : Code} {D : va_G} {ad : Ky → Nat} {tc : Tc} {A : Nat → Prop} {cs sl : Nat} {Qm : State → Prop} (X : Cx p s m args c cX3_findReasons RX3 6 D ad tc A) (hR : RmOK R cs sl 4 115) {Q : Mem → Prop} (hret : RtV p l e R s m args below meth c D ad tc A cs sl Qm cX3_findReasons Q) : ∀ (n : Nat) (l0 : Int) (l1 : Int) (l2 : Int) (l3 : Int) (l4 : Int) (σ : Mem) (_ : 0 ≤ l0 ∧ l0 < 4), Pa_findReasons_3 Q n l0 l1 l2 l3 l4 σ → AW p l e R s m args below meth c D ad tc A cs sl Qm 3 [some (.ref (ad (3, l0, 0))), some (.int (oI l1)), some (.int (oI l2)), some (.int (oI l3)), some (.int (oI l4)), none] [] σ := by
  intro n
  induction n with
  | zero =>
    intro l0 l1 l2 l3 l4 σ hl0 h
    exact False.elim h
  | succ n ih =>
    intro l0 l1 l2 l3 l4 σ hl0 h
    unfold Pa_findReasons_3 at h
    refine aw_iload X dX3_findReasons_3 rfl ?_
    refine aw_aload_n X dX3_findReasons_5 rfl ?_
    refine aw_get X (ob_3 hl0) fl_X3_57 rfl dX3_findReasons_6 ?_
    obtain ⟨g1, h⟩ := h
    obtain ⟨g2, h⟩ := h
    refine aw_icmp_ge X dX3_findReasons_9 (tgt := 33) (by decide) g1 g2 (fun hc => ?_) (fun hc => ?_)
    · replace h := h.1 hc
      refine aw_iconst X dX3_findReasons_33 ?_
      refine aw_istore X dX3_findReasons_34 (Nat.le_of_ble_eq_true rfl) rfl ?_
      refine aw_als (als' := [some (.ref (ad (3, l0, 0))), some (.int (oI l1)), some (.int (oI l2)), some (.int (oI l3)), some (.int (oI 0)), none]) rfl ?_
      refine aw_weak (als' := [some (.ref (ad (3, l0, 0))), none, some (.int (oI l2)), some (.int (oI l3)), some (.int (oI 0)), none]) ⟨rfl, rfl, rfl, rfl, trivial⟩ ?_
      obtain ⟨n0, h⟩ := h
      exact m_Pa_findReasons_36 X hR hret n0 _ _ _ _ _ hl0 h
    · replace h := h.2 hc
      refine aw_aload_n X dX3_findReasons_12 rfl ?_
      refine aw_get X (ob_3 hl0) fl_X3_48 rfl dX3_findReasons_13 ?_
      refine aw_iload X dX3_findReasons_16 rfl ?_
      refine aw_iload_n X dX3_findReasons_18 rfl ?_
      refine aw_iload X dX3_findReasons_19 rfl ?_
      refine aw_iconst X dX3_findReasons_21 ?_
      refine aw_imul X dX3_findReasons_22 ?_
      refine aw_ishr X dX3_findReasons_23 ?_
      refine aw_iconst X dX3_findReasons_24 ?_
      refine aw_iand X dX3_findReasons_25 ?_
      obtain ⟨g3a, g3b, h⟩ := h
      refine aw_iast X (ar_3_15 hl0) g3a g3b dX3_findReasons_26 ?_
      obtain ⟨σ3, eσ3⟩ : ∃ z : Mem, z = up σ 3 l0 15 l4 (iAnd (iShr l1 (l4 * 2)) 3) := ⟨_, rfl⟩
      replace h := h σ3 eσ3
      refine aw_mem eσ3 ?_
      refine aw_iinc X dX3_findReasons_27 rfl rfl ?_
      obtain ⟨x4, ex4⟩ : ∃ z : Int, z = (l4 + 1) := ⟨_, rfl⟩
      replace h := h x4 ex4
      refine aw_als (als' := [some (.ref (ad (3, l0, 0))), some (.int (oI l1)), some (.int (oI l2)), some (.int (oI l3)), some (.int (oI x4)), none]) (by subst ex4; rfl) ?_
      refine aw_goto X dX3_findReasons_30 (tgt := 3) (by decide) ?_
      refine aw_weak (als' := [some (.ref (ad (3, l0, 0))), some (.int (oI l1)), some (.int (oI l2)), some (.int (oI l3)), some (.int (oI x4)), none]) ⟨rfl, rfl, rfl, rfl, rfl, trivial⟩ ?_
      exact ih _ _ _ _ _ _ hl0 h

set_option maxHeartbeats 4000000 in
set_option maxRecDepth 100000 in
theorem m_Pa_findReasons_0 {p : Program} {l : Launch} {e : Env} {R : Room} {s : State} {m : MethodId} {args : Array Value} {below : List Frame} {meth : Method} {c : Code} {D : va_G} {ad : Ky → Nat} {tc : Tc} {A : Nat → Prop} {cs sl : Nat} {Qm : State → Prop} (X : Cx p s m args c cX3_findReasons RX3 6 D ad tc A) (hR : RmOK R cs sl 4 115) {Q : Mem → Prop} (hret : RtV p l e R s m args below meth c D ad tc A cs sl Qm cX3_findReasons Q) {l0 : Int} {l1 : Int} {l2 : Int} {l3 : Int} {σ : Mem} (hl0 : 0 ≤ l0 ∧ l0 < 4) (h : Pa_findReasons l0 l1 l2 l3 σ Q) : AW p l e R s m args below meth c D ad tc A cs sl Qm 0 [some (.ref (ad (3, l0, 0))), some (.int (oI l1)), some (.int (oI l2)), some (.int (oI l3)), none, none] [] σ := by
  unfold Pa_findReasons at h
  refine aw_iconst X dX3_findReasons_0 ?_
  refine aw_istore X dX3_findReasons_1 (Nat.le_of_ble_eq_true rfl) rfl ?_
  refine aw_als (als' := [some (.ref (ad (3, l0, 0))), some (.int (oI l1)), some (.int (oI l2)), some (.int (oI l3)), some (.int (oI 0)), none]) rfl ?_
  refine aw_weak (als' := [some (.ref (ad (3, l0, 0))), some (.int (oI l1)), some (.int (oI l2)), some (.int (oI l3)), some (.int (oI 0)), none]) ⟨rfl, rfl, rfl, rfl, rfl, trivial⟩ ?_
  obtain ⟨n0, h⟩ := h
  exact m_Pa_findReasons_3 X hR hret n0 _ _ _ _ _ _ hl0 h
theorem s_Pa_findReasons (l : Launch) (D : va_G) (ad : Ky → Nat) (tc : Tc) (hi : adI ad) {l0 : Int} {l1 : Int} {l2 : Int} {l3 : Int} (hl0 : 0 ≤ l0 ∧ l0 < 4) {σ : Mem} {Q : Mem → Prop} (h : Pa_findReasons l0 l1 l2 l3 σ Q) : CtV l D ad tc yX3_findReasons cX3_findReasons 6 none { frames := 4, cells := 0, slots := 0, locals := 115 } [.ref (ad (3, l0, 0)), .int (oI l1), .int (oI l2), .int (oI l3)] σ Q := CtV.mk (by decide +kernel) hi (Nat.le_of_ble_eq_true rfl) rfl (fun p e s m args below meth c A Qm X hR hret => m_Pa_findReasons_0 X hR hret hl0 h)

set_option maxHeartbeats 4000000 in
set_option maxRecDepth 100000 in
theorem m_Pa_raiseFloors_73 {p : Program} {l : Launch} {e : Env} {R : Room} {s : State} {m : MethodId} {args : Array Value} {below : List Frame} {meth : Method} {c : Code} {D : va_G} {ad : Ky → Nat} {tc : Tc} {A : Nat → Prop} {cs sl : Nat} {Qm : State → Prop} (X : Cx p s m args c cX3_raiseFloors RX3 6 D ad tc A) (hR : RmOK R cs sl 1 23) {Q : Mem → Prop} (hret : RtV p l e R s m args below meth c D ad tc A cs sl Qm cX3_raiseFloors Q) {k12 : Int → Int → Int → Int → Int → Mem → Prop} (hk12 : ∀ (l0 : Int) (l1 : Int) (l2 : Int) (l3 : Int) (l4 : Int) (σ : Mem) (_ : 0 ≤ l0 ∧ l0 < 4), k12 l0 l1 l2 l3 l4 σ → AW p l e R s m args below meth c D ad tc A cs sl Qm 12 [some (.ref (ad (3, l0, 0))), some (.int (oI l1)), some (.int (oI l2)), some (.int (oI l3)), some (.int (oI l4)), none] [] σ) {l0 : Int} {l1 : Int} {l2 : Int} {l3 : Int} {l4 : Int} {σ : Mem} (hl0 : 0 ≤ l0 ∧ l0 < 4) (h : Pa_raiseFloors_73 k12 Q l0 l1 l2 l3 l4 σ) : AW p l e R s m args below meth c D ad tc A cs sl Qm 73 [some (.ref (ad (3, l0, 0))), some (.int (oI l1)), some (.int (oI l2)), some (.int (oI l3)), some (.int (oI l4)), none] [] σ := by
  unfold Pa_raiseFloors_73 at h
  refine aw_iinc X dX3_raiseFloors_73 rfl rfl ?_
  obtain ⟨x1, ex1⟩ : ∃ z : Int, z = (l4 + 1) := ⟨_, rfl⟩
  replace h := h x1 ex1
  refine aw_als (als' := [some (.ref (ad (3, l0, 0))), some (.int (oI l1)), some (.int (oI l2)), some (.int (oI l3)), some (.int (oI x1)), none]) (by subst ex1; rfl) ?_
  refine aw_goto X dX3_raiseFloors_76 (tgt := 12) (by decide) ?_
  refine aw_weak (als' := [some (.ref (ad (3, l0, 0))), some (.int (oI l1)), some (.int (oI l2)), some (.int (oI l3)), some (.int (oI x1)), none]) ⟨rfl, rfl, rfl, rfl, rfl, trivial⟩ ?_
  exact hk12 _ _ _ _ _ _ hl0 h

set_option maxHeartbeats 4000000 in
set_option maxRecDepth 100000 in
theorem m_Pa_raiseFloors_65 {p : Program} {l : Launch} {e : Env} {R : Room} {s : State} {m : MethodId} {args : Array Value} {below : List Frame} {meth : Method} {c : Code} {D : va_G} {ad : Ky → Nat} {tc : Tc} {A : Nat → Prop} {cs sl : Nat} {Qm : State → Prop} (X : Cx p s m args c cX3_raiseFloors RX3 6 D ad tc A) (hR : RmOK R cs sl 1 23) {Q : Mem → Prop} (hret : RtV p l e R s m args below meth c D ad tc A cs sl Qm cX3_raiseFloors Q) {k12 : Int → Int → Int → Int → Int → Mem → Prop} (hk12 : ∀ (l0 : Int) (l1 : Int) (l2 : Int) (l3 : Int) (l4 : Int) (σ : Mem) (_ : 0 ≤ l0 ∧ l0 < 4), k12 l0 l1 l2 l3 l4 σ → AW p l e R s m args below meth c D ad tc A cs sl Qm 12 [some (.ref (ad (3, l0, 0))), some (.int (oI l1)), some (.int (oI l2)), some (.int (oI l3)), some (.int (oI l4)), none] [] σ) {l0 : Int} {l1 : Int} {l2 : Int} {l3 : Int} {l4 : Int} {l5 : Int} {σ : Mem} (hl0 : 0 ≤ l0 ∧ l0 < 4) (h : Pa_raiseFloors_65 k12 Q l0 l1 l2 l3 l4 l5 σ) : AW p l e R s m args below meth c D ad tc A cs sl Qm 65 [some (.ref (ad (3, l0, 0))), some (.int (oI l1)), some (.int (oI l2)), some (.int (oI l3)), some (.int (oI l4)), some (.int (oI l5))] [] σ := by
  unfold Pa_raiseFloors_65 at h
  refine aw_aload_n X dX3_raiseFloors_65 rfl ?_
  refine aw_get X (ob_3 hl0) fl_X3_36 rfl dX3_raiseFloors_66 ?_
  refine aw_iload X dX3_raiseFloors_69 rfl ?_
  refine aw_iload_n X dX3_raiseFloors_71 rfl ?_
  obtain ⟨g1a, g1b, h⟩ := h
  refine aw_iast X (ar_3_11 hl0) g1a g1b dX3_raiseFloors_72 ?_
  obtain ⟨σ1, eσ1⟩ : ∃ z : Mem, z = up σ 3 l0 11 l5 l2 := ⟨_, rfl⟩
  replace h := h σ1 eσ1
  refine aw_mem eσ1 ?_
  refine aw_weak (als' := [some (.ref (ad (3, l0, 0))), some (.int (oI l1)), some (.int (oI l2)), some (.int (oI l3)), some (.int (oI l4)), none]) ⟨rfl, rfl, rfl, rfl, rfl, trivial⟩ ?_
  exact m_Pa_raiseFloors_73 X hR hret hk12 hl0 h

set_option maxHeartbeats 4000000 in
set_option maxRecDepth 100000 in
theorem m_Pa_raiseFloors_12 {p : Program} {l : Launch} {e : Env} {R : Room} {s : State} {m : MethodId} {args : Array Value} {below : List Frame} {meth : Method} {c : Code} {D : va_G} {ad : Ky → Nat} {tc : Tc} {A : Nat → Prop} {cs sl : Nat} {Qm : State → Prop} (X : Cx p s m args c cX3_raiseFloors RX3 6 D ad tc A) (hR : RmOK R cs sl 1 23) {Q : Mem → Prop} (hret : RtV p l e R s m args below meth c D ad tc A cs sl Qm cX3_raiseFloors Q) : ∀ (n : Nat) (l0 : Int) (l1 : Int) (l2 : Int) (l3 : Int) (l4 : Int) (σ : Mem) (_ : 0 ≤ l0 ∧ l0 < 4), Pa_raiseFloors_12 Q n l0 l1 l2 l3 l4 σ → AW p l e R s m args below meth c D ad tc A cs sl Qm 12 [some (.ref (ad (3, l0, 0))), some (.int (oI l1)), some (.int (oI l2)), some (.int (oI l3)), some (.int (oI l4)), none] [] σ := by
  intro n
  induction n with
  | zero =>
    intro l0 l1 l2 l3 l4 σ hl0 h
    exact False.elim h
  | succ n ih =>
    intro l0 l1 l2 l3 l4 σ hl0 h
    unfold Pa_raiseFloors_12 at h
    refine aw_iload X dX3_raiseFloors_12 rfl ?_
    refine aw_iload_n X dX3_raiseFloors_14 rfl ?_
    obtain ⟨g1, h⟩ := h
    obtain ⟨g2, h⟩ := h
    refine aw_icmp_ge X dX3_raiseFloors_15 (tgt := 79) (by decide) g1 g2 (fun hc => ?_) (fun hc => ?_)
    · replace h := h.1 hc
      exact hret 79 _ _ dX3_raiseFloors_79 h
    · replace h := h.2 hc
      refine aw_iload_n X dX3_raiseFloors_18 rfl ?_
      refine aw_bipush X dX3_raiseFloors_19 rfl ?_
      refine aw_imul X dX3_raiseFloors_21 ?_
      refine aw_iload X dX3_raiseFloors_22 rfl ?_
      refine aw_iadd X dX3_raiseFloors_24 ?_
      refine aw_istore X dX3_raiseFloors_25 (Nat.le_of_ble_eq_true rfl) rfl ?_
      obtain ⟨x3, ex3⟩ : ∃ z : Int, z = ((l1 * 64) + l4) := ⟨_, rfl⟩
      replace h := h x3 ex3
      refine aw_als (als' := [some (.ref (ad (3, l0, 0))), some (.int (oI l1)), some (.int (oI l2)), some (.int (oI l3)), some (.int (oI l4)), some (.int (oI x3))]) (by subst ex3; rfl) ?_
      refine aw_aload_n X dX3_raiseFloors_27 rfl ?_
      refine aw_iload X dX3_raiseFloors_28 rfl ?_
      refine aw_callVI X hR (s_Pa_meets l D ad tc X.2.2.2.2.2.2.1 hl0 h) ml_X3_115 (ob_3 hl0) rfl (by decide) (by decide) rfl rfl rfl rfl (Nat.le_of_ble_eq_true rfl) rfl dX3_raiseFloors_30 (fun r4 σ4 h => ?_)
      obtain ⟨g5, h⟩ := h
      refine aw_if_eq X dX3_raiseFloors_33 (tgt := 73) (by decide) g5 (fun hc => ?_) (fun hc => ?_)
      · replace h := h.1 hc
        refine aw_weak (als' := [some (.ref (ad (3, l0, 0))), some (.int (oI l1)), some (.int (oI l2)), some (.int (oI l3)), some (.int (oI l4)), none]) ⟨rfl, rfl, rfl, rfl, rfl, trivial⟩ ?_
        exact m_Pa_raiseFloors_73 X hR hret ih hl0 h
      · replace h := h.2 hc
        refine aw_aload_n X dX3_raiseFloors_36 rfl ?_
        refine aw_get X (ob_3 hl0) fl_X3_36 rfl dX3_raiseFloors_37 ?_
        refine aw_iload X dX3_raiseFloors_40 rfl ?_
        obtain ⟨g6a, g6b, h⟩ := h
        refine aw_iald X (ar_3_11 hl0) g6a g6b dX3_raiseFloors_42 ?_
        refine aw_bipush X dX3_raiseFloors_43 rfl ?_
        obtain ⟨g7, h⟩ := h
        refine aw_icmp_eq X dX3_raiseFloors_45 (tgt := 73) (by decide) g7 ⟨by decide, by decide⟩ (fun hc => ?_) (fun hc => ?_)
        · replace h := h.1 hc
          refine aw_weak (als' := [some (.ref (ad (3, l0, 0))), some (.int (oI l1)), some (.int (oI l2)), some (.int (oI l3)), some (.int (oI l4)), none]) ⟨rfl, rfl, rfl, rfl, rfl, trivial⟩ ?_
          exact m_Pa_raiseFloors_73 X hR hret ih hl0 h
        · replace h := h.2 hc
          refine aw_iload_n X dX3_raiseFloors_48 rfl ?_
          refine aw_bipush X dX3_raiseFloors_49 rfl ?_
          obtain ⟨g9, h⟩ := h
          refine aw_icmp_eq X dX3_raiseFloors_51 (tgt := 65) (by decide) g9 ⟨by decide, by decide⟩ (fun hc => ?_) (fun hc => ?_)
          · replace h := h.1 hc
            refine aw_weak (als' := [some (.ref (ad (3, l0, 0))), some (.int (oI l1)), some (.int (oI l2)), some (.int (oI l3)), some (.int (oI l4)), some (.int (oI x3))]) ⟨rfl, rfl, rfl, rfl, rfl, rfl, trivial⟩ ?_
            exact m_Pa_raiseFloors_65 X hR hret ih hl0 h
          · replace h := h.2 hc
            refine aw_iload_n X dX3_raiseFloors_54 rfl ?_
            refine aw_aload_n X dX3_raiseFloors_55 rfl ?_
            refine aw_get X (ob_3 hl0) fl_X3_36 rfl dX3_raiseFloors_56 ?_
            refine aw_iload X dX3_raiseFloors_59 rfl ?_
            obtain ⟨g11a, g11b, h⟩ := h
            refine aw_iald X (ar_3_11 hl0) g11a g11b dX3_raiseFloors_61 ?_
            obtain ⟨g12, h⟩ := h
            obtain ⟨g13, h⟩ := h
            refine aw_icmp_le X dX3_raiseFloors_62 (tgt := 73) (by decide) g12 g13 (fun hc => ?_) (fun hc => ?_)
            · replace h := h.1 hc
              refine aw_weak (als' := [some (.ref (ad (3, l0, 0))), some (.int (oI l1)), some (.int (oI l2)), some (.int (oI l3)), some (.int (oI l4)), none]) ⟨rfl, rfl, rfl, rfl, rfl, trivial⟩ ?_
              exact m_Pa_raiseFloors_73 X hR hret ih hl0 h
            · replace h := h.2 hc
              refine aw_weak (als' := [some (.ref (ad (3, l0, 0))), some (.int (oI l1)), some (.int (oI l2)), some (.int (oI l3)), some (.int (oI l4)), some (.int (oI x3))]) ⟨rfl, rfl, rfl, rfl, rfl, rfl, trivial⟩ ?_
              exact m_Pa_raiseFloors_65 X hR hret ih hl0 h

set_option maxHeartbeats 4000000 in
set_option maxRecDepth 100000 in
theorem m_Pa_raiseFloors_0 {p : Program} {l : Launch} {e : Env} {R : Room} {s : State} {m : MethodId} {args : Array Value} {below : List Frame} {meth : Method} {c : Code} {D : va_G} {ad : Ky → Nat} {tc : Tc} {A : Nat → Prop} {cs sl : Nat} {Qm : State → Prop} (X : Cx p s m args c cX3_raiseFloors RX3 6 D ad tc A) (hR : RmOK R cs sl 1 23) {Q : Mem → Prop} (hret : RtV p l e R s m args below meth c D ad tc A cs sl Qm cX3_raiseFloors Q) {l0 : Int} {l1 : Int} {l2 : Int} {σ : Mem} (hl0 : 0 ≤ l0 ∧ l0 < 4) (h : Pa_raiseFloors l0 l1 l2 σ Q) : AW p l e R s m args below meth c D ad tc A cs sl Qm 0 [some (.ref (ad (3, l0, 0))), some (.int (oI l1)), some (.int (oI l2)), none, none, none] [] σ := by
  unfold Pa_raiseFloors at h
  refine aw_iconst X dX3_raiseFloors_0 ?_
  refine aw_aload_n X dX3_raiseFloors_1 rfl ?_
  refine aw_get X (ob_3 hl0) fl_X3_57 rfl dX3_raiseFloors_2 ?_
  refine aw_iconst X dX3_raiseFloors_5 ?_
  refine aw_imul X dX3_raiseFloors_6 ?_
  refine aw_ishl X dX3_raiseFloors_7 ?_
  refine aw_istore_n X dX3_raiseFloors_8 (Nat.le_of_ble_eq_true rfl) rfl ?_
  obtain ⟨x1, ex1⟩ : ∃ z : Int, z = (iShl 1 ((σ 3 l0 0 0) * 2)) := ⟨_, rfl⟩
  replace h := h x1 ex1
  refine aw_als (als' := [some (.ref (ad (3, l0, 0))), some (.int (oI l1)), some (.int (oI l2)), some (.int (oI x1)), none, none]) (by subst ex1; rfl) ?_
  refine aw_iconst X dX3_raiseFloors_9 ?_
  refine aw_istore X dX3_raiseFloors_10 (Nat.le_of_ble_eq_true rfl) rfl ?_
  refine aw_als (als' := [some (.ref (ad (3, l0, 0))), some (.int (oI l1)), some (.int (oI l2)), some (.int (oI x1)), some (.int (oI 0)), none]) rfl ?_
  refine aw_weak (als' := [some (.ref (ad (3, l0, 0))), some (.int (oI l1)), some (.int (oI l2)), some (.int (oI x1)), some (.int (oI 0)), none]) ⟨rfl, rfl, rfl, rfl, rfl, trivial⟩ ?_
  obtain ⟨n0, h⟩ := h
  exact m_Pa_raiseFloors_12 X hR hret n0 _ _ _ _ _ _ hl0 h
theorem s_Pa_raiseFloors (l : Launch) (D : va_G) (ad : Ky → Nat) (tc : Tc) (hi : adI ad) {l0 : Int} {l1 : Int} {l2 : Int} (hl0 : 0 ≤ l0 ∧ l0 < 4) {σ : Mem} {Q : Mem → Prop} (h : Pa_raiseFloors l0 l1 l2 σ Q) : CtV l D ad tc yX3_raiseFloors cX3_raiseFloors 6 none { frames := 1, cells := 0, slots := 0, locals := 23 } [.ref (ad (3, l0, 0)), .int (oI l1), .int (oI l2)] σ Q := CtV.mk (by decide +kernel) hi (Nat.le_of_ble_eq_true rfl) rfl (fun p e s m args below meth c A Qm X hR hret => m_Pa_raiseFloors_0 X hR hret hl0 h)

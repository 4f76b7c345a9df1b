set_option maxHeartbeats 4000000 in
set_option maxRecDepth 100000 in
theorem m_Sr_choice_10 {p : Program} {l : Launch} {e : Env} {R : Room} {s : State} {m : MethodId} {args : Array Value} {below : List Frame} {meth : Method} {c : Code} {D : va_G} {ad : Ky → Nat} {tc : Tc} {A : Nat → Prop} {cs sl : Nat} {Qm : State → Prop} (X : Cx p s m args c cX5_choice RX5 2 D ad tc A) (hR : RmOK R cs sl 1 20) {Q : Int → Mem → Prop} (hret : RtI p l e R s m args below meth c D ad tc A cs sl Qm cX5_choice Q) {σ : Mem} (h : Sr_choice_10 Q σ) : AW p l e R s m args below meth c D ad tc A cs sl Qm 10 [none, none] [] σ := by
  unfold Sr_choice_10 at h
  refine aw_bipush X dX5_choice_10 rfl ?_
  exact hret 12 _ _ _ dX5_choice_12 h

set_option maxHeartbeats 4000000 in
set_option maxRecDepth 100000 in
theorem m_Sr_choice_0 {p : Program} {l : Launch} {e : Env} {R : Room} {s : State} {m : MethodId} {args : Array Value} {below : List Frame} {meth : Method} {c : Code} {D : va_G} {ad : Ky → Nat} {tc : Tc} {A : Nat → Prop} {cs sl : Nat} {Qm : State → Prop} (X : Cx p s m args c cX5_choice RX5 2 D ad tc A) (hR : RmOK R cs sl 1 20) {Q : Int → Mem → Prop} (hret : RtI p l e R s m args below meth c D ad tc A cs sl Qm cX5_choice Q) {l1 : Int} {σ : Mem} (h : Sr_choice l1 σ Q) : AW p l e R s m args below meth c D ad tc A cs sl Qm 0 [some (.ref (ad (5, 0, 0))), some (.int (oI l1))] [] σ := by
  unfold Sr_choice at h
  refine aw_iload_n X dX5_choice_0 rfl ?_
  refine aw_iconst X dX5_choice_1 ?_
  obtain ⟨g1, h⟩ := h
  refine aw_icmp_lt X dX5_choice_2 (tgt := 10) (by decide) g1 ⟨by decide, by decide⟩ (fun hc => ?_) (fun hc => ?_)
  · replace h := h.1 hc
    refine aw_weak (als' := [none, none]) trivial ?_
    exact m_Sr_choice_10 X hR hret h
  · replace h := h.2 hc
    refine aw_iload_n X dX5_choice_5 rfl ?_
    refine aw_iconst X dX5_choice_6 ?_
    obtain ⟨g3, h⟩ := h
    refine aw_icmp_le X dX5_choice_7 (tgt := 13) (by decide) g3 ⟨by decide, by decide⟩ (fun hc => ?_) (fun hc => ?_)
    · replace h := h.1 hc
      refine aw_aload_n X dX5_choice_13 rfl ?_
      refine aw_get X ob_5 fl_X5_12 rfl dX5_choice_14 ?_
      refine aw_get X ob_0 fl_X5_58 rfl dX5_choice_17 ?_
      refine aw_bipush X dX5_choice_20 rfl ?_
      obtain ⟨g5, h⟩ := h
      refine aw_icmp_lt X dX5_choice_22 (tgt := 28) (by decide) g5 ⟨by decide, by decide⟩ (fun hc => ?_) (fun hc => ?_)
      · replace h := h.1 hc
        refine aw_aload_n X dX5_choice_28 rfl ?_
        refine aw_get X ob_5 fl_X5_12 rfl dX5_choice_29 ?_
        refine aw_get X ob_0 fl_X5_61 rfl dX5_choice_32 ?_
        refine aw_aload_n X dX5_choice_35 rfl ?_
        refine aw_get X ob_5 fl_X5_12 rfl dX5_choice_36 ?_
        refine aw_get X ob_0 fl_X5_58 rfl dX5_choice_39 ?_
        refine aw_iload_n X dX5_choice_42 rfl ?_
        obtain ⟨g7a, g7b, h⟩ := h
        refine aw_iast X ar_0_1 g7a g7b dX5_choice_43 ?_
        obtain ⟨σ7, eσ7⟩ : ∃ z : Mem, z = up σ 0 0 1 (σ 0 0 0 0) l1 := ⟨_, rfl⟩
        replace h := h σ7 eσ7
        refine aw_mem eσ7 ?_
        refine aw_aload_n X dX5_choice_44 rfl ?_
        refine aw_get X ob_5 fl_X5_12 rfl dX5_choice_45 ?_
        refine aw_dup X dX5_choice_48 rfl ?_
        refine aw_get X ob_0 fl_X5_58 rfl dX5_choice_49 ?_
        refine aw_iconst X dX5_choice_52 ?_
        refine aw_iadd X dX5_choice_53 ?_
        refine aw_put X ob_0 fl_X5_58 (sf_0_0 ad) rfl rfl dX5_choice_54 ?_
        obtain ⟨σ8, eσ8⟩ : ∃ z : Mem, z = up σ7 0 0 0 0 ((σ7 0 0 0 0) + 1) := ⟨_, rfl⟩
        replace h := h σ8 eσ8
        refine aw_mem eσ8 ?_
        refine aw_aload_n X dX5_choice_57 rfl ?_
        refine aw_get X ob_5 fl_X5_39 rfl dX5_choice_58 ?_
        refine aw_callVV X hR (s_Pg_restart l D ad tc X.2.2.2.2.2.2.1 h) ml_X5_64 ob_4 rfl (by decide) (by decide) rfl rfl rfl rfl (Nat.le_of_ble_eq_true rfl) rfl dX5_choice_61 (fun σ9 h => ?_)
        refine aw_aload_n X dX5_choice_64 rfl ?_
        refine aw_get X ob_5 fl_X5_12 rfl dX5_choice_65 ?_
        refine aw_get X ob_0 fl_X5_58 rfl dX5_choice_68 ?_
        refine aw_iconst X dX5_choice_71 ?_
        refine aw_isub X dX5_choice_72 ?_
        exact hret 73 _ _ _ dX5_choice_73 h
      · replace h := h.2 hc
        refine aw_bipush X dX5_choice_25 rfl ?_
        exact hret 27 _ _ _ dX5_choice_27 h
    · replace h := h.2 hc
      refine aw_weak (als' := [none, none]) trivial ?_
      exact m_Sr_choice_10 X hR hret h
theorem s_Sr_choice (l : Launch) (D : va_G) (ad : Ky → Nat) (tc : Tc) (hi : adI ad) {l1 : Int} {σ : Mem} {Q : Int → Mem → Prop} (h : Sr_choice l1 σ Q) : CtI l D ad tc yX5_choice cX5_choice 2 (some .int) { frames := 1, cells := 0, slots := 0, locals := 20 } [.ref (ad (5, 0, 0)), .int (oI l1)] σ Q := CtI.mk (by decide +kernel) hi (Nat.le_of_ble_eq_true rfl) rfl (fun p e s m args below meth c A Qm X hR hret => m_Sr_choice_0 X hR hret h)

set_option maxHeartbeats 4000000 in
set_option maxRecDepth 100000 in
theorem m_Sr_price_34 {p : Program} {l : Launch} {e : Env} {R : Room} {s : State} {m : MethodId} {args : Array Value} {below : List Frame} {meth : Method} {c : Code} {D : va_G} {ad : Ky → Nat} {tc : Tc} {A : Nat → Prop} {cs sl : Nat} {Qm : State → Prop} (X : Cx p s m args c cX5_price RX5 4 D ad tc A) (hR : RmOK R cs sl 2 43) {Q : Int → Mem → Prop} (hret : RtI p l e R s m args below meth c D ad tc A cs sl Qm cX5_price Q) {l1 : Int} {l2 : Int} {l3 : Int} {σ : Mem} (h : Sr_price_34 Q l1 l2 l3 σ) : AW p l e R s m args below meth c D ad tc A cs sl Qm 34 [some (.ref (ad (5, 0, 0))), some (.int (oI l1)), some (.int (oI l2)), some (.int (oI l3))] [] σ := by
  unfold Sr_price_34 at h
  refine aw_aload_n X dX5_price_34 rfl ?_
  refine aw_get X ob_5 fl_X5_12 rfl dX5_price_35 ?_
  refine aw_get X ob_0 fl_X5_71 rfl dX5_price_38 ?_
  refine aw_iload_n X dX5_price_41 rfl ?_
  refine aw_iconst X dX5_price_42 ?_
  refine aw_imul X dX5_price_43 ?_
  refine aw_iload_n X dX5_price_44 rfl ?_
  refine aw_iadd X dX5_price_45 ?_
  refine aw_iload_n X dX5_price_46 rfl ?_
  obtain ⟨g1a, g1b, h⟩ := h
  refine aw_iast X ar_0_2 g1a g1b dX5_price_47 ?_
  obtain ⟨σ1, eσ1⟩ : ∃ z : Mem, z = up σ 0 0 2 ((l1 * 4) + l2) l3 := ⟨_, rfl⟩
  replace h := h σ1 eσ1
  refine aw_mem eσ1 ?_
  refine aw_aload_n X dX5_price_48 rfl ?_
  refine aw_get X ob_5 fl_X5_39 rfl dX5_price_49 ?_
  refine aw_callVV X hR (s_Pg_restart l D ad tc X.2.2.2.2.2.2.1 h) ml_X5_64 ob_4 rfl (by decide) (by decide) rfl rfl rfl rfl (Nat.le_of_ble_eq_true rfl) rfl dX5_price_52 (fun σ2 h => ?_)
  refine aw_iconst X dX5_price_55 ?_
  exact hret 56 _ _ _ dX5_price_56 h

set_option maxHeartbeats 4000000 in
set_option maxRecDepth 100000 in
theorem m_Sr_price_31 {p : Program} {l : Launch} {e : Env} {R : Room} {s : State} {m : MethodId} {args : Array Value} {below : List Frame} {meth : Method} {c : Code} {D : va_G} {ad : Ky → Nat} {tc : Tc} {A : Nat → Prop} {cs sl : Nat} {Qm : State → Prop} (X : Cx p s m args c cX5_price RX5 4 D ad tc A) (hR : RmOK R cs sl 2 43) {Q : Int → Mem → Prop} (hret : RtI p l e R s m args below meth c D ad tc A cs sl Qm cX5_price Q) {σ : Mem} (h : Sr_price_31 Q σ) : AW p l e R s m args below meth c D ad tc A cs sl Qm 31 [none, none, none, none] [] σ := by
  unfold Sr_price_31 at h
  refine aw_bipush X dX5_price_31 rfl ?_
  exact hret 33 _ _ _ dX5_price_33 h

set_option maxHeartbeats 4000000 in
set_option maxRecDepth 100000 in
theorem m_Sr_price_0 {p : Program} {l : Launch} {e : Env} {R : Room} {s : State} {m : MethodId} {args : Array Value} {below : List Frame} {meth : Method} {c : Code} {D : va_G} {ad : Ky → Nat} {tc : Tc} {A : Nat → Prop} {cs sl : Nat} {Qm : State → Prop} (X : Cx p s m args c cX5_price RX5 4 D ad tc A) (hR : RmOK R cs sl 2 43) {Q : Int → Mem → Prop} (hret : RtI p l e R s m args below meth c D ad tc A cs sl Qm cX5_price Q) {l1 : Int} {l2 : Int} {l3 : Int} {σ : Mem} (h : Sr_price l1 l2 l3 σ Q) : AW p l e R s m args below meth c D ad tc A cs sl Qm 0 [some (.ref (ad (5, 0, 0))), some (.int (oI l1)), some (.int (oI l2)), some (.int (oI l3))] [] σ := by
  unfold Sr_price at h
  refine aw_aload_n X dX5_price_0 rfl ?_
  refine aw_get X ob_5 fl_X5_12 rfl dX5_price_1 ?_
  refine aw_iload_n X dX5_price_4 rfl ?_
  refine aw_iload_n X dX5_price_5 rfl ?_
  refine aw_callVI X hR (s_Ch_knowsValue l D ad tc X.2.2.2.2.2.2.1 h) ml_X5_67 ob_0 rfl (by decide) (by decide) rfl rfl rfl rfl (Nat.le_of_ble_eq_true rfl) rfl dX5_price_6 (fun r1 σ1 h => ?_)
  obtain ⟨g2, h⟩ := h
  refine aw_if_ne X dX5_price_9 (tgt := 14) (by decide) g2 (fun hc => ?_) (fun hc => ?_)
  · replace h := h.1 hc
    refine aw_iload_n X dX5_price_14 rfl ?_
    refine aw_bipush X dX5_price_15 rfl ?_
    obtain ⟨g3, h⟩ := h
    refine aw_icmp_eq X dX5_price_17 (tgt := 34) (by decide) g3 ⟨by decide, by decide⟩ (fun hc => ?_) (fun hc => ?_)
    · replace h := h.1 hc
      refine aw_weak (als' := [some (.ref (ad (5, 0, 0))), some (.int (oI l1)), some (.int (oI l2)), some (.int (oI l3))]) ⟨rfl, rfl, rfl, rfl, trivial⟩ ?_
      exact m_Sr_price_34 X hR hret h
    · replace h := h.2 hc
      refine aw_iload_n X dX5_price_20 rfl ?_
      obtain ⟨g5, h⟩ := h
      refine aw_if_lt X dX5_price_21 (tgt := 31) (by decide) g5 (fun hc => ?_) (fun hc => ?_)
      · replace h := h.1 hc
        refine aw_weak (als' := [none, none, none, none]) trivial ?_
        exact m_Sr_price_31 X hR hret h
      · replace h := h.2 hc
        refine aw_iload_n X dX5_price_24 rfl ?_
        refine aw_sipush X dX5_price_25 rfl ?_
        obtain ⟨g6, h⟩ := h
        refine aw_icmp_le X dX5_price_28 (tgt := 34) (by decide) g6 ⟨by decide, by decide⟩ (fun hc => ?_) (fun hc => ?_)
        · replace h := h.1 hc
          refine aw_weak (als' := [some (.ref (ad (5, 0, 0))), some (.int (oI l1)), some (.int (oI l2)), some (.int (oI l3))]) ⟨rfl, rfl, rfl, rfl, trivial⟩ ?_
          exact m_Sr_price_34 X hR hret h
        · replace h := h.2 hc
          refine aw_weak (als' := [none, none, none, none]) trivial ?_
          exact m_Sr_price_31 X hR hret h
  · replace h := h.2 hc
    refine aw_iconst X dX5_price_12 ?_
    exact hret 13 _ _ _ dX5_price_13 h
theorem s_Sr_price (l : Launch) (D : va_G) (ad : Ky → Nat) (tc : Tc) (hi : adI ad) {l1 : Int} {l2 : Int} {l3 : Int} {σ : Mem} {Q : Int → Mem → Prop} (h : Sr_price l1 l2 l3 σ Q) : CtI l D ad tc yX5_price cX5_price 4 (some .int) { frames := 2, cells := 0, slots := 0, locals := 43 } [.ref (ad (5, 0, 0)), .int (oI l1), .int (oI l2), .int (oI l3)] σ Q := CtI.mk (by decide +kernel) hi (Nat.le_of_ble_eq_true rfl) rfl (fun p e s m args below meth c A Qm X hR hret => m_Sr_price_0 X hR hret h)

set_option maxHeartbeats 4000000 in
set_option maxRecDepth 100000 in
theorem m_Sr_isWeight_16 {p : Program} {l : Launch} {e : Env} {R : Room} {s : State} {m : MethodId} {args : Array Value} {below : List Frame} {meth : Method} {c : Code} {D : va_G} {ad : Ky → Nat} {tc : Tc} {A : Nat → Prop} {cs sl : Nat} {Qm : State → Prop} (X : Cx p s m args c cX5_isWeight RX5 1 D ad tc A) (hR : RmOK R cs sl 0 0) {Q : Int → Mem → Prop} (hret : RtZ p l e R s m args below meth c D ad tc A cs sl Qm cX5_isWeight Q) {s0 : Int} {σ : Mem} (h : Sr_isWeight_16 Q s0 σ) : AW p l e R s m args below meth c D ad tc A cs sl Qm 16 [none] [.int (oI s0)] σ := by
  unfold Sr_isWeight_16 at h
  exact hret 16 _ _ _ dX5_isWeight_16 h.1 h.2

set_option maxHeartbeats 4000000 in
set_option maxRecDepth 100000 in
theorem m_Sr_isWeight_15 {p : Program} {l : Launch} {e : Env} {R : Room} {s : State} {m : MethodId} {args : Array Value} {below : List Frame} {meth : Method} {c : Code} {D : va_G} {ad : Ky → Nat} {tc : Tc} {A : Nat → Prop} {cs sl : Nat} {Qm : State → Prop} (X : Cx p s m args c cX5_isWeight RX5 1 D ad tc A) (hR : RmOK R cs sl 0 0) {Q : Int → Mem → Prop} (hret : RtZ p l e R s m args below meth c D ad tc A cs sl Qm cX5_isWeight Q) {σ : Mem} (h : Sr_isWeight_15 Q σ) : AW p l e R s m args below meth c D ad tc A cs sl Qm 15 [none] [] σ := by
  unfold Sr_isWeight_15 at h
  refine aw_iconst X dX5_isWeight_15 ?_
  refine aw_weak (als' := [none]) trivial ?_
  exact m_Sr_isWeight_16 X hR hret h

set_option maxHeartbeats 4000000 in
set_option maxRecDepth 100000 in
theorem m_Sr_isWeight_0 {p : Program} {l : Launch} {e : Env} {R : Room} {s : State} {m : MethodId} {args : Array Value} {below : List Frame} {meth : Method} {c : Code} {D : va_G} {ad : Ky → Nat} {tc : Tc} {A : Nat → Prop} {cs sl : Nat} {Qm : State → Prop} (X : Cx p s m args c cX5_isWeight RX5 1 D ad tc A) (hR : RmOK R cs sl 0 0) {Q : Int → Mem → Prop} (hret : RtZ p l e R s m args below meth c D ad tc A cs sl Qm cX5_isWeight Q) {l0 : Int} {σ : Mem} (h : Sr_isWeight l0 σ Q) : AW p l e R s m args below meth c D ad tc A cs sl Qm 0 [some (.int (oI l0))] [] σ := by
  unfold Sr_isWeight at h
  refine aw_iload_n X dX5_isWeight_0 rfl ?_
  refine aw_iconst X dX5_isWeight_1 ?_
  obtain ⟨g1, h⟩ := h
  refine aw_icmp_lt X dX5_isWeight_2 (tgt := 15) (by decide) g1 ⟨by decide, by decide⟩ (fun hc => ?_) (fun hc => ?_)
  · replace h := h.1 hc
    refine aw_weak (als' := [none]) trivial ?_
    exact m_Sr_isWeight_15 X hR hret h
  · replace h := h.2 hc
    refine aw_iload_n X dX5_isWeight_5 rfl ?_
    refine aw_bipush X dX5_isWeight_6 rfl ?_
    obtain ⟨g3, h⟩ := h
    refine aw_icmp_gt X dX5_isWeight_8 (tgt := 15) (by decide) g3 ⟨by decide, by decide⟩ (fun hc => ?_) (fun hc => ?_)
    · replace h := h.1 hc
      refine aw_weak (als' := [none]) trivial ?_
      exact m_Sr_isWeight_15 X hR hret h
    · replace h := h.2 hc
      refine aw_iconst X dX5_isWeight_11 ?_
      refine aw_goto X dX5_isWeight_12 (tgt := 16) (by decide) ?_
      refine aw_weak (als' := [none]) trivial ?_
      exact m_Sr_isWeight_16 X hR hret h
theorem s_Sr_isWeight (l : Launch) (D : va_G) (ad : Ky → Nat) (tc : Tc) (hi : adI ad) {l0 : Int} {σ : Mem} {Q : Int → Mem → Prop} (h : Sr_isWeight l0 σ Q) : CtI l D ad tc yX5_isWeight cX5_isWeight 1 (some .boolean) { frames := 0, cells := 0, slots := 0, locals := 0 } [.int (oI l0)] σ Q := CtI.mkz (by decide +kernel) hi (Nat.le_of_ble_eq_true rfl) rfl (fun p e s m args below meth c A Qm X hR hret => m_Sr_isWeight_0 X hR hret h)

set_option maxHeartbeats 4000000 in
set_option maxRecDepth 100000 in
theorem m_Sr_future_0 {p : Program} {l : Launch} {e : Env} {R : Room} {s : State} {m : MethodId} {args : Array Value} {below : List Frame} {meth : Method} {c : Code} {D : va_G} {ad : Ky → Nat} {tc : Tc} {A : Nat → Prop} {cs sl : Nat} {Qm : State → Prop} (X : Cx p s m args c cX5_future RX5 2 D ad tc A) (hR : RmOK R cs sl 1 20) {Q : Int → Mem → Prop} (hret : RtI p l e R s m args below meth c D ad tc A cs sl Qm cX5_future Q) {l1 : Int} {σ : Mem} (h : Sr_future l1 σ Q) : AW p l e R s m args below meth c D ad tc A cs sl Qm 0 [some (.ref (ad (5, 0, 0))), some (.int (oI l1))] [] σ := by
  unfold Sr_future at h
  refine aw_iload_n X dX5_future_0 rfl ?_
  refine aw_callSI X hR (s_Sr_isWeight l D ad tc X.2.2.2.2.2.2.1 h) ms_X5_74 (by decide) (by decide) rfl rfl rfl rfl (Nat.le_of_ble_eq_true rfl) rfl dX5_future_1 (fun r1 σ1 h => ?_)
  obtain ⟨g2, h⟩ := h
  refine aw_if_ne X dX5_future_4 (tgt := 10) (by decide) g2 (fun hc => ?_) (fun hc => ?_)
  · replace h := h.1 hc
    refine aw_aload_n X dX5_future_10 rfl ?_
    refine aw_get X ob_5 fl_X5_19 rfl dX5_future_11 ?_
    refine aw_get X ob_2 fl_X5_78 rfl dX5_future_14 ?_
    refine aw_iconst X dX5_future_17 ?_
    obtain ⟨g3, h⟩ := h
    refine aw_icmp_lt X dX5_future_18 (tgt := 24) (by decide) g3 ⟨by decide, by decide⟩ (fun hc => ?_) (fun hc => ?_)
    · replace h := h.1 hc
      refine aw_aload_n X dX5_future_24 rfl ?_
      refine aw_get X ob_5 fl_X5_19 rfl dX5_future_25 ?_
      refine aw_get X ob_2 fl_X5_79 rfl dX5_future_28 ?_
      refine aw_aload_n X dX5_future_31 rfl ?_
      refine aw_get X ob_5 fl_X5_19 rfl dX5_future_32 ?_
      refine aw_get X ob_2 fl_X5_78 rfl dX5_future_35 ?_
      refine aw_iload_n X dX5_future_38 rfl ?_
      obtain ⟨g5a, g5b, h⟩ := h
      refine aw_iast X ar_2_1 g5a g5b dX5_future_39 ?_
      obtain ⟨σ5, eσ5⟩ : ∃ z : Mem, z = up σ1 2 0 1 (σ1 2 0 0 0) l1 := ⟨_, rfl⟩
      replace h := h σ5 eσ5
      refine aw_mem eσ5 ?_
      refine aw_aload_n X dX5_future_40 rfl ?_
      refine aw_get X ob_5 fl_X5_19 rfl dX5_future_41 ?_
      refine aw_dup X dX5_future_44 rfl ?_
      refine aw_get X ob_2 fl_X5_78 rfl dX5_future_45 ?_
      refine aw_iconst X dX5_future_48 ?_
      refine aw_iadd X dX5_future_49 ?_
      refine aw_put X ob_2 fl_X5_78 (sf_2_0 ad) rfl rfl dX5_future_50 ?_
      obtain ⟨σ6, eσ6⟩ : ∃ z : Mem, z = up σ5 2 0 0 0 ((σ5 2 0 0 0) + 1) := ⟨_, rfl⟩
      replace h := h σ6 eσ6
      refine aw_mem eσ6 ?_
      refine aw_aload_n X dX5_future_53 rfl ?_
      refine aw_get X ob_5 fl_X5_39 rfl dX5_future_54 ?_
      refine aw_callVV X hR (s_Pg_restart l D ad tc X.2.2.2.2.2.2.1 h) ml_X5_64 ob_4 rfl (by decide) (by decide) rfl rfl rfl rfl (Nat.le_of_ble_eq_true rfl) rfl dX5_future_57 (fun σ7 h => ?_)
      refine aw_aload_n X dX5_future_60 rfl ?_
      refine aw_get X ob_5 fl_X5_19 rfl dX5_future_61 ?_
      refine aw_get X ob_2 fl_X5_78 rfl dX5_future_64 ?_
      refine aw_iconst X dX5_future_67 ?_
      refine aw_isub X dX5_future_68 ?_
      exact hret 69 _ _ _ dX5_future_69 h
    · replace h := h.2 hc
      refine aw_bipush X dX5_future_21 rfl ?_
      exact hret 23 _ _ _ dX5_future_23 h
  · replace h := h.2 hc
    refine aw_bipush X dX5_future_7 rfl ?_
    exact hret 9 _ _ _ dX5_future_9 h
theorem s_Sr_future (l : Launch) (D : va_G) (ad : Ky → Nat) (tc : Tc) (hi : adI ad) {l1 : Int} {σ : Mem} {Q : Int → Mem → Prop} (h : Sr_future l1 σ Q) : CtI l D ad tc yX5_future cX5_future 2 (some .int) { frames := 1, cells := 0, slots := 0, locals := 20 } [.ref (ad (5, 0, 0)), .int (oI l1)] σ Q := CtI.mk (by decide +kernel) hi (Nat.le_of_ble_eq_true rfl) rfl (fun p e s m args below meth c A Qm X hR hret => m_Sr_future_0 X hR hret h)

set_option maxHeartbeats 4000000 in
set_option maxRecDepth 100000 in
theorem m_Sr_weight_0 {p : Program} {l : Launch} {e : Env} {R : Room} {s : State} {m : MethodId} {args : Array Value} {below : List Frame} {meth : Method} {c : Code} {D : va_G} {ad : Ky → Nat} {tc : Tc} {A : Nat → Prop} {cs sl : Nat} {Qm : State → Prop} (X : Cx p s m args c cX5_weight RX5 4 D ad tc A) (hR : RmOK R cs sl 1 21) {Q : Int → Mem → Prop} (hret : RtI p l e R s m args below meth c D ad tc A cs sl Qm cX5_weight Q) {l1 : Int} {l2 : Int} {σ : Mem} (h : Sr_weight l1 l2 σ Q) : AW p l e R s m args below meth c D ad tc A cs sl Qm 0 [some (.ref (ad (5, 0, 0))), some (.int (oI l1)), some (.int (oI l2)), none] [] σ := by
  unfold Sr_weight at h
  refine aw_aload_n X dX5_weight_0 rfl ?_
  refine aw_get X ob_5 fl_X5_19 rfl dX5_weight_1 ?_
  refine aw_iload_n X dX5_weight_4 rfl ?_
  refine aw_callVI X hR (s_Fu_knows l D ad tc X.2.2.2.2.2.2.1 h) ml_X5_82 ob_2 rfl (by decide) (by decide) rfl rfl rfl rfl (Nat.le_of_ble_eq_true rfl) rfl dX5_weight_5 (fun r1 σ1 h => ?_)
  obtain ⟨g2, h⟩ := h
  refine aw_if_ne X dX5_weight_8 (tgt := 13) (by decide) g2 (fun hc => ?_) (fun hc => ?_)
  · replace h := h.1 hc
    refine aw_iload_n X dX5_weight_13 rfl ?_
    refine aw_callSI X hR (s_Sr_isWeight l D ad tc X.2.2.2.2.2.2.1 h) ms_X5_74 (by decide) (by decide) rfl rfl rfl rfl (Nat.le_of_ble_eq_true rfl) rfl dX5_weight_14 (fun r3 σ3 h => ?_)
    obtain ⟨g4, h⟩ := h
    refine aw_if_ne X dX5_weight_17 (tgt := 23) (by decide) g4 (fun hc => ?_) (fun hc => ?_)
    · replace h := h.1 hc
      refine aw_aload_n X dX5_weight_23 rfl ?_
      refine aw_get X ob_5 fl_X5_19 rfl dX5_weight_24 ?_
      refine aw_get X ob_2 fl_X5_79 rfl dX5_weight_27 ?_
      refine aw_iload_n X dX5_weight_30 rfl ?_
      obtain ⟨g5a, g5b, h⟩ := h
      refine aw_iald X ar_2_1 g5a g5b dX5_weight_31 ?_
      refine aw_istore_n X dX5_weight_32 (Nat.le_of_ble_eq_true rfl) rfl ?_
      obtain ⟨x6, ex6⟩ : ∃ z : Int, z = (σ3 2 0 1 l1) := ⟨_, rfl⟩
      replace h := h x6 ex6
      refine aw_als (als' := [some (.ref (ad (5, 0, 0))), some (.int (oI l1)), some (.int (oI l2)), some (.int (oI x6))]) (by subst ex6; rfl) ?_
      refine aw_aload_n X dX5_weight_33 rfl ?_
      refine aw_get X ob_5 fl_X5_19 rfl dX5_weight_34 ?_
      refine aw_get X ob_2 fl_X5_79 rfl dX5_weight_37 ?_
      refine aw_iload_n X dX5_weight_40 rfl ?_
      refine aw_iload_n X dX5_weight_41 rfl ?_
      obtain ⟨g7a, g7b, h⟩ := h
      refine aw_iast X ar_2_1 g7a g7b dX5_weight_42 ?_
      obtain ⟨σ7, eσ7⟩ : ∃ z : Mem, z = up σ3 2 0 1 l1 l2 := ⟨_, rfl⟩
      replace h := h σ7 eσ7
      refine aw_mem eσ7 ?_
      refine aw_aload_n X dX5_weight_43 rfl ?_
      refine aw_get X ob_5 fl_X5_39 rfl dX5_weight_44 ?_
      refine aw_callVV X hR (s_Pg_restart l D ad tc X.2.2.2.2.2.2.1 h) ml_X5_64 ob_4 rfl (by decide) (by decide) rfl rfl rfl rfl (Nat.le_of_ble_eq_true rfl) rfl dX5_weight_47 (fun σ8 h => ?_)
      refine aw_iload_n X dX5_weight_50 rfl ?_
      exact hret 51 _ _ _ dX5_weight_51 h
    · replace h := h.2 hc
      refine aw_bipush X dX5_weight_20 rfl ?_
      exact hret 22 _ _ _ dX5_weight_22 h
  · replace h := h.2 hc
    refine aw_iconst X dX5_weight_11 ?_
    exact hret 12 _ _ _ dX5_weight_12 h
theorem s_Sr_weight (l : Launch) (D : va_G) (ad : Ky → Nat) (tc : Tc) (hi : adI ad) {l1 : Int} {l2 : Int} {σ : Mem} {Q : Int → Mem → Prop} (h : Sr_weight l1 l2 σ Q) : CtI l D ad tc yX5_weight cX5_weight 4 (some .int) { frames := 1, cells := 0, slots := 0, locals := 21 } [.ref (ad (5, 0, 0)), .int (oI l1), .int (oI l2)] σ Q := CtI.mk (by decide +kernel) hi (Nat.le_of_ble_eq_true rfl) rfl (fun p e s m args below meth c A Qm X hR hret => m_Sr_weight_0 X hR hret h)

set_option maxHeartbeats 4000000 in
set_option maxRecDepth 100000 in
theorem m_Sr_part_0 {p : Program} {l : Launch} {e : Env} {R : Room} {s : State} {m : MethodId} {args : Array Value} {below : List Frame} {meth : Method} {c : Code} {D : va_G} {ad : Ky → Nat} {tc : Tc} {A : Nat → Prop} {cs sl : Nat} {Qm : State → Prop} (X : Cx p s m args c cX5_part RX5 1 D ad tc A) (hR : RmOK R cs sl 1 20) {Q : Int → Mem → Prop} (hret : RtI p l e R s m args below meth c D ad tc A cs sl Qm cX5_part Q) {σ : Mem} (h : Sr_part σ Q) : AW p l e R s m args below meth c D ad tc A cs sl Qm 0 [some (.ref (ad (5, 0, 0)))] [] σ := by
  unfold Sr_part at h
  refine aw_aload_n X dX5_part_0 rfl ?_
  refine aw_get X ob_5 fl_X5_85 rfl dX5_part_1 ?_
  refine aw_iconst X dX5_part_4 ?_
  obtain ⟨g1, h⟩ := h
  refine aw_icmp_lt X dX5_part_5 (tgt := 11) (by decide) g1 ⟨by decide, by decide⟩ (fun hc => ?_) (fun hc => ?_)
  · replace h := h.1 hc
    refine aw_aload_n X dX5_part_11 rfl ?_
    refine aw_dup X dX5_part_12 rfl ?_
    refine aw_get X ob_5 fl_X5_85 rfl dX5_part_13 ?_
    refine aw_iconst X dX5_part_16 ?_
    refine aw_iadd X dX5_part_17 ?_
    refine aw_put X ob_5 fl_X5_85 (sf_5_3 ad) rfl rfl dX5_part_18 ?_
    obtain ⟨σ3, eσ3⟩ : ∃ z : Mem, z = up σ 5 0 3 0 ((σ 5 0 3 0) + 1) := ⟨_, rfl⟩
    replace h := h σ3 eσ3
    refine aw_mem eσ3 ?_
    refine aw_aload_n X dX5_part_21 rfl ?_
    refine aw_get X ob_5 fl_X5_39 rfl dX5_part_22 ?_
    refine aw_callVV X hR (s_Pg_restart l D ad tc X.2.2.2.2.2.2.1 h) ml_X5_64 ob_4 rfl (by decide) (by decide) rfl rfl rfl rfl (Nat.le_of_ble_eq_true rfl) rfl dX5_part_25 (fun σ4 h => ?_)
    refine aw_aload_n X dX5_part_28 rfl ?_
    refine aw_get X ob_5 fl_X5_85 rfl dX5_part_29 ?_
    refine aw_iconst X dX5_part_32 ?_
    refine aw_isub X dX5_part_33 ?_
    exact hret 34 _ _ _ dX5_part_34 h
  · replace h := h.2 hc
    refine aw_bipush X dX5_part_8 rfl ?_
    exact hret 10 _ _ _ dX5_part_10 h
theorem s_Sr_part (l : Launch) (D : va_G) (ad : Ky → Nat) (tc : Tc) (hi : adI ad) {σ : Mem} {Q : Int → Mem → Prop} (h : Sr_part σ Q) : CtI l D ad tc yX5_part cX5_part 1 (some .int) { frames := 1, cells := 0, slots := 0, locals := 20 } [.ref (ad (5, 0, 0))] σ Q := CtI.mk (by decide +kernel) hi (Nat.le_of_ble_eq_true rfl) rfl (fun p e s m args below meth c A Qm X hR hret => m_Sr_part_0 X hR hret h)

set_option maxHeartbeats 4000000 in
set_option maxRecDepth 100000 in
theorem m_Sr_knowsPart_17 {p : Program} {l : Launch} {e : Env} {R : Room} {s : State} {m : MethodId} {args : Array Value} {below : List Frame} {meth : Method} {c : Code} {D : va_G} {ad : Ky → Nat} {tc : Tc} {A : Nat → Prop} {cs sl : Nat} {Qm : State → Prop} (X : Cx p s m args c cX5_knowsPart RX5 2 D ad tc A) (hR : RmOK R cs sl 0 0) {Q : Int → Mem → Prop} (hret : RtZ p l e R s m args below meth c D ad tc A cs sl Qm cX5_knowsPart Q) {s0 : Int} {σ : Mem} (h : Sr_knowsPart_17 Q s0 σ) : AW p l e R s m args below meth c D ad tc A cs sl Qm 17 [none, none] [.int (oI s0)] σ := by
  unfold Sr_knowsPart_17 at h
  exact hret 17 _ _ _ dX5_knowsPart_17 h.1 h.2

set_option maxHeartbeats 4000000 in
set_option maxRecDepth 100000 in
theorem m_Sr_knowsPart_16 {p : Program} {l : Launch} {e : Env} {R : Room} {s : State} {m : MethodId} {args : Array Value} {below : List Frame} {meth : Method} {c : Code} {D : va_G} {ad : Ky → Nat} {tc : Tc} {A : Nat → Prop} {cs sl : Nat} {Qm : State → Prop} (X : Cx p s m args c cX5_knowsPart RX5 2 D ad tc A) (hR : RmOK R cs sl 0 0) {Q : Int → Mem → Prop} (hret : RtZ p l e R s m args below meth c D ad tc A cs sl Qm cX5_knowsPart Q) {σ : Mem} (h : Sr_knowsPart_16 Q σ) : AW p l e R s m args below meth c D ad tc A cs sl Qm 16 [none, none] [] σ := by
  unfold Sr_knowsPart_16 at h
  refine aw_iconst X dX5_knowsPart_16 ?_
  refine aw_weak (als' := [none, none]) trivial ?_
  exact m_Sr_knowsPart_17 X hR hret h

set_option maxHeartbeats 4000000 in
set_option maxRecDepth 100000 in
theorem m_Sr_knowsPart_0 {p : Program} {l : Launch} {e : Env} {R : Room} {s : State} {m : MethodId} {args : Array Value} {below : List Frame} {meth : Method} {c : Code} {D : va_G} {ad : Ky → Nat} {tc : Tc} {A : Nat → Prop} {cs sl : Nat} {Qm : State → Prop} (X : Cx p s m args c cX5_knowsPart RX5 2 D ad tc A) (hR : RmOK R cs sl 0 0) {Q : Int → Mem → Prop} (hret : RtZ p l e R s m args below meth c D ad tc A cs sl Qm cX5_knowsPart Q) {l1 : Int} {σ : Mem} (h : Sr_knowsPart l1 σ Q) : AW p l e R s m args below meth c D ad tc A cs sl Qm 0 [some (.ref (ad (5, 0, 0))), some (.int (oI l1))] [] σ := by
  unfold Sr_knowsPart at h
  refine aw_iload_n X dX5_knowsPart_0 rfl ?_
  obtain ⟨g1, h⟩ := h
  refine aw_if_lt X dX5_knowsPart_1 (tgt := 16) (by decide) g1 (fun hc => ?_) (fun hc => ?_)
  · replace h := h.1 hc
    refine aw_weak (als' := [none, none]) trivial ?_
    exact m_Sr_knowsPart_16 X hR hret h
  · replace h := h.2 hc
    refine aw_iload_n X dX5_knowsPart_4 rfl ?_
    refine aw_aload_n X dX5_knowsPart_5 rfl ?_
    refine aw_get X ob_5 fl_X5_85 rfl dX5_knowsPart_6 ?_
    obtain ⟨g2, h⟩ := h
    obtain ⟨g3, h⟩ := h
    refine aw_icmp_ge X dX5_knowsPart_9 (tgt := 16) (by decide) g2 g3 (fun hc => ?_) (fun hc => ?_)
    · replace h := h.1 hc
      refine aw_weak (als' := [none, none]) trivial ?_
      exact m_Sr_knowsPart_16 X hR hret h
    · replace h := h.2 hc
      refine aw_iconst X dX5_knowsPart_12 ?_
      refine aw_goto X dX5_knowsPart_13 (tgt := 17) (by decide) ?_
      refine aw_weak (als' := [none, none]) trivial ?_
      exact m_Sr_knowsPart_17 X hR hret h
theorem s_Sr_knowsPart (l : Launch) (D : va_G) (ad : Ky → Nat) (tc : Tc) (hi : adI ad) {l1 : Int} {σ : Mem} {Q : Int → Mem → Prop} (h : Sr_knowsPart l1 σ Q) : CtI l D ad tc yX5_knowsPart cX5_knowsPart 2 (some .boolean) { frames := 0, cells := 0, slots := 0, locals := 0 } [.ref (ad (5, 0, 0)), .int (oI l1)] σ Q := CtI.mkz (by decide +kernel) hi (Nat.le_of_ble_eq_true rfl) rfl (fun p e s m args below meth c A Qm X hR hret => m_Sr_knowsPart_0 X hR hret h)

set_option maxHeartbeats 4000000 in
set_option maxRecDepth 100000 in
theorem m_Sr_retell_0 {p : Program} {l : Launch} {e : Env} {R : Room} {s : State} {m : MethodId} {args : Array Value} {below : List Frame} {meth : Method} {c : Code} {D : va_G} {ad : Ky → Nat} {tc : Tc} {A : Nat → Prop} {cs sl : Nat} {Qm : State → Prop} (X : Cx p s m args c cX5_retell RX5 2 D ad tc A) (hR : RmOK R cs sl 2 46) {Q : Mem → Prop} (hret : RtV p l e R s m args below meth c D ad tc A cs sl Qm cX5_retell Q) {l1 : Int} {σ : Mem} (h : Sr_retell l1 σ Q) : AW p l e R s m args below meth c D ad tc A cs sl Qm 0 [some (.ref (ad (5, 0, 0))), some (.int (oI l1))] [] σ := by
  unfold Sr_retell at h
  refine aw_aload_n X dX5_retell_0 rfl ?_
  refine aw_get X ob_5 fl_X5_25 rfl dX5_retell_1 ?_
  refine aw_iload_n X dX5_retell_4 rfl ?_
  obtain ⟨g1a, g1b, h⟩ := h
  refine aw_aald X g1a g1b dX5_retell_5 ?_
  refine aw_callVV X hR (s_Pa_forget l D ad tc X.2.2.2.2.2.2.1 ⟨g1a, g1b⟩ h) ml_X5_222 (ob_3 ⟨g1a, g1b⟩) rfl (by decide) (by decide) rfl rfl rfl rfl (Nat.le_of_ble_eq_true rfl) rfl dX5_retell_6 (fun σ2 h => ?_)
  refine aw_aload_n X dX5_retell_9 rfl ?_
  refine aw_get X ob_5 fl_X5_32 rfl dX5_retell_10 ?_
  refine aw_iload_n X dX5_retell_13 rfl ?_
  refine aw_callVV X hR (s_Cu_takeAway l D ad tc X.2.2.2.2.2.2.1 h) ml_X5_225 ob_1 rfl (by decide) (by decide) rfl rfl rfl rfl (Nat.le_of_ble_eq_true rfl) rfl dX5_retell_14 (fun σ3 h => ?_)
  refine aw_aload_n X dX5_retell_17 rfl ?_
  refine aw_get X ob_5 fl_X5_39 rfl dX5_retell_18 ?_
  refine aw_callVV X hR (s_Pg_restart l D ad tc X.2.2.2.2.2.2.1 h) ml_X5_64 ob_4 rfl (by decide) (by decide) rfl rfl rfl rfl (Nat.le_of_ble_eq_true rfl) rfl dX5_retell_21 (fun σ4 h => ?_)
  exact hret 24 _ _ dX5_retell_24 h
theorem s_Sr_retell (l : Launch) (D : va_G) (ad : Ky → Nat) (tc : Tc) (hi : adI ad) {l1 : Int} {σ : Mem} {Q : Mem → Prop} (h : Sr_retell l1 σ Q) : CtV l D ad tc yX5_retell cX5_retell 2 none { frames := 2, cells := 0, slots := 0, locals := 46 } [.ref (ad (5, 0, 0)), .int (oI l1)] σ Q := CtV.mk (by decide +kernel) hi (Nat.le_of_ble_eq_true rfl) rfl (fun p e s m args below meth c A Qm X hR hret => m_Sr_retell_0 X hR hret h)

set_option maxHeartbeats 4000000 in
set_option maxRecDepth 100000 in
theorem m_Sr_join_19 {p : Program} {l : Launch} {e : Env} {R : Room} {s : State} {m : MethodId} {args : Array Value} {below : List Frame} {meth : Method} {c : Code} {D : va_G} {ad : Ky → Nat} {tc : Tc} {A : Nat → Prop} {cs sl : Nat} {Qm : State → Prop} (X : Cx p s m args c cX5_join RX5 3 D ad tc A) (hR : RmOK R cs sl 3 67) {Q : Int → Mem → Prop} (hret : RtI p l e R s m args below meth c D ad tc A cs sl Qm cX5_join Q) {σ : Mem} (h : Sr_join_19 Q σ) : AW p l e R s m args below meth c D ad tc A cs sl Qm 19 [none, none, none] [] σ := by
  unfold Sr_join_19 at h
  refine aw_iconst X dX5_join_19 ?_
  exact hret 20 _ _ _ dX5_join_20 h

set_option maxHeartbeats 4000000 in
set_option maxRecDepth 100000 in
theorem m_Sr_join_0 {p : Program} {l : Launch} {e : Env} {R : Room} {s : State} {m : MethodId} {args : Array Value} {below : List Frame} {meth : Method} {c : Code} {D : va_G} {ad : Ky → Nat} {tc : Tc} {A : Nat → Prop} {cs sl : Nat} {Qm : State → Prop} (X : Cx p s m args c cX5_join RX5 3 D ad tc A) (hR : RmOK R cs sl 3 67) {Q : Int → Mem → Prop} (hret : RtI p l e R s m args below meth c D ad tc A cs sl Qm cX5_join Q) {l1 : Int} {l2 : Int} {σ : Mem} (h : Sr_join l1 l2 σ Q) : AW p l e R s m args below meth c D ad tc A cs sl Qm 0 [some (.ref (ad (5, 0, 0))), some (.int (oI l1)), some (.int (oI l2))] [] σ := by
  unfold Sr_join at h
  refine aw_aload_n X dX5_join_0 rfl ?_
  refine aw_iload_n X dX5_join_1 rfl ?_
  refine aw_callVI X hR (s_Sr_knowsPart l D ad tc X.2.2.2.2.2.2.1 h) ml_X5_88 ob_5 rfl (by decide) (by decide) rfl rfl rfl rfl (Nat.le_of_ble_eq_true rfl) rfl dX5_join_2 (fun r1 σ1 h => ?_)
  obtain ⟨g2, h⟩ := h
  refine aw_if_eq X dX5_join_5 (tgt := 19) (by decide) g2 (fun hc => ?_) (fun hc => ?_)
  · replace h := h.1 hc
    refine aw_weak (als' := [none, none, none]) trivial ?_
    exact m_Sr_join_19 X hR hret h
  · replace h := h.2 hc
    refine aw_aload_n X dX5_join_8 rfl ?_
    refine aw_get X ob_5 fl_X5_12 rfl dX5_join_9 ?_
    refine aw_iload_n X dX5_join_12 rfl ?_
    refine aw_callVI X hR (s_Ch_knows l D ad tc X.2.2.2.2.2.2.1 h) ml_X5_91 ob_0 rfl (by decide) (by decide) rfl rfl rfl rfl (Nat.le_of_ble_eq_true rfl) rfl dX5_join_13 (fun r3 σ3 h => ?_)
    obtain ⟨g4, h⟩ := h
    refine aw_if_ne X dX5_join_16 (tgt := 21) (by decide) g4 (fun hc => ?_) (fun hc => ?_)
    · replace h := h.1 hc
      refine aw_aload_n X dX5_join_21 rfl ?_
      refine aw_get X ob_5 fl_X5_25 rfl dX5_join_22 ?_
      refine aw_iload_n X dX5_join_25 rfl ?_
      obtain ⟨g5a, g5b, h⟩ := h
      refine aw_aald X g5a g5b dX5_join_26 ?_
      refine aw_iload_n X dX5_join_27 rfl ?_
      refine aw_callVI X hR (s_Pa_isJoinedTo l D ad tc X.2.2.2.2.2.2.1 ⟨g5a, g5b⟩ h) ml_X5_92 (ob_3 ⟨g5a, g5b⟩) rfl (by decide) (by decide) rfl rfl rfl rfl (Nat.le_of_ble_eq_true rfl) rfl dX5_join_28 (fun r6 σ6 h => ?_)
      obtain ⟨g7, h⟩ := h
      refine aw_if_eq X dX5_join_31 (tgt := 37) (by decide) g7 (fun hc => ?_) (fun hc => ?_)
      · replace h := h.1 hc
        refine aw_aload_n X dX5_join_37 rfl ?_
        refine aw_get X ob_5 fl_X5_25 rfl dX5_join_38 ?_
        refine aw_iload_n X dX5_join_41 rfl ?_
        obtain ⟨g8a, g8b, h⟩ := h
        refine aw_aald X g8a g8b dX5_join_42 ?_
        refine aw_get X (ob_3 ⟨g8a, g8b⟩) fl_X5_95 rfl dX5_join_43 ?_
        refine aw_iconst X dX5_join_46 ?_
        obtain ⟨g9, h⟩ := h
        refine aw_icmp_lt X dX5_join_47 (tgt := 53) (by decide) g9 ⟨by decide, by decide⟩ (fun hc => ?_) (fun hc => ?_)
        · replace h := h.1 hc
          refine aw_aload_n X dX5_join_53 rfl ?_
          refine aw_get X ob_5 fl_X5_25 rfl dX5_join_54 ?_
          refine aw_iload_n X dX5_join_57 rfl ?_
          obtain ⟨g11a, g11b, h⟩ := h
          refine aw_aald X g11a g11b dX5_join_58 ?_
          refine aw_iload_n X dX5_join_59 rfl ?_
          refine aw_aload_n X dX5_join_60 rfl ?_
          refine aw_get X ob_5 fl_X5_12 rfl dX5_join_61 ?_
          refine aw_get X ob_0 fl_X5_61 rfl dX5_join_64 ?_
          refine aw_iload_n X dX5_join_67 rfl ?_
          obtain ⟨g12a, g12b, h⟩ := h
          refine aw_iald X ar_0_1 g12a g12b dX5_join_68 ?_
          refine aw_callVV X hR (s_Pa_joinTo l D ad tc X.2.2.2.2.2.2.1 ⟨g11a, g11b⟩ h) ml_X5_98 (ob_3 ⟨g11a, g11b⟩) rfl (by decide) (by decide) rfl rfl rfl rfl (Nat.le_of_ble_eq_true rfl) rfl dX5_join_69 (fun σ13 h => ?_)
          refine aw_aload_n X dX5_join_72 rfl ?_
          refine aw_iload_n X dX5_join_73 rfl ?_
          refine aw_callVV X hR (s_Sr_retell l D ad tc X.2.2.2.2.2.2.1 h) ml_X5_102 ob_5 rfl (by decide) (by decide) rfl rfl rfl rfl (Nat.le_of_ble_eq_true rfl) rfl dX5_join_74 (fun σ14 h => ?_)
          refine aw_aload_n X dX5_join_77 rfl ?_
          refine aw_get X ob_5 fl_X5_25 rfl dX5_join_78 ?_
          refine aw_iload_n X dX5_join_81 rfl ?_
          obtain ⟨g15a, g15b, h⟩ := h
          refine aw_aald X g15a g15b dX5_join_82 ?_
          refine aw_get X (ob_3 ⟨g15a, g15b⟩) fl_X5_95 rfl dX5_join_83 ?_
          exact hret 86 _ _ _ dX5_join_86 h
        · replace h := h.2 hc
          refine aw_bipush X dX5_join_50 rfl ?_
          exact hret 52 _ _ _ dX5_join_52 h
      · replace h := h.2 hc
        refine aw_bipush X dX5_join_34 rfl ?_
        exact hret 36 _ _ _ dX5_join_36 h
    · replace h := h.2 hc
      refine aw_weak (als' := [none, none, none]) trivial ?_
      exact m_Sr_join_19 X hR hret h
theorem s_Sr_join (l : Launch) (D : va_G) (ad : Ky → Nat) (tc : Tc) (hi : adI ad) {l1 : Int} {l2 : Int} {σ : Mem} {Q : Int → Mem → Prop} (h : Sr_join l1 l2 σ Q) : CtI l D ad tc yX5_join cX5_join 3 (some .int) { frames := 3, cells := 0, slots := 0, locals := 67 } [.ref (ad (5, 0, 0)), .int (oI l1), .int (oI l2)] σ Q := CtI.mk (by decide +kernel) hi (Nat.le_of_ble_eq_true rfl) rfl (fun p e s m args below meth c A Qm X hR hret => m_Sr_join_0 X hR hret h)

set_option maxHeartbeats 4000000 in
set_option maxRecDepth 100000 in
theorem m_Sr_local_30 {p : Program} {l : Launch} {e : Env} {R : Room} {s : State} {m : MethodId} {args : Array Value} {below : List Frame} {meth : Method} {c : Code} {D : va_G} {ad : Ky → Nat} {tc : Tc} {A : Nat → Prop} {cs sl : Nat} {Qm : State → Prop} (X : Cx p s m args c cX5_local RX5 5 D ad tc A) (hR : RmOK R cs sl 3 67) {Q : Int → Mem → Prop} (hret : RtI p l e R s m args below meth c D ad tc A cs sl Qm cX5_local Q) {σ : Mem} (h : Sr_local_30 Q σ) : AW p l e R s m args below meth c D ad tc A cs sl Qm 30 [none, none, none, none, none] [] σ := by
  unfold Sr_local_30 at h
  refine aw_bipush X dX5_local_30 rfl ?_
  exact hret 32 _ _ _ dX5_local_32 h

set_option maxHeartbeats 4000000 in
set_option maxRecDepth 100000 in
theorem m_Sr_local_0 {p : Program} {l : Launch} {e : Env} {R : Room} {s : State} {m : MethodId} {args : Array Value} {below : List Frame} {meth : Method} {c : Code} {D : va_G} {ad : Ky → Nat} {tc : Tc} {A : Nat → Prop} {cs sl : Nat} {Qm : State → Prop} (X : Cx p s m args c cX5_local RX5 5 D ad tc A) (hR : RmOK R cs sl 3 67) {Q : Int → Mem → Prop} (hret : RtI p l e R s m args below meth c D ad tc A cs sl Qm cX5_local Q) {l1 : Int} {l2 : Int} {l3 : Int} {σ : Mem} (h : Sr_local l1 l2 l3 σ Q) : AW p l e R s m args below meth c D ad tc A cs sl Qm 0 [some (.ref (ad (5, 0, 0))), some (.int (oI l1)), some (.int (oI l2)), some (.int (oI l3)), none] [] σ := by
  unfold Sr_local at h
  refine aw_aload_n X dX5_local_0 rfl ?_
  refine aw_iload_n X dX5_local_1 rfl ?_
  refine aw_callVI X hR (s_Sr_knowsPart l D ad tc X.2.2.2.2.2.2.1 h) ml_X5_88 ob_5 rfl (by decide) (by decide) rfl rfl rfl rfl (Nat.le_of_ble_eq_true rfl) rfl dX5_local_2 (fun r1 σ1 h => ?_)
  obtain ⟨g2, h⟩ := h
  refine aw_if_ne X dX5_local_5 (tgt := 10) (by decide) g2 (fun hc => ?_) (fun hc => ?_)
  · replace h := h.1 hc
    refine aw_iload_n X dX5_local_10 rfl ?_
    refine aw_iconst X dX5_local_11 ?_
    obtain ⟨g3, h⟩ := h
    refine aw_icmp_lt X dX5_local_12 (tgt := 30) (by decide) g3 ⟨by decide, by decide⟩ (fun hc => ?_) (fun hc => ?_)
    · replace h := h.1 hc
      refine aw_weak (als' := [none, none, none, none, none]) trivial ?_
      exact m_Sr_local_30 X hR hret h
    · replace h := h.2 hc
      refine aw_iload_n X dX5_local_15 rfl ?_
      refine aw_iconst X dX5_local_16 ?_
      obtain ⟨g5, h⟩ := h
      refine aw_icmp_gt X dX5_local_17 (tgt := 30) (by decide) g5 ⟨by decide, by decide⟩ (fun hc => ?_) (fun hc => ?_)
      · replace h := h.1 hc
        refine aw_weak (als' := [none, none, none, none, none]) trivial ?_
        exact m_Sr_local_30 X hR hret h
      · replace h := h.2 hc
        refine aw_iload_n X dX5_local_20 rfl ?_
        obtain ⟨g7, h⟩ := h
        refine aw_if_lt X dX5_local_21 (tgt := 30) (by decide) g7 (fun hc => ?_) (fun hc => ?_)
        · replace h := h.1 hc
          refine aw_weak (als' := [none, none, none, none, none]) trivial ?_
          exact m_Sr_local_30 X hR hret h
        · replace h := h.2 hc
          refine aw_iload_n X dX5_local_24 rfl ?_
          refine aw_bipush X dX5_local_25 rfl ?_
          obtain ⟨g8, h⟩ := h
          refine aw_icmp_le X dX5_local_27 (tgt := 33) (by decide) g8 ⟨by decide, by decide⟩ (fun hc => ?_) (fun hc => ?_)
          · replace h := h.1 hc
            refine aw_aload_n X dX5_local_33 rfl ?_
            refine aw_get X ob_5 fl_X5_25 rfl dX5_local_34 ?_
            refine aw_iload_n X dX5_local_37 rfl ?_
            obtain ⟨g10a, g10b, h⟩ := h
            refine aw_aald X g10a g10b dX5_local_38 ?_
            refine aw_astore X dX5_local_39 (Nat.le_of_ble_eq_true rfl) rfl ?_
            refine aw_als (als' := [some (.ref (ad (5, 0, 0))), some (.int (oI l1)), some (.int (oI l2)), some (.int (oI l3)), some (.ref (ad (3, l1, 0)))]) rfl ?_
            refine aw_aload X dX5_local_41 rfl ?_
            refine aw_get X (ob_3 ⟨g10a, g10b⟩) fl_X5_106 rfl dX5_local_43 ?_
            refine aw_iconst X dX5_local_46 ?_
            obtain ⟨g11, h⟩ := h
            refine aw_icmp_lt X dX5_local_47 (tgt := 53) (by decide) g11 ⟨by decide, by decide⟩ (fun hc => ?_) (fun hc => ?_)
            · replace h := h.1 hc
              refine aw_aload X dX5_local_53 rfl ?_
              refine aw_get X (ob_3 ⟨g10a, g10b⟩) fl_X5_109 rfl dX5_local_55 ?_
              refine aw_aload X dX5_local_58 rfl ?_
              refine aw_get X (ob_3 ⟨g10a, g10b⟩) fl_X5_106 rfl dX5_local_60 ?_
              refine aw_iload_n X dX5_local_63 rfl ?_
              obtain ⟨g13a, g13b, h⟩ := h
              refine aw_iast X (ar_3_4 ⟨g10a, g10b⟩) g13a g13b dX5_local_64 ?_
              obtain ⟨σ13, eσ13⟩ : ∃ z : Mem, z = up σ1 3 l1 4 (σ1 3 l1 3 0) l2 := ⟨_, rfl⟩
              replace h := h σ13 eσ13
              refine aw_mem eσ13 ?_
              refine aw_aload X dX5_local_65 rfl ?_
              refine aw_get X (ob_3 ⟨g10a, g10b⟩) fl_X5_112 rfl dX5_local_67 ?_
              refine aw_aload X dX5_local_70 rfl ?_
              refine aw_get X (ob_3 ⟨g10a, g10b⟩) fl_X5_106 rfl dX5_local_72 ?_
              refine aw_iload_n X dX5_local_75 rfl ?_
              obtain ⟨g14a, g14b, h⟩ := h
              refine aw_iast X (ar_3_5 ⟨g10a, g10b⟩) g14a g14b dX5_local_76 ?_
              obtain ⟨σ14, eσ14⟩ : ∃ z : Mem, z = up σ13 3 l1 5 (σ13 3 l1 3 0) l3 := ⟨_, rfl⟩
              replace h := h σ14 eσ14
              refine aw_mem eσ14 ?_
              refine aw_aload X dX5_local_77 rfl ?_
              refine aw_dup X dX5_local_79 rfl ?_
              refine aw_get X (ob_3 ⟨g10a, g10b⟩) fl_X5_106 rfl dX5_local_80 ?_
              refine aw_iconst X dX5_local_83 ?_
              refine aw_iadd X dX5_local_84 ?_
              refine aw_put X (ob_3 ⟨g10a, g10b⟩) fl_X5_106 (sf_3_3 ad) rfl rfl dX5_local_85 ?_
              obtain ⟨σ15, eσ15⟩ : ∃ z : Mem, z = up σ14 3 l1 3 0 ((σ14 3 l1 3 0) + 1) := ⟨_, rfl⟩
              replace h := h σ15 eσ15
              refine aw_mem eσ15 ?_
              refine aw_aload_n X dX5_local_88 rfl ?_
              refine aw_iload_n X dX5_local_89 rfl ?_
              refine aw_callVV X hR (s_Sr_retell l D ad tc X.2.2.2.2.2.2.1 h) ml_X5_102 ob_5 rfl (by decide) (by decide) rfl rfl rfl rfl (Nat.le_of_ble_eq_true rfl) rfl dX5_local_90 (fun σ16 h => ?_)
              refine aw_aload X dX5_local_93 rfl ?_
              refine aw_get X (ob_3 ⟨g10a, g10b⟩) fl_X5_106 rfl dX5_local_95 ?_
              refine aw_iconst X dX5_local_98 ?_
              refine aw_isub X dX5_local_99 ?_
              exact hret 100 _ _ _ dX5_local_100 h
            · replace h := h.2 hc
              refine aw_bipush X dX5_local_50 rfl ?_
              exact hret 52 _ _ _ dX5_local_52 h
          · replace h := h.2 hc
            refine aw_weak (als' := [none, none, none, none, none]) trivial ?_
            exact m_Sr_local_30 X hR hret h
  · replace h := h.2 hc
    refine aw_iconst X dX5_local_8 ?_
    exact hret 9 _ _ _ dX5_local_9 h
theorem s_Sr_local (l : Launch) (D : va_G) (ad : Ky → Nat) (tc : Tc) (hi : adI ad) {l1 : Int} {l2 : Int} {l3 : Int} {σ : Mem} {Q : Int → Mem → Prop} (h : Sr_local l1 l2 l3 σ Q) : CtI l D ad tc yX5_local cX5_local 5 (some .int) { frames := 3, cells := 0, slots := 0, locals := 67 } [.ref (ad (5, 0, 0)), .int (oI l1), .int (oI l2), .int (oI l3)] σ Q := CtI.mk (by decide +kernel) hi (Nat.le_of_ble_eq_true rfl) rfl (fun p e s m args below meth c A Qm X hR hret => m_Sr_local_0 X hR hret h)

set_option maxHeartbeats 4000000 in
set_option maxRecDepth 100000 in
theorem m_Sr_isWithin_16 {p : Program} {l : Launch} {e : Env} {R : Room} {s : State} {m : MethodId} {args : Array Value} {below : List Frame} {meth : Method} {c : Code} {D : va_G} {ad : Ky → Nat} {tc : Tc} {A : Nat → Prop} {cs sl : Nat} {Qm : State → Prop} (X : Cx p s m args c cX5_isWithin RX5 2 D ad tc A) (hR : RmOK R cs sl 0 0) {Q : Int → Mem → Prop} (hret : RtZ p l e R s m args below meth c D ad tc A cs sl Qm cX5_isWithin Q) {s0 : Int} {σ : Mem} (h : Sr_isWithin_16 Q s0 σ) : AW p l e R s m args below meth c D ad tc A cs sl Qm 16 [none, none] [.int (oI s0)] σ := by
  unfold Sr_isWithin_16 at h
  exact hret 16 _ _ _ dX5_isWithin_16 h.1 h.2

set_option maxHeartbeats 4000000 in
set_option maxRecDepth 100000 in
theorem m_Sr_isWithin_15 {p : Program} {l : Launch} {e : Env} {R : Room} {s : State} {m : MethodId} {args : Array Value} {below : List Frame} {meth : Method} {c : Code} {D : va_G} {ad : Ky → Nat} {tc : Tc} {A : Nat → Prop} {cs sl : Nat} {Qm : State → Prop} (X : Cx p s m args c cX5_isWithin RX5 2 D ad tc A) (hR : RmOK R cs sl 0 0) {Q : Int → Mem → Prop} (hret : RtZ p l e R s m args below meth c D ad tc A cs sl Qm cX5_isWithin Q) {σ : Mem} (h : Sr_isWithin_15 Q σ) : AW p l e R s m args below meth c D ad tc A cs sl Qm 15 [none, none] [] σ := by
  unfold Sr_isWithin_15 at h
  refine aw_iconst X dX5_isWithin_15 ?_
  refine aw_weak (als' := [none, none]) trivial ?_
  exact m_Sr_isWithin_16 X hR hret h

set_option maxHeartbeats 4000000 in
set_option maxRecDepth 100000 in
theorem m_Sr_isWithin_0 {p : Program} {l : Launch} {e : Env} {R : Room} {s : State} {m : MethodId} {args : Array Value} {below : List Frame} {meth : Method} {c : Code} {D : va_G} {ad : Ky → Nat} {tc : Tc} {A : Nat → Prop} {cs sl : Nat} {Qm : State → Prop} (X : Cx p s m args c cX5_isWithin RX5 2 D ad tc A) (hR : RmOK R cs sl 0 0) {Q : Int → Mem → Prop} (hret : RtZ p l e R s m args below meth c D ad tc A cs sl Qm cX5_isWithin Q) {l0 : Int} {l1 : Int} {σ : Mem} (h : Sr_isWithin l0 l1 σ Q) : AW p l e R s m args below meth c D ad tc A cs sl Qm 0 [some (.int (oI l0)), some (.int (oI l1))] [] σ := by
  unfold Sr_isWithin at h
  refine aw_iload_n X dX5_isWithin_0 rfl ?_
  refine aw_iload_n X dX5_isWithin_1 rfl ?_
  refine aw_ineg X dX5_isWithin_2 ?_
  obtain ⟨g1, h⟩ := h
  obtain ⟨g2, h⟩ := h
  refine aw_icmp_lt X dX5_isWithin_3 (tgt := 15) (by decide) g1 g2 (fun hc => ?_) (fun hc => ?_)
  · replace h := h.1 hc
    refine aw_weak (als' := [none, none]) trivial ?_
    exact m_Sr_isWithin_15 X hR hret h
  · replace h := h.2 hc
    refine aw_iload_n X dX5_isWithin_6 rfl ?_
    refine aw_iload_n X dX5_isWithin_7 rfl ?_
    obtain ⟨g3, h⟩ := h
    obtain ⟨g4, h⟩ := h
    refine aw_icmp_gt X dX5_isWithin_8 (tgt := 15) (by decide) g3 g4 (fun hc => ?_) (fun hc => ?_)
    · replace h := h.1 hc
      refine aw_weak (als' := [none, none]) trivial ?_
      exact m_Sr_isWithin_15 X hR hret h
    · replace h := h.2 hc
      refine aw_iconst X dX5_isWithin_11 ?_
      refine aw_goto X dX5_isWithin_12 (tgt := 16) (by decide) ?_
      refine aw_weak (als' := [none, none]) trivial ?_
      exact m_Sr_isWithin_16 X hR hret h
theorem s_Sr_isWithin (l : Launch) (D : va_G) (ad : Ky → Nat) (tc : Tc) (hi : adI ad) {l0 : Int} {l1 : Int} {σ : Mem} {Q : Int → Mem → Prop} (h : Sr_isWithin l0 l1 σ Q) : CtI l D ad tc yX5_isWithin cX5_isWithin 2 (some .boolean) { frames := 0, cells := 0, slots := 0, locals := 0 } [.int (oI l0), .int (oI l1)] σ Q := CtI.mkz (by decide +kernel) hi (Nat.le_of_ble_eq_true rfl) rfl (fun p e s m args below meth c A Qm X hR hret => m_Sr_isWithin_0 X hR hret h)

set_option maxHeartbeats 4000000 in
set_option maxRecDepth 100000 in
theorem m_Sr_row_0 {p : Program} {l : Launch} {e : Env} {R : Room} {s : State} {m : MethodId} {args : Array Value} {below : List Frame} {meth : Method} {c : Code} {D : va_G} {ad : Ky → Nat} {tc : Tc} {A : Nat → Prop} {cs sl : Nat} {Qm : State → Prop} (X : Cx p s m args c cX5_row RX5 4 D ad tc A) (hR : RmOK R cs sl 3 67) {Q : Int → Mem → Prop} (hret : RtI p l e R s m args below meth c D ad tc A cs sl Qm cX5_row Q) {l1 : Int} {l2 : Int} {σ : Mem} (h : Sr_row l1 l2 σ Q) : AW p l e R s m args below meth c D ad tc A cs sl Qm 0 [some (.ref (ad (5, 0, 0))), some (.int (oI l1)), some (.int (oI l2)), none] [] σ := by
  unfold Sr_row at h
  refine aw_aload_n X dX5_row_0 rfl ?_
  refine aw_iload_n X dX5_row_1 rfl ?_
  refine aw_callVI X hR (s_Sr_knowsPart l D ad tc X.2.2.2.2.2.2.1 h) ml_X5_88 ob_5 rfl (by decide) (by decide) rfl rfl rfl rfl (Nat.le_of_ble_eq_true rfl) rfl dX5_row_2 (fun r1 σ1 h => ?_)
  obtain ⟨g2, h⟩ := h
  refine aw_if_ne X dX5_row_5 (tgt := 10) (by decide) g2 (fun hc => ?_) (fun hc => ?_)
  · replace h := h.1 hc
    refine aw_iload_n X dX5_row_10 rfl ?_
    refine aw_bipush X dX5_row_11 rfl ?_
    refine aw_callSI X hR (s_Sr_isWithin l D ad tc X.2.2.2.2.2.2.1 h) ms_X5_115 (by decide) (by decide) rfl rfl rfl rfl (Nat.le_of_ble_eq_true rfl) rfl dX5_row_13 (fun r3 σ3 h => ?_)
    obtain ⟨g4, h⟩ := h
    refine aw_if_ne X dX5_row_16 (tgt := 22) (by decide) g4 (fun hc => ?_) (fun hc => ?_)
    · replace h := h.1 hc
      refine aw_aload_n X dX5_row_22 rfl ?_
      refine aw_get X ob_5 fl_X5_25 rfl dX5_row_23 ?_
      refine aw_iload_n X dX5_row_26 rfl ?_
      obtain ⟨g5a, g5b, h⟩ := h
      refine aw_aald X g5a g5b dX5_row_27 ?_
      refine aw_astore_n X dX5_row_28 (Nat.le_of_ble_eq_true rfl) rfl ?_
      refine aw_als (als' := [some (.ref (ad (5, 0, 0))), some (.int (oI l1)), some (.int (oI l2)), some (.ref (ad (3, l1, 0)))]) rfl ?_
      refine aw_aload_n X dX5_row_29 rfl ?_
      refine aw_get X (ob_3 ⟨g5a, g5b⟩) fl_X5_118 rfl dX5_row_30 ?_
      refine aw_bipush X dX5_row_33 rfl ?_
      obtain ⟨g6, h⟩ := h
      refine aw_icmp_lt X dX5_row_35 (tgt := 41) (by decide) g6 ⟨by decide, by decide⟩ (fun hc => ?_) (fun hc => ?_)
      · replace h := h.1 hc
        refine aw_aload_n X dX5_row_41 rfl ?_
        refine aw_get X (ob_3 ⟨g5a, g5b⟩) fl_X5_121 rfl dX5_row_42 ?_
        refine aw_aload_n X dX5_row_45 rfl ?_
        refine aw_get X (ob_3 ⟨g5a, g5b⟩) fl_X5_118 rfl dX5_row_46 ?_
        refine aw_iload_n X dX5_row_49 rfl ?_
        obtain ⟨g8a, g8b, h⟩ := h
        refine aw_iast X (ar_3_7 ⟨g5a, g5b⟩) g8a g8b dX5_row_50 ?_
        obtain ⟨σ8, eσ8⟩ : ∃ z : Mem, z = up σ3 3 l1 7 (σ3 3 l1 6 0) l2 := ⟨_, rfl⟩
        replace h := h σ8 eσ8
        refine aw_mem eσ8 ?_
        refine aw_aload_n X dX5_row_51 rfl ?_
        refine aw_dup X dX5_row_52 rfl ?_
        refine aw_get X (ob_3 ⟨g5a, g5b⟩) fl_X5_118 rfl dX5_row_53 ?_
        refine aw_iconst X dX5_row_56 ?_
        refine aw_iadd X dX5_row_57 ?_
        refine aw_put X (ob_3 ⟨g5a, g5b⟩) fl_X5_118 (sf_3_6 ad) rfl rfl dX5_row_58 ?_
        obtain ⟨σ9, eσ9⟩ : ∃ z : Mem, z = up σ8 3 l1 6 0 ((σ8 3 l1 6 0) + 1) := ⟨_, rfl⟩
        replace h := h σ9 eσ9
        refine aw_mem eσ9 ?_
        refine aw_aload_n X dX5_row_61 rfl ?_
        refine aw_iload_n X dX5_row_62 rfl ?_
        refine aw_callVV X hR (s_Sr_retell l D ad tc X.2.2.2.2.2.2.1 h) ml_X5_102 ob_5 rfl (by decide) (by decide) rfl rfl rfl rfl (Nat.le_of_ble_eq_true rfl) rfl dX5_row_63 (fun σ10 h => ?_)
        refine aw_aload_n X dX5_row_66 rfl ?_
        refine aw_get X (ob_3 ⟨g5a, g5b⟩) fl_X5_118 rfl dX5_row_67 ?_
        refine aw_iconst X dX5_row_70 ?_
        refine aw_isub X dX5_row_71 ?_
        exact hret 72 _ _ _ dX5_row_72 h
      · replace h := h.2 hc
        refine aw_bipush X dX5_row_38 rfl ?_
        exact hret 40 _ _ _ dX5_row_40 h
    · replace h := h.2 hc
      refine aw_bipush X dX5_row_19 rfl ?_
      exact hret 21 _ _ _ dX5_row_21 h
  · replace h := h.2 hc
    refine aw_iconst X dX5_row_8 ?_
    exact hret 9 _ _ _ dX5_row_9 h
theorem s_Sr_row (l : Launch) (D : va_G) (ad : Ky → Nat) (tc : Tc) (hi : adI ad) {l1 : Int} {l2 : Int} {σ : Mem} {Q : Int → Mem → Prop} (h : Sr_row l1 l2 σ Q) : CtI l D ad tc yX5_row cX5_row 4 (some .int) { frames := 3, cells := 0, slots := 0, locals := 67 } [.ref (ad (5, 0, 0)), .int (oI l1), .int (oI l2)] σ Q := CtI.mk (by decide +kernel) hi (Nat.le_of_ble_eq_true rfl) rfl (fun p e s m args below meth c A Qm X hR hret => m_Sr_row_0 X hR hret h)

set_option maxHeartbeats 4000000 in
set_option maxRecDepth 100000 in
theorem m_Sr_knowsRow_30 {p : Program} {l : Launch} {e : Env} {R : Room} {s : State} {m : MethodId} {args : Array Value} {below : List Frame} {meth : Method} {c : Code} {D : va_G} {ad : Ky → Nat} {tc : Tc} {A : Nat → Prop} {cs sl : Nat} {Qm : State → Prop} (X : Cx p s m args c cX5_knowsRow RX5 3 D ad tc A) (hR : RmOK R cs sl 1 21) {Q : Int → Mem → Prop} (hret : RtZ p l e R s m args below meth c D ad tc A cs sl Qm cX5_knowsRow Q) {s0 : Int} {σ : Mem} (h : Sr_knowsRow_30 Q s0 σ) : AW p l e R s m args below meth c D ad tc A cs sl Qm 30 [none, none, none] [.int (oI s0)] σ := by
  unfold Sr_knowsRow_30 at h
  exact hret 30 _ _ _ dX5_knowsRow_30 h.1 h.2

set_option maxHeartbeats 4000000 in
set_option maxRecDepth 100000 in
theorem m_Sr_knowsRow_29 {p : Program} {l : Launch} {e : Env} {R : Room} {s : State} {m : MethodId} {args : Array Value} {below : List Frame} {meth : Method} {c : Code} {D : va_G} {ad : Ky → Nat} {tc : Tc} {A : Nat → Prop} {cs sl : Nat} {Qm : State → Prop} (X : Cx p s m args c cX5_knowsRow RX5 3 D ad tc A) (hR : RmOK R cs sl 1 21) {Q : Int → Mem → Prop} (hret : RtZ p l e R s m args below meth c D ad tc A cs sl Qm cX5_knowsRow Q) {σ : Mem} (h : Sr_knowsRow_29 Q σ) : AW p l e R s m args below meth c D ad tc A cs sl Qm 29 [none, none, none] [] σ := by
  unfold Sr_knowsRow_29 at h
  refine aw_iconst X dX5_knowsRow_29 ?_
  refine aw_weak (als' := [none, none, none]) trivial ?_
  exact m_Sr_knowsRow_30 X hR hret h

set_option maxHeartbeats 4000000 in
set_option maxRecDepth 100000 in
theorem m_Sr_knowsRow_0 {p : Program} {l : Launch} {e : Env} {R : Room} {s : State} {m : MethodId} {args : Array Value} {below : List Frame} {meth : Method} {c : Code} {D : va_G} {ad : Ky → Nat} {tc : Tc} {A : Nat → Prop} {cs sl : Nat} {Qm : State → Prop} (X : Cx p s m args c cX5_knowsRow RX5 3 D ad tc A) (hR : RmOK R cs sl 1 21) {Q : Int → Mem → Prop} (hret : RtZ p l e R s m args below meth c D ad tc A cs sl Qm cX5_knowsRow Q) {l1 : Int} {l2 : Int} {σ : Mem} (h : Sr_knowsRow l1 l2 σ Q) : AW p l e R s m args below meth c D ad tc A cs sl Qm 0 [some (.ref (ad (5, 0, 0))), some (.int (oI l1)), some (.int (oI l2))] [] σ := by
  unfold Sr_knowsRow at h
  refine aw_aload_n X dX5_knowsRow_0 rfl ?_
  refine aw_iload_n X dX5_knowsRow_1 rfl ?_
  refine aw_callVI X hR (s_Sr_knowsPart l D ad tc X.2.2.2.2.2.2.1 h) ml_X5_88 ob_5 rfl (by decide) (by decide) rfl rfl rfl rfl (Nat.le_of_ble_eq_true rfl) rfl dX5_knowsRow_2 (fun r1 σ1 h => ?_)
  obtain ⟨g2, h⟩ := h
  refine aw_if_eq X dX5_knowsRow_5 (tgt := 29) (by decide) g2 (fun hc => ?_) (fun hc => ?_)
  · replace h := h.1 hc
    refine aw_weak (als' := [none, none, none]) trivial ?_
    exact m_Sr_knowsRow_29 X hR hret h
  · replace h := h.2 hc
    refine aw_iload_n X dX5_knowsRow_8 rfl ?_
    obtain ⟨g3, h⟩ := h
    refine aw_if_lt X dX5_knowsRow_9 (tgt := 29) (by decide) g3 (fun hc => ?_) (fun hc => ?_)
    · replace h := h.1 hc
      refine aw_weak (als' := [none, none, none]) trivial ?_
      exact m_Sr_knowsRow_29 X hR hret h
    · replace h := h.2 hc
      refine aw_iload_n X dX5_knowsRow_12 rfl ?_
      refine aw_aload_n X dX5_knowsRow_13 rfl ?_
      refine aw_get X ob_5 fl_X5_25 rfl dX5_knowsRow_14 ?_
      refine aw_iload_n X dX5_knowsRow_17 rfl ?_
      obtain ⟨g4a, g4b, h⟩ := h
      refine aw_aald X g4a g4b dX5_knowsRow_18 ?_
      refine aw_get X (ob_3 ⟨g4a, g4b⟩) fl_X5_118 rfl dX5_knowsRow_19 ?_
      obtain ⟨g5, h⟩ := h
      obtain ⟨g6, h⟩ := h
      refine aw_icmp_ge X dX5_knowsRow_22 (tgt := 29) (by decide) g5 g6 (fun hc => ?_) (fun hc => ?_)
      · replace h := h.1 hc
        refine aw_weak (als' := [none, none, none]) trivial ?_
        exact m_Sr_knowsRow_29 X hR hret h
      · replace h := h.2 hc
        refine aw_iconst X dX5_knowsRow_25 ?_
        refine aw_goto X dX5_knowsRow_26 (tgt := 30) (by decide) ?_
        refine aw_weak (als' := [none, none, none]) trivial ?_
        exact m_Sr_knowsRow_30 X hR hret h
theorem s_Sr_knowsRow (l : Launch) (D : va_G) (ad : Ky → Nat) (tc : Tc) (hi : adI ad) {l1 : Int} {l2 : Int} {σ : Mem} {Q : Int → Mem → Prop} (h : Sr_knowsRow l1 l2 σ Q) : CtI l D ad tc yX5_knowsRow cX5_knowsRow 3 (some .boolean) { frames := 1, cells := 0, slots := 0, locals := 21 } [.ref (ad (5, 0, 0)), .int (oI l1), .int (oI l2)] σ Q := CtI.mkz (by decide +kernel) hi (Nat.le_of_ble_eq_true rfl) rfl (fun p e s m args below meth c A Qm X hR hret => m_Sr_knowsRow_0 X hR hret h)

set_option maxHeartbeats 4000000 in
set_option maxRecDepth 100000 in
theorem m_Sr_weigh_78 {p : Program} {l : Launch} {e : Env} {R : Room} {s : State} {m : MethodId} {args : Array Value} {below : List Frame} {meth : Method} {c : Code} {D : va_G} {ad : Ky → Nat} {tc : Tc} {A : Nat → Prop} {cs sl : Nat} {Qm : State → Prop} (X : Cx p s m args c cX5_weigh RX5 9 D ad tc A) (hR : RmOK R cs sl 3 67) {Q : Int → Mem → Prop} (hret : RtI p l e R s m args below meth c D ad tc A cs sl Qm cX5_weigh Q) {l1 : Int} {l5 : Int} {l6 : Int} {s0 : Int} {s1 : Int} {σ : Mem} (hl6 : 0 ≤ l6 ∧ l6 < 4) (h : Sr_weigh_78 Q l1 l5 l6 s0 s1 σ) : AW p l e R s m args below meth c D ad tc A cs sl Qm 78 [some (.ref (ad (5, 0, 0))), some (.int (oI l1)), none, none, none, some (.int (oI l5)), some (.ref (ad (3, l6, 0))), none, none] [.int (oI s1), .int (oI s0)] σ := by
  unfold Sr_weigh_78 at h
  refine aw_iadd X dX5_weigh_78 ?_
  refine aw_istore X dX5_weigh_79 (Nat.le_of_ble_eq_true rfl) rfl ?_
  obtain ⟨x1, ex1⟩ : ∃ z : Int, z = (s0 + s1) := ⟨_, rfl⟩
  replace h := h x1 ex1
  refine aw_als (als' := [some (.ref (ad (5, 0, 0))), some (.int (oI l1)), none, none, none, some (.int (oI l5)), some (.ref (ad (3, l6, 0))), some (.int (oI x1)), none]) (by subst ex1; rfl) ?_
  refine aw_aload X dX5_weigh_81 rfl ?_
  refine aw_get X (ob_3 hl6) fl_X5_130 rfl dX5_weigh_83 ?_
  refine aw_iload X dX5_weigh_86 rfl ?_
  obtain ⟨g2a, g2b, h⟩ := h
  refine aw_iald X (ar_3_8 hl6) g2a g2b dX5_weigh_88 ?_
  refine aw_istore X dX5_weigh_89 (Nat.le_of_ble_eq_true rfl) rfl ?_
  obtain ⟨x3, ex3⟩ : ∃ z : Int, z = (σ 3 l6 8 x1) := ⟨_, rfl⟩
  replace h := h x3 ex3
  refine aw_als (als' := [some (.ref (ad (5, 0, 0))), some (.int (oI l1)), none, none, none, some (.int (oI l5)), some (.ref (ad (3, l6, 0))), some (.int (oI x1)), some (.int (oI x3))]) (by subst ex3; rfl) ?_
  refine aw_aload X dX5_weigh_91 rfl ?_
  refine aw_get X (ob_3 hl6) fl_X5_130 rfl dX5_weigh_93 ?_
  refine aw_iload X dX5_weigh_96 rfl ?_
  refine aw_iload X dX5_weigh_98 rfl ?_
  obtain ⟨g4a, g4b, h⟩ := h
  refine aw_iast X (ar_3_8 hl6) g4a g4b dX5_weigh_100 ?_
  obtain ⟨σ4, eσ4⟩ : ∃ z : Mem, z = up σ 3 l6 8 x1 l5 := ⟨_, rfl⟩
  replace h := h σ4 eσ4
  refine aw_mem eσ4 ?_
  refine aw_aload_n X dX5_weigh_101 rfl ?_
  refine aw_iload_n X dX5_weigh_102 rfl ?_
  refine aw_callVV X hR (s_Sr_retell l D ad tc X.2.2.2.2.2.2.1 h) ml_X5_102 ob_5 rfl (by decide) (by decide) rfl rfl rfl rfl (Nat.le_of_ble_eq_true rfl) rfl dX5_weigh_103 (fun σ5 h => ?_)
  refine aw_iload X dX5_weigh_106 rfl ?_
  exact hret 108 _ _ _ dX5_weigh_108 h

set_option maxHeartbeats 4000000 in
set_option maxRecDepth 100000 in
theorem m_Sr_weigh_48 {p : Program} {l : Launch} {e : Env} {R : Room} {s : State} {m : MethodId} {args : Array Value} {below : List Frame} {meth : Method} {c : Code} {D : va_G} {ad : Ky → Nat} {tc : Tc} {A : Nat → Prop} {cs sl : Nat} {Qm : State → Prop} (X : Cx p s m args c cX5_weigh RX5 9 D ad tc A) (hR : RmOK R cs sl 3 67) {Q : Int → Mem → Prop} (hret : RtI p l e R s m args below meth c D ad tc A cs sl Qm cX5_weigh Q) {l1 : Int} {l2 : Int} {l3 : Int} {l4 : Int} {l5 : Int} {l6 : Int} {σ : Mem} (hl6 : 0 ≤ l6 ∧ l6 < 4) (h : Sr_weigh_48 Q l1 l2 l3 l4 l5 l6 σ) : AW p l e R s m args below meth c D ad tc A cs sl Qm 48 [some (.ref (ad (5, 0, 0))), some (.int (oI l1)), some (.int (oI l2)), some (.int (oI l3)), some (.int (oI l4)), some (.int (oI l5)), some (.ref (ad (3, l6, 0))), none, none] [] σ := by
  unfold Sr_weigh_48 at h
  refine aw_iload X dX5_weigh_48 rfl ?_
  refine aw_bipush X dX5_weigh_50 rfl ?_
  refine aw_callSI X hR (s_Sr_isWithin l D ad tc X.2.2.2.2.2.2.1 h) ms_X5_115 (by decide) (by decide) rfl rfl rfl rfl (Nat.le_of_ble_eq_true rfl) rfl dX5_weigh_52 (fun r1 σ1 h => ?_)
  obtain ⟨g2, h⟩ := h
  refine aw_if_ne X dX5_weigh_55 (tgt := 61) (by decide) g2 (fun hc => ?_) (fun hc => ?_)
  · replace h := h.1 hc
    refine aw_iload_n X dX5_weigh_61 rfl ?_
    refine aw_bipush X dX5_weigh_62 rfl ?_
    refine aw_imul X dX5_weigh_64 ?_
    refine aw_iload_n X dX5_weigh_65 rfl ?_
    obtain ⟨g3, h⟩ := h
    refine aw_if_eq X dX5_weigh_66 (tgt := 76) (by decide) g3 (fun hc => ?_) (fun hc => ?_)
    · replace h := h.1 hc
      refine aw_iload X dX5_weigh_76 rfl ?_
      refine aw_weak (als' := [some (.ref (ad (5, 0, 0))), some (.int (oI l1)), none, none, none, some (.int (oI l5)), some (.ref (ad (3, l6, 0))), none, none]) ⟨rfl, rfl, rfl, rfl, trivial⟩ ?_
      exact m_Sr_weigh_78 X hR hret hl6 h
    · replace h := h.2 hc
      refine aw_iconst X dX5_weigh_69 ?_
      refine aw_iload X dX5_weigh_70 rfl ?_
      refine aw_iadd X dX5_weigh_72 ?_
      refine aw_goto X dX5_weigh_73 (tgt := 78) (by decide) ?_
      refine aw_weak (als' := [some (.ref (ad (5, 0, 0))), some (.int (oI l1)), none, none, none, some (.int (oI l5)), some (.ref (ad (3, l6, 0))), none, none]) ⟨rfl, rfl, rfl, rfl, trivial⟩ ?_
      exact m_Sr_weigh_78 X hR hret hl6 h
  · replace h := h.2 hc
    refine aw_bipush X dX5_weigh_58 rfl ?_
    exact hret 60 _ _ _ dX5_weigh_60 h

set_option maxHeartbeats 4000000 in
set_option maxRecDepth 100000 in
theorem m_Sr_weigh_46 {p : Program} {l : Launch} {e : Env} {R : Room} {s : State} {m : MethodId} {args : Array Value} {below : List Frame} {meth : Method} {c : Code} {D : va_G} {ad : Ky → Nat} {tc : Tc} {A : Nat → Prop} {cs sl : Nat} {Qm : State → Prop} (X : Cx p s m args c cX5_weigh RX5 9 D ad tc A) (hR : RmOK R cs sl 3 67) {Q : Int → Mem → Prop} (hret : RtI p l e R s m args below meth c D ad tc A cs sl Qm cX5_weigh Q) {σ : Mem} (h : Sr_weigh_46 Q σ) : AW p l e R s m args below meth c D ad tc A cs sl Qm 46 [none, none, none, none, none, none, none, none, none] [] σ := by
  unfold Sr_weigh_46 at h
  refine aw_iconst X dX5_weigh_46 ?_
  exact hret 47 _ _ _ dX5_weigh_47 h

set_option maxHeartbeats 4000000 in
set_option maxRecDepth 100000 in
theorem m_Sr_weigh_0 {p : Program} {l : Launch} {e : Env} {R : Room} {s : State} {m : MethodId} {args : Array Value} {below : List Frame} {meth : Method} {c : Code} {D : va_G} {ad : Ky → Nat} {tc : Tc} {A : Nat → Prop} {cs sl : Nat} {Qm : State → Prop} (X : Cx p s m args c cX5_weigh RX5 9 D ad tc A) (hR : RmOK R cs sl 3 67) {Q : Int → Mem → Prop} (hret : RtI p l e R s m args below meth c D ad tc A cs sl Qm cX5_weigh Q) {l1 : Int} {l2 : Int} {l3 : Int} {l4 : Int} {l5 : Int} {σ : Mem} (h : Sr_weigh l1 l2 l3 l4 l5 σ Q) : AW p l e R s m args below meth c D ad tc A cs sl Qm 0 [some (.ref (ad (5, 0, 0))), some (.int (oI l1)), some (.int (oI l2)), some (.int (oI l3)), some (.int (oI l4)), some (.int (oI l5)), none, none, none] [] σ := by
  unfold Sr_weigh at h
  refine aw_aload_n X dX5_weigh_0 rfl ?_
  refine aw_iload_n X dX5_weigh_1 rfl ?_
  refine aw_iload_n X dX5_weigh_2 rfl ?_
  refine aw_callVI X hR (s_Sr_knowsRow l D ad tc X.2.2.2.2.2.2.1 h) ml_X5_124 ob_5 rfl (by decide) (by decide) rfl rfl rfl rfl (Nat.le_of_ble_eq_true rfl) rfl dX5_weigh_3 (fun r1 σ1 h => ?_)
  obtain ⟨g2, h⟩ := h
  refine aw_if_ne X dX5_weigh_6 (tgt := 11) (by decide) g2 (fun hc => ?_) (fun hc => ?_)
  · replace h := h.1 hc
    refine aw_aload_n X dX5_weigh_11 rfl ?_
    refine aw_get X ob_5 fl_X5_25 rfl dX5_weigh_12 ?_
    refine aw_iload_n X dX5_weigh_15 rfl ?_
    obtain ⟨g3a, g3b, h⟩ := h
    refine aw_aald X g3a g3b dX5_weigh_16 ?_
    refine aw_astore X dX5_weigh_17 (Nat.le_of_ble_eq_true rfl) rfl ?_
    refine aw_als (als' := [some (.ref (ad (5, 0, 0))), some (.int (oI l1)), some (.int (oI l2)), some (.int (oI l3)), some (.int (oI l4)), some (.int (oI l5)), some (.ref (ad (3, l1, 0))), none, none]) rfl ?_
    refine aw_iload_n X dX5_weigh_19 rfl ?_
    obtain ⟨g4, h⟩ := h
    refine aw_if_eq X dX5_weigh_20 (tgt := 36) (by decide) g4 (fun hc => ?_) (fun hc => ?_)
    · replace h := h.1 hc
      refine aw_aload X dX5_weigh_36 rfl ?_
      refine aw_iload X dX5_weigh_38 rfl ?_
      refine aw_callVI X hR (s_Pa_knowsLocal l D ad tc X.2.2.2.2.2.2.1 ⟨g3a, g3b⟩ h) ml_X5_127 (ob_3 ⟨g3a, g3b⟩) rfl (by decide) (by decide) rfl rfl rfl rfl (Nat.le_of_ble_eq_true rfl) rfl dX5_weigh_40 (fun r5 σ5 h => ?_)
      obtain ⟨g6, h⟩ := h
      refine aw_if_ne X dX5_weigh_43 (tgt := 48) (by decide) g6 (fun hc => ?_) (fun hc => ?_)
      · replace h := h.1 hc
        refine aw_weak (als' := [some (.ref (ad (5, 0, 0))), some (.int (oI l1)), some (.int (oI l2)), some (.int (oI l3)), some (.int (oI l4)), some (.int (oI l5)), some (.ref (ad (3, l1, 0))), none, none]) ⟨rfl, rfl, rfl, rfl, rfl, rfl, rfl, trivial⟩ ?_
        exact m_Sr_weigh_48 X hR hret ⟨g3a, g3b⟩ h
      · replace h := h.2 hc
        refine aw_weak (als' := [none, none, none, none, none, none, none, none, none]) trivial ?_
        exact m_Sr_weigh_46 X hR hret h
    · replace h := h.2 hc
      refine aw_aload X dX5_weigh_23 rfl ?_
      refine aw_iload X dX5_weigh_25 rfl ?_
      refine aw_callVI X hR (s_Pa_isJoinedTo l D ad tc X.2.2.2.2.2.2.1 ⟨g3a, g3b⟩ h) ml_X5_92 (ob_3 ⟨g3a, g3b⟩) rfl (by decide) (by decide) rfl rfl rfl rfl (Nat.le_of_ble_eq_true rfl) rfl dX5_weigh_27 (fun r7 σ7 h => ?_)
      obtain ⟨g8, h⟩ := h
      refine aw_if_ne X dX5_weigh_30 (tgt := 48) (by decide) g8 (fun hc => ?_) (fun hc => ?_)
      · replace h := h.1 hc
        refine aw_weak (als' := [some (.ref (ad (5, 0, 0))), some (.int (oI l1)), some (.int (oI l2)), some (.int (oI l3)), some (.int (oI l4)), some (.int (oI l5)), some (.ref (ad (3, l1, 0))), none, none]) ⟨rfl, rfl, rfl, rfl, rfl, rfl, rfl, trivial⟩ ?_
        exact m_Sr_weigh_48 X hR hret ⟨g3a, g3b⟩ h
      · replace h := h.2 hc
        refine aw_goto X dX5_weigh_33 (tgt := 46) (by decide) ?_
        refine aw_weak (als' := [none, none, none, none, none, none, none, none, none]) trivial ?_
        exact m_Sr_weigh_46 X hR hret h
  · replace h := h.2 hc
    refine aw_iconst X dX5_weigh_9 ?_
    exact hret 10 _ _ _ dX5_weigh_10 h
theorem s_Sr_weigh (l : Launch) (D : va_G) (ad : Ky → Nat) (tc : Tc) (hi : adI ad) {l1 : Int} {l2 : Int} {l3 : Int} {l4 : Int} {l5 : Int} {σ : Mem} {Q : Int → Mem → Prop} (h : Sr_weigh l1 l2 l3 l4 l5 σ Q) : CtI l D ad tc yX5_weigh cX5_weigh 9 (some .int) { frames := 3, cells := 0, slots := 0, locals := 67 } [.ref (ad (5, 0, 0)), .int (oI l1), .int (oI l2), .int (oI l3), .int (oI l4), .int (oI l5)] σ Q := CtI.mk (by decide +kernel) hi (Nat.le_of_ble_eq_true rfl) rfl (fun p e s m args below meth c A Qm X hR hret => m_Sr_weigh_0 X hR hret h)

set_option maxHeartbeats 4000000 in
set_option maxRecDepth 100000 in
theorem m_Sr_shift_20 {p : Program} {l : Launch} {e : Env} {R : Room} {s : State} {m : MethodId} {args : Array Value} {below : List Frame} {meth : Method} {c : Code} {D : va_G} {ad : Ky → Nat} {tc : Tc} {A : Nat → Prop} {cs sl : Nat} {Qm : State → Prop} (X : Cx p s m args c cX5_shift RX5 7 D ad tc A) (hR : RmOK R cs sl 3 67) {Q : Int → Mem → Prop} (hret : RtI p l e R s m args below meth c D ad tc A cs sl Qm cX5_shift Q) {σ : Mem} (h : Sr_shift_20 Q σ) : AW p l e R s m args below meth c D ad tc A cs sl Qm 20 [none, none, none, none, none, none, none] [] σ := by
  unfold Sr_shift_20 at h
  refine aw_iconst X dX5_shift_20 ?_
  exact hret 21 _ _ _ dX5_shift_21 h

set_option maxHeartbeats 4000000 in
set_option maxRecDepth 100000 in
theorem m_Sr_shift_0 {p : Program} {l : Launch} {e : Env} {R : Room} {s : State} {m : MethodId} {args : Array Value} {below : List Frame} {meth : Method} {c : Code} {D : va_G} {ad : Ky → Nat} {tc : Tc} {A : Nat → Prop} {cs sl : Nat} {Qm : State → Prop} (X : Cx p s m args c cX5_shift RX5 7 D ad tc A) (hR : RmOK R cs sl 3 67) {Q : Int → Mem → Prop} (hret : RtI p l e R s m args below meth c D ad tc A cs sl Qm cX5_shift Q) {l1 : Int} {l2 : Int} {l3 : Int} {l4 : Int} {σ : Mem} (h : Sr_shift l1 l2 l3 l4 σ Q) : AW p l e R s m args below meth c D ad tc A cs sl Qm 0 [some (.ref (ad (5, 0, 0))), some (.int (oI l1)), some (.int (oI l2)), some (.int (oI l3)), some (.int (oI l4)), none, none] [] σ := by
  unfold Sr_shift at h
  refine aw_aload_n X dX5_shift_0 rfl ?_
  refine aw_get X ob_5 fl_X5_19 rfl dX5_shift_1 ?_
  refine aw_iload_n X dX5_shift_4 rfl ?_
  refine aw_callVI X hR (s_Fu_knows l D ad tc X.2.2.2.2.2.2.1 h) ml_X5_82 ob_2 rfl (by decide) (by decide) rfl rfl rfl rfl (Nat.le_of_ble_eq_true rfl) rfl dX5_shift_5 (fun r1 σ1 h => ?_)
  obtain ⟨g2, h⟩ := h
  refine aw_if_eq X dX5_shift_8 (tgt := 20) (by decide) g2 (fun hc => ?_) (fun hc => ?_)
  · replace h := h.1 hc
    refine aw_weak (als' := [none, none, none, none, none, none, none]) trivial ?_
    exact m_Sr_shift_20 X hR hret h
  · replace h := h.2 hc
    refine aw_aload_n X dX5_shift_11 rfl ?_
    refine aw_iload_n X dX5_shift_12 rfl ?_
    refine aw_iload_n X dX5_shift_13 rfl ?_
    refine aw_callVI X hR (s_Sr_knowsRow l D ad tc X.2.2.2.2.2.2.1 h) ml_X5_124 ob_5 rfl (by decide) (by decide) rfl rfl rfl rfl (Nat.le_of_ble_eq_true rfl) rfl dX5_shift_14 (fun r3 σ3 h => ?_)
    obtain ⟨g4, h⟩ := h
    refine aw_if_ne X dX5_shift_17 (tgt := 22) (by decide) g4 (fun hc => ?_) (fun hc => ?_)
    · replace h := h.1 hc
      refine aw_iload X dX5_shift_22 rfl ?_
      refine aw_bipush X dX5_shift_24 rfl ?_
      refine aw_callSI X hR (s_Sr_isWithin l D ad tc X.2.2.2.2.2.2.1 h) ms_X5_115 (by decide) (by decide) rfl rfl rfl rfl (Nat.le_of_ble_eq_true rfl) rfl dX5_shift_26 (fun r5 σ5 h => ?_)
      obtain ⟨g6, h⟩ := h
      refine aw_if_ne X dX5_shift_29 (tgt := 35) (by decide) g6 (fun hc => ?_) (fun hc => ?_)
      · replace h := h.1 hc
        refine aw_iload_n X dX5_shift_35 rfl ?_
        refine aw_bipush X dX5_shift_36 rfl ?_
        refine aw_imul X dX5_shift_38 ?_
        refine aw_iload_n X dX5_shift_39 rfl ?_
        refine aw_iadd X dX5_shift_40 ?_
        refine aw_istore X dX5_shift_41 (Nat.le_of_ble_eq_true rfl) rfl ?_
        obtain ⟨x7, ex7⟩ : ∃ z : Int, z = ((l1 * 6) + l3) := ⟨_, rfl⟩
        replace h := h x7 ex7
        refine aw_als (als' := [some (.ref (ad (5, 0, 0))), some (.int (oI l1)), some (.int (oI l2)), some (.int (oI l3)), some (.int (oI l4)), some (.int (oI x7)), none]) (by subst ex7; rfl) ?_
        refine aw_aload_n X dX5_shift_43 rfl ?_
        refine aw_get X ob_5 fl_X5_25 rfl dX5_shift_44 ?_
        refine aw_iload_n X dX5_shift_47 rfl ?_
        obtain ⟨g8a, g8b, h⟩ := h
        refine aw_aald X g8a g8b dX5_shift_48 ?_
        refine aw_get X (ob_3 ⟨g8a, g8b⟩) fl_X5_133 rfl dX5_shift_49 ?_
        refine aw_iload X dX5_shift_52 rfl ?_
        obtain ⟨g9a, g9b, h⟩ := h
        refine aw_iald X (ar_3_9 ⟨g8a, g8b⟩) g9a g9b dX5_shift_54 ?_
        refine aw_istore X dX5_shift_55 (Nat.le_of_ble_eq_true rfl) rfl ?_
        obtain ⟨x10, ex10⟩ : ∃ z : Int, z = (σ5 3 l2 9 x7) := ⟨_, rfl⟩
        replace h := h x10 ex10
        refine aw_als (als' := [some (.ref (ad (5, 0, 0))), some (.int (oI l1)), some (.int (oI l2)), some (.int (oI l3)), some (.int (oI l4)), some (.int (oI x7)), some (.int (oI x10))]) (by subst ex10; rfl) ?_
        refine aw_aload_n X dX5_shift_57 rfl ?_
        refine aw_get X ob_5 fl_X5_25 rfl dX5_shift_58 ?_
        refine aw_iload_n X dX5_shift_61 rfl ?_
        obtain ⟨g11a, g11b, h⟩ := h
        refine aw_aald X g11a g11b dX5_shift_62 ?_
        refine aw_get X (ob_3 ⟨g11a, g11b⟩) fl_X5_133 rfl dX5_shift_63 ?_
        refine aw_iload X dX5_shift_66 rfl ?_
        refine aw_iload X dX5_shift_68 rfl ?_
        obtain ⟨g12a, g12b, h⟩ := h
        refine aw_iast X (ar_3_9 ⟨g11a, g11b⟩) g12a g12b dX5_shift_70 ?_
        obtain ⟨σ12, eσ12⟩ : ∃ z : Mem, z = up σ5 3 l2 9 x7 l4 := ⟨_, rfl⟩
        replace h := h σ12 eσ12
        refine aw_mem eσ12 ?_
        refine aw_aload_n X dX5_shift_71 rfl ?_
        refine aw_iload_n X dX5_shift_72 rfl ?_
        refine aw_callVV X hR (s_Sr_retell l D ad tc X.2.2.2.2.2.2.1 h) ml_X5_102 ob_5 rfl (by decide) (by decide) rfl rfl rfl rfl (Nat.le_of_ble_eq_true rfl) rfl dX5_shift_73 (fun σ13 h => ?_)
        refine aw_iload X dX5_shift_76 rfl ?_
        exact hret 78 _ _ _ dX5_shift_78 h
      · replace h := h.2 hc
        refine aw_bipush X dX5_shift_32 rfl ?_
        exact hret 34 _ _ _ dX5_shift_34 h
    · replace h := h.2 hc
      refine aw_weak (als' := [none, none, none, none, none, none, none]) trivial ?_
      exact m_Sr_shift_20 X hR hret h
theorem s_Sr_shift (l : Launch) (D : va_G) (ad : Ky → Nat) (tc : Tc) (hi : adI ad) {l1 : Int} {l2 : Int} {l3 : Int} {l4 : Int} {σ : Mem} {Q : Int → Mem → Prop} (h : Sr_shift l1 l2 l3 l4 σ Q) : CtI l D ad tc yX5_shift cX5_shift 7 (some .int) { frames := 3, cells := 0, slots := 0, locals := 67 } [.ref (ad (5, 0, 0)), .int (oI l1), .int (oI l2), .int (oI l3), .int (oI l4)] σ Q := CtI.mk (by decide +kernel) hi (Nat.le_of_ble_eq_true rfl) rfl (fun p e s m args below meth c A Qm X hR hret => m_Sr_shift_0 X hR hret h)

set_option maxHeartbeats 4000000 in
set_option maxRecDepth 100000 in
theorem m_Sr_costOfStage_113 {p : Program} {l : Launch} {e : Env} {R : Room} {s : State} {m : MethodId} {args : Array Value} {below : List Frame} {meth : Method} {c : Code} {D : va_G} {ad : Ky → Nat} {tc : Tc} {A : Nat → Prop} {cs sl : Nat} {Qm : State → Prop} (X : Cx p s m args c cX5_costOfStage RX5 6 D ad tc A) (hR : RmOK R cs sl 4 117) {Q : Int → Mem → Prop} (hret : RtI p l e R s m args below meth c D ad tc A cs sl Qm cX5_costOfStage Q) {k54 : Int → Int → Int → Int → Mem → Prop} (hk54 : ∀ (l1 : Int) (l2 : Int) (l3 : Int) (l4 : Int) (σ : Mem), k54 l1 l2 l3 l4 σ → AW p l e R s m args below meth c D ad tc A cs sl Qm 54 [some (.ref (ad (5, 0, 0))), some (.int (oI l1)), some (.int (oI l2)), some (.int (oI l3)), some (.int (oI l4)), none] [] σ) {l1 : Int} {l2 : Int} {l3 : Int} {l4 : Int} {σ : Mem} (h : Sr_costOfStage_113 k54 Q l1 l2 l3 l4 σ) : AW p l e R s m args below meth c D ad tc A cs sl Qm 113 [some (.ref (ad (5, 0, 0))), some (.int (oI l1)), some (.int (oI l2)), some (.int (oI l3)), some (.int (oI l4)), none] [] σ := by
  unfold Sr_costOfStage_113 at h
  refine aw_iinc X dX5_costOfStage_113 rfl rfl ?_
  obtain ⟨x1, ex1⟩ : ∃ z : Int, z = (l4 + 1) := ⟨_, rfl⟩
  replace h := h x1 ex1
  refine aw_als (als' := [some (.ref (ad (5, 0, 0))), some (.int (oI l1)), some (.int (oI l2)), some (.int (oI l3)), some (.int (oI x1)), none]) (by subst ex1; rfl) ?_
  refine aw_goto X dX5_costOfStage_116 (tgt := 54) (by decide) ?_
  refine aw_weak (als' := [some (.ref (ad (5, 0, 0))), some (.int (oI l1)), some (.int (oI l2)), some (.int (oI l3)), some (.int (oI x1)), none]) ⟨rfl, rfl, rfl, rfl, rfl, trivial⟩ ?_
  exact hk54 _ _ _ _ _ h

set_option maxHeartbeats 4000000 in
set_option maxRecDepth 100000 in
theorem m_Sr_costOfStage_54 {p : Program} {l : Launch} {e : Env} {R : Room} {s : State} {m : MethodId} {args : Array Value} {below : List Frame} {meth : Method} {c : Code} {D : va_G} {ad : Ky → Nat} {tc : Tc} {A : Nat → Prop} {cs sl : Nat} {Qm : State → Prop} (X : Cx p s m args c cX5_costOfStage RX5 6 D ad tc A) (hR : RmOK R cs sl 4 117) {Q : Int → Mem → Prop} (hret : RtI p l e R s m args below meth c D ad tc A cs sl Qm cX5_costOfStage Q) : ∀ (n : Nat) (l1 : Int) (l2 : Int) (l3 : Int) (l4 : Int) (σ : Mem), Sr_costOfStage_54 Q n l1 l2 l3 l4 σ → AW p l e R s m args below meth c D ad tc A cs sl Qm 54 [some (.ref (ad (5, 0, 0))), some (.int (oI l1)), some (.int (oI l2)), some (.int (oI l3)), some (.int (oI l4)), none] [] σ := by
  intro n
  induction n with
  | zero =>
    intro l1 l2 l3 l4 σ h
    exact False.elim h
  | succ n ih =>
    intro l1 l2 l3 l4 σ h
    unfold Sr_costOfStage_54 at h
    refine aw_iload X dX5_costOfStage_54 rfl ?_
    refine aw_aload_n X dX5_costOfStage_56 rfl ?_
    refine aw_get X ob_5 fl_X5_85 rfl dX5_costOfStage_57 ?_
    obtain ⟨g1, h⟩ := h
    obtain ⟨g2, h⟩ := h
    refine aw_icmp_ge X dX5_costOfStage_60 (tgt := 119) (by decide) g1 g2 (fun hc => ?_) (fun hc => ?_)
    · replace h := h.1 hc
      refine aw_iload_n X dX5_costOfStage_119 rfl ?_
      exact hret 120 _ _ _ dX5_costOfStage_120 h
    · replace h := h.2 hc
      refine aw_aload_n X dX5_costOfStage_63 rfl ?_
      refine aw_get X ob_5 fl_X5_25 rfl dX5_costOfStage_64 ?_
      refine aw_iload X dX5_costOfStage_67 rfl ?_
      obtain ⟨g3a, g3b, h⟩ := h
      refine aw_aald X g3a g3b dX5_costOfStage_69 ?_
      refine aw_callVI X hR (s_Pa_settledAt l D ad tc X.2.2.2.2.2.2.1 ⟨g3a, g3b⟩ h) ml_X5_268 (ob_3 ⟨g3a, g3b⟩) rfl (by decide) (by decide) rfl rfl rfl rfl (Nat.le_of_ble_eq_true rfl) rfl dX5_costOfStage_70 (fun r4 σ4 h => ?_)
      refine aw_iload_n X dX5_costOfStage_73 rfl ?_
      obtain ⟨g5, h⟩ := h
      obtain ⟨g6, h⟩ := h
      refine aw_icmp_ne X dX5_costOfStage_74 (tgt := 113) (by decide) g5 g6 (fun hc => ?_) (fun hc => ?_)
      · replace h := h.1 hc
        refine aw_weak (als' := [some (.ref (ad (5, 0, 0))), some (.int (oI l1)), some (.int (oI l2)), some (.int (oI l3)), some (.int (oI l4)), none]) ⟨rfl, rfl, rfl, rfl, rfl, trivial⟩ ?_
        exact m_Sr_costOfStage_113 X hR hret ih h
      · replace h := h.2 hc
        refine aw_aload_n X dX5_costOfStage_77 rfl ?_
        refine aw_get X ob_5 fl_X5_25 rfl dX5_costOfStage_78 ?_
        refine aw_iload X dX5_costOfStage_81 rfl ?_
        obtain ⟨g7a, g7b, h⟩ := h
        refine aw_aald X g7a g7b dX5_costOfStage_83 ?_
        refine aw_aload_n X dX5_costOfStage_84 rfl ?_
        refine aw_get X ob_5 fl_X5_43 rfl dX5_costOfStage_85 ?_
        refine aw_aload_n X dX5_costOfStage_88 rfl ?_
        refine aw_get X ob_5 fl_X5_19 rfl dX5_costOfStage_89 ?_
        refine aw_iload_n X dX5_costOfStage_92 rfl ?_
        refine aw_callVI X hR (s_Pa_costTo l D ad tc X.2.2.2.2.2.2.1 ⟨g7a, g7b⟩ ar_5_6 h) ml_X5_184 (ob_3 ⟨g7a, g7b⟩) rfl (by decide) (by decide) rfl rfl rfl rfl (Nat.le_of_ble_eq_true rfl) rfl dX5_costOfStage_93 (fun r8 σ8 h => ?_)
        refine aw_istore X dX5_costOfStage_96 (Nat.le_of_ble_eq_true rfl) rfl ?_
        refine aw_als (als' := [some (.ref (ad (5, 0, 0))), some (.int (oI l1)), some (.int (oI l2)), some (.int (oI l3)), some (.int (oI l4)), some (.int (oI r8))]) rfl ?_
        refine aw_iload X dX5_costOfStage_98 rfl ?_
        refine aw_bipush X dX5_costOfStage_100 rfl ?_
        obtain ⟨g9, h⟩ := h
        refine aw_icmp_ne X dX5_costOfStage_102 (tgt := 108) (by decide) g9 ⟨by decide, by decide⟩ (fun hc => ?_) (fun hc => ?_)
        · replace h := h.1 hc
          refine aw_iload_n X dX5_costOfStage_108 rfl ?_
          refine aw_iload X dX5_costOfStage_109 rfl ?_
          refine aw_iadd X dX5_costOfStage_111 ?_
          refine aw_istore_n X dX5_costOfStage_112 (Nat.le_of_ble_eq_true rfl) rfl ?_
          obtain ⟨x11, ex11⟩ : ∃ z : Int, z = (l3 + r8) := ⟨_, rfl⟩
          replace h := h x11 ex11
          refine aw_als (als' := [some (.ref (ad (5, 0, 0))), some (.int (oI l1)), some (.int (oI l2)), some (.int (oI x11)), some (.int (oI l4)), some (.int (oI r8))]) (by subst ex11; rfl) ?_
          refine aw_weak (als' := [some (.ref (ad (5, 0, 0))), some (.int (oI l1)), some (.int (oI l2)), some (.int (oI x11)), some (.int (oI l4)), none]) ⟨rfl, rfl, rfl, rfl, rfl, trivial⟩ ?_
          exact m_Sr_costOfStage_113 X hR hret ih h
        · replace h := h.2 hc
          refine aw_bipush X dX5_costOfStage_105 rfl ?_
          exact hret 107 _ _ _ dX5_costOfStage_107 h

set_option maxHeartbeats 4000000 in
set_option maxRecDepth 100000 in
theorem m_Sr_costOfStage_51 {p : Program} {l : Launch} {e : Env} {R : Room} {s : State} {m : MethodId} {args : Array Value} {below : List Frame} {meth : Method} {c : Code} {D : va_G} {ad : Ky → Nat} {tc : Tc} {A : Nat → Prop} {cs sl : Nat} {Qm : State → Prop} (X : Cx p s m args c cX5_costOfStage RX5 6 D ad tc A) (hR : RmOK R cs sl 4 117) {Q : Int → Mem → Prop} (hret : RtI p l e R s m args below meth c D ad tc A cs sl Qm cX5_costOfStage Q) {l1 : Int} {l2 : Int} {l3 : Int} {σ : Mem} (h : Sr_costOfStage_51 Q l1 l2 l3 σ) : AW p l e R s m args below meth c D ad tc A cs sl Qm 51 [some (.ref (ad (5, 0, 0))), some (.int (oI l1)), some (.int (oI l2)), some (.int (oI l3)), none, none] [] σ := by
  unfold Sr_costOfStage_51 at h
  refine aw_iconst X dX5_costOfStage_51 ?_
  refine aw_istore X dX5_costOfStage_52 (Nat.le_of_ble_eq_true rfl) rfl ?_
  refine aw_als (als' := [some (.ref (ad (5, 0, 0))), some (.int (oI l1)), some (.int (oI l2)), some (.int (oI l3)), some (.int (oI 0)), none]) rfl ?_
  refine aw_weak (als' := [some (.ref (ad (5, 0, 0))), some (.int (oI l1)), some (.int (oI l2)), some (.int (oI l3)), some (.int (oI 0)), none]) ⟨rfl, rfl, rfl, rfl, rfl, trivial⟩ ?_
  obtain ⟨n0, h⟩ := h
  exact m_Sr_costOfStage_54 X hR hret n0 _ _ _ _ _ h

set_option maxHeartbeats 4000000 in
set_option maxRecDepth 100000 in
theorem m_Sr_costOfStage_0 {p : Program} {l : Launch} {e : Env} {R : Room} {s : State} {m : MethodId} {args : Array Value} {below : List Frame} {meth : Method} {c : Code} {D : va_G} {ad : Ky → Nat} {tc : Tc} {A : Nat → Prop} {cs sl : Nat} {Qm : State → Prop} (X : Cx p s m args c cX5_costOfStage RX5 6 D ad tc A) (hR : RmOK R cs sl 4 117) {Q : Int → Mem → Prop} (hret : RtI p l e R s m args below meth c D ad tc A cs sl Qm cX5_costOfStage Q) {l1 : Int} {l2 : Int} {σ : Mem} (h : Sr_costOfStage l1 l2 σ Q) : AW p l e R s m args below meth c D ad tc A cs sl Qm 0 [some (.ref (ad (5, 0, 0))), some (.int (oI l1)), some (.int (oI l2)), none, none, none] [] σ := by
  unfold Sr_costOfStage at h
  refine aw_iconst X dX5_costOfStage_0 ?_
  refine aw_istore_n X dX5_costOfStage_1 (Nat.le_of_ble_eq_true rfl) rfl ?_
  refine aw_als (als' := [some (.ref (ad (5, 0, 0))), some (.int (oI l1)), some (.int (oI l2)), some (.int (oI 0)), none, none]) rfl ?_
  refine aw_iload_n X dX5_costOfStage_2 rfl ?_
  obtain ⟨g1, h⟩ := h
  refine aw_if_le X dX5_costOfStage_3 (tgt := 51) (by decide) g1 (fun hc => ?_) (fun hc => ?_)
  · replace h := h.1 hc
    refine aw_weak (als' := [some (.ref (ad (5, 0, 0))), some (.int (oI l1)), some (.int (oI l2)), some (.int (oI 0)), none, none]) ⟨rfl, rfl, rfl, rfl, trivial⟩ ?_
    exact m_Sr_costOfStage_51 X hR hret h
  · replace h := h.2 hc
    refine aw_aload_n X dX5_costOfStage_6 rfl ?_
    refine aw_get X ob_5 fl_X5_12 rfl dX5_costOfStage_7 ?_
    refine aw_get X ob_0 fl_X5_71 rfl dX5_costOfStage_10 ?_
    refine aw_iload_n X dX5_costOfStage_13 rfl ?_
    refine aw_iconst X dX5_costOfStage_14 ?_
    refine aw_isub X dX5_costOfStage_15 ?_
    refine aw_iconst X dX5_costOfStage_16 ?_
    refine aw_imul X dX5_costOfStage_17 ?_
    refine aw_aload_n X dX5_costOfStage_18 rfl ?_
    refine aw_get X ob_5 fl_X5_43 rfl dX5_costOfStage_19 ?_
    refine aw_iload_n X dX5_costOfStage_22 rfl ?_
    refine aw_iconst X dX5_costOfStage_23 ?_
    refine aw_isub X dX5_costOfStage_24 ?_
    obtain ⟨g2a, g2b, h⟩ := h
    refine aw_iald X ar_5_6 g2a g2b dX5_costOfStage_25 ?_
    refine aw_iadd X dX5_costOfStage_26 ?_
    obtain ⟨g3a, g3b, h⟩ := h
    refine aw_iald X ar_0_2 g3a g3b dX5_costOfStage_27 ?_
    refine aw_istore X dX5_costOfStage_28 (Nat.le_of_ble_eq_true rfl) rfl ?_
    obtain ⟨x4, ex4⟩ : ∃ z : Int, z = (σ 0 0 2 (((l1 - 1) * 4) + (σ 5 0 6 (l1 - 1)))) := ⟨_, rfl⟩
    replace h := h x4 ex4
    refine aw_als (als' := [some (.ref (ad (5, 0, 0))), some (.int (oI l1)), some (.int (oI l2)), some (.int (oI 0)), some (.int (oI x4)), none]) (by subst ex4; rfl) ?_
    refine aw_iload X dX5_costOfStage_30 rfl ?_
    refine aw_bipush X dX5_costOfStage_32 rfl ?_
    obtain ⟨g5, h⟩ := h
    refine aw_icmp_ne X dX5_costOfStage_34 (tgt := 40) (by decide) g5 ⟨by decide, by decide⟩ (fun hc => ?_) (fun hc => ?_)
    · replace h := h.1 hc
      refine aw_iload X dX5_costOfStage_40 rfl ?_
      refine aw_aload_n X dX5_costOfStage_42 rfl ?_
      refine aw_get X ob_5 fl_X5_19 rfl dX5_costOfStage_43 ?_
      refine aw_callVI X hR (s_Fu_sumOfWeights l D ad tc X.2.2.2.2.2.2.1 h) ml_X5_168 ob_2 rfl (by decide) (by decide) rfl rfl rfl rfl (Nat.le_of_ble_eq_true rfl) rfl dX5_costOfStage_46 (fun r7 σ7 h => ?_)
      refine aw_imul X dX5_costOfStage_49 ?_
      refine aw_istore_n X dX5_costOfStage_50 (Nat.le_of_ble_eq_true rfl) rfl ?_
      obtain ⟨x8, ex8⟩ : ∃ z : Int, z = (x4 * r7) := ⟨_, rfl⟩
      replace h := h x8 ex8
      refine aw_als (als' := [some (.ref (ad (5, 0, 0))), some (.int (oI l1)), some (.int (oI l2)), some (.int (oI x8)), some (.int (oI x4)), none]) (by subst ex8; rfl) ?_
      refine aw_weak (als' := [some (.ref (ad (5, 0, 0))), some (.int (oI l1)), some (.int (oI l2)), some (.int (oI x8)), none, none]) ⟨rfl, rfl, rfl, rfl, trivial⟩ ?_
      exact m_Sr_costOfStage_51 X hR hret h
    · replace h := h.2 hc
      refine aw_bipush X dX5_costOfStage_37 rfl ?_
      exact hret 39 _ _ _ dX5_costOfStage_39 h
theorem s_Sr_costOfStage (l : Launch) (D : va_G) (ad : Ky → Nat) (tc : Tc) (hi : adI ad) {l1 : Int} {l2 : Int} {σ : Mem} {Q : Int → Mem → Prop} (h : Sr_costOfStage l1 l2 σ Q) : CtI l D ad tc yX5_costOfStage cX5_costOfStage 6 (some .int) { frames := 4, cells := 0, slots := 0, locals := 117 } [.ref (ad (5, 0, 0)), .int (oI l1), .int (oI l2)] σ Q := CtI.mk (by decide +kernel) hi (Nat.le_of_ble_eq_true rfl) rfl (fun p e s m args below meth c A Qm X hR hret => m_Sr_costOfStage_0 X hR hret h)

set_option maxHeartbeats 4000000 in
set_option maxRecDepth 100000 in
theorem m_Sr_followTried_74 {p : Program} {l : Launch} {e : Env} {R : Room} {s : State} {m : MethodId} {args : Array Value} {below : List Frame} {meth : Method} {c : Code} {D : va_G} {ad : Ky → Nat} {tc : Tc} {A : Nat → Prop} {cs sl : Nat} {Qm : State → Prop} (X : Cx p s m args c cX5_followTried RX5 6 D ad tc A) (hR : RmOK R cs sl 5 142) {Q : Int → Mem → Prop} (hret : RtI p l e R s m args below meth c D ad tc A cs sl Qm cX5_followTried Q) {k10 : Int → Int → Int → Mem → Prop} (hk10 : ∀ (l2 : Int) (l3 : Int) (l4 : Int) (σ : Mem), k10 l2 l3 l4 σ → AW p l e R s m args below meth c D ad tc A cs sl Qm 10 [some (.ref (ad (5, 0, 0))), none, some (.int (oI l2)), some (.int (oI l3)), some (.int (oI l4)), none] [] σ) {l2 : Int} {l3 : Int} {l4 : Int} {σ : Mem} (h : Sr_followTried_74 k10 Q l2 l3 l4 σ) : AW p l e R s m args below meth c D ad tc A cs sl Qm 74 [some (.ref (ad (5, 0, 0))), none, some (.int (oI l2)), some (.int (oI l3)), some (.int (oI l4)), none] [] σ := by
  unfold Sr_followTried_74 at h
  refine aw_iinc X dX5_followTried_74 rfl rfl ?_
  obtain ⟨x1, ex1⟩ : ∃ z : Int, z = (l4 + 1) := ⟨_, rfl⟩
  replace h := h x1 ex1
  refine aw_als (als' := [some (.ref (ad (5, 0, 0))), none, some (.int (oI l2)), some (.int (oI l3)), some (.int (oI x1)), none]) (by subst ex1; rfl) ?_
  refine aw_goto X dX5_followTried_77 (tgt := 10) (by decide) ?_
  refine aw_weak (als' := [some (.ref (ad (5, 0, 0))), none, some (.int (oI l2)), some (.int (oI l3)), some (.int (oI x1)), none]) ⟨rfl, rfl, rfl, rfl, trivial⟩ ?_
  exact hk10 _ _ _ _ h

set_option maxHeartbeats 4000000 in
set_option maxRecDepth 100000 in
theorem m_Sr_followTried_10 {p : Program} {l : Launch} {e : Env} {R : Room} {s : State} {m : MethodId} {args : Array Value} {below : List Frame} {meth : Method} {c : Code} {D : va_G} {ad : Ky → Nat} {tc : Tc} {A : Nat → Prop} {cs sl : Nat} {Qm : State → Prop} (X : Cx p s m args c cX5_followTried RX5 6 D ad tc A) (hR : RmOK R cs sl 5 142) {Q : Int → Mem → Prop} (hret : RtI p l e R s m args below meth c D ad tc A cs sl Qm cX5_followTried Q) : ∀ (n : Nat) (l2 : Int) (l3 : Int) (l4 : Int) (σ : Mem), Sr_followTried_10 Q n l2 l3 l4 σ → AW p l e R s m args below meth c D ad tc A cs sl Qm 10 [some (.ref (ad (5, 0, 0))), none, some (.int (oI l2)), some (.int (oI l3)), some (.int (oI l4)), none] [] σ := by
  intro n
  induction n with
  | zero =>
    intro l2 l3 l4 σ h
    exact False.elim h
  | succ n ih =>
    intro l2 l3 l4 σ h
    unfold Sr_followTried_10 at h
    refine aw_iload X dX5_followTried_10 rfl ?_
    refine aw_aload_n X dX5_followTried_12 rfl ?_
    refine aw_get X ob_5 fl_X5_12 rfl dX5_followTried_13 ?_
    refine aw_get X ob_0 fl_X5_58 rfl dX5_followTried_16 ?_
    obtain ⟨g1, h⟩ := h
    obtain ⟨g2, h⟩ := h
    refine aw_icmp_gt X dX5_followTried_19 (tgt := 80) (by decide) g1 g2 (fun hc => ?_) (fun hc => ?_)
    · replace h := h.1 hc
      refine aw_aload_n X dX5_followTried_80 rfl ?_
      refine aw_iload_n X dX5_followTried_81 rfl ?_
      refine aw_put X ob_5 fl_X5_53 (sf_5_9 ad) rfl rfl dX5_followTried_82 ?_
      obtain ⟨σ3, eσ3⟩ : ∃ z : Mem, z = up σ 5 0 9 0 l3 := ⟨_, rfl⟩
      replace h := h σ3 eσ3
      refine aw_mem eσ3 ?_
      refine aw_aload_n X dX5_followTried_85 rfl ?_
      refine aw_get X ob_5 fl_X5_43 rfl dX5_followTried_86 ?_
      refine aw_iconst X dX5_followTried_89 ?_
      refine aw_aload_n X dX5_followTried_90 rfl ?_
      refine aw_get X ob_5 fl_X5_50 rfl dX5_followTried_91 ?_
      refine aw_iconst X dX5_followTried_94 ?_
      refine aw_bipush X dX5_followTried_95 rfl ?_
      refine aw_copy X hR cpl_X5_262 ar_5_6 ar_5_8 (by decide) (by decide) (by decide) (by decide) (Nat.le_of_ble_eq_true rfl) rfl dX5_followTried_97 ?_
      obtain ⟨σ4, eσ4⟩ : ∃ z : Mem, z = cp σ3 5 0 6 5 0 8 6 := ⟨_, rfl⟩
      replace h := h σ4 eσ4
      refine aw_mem eσ4 ?_
      refine aw_aload_n X dX5_followTried_100 rfl ?_
      refine aw_get X ob_5 fl_X5_12 rfl dX5_followTried_101 ?_
      refine aw_get X ob_0 fl_X5_58 rfl dX5_followTried_104 ?_
      exact hret 107 _ _ _ dX5_followTried_107 h
    · replace h := h.2 hc
      refine aw_aload_n X dX5_followTried_22 rfl ?_
      refine aw_get X ob_5 fl_X5_47 rfl dX5_followTried_23 ?_
      refine aw_iload X dX5_followTried_26 rfl ?_
      refine aw_iload_n X dX5_followTried_28 rfl ?_
      obtain ⟨g5a, g5b, h⟩ := h
      refine aw_iast X ar_5_7 g5a g5b dX5_followTried_29 ?_
      obtain ⟨σ5, eσ5⟩ : ∃ z : Mem, z = up σ 5 0 7 l4 l3 := ⟨_, rfl⟩
      replace h := h σ5 eσ5
      refine aw_mem eσ5 ?_
      refine aw_aload_n X dX5_followTried_30 rfl ?_
      refine aw_iload X dX5_followTried_31 rfl ?_
      refine aw_iload_n X dX5_followTried_33 rfl ?_
      refine aw_callVI X hR (s_Sr_costOfStage l D ad tc X.2.2.2.2.2.2.1 h) ml_X5_259 ob_5 rfl (by decide) (by decide) rfl rfl rfl rfl (Nat.le_of_ble_eq_true rfl) rfl dX5_followTried_34 (fun r6 σ6 h => ?_)
      refine aw_istore X dX5_followTried_37 (Nat.le_of_ble_eq_true rfl) rfl ?_
      refine aw_als (als' := [some (.ref (ad (5, 0, 0))), none, some (.int (oI l2)), some (.int (oI l3)), some (.int (oI l4)), some (.int (oI r6))]) rfl ?_
      refine aw_iload X dX5_followTried_39 rfl ?_
      refine aw_bipush X dX5_followTried_41 rfl ?_
      obtain ⟨g7, h⟩ := h
      refine aw_icmp_ne X dX5_followTried_43 (tgt := 49) (by decide) g7 ⟨by decide, by decide⟩ (fun hc => ?_) (fun hc => ?_)
      · replace h := h.1 hc
        refine aw_iload_n X dX5_followTried_49 rfl ?_
        refine aw_iload X dX5_followTried_50 rfl ?_
        refine aw_iadd X dX5_followTried_52 ?_
        refine aw_istore_n X dX5_followTried_53 (Nat.le_of_ble_eq_true rfl) rfl ?_
        obtain ⟨x9, ex9⟩ : ∃ z : Int, z = (l3 + r6) := ⟨_, rfl⟩
        replace h := h x9 ex9
        refine aw_als (als' := [some (.ref (ad (5, 0, 0))), none, some (.int (oI l2)), some (.int (oI x9)), some (.int (oI l4)), some (.int (oI r6))]) (by subst ex9; rfl) ?_
        refine aw_aload_n X dX5_followTried_54 rfl ?_
        refine aw_get X ob_5 fl_X5_53 rfl dX5_followTried_55 ?_
        refine aw_bipush X dX5_followTried_58 rfl ?_
        obtain ⟨g10, h⟩ := h
        refine aw_icmp_eq X dX5_followTried_60 (tgt := 74) (by decide) g10 ⟨by decide, by decide⟩ (fun hc => ?_) (fun hc => ?_)
        · replace h := h.1 hc
          refine aw_weak (als' := [some (.ref (ad (5, 0, 0))), none, some (.int (oI l2)), some (.int (oI x9)), some (.int (oI l4)), none]) ⟨rfl, rfl, rfl, rfl, trivial⟩ ?_
          exact m_Sr_followTried_74 X hR hret ih h
        · replace h := h.2 hc
          refine aw_iload_n X dX5_followTried_63 rfl ?_
          refine aw_aload_n X dX5_followTried_64 rfl ?_
          refine aw_get X ob_5 fl_X5_53 rfl dX5_followTried_65 ?_
          obtain ⟨g12, h⟩ := h
          obtain ⟨g13, h⟩ := h
          refine aw_icmp_lt X dX5_followTried_68 (tgt := 74) (by decide) g12 g13 (fun hc => ?_) (fun hc => ?_)
          · replace h := h.1 hc
            refine aw_weak (als' := [some (.ref (ad (5, 0, 0))), none, some (.int (oI l2)), some (.int (oI x9)), some (.int (oI l4)), none]) ⟨rfl, rfl, rfl, rfl, trivial⟩ ?_
            exact m_Sr_followTried_74 X hR hret ih h
          · replace h := h.2 hc
            refine aw_iload X dX5_followTried_71 rfl ?_
            exact hret 73 _ _ _ dX5_followTried_73 h
      · replace h := h.2 hc
        refine aw_iload X dX5_followTried_46 rfl ?_
        exact hret 48 _ _ _ dX5_followTried_48 h

set_option maxHeartbeats 4000000 in
set_option maxRecDepth 100000 in
theorem m_Sr_followTried_0 {p : Program} {l : Launch} {e : Env} {R : Room} {s : State} {m : MethodId} {args : Array Value} {below : List Frame} {meth : Method} {c : Code} {D : va_G} {ad : Ky → Nat} {tc : Tc} {A : Nat → Prop} {cs sl : Nat} {Qm : State → Prop} (X : Cx p s m args c cX5_followTried RX5 6 D ad tc A) (hR : RmOK R cs sl 5 142) {Q : Int → Mem → Prop} (hret : RtI p l e R s m args below meth c D ad tc A cs sl Qm cX5_followTried Q) {l1 : Int} {l2 : Int} {σ : Mem} (h : Sr_followTried l1 l2 σ Q) : AW p l e R s m args below meth c D ad tc A cs sl Qm 0 [some (.ref (ad (5, 0, 0))), some (.int (oI l1)), some (.int (oI l2)), none, none, none] [] σ := by
  unfold Sr_followTried at h
  refine aw_aload_n X dX5_followTried_0 rfl ?_
  refine aw_get X ob_5 fl_X5_47 rfl dX5_followTried_1 ?_
  refine aw_iload_n X dX5_followTried_4 rfl ?_
  obtain ⟨g1a, g1b, h⟩ := h
  refine aw_iald X ar_5_7 g1a g1b dX5_followTried_5 ?_
  refine aw_istore_n X dX5_followTried_6 (Nat.le_of_ble_eq_true rfl) rfl ?_
  obtain ⟨x2, ex2⟩ : ∃ z : Int, z = (σ 5 0 7 l1) := ⟨_, rfl⟩
  replace h := h x2 ex2
  refine aw_als (als' := [some (.ref (ad (5, 0, 0))), some (.int (oI l1)), some (.int (oI l2)), some (.int (oI x2)), none, none]) (by subst ex2; rfl) ?_
  refine aw_iload_n X dX5_followTried_7 rfl ?_
  refine aw_istore X dX5_followTried_8 (Nat.le_of_ble_eq_true rfl) rfl ?_
  refine aw_als (als' := [some (.ref (ad (5, 0, 0))), some (.int (oI l1)), some (.int (oI l2)), some (.int (oI x2)), some (.int (oI l1)), none]) rfl ?_
  refine aw_weak (als' := [some (.ref (ad (5, 0, 0))), none, some (.int (oI l2)), some (.int (oI x2)), some (.int (oI l1)), none]) ⟨rfl, rfl, rfl, rfl, trivial⟩ ?_
  obtain ⟨n0, h⟩ := h
  exact m_Sr_followTried_10 X hR hret n0 _ _ _ _ h
theorem s_Sr_followTried (l : Launch) (D : va_G) (ad : Ky → Nat) (tc : Tc) (hi : adI ad) {l1 : Int} {l2 : Int} {σ : Mem} {Q : Int → Mem → Prop} (h : Sr_followTried l1 l2 σ Q) : CtI l D ad tc yX5_followTried cX5_followTried 6 (some .int) { frames := 5, cells := 0, slots := 0, locals := 142 } [.ref (ad (5, 0, 0)), .int (oI l1), .int (oI l2)] σ Q := CtI.mk (by decide +kernel) hi (Nat.le_of_ble_eq_true rfl) rfl (fun p e s m args below meth c A Qm X hR hret => m_Sr_followTried_0 X hR hret h)

set_option maxHeartbeats 4000000 in
set_option maxRecDepth 100000 in
theorem m_Sr_moveOn_2 {p : Program} {l : Launch} {e : Env} {R : Room} {s : State} {m : MethodId} {args : Array Value} {below : List Frame} {meth : Method} {c : Code} {D : va_G} {ad : Ky → Nat} {tc : Tc} {A : Nat → Prop} {cs sl : Nat} {Qm : State → Prop} (X : Cx p s m args c cX5_moveOn RX5 3 D ad tc A) (hR : RmOK R cs sl 0 0) {Q : Int → Mem → Prop} (hret : RtI p l e R s m args below meth c D ad tc A cs sl Qm cX5_moveOn Q) : ∀ (n : Nat) (l2 : Int) (σ : Mem), Sr_moveOn_2 Q n l2 σ → AW p l e R s m args below meth c D ad tc A cs sl Qm 2 [some (.ref (ad (5, 0, 0))), none, some (.int (oI l2))] [] σ := by
  intro n
  induction n with
  | zero =>
    intro l2 σ h
    exact False.elim h
  | succ n ih =>
    intro l2 σ h
    unfold Sr_moveOn_2 at h
    refine aw_iload_n X dX5_moveOn_2 rfl ?_
    obtain ⟨g1, h⟩ := h
    refine aw_if_le X dX5_moveOn_3 (tgt := 59) (by decide) g1 (fun hc => ?_) (fun hc => ?_)
    · replace h := h.1 hc
      refine aw_iconst X dX5_moveOn_59 ?_
      exact hret 60 _ _ _ dX5_moveOn_60 h
    · replace h := h.2 hc
      refine aw_aload_n X dX5_moveOn_6 rfl ?_
      refine aw_get X ob_5 fl_X5_43 rfl dX5_moveOn_7 ?_
      refine aw_iload_n X dX5_moveOn_10 rfl ?_
      refine aw_iconst X dX5_moveOn_11 ?_
      refine aw_isub X dX5_moveOn_12 ?_
      obtain ⟨g2a, g2b, h⟩ := h
      refine aw_iald X ar_5_6 g2a g2b dX5_moveOn_13 ?_
      refine aw_iconst X dX5_moveOn_14 ?_
      refine aw_iadd X dX5_moveOn_15 ?_
      refine aw_aload_n X dX5_moveOn_16 rfl ?_
      refine aw_get X ob_5 fl_X5_12 rfl dX5_moveOn_17 ?_
      refine aw_get X ob_0 fl_X5_61 rfl dX5_moveOn_20 ?_
      refine aw_iload_n X dX5_moveOn_23 rfl ?_
      refine aw_iconst X dX5_moveOn_24 ?_
      refine aw_isub X dX5_moveOn_25 ?_
      obtain ⟨g3a, g3b, h⟩ := h
      refine aw_iald X ar_0_1 g3a g3b dX5_moveOn_26 ?_
      obtain ⟨g4, h⟩ := h
      obtain ⟨g5, h⟩ := h
      refine aw_icmp_ge X dX5_moveOn_27 (tgt := 44) (by decide) g4 g5 (fun hc => ?_) (fun hc => ?_)
      · replace h := h.1 hc
        refine aw_aload_n X dX5_moveOn_44 rfl ?_
        refine aw_get X ob_5 fl_X5_43 rfl dX5_moveOn_45 ?_
        refine aw_iload_n X dX5_moveOn_48 rfl ?_
        refine aw_iconst X dX5_moveOn_49 ?_
        refine aw_isub X dX5_moveOn_50 ?_
        refine aw_iconst X dX5_moveOn_51 ?_
        obtain ⟨g6a, g6b, h⟩ := h
        refine aw_iast X ar_5_6 g6a g6b dX5_moveOn_52 ?_
        obtain ⟨σ6, eσ6⟩ : ∃ z : Mem, z = up σ 5 0 6 (l2 - 1) 0 := ⟨_, rfl⟩
        replace h := h σ6 eσ6
        refine aw_mem eσ6 ?_
        refine aw_iinc X dX5_moveOn_53 rfl rfl ?_
        obtain ⟨x7, ex7⟩ : ∃ z : Int, z = (l2 + (-1)) := ⟨_, rfl⟩
        replace h := h x7 ex7
        refine aw_als (als' := [some (.ref (ad (5, 0, 0))), none, some (.int (oI x7))]) (by subst ex7; rfl) ?_
        refine aw_goto X dX5_moveOn_56 (tgt := 2) (by decide) ?_
        refine aw_weak (als' := [some (.ref (ad (5, 0, 0))), none, some (.int (oI x7))]) ⟨rfl, rfl, trivial⟩ ?_
        exact ih _ _ h
      · replace h := h.2 hc
        refine aw_aload_n X dX5_moveOn_30 rfl ?_
        refine aw_get X ob_5 fl_X5_43 rfl dX5_moveOn_31 ?_
        refine aw_iload_n X dX5_moveOn_34 rfl ?_
        refine aw_iconst X dX5_moveOn_35 ?_
        refine aw_isub X dX5_moveOn_36 ?_
        refine aw_dup2 X dX5_moveOn_37 rfl rfl ?_
        obtain ⟨g8a, g8b, h⟩ := h
        refine aw_iald X ar_5_6 g8a g8b dX5_moveOn_38 ?_
        refine aw_iconst X dX5_moveOn_39 ?_
        refine aw_iadd X dX5_moveOn_40 ?_
        obtain ⟨g9a, g9b, h⟩ := h
        refine aw_iast X ar_5_6 g9a g9b dX5_moveOn_41 ?_
        obtain ⟨σ9, eσ9⟩ : ∃ z : Mem, z = up σ 5 0 6 (l2 - 1) ((σ 5 0 6 (l2 - 1)) + 1) := ⟨_, rfl⟩
        replace h := h σ9 eσ9
        refine aw_mem eσ9 ?_
        refine aw_iload_n X dX5_moveOn_42 rfl ?_
        exact hret 43 _ _ _ dX5_moveOn_43 h

set_option maxHeartbeats 4000000 in
set_option maxRecDepth 100000 in
theorem m_Sr_moveOn_0 {p : Program} {l : Launch} {e : Env} {R : Room} {s : State} {m : MethodId} {args : Array Value} {below : List Frame} {meth : Method} {c : Code} {D : va_G} {ad : Ky → Nat} {tc : Tc} {A : Nat → Prop} {cs sl : Nat} {Qm : State → Prop} (X : Cx p s m args c cX5_moveOn RX5 3 D ad tc A) (hR : RmOK R cs sl 0 0) {Q : Int → Mem → Prop} (hret : RtI p l e R s m args below meth c D ad tc A cs sl Qm cX5_moveOn Q) {l1 : Int} {σ : Mem} (h : Sr_moveOn l1 σ Q) : AW p l e R s m args below meth c D ad tc A cs sl Qm 0 [some (.ref (ad (5, 0, 0))), some (.int (oI l1)), none] [] σ := by
  unfold Sr_moveOn at h
  refine aw_iload_n X dX5_moveOn_0 rfl ?_
  refine aw_istore_n X dX5_moveOn_1 (Nat.le_of_ble_eq_true rfl) rfl ?_
  refine aw_als (als' := [some (.ref (ad (5, 0, 0))), some (.int (oI l1)), some (.int (oI l1))]) rfl ?_
  refine aw_weak (als' := [some (.ref (ad (5, 0, 0))), none, some (.int (oI l1))]) ⟨rfl, rfl, trivial⟩ ?_
  obtain ⟨n0, h⟩ := h
  exact m_Sr_moveOn_2 X hR hret n0 _ _ h
theorem s_Sr_moveOn (l : Launch) (D : va_G) (ad : Ky → Nat) (tc : Tc) (hi : adI ad) {l1 : Int} {σ : Mem} {Q : Int → Mem → Prop} (h : Sr_moveOn l1 σ Q) : CtI l D ad tc yX5_moveOn cX5_moveOn 3 (some .int) { frames := 0, cells := 0, slots := 0, locals := 0 } [.ref (ad (5, 0, 0)), .int (oI l1)] σ Q := CtI.mk (by decide +kernel) hi (Nat.le_of_ble_eq_true rfl) rfl (fun p e s m args below meth c A Qm X hR hret => m_Sr_moveOn_0 X hR hret h)

set_option maxHeartbeats 4000000 in
set_option maxRecDepth 100000 in
theorem m_Sr_findLeast_60 {p : Program} {l : Launch} {e : Env} {R : Room} {s : State} {m : MethodId} {args : Array Value} {below : List Frame} {meth : Method} {c : Code} {D : va_G} {ad : Ky → Nat} {tc : Tc} {A : Nat → Prop} {cs sl : Nat} {Qm : State → Prop} (X : Cx p s m args c cX5_findLeast RX5 5 D ad tc A) (hR : RmOK R cs sl 6 167) {Q : Mem → Prop} (hret : RtV p l e R s m args below meth c D ad tc A cs sl Qm cX5_findLeast Q) {σ : Mem} (h : Sr_findLeast_60 Q σ) : AW p l e R s m args below meth c D ad tc A cs sl Qm 60 [none, none, none, none, none] [] σ := by
  unfold Sr_findLeast_60 at h
  exact hret 60 _ _ dX5_findLeast_60 h

set_option maxHeartbeats 4000000 in
set_option maxRecDepth 100000 in
theorem m_Sr_findLeast_53 {p : Program} {l : Launch} {e : Env} {R : Room} {s : State} {m : MethodId} {args : Array Value} {below : List Frame} {meth : Method} {c : Code} {D : va_G} {ad : Ky → Nat} {tc : Tc} {A : Nat → Prop} {cs sl : Nat} {Qm : State → Prop} (X : Cx p s m args c cX5_findLeast RX5 5 D ad tc A) (hR : RmOK R cs sl 6 167) {Q : Mem → Prop} (hret : RtV p l e R s m args below meth c D ad tc A cs sl Qm cX5_findLeast Q) {k21 : Int → Int → Int → Int → Mem → Prop} (hk21 : ∀ (l1 : Int) (l2 : Int) (l3 : Int) (l4 : Int) (σ : Mem), k21 l1 l2 l3 l4 σ → AW p l e R s m args below meth c D ad tc A cs sl Qm 21 [some (.ref (ad (5, 0, 0))), some (.int (oI l1)), some (.int (oI l2)), some (.int (oI l3)), some (.int (oI l4))] [] σ) {l1 : Int} {l2 : Int} {l4 : Int} {s0 : Int} {σ : Mem} (h : Sr_findLeast_53 k21 Q l1 l2 l4 s0 σ) : AW p l e R s m args below meth c D ad tc A cs sl Qm 53 [some (.ref (ad (5, 0, 0))), some (.int (oI l1)), some (.int (oI l2)), none, some (.int (oI l4))] [.int (oI s0)] σ := by
  unfold Sr_findLeast_53 at h
  refine aw_istore_n X dX5_findLeast_53 (Nat.le_of_ble_eq_true rfl) rfl ?_
  refine aw_als (als' := [some (.ref (ad (5, 0, 0))), some (.int (oI l1)), some (.int (oI l2)), some (.int (oI s0)), some (.int (oI l4))]) rfl ?_
  refine aw_iinc X dX5_findLeast_54 rfl rfl ?_
  obtain ⟨x1, ex1⟩ : ∃ z : Int, z = (l4 + 1) := ⟨_, rfl⟩
  replace h := h x1 ex1
  refine aw_als (als' := [some (.ref (ad (5, 0, 0))), some (.int (oI l1)), some (.int (oI l2)), some (.int (oI s0)), some (.int (oI x1))]) (by subst ex1; rfl) ?_
  refine aw_goto X dX5_findLeast_57 (tgt := 21) (by decide) ?_
  refine aw_weak (als' := [some (.ref (ad (5, 0, 0))), some (.int (oI l1)), some (.int (oI l2)), some (.int (oI s0)), some (.int (oI x1))]) ⟨rfl, rfl, rfl, rfl, rfl, trivial⟩ ?_
  exact hk21 _ _ _ _ _ h

set_option maxHeartbeats 4000000 in
set_option maxRecDepth 100000 in
theorem m_Sr_findLeast_21 {p : Program} {l : Launch} {e : Env} {R : Room} {s : State} {m : MethodId} {args : Array Value} {below : List Frame} {meth : Method} {c : Code} {D : va_G} {ad : Ky → Nat} {tc : Tc} {A : Nat → Prop} {cs sl : Nat} {Qm : State → Prop} (X : Cx p s m args c cX5_findLeast RX5 5 D ad tc A) (hR : RmOK R cs sl 6 167) {Q : Mem → Prop} (hret : RtV p l e R s m args below meth c D ad tc A cs sl Qm cX5_findLeast Q) : ∀ (n : Nat) (l1 : Int) (l2 : Int) (l3 : Int) (l4 : Int) (σ : Mem), Sr_findLeast_21 Q n l1 l2 l3 l4 σ → AW p l e R s m args below meth c D ad tc A cs sl Qm 21 [some (.ref (ad (5, 0, 0))), some (.int (oI l1)), some (.int (oI l2)), some (.int (oI l3)), some (.int (oI l4))] [] σ := by
  intro n
  induction n with
  | zero =>
    intro l1 l2 l3 l4 σ h
    exact False.elim h
  | succ n ih =>
    intro l1 l2 l3 l4 σ h
    unfold Sr_findLeast_21 at h
    refine aw_iload X dX5_findLeast_21 rfl ?_
    refine aw_sipush X dX5_findLeast_23 rfl ?_
    obtain ⟨g1, h⟩ := h
    refine aw_icmp_ge X dX5_findLeast_26 (tgt := 60) (by decide) g1 ⟨by decide, by decide⟩ (fun hc => ?_) (fun hc => ?_)
    · replace h := h.1 hc
      refine aw_weak (als' := [none, none, none, none, none]) trivial ?_
      exact m_Sr_findLeast_60 X hR hret h
    · replace h := h.2 hc
      refine aw_iload_n X dX5_findLeast_29 rfl ?_
      obtain ⟨g3, h⟩ := h
      refine aw_if_eq X dX5_findLeast_30 (tgt := 60) (by decide) g3 (fun hc => ?_) (fun hc => ?_)
      · replace h := h.1 hc
        refine aw_weak (als' := [none, none, none, none, none]) trivial ?_
        exact m_Sr_findLeast_60 X hR hret h
      · replace h := h.2 hc
        refine aw_aload_n X dX5_findLeast_33 rfl ?_
        refine aw_aload_n X dX5_findLeast_34 rfl ?_
        refine aw_iload_n X dX5_findLeast_35 rfl ?_
        refine aw_iload_n X dX5_findLeast_36 rfl ?_
        refine aw_callVI X hR (s_Sr_followTried l D ad tc X.2.2.2.2.2.2.1 h) ml_X5_251 ob_5 rfl (by decide) (by decide) rfl rfl rfl rfl (Nat.le_of_ble_eq_true rfl) rfl dX5_findLeast_37 (fun r4 σ4 h => ?_)
        refine aw_callVI X hR (s_Sr_moveOn l D ad tc X.2.2.2.2.2.2.1 h) ml_X5_255 ob_5 rfl (by decide) (by decide) rfl rfl rfl rfl (Nat.le_of_ble_eq_true rfl) rfl dX5_findLeast_40 (fun r5 σ5 h => ?_)
        refine aw_istore_n X dX5_findLeast_43 (Nat.le_of_ble_eq_true rfl) rfl ?_
        refine aw_als (als' := [some (.ref (ad (5, 0, 0))), some (.int (oI l1)), some (.int (oI r5)), some (.int (oI l3)), some (.int (oI l4))]) rfl ?_
        refine aw_iload_n X dX5_findLeast_44 rfl ?_
        obtain ⟨g6, h⟩ := h
        refine aw_if_le X dX5_findLeast_45 (tgt := 52) (by decide) g6 (fun hc => ?_) (fun hc => ?_)
        · replace h := h.1 hc
          refine aw_iconst X dX5_findLeast_52 ?_
          refine aw_weak (als' := [some (.ref (ad (5, 0, 0))), some (.int (oI l1)), some (.int (oI r5)), none, some (.int (oI l4))]) ⟨rfl, rfl, rfl, rfl, trivial⟩ ?_
          exact m_Sr_findLeast_53 X hR hret ih h
        · replace h := h.2 hc
          refine aw_iconst X dX5_findLeast_48 ?_
          refine aw_goto X dX5_findLeast_49 (tgt := 53) (by decide) ?_
          refine aw_weak (als' := [some (.ref (ad (5, 0, 0))), some (.int (oI l1)), some (.int (oI r5)), none, some (.int (oI l4))]) ⟨rfl, rfl, rfl, rfl, trivial⟩ ?_
          exact m_Sr_findLeast_53 X hR hret ih h

set_option maxHeartbeats 4000000 in
set_option maxRecDepth 100000 in
theorem m_Sr_findLeast_0 {p : Program} {l : Launch} {e : Env} {R : Room} {s : State} {m : MethodId} {args : Array Value} {below : List Frame} {meth : Method} {c : Code} {D : va_G} {ad : Ky → Nat} {tc : Tc} {A : Nat → Prop} {cs sl : Nat} {Qm : State → Prop} (X : Cx p s m args c cX5_findLeast RX5 5 D ad tc A) (hR : RmOK R cs sl 6 167) {Q : Mem → Prop} (hret : RtV p l e R s m args below meth c D ad tc A cs sl Qm cX5_findLeast Q) {l1 : Int} {σ : Mem} (h : Sr_findLeast l1 σ Q) : AW p l e R s m args below meth c D ad tc A cs sl Qm 0 [some (.ref (ad (5, 0, 0))), some (.int (oI l1)), none, none, none] [] σ := by
  unfold Sr_findLeast at h
  refine aw_aload_n X dX5_findLeast_0 rfl ?_
  refine aw_bipush X dX5_findLeast_1 rfl ?_
  refine aw_put X ob_5 fl_X5_53 (sf_5_9 ad) rfl rfl dX5_findLeast_3 ?_
  obtain ⟨σ1, eσ1⟩ : ∃ z : Mem, z = up σ 5 0 9 0 (-4) := ⟨_, rfl⟩
  replace h := h σ1 eσ1
  refine aw_mem eσ1 ?_
  refine aw_aload_n X dX5_findLeast_6 rfl ?_
  refine aw_get X ob_5 fl_X5_43 rfl dX5_findLeast_7 ?_
  refine aw_iconst X dX5_findLeast_10 ?_
  refine aw_callSV X hR (s_fill l D ad tc X.2.2.2.2.2.2.1 ar_5_6 (v := 0) (σ := σ1)) ms_X5_246 (by decide) (by decide) rfl rfl rfl rfl (Nat.le_of_ble_eq_true rfl) rfl dX5_findLeast_11 (fun σ2 eσ2 => ?_)
  replace h := h σ2 eσ2
  refine aw_iconst X dX5_findLeast_14 ?_
  refine aw_istore_n X dX5_findLeast_15 (Nat.le_of_ble_eq_true rfl) rfl ?_
  refine aw_als (als' := [some (.ref (ad (5, 0, 0))), some (.int (oI l1)), some (.int (oI 0)), none, none]) rfl ?_
  refine aw_iconst X dX5_findLeast_16 ?_
  refine aw_istore_n X dX5_findLeast_17 (Nat.le_of_ble_eq_true rfl) rfl ?_
  refine aw_als (als' := [some (.ref (ad (5, 0, 0))), some (.int (oI l1)), some (.int (oI 0)), some (.int (oI 1)), none]) rfl ?_
  refine aw_iconst X dX5_findLeast_18 ?_
  refine aw_istore X dX5_findLeast_19 (Nat.le_of_ble_eq_true rfl) rfl ?_
  refine aw_als (als' := [some (.ref (ad (5, 0, 0))), some (.int (oI l1)), some (.int (oI 0)), some (.int (oI 1)), some (.int (oI 0))]) rfl ?_
  refine aw_weak (als' := [some (.ref (ad (5, 0, 0))), some (.int (oI l1)), some (.int (oI 0)), some (.int (oI 1)), some (.int (oI 0))]) ⟨rfl, rfl, rfl, rfl, rfl, trivial⟩ ?_
  obtain ⟨n0, h⟩ := h
  exact m_Sr_findLeast_21 X hR hret n0 _ _ _ _ _ h
theorem s_Sr_findLeast (l : Launch) (D : va_G) (ad : Ky → Nat) (tc : Tc) (hi : adI ad) {l1 : Int} {σ : Mem} {Q : Mem → Prop} (h : Sr_findLeast l1 σ Q) : CtV l D ad tc yX5_findLeast cX5_findLeast 5 none { frames := 6, cells := 0, slots := 0, locals := 167 } [.ref (ad (5, 0, 0)), .int (oI l1)] σ Q := CtV.mk (by decide +kernel) hi (Nat.le_of_ble_eq_true rfl) rfl (fun p e s m args below meth c A Qm X hR hret => m_Sr_findLeast_0 X hR hret h)

set_option maxHeartbeats 4000000 in
set_option maxRecDepth 100000 in
theorem m_Sr_bringCut_0 {p : Program} {l : Launch} {e : Env} {R : Room} {s : State} {m : MethodId} {args : Array Value} {below : List Frame} {meth : Method} {c : Code} {D : va_G} {ad : Ky → Nat} {tc : Tc} {A : Nat → Prop} {cs sl : Nat} {Qm : State → Prop} (X : Cx p s m args c cX5_bringCut RX5 5 D ad tc A) (hR : RmOK R cs sl 5 140) {Q : Mem → Prop} (hret : RtV p l e R s m args below meth c D ad tc A cs sl Qm cX5_bringCut Q) {l1 : Int} {l2 : Int} {l3 : Int} {l4 : Int} {σ : Mem} (h : Sr_bringCut l1 l2 l3 l4 σ Q) : AW p l e R s m args below meth c D ad tc A cs sl Qm 0 [some (.ref (ad (5, 0, 0))), some (.int (oI l1)), some (.int (oI l2)), some (.int (oI l3)), some (.int (oI l4))] [] σ := by
  unfold Sr_bringCut at h
  refine aw_aload_n X dX5_bringCut_0 rfl ?_
  refine aw_get X ob_5 fl_X5_32 rfl dX5_bringCut_1 ?_
  refine aw_get X ob_1 fl_X5_139 rfl dX5_bringCut_4 ?_
  refine aw_sipush X dX5_bringCut_7 rfl ?_
  obtain ⟨g1, h⟩ := h
  refine aw_icmp_lt X dX5_bringCut_10 (tgt := 14) (by decide) g1 ⟨by decide, by decide⟩ (fun hc => ?_) (fun hc => ?_)
  · replace h := h.1 hc
    refine aw_aload_n X dX5_bringCut_14 rfl ?_
    refine aw_get X ob_5 fl_X5_25 rfl dX5_bringCut_15 ?_
    refine aw_iload_n X dX5_bringCut_18 rfl ?_
    obtain ⟨g3a, g3b, h⟩ := h
    refine aw_aald X g3a g3b dX5_bringCut_19 ?_
    refine aw_iload_n X dX5_bringCut_20 rfl ?_
    refine aw_iload_n X dX5_bringCut_21 rfl ?_
    refine aw_iload X dX5_bringCut_22 rfl ?_
    refine aw_callVV X hR (s_Pa_findReasons l D ad tc X.2.2.2.2.2.2.1 ⟨g3a, g3b⟩ h) ml_X5_235 (ob_3 ⟨g3a, g3b⟩) rfl (by decide) (by decide) rfl rfl rfl rfl (Nat.le_of_ble_eq_true rfl) rfl dX5_bringCut_24 (fun σ4 h => ?_)
    refine aw_aload_n X dX5_bringCut_27 rfl ?_
    refine aw_get X ob_5 fl_X5_25 rfl dX5_bringCut_28 ?_
    refine aw_iload_n X dX5_bringCut_31 rfl ?_
    obtain ⟨g5a, g5b, h⟩ := h
    refine aw_aald X g5a g5b dX5_bringCut_32 ?_
    refine aw_iload_n X dX5_bringCut_33 rfl ?_
    refine aw_iload X dX5_bringCut_34 rfl ?_
    refine aw_callVV X hR (s_Pa_raiseFloors l D ad tc X.2.2.2.2.2.2.1 ⟨g5a, g5b⟩ h) ml_X5_239 (ob_3 ⟨g5a, g5b⟩) rfl (by decide) (by decide) rfl rfl rfl rfl (Nat.le_of_ble_eq_true rfl) rfl dX5_bringCut_36 (fun σ6 h => ?_)
    refine aw_aload_n X dX5_bringCut_39 rfl ?_
    refine aw_get X ob_5 fl_X5_32 rfl dX5_bringCut_40 ?_
    refine aw_iload_n X dX5_bringCut_43 rfl ?_
    refine aw_iload_n X dX5_bringCut_44 rfl ?_
    refine aw_iload X dX5_bringCut_45 rfl ?_
    refine aw_aload_n X dX5_bringCut_47 rfl ?_
    refine aw_get X ob_5 fl_X5_39 rfl dX5_bringCut_48 ?_
    refine aw_get X ob_4 fl_X5_159 rfl dX5_bringCut_51 ?_
    refine aw_aload_n X dX5_bringCut_54 rfl ?_
    refine aw_get X ob_5 fl_X5_25 rfl dX5_bringCut_55 ?_
    refine aw_iload_n X dX5_bringCut_58 rfl ?_
    obtain ⟨g7a, g7b, h⟩ := h
    refine aw_aald X g7a g7b dX5_bringCut_59 ?_
    refine aw_callVV X hR (s_Cu_add l D ad tc X.2.2.2.2.2.2.1 ⟨g7a, g7b⟩ h) ml_X5_242 ob_1 rfl (by decide) (by decide) rfl rfl rfl rfl (Nat.le_of_ble_eq_true rfl) rfl dX5_bringCut_60 (fun σ8 h => ?_)
    exact hret 63 _ _ dX5_bringCut_63 h
  · replace h := h.2 hc
    exact hret 13 _ _ dX5_bringCut_13 h
theorem s_Sr_bringCut (l : Launch) (D : va_G) (ad : Ky → Nat) (tc : Tc) (hi : adI ad) {l1 : Int} {l2 : Int} {l3 : Int} {l4 : Int} {σ : Mem} {Q : Mem → Prop} (h : Sr_bringCut l1 l2 l3 l4 σ Q) : CtV l D ad tc yX5_bringCut cX5_bringCut 5 none { frames := 5, cells := 0, slots := 0, locals := 140 } [.ref (ad (5, 0, 0)), .int (oI l1), .int (oI l2), .int (oI l3), .int (oI l4)] σ Q := CtV.mk (by decide +kernel) hi (Nat.le_of_ble_eq_true rfl) rfl (fun p e s m args below meth c A Qm X hR hret => m_Sr_bringCut_0 X hR hret h)

set_option maxHeartbeats 4000000 in
set_option maxRecDepth 100000 in
theorem m_Sr_costOfValues_4 {p : Program} {l : Launch} {e : Env} {R : Room} {s : State} {m : MethodId} {args : Array Value} {below : List Frame} {meth : Method} {c : Code} {D : va_G} {ad : Ky → Nat} {tc : Tc} {A : Nat → Prop} {cs sl : Nat} {Qm : State → Prop} (X : Cx p s m args c cX5_costOfValues RX5 4 D ad tc A) (hR : RmOK R cs sl 1 22) {Q : Int → Mem → Prop} (hret : RtI p l e R s m args below meth c D ad tc A cs sl Qm cX5_costOfValues Q) : ∀ (n : Nat) (l1c : Nat) (l1p : Int) (l1k : Nat) (l2 : Int) (l3 : Int) (σ : Mem) (_ : Arr l1c l1p l1k 6), Sr_costOfValues_4 Q n l1c l1p l1k l2 l3 σ → AW p l e R s m args below meth c D ad tc A cs sl Qm 4 [some (.ref (ad (5, 0, 0))), some (.ref (ad (l1c, l1p, l1k + 1))), some (.int (oI l2)), some (.int (oI l3))] [] σ := by
  intro n
  induction n with
  | zero =>
    intro l1c l1p l1k l2 l3 σ hl1 h
    exact False.elim h
  | succ n ih =>
    intro l1c l1p l1k l2 l3 σ hl1 h
    unfold Sr_costOfValues_4 at h
    refine aw_iload_n X dX5_costOfValues_4 rfl ?_
    refine aw_aload_n X dX5_costOfValues_5 rfl ?_
    refine aw_get X ob_5 fl_X5_12 rfl dX5_costOfValues_6 ?_
    refine aw_get X ob_0 fl_X5_58 rfl dX5_costOfValues_9 ?_
    obtain ⟨g1, h⟩ := h
    obtain ⟨g2, h⟩ := h
    refine aw_icmp_ge X dX5_costOfValues_12 (tgt := 39) (by decide) g1 g2 (fun hc => ?_) (fun hc => ?_)
    · replace h := h.1 hc
      refine aw_iload_n X dX5_costOfValues_39 rfl ?_
      refine aw_aload_n X dX5_costOfValues_40 rfl ?_
      refine aw_get X ob_5 fl_X5_19 rfl dX5_costOfValues_41 ?_
      refine aw_callVI X hR (s_Fu_sumOfWeights l D ad tc X.2.2.2.2.2.2.1 h) ml_X5_168 ob_2 rfl (by decide) (by decide) rfl rfl rfl rfl (Nat.le_of_ble_eq_true rfl) rfl dX5_costOfValues_44 (fun r3 σ3 h => ?_)
      refine aw_imul X dX5_costOfValues_47 ?_
      exact hret 48 _ _ _ dX5_costOfValues_48 h
    · replace h := h.2 hc
      refine aw_iload_n X dX5_costOfValues_15 rfl ?_
      refine aw_aload_n X dX5_costOfValues_16 rfl ?_
      refine aw_get X ob_5 fl_X5_12 rfl dX5_costOfValues_17 ?_
      refine aw_get X ob_0 fl_X5_71 rfl dX5_costOfValues_20 ?_
      refine aw_iload_n X dX5_costOfValues_23 rfl ?_
      refine aw_iconst X dX5_costOfValues_24 ?_
      refine aw_imul X dX5_costOfValues_25 ?_
      refine aw_aload_n X dX5_costOfValues_26 rfl ?_
      refine aw_iload_n X dX5_costOfValues_27 rfl ?_
      obtain ⟨g4a, g4b, h⟩ := h
      refine aw_iald X hl1 g4a g4b dX5_costOfValues_28 ?_
      refine aw_iadd X dX5_costOfValues_29 ?_
      obtain ⟨g5a, g5b, h⟩ := h
      refine aw_iald X ar_0_2 g5a g5b dX5_costOfValues_30 ?_
      refine aw_iadd X dX5_costOfValues_31 ?_
      refine aw_istore_n X dX5_costOfValues_32 (Nat.le_of_ble_eq_true rfl) rfl ?_
      obtain ⟨x6, ex6⟩ : ∃ z : Int, z = (l2 + (σ 0 0 2 ((l3 * 4) + (σ l1c l1p l1k l3)))) := ⟨_, rfl⟩
      replace h := h x6 ex6
      refine aw_als (als' := [some (.ref (ad (5, 0, 0))), some (.ref (ad (l1c, l1p, l1k + 1))), some (.int (oI x6)), some (.int (oI l3))]) (by subst ex6; rfl) ?_
      refine aw_iinc X dX5_costOfValues_33 rfl rfl ?_
      obtain ⟨x7, ex7⟩ : ∃ z : Int, z = (l3 + 1) := ⟨_, rfl⟩
      replace h := h x7 ex7
      refine aw_als (als' := [some (.ref (ad (5, 0, 0))), some (.ref (ad (l1c, l1p, l1k + 1))), some (.int (oI x6)), some (.int (oI x7))]) (by subst ex7; rfl) ?_
      refine aw_goto X dX5_costOfValues_36 (tgt := 4) (by decide) ?_
      refine aw_weak (als' := [some (.ref (ad (5, 0, 0))), some (.ref (ad (l1c, l1p, l1k + 1))), some (.int (oI x6)), some (.int (oI x7))]) ⟨rfl, rfl, rfl, rfl, trivial⟩ ?_
      exact ih _ _ _ _ _ _ hl1 h

set_option maxHeartbeats 4000000 in
set_option maxRecDepth 100000 in
theorem m_Sr_costOfValues_0 {p : Program} {l : Launch} {e : Env} {R : Room} {s : State} {m : MethodId} {args : Array Value} {below : List Frame} {meth : Method} {c : Code} {D : va_G} {ad : Ky → Nat} {tc : Tc} {A : Nat → Prop} {cs sl : Nat} {Qm : State → Prop} (X : Cx p s m args c cX5_costOfValues RX5 4 D ad tc A) (hR : RmOK R cs sl 1 22) {Q : Int → Mem → Prop} (hret : RtI p l e R s m args below meth c D ad tc A cs sl Qm cX5_costOfValues Q) {l1c : Nat} {l1p : Int} {l1k : Nat} {σ : Mem} (hl1 : Arr l1c l1p l1k 6) (h : Sr_costOfValues l1c l1p l1k σ Q) : AW p l e R s m args below meth c D ad tc A cs sl Qm 0 [some (.ref (ad (5, 0, 0))), some (.ref (ad (l1c, l1p, l1k + 1))), none, none] [] σ := by
  unfold Sr_costOfValues at h
  refine aw_iconst X dX5_costOfValues_0 ?_
  refine aw_istore_n X dX5_costOfValues_1 (Nat.le_of_ble_eq_true rfl) rfl ?_
  refine aw_als (als' := [some (.ref (ad (5, 0, 0))), some (.ref (ad (l1c, l1p, l1k + 1))), some (.int (oI 0)), none]) rfl ?_
  refine aw_iconst X dX5_costOfValues_2 ?_
  refine aw_istore_n X dX5_costOfValues_3 (Nat.le_of_ble_eq_true rfl) rfl ?_
  refine aw_als (als' := [some (.ref (ad (5, 0, 0))), some (.ref (ad (l1c, l1p, l1k + 1))), some (.int (oI 0)), some (.int (oI 0))]) rfl ?_
  refine aw_weak (als' := [some (.ref (ad (5, 0, 0))), some (.ref (ad (l1c, l1p, l1k + 1))), some (.int (oI 0)), some (.int (oI 0))]) ⟨rfl, rfl, rfl, rfl, trivial⟩ ?_
  obtain ⟨n0, h⟩ := h
  exact m_Sr_costOfValues_4 X hR hret n0 _ _ _ _ _ _ hl1 h
theorem s_Sr_costOfValues (l : Launch) (D : va_G) (ad : Ky → Nat) (tc : Tc) (hi : adI ad) {l1c : Nat} {l1p : Int} {l1k : Nat} (hl1 : Arr l1c l1p l1k 6) {σ : Mem} {Q : Int → Mem → Prop} (h : Sr_costOfValues l1c l1p l1k σ Q) : CtI l D ad tc yX5_costOfValues cX5_costOfValues 4 (some .int) { frames := 1, cells := 0, slots := 0, locals := 22 } [.ref (ad (5, 0, 0)), .ref (ad (l1c, l1p, l1k + 1))] σ Q := CtI.mk (by decide +kernel) hi (Nat.le_of_ble_eq_true rfl) rfl (fun p e s m args below meth c A Qm X hR hret => m_Sr_costOfValues_0 X hR hret hl1 h)

set_option maxHeartbeats 4000000 in
set_option maxRecDepth 100000 in
theorem m_Sr_hearParts_165 {p : Program} {l : Launch} {e : Env} {R : Room} {s : State} {m : MethodId} {args : Array Value} {below : List Frame} {meth : Method} {c : Code} {D : va_G} {ad : Ky → Nat} {tc : Tc} {A : Nat → Prop} {cs sl : Nat} {Qm : State → Prop} (X : Cx p s m args c cX5_hearParts RX5 8 D ad tc A) (hR : RmOK R cs sl 6 164) {Q : Int → Mem → Prop} (hret : RtI p l e R s m args below meth c D ad tc A cs sl Qm cX5_hearParts Q) {s0 : Int} {σ : Mem} (h : Sr_hearParts_165 Q s0 σ) : AW p l e R s m args below meth c D ad tc A cs sl Qm 165 [none, none, none, none, none, none, none, none] [.int (oI s0)] σ := by
  unfold Sr_hearParts_165 at h
  exact hret 165 _ _ _ dX5_hearParts_165 h

set_option maxHeartbeats 4000000 in
set_option maxRecDepth 100000 in
theorem m_Sr_hearParts_143 {p : Program} {l : Launch} {e : Env} {R : Room} {s : State} {m : MethodId} {args : Array Value} {below : List Frame} {meth : Method} {c : Code} {D : va_G} {ad : Ky → Nat} {tc : Tc} {A : Nat → Prop} {cs sl : Nat} {Qm : State → Prop} (X : Cx p s m args c cX5_hearParts RX5 8 D ad tc A) (hR : RmOK R cs sl 6 164) {Q : Int → Mem → Prop} (hret : RtI p l e R s m args below meth c D ad tc A cs sl Qm cX5_hearParts Q) {k44 : Int → Int → Int → Int → Int → Mem → Prop} (hk44 : ∀ (l2 : Int) (l3 : Int) (l4 : Int) (l5 : Int) (l6 : Int) (σ : Mem), k44 l2 l3 l4 l5 l6 σ → AW p l e R s m args below meth c D ad tc A cs sl Qm 44 [some (.ref (ad (5, 0, 0))), some (.ref (ad (4, 0, 5))), some (.int (oI l2)), some (.int (oI l3)), some (.int (oI l4)), some (.int (oI l5)), some (.int (oI l6)), none] [] σ) {l2 : Int} {l3 : Int} {l4 : Int} {l5 : Int} {l6 : Int} {σ : Mem} (h : Sr_hearParts_143 k44 Q l2 l3 l4 l5 l6 σ) : AW p l e R s m args below meth c D ad tc A cs sl Qm 143 [some (.ref (ad (5, 0, 0))), some (.ref (ad (4, 0, 5))), some (.int (oI l2)), some (.int (oI l3)), some (.int (oI l4)), some (.int (oI l5)), some (.int (oI l6)), none] [] σ := by
  unfold Sr_hearParts_143 at h
  refine aw_iinc X dX5_hearParts_143 rfl rfl ?_
  obtain ⟨x1, ex1⟩ : ∃ z : Int, z = (l6 + 1) := ⟨_, rfl⟩
  replace h := h x1 ex1
  refine aw_als (als' := [some (.ref (ad (5, 0, 0))), some (.ref (ad (4, 0, 5))), some (.int (oI l2)), some (.int (oI l3)), some (.int (oI l4)), some (.int (oI l5)), some (.int (oI x1)), none]) (by subst ex1; rfl) ?_
  refine aw_goto X dX5_hearParts_146 (tgt := 44) (by decide) ?_
  refine aw_weak (als' := [some (.ref (ad (5, 0, 0))), some (.ref (ad (4, 0, 5))), some (.int (oI l2)), some (.int (oI l3)), some (.int (oI l4)), some (.int (oI l5)), some (.int (oI x1)), none]) ⟨rfl, rfl, rfl, rfl, rfl, rfl, rfl, trivial⟩ ?_
  exact hk44 _ _ _ _ _ _ h

set_option maxHeartbeats 4000000 in
set_option maxRecDepth 100000 in
theorem m_Sr_hearParts_115 {p : Program} {l : Launch} {e : Env} {R : Room} {s : State} {m : MethodId} {args : Array Value} {below : List Frame} {meth : Method} {c : Code} {D : va_G} {ad : Ky → Nat} {tc : Tc} {A : Nat → Prop} {cs sl : Nat} {Qm : State → Prop} (X : Cx p s m args c cX5_hearParts RX5 8 D ad tc A) (hR : RmOK R cs sl 6 164) {Q : Int → Mem → Prop} (hret : RtI p l e R s m args below meth c D ad tc A cs sl Qm cX5_hearParts Q) {k44 : Int → Int → Int → Int → Int → Mem → Prop} (hk44 : ∀ (l2 : Int) (l3 : Int) (l4 : Int) (l5 : Int) (l6 : Int) (σ : Mem), k44 l2 l3 l4 l5 l6 σ → AW p l e R s m args below meth c D ad tc A cs sl Qm 44 [some (.ref (ad (5, 0, 0))), some (.ref (ad (4, 0, 5))), some (.int (oI l2)), some (.int (oI l3)), some (.int (oI l4)), some (.int (oI l5)), some (.int (oI l6)), none] [] σ) {l2 : Int} {l3 : Int} {l4 : Int} {l5 : Int} {l6 : Int} {l7 : Int} {σ : Mem} (h : Sr_hearParts_115 k44 Q l2 l3 l4 l5 l6 l7 σ) : AW p l e R s m args below meth c D ad tc A cs sl Qm 115 [some (.ref (ad (5, 0, 0))), some (.ref (ad (4, 0, 5))), some (.int (oI l2)), some (.int (oI l3)), some (.int (oI l4)), some (.int (oI l5)), some (.int (oI l6)), some (.int (oI l7))] [] σ := by
  unfold Sr_hearParts_115 at h
  refine aw_iload X dX5_hearParts_115 rfl ?_
  refine aw_bipush X dX5_hearParts_117 rfl ?_
  obtain ⟨g1, h⟩ := h
  refine aw_icmp_ne X dX5_hearParts_119 (tgt := 127) (by decide) g1 ⟨by decide, by decide⟩ (fun hc => ?_) (fun hc => ?_)
  · replace h := h.1 hc
    refine aw_iload_n X dX5_hearParts_127 rfl ?_
    refine aw_aload_n X dX5_hearParts_128 rfl ?_
    refine aw_get X ob_5 fl_X5_19 rfl dX5_hearParts_129 ?_
    refine aw_get X ob_2 fl_X5_79 rfl dX5_hearParts_132 ?_
    refine aw_iload X dX5_hearParts_135 rfl ?_
    obtain ⟨g3a, g3b, h⟩ := h
    refine aw_iald X ar_2_1 g3a g3b dX5_hearParts_137 ?_
    refine aw_iload X dX5_hearParts_138 rfl ?_
    refine aw_imul X dX5_hearParts_140 ?_
    refine aw_iadd X dX5_hearParts_141 ?_
    refine aw_istore_n X dX5_hearParts_142 (Nat.le_of_ble_eq_true rfl) rfl ?_
    obtain ⟨x4, ex4⟩ : ∃ z : Int, z = (l2 + ((σ 2 0 1 l6) * l7)) := ⟨_, rfl⟩
    replace h := h x4 ex4
    refine aw_als (als' := [some (.ref (ad (5, 0, 0))), some (.ref (ad (4, 0, 5))), some (.int (oI x4)), some (.int (oI l3)), some (.int (oI l4)), some (.int (oI l5)), some (.int (oI l6)), some (.int (oI l7))]) (by subst ex4; rfl) ?_
    refine aw_weak (als' := [some (.ref (ad (5, 0, 0))), some (.ref (ad (4, 0, 5))), some (.int (oI x4)), some (.int (oI l3)), some (.int (oI l4)), some (.int (oI l5)), some (.int (oI l6)), none]) ⟨rfl, rfl, rfl, rfl, rfl, rfl, rfl, trivial⟩ ?_
    exact m_Sr_hearParts_143 X hR hret hk44 h
  · replace h := h.2 hc
    refine aw_iconst X dX5_hearParts_122 ?_
    refine aw_istore_n X dX5_hearParts_123 (Nat.le_of_ble_eq_true rfl) rfl ?_
    refine aw_als (als' := [some (.ref (ad (5, 0, 0))), some (.ref (ad (4, 0, 5))), some (.int (oI l2)), some (.int (oI 0)), some (.int (oI l4)), some (.int (oI l5)), some (.int (oI l6)), some (.int (oI l7))]) rfl ?_
    refine aw_goto X dX5_hearParts_124 (tgt := 143) (by decide) ?_
    refine aw_weak (als' := [some (.ref (ad (5, 0, 0))), some (.ref (ad (4, 0, 5))), some (.int (oI l2)), some (.int (oI 0)), some (.int (oI l4)), some (.int (oI l5)), some (.int (oI l6)), none]) ⟨rfl, rfl, rfl, rfl, rfl, rfl, rfl, trivial⟩ ?_
    exact m_Sr_hearParts_143 X hR hret hk44 h

set_option maxHeartbeats 4000000 in
set_option maxRecDepth 100000 in
theorem m_Sr_hearParts_103 {p : Program} {l : Launch} {e : Env} {R : Room} {s : State} {m : MethodId} {args : Array Value} {below : List Frame} {meth : Method} {c : Code} {D : va_G} {ad : Ky → Nat} {tc : Tc} {A : Nat → Prop} {cs sl : Nat} {Qm : State → Prop} (X : Cx p s m args c cX5_hearParts RX5 8 D ad tc A) (hR : RmOK R cs sl 6 164) {Q : Int → Mem → Prop} (hret : RtI p l e R s m args below meth c D ad tc A cs sl Qm cX5_hearParts Q) {k44 : Int → Int → Int → Int → Int → Mem → Prop} (hk44 : ∀ (l2 : Int) (l3 : Int) (l4 : Int) (l5 : Int) (l6 : Int) (σ : Mem), k44 l2 l3 l4 l5 l6 σ → AW p l e R s m args below meth c D ad tc A cs sl Qm 44 [some (.ref (ad (5, 0, 0))), some (.ref (ad (4, 0, 5))), some (.int (oI l2)), some (.int (oI l3)), some (.int (oI l4)), some (.int (oI l5)), some (.int (oI l6)), none] [] σ) {l2 : Int} {l3 : Int} {l4 : Int} {l5 : Int} {l6 : Int} {l7 : Int} {σ : Mem} (h : Sr_hearParts_103 k44 Q l2 l3 l4 l5 l6 l7 σ) : AW p l e R s m args below meth c D ad tc A cs sl Qm 103 [some (.ref (ad (5, 0, 0))), some (.ref (ad (4, 0, 5))), some (.int (oI l2)), some (.int (oI l3)), some (.int (oI l4)), some (.int (oI l5)), some (.int (oI l6)), some (.int (oI l7))] [] σ := by
  unfold Sr_hearParts_103 at h
  refine aw_aload_n X dX5_hearParts_103 rfl ?_
  refine aw_iload X dX5_hearParts_104 rfl ?_
  refine aw_iload X dX5_hearParts_106 rfl ?_
  refine aw_iload X dX5_hearParts_108 rfl ?_
  refine aw_iload X dX5_hearParts_110 rfl ?_
  refine aw_callVV X hR (s_Sr_bringCut l D ad tc X.2.2.2.2.2.2.1 h) ml_X5_231 ob_5 rfl (by decide) (by decide) rfl rfl rfl rfl (Nat.le_of_ble_eq_true rfl) rfl dX5_hearParts_112 (fun σ1 h => ?_)
  refine aw_weak (als' := [some (.ref (ad (5, 0, 0))), some (.ref (ad (4, 0, 5))), some (.int (oI l2)), some (.int (oI l3)), some (.int (oI l4)), some (.int (oI l5)), some (.int (oI l6)), some (.int (oI l7))]) ⟨rfl, rfl, rfl, rfl, rfl, rfl, rfl, rfl, trivial⟩ ?_
  exact m_Sr_hearParts_115 X hR hret hk44 h

set_option maxHeartbeats 4000000 in
set_option maxRecDepth 100000 in
theorem m_Sr_hearParts_44 {p : Program} {l : Launch} {e : Env} {R : Room} {s : State} {m : MethodId} {args : Array Value} {below : List Frame} {meth : Method} {c : Code} {D : va_G} {ad : Ky → Nat} {tc : Tc} {A : Nat → Prop} {cs sl : Nat} {Qm : State → Prop} (X : Cx p s m args c cX5_hearParts RX5 8 D ad tc A) (hR : RmOK R cs sl 6 164) {Q : Int → Mem → Prop} (hret : RtI p l e R s m args below meth c D ad tc A cs sl Qm cX5_hearParts Q) {k19 : Int → Int → Int → Mem → Prop} (hk19 : ∀ (l2 : Int) (l3 : Int) (l4 : Int) (σ : Mem), k19 l2 l3 l4 σ → AW p l e R s m args below meth c D ad tc A cs sl Qm 19 [some (.ref (ad (5, 0, 0))), some (.ref (ad (4, 0, 5))), some (.int (oI l2)), some (.int (oI l3)), some (.int (oI l4)), none, none, none] [] σ) : ∀ (n : Nat) (l2 : Int) (l3 : Int) (l4 : Int) (l5 : Int) (l6 : Int) (σ : Mem), Sr_hearParts_44 k19 Q n l2 l3 l4 l5 l6 σ → AW p l e R s m args below meth c D ad tc A cs sl Qm 44 [some (.ref (ad (5, 0, 0))), some (.ref (ad (4, 0, 5))), some (.int (oI l2)), some (.int (oI l3)), some (.int (oI l4)), some (.int (oI l5)), some (.int (oI l6)), none] [] σ := by
  intro n
  induction n with
  | zero =>
    intro l2 l3 l4 l5 l6 σ h
    exact False.elim h
  | succ n ih =>
    intro l2 l3 l4 l5 l6 σ h
    unfold Sr_hearParts_44 at h
    refine aw_iload X dX5_hearParts_44 rfl ?_
    refine aw_aload_n X dX5_hearParts_46 rfl ?_
    refine aw_get X ob_5 fl_X5_19 rfl dX5_hearParts_47 ?_
    refine aw_get X ob_2 fl_X5_78 rfl dX5_hearParts_50 ?_
    obtain ⟨g1, h⟩ := h
    obtain ⟨g2, h⟩ := h
    refine aw_icmp_ge X dX5_hearParts_53 (tgt := 149) (by decide) g1 g2 (fun hc => ?_) (fun hc => ?_)
    · replace h := h.1 hc
      refine aw_iinc X dX5_hearParts_149 rfl rfl ?_
      obtain ⟨x3, ex3⟩ : ∃ z : Int, z = (l4 + 1) := ⟨_, rfl⟩
      replace h := h x3 ex3
      refine aw_als (als' := [some (.ref (ad (5, 0, 0))), some (.ref (ad (4, 0, 5))), some (.int (oI l2)), some (.int (oI l3)), some (.int (oI x3)), some (.int (oI l5)), some (.int (oI l6)), none]) (by subst ex3; rfl) ?_
      refine aw_goto X dX5_hearParts_152 (tgt := 19) (by decide) ?_
      refine aw_weak (als' := [some (.ref (ad (5, 0, 0))), some (.ref (ad (4, 0, 5))), some (.int (oI l2)), some (.int (oI l3)), some (.int (oI x3)), none, none, none]) ⟨rfl, rfl, rfl, rfl, rfl, trivial⟩ ?_
      exact hk19 _ _ _ _ h
    · replace h := h.2 hc
      refine aw_aload_n X dX5_hearParts_56 rfl ?_
      refine aw_get X ob_5 fl_X5_25 rfl dX5_hearParts_57 ?_
      refine aw_iload X dX5_hearParts_60 rfl ?_
      obtain ⟨g4a, g4b, h⟩ := h
      refine aw_aald X g4a g4b dX5_hearParts_62 ?_
      refine aw_iload X dX5_hearParts_63 rfl ?_
      refine aw_iload X dX5_hearParts_65 rfl ?_
      refine aw_callVI X hR (s_Pa_answerTo l D ad tc X.2.2.2.2.2.2.1 ⟨g4a, g4b⟩ h) ml_X5_194 (ob_3 ⟨g4a, g4b⟩) rfl (by decide) (by decide) rfl rfl rfl rfl (Nat.le_of_ble_eq_true rfl) rfl dX5_hearParts_67 (fun r5 σ5 h => ?_)
      refine aw_istore X dX5_hearParts_70 (Nat.le_of_ble_eq_true rfl) rfl ?_
      refine aw_als (als' := [some (.ref (ad (5, 0, 0))), some (.ref (ad (4, 0, 5))), some (.int (oI l2)), some (.int (oI l3)), some (.int (oI l4)), some (.int (oI l5)), some (.int (oI l6)), some (.int (oI r5))]) rfl ?_
      refine aw_iload X dX5_hearParts_72 rfl ?_
      refine aw_bipush X dX5_hearParts_74 rfl ?_
      obtain ⟨g6, h⟩ := h
      refine aw_icmp_eq X dX5_hearParts_76 (tgt := 103) (by decide) g6 ⟨by decide, by decide⟩ (fun hc => ?_) (fun hc => ?_)
      · replace h := h.1 hc
        refine aw_weak (als' := [some (.ref (ad (5, 0, 0))), some (.ref (ad (4, 0, 5))), some (.int (oI l2)), some (.int (oI l3)), some (.int (oI l4)), some (.int (oI l5)), some (.int (oI l6)), some (.int (oI r5))]) ⟨rfl, rfl, rfl, rfl, rfl, rfl, rfl, rfl, trivial⟩ ?_
        exact m_Sr_hearParts_103 X hR hret ih h
      · replace h := h.2 hc
        refine aw_iload X dX5_hearParts_79 rfl ?_
        refine aw_aload_n X dX5_hearParts_81 rfl ?_
        refine aw_get X ob_5 fl_X5_25 rfl dX5_hearParts_82 ?_
        refine aw_iload X dX5_hearParts_85 rfl ?_
        obtain ⟨g8a, g8b, h⟩ := h
        refine aw_aald X g8a g8b dX5_hearParts_87 ?_
        refine aw_get X (ob_3 ⟨g8a, g8b⟩) fl_X5_228 rfl dX5_hearParts_88 ?_
        refine aw_iload X dX5_hearParts_91 rfl ?_
        refine aw_bipush X dX5_hearParts_93 rfl ?_
        refine aw_imul X dX5_hearParts_95 ?_
        refine aw_iload X dX5_hearParts_96 rfl ?_
        refine aw_iadd X dX5_hearParts_98 ?_
        obtain ⟨g9a, g9b, h⟩ := h
        refine aw_iald X (ar_3_11 ⟨g8a, g8b⟩) g9a g9b dX5_hearParts_99 ?_
        obtain ⟨g10, h⟩ := h
        obtain ⟨g11, h⟩ := h
        refine aw_icmp_le X dX5_hearParts_100 (tgt := 115) (by decide) g10 g11 (fun hc => ?_) (fun hc => ?_)
        · replace h := h.1 hc
          refine aw_weak (als' := [some (.ref (ad (5, 0, 0))), some (.ref (ad (4, 0, 5))), some (.int (oI l2)), some (.int (oI l3)), some (.int (oI l4)), some (.int (oI l5)), some (.int (oI l6)), some (.int (oI r5))]) ⟨rfl, rfl, rfl, rfl, rfl, rfl, rfl, rfl, trivial⟩ ?_
          exact m_Sr_hearParts_115 X hR hret ih h
        · replace h := h.2 hc
          refine aw_weak (als' := [some (.ref (ad (5, 0, 0))), some (.ref (ad (4, 0, 5))), some (.int (oI l2)), some (.int (oI l3)), some (.int (oI l4)), some (.int (oI l5)), some (.int (oI l6)), some (.int (oI r5))]) ⟨rfl, rfl, rfl, rfl, rfl, rfl, rfl, rfl, trivial⟩ ?_
          exact m_Sr_hearParts_103 X hR hret ih h

set_option maxHeartbeats 4000000 in
set_option maxRecDepth 100000 in
theorem m_Sr_hearParts_19 {p : Program} {l : Launch} {e : Env} {R : Room} {s : State} {m : MethodId} {args : Array Value} {below : List Frame} {meth : Method} {c : Code} {D : va_G} {ad : Ky → Nat} {tc : Tc} {A : Nat → Prop} {cs sl : Nat} {Qm : State → Prop} (X : Cx p s m args c cX5_hearParts RX5 8 D ad tc A) (hR : RmOK R cs sl 6 164) {Q : Int → Mem → Prop} (hret : RtI p l e R s m args below meth c D ad tc A cs sl Qm cX5_hearParts Q) : ∀ (n : Nat) (l2 : Int) (l3 : Int) (l4 : Int) (σ : Mem), Sr_hearParts_19 Q n l2 l3 l4 σ → AW p l e R s m args below meth c D ad tc A cs sl Qm 19 [some (.ref (ad (5, 0, 0))), some (.ref (ad (4, 0, 5))), some (.int (oI l2)), some (.int (oI l3)), some (.int (oI l4)), none, none, none] [] σ := by
  intro n
  induction n with
  | zero =>
    intro l2 l3 l4 σ h
    exact False.elim h
  | succ n ih =>
    intro l2 l3 l4 σ h
    unfold Sr_hearParts_19 at h
    refine aw_iload X dX5_hearParts_19 rfl ?_
    refine aw_aload_n X dX5_hearParts_21 rfl ?_
    refine aw_get X ob_5 fl_X5_85 rfl dX5_hearParts_22 ?_
    obtain ⟨g1, h⟩ := h
    obtain ⟨g2, h⟩ := h
    refine aw_icmp_ge X dX5_hearParts_25 (tgt := 155) (by decide) g1 g2 (fun hc => ?_) (fun hc => ?_)
    · replace h := h.1 hc
      refine aw_iload_n X dX5_hearParts_155 rfl ?_
      obtain ⟨g3, h⟩ := h
      refine aw_if_eq X dX5_hearParts_156 (tgt := 163) (by decide) g3 (fun hc => ?_) (fun hc => ?_)
      · replace h := h.1 hc
        refine aw_bipush X dX5_hearParts_163 rfl ?_
        refine aw_weak (als' := [none, none, none, none, none, none, none, none]) trivial ?_
        exact m_Sr_hearParts_165 X hR hret h
      · replace h := h.2 hc
        refine aw_iload_n X dX5_hearParts_159 rfl ?_
        refine aw_goto X dX5_hearParts_160 (tgt := 165) (by decide) ?_
        refine aw_weak (als' := [none, none, none, none, none, none, none, none]) trivial ?_
        exact m_Sr_hearParts_165 X hR hret h
    · replace h := h.2 hc
      refine aw_aload_n X dX5_hearParts_28 rfl ?_
      refine aw_get X ob_5 fl_X5_25 rfl dX5_hearParts_29 ?_
      refine aw_iload X dX5_hearParts_32 rfl ?_
      obtain ⟨g4a, g4b, h⟩ := h
      refine aw_aald X g4a g4b dX5_hearParts_34 ?_
      refine aw_aload_n X dX5_hearParts_35 rfl ?_
      refine aw_callVI X hR (s_Pa_spotOf l D ad tc X.2.2.2.2.2.2.1 ⟨g4a, g4b⟩ ar_4_4 h) ml_X5_191 (ob_3 ⟨g4a, g4b⟩) rfl (by decide) (by decide) rfl rfl rfl rfl (Nat.le_of_ble_eq_true rfl) rfl dX5_hearParts_36 (fun r5 σ5 h => ?_)
      refine aw_istore X dX5_hearParts_39 (Nat.le_of_ble_eq_true rfl) rfl ?_
      refine aw_als (als' := [some (.ref (ad (5, 0, 0))), some (.ref (ad (4, 0, 5))), some (.int (oI l2)), some (.int (oI l3)), some (.int (oI l4)), some (.int (oI r5)), none, none]) rfl ?_
      refine aw_iconst X dX5_hearParts_41 ?_
      refine aw_istore X dX5_hearParts_42 (Nat.le_of_ble_eq_true rfl) rfl ?_
      refine aw_als (als' := [some (.ref (ad (5, 0, 0))), some (.ref (ad (4, 0, 5))), some (.int (oI l2)), some (.int (oI l3)), some (.int (oI l4)), some (.int (oI r5)), some (.int (oI 0)), none]) rfl ?_
      refine aw_weak (als' := [some (.ref (ad (5, 0, 0))), some (.ref (ad (4, 0, 5))), some (.int (oI l2)), some (.int (oI l3)), some (.int (oI l4)), some (.int (oI r5)), some (.int (oI 0)), none]) ⟨rfl, rfl, rfl, rfl, rfl, rfl, rfl, trivial⟩ ?_
      obtain ⟨n0, h⟩ := h
      exact m_Sr_hearParts_44 X hR hret ih n0 _ _ _ _ _ _ h

set_option maxHeartbeats 4000000 in
set_option maxRecDepth 100000 in
theorem m_Sr_hearParts_0 {p : Program} {l : Launch} {e : Env} {R : Room} {s : State} {m : MethodId} {args : Array Value} {below : List Frame} {meth : Method} {c : Code} {D : va_G} {ad : Ky → Nat} {tc : Tc} {A : Nat → Prop} {cs sl : Nat} {Qm : State → Prop} (X : Cx p s m args c cX5_hearParts RX5 8 D ad tc A) (hR : RmOK R cs sl 6 164) {Q : Int → Mem → Prop} (hret : RtI p l e R s m args below meth c D ad tc A cs sl Qm cX5_hearParts Q) {σ : Mem} (h : Sr_hearParts σ Q) : AW p l e R s m args below meth c D ad tc A cs sl Qm 0 [some (.ref (ad (5, 0, 0))), none, none, none, none, none, none, none] [] σ := by
  unfold Sr_hearParts at h
  refine aw_aload_n X dX5_hearParts_0 rfl ?_
  refine aw_get X ob_5 fl_X5_39 rfl dX5_hearParts_1 ?_
  refine aw_get X ob_4 fl_X5_177 rfl dX5_hearParts_4 ?_
  refine aw_astore_n X dX5_hearParts_7 (Nat.le_of_ble_eq_true rfl) rfl ?_
  refine aw_als (als' := [some (.ref (ad (5, 0, 0))), some (.ref (ad (4, 0, 5))), none, none, none, none, none, none]) rfl ?_
  refine aw_aload_n X dX5_hearParts_8 rfl ?_
  refine aw_aload_n X dX5_hearParts_9 rfl ?_
  refine aw_callVI X hR (s_Sr_costOfValues l D ad tc X.2.2.2.2.2.2.1 ar_4_4 h) ml_X5_180 ob_5 rfl (by decide) (by decide) rfl rfl rfl rfl (Nat.le_of_ble_eq_true rfl) rfl dX5_hearParts_10 (fun r1 σ1 h => ?_)
  refine aw_istore_n X dX5_hearParts_13 (Nat.le_of_ble_eq_true rfl) rfl ?_
  refine aw_als (als' := [some (.ref (ad (5, 0, 0))), some (.ref (ad (4, 0, 5))), some (.int (oI r1)), none, none, none, none, none]) rfl ?_
  refine aw_iconst X dX5_hearParts_14 ?_
  refine aw_istore_n X dX5_hearParts_15 (Nat.le_of_ble_eq_true rfl) rfl ?_
  refine aw_als (als' := [some (.ref (ad (5, 0, 0))), some (.ref (ad (4, 0, 5))), some (.int (oI r1)), some (.int (oI 1)), none, none, none, none]) rfl ?_
  refine aw_iconst X dX5_hearParts_16 ?_
  refine aw_istore X dX5_hearParts_17 (Nat.le_of_ble_eq_true rfl) rfl ?_
  refine aw_als (als' := [some (.ref (ad (5, 0, 0))), some (.ref (ad (4, 0, 5))), some (.int (oI r1)), some (.int (oI 1)), some (.int (oI 0)), none, none, none]) rfl ?_
  refine aw_weak (als' := [some (.ref (ad (5, 0, 0))), some (.ref (ad (4, 0, 5))), some (.int (oI r1)), some (.int (oI 1)), some (.int (oI 0)), none, none, none]) ⟨rfl, rfl, rfl, rfl, rfl, trivial⟩ ?_
  obtain ⟨n0, h⟩ := h
  exact m_Sr_hearParts_19 X hR hret n0 _ _ _ _ h
theorem s_Sr_hearParts (l : Launch) (D : va_G) (ad : Ky → Nat) (tc : Tc) (hi : adI ad) {σ : Mem} {Q : Int → Mem → Prop} (h : Sr_hearParts σ Q) : CtI l D ad tc yX5_hearParts cX5_hearParts 8 (some .int) { frames := 6, cells := 0, slots := 0, locals := 164 } [.ref (ad (5, 0, 0))] σ Q := CtI.mk (by decide +kernel) hi (Nat.le_of_ble_eq_true rfl) rfl (fun p e s m args below meth c A Qm X hR hret => m_Sr_hearParts_0 X hR hret h)

set_option maxHeartbeats 4000000 in
set_option maxRecDepth 100000 in
theorem m_Sr_run_171 {p : Program} {l : Launch} {e : Env} {R : Room} {s : State} {m : MethodId} {args : Array Value} {below : List Frame} {meth : Method} {c : Code} {D : va_G} {ad : Ky → Nat} {tc : Tc} {A : Nat → Prop} {cs sl : Nat} {Qm : State → Prop} (X : Cx p s m args c cX5_run RX5 4 D ad tc A) (hR : RmOK R cs sl 7 191) {Q : Int → Mem → Prop} (hret : RtI p l e R s m args below meth c D ad tc A cs sl Qm cX5_run Q) {s0 : Int} {σ : Mem} (h : Sr_run_171 Q s0 σ) : AW p l e R s m args below meth c D ad tc A cs sl Qm 171 [none, none, none, none] [.int (oI s0)] σ := by
  unfold Sr_run_171 at h
  exact hret 171 _ _ _ dX5_run_171 h

set_option maxHeartbeats 4000000 in
set_option maxRecDepth 100000 in
theorem m_Sr_run_140 {p : Program} {l : Launch} {e : Env} {R : Room} {s : State} {m : MethodId} {args : Array Value} {below : List Frame} {meth : Method} {c : Code} {D : va_G} {ad : Ky → Nat} {tc : Tc} {A : Nat → Prop} {cs sl : Nat} {Qm : State → Prop} (X : Cx p s m args c cX5_run RX5 4 D ad tc A) (hR : RmOK R cs sl 7 191) {Q : Int → Mem → Prop} (hret : RtI p l e R s m args below meth c D ad tc A cs sl Qm cX5_run Q) {σ : Mem} (h : Sr_run_140 Q σ) : AW p l e R s m args below meth c D ad tc A cs sl Qm 140 [some (.ref (ad (5, 0, 0))), none, none, none] [] σ := by
  unfold Sr_run_140 at h
  refine aw_aload_n X dX5_run_140 rfl ?_
  refine aw_get X ob_5 fl_X5_39 rfl dX5_run_141 ?_
  refine aw_get X ob_4 fl_X5_136 rfl dX5_run_144 ?_
  refine aw_iconst X dX5_run_147 ?_
  obtain ⟨g1, h⟩ := h
  refine aw_icmp_ne X dX5_run_148 (tgt := 155) (by decide) g1 ⟨by decide, by decide⟩ (fun hc => ?_) (fun hc => ?_)
  · replace h := h.1 hc
    refine aw_aload_n X dX5_run_155 rfl ?_
    refine aw_get X ob_5 fl_X5_39 rfl dX5_run_156 ?_
    refine aw_get X ob_4 fl_X5_136 rfl dX5_run_159 ?_
    refine aw_iconst X dX5_run_162 ?_
    obtain ⟨g3, h⟩ := h
    refine aw_icmp_ne X dX5_run_163 (tgt := 170) (by decide) g3 ⟨by decide, by decide⟩ (fun hc => ?_) (fun hc => ?_)
    · replace h := h.1 hc
      refine aw_iconst X dX5_run_170 ?_
      refine aw_weak (als' := [none, none, none, none]) trivial ?_
      exact m_Sr_run_171 X hR hret h
    · replace h := h.2 hc
      refine aw_iconst X dX5_run_166 ?_
      refine aw_goto X dX5_run_167 (tgt := 171) (by decide) ?_
      refine aw_weak (als' := [none, none, none, none]) trivial ?_
      exact m_Sr_run_171 X hR hret h
  · replace h := h.2 hc
    refine aw_iconst X dX5_run_151 ?_
    refine aw_goto X dX5_run_152 (tgt := 171) (by decide) ?_
    refine aw_weak (als' := [none, none, none, none]) trivial ?_
    exact m_Sr_run_171 X hR hret h

set_option maxHeartbeats 4000000 in
set_option maxRecDepth 100000 in
theorem m_Sr_run_134 {p : Program} {l : Launch} {e : Env} {R : Room} {s : State} {m : MethodId} {args : Array Value} {below : List Frame} {meth : Method} {c : Code} {D : va_G} {ad : Ky → Nat} {tc : Tc} {A : Nat → Prop} {cs sl : Nat} {Qm : State → Prop} (X : Cx p s m args c cX5_run RX5 4 D ad tc A) (hR : RmOK R cs sl 7 191) {Q : Int → Mem → Prop} (hret : RtI p l e R s m args below meth c D ad tc A cs sl Qm cX5_run Q) {k16 : Int → Int → Mem → Prop} (hk16 : ∀ (l1 : Int) (l2 : Int) (σ : Mem), k16 l1 l2 σ → AW p l e R s m args below meth c D ad tc A cs sl Qm 16 [some (.ref (ad (5, 0, 0))), some (.int (oI l1)), some (.int (oI l2)), none] [] σ) {l1 : Int} {l2 : Int} {σ : Mem} (h : Sr_run_134 k16 Q l1 l2 σ) : AW p l e R s m args below meth c D ad tc A cs sl Qm 134 [some (.ref (ad (5, 0, 0))), some (.int (oI l1)), some (.int (oI l2)), none] [] σ := by
  unfold Sr_run_134 at h
  refine aw_iinc X dX5_run_134 rfl rfl ?_
  obtain ⟨x1, ex1⟩ : ∃ z : Int, z = (l2 + 1) := ⟨_, rfl⟩
  replace h := h x1 ex1
  refine aw_als (als' := [some (.ref (ad (5, 0, 0))), some (.int (oI l1)), some (.int (oI x1)), none]) (by subst ex1; rfl) ?_
  refine aw_goto X dX5_run_137 (tgt := 16) (by decide) ?_
  refine aw_weak (als' := [some (.ref (ad (5, 0, 0))), some (.int (oI l1)), some (.int (oI x1)), none]) ⟨rfl, rfl, rfl, trivial⟩ ?_
  exact hk16 _ _ _ h

set_option maxHeartbeats 4000000 in
set_option maxRecDepth 100000 in
theorem m_Sr_run_80 {p : Program} {l : Launch} {e : Env} {R : Room} {s : State} {m : MethodId} {args : Array Value} {below : List Frame} {meth : Method} {c : Code} {D : va_G} {ad : Ky → Nat} {tc : Tc} {A : Nat → Prop} {cs sl : Nat} {Qm : State → Prop} (X : Cx p s m args c cX5_run RX5 4 D ad tc A) (hR : RmOK R cs sl 7 191) {Q : Int → Mem → Prop} (hret : RtI p l e R s m args below meth c D ad tc A cs sl Qm cX5_run Q) {k16 : Int → Int → Mem → Prop} (hk16 : ∀ (l1 : Int) (l2 : Int) (σ : Mem), k16 l1 l2 σ → AW p l e R s m args below meth c D ad tc A cs sl Qm 16 [some (.ref (ad (5, 0, 0))), some (.int (oI l1)), some (.int (oI l2)), none] [] σ) {l1 : Int} {l2 : Int} {l3 : Int} {σ : Mem} (h : Sr_run_80 k16 Q l1 l2 l3 σ) : AW p l e R s m args below meth c D ad tc A cs sl Qm 80 [some (.ref (ad (5, 0, 0))), some (.int (oI l1)), some (.int (oI l2)), some (.int (oI l3))] [] σ := by
  unfold Sr_run_80 at h
  refine aw_aload_n X dX5_run_80 rfl ?_
  refine aw_get X ob_5 fl_X5_39 rfl dX5_run_81 ?_
  refine aw_dup X dX5_run_84 rfl ?_
  refine aw_get X ob_4 fl_X5_159 rfl dX5_run_85 ?_
  refine aw_iconst X dX5_run_88 ?_
  refine aw_iadd X dX5_run_89 ?_
  refine aw_put X ob_4 fl_X5_159 (sf_4_0 ad) rfl rfl dX5_run_90 ?_
  obtain ⟨σ1, eσ1⟩ : ∃ z : Mem, z = up σ 4 0 0 0 ((σ 4 0 0 0) + 1) := ⟨_, rfl⟩
  replace h := h σ1 eσ1
  refine aw_mem eσ1 ?_
  refine aw_aload_n X dX5_run_93 rfl ?_
  refine aw_get X ob_5 fl_X5_39 rfl dX5_run_94 ?_
  refine aw_get X ob_4 fl_X5_136 rfl dX5_run_97 ?_
  obtain ⟨g2, h⟩ := h
  refine aw_if_ne X dX5_run_100 (tgt := 134) (by decide) g2 (fun hc => ?_) (fun hc => ?_)
  · replace h := h.1 hc
    refine aw_weak (als' := [some (.ref (ad (5, 0, 0))), some (.int (oI l1)), some (.int (oI l2)), none]) ⟨rfl, rfl, rfl, trivial⟩ ?_
    exact m_Sr_run_134 X hR hret hk16 h
  · replace h := h.2 hc
    refine aw_aload_n X dX5_run_103 rfl ?_
    refine aw_get X ob_5 fl_X5_32 rfl dX5_run_104 ?_
    refine aw_get X ob_1 fl_X5_139 rfl dX5_run_107 ?_
    refine aw_iload_n X dX5_run_110 rfl ?_
    obtain ⟨g3, h⟩ := h
    obtain ⟨g4, h⟩ := h
    refine aw_icmp_ne X dX5_run_111 (tgt := 134) (by decide) g3 g4 (fun hc => ?_) (fun hc => ?_)
    · replace h := h.1 hc
      refine aw_weak (als' := [some (.ref (ad (5, 0, 0))), some (.int (oI l1)), some (.int (oI l2)), none]) ⟨rfl, rfl, rfl, trivial⟩ ?_
      exact m_Sr_run_134 X hR hret hk16 h
    · replace h := h.2 hc
      refine aw_aload_n X dX5_run_114 rfl ?_
      refine aw_get X ob_5 fl_X5_39 rfl dX5_run_115 ?_
      refine aw_dup X dX5_run_118 rfl ?_
      refine aw_get X ob_4 fl_X5_159 rfl dX5_run_119 ?_
      refine aw_iload_n X dX5_run_122 rfl ?_
      refine aw_iconst X dX5_run_123 ?_
      refine aw_isub X dX5_run_124 ?_
      refine aw_iload_n X dX5_run_125 rfl ?_
      refine aw_isub X dX5_run_126 ?_
      refine aw_iadd X dX5_run_127 ?_
      refine aw_put X ob_4 fl_X5_159 (sf_4_0 ad) rfl rfl dX5_run_128 ?_
      obtain ⟨σ5, eσ5⟩ : ∃ z : Mem, z = up σ1 4 0 0 0 ((σ1 4 0 0 0) + ((l1 - 1) - l2)) := ⟨_, rfl⟩
      replace h := h σ5 eσ5
      refine aw_mem eσ5 ?_
      refine aw_goto X dX5_run_131 (tgt := 140) (by decide) ?_
      refine aw_weak (als' := [some (.ref (ad (5, 0, 0))), none, none, none]) ⟨rfl, trivial⟩ ?_
      exact m_Sr_run_140 X hR hret h

set_option maxHeartbeats 4000000 in
set_option maxRecDepth 100000 in
theorem m_Sr_run_16 {p : Program} {l : Launch} {e : Env} {R : Room} {s : State} {m : MethodId} {args : Array Value} {below : List Frame} {meth : Method} {c : Code} {D : va_G} {ad : Ky → Nat} {tc : Tc} {A : Nat → Prop} {cs sl : Nat} {Qm : State → Prop} (X : Cx p s m args c cX5_run RX5 4 D ad tc A) (hR : RmOK R cs sl 7 191) {Q : Int → Mem → Prop} (hret : RtI p l e R s m args below meth c D ad tc A cs sl Qm cX5_run Q) : ∀ (n : Nat) (l1 : Int) (l2 : Int) (σ : Mem), Sr_run_16 Q n l1 l2 σ → AW p l e R s m args below meth c D ad tc A cs sl Qm 16 [some (.ref (ad (5, 0, 0))), some (.int (oI l1)), some (.int (oI l2)), none] [] σ := by
  intro n
  induction n with
  | zero =>
    intro l1 l2 σ h
    exact False.elim h
  | succ n ih =>
    intro l1 l2 σ h
    unfold Sr_run_16 at h
    refine aw_iload_n X dX5_run_16 rfl ?_
    refine aw_iload_n X dX5_run_17 rfl ?_
    obtain ⟨g1, h⟩ := h
    obtain ⟨g2, h⟩ := h
    refine aw_icmp_ge X dX5_run_18 (tgt := 140) (by decide) g1 g2 (fun hc => ?_) (fun hc => ?_)
    · replace h := h.1 hc
      refine aw_weak (als' := [some (.ref (ad (5, 0, 0))), none, none, none]) ⟨rfl, trivial⟩ ?_
      exact m_Sr_run_140 X hR hret h
    · replace h := h.2 hc
      refine aw_aload_n X dX5_run_21 rfl ?_
      refine aw_get X ob_5 fl_X5_39 rfl dX5_run_22 ?_
      refine aw_get X ob_4 fl_X5_136 rfl dX5_run_25 ?_
      obtain ⟨g3, h⟩ := h
      refine aw_if_ne X dX5_run_28 (tgt := 140) (by decide) g3 (fun hc => ?_) (fun hc => ?_)
      · replace h := h.1 hc
        refine aw_weak (als' := [some (.ref (ad (5, 0, 0))), none, none, none]) ⟨rfl, trivial⟩ ?_
        exact m_Sr_run_140 X hR hret h
      · replace h := h.2 hc
        refine aw_aload_n X dX5_run_31 rfl ?_
        refine aw_get X ob_5 fl_X5_32 rfl dX5_run_32 ?_
        refine aw_get X ob_1 fl_X5_139 rfl dX5_run_35 ?_
        refine aw_istore_n X dX5_run_38 (Nat.le_of_ble_eq_true rfl) rfl ?_
        obtain ⟨x4, ex4⟩ : ∃ z : Int, z = (σ 1 0 0 0) := ⟨_, rfl⟩
        replace h := h x4 ex4
        refine aw_als (als' := [some (.ref (ad (5, 0, 0))), some (.int (oI l1)), some (.int (oI l2)), some (.int (oI x4))]) (by subst ex4; rfl) ?_
        refine aw_aload_n X dX5_run_39 rfl ?_
        refine aw_iconst X dX5_run_40 ?_
        refine aw_callVV X hR (s_Sr_findLeast l D ad tc X.2.2.2.2.2.2.1 h) ml_X5_140 ob_5 rfl (by decide) (by decide) rfl rfl rfl rfl (Nat.le_of_ble_eq_true rfl) rfl dX5_run_41 (fun σ5 h => ?_)
        refine aw_aload_n X dX5_run_44 rfl ?_
        refine aw_get X ob_5 fl_X5_39 rfl dX5_run_45 ?_
        refine aw_aload_n X dX5_run_48 rfl ?_
        refine aw_get X ob_5 fl_X5_50 rfl dX5_run_49 ?_
        refine aw_aload_n X dX5_run_52 rfl ?_
        refine aw_get X ob_5 fl_X5_53 rfl dX5_run_53 ?_
        refine aw_callVV X hR (s_Pg_takeMaster l D ad tc X.2.2.2.2.2.2.1 ar_5_8 h) ml_X5_144 ob_4 rfl (by decide) (by decide) rfl rfl rfl rfl (Nat.le_of_ble_eq_true rfl) rfl dX5_run_56 (fun σ6 h => ?_)
        refine aw_aload_n X dX5_run_59 rfl ?_
        refine aw_get X ob_5 fl_X5_39 rfl dX5_run_60 ?_
        refine aw_callVI X hR (s_Pg_hasMaster l D ad tc X.2.2.2.2.2.2.1 h) ml_X5_148 ob_4 rfl (by decide) (by decide) rfl rfl rfl rfl (Nat.le_of_ble_eq_true rfl) rfl dX5_run_63 (fun r7 σ7 h => ?_)
        obtain ⟨g8, h⟩ := h
        refine aw_if_eq X dX5_run_66 (tgt := 80) (by decide) g8 (fun hc => ?_) (fun hc => ?_)
        · replace h := h.1 hc
          refine aw_weak (als' := [some (.ref (ad (5, 0, 0))), some (.int (oI l1)), some (.int (oI l2)), some (.int (oI x4))]) ⟨rfl, rfl, rfl, rfl, trivial⟩ ?_
          exact m_Sr_run_80 X hR hret ih h
        · replace h := h.2 hc
          refine aw_aload_n X dX5_run_69 rfl ?_
          refine aw_get X ob_5 fl_X5_39 rfl dX5_run_70 ?_
          refine aw_aload_n X dX5_run_73 rfl ?_
          refine aw_callVI X hR (s_Sr_hearParts l D ad tc X.2.2.2.2.2.2.1 h) ml_X5_152 ob_5 rfl (by decide) (by decide) rfl rfl rfl rfl (Nat.le_of_ble_eq_true rfl) rfl dX5_run_74 (fun r9 σ9 h => ?_)
          refine aw_callVV X hR (s_Pg_takeCost l D ad tc X.2.2.2.2.2.2.1 h) ml_X5_156 ob_4 rfl (by decide) (by decide) rfl rfl rfl rfl (Nat.le_of_ble_eq_true rfl) rfl dX5_run_77 (fun σ10 h => ?_)
          refine aw_weak (als' := [some (.ref (ad (5, 0, 0))), some (.int (oI l1)), some (.int (oI l2)), some (.int (oI x4))]) ⟨rfl, rfl, rfl, rfl, trivial⟩ ?_
          exact m_Sr_run_80 X hR hret ih h

set_option maxHeartbeats 4000000 in
set_option maxRecDepth 100000 in
theorem m_Sr_run_11 {p : Program} {l : Launch} {e : Env} {R : Room} {s : State} {m : MethodId} {args : Array Value} {below : List Frame} {meth : Method} {c : Code} {D : va_G} {ad : Ky → Nat} {tc : Tc} {A : Nat → Prop} {cs sl : Nat} {Qm : State → Prop} (X : Cx p s m args c cX5_run RX5 4 D ad tc A) (hR : RmOK R cs sl 7 191) {Q : Int → Mem → Prop} (hret : RtI p l e R s m args below meth c D ad tc A cs sl Qm cX5_run Q) {σ : Mem} (h : Sr_run_11 Q σ) : AW p l e R s m args below meth c D ad tc A cs sl Qm 11 [none, none, none, none] [] σ := by
  unfold Sr_run_11 at h
  refine aw_bipush X dX5_run_11 rfl ?_
  exact hret 13 _ _ _ dX5_run_13 h

set_option maxHeartbeats 4000000 in
set_option maxRecDepth 100000 in
theorem m_Sr_run_0 {p : Program} {l : Launch} {e : Env} {R : Room} {s : State} {m : MethodId} {args : Array Value} {below : List Frame} {meth : Method} {c : Code} {D : va_G} {ad : Ky → Nat} {tc : Tc} {A : Nat → Prop} {cs sl : Nat} {Qm : State → Prop} (X : Cx p s m args c cX5_run RX5 4 D ad tc A) (hR : RmOK R cs sl 7 191) {Q : Int → Mem → Prop} (hret : RtI p l e R s m args below meth c D ad tc A cs sl Qm cX5_run Q) {l1 : Int} {σ : Mem} (h : Sr_run l1 σ Q) : AW p l e R s m args below meth c D ad tc A cs sl Qm 0 [some (.ref (ad (5, 0, 0))), some (.int (oI l1)), none, none] [] σ := by
  unfold Sr_run at h
  refine aw_iload_n X dX5_run_0 rfl ?_
  refine aw_iconst X dX5_run_1 ?_
  obtain ⟨g1, h⟩ := h
  refine aw_icmp_lt X dX5_run_2 (tgt := 11) (by decide) g1 ⟨by decide, by decide⟩ (fun hc => ?_) (fun hc => ?_)
  · replace h := h.1 hc
    refine aw_weak (als' := [none, none, none, none]) trivial ?_
    exact m_Sr_run_11 X hR hret h
  · replace h := h.2 hc
    refine aw_iload_n X dX5_run_5 rfl ?_
    refine aw_bipush X dX5_run_6 rfl ?_
    obtain ⟨g3, h⟩ := h
    refine aw_icmp_le X dX5_run_8 (tgt := 14) (by decide) g3 ⟨by decide, by decide⟩ (fun hc => ?_) (fun hc => ?_)
    · replace h := h.1 hc
      refine aw_iconst X dX5_run_14 ?_
      refine aw_istore_n X dX5_run_15 (Nat.le_of_ble_eq_true rfl) rfl ?_
      refine aw_als (als' := [some (.ref (ad (5, 0, 0))), some (.int (oI l1)), some (.int (oI 0)), none]) rfl ?_
      refine aw_weak (als' := [some (.ref (ad (5, 0, 0))), some (.int (oI l1)), some (.int (oI 0)), none]) ⟨rfl, rfl, rfl, trivial⟩ ?_
      obtain ⟨n0, h⟩ := h
      exact m_Sr_run_16 X hR hret n0 _ _ _ h
    · replace h := h.2 hc
      refine aw_weak (als' := [none, none, none, none]) trivial ?_
      exact m_Sr_run_11 X hR hret h
theorem s_Sr_run (l : Launch) (D : va_G) (ad : Ky → Nat) (tc : Tc) (hi : adI ad) {l1 : Int} {σ : Mem} {Q : Int → Mem → Prop} (h : Sr_run l1 σ Q) : CtI l D ad tc yX5_run cX5_run 4 (some .int) { frames := 7, cells := 0, slots := 0, locals := 191 } [.ref (ad (5, 0, 0)), .int (oI l1)] σ Q := CtI.mk (by decide +kernel) hi (Nat.le_of_ble_eq_true rfl) rfl (fun p e s m args below meth c A Qm X hR hret => m_Sr_run_0 X hR hret h)

set_option maxHeartbeats 4000000 in
set_option maxRecDepth 100000 in
theorem m_Sr_told_0 {p : Program} {l : Launch} {e : Env} {R : Room} {s : State} {m : MethodId} {args : Array Value} {below : List Frame} {meth : Method} {c : Code} {D : va_G} {ad : Ky → Nat} {tc : Tc} {A : Nat → Prop} {cs sl : Nat} {Qm : State → Prop} (X : Cx p s m args c cX5_told RX5 2 D ad tc A) (hR : RmOK R cs sl 1 22) {Q : Int → Mem → Prop} (hret : RtI p l e R s m args below meth c D ad tc A cs sl Qm cX5_told Q) {l1 : Int} {σ : Mem} (h : Sr_told l1 σ Q) : AW p l e R s m args below meth c D ad tc A cs sl Qm 0 [some (.ref (ad (5, 0, 0))), some (.int (oI l1))] [] σ := by
  unfold Sr_told at h
  refine aw_iload_n X dX5_told_0 rfl ?_
  obtain ⟨g1, h⟩ := h
  by_cases hc0 : l1 = 0
  · replace h := h.1 hc0
    refine aw_tableIn X dX5_told_1 0 hc0 ⟨by decide, by decide⟩ (by decide) (by decide) rfl (tgt := 52) (by decide) ?_
    refine aw_aload_n X dX5_told_52 rfl ?_
    refine aw_get X ob_5 fl_X5_39 rfl dX5_told_53 ?_
    refine aw_get X ob_4 fl_X5_159 rfl dX5_told_56 ?_
    exact hret 59 _ _ _ dX5_told_59 h
  replace h := h.2
  by_cases hc1 : l1 = 1
  · replace h := h.1 hc1
    refine aw_tableIn X dX5_told_1 1 hc1 ⟨by decide, by decide⟩ (by decide) (by decide) rfl (tgt := 60) (by decide) ?_
    refine aw_aload_n X dX5_told_60 rfl ?_
    refine aw_get X ob_5 fl_X5_32 rfl dX5_told_61 ?_
    refine aw_get X ob_1 fl_X5_139 rfl dX5_told_64 ?_
    exact hret 67 _ _ _ dX5_told_67 h
  replace h := h.2
  by_cases hc2 : l1 = 2
  · replace h := h.1 hc2
    refine aw_tableIn X dX5_told_1 2 hc2 ⟨by decide, by decide⟩ (by decide) (by decide) rfl (tgt := 68) (by decide) ?_
    refine aw_aload_n X dX5_told_68 rfl ?_
    refine aw_get X ob_5 fl_X5_39 rfl dX5_told_69 ?_
    refine aw_get X ob_4 fl_X5_162 rfl dX5_told_72 ?_
    exact hret 75 _ _ _ dX5_told_75 h
  replace h := h.2
  by_cases hc3 : l1 = 3
  · replace h := h.1 hc3
    refine aw_tableIn X dX5_told_1 3 hc3 ⟨by decide, by decide⟩ (by decide) (by decide) rfl (tgt := 76) (by decide) ?_
    refine aw_aload_n X dX5_told_76 rfl ?_
    refine aw_get X ob_5 fl_X5_39 rfl dX5_told_77 ?_
    refine aw_get X ob_4 fl_X5_165 rfl dX5_told_80 ?_
    exact hret 83 _ _ _ dX5_told_83 h
  replace h := h.2
  by_cases hc4 : l1 = 4
  · replace h := h.1 hc4
    refine aw_tableIn X dX5_told_1 4 hc4 ⟨by decide, by decide⟩ (by decide) (by decide) rfl (tgt := 84) (by decide) ?_
    refine aw_aload_n X dX5_told_84 rfl ?_
    refine aw_get X ob_5 fl_X5_19 rfl dX5_told_85 ?_
    refine aw_callVI X hR (s_Fu_sumOfWeights l D ad tc X.2.2.2.2.2.2.1 h) ml_X5_168 ob_2 rfl (by decide) (by decide) rfl rfl rfl rfl (Nat.le_of_ble_eq_true rfl) rfl dX5_told_88 (fun r2 σ2 h => ?_)
    exact hret 91 _ _ _ dX5_told_91 h
  replace h := h.2
  by_cases hc5 : l1 = 5
  · replace h := h.1 hc5
    refine aw_tableIn X dX5_told_1 5 hc5 ⟨by decide, by decide⟩ (by decide) (by decide) rfl (tgt := 92) (by decide) ?_
    refine aw_aload_n X dX5_told_92 rfl ?_
    refine aw_get X ob_5 fl_X5_12 rfl dX5_told_93 ?_
    refine aw_get X ob_0 fl_X5_58 rfl dX5_told_96 ?_
    exact hret 99 _ _ _ dX5_told_99 h
  replace h := h.2
  by_cases hc6 : l1 = 6
  · replace h := h.1 hc6
    refine aw_tableIn X dX5_told_1 6 hc6 ⟨by decide, by decide⟩ (by decide) (by decide) rfl (tgt := 100) (by decide) ?_
    refine aw_aload_n X dX5_told_100 rfl ?_
    refine aw_get X ob_5 fl_X5_85 rfl dX5_told_101 ?_
    exact hret 104 _ _ _ dX5_told_104 h
  replace h := h.2
  by_cases hc7 : l1 = 7
  · replace h := h.1 hc7
    refine aw_tableIn X dX5_told_1 7 hc7 ⟨by decide, by decide⟩ (by decide) (by decide) rfl (tgt := 105) (by decide) ?_
    refine aw_aload_n X dX5_told_105 rfl ?_
    refine aw_get X ob_5 fl_X5_19 rfl dX5_told_106 ?_
    refine aw_get X ob_2 fl_X5_78 rfl dX5_told_109 ?_
    exact hret 112 _ _ _ dX5_told_112 h
  replace h := h.2
  by_cases hc8 : l1 = 8
  · replace h := h.1 hc8
    refine aw_tableIn X dX5_told_1 8 hc8 ⟨by decide, by decide⟩ (by decide) (by decide) rfl (tgt := 113) (by decide) ?_
    refine aw_aload_n X dX5_told_113 rfl ?_
    refine aw_get X ob_5 fl_X5_39 rfl dX5_told_114 ?_
    refine aw_get X ob_4 fl_X5_136 rfl dX5_told_117 ?_
    exact hret 120 _ _ _ dX5_told_120 h
  replace h := h.2
  have hcd : l1 < 0 ∨ 8 < l1 := by omega
  replace h := h hcd
  refine aw_tableOut X dX5_told_1 g1 hcd (tgt := 121) (by decide) ?_
  refine aw_bipush X dX5_told_121 rfl ?_
  exact hret 123 _ _ _ dX5_told_123 h
theorem s_Sr_told (l : Launch) (D : va_G) (ad : Ky → Nat) (tc : Tc) (hi : adI ad) {l1 : Int} {σ : Mem} {Q : Int → Mem → Prop} (h : Sr_told l1 σ Q) : CtI l D ad tc yX5_told cX5_told 2 (some .int) { frames := 1, cells := 0, slots := 0, locals := 22 } [.ref (ad (5, 0, 0)), .int (oI l1)] σ Q := CtI.mk (by decide +kernel) hi (Nat.le_of_ble_eq_true rfl) rfl (fun p e s m args below meth c A Qm X hR hret => m_Sr_told_0 X hR hret h)

set_option maxHeartbeats 4000000 in
set_option maxRecDepth 100000 in
theorem m_Sr_best_37 {p : Program} {l : Launch} {e : Env} {R : Room} {s : State} {m : MethodId} {args : Array Value} {below : List Frame} {meth : Method} {c : Code} {D : va_G} {ad : Ky → Nat} {tc : Tc} {A : Nat → Prop} {cs sl : Nat} {Qm : State → Prop} (X : Cx p s m args c cX5_best RX5 2 D ad tc A) (hR : RmOK R cs sl 1 21) {Q : Int → Mem → Prop} (hret : RtI p l e R s m args below meth c D ad tc A cs sl Qm cX5_best Q) {s0 : Int} {σ : Mem} (h : Sr_best_37 Q s0 σ) : AW p l e R s m args below meth c D ad tc A cs sl Qm 37 [none, none] [.int (oI s0)] σ := by
  unfold Sr_best_37 at h
  exact hret 37 _ _ _ dX5_best_37 h

set_option maxHeartbeats 4000000 in
set_option maxRecDepth 100000 in
theorem m_Sr_best_0 {p : Program} {l : Launch} {e : Env} {R : Room} {s : State} {m : MethodId} {args : Array Value} {below : List Frame} {meth : Method} {c : Code} {D : va_G} {ad : Ky → Nat} {tc : Tc} {A : Nat → Prop} {cs sl : Nat} {Qm : State → Prop} (X : Cx p s m args c cX5_best RX5 2 D ad tc A) (hR : RmOK R cs sl 1 21) {Q : Int → Mem → Prop} (hret : RtI p l e R s m args below meth c D ad tc A cs sl Qm cX5_best Q) {l1 : Int} {σ : Mem} (h : Sr_best l1 σ Q) : AW p l e R s m args below meth c D ad tc A cs sl Qm 0 [some (.ref (ad (5, 0, 0))), some (.int (oI l1))] [] σ := by
  unfold Sr_best at h
  refine aw_aload_n X dX5_best_0 rfl ?_
  refine aw_get X ob_5 fl_X5_12 rfl dX5_best_1 ?_
  refine aw_iload_n X dX5_best_4 rfl ?_
  refine aw_callVI X hR (s_Ch_knows l D ad tc X.2.2.2.2.2.2.1 h) ml_X5_91 ob_0 rfl (by decide) (by decide) rfl rfl rfl rfl (Nat.le_of_ble_eq_true rfl) rfl dX5_best_5 (fun r1 σ1 h => ?_)
  obtain ⟨g2, h⟩ := h
  refine aw_if_ne X dX5_best_8 (tgt := 13) (by decide) g2 (fun hc => ?_) (fun hc => ?_)
  · replace h := h.1 hc
    refine aw_aload_n X dX5_best_13 rfl ?_
    refine aw_get X ob_5 fl_X5_39 rfl dX5_best_14 ?_
    refine aw_callVI X hR (s_Pg_hasBest l D ad tc X.2.2.2.2.2.2.1 h) ml_X5_171 ob_4 rfl (by decide) (by decide) rfl rfl rfl rfl (Nat.le_of_ble_eq_true rfl) rfl dX5_best_17 (fun r3 σ3 h => ?_)
    obtain ⟨g4, h⟩ := h
    refine aw_if_eq X dX5_best_20 (tgt := 35) (by decide) g4 (fun hc => ?_) (fun hc => ?_)
    · replace h := h.1 hc
      refine aw_bipush X dX5_best_35 rfl ?_
      refine aw_weak (als' := [none, none]) trivial ?_
      exact m_Sr_best_37 X hR hret h
    · replace h := h.2 hc
      refine aw_aload_n X dX5_best_23 rfl ?_
      refine aw_get X ob_5 fl_X5_39 rfl dX5_best_24 ?_
      refine aw_get X ob_4 fl_X5_174 rfl dX5_best_27 ?_
      refine aw_iload_n X dX5_best_30 rfl ?_
      obtain ⟨g5a, g5b, h⟩ := h
      refine aw_iald X ar_4_5 g5a g5b dX5_best_31 ?_
      refine aw_goto X dX5_best_32 (tgt := 37) (by decide) ?_
      refine aw_weak (als' := [none, none]) trivial ?_
      exact m_Sr_best_37 X hR hret h
  · replace h := h.2 hc
    refine aw_iconst X dX5_best_11 ?_
    exact hret 12 _ _ _ dX5_best_12 h
theorem s_Sr_best (l : Launch) (D : va_G) (ad : Ky → Nat) (tc : Tc) (hi : adI ad) {l1 : Int} {σ : Mem} {Q : Int → Mem → Prop} (h : Sr_best l1 σ Q) : CtI l D ad tc yX5_best cX5_best 2 (some .int) { frames := 1, cells := 0, slots := 0, locals := 21 } [.ref (ad (5, 0, 0)), .int (oI l1)] σ Q := CtI.mk (by decide +kernel) hi (Nat.le_of_ble_eq_true rfl) rfl (fun p e s m args below meth c A Qm X hR hret => m_Sr_best_0 X hR hret h)

set_option maxHeartbeats 4000000 in
set_option maxRecDepth 100000 in
theorem m_Sr_master_37 {p : Program} {l : Launch} {e : Env} {R : Room} {s : State} {m : MethodId} {args : Array Value} {below : List Frame} {meth : Method} {c : Code} {D : va_G} {ad : Ky → Nat} {tc : Tc} {A : Nat → Prop} {cs sl : Nat} {Qm : State → Prop} (X : Cx p s m args c cX5_master RX5 2 D ad tc A) (hR : RmOK R cs sl 1 21) {Q : Int → Mem → Prop} (hret : RtI p l e R s m args below meth c D ad tc A cs sl Qm cX5_master Q) {s0 : Int} {σ : Mem} (h : Sr_master_37 Q s0 σ) : AW p l e R s m args below meth c D ad tc A cs sl Qm 37 [none, none] [.int (oI s0)] σ := by
  unfold Sr_master_37 at h
  exact hret 37 _ _ _ dX5_master_37 h

set_option maxHeartbeats 4000000 in
set_option maxRecDepth 100000 in
theorem m_Sr_master_0 {p : Program} {l : Launch} {e : Env} {R : Room} {s : State} {m : MethodId} {args : Array Value} {below : List Frame} {meth : Method} {c : Code} {D : va_G} {ad : Ky → Nat} {tc : Tc} {A : Nat → Prop} {cs sl : Nat} {Qm : State → Prop} (X : Cx p s m args c cX5_master RX5 2 D ad tc A) (hR : RmOK R cs sl 1 21) {Q : Int → Mem → Prop} (hret : RtI p l e R s m args below meth c D ad tc A cs sl Qm cX5_master Q) {l1 : Int} {σ : Mem} (h : Sr_master l1 σ Q) : AW p l e R s m args below meth c D ad tc A cs sl Qm 0 [some (.ref (ad (5, 0, 0))), some (.int (oI l1))] [] σ := by
  unfold Sr_master at h
  refine aw_aload_n X dX5_master_0 rfl ?_
  refine aw_get X ob_5 fl_X5_12 rfl dX5_master_1 ?_
  refine aw_iload_n X dX5_master_4 rfl ?_
  refine aw_callVI X hR (s_Ch_knows l D ad tc X.2.2.2.2.2.2.1 h) ml_X5_91 ob_0 rfl (by decide) (by decide) rfl rfl rfl rfl (Nat.le_of_ble_eq_true rfl) rfl dX5_master_5 (fun r1 σ1 h => ?_)
  obtain ⟨g2, h⟩ := h
  refine aw_if_ne X dX5_master_8 (tgt := 13) (by decide) g2 (fun hc => ?_) (fun hc => ?_)
  · replace h := h.1 hc
    refine aw_aload_n X dX5_master_13 rfl ?_
    refine aw_get X ob_5 fl_X5_39 rfl dX5_master_14 ?_
    refine aw_callVI X hR (s_Pg_hasMaster l D ad tc X.2.2.2.2.2.2.1 h) ml_X5_148 ob_4 rfl (by decide) (by decide) rfl rfl rfl rfl (Nat.le_of_ble_eq_true rfl) rfl dX5_master_17 (fun r3 σ3 h => ?_)
    obtain ⟨g4, h⟩ := h
    refine aw_if_eq X dX5_master_20 (tgt := 35) (by decide) g4 (fun hc => ?_) (fun hc => ?_)
    · replace h := h.1 hc
      refine aw_bipush X dX5_master_35 rfl ?_
      refine aw_weak (als' := [none, none]) trivial ?_
      exact m_Sr_master_37 X hR hret h
    · replace h := h.2 hc
      refine aw_aload_n X dX5_master_23 rfl ?_
      refine aw_get X ob_5 fl_X5_39 rfl dX5_master_24 ?_
      refine aw_get X ob_4 fl_X5_177 rfl dX5_master_27 ?_
      refine aw_iload_n X dX5_master_30 rfl ?_
      obtain ⟨g5a, g5b, h⟩ := h
      refine aw_iald X ar_4_4 g5a g5b dX5_master_31 ?_
      refine aw_goto X dX5_master_32 (tgt := 37) (by decide) ?_
      refine aw_weak (als' := [none, none]) trivial ?_
      exact m_Sr_master_37 X hR hret h
  · replace h := h.2 hc
    refine aw_iconst X dX5_master_11 ?_
    exact hret 12 _ _ _ dX5_master_12 h
theorem s_Sr_master (l : Launch) (D : va_G) (ad : Ky → Nat) (tc : Tc) (hi : adI ad) {l1 : Int} {σ : Mem} {Q : Int → Mem → Prop} (h : Sr_master l1 σ Q) : CtI l D ad tc yX5_master cX5_master 2 (some .int) { frames := 1, cells := 0, slots := 0, locals := 21 } [.ref (ad (5, 0, 0)), .int (oI l1)] σ Q := CtI.mk (by decide +kernel) hi (Nat.le_of_ble_eq_true rfl) rfl (fun p e s m args below meth c A Qm X hR hret => m_Sr_master_0 X hR hret h)

set_option maxHeartbeats 4000000 in
set_option maxRecDepth 100000 in
theorem m_Sr_share_70 {p : Program} {l : Launch} {e : Env} {R : Room} {s : State} {m : MethodId} {args : Array Value} {below : List Frame} {meth : Method} {c : Code} {D : va_G} {ad : Ky → Nat} {tc : Tc} {A : Nat → Prop} {cs sl : Nat} {Qm : State → Prop} (X : Cx p s m args c cX5_share RX5 2 D ad tc A) (hR : RmOK R cs sl 4 117) {Q : Int → Mem → Prop} (hret : RtI p l e R s m args below meth c D ad tc A cs sl Qm cX5_share Q) {s0 : Int} {σ : Mem} (h : Sr_share_70 Q s0 σ) : AW p l e R s m args below meth c D ad tc A cs sl Qm 70 [none, none] [.int (oI s0)] σ := by
  unfold Sr_share_70 at h
  exact hret 70 _ _ _ dX5_share_70 h

set_option maxHeartbeats 4000000 in
set_option maxRecDepth 100000 in
theorem m_Sr_share_16 {p : Program} {l : Launch} {e : Env} {R : Room} {s : State} {m : MethodId} {args : Array Value} {below : List Frame} {meth : Method} {c : Code} {D : va_G} {ad : Ky → Nat} {tc : Tc} {A : Nat → Prop} {cs sl : Nat} {Qm : State → Prop} (X : Cx p s m args c cX5_share RX5 2 D ad tc A) (hR : RmOK R cs sl 4 117) {Q : Int → Mem → Prop} (hret : RtI p l e R s m args below meth c D ad tc A cs sl Qm cX5_share Q) {l1 : Int} {σ : Mem} (h : Sr_share_16 Q l1 σ) : AW p l e R s m args below meth c D ad tc A cs sl Qm 16 [some (.ref (ad (5, 0, 0))), some (.int (oI l1))] [] σ := by
  unfold Sr_share_16 at h
  refine aw_aload_n X dX5_share_16 rfl ?_
  refine aw_get X ob_5 fl_X5_39 rfl dX5_share_17 ?_
  refine aw_callVI X hR (s_Pg_hasBest l D ad tc X.2.2.2.2.2.2.1 h) ml_X5_171 ob_4 rfl (by decide) (by decide) rfl rfl rfl rfl (Nat.le_of_ble_eq_true rfl) rfl dX5_share_20 (fun r1 σ1 h => ?_)
  obtain ⟨g2, h⟩ := h
  refine aw_if_ne X dX5_share_23 (tgt := 29) (by decide) g2 (fun hc => ?_) (fun hc => ?_)
  · replace h := h.1 hc
    refine aw_iload_n X dX5_share_29 rfl ?_
    refine aw_bipush X dX5_share_30 rfl ?_
    obtain ⟨g3, h⟩ := h
    refine aw_icmp_ne X dX5_share_32 (tgt := 49) (by decide) g3 ⟨by decide, by decide⟩ (fun hc => ?_) (fun hc => ?_)
    · replace h := h.1 hc
      refine aw_aload_n X dX5_share_49 rfl ?_
      refine aw_get X ob_5 fl_X5_25 rfl dX5_share_50 ?_
      refine aw_iload_n X dX5_share_53 rfl ?_
      obtain ⟨g5a, g5b, h⟩ := h
      refine aw_aald X g5a g5b dX5_share_54 ?_
      refine aw_aload_n X dX5_share_55 rfl ?_
      refine aw_get X ob_5 fl_X5_39 rfl dX5_share_56 ?_
      refine aw_get X ob_4 fl_X5_174 rfl dX5_share_59 ?_
      refine aw_aload_n X dX5_share_62 rfl ?_
      refine aw_get X ob_5 fl_X5_19 rfl dX5_share_63 ?_
      refine aw_iconst X dX5_share_66 ?_
      refine aw_callVI X hR (s_Pa_costTo l D ad tc X.2.2.2.2.2.2.1 ⟨g5a, g5b⟩ ar_4_5 h) ml_X5_184 (ob_3 ⟨g5a, g5b⟩) rfl (by decide) (by decide) rfl rfl rfl rfl (Nat.le_of_ble_eq_true rfl) rfl dX5_share_67 (fun r6 σ6 h => ?_)
      refine aw_weak (als' := [none, none]) trivial ?_
      exact m_Sr_share_70 X hR hret h
    · replace h := h.2 hc
      refine aw_aload_n X dX5_share_35 rfl ?_
      refine aw_aload_n X dX5_share_36 rfl ?_
      refine aw_get X ob_5 fl_X5_39 rfl dX5_share_37 ?_
      refine aw_get X ob_4 fl_X5_174 rfl dX5_share_40 ?_
      refine aw_callVI X hR (s_Sr_costOfValues l D ad tc X.2.2.2.2.2.2.1 ar_4_5 h) ml_X5_180 ob_5 rfl (by decide) (by decide) rfl rfl rfl rfl (Nat.le_of_ble_eq_true rfl) rfl dX5_share_43 (fun r7 σ7 h => ?_)
      refine aw_goto X dX5_share_46 (tgt := 70) (by decide) ?_
      refine aw_weak (als' := [none, none]) trivial ?_
      exact m_Sr_share_70 X hR hret h
  · replace h := h.2 hc
    refine aw_bipush X dX5_share_26 rfl ?_
    exact hret 28 _ _ _ dX5_share_28 h

set_option maxHeartbeats 4000000 in
set_option maxRecDepth 100000 in
theorem m_Sr_share_0 {p : Program} {l : Launch} {e : Env} {R : Room} {s : State} {m : MethodId} {args : Array Value} {below : List Frame} {meth : Method} {c : Code} {D : va_G} {ad : Ky → Nat} {tc : Tc} {A : Nat → Prop} {cs sl : Nat} {Qm : State → Prop} (X : Cx p s m args c cX5_share RX5 2 D ad tc A) (hR : RmOK R cs sl 4 117) {Q : Int → Mem → Prop} (hret : RtI p l e R s m args below meth c D ad tc A cs sl Qm cX5_share Q) {l1 : Int} {σ : Mem} (h : Sr_share l1 σ Q) : AW p l e R s m args below meth c D ad tc A cs sl Qm 0 [some (.ref (ad (5, 0, 0))), some (.int (oI l1))] [] σ := by
  unfold Sr_share at h
  refine aw_iload_n X dX5_share_0 rfl ?_
  refine aw_bipush X dX5_share_1 rfl ?_
  obtain ⟨g1, h⟩ := h
  refine aw_icmp_eq X dX5_share_3 (tgt := 16) (by decide) g1 ⟨by decide, by decide⟩ (fun hc => ?_) (fun hc => ?_)
  · replace h := h.1 hc
    refine aw_weak (als' := [some (.ref (ad (5, 0, 0))), some (.int (oI l1))]) ⟨rfl, rfl, trivial⟩ ?_
    exact m_Sr_share_16 X hR hret h
  · replace h := h.2 hc
    refine aw_aload_n X dX5_share_6 rfl ?_
    refine aw_iload_n X dX5_share_7 rfl ?_
    refine aw_callVI X hR (s_Sr_knowsPart l D ad tc X.2.2.2.2.2.2.1 h) ml_X5_88 ob_5 rfl (by decide) (by decide) rfl rfl rfl rfl (Nat.le_of_ble_eq_true rfl) rfl dX5_share_8 (fun r3 σ3 h => ?_)
    obtain ⟨g4, h⟩ := h
    refine aw_if_ne X dX5_share_11 (tgt := 16) (by decide) g4 (fun hc => ?_) (fun hc => ?_)
    · replace h := h.1 hc
      refine aw_weak (als' := [some (.ref (ad (5, 0, 0))), some (.int (oI l1))]) ⟨rfl, rfl, trivial⟩ ?_
      exact m_Sr_share_16 X hR hret h
    · replace h := h.2 hc
      refine aw_iconst X dX5_share_14 ?_
      exact hret 15 _ _ _ dX5_share_15 h
theorem s_Sr_share (l : Launch) (D : va_G) (ad : Ky → Nat) (tc : Tc) (hi : adI ad) {l1 : Int} {σ : Mem} {Q : Int → Mem → Prop} (h : Sr_share l1 σ Q) : CtI l D ad tc yX5_share cX5_share 2 (some .int) { frames := 4, cells := 0, slots := 0, locals := 117 } [.ref (ad (5, 0, 0)), .int (oI l1)] σ Q := CtI.mk (by decide +kernel) hi (Nat.le_of_ble_eq_true rfl) rfl (fun p e s m args below meth c A Qm X hR hret => m_Sr_share_0 X hR hret h)

set_option maxHeartbeats 4000000 in
set_option maxRecDepth 100000 in
theorem m_Sr_ask_0 {p : Program} {l : Launch} {e : Env} {R : Room} {s : State} {m : MethodId} {args : Array Value} {below : List Frame} {meth : Method} {c : Code} {D : va_G} {ad : Ky → Nat} {tc : Tc} {A : Nat → Prop} {cs sl : Nat} {Qm : State → Prop} (X : Cx p s m args c cX5_ask RX5 4 D ad tc A) (hR : RmOK R cs sl 2 43) {Q : Int → Mem → Prop} (hret : RtI p l e R s m args below meth c D ad tc A cs sl Qm cX5_ask Q) {l1 : Int} {l2 : Int} {σ : Mem} (h : Sr_ask l1 l2 σ Q) : AW p l e R s m args below meth c D ad tc A cs sl Qm 0 [some (.ref (ad (5, 0, 0))), some (.int (oI l1)), some (.int (oI l2)), none] [] σ := by
  unfold Sr_ask at h
  refine aw_aload_n X dX5_ask_0 rfl ?_
  refine aw_get X ob_5 fl_X5_12 rfl dX5_ask_1 ?_
  refine aw_iload_n X dX5_ask_4 rfl ?_
  refine aw_iload_n X dX5_ask_5 rfl ?_
  refine aw_callVI X hR (s_Ch_knowsValue l D ad tc X.2.2.2.2.2.2.1 h) ml_X5_67 ob_0 rfl (by decide) (by decide) rfl rfl rfl rfl (Nat.le_of_ble_eq_true rfl) rfl dX5_ask_6 (fun r1 σ1 h => ?_)
  obtain ⟨g2, h⟩ := h
  refine aw_if_ne X dX5_ask_9 (tgt := 14) (by decide) g2 (fun hc => ?_) (fun hc => ?_)
  · replace h := h.1 hc
    refine aw_aload_n X dX5_ask_14 rfl ?_
    refine aw_get X ob_5 fl_X5_12 rfl dX5_ask_15 ?_
    refine aw_get X ob_0 fl_X5_188 rfl dX5_ask_18 ?_
    refine aw_iload_n X dX5_ask_21 rfl ?_
    obtain ⟨g3a, g3b, h⟩ := h
    refine aw_iald X ar_0_3 g3a g3b dX5_ask_22 ?_
    refine aw_istore_n X dX5_ask_23 (Nat.le_of_ble_eq_true rfl) rfl ?_
    obtain ⟨x4, ex4⟩ : ∃ z : Int, z = (σ1 0 0 3 l1) := ⟨_, rfl⟩
    replace h := h x4 ex4
    refine aw_als (als' := [some (.ref (ad (5, 0, 0))), some (.int (oI l1)), some (.int (oI l2)), some (.int (oI x4))]) (by subst ex4; rfl) ?_
    refine aw_aload_n X dX5_ask_24 rfl ?_
    refine aw_get X ob_5 fl_X5_12 rfl dX5_ask_25 ?_
    refine aw_get X ob_0 fl_X5_188 rfl dX5_ask_28 ?_
    refine aw_iload_n X dX5_ask_31 rfl ?_
    refine aw_iload_n X dX5_ask_32 rfl ?_
    obtain ⟨g5a, g5b, h⟩ := h
    refine aw_iast X ar_0_3 g5a g5b dX5_ask_33 ?_
    obtain ⟨σ5, eσ5⟩ : ∃ z : Mem, z = up σ1 0 0 3 l1 l2 := ⟨_, rfl⟩
    replace h := h σ5 eσ5
    refine aw_mem eσ5 ?_
    refine aw_iload_n X dX5_ask_34 rfl ?_
    exact hret 35 _ _ _ dX5_ask_35 h
  · replace h := h.2 hc
    refine aw_iconst X dX5_ask_12 ?_
    exact hret 13 _ _ _ dX5_ask_13 h
theorem s_Sr_ask (l : Launch) (D : va_G) (ad : Ky → Nat) (tc : Tc) (hi : adI ad) {l1 : Int} {l2 : Int} {σ : Mem} {Q : Int → Mem → Prop} (h : Sr_ask l1 l2 σ Q) : CtI l D ad tc yX5_ask cX5_ask 4 (some .int) { frames := 2, cells := 0, slots := 0, locals := 43 } [.ref (ad (5, 0, 0)), .int (oI l1), .int (oI l2)] σ Q := CtI.mk (by decide +kernel) hi (Nat.le_of_ble_eq_true rfl) rfl (fun p e s m args below meth c A Qm X hR hret => m_Sr_ask_0 X hR hret h)

set_option maxHeartbeats 4000000 in
set_option maxRecDepth 100000 in
theorem m_Sr_answer_19 {p : Program} {l : Launch} {e : Env} {R : Room} {s : State} {m : MethodId} {args : Array Value} {below : List Frame} {meth : Method} {c : Code} {D : va_G} {ad : Ky → Nat} {tc : Tc} {A : Nat → Prop} {cs sl : Nat} {Qm : State → Prop} (X : Cx p s m args c cX5_answer RX5 3 D ad tc A) (hR : RmOK R cs sl 3 90) {Q : Int → Mem → Prop} (hret : RtI p l e R s m args below meth c D ad tc A cs sl Qm cX5_answer Q) {σ : Mem} (h : Sr_answer_19 Q σ) : AW p l e R s m args below meth c D ad tc A cs sl Qm 19 [none, none, none] [] σ := by
  unfold Sr_answer_19 at h
  refine aw_iconst X dX5_answer_19 ?_
  exact hret 20 _ _ _ dX5_answer_20 h

set_option maxHeartbeats 4000000 in
set_option maxRecDepth 100000 in
theorem m_Sr_answer_0 {p : Program} {l : Launch} {e : Env} {R : Room} {s : State} {m : MethodId} {args : Array Value} {below : List Frame} {meth : Method} {c : Code} {D : va_G} {ad : Ky → Nat} {tc : Tc} {A : Nat → Prop} {cs sl : Nat} {Qm : State → Prop} (X : Cx p s m args c cX5_answer RX5 3 D ad tc A) (hR : RmOK R cs sl 3 90) {Q : Int → Mem → Prop} (hret : RtI p l e R s m args below meth c D ad tc A cs sl Qm cX5_answer Q) {l1 : Int} {l2 : Int} {σ : Mem} (h : Sr_answer l1 l2 σ Q) : AW p l e R s m args below meth c D ad tc A cs sl Qm 0 [some (.ref (ad (5, 0, 0))), some (.int (oI l1)), some (.int (oI l2))] [] σ := by
  unfold Sr_answer at h
  refine aw_aload_n X dX5_answer_0 rfl ?_
  refine aw_iload_n X dX5_answer_1 rfl ?_
  refine aw_callVI X hR (s_Sr_knowsPart l D ad tc X.2.2.2.2.2.2.1 h) ml_X5_88 ob_5 rfl (by decide) (by decide) rfl rfl rfl rfl (Nat.le_of_ble_eq_true rfl) rfl dX5_answer_2 (fun r1 σ1 h => ?_)
  obtain ⟨g2, h⟩ := h
  refine aw_if_eq X dX5_answer_5 (tgt := 19) (by decide) g2 (fun hc => ?_) (fun hc => ?_)
  · replace h := h.1 hc
    refine aw_weak (als' := [none, none, none]) trivial ?_
    exact m_Sr_answer_19 X hR hret h
  · replace h := h.2 hc
    refine aw_aload_n X dX5_answer_8 rfl ?_
    refine aw_get X ob_5 fl_X5_19 rfl dX5_answer_9 ?_
    refine aw_iload_n X dX5_answer_12 rfl ?_
    refine aw_callVI X hR (s_Fu_knows l D ad tc X.2.2.2.2.2.2.1 h) ml_X5_82 ob_2 rfl (by decide) (by decide) rfl rfl rfl rfl (Nat.le_of_ble_eq_true rfl) rfl dX5_answer_13 (fun r3 σ3 h => ?_)
    obtain ⟨g4, h⟩ := h
    refine aw_if_ne X dX5_answer_16 (tgt := 21) (by decide) g4 (fun hc => ?_) (fun hc => ?_)
    · replace h := h.1 hc
      refine aw_aload_n X dX5_answer_21 rfl ?_
      refine aw_get X ob_5 fl_X5_25 rfl dX5_answer_22 ?_
      refine aw_iload_n X dX5_answer_25 rfl ?_
      obtain ⟨g5a, g5b, h⟩ := h
      refine aw_aald X g5a g5b dX5_answer_26 ?_
      refine aw_aload_n X dX5_answer_27 rfl ?_
      refine aw_get X ob_5 fl_X5_25 rfl dX5_answer_28 ?_
      refine aw_iload_n X dX5_answer_31 rfl ?_
      obtain ⟨g6a, g6b, h⟩ := h
      refine aw_aald X g6a g6b dX5_answer_32 ?_
      refine aw_aload_n X dX5_answer_33 rfl ?_
      refine aw_get X ob_5 fl_X5_12 rfl dX5_answer_34 ?_
      refine aw_get X ob_0 fl_X5_188 rfl dX5_answer_37 ?_
      refine aw_callVI X hR (s_Pa_spotOf l D ad tc X.2.2.2.2.2.2.1 ⟨g6a, g6b⟩ ar_0_3 h) ml_X5_191 (ob_3 ⟨g6a, g6b⟩) rfl (by decide) (by decide) rfl rfl rfl rfl (Nat.le_of_ble_eq_true rfl) rfl dX5_answer_40 (fun r7 σ7 h => ?_)
      refine aw_iload_n X dX5_answer_43 rfl ?_
      refine aw_callVI X hR (s_Pa_answerTo l D ad tc X.2.2.2.2.2.2.1 ⟨g6a, g6b⟩ h) ml_X5_194 (ob_3 ⟨g6a, g6b⟩) rfl (by decide) (by decide) rfl rfl rfl rfl (Nat.le_of_ble_eq_true rfl) rfl dX5_answer_44 (fun r8 σ8 h => ?_)
      exact hret 47 _ _ _ dX5_answer_47 h
    · replace h := h.2 hc
      refine aw_weak (als' := [none, none, none]) trivial ?_
      exact m_Sr_answer_19 X hR hret h
theorem s_Sr_answer (l : Launch) (D : va_G) (ad : Ky → Nat) (tc : Tc) (hi : adI ad) {l1 : Int} {l2 : Int} {σ : Mem} {Q : Int → Mem → Prop} (h : Sr_answer l1 l2 σ Q) : CtI l D ad tc yX5_answer cX5_answer 3 (some .int) { frames := 3, cells := 0, slots := 0, locals := 90 } [.ref (ad (5, 0, 0)), .int (oI l1), .int (oI l2)] σ Q := CtI.mk (by decide +kernel) hi (Nat.le_of_ble_eq_true rfl) rfl (fun p e s m args below meth c A Qm X hR hret => m_Sr_answer_0 X hR hret h)

set_option maxHeartbeats 4000000 in
set_option maxRecDepth 100000 in
theorem m_Sr_unit_85 {p : Program} {l : Launch} {e : Env} {R : Room} {s : State} {m : MethodId} {args : Array Value} {below : List Frame} {meth : Method} {c : Code} {D : va_G} {ad : Ky → Nat} {tc : Tc} {A : Nat → Prop} {cs sl : Nat} {Qm : State → Prop} (X : Cx p s m args c cX5_unit RX5 5 D ad tc A) (hR : RmOK R cs sl 2 67) {Q : Int → Mem → Prop} (hret : RtI p l e R s m args below meth c D ad tc A cs sl Qm cX5_unit Q) {s0 : Int} {σ : Mem} (h : Sr_unit_85 Q s0 σ) : AW p l e R s m args below meth c D ad tc A cs sl Qm 85 [none, none, none, none, none] [.int (oI s0)] σ := by
  unfold Sr_unit_85 at h
  exact hret 85 _ _ _ dX5_unit_85 h

set_option maxHeartbeats 4000000 in
set_option maxRecDepth 100000 in
theorem m_Sr_unit_32 {p : Program} {l : Launch} {e : Env} {R : Room} {s : State} {m : MethodId} {args : Array Value} {below : List Frame} {meth : Method} {c : Code} {D : va_G} {ad : Ky → Nat} {tc : Tc} {A : Nat → Prop} {cs sl : Nat} {Qm : State → Prop} (X : Cx p s m args c cX5_unit RX5 5 D ad tc A) (hR : RmOK R cs sl 2 67) {Q : Int → Mem → Prop} (hret : RtI p l e R s m args below meth c D ad tc A cs sl Qm cX5_unit Q) {σ : Mem} (h : Sr_unit_32 Q σ) : AW p l e R s m args below meth c D ad tc A cs sl Qm 32 [none, none, none, none, none] [] σ := by
  unfold Sr_unit_32 at h
  refine aw_iconst X dX5_unit_32 ?_
  exact hret 33 _ _ _ dX5_unit_33 h

set_option maxHeartbeats 4000000 in
set_option maxRecDepth 100000 in
theorem m_Sr_unit_0 {p : Program} {l : Launch} {e : Env} {R : Room} {s : State} {m : MethodId} {args : Array Value} {below : List Frame} {meth : Method} {c : Code} {D : va_G} {ad : Ky → Nat} {tc : Tc} {A : Nat → Prop} {cs sl : Nat} {Qm : State → Prop} (X : Cx p s m args c cX5_unit RX5 5 D ad tc A) (hR : RmOK R cs sl 2 67) {Q : Int → Mem → Prop} (hret : RtI p l e R s m args below meth c D ad tc A cs sl Qm cX5_unit Q) {l1 : Int} {l2 : Int} {l3 : Int} {σ : Mem} (h : Sr_unit l1 l2 l3 σ Q) : AW p l e R s m args below meth c D ad tc A cs sl Qm 0 [some (.ref (ad (5, 0, 0))), some (.int (oI l1)), some (.int (oI l2)), some (.int (oI l3)), none] [] σ := by
  unfold Sr_unit at h
  refine aw_aload_n X dX5_unit_0 rfl ?_
  refine aw_iload_n X dX5_unit_1 rfl ?_
  refine aw_callVI X hR (s_Sr_knowsPart l D ad tc X.2.2.2.2.2.2.1 h) ml_X5_88 ob_5 rfl (by decide) (by decide) rfl rfl rfl rfl (Nat.le_of_ble_eq_true rfl) rfl dX5_unit_2 (fun r1 σ1 h => ?_)
  obtain ⟨g2, h⟩ := h
  refine aw_if_eq X dX5_unit_5 (tgt := 32) (by decide) g2 (fun hc => ?_) (fun hc => ?_)
  · replace h := h.1 hc
    refine aw_weak (als' := [none, none, none, none, none]) trivial ?_
    exact m_Sr_unit_32 X hR hret h
  · replace h := h.2 hc
    refine aw_aload_n X dX5_unit_8 rfl ?_
    refine aw_get X ob_5 fl_X5_19 rfl dX5_unit_9 ?_
    refine aw_iload_n X dX5_unit_12 rfl ?_
    refine aw_callVI X hR (s_Fu_knows l D ad tc X.2.2.2.2.2.2.1 h) ml_X5_82 ob_2 rfl (by decide) (by decide) rfl rfl rfl rfl (Nat.le_of_ble_eq_true rfl) rfl dX5_unit_13 (fun r3 σ3 h => ?_)
    obtain ⟨g4, h⟩ := h
    refine aw_if_eq X dX5_unit_16 (tgt := 32) (by decide) g4 (fun hc => ?_) (fun hc => ?_)
    · replace h := h.1 hc
      refine aw_weak (als' := [none, none, none, none, none]) trivial ?_
      exact m_Sr_unit_32 X hR hret h
    · replace h := h.2 hc
      refine aw_aload_n X dX5_unit_19 rfl ?_
      refine aw_get X ob_5 fl_X5_25 rfl dX5_unit_20 ?_
      refine aw_iload_n X dX5_unit_23 rfl ?_
      obtain ⟨g5a, g5b, h⟩ := h
      refine aw_aald X g5a g5b dX5_unit_24 ?_
      refine aw_iload_n X dX5_unit_25 rfl ?_
      refine aw_callVI X hR (s_Pa_knowsLocal l D ad tc X.2.2.2.2.2.2.1 ⟨g5a, g5b⟩ h) ml_X5_127 (ob_3 ⟨g5a, g5b⟩) rfl (by decide) (by decide) rfl rfl rfl rfl (Nat.le_of_ble_eq_true rfl) rfl dX5_unit_26 (fun r6 σ6 h => ?_)
      obtain ⟨g7, h⟩ := h
      refine aw_if_ne X dX5_unit_29 (tgt := 34) (by decide) g7 (fun hc => ?_) (fun hc => ?_)
      · replace h := h.1 hc
        refine aw_aload_n X dX5_unit_34 rfl ?_
        refine aw_get X ob_5 fl_X5_25 rfl dX5_unit_35 ?_
        refine aw_iload_n X dX5_unit_38 rfl ?_
        obtain ⟨g8a, g8b, h⟩ := h
        refine aw_aald X g8a g8b dX5_unit_39 ?_
        refine aw_aload_n X dX5_unit_40 rfl ?_
        refine aw_get X ob_5 fl_X5_25 rfl dX5_unit_41 ?_
        refine aw_iload_n X dX5_unit_44 rfl ?_
        obtain ⟨g9a, g9b, h⟩ := h
        refine aw_aald X g9a g9b dX5_unit_45 ?_
        refine aw_aload_n X dX5_unit_46 rfl ?_
        refine aw_get X ob_5 fl_X5_12 rfl dX5_unit_47 ?_
        refine aw_get X ob_0 fl_X5_188 rfl dX5_unit_50 ?_
        refine aw_callVI X hR (s_Pa_spotOf l D ad tc X.2.2.2.2.2.2.1 ⟨g9a, g9b⟩ ar_0_3 h) ml_X5_191 (ob_3 ⟨g9a, g9b⟩) rfl (by decide) (by decide) rfl rfl rfl rfl (Nat.le_of_ble_eq_true rfl) rfl dX5_unit_53 (fun r10 σ10 h => ?_)
        refine aw_iload_n X dX5_unit_56 rfl ?_
        refine aw_callVI X hR (s_Pa_solve l D ad tc X.2.2.2.2.2.2.1 ⟨g9a, g9b⟩ h) ml_X5_198 (ob_3 ⟨g9a, g9b⟩) rfl (by decide) (by decide) rfl rfl rfl rfl (Nat.le_of_ble_eq_true rfl) rfl dX5_unit_57 (fun r11 σ11 h => ?_)
        refine aw_istore X dX5_unit_60 (Nat.le_of_ble_eq_true rfl) rfl ?_
        refine aw_als (als' := [some (.ref (ad (5, 0, 0))), some (.int (oI l1)), some (.int (oI l2)), some (.int (oI l3)), some (.int (oI r11))]) rfl ?_
        refine aw_iload X dX5_unit_62 rfl ?_
        refine aw_bipush X dX5_unit_64 rfl ?_
        obtain ⟨g12, h⟩ := h
        refine aw_icmp_ne X dX5_unit_66 (tgt := 74) (by decide) g12 ⟨by decide, by decide⟩ (fun hc => ?_) (fun hc => ?_)
        · replace h := h.1 hc
          refine aw_aload_n X dX5_unit_74 rfl ?_
          refine aw_get X ob_5 fl_X5_25 rfl dX5_unit_75 ?_
          refine aw_iload_n X dX5_unit_78 rfl ?_
          obtain ⟨g14a, g14b, h⟩ := h
          refine aw_aald X g14a g14b dX5_unit_79 ?_
          refine aw_get X (ob_3 ⟨g14a, g14b⟩) fl_X5_201 rfl dX5_unit_80 ?_
          refine aw_iload_n X dX5_unit_83 rfl ?_
          obtain ⟨g15a, g15b, h⟩ := h
          refine aw_iald X (ar_3_14 ⟨g14a, g14b⟩) g15a g15b dX5_unit_84 ?_
          refine aw_weak (als' := [none, none, none, none, none]) trivial ?_
          exact m_Sr_unit_85 X hR hret h
        · replace h := h.2 hc
          refine aw_bipush X dX5_unit_69 rfl ?_
          refine aw_goto X dX5_unit_71 (tgt := 85) (by decide) ?_
          refine aw_weak (als' := [none, none, none, none, none]) trivial ?_
          exact m_Sr_unit_85 X hR hret h
      · replace h := h.2 hc
        refine aw_weak (als' := [none, none, none, none, none]) trivial ?_
        exact m_Sr_unit_32 X hR hret h
theorem s_Sr_unit (l : Launch) (D : va_G) (ad : Ky → Nat) (tc : Tc) (hi : adI ad) {l1 : Int} {l2 : Int} {l3 : Int} {σ : Mem} {Q : Int → Mem → Prop} (h : Sr_unit l1 l2 l3 σ Q) : CtI l D ad tc yX5_unit cX5_unit 5 (some .int) { frames := 2, cells := 0, slots := 0, locals := 67 } [.ref (ad (5, 0, 0)), .int (oI l1), .int (oI l2), .int (oI l3)] σ Q := CtI.mk (by decide +kernel) hi (Nat.le_of_ble_eq_true rfl) rfl (fun p e s m args below meth c A Qm X hR hret => m_Sr_unit_0 X hR hret h)

set_option maxHeartbeats 4000000 in
set_option maxRecDepth 100000 in
theorem m_Sr_cut_149 {p : Program} {l : Launch} {e : Env} {R : Room} {s : State} {m : MethodId} {args : Array Value} {below : List Frame} {meth : Method} {c : Code} {D : va_G} {ad : Ky → Nat} {tc : Tc} {A : Nat → Prop} {cs sl : Nat} {Qm : State → Prop} (X : Cx p s m args c cX5_cut RX5 3 D ad tc A) (hR : RmOK R cs sl 1 24) {Q : Int → Mem → Prop} (hret : RtI p l e R s m args below meth c D ad tc A cs sl Qm cX5_cut Q) {s0 : Int} {σ : Mem} (h : Sr_cut_149 Q s0 σ) : AW p l e R s m args below meth c D ad tc A cs sl Qm 149 [none, none, none] [.int (oI s0)] σ := by
  unfold Sr_cut_149 at h
  exact hret 149 _ _ _ dX5_cut_149 h

set_option maxHeartbeats 4000000 in
set_option maxRecDepth 100000 in
theorem m_Sr_cut_75 {p : Program} {l : Launch} {e : Env} {R : Room} {s : State} {m : MethodId} {args : Array Value} {below : List Frame} {meth : Method} {c : Code} {D : va_G} {ad : Ky → Nat} {tc : Tc} {A : Nat → Prop} {cs sl : Nat} {Qm : State → Prop} (X : Cx p s m args c cX5_cut RX5 3 D ad tc A) (hR : RmOK R cs sl 1 24) {Q : Int → Mem → Prop} (hret : RtI p l e R s m args below meth c D ad tc A cs sl Qm cX5_cut Q) {s0 : Int} {σ : Mem} (h : Sr_cut_75 Q s0 σ) : AW p l e R s m args below meth c D ad tc A cs sl Qm 75 [none, none, none] [.int (oI s0)] σ := by
  unfold Sr_cut_75 at h
  exact hret 75 _ _ _ dX5_cut_75 h

set_option maxHeartbeats 4000000 in
set_option maxRecDepth 100000 in
theorem m_Sr_cut_0 {p : Program} {l : Launch} {e : Env} {R : Room} {s : State} {m : MethodId} {args : Array Value} {below : List Frame} {meth : Method} {c : Code} {D : va_G} {ad : Ky → Nat} {tc : Tc} {A : Nat → Prop} {cs sl : Nat} {Qm : State → Prop} (X : Cx p s m args c cX5_cut RX5 3 D ad tc A) (hR : RmOK R cs sl 1 24) {Q : Int → Mem → Prop} (hret : RtI p l e R s m args below meth c D ad tc A cs sl Qm cX5_cut Q) {l1 : Int} {l2 : Int} {σ : Mem} (h : Sr_cut l1 l2 σ Q) : AW p l e R s m args below meth c D ad tc A cs sl Qm 0 [some (.ref (ad (5, 0, 0))), some (.int (oI l1)), some (.int (oI l2))] [] σ := by
  unfold Sr_cut at h
  refine aw_aload_n X dX5_cut_0 rfl ?_
  refine aw_get X ob_5 fl_X5_32 rfl dX5_cut_1 ?_
  refine aw_iload_n X dX5_cut_4 rfl ?_
  refine aw_callVI X hR (s_Cu_knows l D ad tc X.2.2.2.2.2.2.1 h) ml_X5_204 ob_1 rfl (by decide) (by decide) rfl rfl rfl rfl (Nat.le_of_ble_eq_true rfl) rfl dX5_cut_5 (fun r1 σ1 h => ?_)
  obtain ⟨g2, h⟩ := h
  refine aw_if_ne X dX5_cut_8 (tgt := 13) (by decide) g2 (fun hc => ?_) (fun hc => ?_)
  · replace h := h.1 hc
    refine aw_iload_n X dX5_cut_13 rfl ?_
    obtain ⟨g3, h⟩ := h
    by_cases hc0 : l2 = 0
    · replace h := h.1 hc0
      refine aw_tableIn X dX5_cut_14 0 hc0 ⟨by decide, by decide⟩ (by decide) (by decide) rfl (tgt := 56) (by decide) ?_
      refine aw_aload_n X dX5_cut_56 rfl ?_
      refine aw_get X ob_5 fl_X5_32 rfl dX5_cut_57 ?_
      refine aw_get X ob_1 fl_X5_205 rfl dX5_cut_60 ?_
      refine aw_iload_n X dX5_cut_63 rfl ?_
      obtain ⟨g4a, g4b, h⟩ := h
      refine aw_iald X ar_1_3 g4a g4b dX5_cut_64 ?_
      refine aw_bipush X dX5_cut_65 rfl ?_
      obtain ⟨g5, h⟩ := h
      refine aw_icmp_ne X dX5_cut_67 (tgt := 74) (by decide) g5 ⟨by decide, by decide⟩ (fun hc => ?_) (fun hc => ?_)
      · replace h := h.1 hc
        refine aw_iconst X dX5_cut_74 ?_
        refine aw_weak (als' := [none, none, none]) trivial ?_
        exact m_Sr_cut_75 X hR hret h
      · replace h := h.2 hc
        refine aw_iconst X dX5_cut_70 ?_
        refine aw_goto X dX5_cut_71 (tgt := 75) (by decide) ?_
        refine aw_weak (als' := [none, none, none]) trivial ?_
        exact m_Sr_cut_75 X hR hret h
    replace h := h.2
    by_cases hc1 : l2 = 1
    · replace h := h.1 hc1
      refine aw_tableIn X dX5_cut_14 1 hc1 ⟨by decide, by decide⟩ (by decide) (by decide) rfl (tgt := 76) (by decide) ?_
      refine aw_aload_n X dX5_cut_76 rfl ?_
      refine aw_get X ob_5 fl_X5_32 rfl dX5_cut_77 ?_
      refine aw_get X ob_1 fl_X5_208 rfl dX5_cut_80 ?_
      refine aw_iload_n X dX5_cut_83 rfl ?_
      obtain ⟨g7a, g7b, h⟩ := h
      refine aw_iald X ar_1_1 g7a g7b dX5_cut_84 ?_
      exact hret 85 _ _ _ dX5_cut_85 h
    replace h := h.2
    by_cases hc2 : l2 = 2
    · replace h := h.1 hc2
      refine aw_tableIn X dX5_cut_14 2 hc2 ⟨by decide, by decide⟩ (by decide) (by decide) rfl (tgt := 86) (by decide) ?_
      refine aw_aload_n X dX5_cut_86 rfl ?_
      refine aw_get X ob_5 fl_X5_32 rfl dX5_cut_87 ?_
      refine aw_get X ob_1 fl_X5_210 rfl dX5_cut_90 ?_
      refine aw_iload_n X dX5_cut_93 rfl ?_
      obtain ⟨g8a, g8b, h⟩ := h
      refine aw_iald X ar_1_2 g8a g8b dX5_cut_94 ?_
      exact hret 95 _ _ _ dX5_cut_95 h
    replace h := h.2
    by_cases hc3 : l2 = 3
    · replace h := h.1 hc3
      refine aw_tableIn X dX5_cut_14 3 hc3 ⟨by decide, by decide⟩ (by decide) (by decide) rfl (tgt := 96) (by decide) ?_
      refine aw_aload_n X dX5_cut_96 rfl ?_
      refine aw_get X ob_5 fl_X5_32 rfl dX5_cut_97 ?_
      refine aw_get X ob_1 fl_X5_205 rfl dX5_cut_100 ?_
      refine aw_iload_n X dX5_cut_103 rfl ?_
      obtain ⟨g9a, g9b, h⟩ := h
      refine aw_iald X ar_1_3 g9a g9b dX5_cut_104 ?_
      exact hret 105 _ _ _ dX5_cut_105 h
    replace h := h.2
    by_cases hc4 : l2 = 4
    · replace h := h.1 hc4
      refine aw_tableIn X dX5_cut_14 4 hc4 ⟨by decide, by decide⟩ (by decide) (by decide) rfl (tgt := 106) (by decide) ?_
      refine aw_aload_n X dX5_cut_106 rfl ?_
      refine aw_get X ob_5 fl_X5_32 rfl dX5_cut_107 ?_
      refine aw_get X ob_1 fl_X5_212 rfl dX5_cut_110 ?_
      refine aw_iload_n X dX5_cut_113 rfl ?_
      obtain ⟨g10a, g10b, h⟩ := h
      refine aw_iald X ar_1_5 g10a g10b dX5_cut_114 ?_
      exact hret 115 _ _ _ dX5_cut_115 h
    replace h := h.2
    by_cases hc5 : l2 = 5
    · replace h := h.1 hc5
      refine aw_tableIn X dX5_cut_14 5 hc5 ⟨by decide, by decide⟩ (by decide) (by decide) rfl (tgt := 116) (by decide) ?_
      refine aw_aload_n X dX5_cut_116 rfl ?_
      refine aw_get X ob_5 fl_X5_32 rfl dX5_cut_117 ?_
      refine aw_get X ob_1 fl_X5_213 rfl dX5_cut_120 ?_
      refine aw_iload_n X dX5_cut_123 rfl ?_
      obtain ⟨g11a, g11b, h⟩ := h
      refine aw_iald X ar_1_4 g11a g11b dX5_cut_124 ?_
      exact hret 125 _ _ _ dX5_cut_125 h
    replace h := h.2
    by_cases hc6 : l2 = 6
    · replace h := h.1 hc6
      refine aw_tableIn X dX5_cut_14 6 hc6 ⟨by decide, by decide⟩ (by decide) (by decide) rfl (tgt := 126) (by decide) ?_
      refine aw_aload_n X dX5_cut_126 rfl ?_
      refine aw_get X ob_5 fl_X5_32 rfl dX5_cut_127 ?_
      refine aw_iload_n X dX5_cut_130 rfl ?_
      refine aw_aload_n X dX5_cut_131 rfl ?_
      refine aw_get X ob_5 fl_X5_12 rfl dX5_cut_132 ?_
      refine aw_get X ob_0 fl_X5_188 rfl dX5_cut_135 ?_
      refine aw_callVI X hR (s_Cu_isMetBy l D ad tc X.2.2.2.2.2.2.1 ar_0_3 h) ml_X5_215 ob_1 rfl (by decide) (by decide) rfl rfl rfl rfl (Nat.le_of_ble_eq_true rfl) rfl dX5_cut_138 (fun r12 σ12 h => ?_)
      obtain ⟨g13, h⟩ := h
      refine aw_if_eq X dX5_cut_141 (tgt := 148) (by decide) g13 (fun hc => ?_) (fun hc => ?_)
      · replace h := h.1 hc
        refine aw_iconst X dX5_cut_148 ?_
        refine aw_weak (als' := [none, none, none]) trivial ?_
        exact m_Sr_cut_149 X hR hret h
      · replace h := h.2 hc
        refine aw_iconst X dX5_cut_144 ?_
        refine aw_goto X dX5_cut_145 (tgt := 149) (by decide) ?_
        refine aw_weak (als' := [none, none, none]) trivial ?_
        exact m_Sr_cut_149 X hR hret h
    replace h := h.2
    have hcd : l2 < 0 ∨ 6 < l2 := by omega
    replace h := h hcd
    refine aw_tableOut X dX5_cut_14 g3 hcd (tgt := 150) (by decide) ?_
    refine aw_bipush X dX5_cut_150 rfl ?_
    exact hret 152 _ _ _ dX5_cut_152 h
  · replace h := h.2 hc
    refine aw_iconst X dX5_cut_11 ?_
    exact hret 12 _ _ _ dX5_cut_12 h
theorem s_Sr_cut (l : Launch) (D : va_G) (ad : Ky → Nat) (tc : Tc) (hi : adI ad) {l1 : Int} {l2 : Int} {σ : Mem} {Q : Int → Mem → Prop} (h : Sr_cut l1 l2 σ Q) : CtI l D ad tc yX5_cut cX5_cut 3 (some .int) { frames := 1, cells := 0, slots := 0, locals := 24 } [.ref (ad (5, 0, 0)), .int (oI l1), .int (oI l2)] σ Q := CtI.mk (by decide +kernel) hi (Nat.le_of_ble_eq_true rfl) rfl (fun p e s m args below meth c A Qm X hR hret => m_Sr_cut_0 X hR hret h)

set_option maxHeartbeats 4000000 in
set_option maxRecDepth 100000 in
theorem m_Sr_reason_48 {p : Program} {l : Launch} {e : Env} {R : Room} {s : State} {m : MethodId} {args : Array Value} {below : List Frame} {meth : Method} {c : Code} {D : va_G} {ad : Ky → Nat} {tc : Tc} {A : Nat → Prop} {cs sl : Nat} {Qm : State → Prop} (X : Cx p s m args c cX5_reason RX5 3 D ad tc A) (hR : RmOK R cs sl 1 21) {Q : Int → Mem → Prop} (hret : RtI p l e R s m args below meth c D ad tc A cs sl Qm cX5_reason Q) {s0 : Int} {σ : Mem} (h : Sr_reason_48 Q s0 σ) : AW p l e R s m args below meth c D ad tc A cs sl Qm 48 [none, none, none] [.int (oI s0)] σ := by
  unfold Sr_reason_48 at h
  exact hret 48 _ _ _ dX5_reason_48 h

set_option maxHeartbeats 4000000 in
set_option maxRecDepth 100000 in
theorem m_Sr_reason_30 {p : Program} {l : Launch} {e : Env} {R : Room} {s : State} {m : MethodId} {args : Array Value} {below : List Frame} {meth : Method} {c : Code} {D : va_G} {ad : Ky → Nat} {tc : Tc} {A : Nat → Prop} {cs sl : Nat} {Qm : State → Prop} (X : Cx p s m args c cX5_reason RX5 3 D ad tc A) (hR : RmOK R cs sl 1 21) {Q : Int → Mem → Prop} (hret : RtI p l e R s m args below meth c D ad tc A cs sl Qm cX5_reason Q) {σ : Mem} (h : Sr_reason_30 Q σ) : AW p l e R s m args below meth c D ad tc A cs sl Qm 30 [none, none, none] [] σ := by
  unfold Sr_reason_30 at h
  refine aw_bipush X dX5_reason_30 rfl ?_
  refine aw_goto X dX5_reason_32 (tgt := 48) (by decide) ?_
  refine aw_weak (als' := [none, none, none]) trivial ?_
  exact m_Sr_reason_48 X hR hret h

set_option maxHeartbeats 4000000 in
set_option maxRecDepth 100000 in
theorem m_Sr_reason_0 {p : Program} {l : Launch} {e : Env} {R : Room} {s : State} {m : MethodId} {args : Array Value} {below : List Frame} {meth : Method} {c : Code} {D : va_G} {ad : Ky → Nat} {tc : Tc} {A : Nat → Prop} {cs sl : Nat} {Qm : State → Prop} (X : Cx p s m args c cX5_reason RX5 3 D ad tc A) (hR : RmOK R cs sl 1 21) {Q : Int → Mem → Prop} (hret : RtI p l e R s m args below meth c D ad tc A cs sl Qm cX5_reason Q) {l1 : Int} {l2 : Int} {σ : Mem} (h : Sr_reason l1 l2 σ Q) : AW p l e R s m args below meth c D ad tc A cs sl Qm 0 [some (.ref (ad (5, 0, 0))), some (.int (oI l1)), some (.int (oI l2))] [] σ := by
  unfold Sr_reason at h
  refine aw_aload_n X dX5_reason_0 rfl ?_
  refine aw_get X ob_5 fl_X5_32 rfl dX5_reason_1 ?_
  refine aw_iload_n X dX5_reason_4 rfl ?_
  refine aw_callVI X hR (s_Cu_knows l D ad tc X.2.2.2.2.2.2.1 h) ml_X5_204 ob_1 rfl (by decide) (by decide) rfl rfl rfl rfl (Nat.le_of_ble_eq_true rfl) rfl dX5_reason_5 (fun r1 σ1 h => ?_)
  obtain ⟨g2, h⟩ := h
  refine aw_if_ne X dX5_reason_8 (tgt := 13) (by decide) g2 (fun hc => ?_) (fun hc => ?_)
  · replace h := h.1 hc
    refine aw_iload_n X dX5_reason_13 rfl ?_
    obtain ⟨g3, h⟩ := h
    refine aw_if_lt X dX5_reason_14 (tgt := 30) (by decide) g3 (fun hc => ?_) (fun hc => ?_)
    · replace h := h.1 hc
      refine aw_weak (als' := [none, none, none]) trivial ?_
      exact m_Sr_reason_30 X hR hret h
    · replace h := h.2 hc
      refine aw_iload_n X dX5_reason_17 rfl ?_
      refine aw_aload_n X dX5_reason_18 rfl ?_
      refine aw_get X ob_5 fl_X5_32 rfl dX5_reason_19 ?_
      refine aw_get X ob_1 fl_X5_212 rfl dX5_reason_22 ?_
      refine aw_iload_n X dX5_reason_25 rfl ?_
      obtain ⟨g4a, g4b, h⟩ := h
      refine aw_iald X ar_1_5 g4a g4b dX5_reason_26 ?_
      obtain ⟨g5, h⟩ := h
      obtain ⟨g6, h⟩ := h
      refine aw_icmp_lt X dX5_reason_27 (tgt := 35) (by decide) g5 g6 (fun hc => ?_) (fun hc => ?_)
      · replace h := h.1 hc
        refine aw_aload_n X dX5_reason_35 rfl ?_
        refine aw_get X ob_5 fl_X5_32 rfl dX5_reason_36 ?_
        refine aw_get X ob_1 fl_X5_219 rfl dX5_reason_39 ?_
        refine aw_iload_n X dX5_reason_42 rfl ?_
        refine aw_iconst X dX5_reason_43 ?_
        refine aw_imul X dX5_reason_44 ?_
        refine aw_iload_n X dX5_reason_45 rfl ?_
        refine aw_iadd X dX5_reason_46 ?_
        obtain ⟨g7a, g7b, h⟩ := h
        refine aw_iald X ar_1_6 g7a g7b dX5_reason_47 ?_
        refine aw_weak (als' := [none, none, none]) trivial ?_
        exact m_Sr_reason_48 X hR hret h
      · replace h := h.2 hc
        refine aw_weak (als' := [none, none, none]) trivial ?_
        exact m_Sr_reason_30 X hR hret h
  · replace h := h.2 hc
    refine aw_iconst X dX5_reason_11 ?_
    exact hret 12 _ _ _ dX5_reason_12 h
theorem s_Sr_reason (l : Launch) (D : va_G) (ad : Ky → Nat) (tc : Tc) (hi : adI ad) {l1 : Int} {l2 : Int} {σ : Mem} {Q : Int → Mem → Prop} (h : Sr_reason l1 l2 σ Q) : CtI l D ad tc yX5_reason cX5_reason 3 (some .int) { frames := 1, cells := 0, slots := 0, locals := 21 } [.ref (ad (5, 0, 0)), .int (oI l1), .int (oI l2)] σ Q := CtI.mk (by decide +kernel) hi (Nat.le_of_ble_eq_true rfl) rfl (fun p e s m args below meth c A Qm X hR hret => m_Sr_reason_0 X hR hret h)

set_option maxHeartbeats 4000000 in
set_option maxRecDepth 100000 in
theorem m_Sr_judge_0 {p : Program} {l : Launch} {e : Env} {R : Room} {s : State} {m : MethodId} {args : Array Value} {below : List Frame} {meth : Method} {c : Code} {D : va_G} {ad : Ky → Nat} {tc : Tc} {A : Nat → Prop} {cs sl : Nat} {Qm : State → Prop} (X : Cx p s m args c cX5_judge RX5 1 D ad tc A) (hR : RmOK R cs sl 7 191) {Q : Int → Mem → Prop} (hret : RtI p l e R s m args below meth c D ad tc A cs sl Qm cX5_judge Q) {σ : Mem} (h : Sr_judge σ Q) : AW p l e R s m args below meth c D ad tc A cs sl Qm 0 [some (.ref (ad (5, 0, 0)))] [] σ := by
  unfold Sr_judge at h
  refine aw_aload_n X dX5_judge_0 rfl ?_
  refine aw_iconst X dX5_judge_1 ?_
  refine aw_callVV X hR (s_Sr_findLeast l D ad tc X.2.2.2.2.2.2.1 h) ml_X5_140 ob_5 rfl (by decide) (by decide) rfl rfl rfl rfl (Nat.le_of_ble_eq_true rfl) rfl dX5_judge_2 (fun σ1 h => ?_)
  refine aw_aload_n X dX5_judge_5 rfl ?_
  refine aw_get X ob_5 fl_X5_53 rfl dX5_judge_6 ?_
  exact hret 9 _ _ _ dX5_judge_9 h
theorem s_Sr_judge (l : Launch) (D : va_G) (ad : Ky → Nat) (tc : Tc) (hi : adI ad) {σ : Mem} {Q : Int → Mem → Prop} (h : Sr_judge σ Q) : CtI l D ad tc yX5_judge cX5_judge 1 (some .int) { frames := 7, cells := 0, slots := 0, locals := 191 } [.ref (ad (5, 0, 0))] σ Q := CtI.mk (by decide +kernel) hi (Nat.le_of_ble_eq_true rfl) rfl (fun p e s m args below meth c A Qm X hR hret => m_Sr_judge_0 X hR hret h)

set_option maxHeartbeats 4000000 in
set_option maxRecDepth 100000 in
theorem m_Mo_meets_65 {p : Program} {l : Launch} {e : Env} {R : Room} {s : State} {m : MethodId} {args : Array Value} {below : List Frame} {meth : Method} {c : Code} {D : va_G} {ad : Ky → Nat} {tc : Tc} {A : Nat → Prop} {cs sl : Nat} {Qm : State → Prop} (X : Cx p s m args c cX6_meets RX6 7 D ad tc A) (hR : RmOK R cs sl 1 23) {Q : Int → Mem → Prop} (hret : RtZ p l e R s m args below meth c D ad tc A cs sl Qm cX6_meets Q) {k6 : Int → Int → Int → Int → Int → Mem → Prop} (hk6 : ∀ (l1 : Int) (l2 : Int) (l3 : Int) (l4 : Int) (l5 : Int) (σ : Mem), k6 l1 l2 l3 l4 l5 σ → AW p l e R s m args below meth c D ad tc A cs sl Qm 6 [some (.ref (ad (6, 0, 0))), some (.int (oI l1)), some (.int (oI l2)), some (.int (oI l3)), some (.int (oI l4)), some (.int (oI l5)), none] [] σ) {l1 : Int} {l2 : Int} {l3 : Int} {l5 : Int} {s0 : Int} {σ : Mem} (h : Mo_meets_65 k6 Q l1 l2 l3 l5 s0 σ) : AW p l e R s m args below meth c D ad tc A cs sl Qm 65 [some (.ref (ad (6, 0, 0))), some (.int (oI l1)), some (.int (oI l2)), some (.int (oI l3)), none, some (.int (oI l5)), none] [.int (oI s0)] σ := by
  unfold Mo_meets_65 at h
  refine aw_istore X dX6_meets_65 (Nat.le_of_ble_eq_true rfl) rfl ?_
  refine aw_als (als' := [some (.ref (ad (6, 0, 0))), some (.int (oI l1)), some (.int (oI l2)), some (.int (oI l3)), some (.int (oI s0)), some (.int (oI l5)), none]) rfl ?_
  refine aw_iinc X dX6_meets_67 rfl rfl ?_
  obtain ⟨x1, ex1⟩ : ∃ z : Int, z = (l5 + 1) := ⟨_, rfl⟩
  replace h := h x1 ex1
  refine aw_als (als' := [some (.ref (ad (6, 0, 0))), some (.int (oI l1)), some (.int (oI l2)), some (.int (oI l3)), some (.int (oI s0)), some (.int (oI x1)), none]) (by subst ex1; rfl) ?_
  refine aw_goto X dX6_meets_70 (tgt := 6) (by decide) ?_
  refine aw_weak (als' := [some (.ref (ad (6, 0, 0))), some (.int (oI l1)), some (.int (oI l2)), some (.int (oI l3)), some (.int (oI s0)), some (.int (oI x1)), none]) ⟨rfl, rfl, rfl, rfl, rfl, rfl, trivial⟩ ?_
  exact hk6 _ _ _ _ _ _ h

set_option maxHeartbeats 4000000 in
set_option maxRecDepth 100000 in
theorem m_Mo_meets_64 {p : Program} {l : Launch} {e : Env} {R : Room} {s : State} {m : MethodId} {args : Array Value} {below : List Frame} {meth : Method} {c : Code} {D : va_G} {ad : Ky → Nat} {tc : Tc} {A : Nat → Prop} {cs sl : Nat} {Qm : State → Prop} (X : Cx p s m args c cX6_meets RX6 7 D ad tc A) (hR : RmOK R cs sl 1 23) {Q : Int → Mem → Prop} (hret : RtZ p l e R s m args below meth c D ad tc A cs sl Qm cX6_meets Q) {k6 : Int → Int → Int → Int → Int → Mem → Prop} (hk6 : ∀ (l1 : Int) (l2 : Int) (l3 : Int) (l4 : Int) (l5 : Int) (σ : Mem), k6 l1 l2 l3 l4 l5 σ → AW p l e R s m args below meth c D ad tc A cs sl Qm 6 [some (.ref (ad (6, 0, 0))), some (.int (oI l1)), some (.int (oI l2)), some (.int (oI l3)), some (.int (oI l4)), some (.int (oI l5)), none] [] σ) {l1 : Int} {l2 : Int} {l3 : Int} {l5 : Int} {σ : Mem} (h : Mo_meets_64 k6 Q l1 l2 l3 l5 σ) : AW p l e R s m args below meth c D ad tc A cs sl Qm 64 [some (.ref (ad (6, 0, 0))), some (.int (oI l1)), some (.int (oI l2)), some (.int (oI l3)), none, some (.int (oI l5)), none] [] σ := by
  unfold Mo_meets_64 at h
  refine aw_iconst X dX6_meets_64 ?_
  refine aw_weak (als' := [some (.ref (ad (6, 0, 0))), some (.int (oI l1)), some (.int (oI l2)), some (.int (oI l3)), none, some (.int (oI l5)), none]) ⟨rfl, rfl, rfl, rfl, rfl, trivial⟩ ?_
  exact m_Mo_meets_65 X hR hret hk6 h

set_option maxHeartbeats 4000000 in
set_option maxRecDepth 100000 in
theorem m_Mo_meets_6 {p : Program} {l : Launch} {e : Env} {R : Room} {s : State} {m : MethodId} {args : Array Value} {below : List Frame} {meth : Method} {c : Code} {D : va_G} {ad : Ky → Nat} {tc : Tc} {A : Nat → Prop} {cs sl : Nat} {Qm : State → Prop} (X : Cx p s m args c cX6_meets RX6 7 D ad tc A) (hR : RmOK R cs sl 1 23) {Q : Int → Mem → Prop} (hret : RtZ p l e R s m args below meth c D ad tc A cs sl Qm cX6_meets Q) : ∀ (n : Nat) (l1 : Int) (l2 : Int) (l3 : Int) (l4 : Int) (l5 : Int) (σ : Mem), Mo_meets_6 Q n l1 l2 l3 l4 l5 σ → AW p l e R s m args below meth c D ad tc A cs sl Qm 6 [some (.ref (ad (6, 0, 0))), some (.int (oI l1)), some (.int (oI l2)), some (.int (oI l3)), some (.int (oI l4)), some (.int (oI l5)), none] [] σ := by
  intro n
  induction n with
  | zero =>
    intro l1 l2 l3 l4 l5 σ h
    exact False.elim h
  | succ n ih =>
    intro l1 l2 l3 l4 l5 σ h
    unfold Mo_meets_6 at h
    refine aw_iload X dX6_meets_6 rfl ?_
    refine aw_aload_n X dX6_meets_8 rfl ?_
    refine aw_get X ob_6 fl_X6_75 rfl dX6_meets_9 ?_
    refine aw_iload_n X dX6_meets_12 rfl ?_
    obtain ⟨g1a, g1b, h⟩ := h
    refine aw_iald X ar_6_24 g1a g1b dX6_meets_13 ?_
    obtain ⟨g2, h⟩ := h
    obtain ⟨g3, h⟩ := h
    refine aw_icmp_ge X dX6_meets_14 (tgt := 73) (by decide) g2 g3 (fun hc => ?_) (fun hc => ?_)
    · replace h := h.1 hc
      refine aw_iload X dX6_meets_73 rfl ?_
      exact hret 75 _ _ _ dX6_meets_75 h.1 h.2
    · replace h := h.2 hc
      refine aw_aload_n X dX6_meets_17 rfl ?_
      refine aw_iload_n X dX6_meets_18 rfl ?_
      refine aw_aload_n X dX6_meets_19 rfl ?_
      refine aw_get X ob_6 fl_X6_78 rfl dX6_meets_20 ?_
      refine aw_iconst X dX6_meets_23 ?_
      refine aw_iload_n X dX6_meets_24 rfl ?_
      refine aw_imul X dX6_meets_25 ?_
      refine aw_iload X dX6_meets_26 rfl ?_
      refine aw_iadd X dX6_meets_28 ?_
      obtain ⟨g4a, g4b, h⟩ := h
      refine aw_iald X ar_6_25 g4a g4b dX6_meets_29 ?_
      refine aw_callVI X hR (s_Mo_placeOf l D ad tc X.2.2.2.2.2.2.1 h) ml_X6_151 ob_6 rfl (by decide) (by decide) rfl rfl rfl rfl (Nat.le_of_ble_eq_true rfl) rfl dX6_meets_30 (fun r5 σ5 h => ?_)
      refine aw_istore X dX6_meets_33 (Nat.le_of_ble_eq_true rfl) rfl ?_
      refine aw_als (als' := [some (.ref (ad (6, 0, 0))), some (.int (oI l1)), some (.int (oI l2)), some (.int (oI l3)), some (.int (oI l4)), some (.int (oI l5)), some (.int (oI r5))]) rfl ?_
      refine aw_iload X dX6_meets_35 rfl ?_
      obtain ⟨g6, h⟩ := h
      refine aw_if_eq X dX6_meets_37 (tgt := 64) (by decide) g6 (fun hc => ?_) (fun hc => ?_)
      · replace h := h.1 hc
        refine aw_weak (als' := [some (.ref (ad (6, 0, 0))), some (.int (oI l1)), some (.int (oI l2)), some (.int (oI l3)), none, some (.int (oI l5)), none]) ⟨rfl, rfl, rfl, rfl, rfl, trivial⟩ ?_
        exact m_Mo_meets_64 X hR hret ih h
      · replace h := h.2 hc
        refine aw_iload_n X dX6_meets_40 rfl ?_
        refine aw_iload X dX6_meets_41 rfl ?_
        refine aw_callSI X hR (s_Mo_figure l D ad tc X.2.2.2.2.2.2.1 h) ms_X6_162 (by decide) (by decide) rfl rfl rfl rfl (Nat.le_of_ble_eq_true rfl) rfl dX6_meets_43 (fun r7 σ7 h => ?_)
        refine aw_aload_n X dX6_meets_46 rfl ?_
        refine aw_get X ob_6 fl_X6_81 rfl dX6_meets_47 ?_
        refine aw_iconst X dX6_meets_50 ?_
        refine aw_iload_n X dX6_meets_51 rfl ?_
        refine aw_imul X dX6_meets_52 ?_
        refine aw_iload X dX6_meets_53 rfl ?_
        refine aw_iadd X dX6_meets_55 ?_
        obtain ⟨g8a, g8b, h⟩ := h
        refine aw_iald X ar_6_26 g8a g8b dX6_meets_56 ?_
        obtain ⟨g9, h⟩ := h
        obtain ⟨g10, h⟩ := h
        refine aw_icmp_ne X dX6_meets_57 (tgt := 64) (by decide) g9 g10 (fun hc => ?_) (fun hc => ?_)
        · replace h := h.1 hc
          refine aw_weak (als' := [some (.ref (ad (6, 0, 0))), some (.int (oI l1)), some (.int (oI l2)), some (.int (oI l3)), none, some (.int (oI l5)), none]) ⟨rfl, rfl, rfl, rfl, rfl, trivial⟩ ?_
          exact m_Mo_meets_64 X hR hret ih h
        · replace h := h.2 hc
          refine aw_iconst X dX6_meets_60 ?_
          refine aw_goto X dX6_meets_61 (tgt := 65) (by decide) ?_
          refine aw_weak (als' := [some (.ref (ad (6, 0, 0))), some (.int (oI l1)), some (.int (oI l2)), some (.int (oI l3)), none, some (.int (oI l5)), none]) ⟨rfl, rfl, rfl, rfl, rfl, trivial⟩ ?_
          exact m_Mo_meets_65 X hR hret ih h

set_option maxHeartbeats 4000000 in
set_option maxRecDepth 100000 in
theorem m_Mo_meets_0 {p : Program} {l : Launch} {e : Env} {R : Room} {s : State} {m : MethodId} {args : Array Value} {below : List Frame} {meth : Method} {c : Code} {D : va_G} {ad : Ky → Nat} {tc : Tc} {A : Nat → Prop} {cs sl : Nat} {Qm : State → Prop} (X : Cx p s m args c cX6_meets RX6 7 D ad tc A) (hR : RmOK R cs sl 1 23) {Q : Int → Mem → Prop} (hret : RtZ p l e R s m args below meth c D ad tc A cs sl Qm cX6_meets Q) {l1 : Int} {l2 : Int} {l3 : Int} {σ : Mem} (h : Mo_meets l1 l2 l3 σ Q) : AW p l e R s m args below meth c D ad tc A cs sl Qm 0 [some (.ref (ad (6, 0, 0))), some (.int (oI l1)), some (.int (oI l2)), some (.int (oI l3)), none, none, none] [] σ := by
  unfold Mo_meets at h
  refine aw_iconst X dX6_meets_0 ?_
  refine aw_istore X dX6_meets_1 (Nat.le_of_ble_eq_true rfl) rfl ?_
  refine aw_als (als' := [some (.ref (ad (6, 0, 0))), some (.int (oI l1)), some (.int (oI l2)), some (.int (oI l3)), some (.int (oI 1)), none, none]) rfl ?_
  refine aw_iconst X dX6_meets_3 ?_
  refine aw_istore X dX6_meets_4 (Nat.le_of_ble_eq_true rfl) rfl ?_
  refine aw_als (als' := [some (.ref (ad (6, 0, 0))), some (.int (oI l1)), some (.int (oI l2)), some (.int (oI l3)), some (.int (oI 1)), some (.int (oI 0)), none]) rfl ?_
  refine aw_weak (als' := [some (.ref (ad (6, 0, 0))), some (.int (oI l1)), some (.int (oI l2)), some (.int (oI l3)), some (.int (oI 1)), some (.int (oI 0)), none]) ⟨rfl, rfl, rfl, rfl, rfl, rfl, trivial⟩ ?_
  obtain ⟨n0, h⟩ := h
  exact m_Mo_meets_6 X hR hret n0 _ _ _ _ _ _ h
theorem s_Mo_meets (l : Launch) (D : va_G) (ad : Ky → Nat) (tc : Tc) (hi : adI ad) {l1 : Int} {l2 : Int} {l3 : Int} {σ : Mem} {Q : Int → Mem → Prop} (h : Mo_meets l1 l2 l3 σ Q) : CtI l D ad tc yX6_meets cX6_meets 7 (some .boolean) { frames := 1, cells := 0, slots := 0, locals := 23 } [.ref (ad (6, 0, 0)), .int (oI l1), .int (oI l2), .int (oI l3)] σ Q := CtI.mkz (by decide +kernel) hi (Nat.le_of_ble_eq_true rfl) rfl (fun p e s m args below meth c A Qm X hR hret => m_Mo_meets_0 X hR hret h)

set_option maxHeartbeats 4000000 in
set_option maxRecDepth 100000 in
theorem m_Mo_layCuts_143 {p : Program} {l : Launch} {e : Env} {R : Room} {s : State} {m : MethodId} {args : Array Value} {below : List Frame} {meth : Method} {c : Code} {D : va_G} {ad : Ky → Nat} {tc : Tc} {A : Nat → Prop} {cs sl : Nat} {Qm : State → Prop} (X : Cx p s m args c cX6_layCuts RX6 4 D ad tc A) (hR : RmOK R cs sl 2 49) {Q : Mem → Prop} (hret : RtV p l e R s m args below meth c D ad tc A cs sl Qm cX6_layCuts Q) {k41 : Int → Int → Mem → Prop} (hk41 : ∀ (l1 : Int) (l2 : Int) (σ : Mem), k41 l1 l2 σ → AW p l e R s m args below meth c D ad tc A cs sl Qm 41 [some (.ref (ad (6, 0, 0))), some (.int (oI l1)), some (.int (oI l2)), none] [] σ) {l1 : Int} {l2 : Int} {σ : Mem} (h : Mo_layCuts_143 k41 Q l1 l2 σ) : AW p l e R s m args below meth c D ad tc A cs sl Qm 143 [some (.ref (ad (6, 0, 0))), some (.int (oI l1)), some (.int (oI l2)), none] [] σ := by
  unfold Mo_layCuts_143 at h
  refine aw_iinc X dX6_layCuts_143 rfl rfl ?_
  obtain ⟨x1, ex1⟩ : ∃ z : Int, z = (l2 + 1) := ⟨_, rfl⟩
  replace h := h x1 ex1
  refine aw_als (als' := [some (.ref (ad (6, 0, 0))), some (.int (oI l1)), some (.int (oI x1)), none]) (by subst ex1; rfl) ?_
  refine aw_goto X dX6_layCuts_146 (tgt := 41) (by decide) ?_
  refine aw_weak (als' := [some (.ref (ad (6, 0, 0))), some (.int (oI l1)), some (.int (oI x1)), none]) ⟨rfl, rfl, rfl, trivial⟩ ?_
  exact hk41 _ _ _ h

set_option maxHeartbeats 4000000 in
set_option maxRecDepth 100000 in
theorem m_Mo_layCuts_41 {p : Program} {l : Launch} {e : Env} {R : Room} {s : State} {m : MethodId} {args : Array Value} {below : List Frame} {meth : Method} {c : Code} {D : va_G} {ad : Ky → Nat} {tc : Tc} {A : Nat → Prop} {cs sl : Nat} {Qm : State → Prop} (X : Cx p s m args c cX6_layCuts RX6 4 D ad tc A) (hR : RmOK R cs sl 2 49) {Q : Mem → Prop} (hret : RtV p l e R s m args below meth c D ad tc A cs sl Qm cX6_layCuts Q) {k31 : Int → Mem → Prop} (hk31 : ∀ (l1 : Int) (σ : Mem), k31 l1 σ → AW p l e R s m args below meth c D ad tc A cs sl Qm 31 [some (.ref (ad (6, 0, 0))), some (.int (oI l1)), none, none] [] σ) : ∀ (n : Nat) (l1 : Int) (l2 : Int) (σ : Mem), Mo_layCuts_41 k31 Q n l1 l2 σ → AW p l e R s m args below meth c D ad tc A cs sl Qm 41 [some (.ref (ad (6, 0, 0))), some (.int (oI l1)), some (.int (oI l2)), none] [] σ := by
  intro n
  induction n with
  | zero =>
    intro l1 l2 σ h
    exact False.elim h
  | succ n ih =>
    intro l1 l2 σ h
    unfold Mo_layCuts_41 at h
    refine aw_iload_n X dX6_layCuts_41 rfl ?_
    refine aw_bipush X dX6_layCuts_42 rfl ?_
    obtain ⟨g1, h⟩ := h
    refine aw_icmp_ge X dX6_layCuts_44 (tgt := 149) (by decide) g1 ⟨by decide, by decide⟩ (fun hc => ?_) (fun hc => ?_)
    · replace h := h.1 hc
      refine aw_iinc X dX6_layCuts_149 rfl rfl ?_
      obtain ⟨x3, ex3⟩ : ∃ z : Int, z = (l1 + 1) := ⟨_, rfl⟩
      replace h := h x3 ex3
      refine aw_als (als' := [some (.ref (ad (6, 0, 0))), some (.int (oI x3)), some (.int (oI l2)), none]) (by subst ex3; rfl) ?_
      refine aw_goto X dX6_layCuts_152 (tgt := 31) (by decide) ?_
      refine aw_weak (als' := [some (.ref (ad (6, 0, 0))), some (.int (oI x3)), none, none]) ⟨rfl, rfl, trivial⟩ ?_
      exact hk31 _ _ h
    · replace h := h.2 hc
      refine aw_aload_n X dX6_layCuts_47 rfl ?_
      refine aw_aload_n X dX6_layCuts_48 rfl ?_
      refine aw_get X ob_6 fl_X6_63 rfl dX6_layCuts_49 ?_
      refine aw_iload_n X dX6_layCuts_52 rfl ?_
      obtain ⟨g4a, g4b, h⟩ := h
      refine aw_iald X ar_6_20 g4a g4b dX6_layCuts_53 ?_
      refine aw_iload_n X dX6_layCuts_54 rfl ?_
      refine aw_callVI X hR (s_Mo_isCode l D ad tc X.2.2.2.2.2.2.1 h) ml_X6_165 ob_6 rfl (by decide) (by decide) rfl rfl rfl rfl (Nat.le_of_ble_eq_true rfl) rfl dX6_layCuts_55 (fun r5 σ5 h => ?_)
      obtain ⟨g6, h⟩ := h
      refine aw_if_eq X dX6_layCuts_58 (tgt := 143) (by decide) g6 (fun hc => ?_) (fun hc => ?_)
      · replace h := h.1 hc
        refine aw_weak (als' := [some (.ref (ad (6, 0, 0))), some (.int (oI l1)), some (.int (oI l2)), none]) ⟨rfl, rfl, rfl, trivial⟩ ?_
        exact m_Mo_layCuts_143 X hR hret ih h
      · replace h := h.2 hc
        refine aw_aload_n X dX6_layCuts_61 rfl ?_
        refine aw_iload_n X dX6_layCuts_62 rfl ?_
        refine aw_aload_n X dX6_layCuts_63 rfl ?_
        refine aw_get X ob_6 fl_X6_63 rfl dX6_layCuts_64 ?_
        refine aw_iload_n X dX6_layCuts_67 rfl ?_
        obtain ⟨g7a, g7b, h⟩ := h
        refine aw_iald X ar_6_20 g7a g7b dX6_layCuts_68 ?_
        refine aw_iload_n X dX6_layCuts_69 rfl ?_
        refine aw_callVI X hR (s_Mo_meets l D ad tc X.2.2.2.2.2.2.1 h) ml_X6_168 ob_6 rfl (by decide) (by decide) rfl rfl rfl rfl (Nat.le_of_ble_eq_true rfl) rfl dX6_layCuts_70 (fun r8 σ8 h => ?_)
        obtain ⟨g9, h⟩ := h
        refine aw_if_eq X dX6_layCuts_73 (tgt := 143) (by decide) g9 (fun hc => ?_) (fun hc => ?_)
        · replace h := h.1 hc
          refine aw_weak (als' := [some (.ref (ad (6, 0, 0))), some (.int (oI l1)), some (.int (oI l2)), none]) ⟨rfl, rfl, rfl, trivial⟩ ?_
          exact m_Mo_layCuts_143 X hR hret ih h
        · replace h := h.2 hc
          refine aw_bipush X dX6_layCuts_76 rfl ?_
          refine aw_iconst X dX6_layCuts_78 ?_
          refine aw_aload_n X dX6_layCuts_79 rfl ?_
          refine aw_get X ob_6 fl_X6_63 rfl dX6_layCuts_80 ?_
          refine aw_iload_n X dX6_layCuts_83 rfl ?_
          obtain ⟨g10a, g10b, h⟩ := h
          refine aw_iald X ar_6_20 g10a g10b dX6_layCuts_84 ?_
          refine aw_imul X dX6_layCuts_85 ?_
          refine aw_aload_n X dX6_layCuts_86 rfl ?_
          refine aw_get X ob_6 fl_X6_66 rfl dX6_layCuts_87 ?_
          refine aw_iload_n X dX6_layCuts_90 rfl ?_
          obtain ⟨g11a, g11b, h⟩ := h
          refine aw_iald X ar_6_21 g11a g11b dX6_layCuts_91 ?_
          refine aw_iadd X dX6_layCuts_92 ?_
          refine aw_imul X dX6_layCuts_93 ?_
          refine aw_iload_n X dX6_layCuts_94 rfl ?_
          refine aw_iadd X dX6_layCuts_95 ?_
          refine aw_istore_n X dX6_layCuts_96 (Nat.le_of_ble_eq_true rfl) rfl ?_
          obtain ⟨x12, ex12⟩ : ∃ z : Int, z = ((64 * ((4 * (σ8 6 0 20 l1)) + (σ8 6 0 21 l1))) + l2) := ⟨_, rfl⟩
          replace h := h x12 ex12
          refine aw_als (als' := [some (.ref (ad (6, 0, 0))), some (.int (oI l1)), some (.int (oI l2)), some (.int (oI x12))]) (by subst ex12; rfl) ?_
          refine aw_aload_n X dX6_layCuts_97 rfl ?_
          refine aw_get X ob_6 fl_X6_60 rfl dX6_layCuts_98 ?_
          refine aw_iload_n X dX6_layCuts_101 rfl ?_
          obtain ⟨g13a, g13b, h⟩ := h
          refine aw_zald X ar_6_19 g13a g13b dX6_layCuts_102 ?_
          obtain ⟨g14, h⟩ := h
          refine aw_if_ne X dX6_layCuts_103 (tgt := 116) (by decide) g14 (fun hc => ?_) (fun hc => ?_)
          · replace h := h.1 hc
            refine aw_aload_n X dX6_layCuts_116 rfl ?_
            refine aw_get X ob_6 fl_X6_69 rfl dX6_layCuts_117 ?_
            refine aw_iload_n X dX6_layCuts_120 rfl ?_
            obtain ⟨g15a, g15b, h⟩ := h
            refine aw_iald X ar_6_22 g15a g15b dX6_layCuts_121 ?_
            refine aw_aload_n X dX6_layCuts_122 rfl ?_
            refine aw_get X ob_6 fl_X6_102 rfl dX6_layCuts_123 ?_
            refine aw_iload_n X dX6_layCuts_126 rfl ?_
            obtain ⟨g16a, g16b, h⟩ := h
            refine aw_iald X ar_6_39 g16a g16b dX6_layCuts_127 ?_
            obtain ⟨g17, h⟩ := h
            obtain ⟨g18, h⟩ := h
            refine aw_icmp_le X dX6_layCuts_128 (tgt := 143) (by decide) g17 g18 (fun hc => ?_) (fun hc => ?_)
            · replace h := h.1 hc
              refine aw_weak (als' := [some (.ref (ad (6, 0, 0))), some (.int (oI l1)), some (.int (oI l2)), none]) ⟨rfl, rfl, rfl, trivial⟩ ?_
              exact m_Mo_layCuts_143 X hR hret ih h
            · replace h := h.2 hc
              refine aw_aload_n X dX6_layCuts_131 rfl ?_
              refine aw_get X ob_6 fl_X6_102 rfl dX6_layCuts_132 ?_
              refine aw_iload_n X dX6_layCuts_135 rfl ?_
              refine aw_aload_n X dX6_layCuts_136 rfl ?_
              refine aw_get X ob_6 fl_X6_69 rfl dX6_layCuts_137 ?_
              refine aw_iload_n X dX6_layCuts_140 rfl ?_
              obtain ⟨g19a, g19b, h⟩ := h
              refine aw_iald X ar_6_22 g19a g19b dX6_layCuts_141 ?_
              obtain ⟨g20a, g20b, h⟩ := h
              refine aw_iast X ar_6_39 g20a g20b dX6_layCuts_142 ?_
              obtain ⟨σ20, eσ20⟩ : ∃ z : Mem, z = up σ8 6 0 39 x12 (σ8 6 0 22 l1) := ⟨_, rfl⟩
              replace h := h σ20 eσ20
              refine aw_mem eσ20 ?_
              refine aw_weak (als' := [some (.ref (ad (6, 0, 0))), some (.int (oI l1)), some (.int (oI l2)), none]) ⟨rfl, rfl, rfl, trivial⟩ ?_
              exact m_Mo_layCuts_143 X hR hret ih h
          · replace h := h.2 hc
            refine aw_aload_n X dX6_layCuts_106 rfl ?_
            refine aw_get X ob_6 fl_X6_99 rfl dX6_layCuts_107 ?_
            refine aw_iload_n X dX6_layCuts_110 rfl ?_
            refine aw_iconst X dX6_layCuts_111 ?_
            obtain ⟨g21a, g21b, h⟩ := h
            refine aw_zast X ar_6_38 g21a g21b (by decide) dX6_layCuts_112 ?_
            obtain ⟨σ21, eσ21⟩ : ∃ z : Mem, z = up σ8 6 0 38 x12 1 := ⟨_, rfl⟩
            replace h := h σ21 eσ21
            refine aw_mem eσ21 ?_
            refine aw_goto X dX6_layCuts_113 (tgt := 143) (by decide) ?_
            refine aw_weak (als' := [some (.ref (ad (6, 0, 0))), some (.int (oI l1)), some (.int (oI l2)), none]) ⟨rfl, rfl, rfl, trivial⟩ ?_
            exact m_Mo_layCuts_143 X hR hret ih h

set_option maxHeartbeats 4000000 in
set_option maxRecDepth 100000 in
theorem m_Mo_layCuts_31 {p : Program} {l : Launch} {e : Env} {R : Room} {s : State} {m : MethodId} {args : Array Value} {below : List Frame} {meth : Method} {c : Code} {D : va_G} {ad : Ky → Nat} {tc : Tc} {A : Nat → Prop} {cs sl : Nat} {Qm : State → Prop} (X : Cx p s m args c cX6_layCuts RX6 4 D ad tc A) (hR : RmOK R cs sl 2 49) {Q : Mem → Prop} (hret : RtV p l e R s m args below meth c D ad tc A cs sl Qm cX6_layCuts Q) : ∀ (n : Nat) (l1 : Int) (σ : Mem), Mo_layCuts_31 Q n l1 σ → AW p l e R s m args below meth c D ad tc A cs sl Qm 31 [some (.ref (ad (6, 0, 0))), some (.int (oI l1)), none, none] [] σ := by
  intro n
  induction n with
  | zero =>
    intro l1 σ h
    exact False.elim h
  | succ n ih =>
    intro l1 σ h
    unfold Mo_layCuts_31 at h
    refine aw_iload_n X dX6_layCuts_31 rfl ?_
    refine aw_aload_n X dX6_layCuts_32 rfl ?_
    refine aw_get X ob_6 fl_X6_124 rfl dX6_layCuts_33 ?_
    obtain ⟨g1, h⟩ := h
    obtain ⟨g2, h⟩ := h
    refine aw_icmp_ge X dX6_layCuts_36 (tgt := 155) (by decide) g1 g2 (fun hc => ?_) (fun hc => ?_)
    · replace h := h.1 hc
      exact hret 155 _ _ dX6_layCuts_155 h
    · replace h := h.2 hc
      refine aw_iconst X dX6_layCuts_39 ?_
      refine aw_istore_n X dX6_layCuts_40 (Nat.le_of_ble_eq_true rfl) rfl ?_
      refine aw_als (als' := [some (.ref (ad (6, 0, 0))), some (.int (oI l1)), some (.int (oI 0)), none]) rfl ?_
      refine aw_weak (als' := [some (.ref (ad (6, 0, 0))), some (.int (oI l1)), some (.int (oI 0)), none]) ⟨rfl, rfl, rfl, trivial⟩ ?_
      obtain ⟨n0, h⟩ := h
      exact m_Mo_layCuts_41 X hR hret ih n0 _ _ _ h

set_option maxHeartbeats 4000000 in
set_option maxRecDepth 100000 in
theorem m_Mo_layCuts_2 {p : Program} {l : Launch} {e : Env} {R : Room} {s : State} {m : MethodId} {args : Array Value} {below : List Frame} {meth : Method} {c : Code} {D : va_G} {ad : Ky → Nat} {tc : Tc} {A : Nat → Prop} {cs sl : Nat} {Qm : State → Prop} (X : Cx p s m args c cX6_layCuts RX6 4 D ad tc A) (hR : RmOK R cs sl 2 49) {Q : Mem → Prop} (hret : RtV p l e R s m args below meth c D ad tc A cs sl Qm cX6_layCuts Q) : ∀ (n : Nat) (l1 : Int) (σ : Mem), Mo_layCuts_2 Q n l1 σ → AW p l e R s m args below meth c D ad tc A cs sl Qm 2 [some (.ref (ad (6, 0, 0))), some (.int (oI l1)), none, none] [] σ := by
  intro n
  induction n with
  | zero =>
    intro l1 σ h
    exact False.elim h
  | succ n ih =>
    intro l1 σ h
    unfold Mo_layCuts_2 at h
    refine aw_iload_n X dX6_layCuts_2 rfl ?_
    refine aw_sipush X dX6_layCuts_3 rfl ?_
    obtain ⟨g1, h⟩ := h
    refine aw_icmp_ge X dX6_layCuts_6 (tgt := 29) (by decide) g1 ⟨by decide, by decide⟩ (fun hc => ?_) (fun hc => ?_)
    · replace h := h.1 hc
      refine aw_iconst X dX6_layCuts_29 ?_
      refine aw_istore_n X dX6_layCuts_30 (Nat.le_of_ble_eq_true rfl) rfl ?_
      refine aw_als (als' := [some (.ref (ad (6, 0, 0))), some (.int (oI 0)), none, none]) rfl ?_
      refine aw_weak (als' := [some (.ref (ad (6, 0, 0))), some (.int (oI 0)), none, none]) ⟨rfl, rfl, trivial⟩ ?_
      obtain ⟨n0, h⟩ := h
      exact m_Mo_layCuts_31 X hR hret n0 _ _ h
    · replace h := h.2 hc
      refine aw_aload_n X dX6_layCuts_9 rfl ?_
      refine aw_get X ob_6 fl_X6_99 rfl dX6_layCuts_10 ?_
      refine aw_iload_n X dX6_layCuts_13 rfl ?_
      refine aw_iconst X dX6_layCuts_14 ?_
      obtain ⟨g3a, g3b, h⟩ := h
      refine aw_zast X ar_6_38 g3a g3b (by decide) dX6_layCuts_15 ?_
      obtain ⟨σ3, eσ3⟩ : ∃ z : Mem, z = up σ 6 0 38 l1 0 := ⟨_, rfl⟩
      replace h := h σ3 eσ3
      refine aw_mem eσ3 ?_
      refine aw_aload_n X dX6_layCuts_16 rfl ?_
      refine aw_get X ob_6 fl_X6_102 rfl dX6_layCuts_17 ?_
      refine aw_iload_n X dX6_layCuts_20 rfl ?_
      refine aw_iconst X dX6_layCuts_21 ?_
      obtain ⟨g4a, g4b, h⟩ := h
      refine aw_iast X ar_6_39 g4a g4b dX6_layCuts_22 ?_
      obtain ⟨σ4, eσ4⟩ : ∃ z : Mem, z = up σ3 6 0 39 l1 0 := ⟨_, rfl⟩
      replace h := h σ4 eσ4
      refine aw_mem eσ4 ?_
      refine aw_iinc X dX6_layCuts_23 rfl rfl ?_
      obtain ⟨x5, ex5⟩ : ∃ z : Int, z = (l1 + 1) := ⟨_, rfl⟩
      replace h := h x5 ex5
      refine aw_als (als' := [some (.ref (ad (6, 0, 0))), some (.int (oI x5)), none, none]) (by subst ex5; rfl) ?_
      refine aw_goto X dX6_layCuts_26 (tgt := 2) (by decide) ?_
      refine aw_weak (als' := [some (.ref (ad (6, 0, 0))), some (.int (oI x5)), none, none]) ⟨rfl, rfl, trivial⟩ ?_
      exact ih _ _ h

set_option maxHeartbeats 4000000 in
set_option maxRecDepth 100000 in
theorem m_Mo_layCuts_0 {p : Program} {l : Launch} {e : Env} {R : Room} {s : State} {m : MethodId} {args : Array Value} {below : List Frame} {meth : Method} {c : Code} {D : va_G} {ad : Ky → Nat} {tc : Tc} {A : Nat → Prop} {cs sl : Nat} {Qm : State → Prop} (X : Cx p s m args c cX6_layCuts RX6 4 D ad tc A) (hR : RmOK R cs sl 2 49) {Q : Mem → Prop} (hret : RtV p l e R s m args below meth c D ad tc A cs sl Qm cX6_layCuts Q) {σ : Mem} (h : Mo_layCuts σ Q) : AW p l e R s m args below meth c D ad tc A cs sl Qm 0 [some (.ref (ad (6, 0, 0))), none, none, none] [] σ := by
  unfold Mo_layCuts at h
  refine aw_iconst X dX6_layCuts_0 ?_
  refine aw_istore_n X dX6_layCuts_1 (Nat.le_of_ble_eq_true rfl) rfl ?_
  refine aw_als (als' := [some (.ref (ad (6, 0, 0))), some (.int (oI 0)), none, none]) rfl ?_
  refine aw_weak (als' := [some (.ref (ad (6, 0, 0))), some (.int (oI 0)), none, none]) ⟨rfl, rfl, trivial⟩ ?_
  obtain ⟨n0, h⟩ := h
  exact m_Mo_layCuts_2 X hR hret n0 _ _ h
theorem s_Mo_layCuts (l : Launch) (D : va_G) (ad : Ky → Nat) (tc : Tc) (hi : adI ad) {σ : Mem} {Q : Mem → Prop} (h : Mo_layCuts σ Q) : CtV l D ad tc yX6_layCuts cX6_layCuts 4 none { frames := 2, cells := 0, slots := 0, locals := 49 } [.ref (ad (6, 0, 0))] σ Q := CtV.mk (by decide +kernel) hi (Nat.le_of_ble_eq_true rfl) rfl (fun p e s m args below meth c A Qm X hR hret => m_Mo_layCuts_0 X hR hret h)

set_option maxHeartbeats 4000000 in
set_option maxRecDepth 100000 in
theorem m_Mo_isTrue_113 {p : Program} {l : Launch} {e : Env} {R : Room} {s : State} {m : MethodId} {args : Array Value} {below : List Frame} {meth : Method} {c : Code} {D : va_G} {ad : Ky → Nat} {tc : Tc} {A : Nat → Prop} {cs sl : Nat} {Qm : State → Prop} (X : Cx p s m args c cX6_isTrue RX6 10 D ad tc A) (hR : RmOK R cs sl 2 51) {Q : Int → Mem → Prop} (hret : RtZ p l e R s m args below meth c D ad tc A cs sl Qm cX6_isTrue Q) {k3 : Int → Int → Int → Int → Int → Int → Int → Mem → Prop} (hk3 : ∀ (l1 : Int) (l2 : Int) (l3 : Int) (l4 : Int) (l5 : Int) (l6 : Int) (l7 : Int) (σ : Mem), k3 l1 l2 l3 l4 l5 l6 l7 σ → AW p l e R s m args below meth c D ad tc A cs sl Qm 3 [some (.ref (ad (6, 0, 0))), some (.int (oI l1)), some (.int (oI l2)), some (.int (oI l3)), some (.int (oI l4)), some (.int (oI l5)), some (.int (oI l6)), some (.int (oI l7)), none, none] [] σ) {l1 : Int} {l2 : Int} {l3 : Int} {l4 : Int} {l5 : Int} {l6 : Int} {l7 : Int} {σ : Mem} (h : Mo_isTrue_113 k3 Q l1 l2 l3 l4 l5 l6 l7 σ) : AW p l e R s m args below meth c D ad tc A cs sl Qm 113 [some (.ref (ad (6, 0, 0))), some (.int (oI l1)), some (.int (oI l2)), some (.int (oI l3)), some (.int (oI l4)), some (.int (oI l5)), some (.int (oI l6)), some (.int (oI l7)), none, none] [] σ := by
  unfold Mo_isTrue_113 at h
  refine aw_iinc X dX6_isTrue_113 rfl rfl ?_
  obtain ⟨x1, ex1⟩ : ∃ z : Int, z = (l7 + 1) := ⟨_, rfl⟩
  replace h := h x1 ex1
  refine aw_als (als' := [some (.ref (ad (6, 0, 0))), some (.int (oI l1)), some (.int (oI l2)), some (.int (oI l3)), some (.int (oI l4)), some (.int (oI l5)), some (.int (oI l6)), some (.int (oI x1)), none, none]) (by subst ex1; rfl) ?_
  refine aw_goto X dX6_isTrue_116 (tgt := 3) (by decide) ?_
  refine aw_weak (als' := [some (.ref (ad (6, 0, 0))), some (.int (oI l1)), some (.int (oI l2)), some (.int (oI l3)), some (.int (oI l4)), some (.int (oI l5)), some (.int (oI l6)), some (.int (oI x1)), none, none]) ⟨rfl, rfl, rfl, rfl, rfl, rfl, rfl, rfl, trivial⟩ ?_
  exact hk3 _ _ _ _ _ _ _ _ h

set_option maxHeartbeats 4000000 in
set_option maxRecDepth 100000 in
theorem m_Mo_isTrue_111 {p : Program} {l : Launch} {e : Env} {R : Room} {s : State} {m : MethodId} {args : Array Value} {below : List Frame} {meth : Method} {c : Code} {D : va_G} {ad : Ky → Nat} {tc : Tc} {A : Nat → Prop} {cs sl : Nat} {Qm : State → Prop} (X : Cx p s m args c cX6_isTrue RX6 10 D ad tc A) (hR : RmOK R cs sl 2 51) {Q : Int → Mem → Prop} (hret : RtZ p l e R s m args below meth c D ad tc A cs sl Qm cX6_isTrue Q) {σ : Mem} (h : Mo_isTrue_111 Q σ) : AW p l e R s m args below meth c D ad tc A cs sl Qm 111 [none, none, none, none, none, none, none, none, none, none] [] σ := by
  unfold Mo_isTrue_111 at h
  refine aw_iconst X dX6_isTrue_111 ?_
  exact hret 112 _ _ _ dX6_isTrue_112 (by decide) h

set_option maxHeartbeats 4000000 in
set_option maxRecDepth 100000 in
theorem m_Mo_isTrue_69 {p : Program} {l : Launch} {e : Env} {R : Room} {s : State} {m : MethodId} {args : Array Value} {below : List Frame} {meth : Method} {c : Code} {D : va_G} {ad : Ky → Nat} {tc : Tc} {A : Nat → Prop} {cs sl : Nat} {Qm : State → Prop} (X : Cx p s m args c cX6_isTrue RX6 10 D ad tc A) (hR : RmOK R cs sl 2 51) {Q : Int → Mem → Prop} (hret : RtZ p l e R s m args below meth c D ad tc A cs sl Qm cX6_isTrue Q) {k22 : Int → Int → Int → Int → Int → Int → Int → Int → Int → Mem → Prop} (hk22 : ∀ (l1 : Int) (l2 : Int) (l3 : Int) (l4 : Int) (l5 : Int) (l6 : Int) (l7 : Int) (l8 : Int) (l9 : Int) (σ : Mem), k22 l1 l2 l3 l4 l5 l6 l7 l8 l9 σ → AW p l e R s m args below meth c D ad tc A cs sl Qm 22 [some (.ref (ad (6, 0, 0))), some (.int (oI l1)), some (.int (oI l2)), some (.int (oI l3)), some (.int (oI l4)), some (.int (oI l5)), some (.int (oI l6)), some (.int (oI l7)), some (.int (oI l8)), some (.int (oI l9))] [] σ) {l1 : Int} {l2 : Int} {l3 : Int} {l4 : Int} {l5 : Int} {l6 : Int} {l7 : Int} {l9 : Int} {s0 : Int} {σ : Mem} (h : Mo_isTrue_69 k22 Q l1 l2 l3 l4 l5 l6 l7 l9 s0 σ) : AW p l e R s m args below meth c D ad tc A cs sl Qm 69 [some (.ref (ad (6, 0, 0))), some (.int (oI l1)), some (.int (oI l2)), some (.int (oI l3)), some (.int (oI l4)), some (.int (oI l5)), some (.int (oI l6)), some (.int (oI l7)), none, some (.int (oI l9))] [.int (oI s0)] σ := by
  unfold Mo_isTrue_69 at h
  refine aw_istore X dX6_isTrue_69 (Nat.le_of_ble_eq_true rfl) rfl ?_
  refine aw_als (als' := [some (.ref (ad (6, 0, 0))), some (.int (oI l1)), some (.int (oI l2)), some (.int (oI l3)), some (.int (oI l4)), some (.int (oI l5)), some (.int (oI l6)), some (.int (oI l7)), some (.int (oI s0)), some (.int (oI l9))]) rfl ?_
  refine aw_iinc X dX6_isTrue_71 rfl rfl ?_
  obtain ⟨x1, ex1⟩ : ∃ z : Int, z = (l9 + 1) := ⟨_, rfl⟩
  replace h := h x1 ex1
  refine aw_als (als' := [some (.ref (ad (6, 0, 0))), some (.int (oI l1)), some (.int (oI l2)), some (.int (oI l3)), some (.int (oI l4)), some (.int (oI l5)), some (.int (oI l6)), some (.int (oI l7)), some (.int (oI s0)), some (.int (oI x1))]) (by subst ex1; rfl) ?_
  refine aw_goto X dX6_isTrue_74 (tgt := 22) (by decide) ?_
  refine aw_weak (als' := [some (.ref (ad (6, 0, 0))), some (.int (oI l1)), some (.int (oI l2)), some (.int (oI l3)), some (.int (oI l4)), some (.int (oI l5)), some (.int (oI l6)), some (.int (oI l7)), some (.int (oI s0)), some (.int (oI x1))]) ⟨rfl, rfl, rfl, rfl, rfl, rfl, rfl, rfl, rfl, rfl, trivial⟩ ?_
  exact hk22 _ _ _ _ _ _ _ _ _ _ h

set_option maxHeartbeats 4000000 in
set_option maxRecDepth 100000 in
theorem m_Mo_isTrue_68 {p : Program} {l : Launch} {e : Env} {R : Room} {s : State} {m : MethodId} {args : Array Value} {below : List Frame} {meth : Method} {c : Code} {D : va_G} {ad : Ky → Nat} {tc : Tc} {A : Nat → Prop} {cs sl : Nat} {Qm : State → Prop} (X : Cx p s m args c cX6_isTrue RX6 10 D ad tc A) (hR : RmOK R cs sl 2 51) {Q : Int → Mem → Prop} (hret : RtZ p l e R s m args below meth c D ad tc A cs sl Qm cX6_isTrue Q) {k22 : Int → Int → Int → Int → Int → Int → Int → Int → Int → Mem → Prop} (hk22 : ∀ (l1 : Int) (l2 : Int) (l3 : Int) (l4 : Int) (l5 : Int) (l6 : Int) (l7 : Int) (l8 : Int) (l9 : Int) (σ : Mem), k22 l1 l2 l3 l4 l5 l6 l7 l8 l9 σ → AW p l e R s m args below meth c D ad tc A cs sl Qm 22 [some (.ref (ad (6, 0, 0))), some (.int (oI l1)), some (.int (oI l2)), some (.int (oI l3)), some (.int (oI l4)), some (.int (oI l5)), some (.int (oI l6)), some (.int (oI l7)), some (.int (oI l8)), some (.int (oI l9))] [] σ) {l1 : Int} {l2 : Int} {l3 : Int} {l4 : Int} {l5 : Int} {l6 : Int} {l7 : Int} {l9 : Int} {σ : Mem} (h : Mo_isTrue_68 k22 Q l1 l2 l3 l4 l5 l6 l7 l9 σ) : AW p l e R s m args below meth c D ad tc A cs sl Qm 68 [some (.ref (ad (6, 0, 0))), some (.int (oI l1)), some (.int (oI l2)), some (.int (oI l3)), some (.int (oI l4)), some (.int (oI l5)), some (.int (oI l6)), some (.int (oI l7)), none, some (.int (oI l9))] [] σ := by
  unfold Mo_isTrue_68 at h
  refine aw_iconst X dX6_isTrue_68 ?_
  refine aw_weak (als' := [some (.ref (ad (6, 0, 0))), some (.int (oI l1)), some (.int (oI l2)), some (.int (oI l3)), some (.int (oI l4)), some (.int (oI l5)), some (.int (oI l6)), some (.int (oI l7)), none, some (.int (oI l9))]) ⟨rfl, rfl, rfl, rfl, rfl, rfl, rfl, rfl, rfl, trivial⟩ ?_
  exact m_Mo_isTrue_69 X hR hret hk22 h

set_option maxHeartbeats 4000000 in
set_option maxRecDepth 100000 in
theorem m_Mo_isTrue_64 {p : Program} {l : Launch} {e : Env} {R : Room} {s : State} {m : MethodId} {args : Array Value} {below : List Frame} {meth : Method} {c : Code} {D : va_G} {ad : Ky → Nat} {tc : Tc} {A : Nat → Prop} {cs sl : Nat} {Qm : State → Prop} (X : Cx p s m args c cX6_isTrue RX6 10 D ad tc A) (hR : RmOK R cs sl 2 51) {Q : Int → Mem → Prop} (hret : RtZ p l e R s m args below meth c D ad tc A cs sl Qm cX6_isTrue Q) {k22 : Int → Int → Int → Int → Int → Int → Int → Int → Int → Mem → Prop} (hk22 : ∀ (l1 : Int) (l2 : Int) (l3 : Int) (l4 : Int) (l5 : Int) (l6 : Int) (l7 : Int) (l8 : Int) (l9 : Int) (σ : Mem), k22 l1 l2 l3 l4 l5 l6 l7 l8 l9 σ → AW p l e R s m args below meth c D ad tc A cs sl Qm 22 [some (.ref (ad (6, 0, 0))), some (.int (oI l1)), some (.int (oI l2)), some (.int (oI l3)), some (.int (oI l4)), some (.int (oI l5)), some (.int (oI l6)), some (.int (oI l7)), some (.int (oI l8)), some (.int (oI l9))] [] σ) {l1 : Int} {l2 : Int} {l3 : Int} {l4 : Int} {l5 : Int} {l6 : Int} {l7 : Int} {l9 : Int} {σ : Mem} (h : Mo_isTrue_64 k22 Q l1 l2 l3 l4 l5 l6 l7 l9 σ) : AW p l e R s m args below meth c D ad tc A cs sl Qm 64 [some (.ref (ad (6, 0, 0))), some (.int (oI l1)), some (.int (oI l2)), some (.int (oI l3)), some (.int (oI l4)), some (.int (oI l5)), some (.int (oI l6)), some (.int (oI l7)), none, some (.int (oI l9))] [] σ := by
  unfold Mo_isTrue_64 at h
  refine aw_iconst X dX6_isTrue_64 ?_
  refine aw_goto X dX6_isTrue_65 (tgt := 69) (by decide) ?_
  refine aw_weak (als' := [some (.ref (ad (6, 0, 0))), some (.int (oI l1)), some (.int (oI l2)), some (.int (oI l3)), some (.int (oI l4)), some (.int (oI l5)), some (.int (oI l6)), some (.int (oI l7)), none, some (.int (oI l9))]) ⟨rfl, rfl, rfl, rfl, rfl, rfl, rfl, rfl, rfl, trivial⟩ ?_
  exact m_Mo_isTrue_69 X hR hret hk22 h

set_option maxHeartbeats 4000000 in
set_option maxRecDepth 100000 in
theorem m_Mo_isTrue_22 {p : Program} {l : Launch} {e : Env} {R : Room} {s : State} {m : MethodId} {args : Array Value} {below : List Frame} {meth : Method} {c : Code} {D : va_G} {ad : Ky → Nat} {tc : Tc} {A : Nat → Prop} {cs sl : Nat} {Qm : State → Prop} (X : Cx p s m args c cX6_isTrue RX6 10 D ad tc A) (hR : RmOK R cs sl 2 51) {Q : Int → Mem → Prop} (hret : RtZ p l e R s m args below meth c D ad tc A cs sl Qm cX6_isTrue Q) {k3 : Int → Int → Int → Int → Int → Int → Int → Mem → Prop} (hk3 : ∀ (l1 : Int) (l2 : Int) (l3 : Int) (l4 : Int) (l5 : Int) (l6 : Int) (l7 : Int) (σ : Mem), k3 l1 l2 l3 l4 l5 l6 l7 σ → AW p l e R s m args below meth c D ad tc A cs sl Qm 3 [some (.ref (ad (6, 0, 0))), some (.int (oI l1)), some (.int (oI l2)), some (.int (oI l3)), some (.int (oI l4)), some (.int (oI l5)), some (.int (oI l6)), some (.int (oI l7)), none, none] [] σ) : ∀ (n : Nat) (l1 : Int) (l2 : Int) (l3 : Int) (l4 : Int) (l5 : Int) (l6 : Int) (l7 : Int) (l8 : Int) (l9 : Int) (σ : Mem), Mo_isTrue_22 k3 Q n l1 l2 l3 l4 l5 l6 l7 l8 l9 σ → AW p l e R s m args below meth c D ad tc A cs sl Qm 22 [some (.ref (ad (6, 0, 0))), some (.int (oI l1)), some (.int (oI l2)), some (.int (oI l3)), some (.int (oI l4)), some (.int (oI l5)), some (.int (oI l6)), some (.int (oI l7)), some (.int (oI l8)), some (.int (oI l9))] [] σ := by
  intro n
  induction n with
  | zero =>
    intro l1 l2 l3 l4 l5 l6 l7 l8 l9 σ h
    exact False.elim h
  | succ n ih =>
    intro l1 l2 l3 l4 l5 l6 l7 l8 l9 σ h
    unfold Mo_isTrue_22 at h
    refine aw_iload X dX6_isTrue_22 rfl ?_
    refine aw_aload_n X dX6_isTrue_24 rfl ?_
    refine aw_get X ob_6 fl_X6_30 rfl dX6_isTrue_25 ?_
    refine aw_iload_n X dX6_isTrue_28 rfl ?_
    obtain ⟨g1a, g1b, h⟩ := h
    refine aw_iald X ar_6_8 g1a g1b dX6_isTrue_29 ?_
    obtain ⟨g2, h⟩ := h
    obtain ⟨g3, h⟩ := h
    refine aw_icmp_ge X dX6_isTrue_30 (tgt := 77) (by decide) g2 g3 (fun hc => ?_) (fun hc => ?_)
    · replace h := h.1 hc
      refine aw_iload X dX6_isTrue_77 rfl ?_
      obtain ⟨g4, h⟩ := h
      refine aw_if_eq X dX6_isTrue_79 (tgt := 113) (by decide) g4 (fun hc => ?_) (fun hc => ?_)
      · replace h := h.1 hc
        refine aw_weak (als' := [some (.ref (ad (6, 0, 0))), some (.int (oI l1)), some (.int (oI l2)), some (.int (oI l3)), some (.int (oI l4)), some (.int (oI l5)), some (.int (oI l6)), some (.int (oI l7)), none, none]) ⟨rfl, rfl, rfl, rfl, rfl, rfl, rfl, rfl, trivial⟩ ?_
        exact m_Mo_isTrue_113 X hR hret hk3 h
      · replace h := h.2 hc
        refine aw_aload_n X dX6_isTrue_82 rfl ?_
        refine aw_iload_n X dX6_isTrue_83 rfl ?_
        refine aw_iload X dX6_isTrue_84 rfl ?_
        refine aw_iload_n X dX6_isTrue_86 rfl ?_
        refine aw_callVI X hR (s_Mo_answerTo l D ad tc X.2.2.2.2.2.2.1 h) ml_X6_171 ob_6 rfl (by decide) (by decide) rfl rfl rfl rfl (Nat.le_of_ble_eq_true rfl) rfl dX6_isTrue_87 (fun r5 σ5 h => ?_)
        refine aw_istore X dX6_isTrue_90 (Nat.le_of_ble_eq_true rfl) rfl ?_
        refine aw_als (als' := [some (.ref (ad (6, 0, 0))), some (.int (oI l1)), some (.int (oI l2)), some (.int (oI l3)), some (.int (oI l4)), some (.int (oI l5)), some (.int (oI l6)), some (.int (oI l7)), some (.int (oI l8)), some (.int (oI r5))]) rfl ?_
        refine aw_iload X dX6_isTrue_92 rfl ?_
        refine aw_bipush X dX6_isTrue_94 rfl ?_
        obtain ⟨g6, h⟩ := h
        refine aw_icmp_eq X dX6_isTrue_96 (tgt := 113) (by decide) g6 ⟨by decide, by decide⟩ (fun hc => ?_) (fun hc => ?_)
        · replace h := h.1 hc
          refine aw_weak (als' := [some (.ref (ad (6, 0, 0))), some (.int (oI l1)), some (.int (oI l2)), some (.int (oI l3)), some (.int (oI l4)), some (.int (oI l5)), some (.int (oI l6)), some (.int (oI l7)), none, none]) ⟨rfl, rfl, rfl, rfl, rfl, rfl, rfl, rfl, trivial⟩ ?_
          exact m_Mo_isTrue_113 X hR hret hk3 h
        · replace h := h.2 hc
          refine aw_iload X dX6_isTrue_99 rfl ?_
          obtain ⟨g8, h⟩ := h
          refine aw_if_eq X dX6_isTrue_101 (tgt := 111) (by decide) g8 (fun hc => ?_) (fun hc => ?_)
          · replace h := h.1 hc
            refine aw_weak (als' := [none, none, none, none, none, none, none, none, none, none]) trivial ?_
            exact m_Mo_isTrue_111 X hR hret h
          · replace h := h.2 hc
            refine aw_iload X dX6_isTrue_104 rfl ?_
            refine aw_iload X dX6_isTrue_106 rfl ?_
            obtain ⟨g9, h⟩ := h
            obtain ⟨g10, h⟩ := h
            refine aw_icmp_ge X dX6_isTrue_108 (tgt := 113) (by decide) g9 g10 (fun hc => ?_) (fun hc => ?_)
            · replace h := h.1 hc
              refine aw_weak (als' := [some (.ref (ad (6, 0, 0))), some (.int (oI l1)), some (.int (oI l2)), some (.int (oI l3)), some (.int (oI l4)), some (.int (oI l5)), some (.int (oI l6)), some (.int (oI l7)), none, none]) ⟨rfl, rfl, rfl, rfl, rfl, rfl, rfl, rfl, trivial⟩ ?_
              exact m_Mo_isTrue_113 X hR hret hk3 h
            · replace h := h.2 hc
              refine aw_weak (als' := [none, none, none, none, none, none, none, none, none, none]) trivial ?_
              exact m_Mo_isTrue_111 X hR hret h
    · replace h := h.2 hc
      refine aw_iload X dX6_isTrue_33 rfl ?_
      obtain ⟨g11, h⟩ := h
      refine aw_if_eq X dX6_isTrue_35 (tgt := 68) (by decide) g11 (fun hc => ?_) (fun hc => ?_)
      · replace h := h.1 hc
        refine aw_weak (als' := [some (.ref (ad (6, 0, 0))), some (.int (oI l1)), some (.int (oI l2)), some (.int (oI l3)), some (.int (oI l4)), some (.int (oI l5)), some (.int (oI l6)), some (.int (oI l7)), none, some (.int (oI l9))]) ⟨rfl, rfl, rfl, rfl, rfl, rfl, rfl, rfl, rfl, trivial⟩ ?_
        exact m_Mo_isTrue_68 X hR hret ih h
      · replace h := h.2 hc
        refine aw_iload X dX6_isTrue_38 rfl ?_
        refine aw_iload X dX6_isTrue_40 rfl ?_
        refine aw_ishr X dX6_isTrue_42 ?_
        refine aw_iconst X dX6_isTrue_43 ?_
        refine aw_iand X dX6_isTrue_44 ?_
        obtain ⟨g12, h⟩ := h
        refine aw_if_eq X dX6_isTrue_45 (tgt := 64) (by decide) g12 (fun hc => ?_) (fun hc => ?_)
        · replace h := h.1 hc
          refine aw_weak (als' := [some (.ref (ad (6, 0, 0))), some (.int (oI l1)), some (.int (oI l2)), some (.int (oI l3)), some (.int (oI l4)), some (.int (oI l5)), some (.int (oI l6)), some (.int (oI l7)), none, some (.int (oI l9))]) ⟨rfl, rfl, rfl, rfl, rfl, rfl, rfl, rfl, rfl, trivial⟩ ?_
          exact m_Mo_isTrue_64 X hR hret ih h
        · replace h := h.2 hc
          refine aw_iload X dX6_isTrue_48 rfl ?_
          refine aw_iload X dX6_isTrue_50 rfl ?_
          refine aw_callSI X hR (s_Mo_figure l D ad tc X.2.2.2.2.2.2.1 h) ms_X6_162 (by decide) (by decide) rfl rfl rfl rfl (Nat.le_of_ble_eq_true rfl) rfl dX6_isTrue_52 (fun r13 σ13 h => ?_)
          refine aw_iload_n X dX6_isTrue_55 rfl ?_
          refine aw_iload X dX6_isTrue_56 rfl ?_
          refine aw_callSI X hR (s_Mo_figure l D ad tc X.2.2.2.2.2.2.1 h) ms_X6_162 (by decide) (by decide) rfl rfl rfl rfl (Nat.le_of_ble_eq_true rfl) rfl dX6_isTrue_58 (fun r14 σ14 h => ?_)
          obtain ⟨g15, h⟩ := h
          obtain ⟨g16, h⟩ := h
          refine aw_icmp_ne X dX6_isTrue_61 (tgt := 68) (by decide) g15 g16 (fun hc => ?_) (fun hc => ?_)
          · replace h := h.1 hc
            refine aw_weak (als' := [some (.ref (ad (6, 0, 0))), some (.int (oI l1)), some (.int (oI l2)), some (.int (oI l3)), some (.int (oI l4)), some (.int (oI l5)), some (.int (oI l6)), some (.int (oI l7)), none, some (.int (oI l9))]) ⟨rfl, rfl, rfl, rfl, rfl, rfl, rfl, rfl, rfl, trivial⟩ ?_
            exact m_Mo_isTrue_68 X hR hret ih h
          · replace h := h.2 hc
            refine aw_weak (als' := [some (.ref (ad (6, 0, 0))), some (.int (oI l1)), some (.int (oI l2)), some (.int (oI l3)), some (.int (oI l4)), some (.int (oI l5)), some (.int (oI l6)), some (.int (oI l7)), none, some (.int (oI l9))]) ⟨rfl, rfl, rfl, rfl, rfl, rfl, rfl, rfl, rfl, trivial⟩ ?_
            exact m_Mo_isTrue_64 X hR hret ih h

set_option maxHeartbeats 4000000 in
set_option maxRecDepth 100000 in
theorem m_Mo_isTrue_3 {p : Program} {l : Launch} {e : Env} {R : Room} {s : State} {m : MethodId} {args : Array Value} {below : List Frame} {meth : Method} {c : Code} {D : va_G} {ad : Ky → Nat} {tc : Tc} {A : Nat → Prop} {cs sl : Nat} {Qm : State → Prop} (X : Cx p s m args c cX6_isTrue RX6 10 D ad tc A) (hR : RmOK R cs sl 2 51) {Q : Int → Mem → Prop} (hret : RtZ p l e R s m args below meth c D ad tc A cs sl Qm cX6_isTrue Q) : ∀ (n : Nat) (l1 : Int) (l2 : Int) (l3 : Int) (l4 : Int) (l5 : Int) (l6 : Int) (l7 : Int) (σ : Mem), Mo_isTrue_3 Q n l1 l2 l3 l4 l5 l6 l7 σ → AW p l e R s m args below meth c D ad tc A cs sl Qm 3 [some (.ref (ad (6, 0, 0))), some (.int (oI l1)), some (.int (oI l2)), some (.int (oI l3)), some (.int (oI l4)), some (.int (oI l5)), some (.int (oI l6)), some (.int (oI l7)), none, none] [] σ := by
  intro n
  induction n with
  | zero =>
    intro l1 l2 l3 l4 l5 l6 l7 σ h
    exact False.elim h
  | succ n ih =>
    intro l1 l2 l3 l4 l5 l6 l7 σ h
    unfold Mo_isTrue_3 at h
    refine aw_iload X dX6_isTrue_3 rfl ?_
    refine aw_bipush X dX6_isTrue_5 rfl ?_
    obtain ⟨g1, h⟩ := h
    refine aw_icmp_ge X dX6_isTrue_7 (tgt := 119) (by decide) g1 ⟨by decide, by decide⟩ (fun hc => ?_) (fun hc => ?_)
    · replace h := h.1 hc
      refine aw_iconst X dX6_isTrue_119 ?_
      exact hret 120 _ _ _ dX6_isTrue_120 (by decide) h
    · replace h := h.2 hc
      refine aw_aload_n X dX6_isTrue_10 rfl ?_
      refine aw_iload_n X dX6_isTrue_11 rfl ?_
      refine aw_iload X dX6_isTrue_12 rfl ?_
      refine aw_callVI X hR (s_Mo_isCode l D ad tc X.2.2.2.2.2.2.1 h) ml_X6_165 ob_6 rfl (by decide) (by decide) rfl rfl rfl rfl (Nat.le_of_ble_eq_true rfl) rfl dX6_isTrue_14 (fun r3 σ3 h => ?_)
      refine aw_istore X dX6_isTrue_17 (Nat.le_of_ble_eq_true rfl) rfl ?_
      refine aw_als (als' := [some (.ref (ad (6, 0, 0))), some (.int (oI l1)), some (.int (oI l2)), some (.int (oI l3)), some (.int (oI l4)), some (.int (oI l5)), some (.int (oI l6)), some (.int (oI l7)), some (.int (oI r3)), none]) rfl ?_
      refine aw_iconst X dX6_isTrue_19 ?_
      refine aw_istore X dX6_isTrue_20 (Nat.le_of_ble_eq_true rfl) rfl ?_
      refine aw_als (als' := [some (.ref (ad (6, 0, 0))), some (.int (oI l1)), some (.int (oI l2)), some (.int (oI l3)), some (.int (oI l4)), some (.int (oI l5)), some (.int (oI l6)), some (.int (oI l7)), some (.int (oI r3)), some (.int (oI 0))]) rfl ?_
      refine aw_weak (als' := [some (.ref (ad (6, 0, 0))), some (.int (oI l1)), some (.int (oI l2)), some (.int (oI l3)), some (.int (oI l4)), some (.int (oI l5)), some (.int (oI l6)), some (.int (oI l7)), some (.int (oI r3)), some (.int (oI 0))]) ⟨rfl, rfl, rfl, rfl, rfl, rfl, rfl, rfl, rfl, rfl, trivial⟩ ?_
      obtain ⟨n0, h⟩ := h
      exact m_Mo_isTrue_22 X hR hret ih n0 _ _ _ _ _ _ _ _ _ _ h

set_option maxHeartbeats 4000000 in
set_option maxRecDepth 100000 in
theorem m_Mo_isTrue_0 {p : Program} {l : Launch} {e : Env} {R : Room} {s : State} {m : MethodId} {args : Array Value} {below : List Frame} {meth : Method} {c : Code} {D : va_G} {ad : Ky → Nat} {tc : Tc} {A : Nat → Prop} {cs sl : Nat} {Qm : State → Prop} (X : Cx p s m args c cX6_isTrue RX6 10 D ad tc A) (hR : RmOK R cs sl 2 51) {Q : Int → Mem → Prop} (hret : RtZ p l e R s m args below meth c D ad tc A cs sl Qm cX6_isTrue Q) {l1 : Int} {l2 : Int} {l3 : Int} {l4 : Int} {l5 : Int} {l6 : Int} {σ : Mem} (h : Mo_isTrue l1 l2 l3 l4 l5 l6 σ Q) : AW p l e R s m args below meth c D ad tc A cs sl Qm 0 [some (.ref (ad (6, 0, 0))), some (.int (oI l1)), some (.int (oI l2)), some (.int (oI l3)), some (.int (oI l4)), some (.int (oI l5)), some (.int (oI l6)), none, none, none] [] σ := by
  unfold Mo_isTrue at h
  refine aw_iconst X dX6_isTrue_0 ?_
  refine aw_istore X dX6_isTrue_1 (Nat.le_of_ble_eq_true rfl) rfl ?_
  refine aw_als (als' := [some (.ref (ad (6, 0, 0))), some (.int (oI l1)), some (.int (oI l2)), some (.int (oI l3)), some (.int (oI l4)), some (.int (oI l5)), some (.int (oI l6)), some (.int (oI 0)), none, none]) rfl ?_
  refine aw_weak (als' := [some (.ref (ad (6, 0, 0))), some (.int (oI l1)), some (.int (oI l2)), some (.int (oI l3)), some (.int (oI l4)), some (.int (oI l5)), some (.int (oI l6)), some (.int (oI 0)), none, none]) ⟨rfl, rfl, rfl, rfl, rfl, rfl, rfl, rfl, trivial⟩ ?_
  obtain ⟨n0, h⟩ := h
  exact m_Mo_isTrue_3 X hR hret n0 _ _ _ _ _ _ _ _ h
theorem s_Mo_isTrue (l : Launch) (D : va_G) (ad : Ky → Nat) (tc : Tc) (hi : adI ad) {l1 : Int} {l2 : Int} {l3 : Int} {l4 : Int} {l5 : Int} {l6 : Int} {σ : Mem} {Q : Int → Mem → Prop} (h : Mo_isTrue l1 l2 l3 l4 l5 l6 σ Q) : CtI l D ad tc yX6_isTrue cX6_isTrue 10 (some .boolean) { frames := 2, cells := 0, slots := 0, locals := 51 } [.ref (ad (6, 0, 0)), .int (oI l1), .int (oI l2), .int (oI l3), .int (oI l4), .int (oI l5), .int (oI l6)] σ Q := CtI.mkz (by decide +kernel) hi (Nat.le_of_ble_eq_true rfl) rfl (fun p e s m args below meth c A Qm X hR hret => m_Mo_isTrue_0 X hR hret h)

set_option maxHeartbeats 4000000 in
set_option maxRecDepth 100000 in
theorem m_Mo_addCut_225 {p : Program} {l : Launch} {e : Env} {R : Room} {s : State} {m : MethodId} {args : Array Value} {below : List Frame} {meth : Method} {c : Code} {D : va_G} {ad : Ky → Nat} {tc : Tc} {A : Nat → Prop} {cs sl : Nat} {Qm : State → Prop} (X : Cx p s m args c cX6_addCut RX6 9 D ad tc A) (hR : RmOK R cs sl 3 80) {Q : Mem → Prop} (hret : RtV p l e R s m args below meth c D ad tc A cs sl Qm cX6_addCut Q) {k141 : Int → Int → Int → Int → Mem → Prop} (hk141 : ∀ (l1 : Int) (l3 : Int) (l6 : Int) (l7 : Int) (σ : Mem), k141 l1 l3 l6 l7 σ → AW p l e R s m args below meth c D ad tc A cs sl Qm 141 [some (.ref (ad (6, 0, 0))), some (.int (oI l1)), none, some (.int (oI l3)), none, none, some (.int (oI l6)), some (.int (oI l7)), none] [] σ) {l1 : Int} {l3 : Int} {l6 : Int} {l7 : Int} {σ : Mem} (h : Mo_addCut_225 k141 Q l1 l3 l6 l7 σ) : AW p l e R s m args below meth c D ad tc A cs sl Qm 225 [some (.ref (ad (6, 0, 0))), some (.int (oI l1)), none, some (.int (oI l3)), none, none, some (.int (oI l6)), some (.int (oI l7)), none] [] σ := by
  unfold Mo_addCut_225 at h
  refine aw_iinc X dX6_addCut_225 rfl rfl ?_
  obtain ⟨x1, ex1⟩ : ∃ z : Int, z = (l7 + 1) := ⟨_, rfl⟩
  replace h := h x1 ex1
  refine aw_als (als' := [some (.ref (ad (6, 0, 0))), some (.int (oI l1)), none, some (.int (oI l3)), none, none, some (.int (oI l6)), some (.int (oI x1)), none]) (by subst ex1; rfl) ?_
  refine aw_goto X dX6_addCut_228 (tgt := 141) (by decide) ?_
  refine aw_weak (als' := [some (.ref (ad (6, 0, 0))), some (.int (oI l1)), none, some (.int (oI l3)), none, none, some (.int (oI l6)), some (.int (oI x1)), none]) ⟨rfl, rfl, rfl, rfl, rfl, trivial⟩ ?_
  exact hk141 _ _ _ _ _ h

set_option maxHeartbeats 4000000 in
set_option maxRecDepth 100000 in
theorem m_Mo_addCut_141 {p : Program} {l : Launch} {e : Env} {R : Room} {s : State} {m : MethodId} {args : Array Value} {below : List Frame} {meth : Method} {c : Code} {D : va_G} {ad : Ky → Nat} {tc : Tc} {A : Nat → Prop} {cs sl : Nat} {Qm : State → Prop} (X : Cx p s m args c cX6_addCut RX6 9 D ad tc A) (hR : RmOK R cs sl 3 80) {Q : Mem → Prop} (hret : RtV p l e R s m args below meth c D ad tc A cs sl Qm cX6_addCut Q) : ∀ (n : Nat) (l1 : Int) (l3 : Int) (l6 : Int) (l7 : Int) (σ : Mem), Mo_addCut_141 Q n l1 l3 l6 l7 σ → AW p l e R s m args below meth c D ad tc A cs sl Qm 141 [some (.ref (ad (6, 0, 0))), some (.int (oI l1)), none, some (.int (oI l3)), none, none, some (.int (oI l6)), some (.int (oI l7)), none] [] σ := by
  intro n
  induction n with
  | zero =>
    intro l1 l3 l6 l7 σ h
    exact False.elim h
  | succ n ih =>
    intro l1 l3 l6 l7 σ h
    unfold Mo_addCut_141 at h
    refine aw_iload X dX6_addCut_141 rfl ?_
    refine aw_aload_n X dX6_addCut_143 rfl ?_
    refine aw_get X ob_6 fl_X6_30 rfl dX6_addCut_144 ?_
    refine aw_iload_n X dX6_addCut_147 rfl ?_
    obtain ⟨g1a, g1b, h⟩ := h
    refine aw_iald X ar_6_8 g1a g1b dX6_addCut_148 ?_
    obtain ⟨g2, h⟩ := h
    obtain ⟨g3, h⟩ := h
    refine aw_icmp_ge X dX6_addCut_149 (tgt := 231) (by decide) g2 g3 (fun hc => ?_) (fun hc => ?_)
    · replace h := h.1 hc
      refine aw_aload_n X dX6_addCut_231 rfl ?_
      refine aw_dup X dX6_addCut_232 rfl ?_
      refine aw_get X ob_6 fl_X6_124 rfl dX6_addCut_233 ?_
      refine aw_iconst X dX6_addCut_236 ?_
      refine aw_iadd X dX6_addCut_237 ?_
      refine aw_put X ob_6 fl_X6_124 (sf_6_18 ad) rfl rfl dX6_addCut_238 ?_
      obtain ⟨σ4, eσ4⟩ : ∃ z : Mem, z = up σ 6 0 18 0 ((σ 6 0 18 0) + 1) := ⟨_, rfl⟩
      replace h := h σ4 eσ4
      refine aw_mem eσ4 ?_
      exact hret 241 _ _ dX6_addCut_241 h
    · replace h := h.2 hc
      refine aw_iload X dX6_addCut_152 rfl ?_
      refine aw_iload X dX6_addCut_154 rfl ?_
      refine aw_ishr X dX6_addCut_156 ?_
      refine aw_iconst X dX6_addCut_157 ?_
      refine aw_iand X dX6_addCut_158 ?_
      refine aw_iconst X dX6_addCut_159 ?_
      obtain ⟨g5, h⟩ := h
      refine aw_icmp_ne X dX6_addCut_160 (tgt := 225) (by decide) g5 ⟨by decide, by decide⟩ (fun hc => ?_) (fun hc => ?_)
      · replace h := h.1 hc
        refine aw_weak (als' := [some (.ref (ad (6, 0, 0))), some (.int (oI l1)), none, some (.int (oI l3)), none, none, some (.int (oI l6)), some (.int (oI l7)), none]) ⟨rfl, rfl, rfl, rfl, rfl, trivial⟩ ?_
        exact m_Mo_addCut_225 X hR hret ih h
      · replace h := h.2 hc
        refine aw_iconst X dX6_addCut_163 ?_
        refine aw_aload_n X dX6_addCut_164 rfl ?_
        refine aw_get X ob_6 fl_X6_124 rfl dX6_addCut_165 ?_
        refine aw_imul X dX6_addCut_168 ?_
        refine aw_aload_n X dX6_addCut_169 rfl ?_
        refine aw_get X ob_6 fl_X6_75 rfl dX6_addCut_170 ?_
        refine aw_aload_n X dX6_addCut_173 rfl ?_
        refine aw_get X ob_6 fl_X6_124 rfl dX6_addCut_174 ?_
        obtain ⟨g7a, g7b, h⟩ := h
        refine aw_iald X ar_6_24 g7a g7b dX6_addCut_177 ?_
        refine aw_iadd X dX6_addCut_178 ?_
        refine aw_istore X dX6_addCut_179 (Nat.le_of_ble_eq_true rfl) rfl ?_
        obtain ⟨x8, ex8⟩ : ∃ z : Int, z = ((3 * (σ 6 0 18 0)) + (σ 6 0 24 (σ 6 0 18 0))) := ⟨_, rfl⟩
        replace h := h x8 ex8
        refine aw_als (als' := [some (.ref (ad (6, 0, 0))), some (.int (oI l1)), none, some (.int (oI l3)), none, none, some (.int (oI l6)), some (.int (oI l7)), some (.int (oI x8))]) (by subst ex8; rfl) ?_
        refine aw_aload_n X dX6_addCut_181 rfl ?_
        refine aw_get X ob_6 fl_X6_78 rfl dX6_addCut_182 ?_
        refine aw_iload X dX6_addCut_185 rfl ?_
        refine aw_aload_n X dX6_addCut_187 rfl ?_
        refine aw_get X ob_6 fl_X6_33 rfl dX6_addCut_188 ?_
        refine aw_iconst X dX6_addCut_191 ?_
        refine aw_iload_n X dX6_addCut_192 rfl ?_
        refine aw_imul X dX6_addCut_193 ?_
        refine aw_iload X dX6_addCut_194 rfl ?_
        refine aw_iadd X dX6_addCut_196 ?_
        obtain ⟨g9a, g9b, h⟩ := h
        refine aw_iald X ar_6_9 g9a g9b dX6_addCut_197 ?_
        obtain ⟨g10a, g10b, h⟩ := h
        refine aw_iast X ar_6_25 g10a g10b dX6_addCut_198 ?_
        obtain ⟨σ10, eσ10⟩ : ∃ z : Mem, z = up σ 6 0 25 x8 (σ 6 0 9 ((3 * l1) + l7)) := ⟨_, rfl⟩
        replace h := h σ10 eσ10
        refine aw_mem eσ10 ?_
        refine aw_aload_n X dX6_addCut_199 rfl ?_
        refine aw_get X ob_6 fl_X6_81 rfl dX6_addCut_200 ?_
        refine aw_iload X dX6_addCut_203 rfl ?_
        refine aw_iload_n X dX6_addCut_205 rfl ?_
        refine aw_iload X dX6_addCut_206 rfl ?_
        refine aw_callSI X hR (s_Mo_figure l D ad tc X.2.2.2.2.2.2.1 h) ms_X6_162 (by decide) (by decide) rfl rfl rfl rfl (Nat.le_of_ble_eq_true rfl) rfl dX6_addCut_208 (fun r11 σ11 h => ?_)
        obtain ⟨g12a, g12b, h⟩ := h
        refine aw_iast X ar_6_26 g12a g12b dX6_addCut_211 ?_
        obtain ⟨σ12, eσ12⟩ : ∃ z : Mem, z = up σ11 6 0 26 x8 r11 := ⟨_, rfl⟩
        replace h := h σ12 eσ12
        refine aw_mem eσ12 ?_
        refine aw_aload_n X dX6_addCut_212 rfl ?_
        refine aw_get X ob_6 fl_X6_75 rfl dX6_addCut_213 ?_
        refine aw_aload_n X dX6_addCut_216 rfl ?_
        refine aw_get X ob_6 fl_X6_124 rfl dX6_addCut_217 ?_
        refine aw_dup2 X dX6_addCut_220 rfl rfl ?_
        obtain ⟨g13a, g13b, h⟩ := h
        refine aw_iald X ar_6_24 g13a g13b dX6_addCut_221 ?_
        refine aw_iconst X dX6_addCut_222 ?_
        refine aw_iadd X dX6_addCut_223 ?_
        obtain ⟨g14a, g14b, h⟩ := h
        refine aw_iast X ar_6_24 g14a g14b dX6_addCut_224 ?_
        obtain ⟨σ14, eσ14⟩ : ∃ z : Mem, z = up σ12 6 0 24 (σ12 6 0 18 0) ((σ12 6 0 24 (σ12 6 0 18 0)) + 1) := ⟨_, rfl⟩
        replace h := h σ14 eσ14
        refine aw_mem eσ14 ?_
        refine aw_weak (als' := [some (.ref (ad (6, 0, 0))), some (.int (oI l1)), none, some (.int (oI l3)), none, none, some (.int (oI l6)), some (.int (oI l7)), none]) ⟨rfl, rfl, rfl, rfl, rfl, trivial⟩ ?_
        exact m_Mo_addCut_225 X hR hret ih h

set_option maxHeartbeats 4000000 in
set_option maxRecDepth 100000 in
theorem m_Mo_addCut_114 {p : Program} {l : Launch} {e : Env} {R : Room} {s : State} {m : MethodId} {args : Array Value} {below : List Frame} {meth : Method} {c : Code} {D : va_G} {ad : Ky → Nat} {tc : Tc} {A : Nat → Prop} {cs sl : Nat} {Qm : State → Prop} (X : Cx p s m args c cX6_addCut RX6 9 D ad tc A) (hR : RmOK R cs sl 3 80) {Q : Mem → Prop} (hret : RtV p l e R s m args below meth c D ad tc A cs sl Qm cX6_addCut Q) {l1 : Int} {l3 : Int} {l6 : Int} {s1 : Int} {s2 : Int} {σ : Mem} (h : Mo_addCut_114 Q l1 l3 l6 s1 s2 σ) : AW p l e R s m args below meth c D ad tc A cs sl Qm 114 [some (.ref (ad (6, 0, 0))), some (.int (oI l1)), none, some (.int (oI l3)), none, none, some (.int (oI l6)), none, none] [.int (oI s2), .int (oI s1), .ref (ad (6, 0, 23))] σ := by
  unfold Mo_addCut_114 at h
  obtain ⟨g1a, g1b, h⟩ := h
  refine aw_iast X ar_6_22 g1a g1b dX6_addCut_114 ?_
  obtain ⟨σ1, eσ1⟩ : ∃ z : Mem, z = up σ 6 0 22 s1 s2 := ⟨_, rfl⟩
  replace h := h σ1 eσ1
  refine aw_mem eσ1 ?_
  refine aw_aload_n X dX6_addCut_115 rfl ?_
  refine aw_get X ob_6 fl_X6_72 rfl dX6_addCut_116 ?_
  refine aw_aload_n X dX6_addCut_119 rfl ?_
  refine aw_get X ob_6 fl_X6_124 rfl dX6_addCut_120 ?_
  refine aw_aload_n X dX6_addCut_123 rfl ?_
  refine aw_get X ob_6 fl_X6_111 rfl dX6_addCut_124 ?_
  obtain ⟨g2a, g2b, h⟩ := h
  refine aw_iast X ar_6_23 g2a g2b dX6_addCut_127 ?_
  obtain ⟨σ2, eσ2⟩ : ∃ z : Mem, z = up σ1 6 0 23 (σ1 6 0 18 0) (σ1 6 0 27 0) := ⟨_, rfl⟩
  replace h := h σ2 eσ2
  refine aw_mem eσ2 ?_
  refine aw_aload_n X dX6_addCut_128 rfl ?_
  refine aw_get X ob_6 fl_X6_75 rfl dX6_addCut_129 ?_
  refine aw_aload_n X dX6_addCut_132 rfl ?_
  refine aw_get X ob_6 fl_X6_124 rfl dX6_addCut_133 ?_
  refine aw_iconst X dX6_addCut_136 ?_
  obtain ⟨g3a, g3b, h⟩ := h
  refine aw_iast X ar_6_24 g3a g3b dX6_addCut_137 ?_
  obtain ⟨σ3, eσ3⟩ : ∃ z : Mem, z = up σ2 6 0 24 (σ2 6 0 18 0) 0 := ⟨_, rfl⟩
  replace h := h σ3 eσ3
  refine aw_mem eσ3 ?_
  refine aw_iconst X dX6_addCut_138 ?_
  refine aw_istore X dX6_addCut_139 (Nat.le_of_ble_eq_true rfl) rfl ?_
  refine aw_als (als' := [some (.ref (ad (6, 0, 0))), some (.int (oI l1)), none, some (.int (oI l3)), none, none, some (.int (oI l6)), some (.int (oI 0)), none]) rfl ?_
  refine aw_weak (als' := [some (.ref (ad (6, 0, 0))), some (.int (oI l1)), none, some (.int (oI l3)), none, none, some (.int (oI l6)), some (.int (oI 0)), none]) ⟨rfl, rfl, rfl, rfl, rfl, trivial⟩ ?_
  obtain ⟨n0, h⟩ := h
  exact m_Mo_addCut_141 X hR hret n0 _ _ _ _ _ h

set_option maxHeartbeats 4000000 in
set_option maxRecDepth 100000 in
theorem m_Mo_addCut_57 {p : Program} {l : Launch} {e : Env} {R : Room} {s : State} {m : MethodId} {args : Array Value} {below : List Frame} {meth : Method} {c : Code} {D : va_G} {ad : Ky → Nat} {tc : Tc} {A : Nat → Prop} {cs sl : Nat} {Qm : State → Prop} (X : Cx p s m args c cX6_addCut RX6 9 D ad tc A) (hR : RmOK R cs sl 3 80) {Q : Mem → Prop} (hret : RtV p l e R s m args below meth c D ad tc A cs sl Qm cX6_addCut Q) {k15 : Int → Int → Int → Int → Int → Int → Int → Mem → Prop} (hk15 : ∀ (l1 : Int) (l2 : Int) (l3 : Int) (l4 : Int) (l5 : Int) (l6 : Int) (l7 : Int) (σ : Mem), k15 l1 l2 l3 l4 l5 l6 l7 σ → AW p l e R s m args below meth c D ad tc A cs sl Qm 15 [some (.ref (ad (6, 0, 0))), some (.int (oI l1)), some (.int (oI l2)), some (.int (oI l3)), some (.int (oI l4)), some (.int (oI l5)), some (.int (oI l6)), some (.int (oI l7)), none] [] σ) {l1 : Int} {l2 : Int} {l3 : Int} {l4 : Int} {l5 : Int} {l6 : Int} {l7 : Int} {σ : Mem} (h : Mo_addCut_57 k15 Q l1 l2 l3 l4 l5 l6 l7 σ) : AW p l e R s m args below meth c D ad tc A cs sl Qm 57 [some (.ref (ad (6, 0, 0))), some (.int (oI l1)), some (.int (oI l2)), some (.int (oI l3)), some (.int (oI l4)), some (.int (oI l5)), some (.int (oI l6)), some (.int (oI l7)), none] [] σ := by
  unfold Mo_addCut_57 at h
  refine aw_iinc X dX6_addCut_57 rfl rfl ?_
  obtain ⟨x1, ex1⟩ : ∃ z : Int, z = (l7 + 1) := ⟨_, rfl⟩
  replace h := h x1 ex1
  refine aw_als (als' := [some (.ref (ad (6, 0, 0))), some (.int (oI l1)), some (.int (oI l2)), some (.int (oI l3)), some (.int (oI l4)), some (.int (oI l5)), some (.int (oI l6)), some (.int (oI x1)), none]) (by subst ex1; rfl) ?_
  refine aw_goto X dX6_addCut_60 (tgt := 15) (by decide) ?_
  refine aw_weak (als' := [some (.ref (ad (6, 0, 0))), some (.int (oI l1)), some (.int (oI l2)), some (.int (oI l3)), some (.int (oI l4)), some (.int (oI l5)), some (.int (oI l6)), some (.int (oI x1)), none]) ⟨rfl, rfl, rfl, rfl, rfl, rfl, rfl, rfl, trivial⟩ ?_
  exact hk15 _ _ _ _ _ _ _ _ h

set_option maxHeartbeats 4000000 in
set_option maxRecDepth 100000 in
theorem m_Mo_addCut_15 {p : Program} {l : Launch} {e : Env} {R : Room} {s : State} {m : MethodId} {args : Array Value} {below : List Frame} {meth : Method} {c : Code} {D : va_G} {ad : Ky → Nat} {tc : Tc} {A : Nat → Prop} {cs sl : Nat} {Qm : State → Prop} (X : Cx p s m args c cX6_addCut RX6 9 D ad tc A) (hR : RmOK R cs sl 3 80) {Q : Mem → Prop} (hret : RtV p l e R s m args below meth c D ad tc A cs sl Qm cX6_addCut Q) : ∀ (n : Nat) (l1 : Int) (l2 : Int) (l3 : Int) (l4 : Int) (l5 : Int) (l6 : Int) (l7 : Int) (σ : Mem), Mo_addCut_15 Q n l1 l2 l3 l4 l5 l6 l7 σ → AW p l e R s m args below meth c D ad tc A cs sl Qm 15 [some (.ref (ad (6, 0, 0))), some (.int (oI l1)), some (.int (oI l2)), some (.int (oI l3)), some (.int (oI l4)), some (.int (oI l5)), some (.int (oI l6)), some (.int (oI l7)), none] [] σ := by
  intro n
  induction n with
  | zero =>
    intro l1 l2 l3 l4 l5 l6 l7 σ h
    exact False.elim h
  | succ n ih =>
    intro l1 l2 l3 l4 l5 l6 l7 σ h
    unfold Mo_addCut_15 at h
    refine aw_iload X dX6_addCut_15 rfl ?_
    refine aw_aload_n X dX6_addCut_17 rfl ?_
    refine aw_get X ob_6 fl_X6_30 rfl dX6_addCut_18 ?_
    refine aw_iload_n X dX6_addCut_21 rfl ?_
    obtain ⟨g1a, g1b, h⟩ := h
    refine aw_iald X ar_6_8 g1a g1b dX6_addCut_22 ?_
    obtain ⟨g2, h⟩ := h
    obtain ⟨g3, h⟩ := h
    refine aw_icmp_ge X dX6_addCut_23 (tgt := 63) (by decide) g2 g3 (fun hc => ?_) (fun hc => ?_)
    · replace h := h.1 hc
      refine aw_aload_n X dX6_addCut_63 rfl ?_
      refine aw_get X ob_6 fl_X6_60 rfl dX6_addCut_64 ?_
      refine aw_aload_n X dX6_addCut_67 rfl ?_
      refine aw_get X ob_6 fl_X6_124 rfl dX6_addCut_68 ?_
      refine aw_iload X dX6_addCut_71 rfl ?_
      obtain ⟨g4a, g4b, h⟩ := h
      obtain ⟨g4c, h⟩ := h
      refine aw_zast X ar_6_19 g4a g4b g4c dX6_addCut_73 ?_
      obtain ⟨σ4, eσ4⟩ : ∃ z : Mem, z = up σ 6 0 19 (σ 6 0 18 0) l4 := ⟨_, rfl⟩
      replace h := h σ4 eσ4
      refine aw_mem eσ4 ?_
      refine aw_aload_n X dX6_addCut_74 rfl ?_
      refine aw_get X ob_6 fl_X6_63 rfl dX6_addCut_75 ?_
      refine aw_aload_n X dX6_addCut_78 rfl ?_
      refine aw_get X ob_6 fl_X6_124 rfl dX6_addCut_79 ?_
      refine aw_iload_n X dX6_addCut_82 rfl ?_
      obtain ⟨g5a, g5b, h⟩ := h
      refine aw_iast X ar_6_20 g5a g5b dX6_addCut_83 ?_
      obtain ⟨σ5, eσ5⟩ : ∃ z : Mem, z = up σ4 6 0 20 (σ4 6 0 18 0) l1 := ⟨_, rfl⟩
      replace h := h σ5 eσ5
      refine aw_mem eσ5 ?_
      refine aw_aload_n X dX6_addCut_84 rfl ?_
      refine aw_get X ob_6 fl_X6_66 rfl dX6_addCut_85 ?_
      refine aw_aload_n X dX6_addCut_88 rfl ?_
      refine aw_get X ob_6 fl_X6_124 rfl dX6_addCut_89 ?_
      refine aw_iload_n X dX6_addCut_92 rfl ?_
      obtain ⟨g6a, g6b, h⟩ := h
      refine aw_iast X ar_6_21 g6a g6b dX6_addCut_93 ?_
      obtain ⟨σ6, eσ6⟩ : ∃ z : Mem, z = up σ5 6 0 21 (σ5 6 0 18 0) l2 := ⟨_, rfl⟩
      replace h := h σ6 eσ6
      refine aw_mem eσ6 ?_
      refine aw_aload_n X dX6_addCut_94 rfl ?_
      refine aw_get X ob_6 fl_X6_69 rfl dX6_addCut_95 ?_
      refine aw_aload_n X dX6_addCut_98 rfl ?_
      refine aw_get X ob_6 fl_X6_124 rfl dX6_addCut_99 ?_
      refine aw_iload X dX6_addCut_102 rfl ?_
      obtain ⟨g7, h⟩ := h
      refine aw_if_eq X dX6_addCut_104 (tgt := 112) (by decide) g7 (fun hc => ?_) (fun hc => ?_)
      · replace h := h.1 hc
        refine aw_bipush X dX6_addCut_112 rfl ?_
        refine aw_weak (als' := [some (.ref (ad (6, 0, 0))), some (.int (oI l1)), none, some (.int (oI l3)), none, none, some (.int (oI l6)), none, none]) ⟨rfl, rfl, rfl, rfl, trivial⟩ ?_
        exact m_Mo_addCut_114 X hR hret h
      · replace h := h.2 hc
        refine aw_iload X dX6_addCut_107 rfl ?_
        refine aw_goto X dX6_addCut_109 (tgt := 114) (by decide) ?_
        refine aw_weak (als' := [some (.ref (ad (6, 0, 0))), some (.int (oI l1)), none, some (.int (oI l3)), none, none, some (.int (oI l6)), none, none]) ⟨rfl, rfl, rfl, rfl, trivial⟩ ?_
        exact m_Mo_addCut_114 X hR hret h
    · replace h := h.2 hc
      refine aw_iload X dX6_addCut_26 rfl ?_
      refine aw_iconst X dX6_addCut_28 ?_
      refine aw_iload X dX6_addCut_29 rfl ?_
      refine aw_ishl X dX6_addCut_31 ?_
      refine aw_iconst X dX6_addCut_32 ?_
      refine aw_ixor X dX6_addCut_33 ?_
      refine aw_iand X dX6_addCut_34 ?_
      refine aw_istore X dX6_addCut_35 (Nat.le_of_ble_eq_true rfl) rfl ?_
      obtain ⟨x8, ex8⟩ : ∃ z : Int, z = (iAnd l6 (iXor (iShl 1 l7) (-1))) := ⟨_, rfl⟩
      replace h := h x8 ex8
      refine aw_als (als' := [some (.ref (ad (6, 0, 0))), some (.int (oI l1)), some (.int (oI l2)), some (.int (oI l3)), some (.int (oI l4)), some (.int (oI l5)), some (.int (oI l6)), some (.int (oI l7)), some (.int (oI x8))]) (by subst ex8; rfl) ?_
      refine aw_aload_n X dX6_addCut_37 rfl ?_
      refine aw_iload_n X dX6_addCut_38 rfl ?_
      refine aw_iload_n X dX6_addCut_39 rfl ?_
      refine aw_iload_n X dX6_addCut_40 rfl ?_
      refine aw_iload X dX6_addCut_41 rfl ?_
      refine aw_iload X dX6_addCut_43 rfl ?_
      refine aw_iload X dX6_addCut_45 rfl ?_
      refine aw_callVI X hR (s_Mo_isTrue l D ad tc X.2.2.2.2.2.2.1 h) ml_X6_175 ob_6 rfl (by decide) (by decide) rfl rfl rfl rfl (Nat.le_of_ble_eq_true rfl) rfl dX6_addCut_47 (fun r9 σ9 h => ?_)
      obtain ⟨g10, h⟩ := h
      refine aw_if_eq X dX6_addCut_50 (tgt := 57) (by decide) g10 (fun hc => ?_) (fun hc => ?_)
      · replace h := h.1 hc
        refine aw_weak (als' := [some (.ref (ad (6, 0, 0))), some (.int (oI l1)), some (.int (oI l2)), some (.int (oI l3)), some (.int (oI l4)), some (.int (oI l5)), some (.int (oI l6)), some (.int (oI l7)), none]) ⟨rfl, rfl, rfl, rfl, rfl, rfl, rfl, rfl, trivial⟩ ?_
        exact m_Mo_addCut_57 X hR hret ih h
      · replace h := h.2 hc
        refine aw_iload X dX6_addCut_53 rfl ?_
        refine aw_istore X dX6_addCut_55 (Nat.le_of_ble_eq_true rfl) rfl ?_
        refine aw_als (als' := [some (.ref (ad (6, 0, 0))), some (.int (oI l1)), some (.int (oI l2)), some (.int (oI l3)), some (.int (oI l4)), some (.int (oI l5)), some (.int (oI x8)), some (.int (oI l7)), some (.int (oI x8))]) rfl ?_
        refine aw_weak (als' := [some (.ref (ad (6, 0, 0))), some (.int (oI l1)), some (.int (oI l2)), some (.int (oI l3)), some (.int (oI l4)), some (.int (oI l5)), some (.int (oI x8)), some (.int (oI l7)), none]) ⟨rfl, rfl, rfl, rfl, rfl, rfl, rfl, rfl, trivial⟩ ?_
        exact m_Mo_addCut_57 X hR hret ih h

set_option maxHeartbeats 4000000 in
set_option maxRecDepth 100000 in
theorem m_Mo_addCut_0 {p : Program} {l : Launch} {e : Env} {R : Room} {s : State} {m : MethodId} {args : Array Value} {below : List Frame} {meth : Method} {c : Code} {D : va_G} {ad : Ky → Nat} {tc : Tc} {A : Nat → Prop} {cs sl : Nat} {Qm : State → Prop} (X : Cx p s m args c cX6_addCut RX6 9 D ad tc A) (hR : RmOK R cs sl 3 80) {Q : Mem → Prop} (hret : RtV p l e R s m args below meth c D ad tc A cs sl Qm cX6_addCut Q) {l1 : Int} {l2 : Int} {l3 : Int} {l4 : Int} {l5 : Int} {σ : Mem} (h : Mo_addCut l1 l2 l3 l4 l5 σ Q) : AW p l e R s m args below meth c D ad tc A cs sl Qm 0 [some (.ref (ad (6, 0, 0))), some (.int (oI l1)), some (.int (oI l2)), some (.int (oI l3)), some (.int (oI l4)), some (.int (oI l5)), none, none, none] [] σ := by
  unfold Mo_addCut at h
  refine aw_iconst X dX6_addCut_0 ?_
  refine aw_aload_n X dX6_addCut_1 rfl ?_
  refine aw_get X ob_6 fl_X6_30 rfl dX6_addCut_2 ?_
  refine aw_iload_n X dX6_addCut_5 rfl ?_
  obtain ⟨g1a, g1b, h⟩ := h
  refine aw_iald X ar_6_8 g1a g1b dX6_addCut_6 ?_
  refine aw_ishl X dX6_addCut_7 ?_
  refine aw_iconst X dX6_addCut_8 ?_
  refine aw_isub X dX6_addCut_9 ?_
  refine aw_istore X dX6_addCut_10 (Nat.le_of_ble_eq_true rfl) rfl ?_
  obtain ⟨x2, ex2⟩ : ∃ z : Int, z = ((iShl 1 (σ 6 0 8 l1)) - 1) := ⟨_, rfl⟩
  replace h := h x2 ex2
  refine aw_als (als' := [some (.ref (ad (6, 0, 0))), some (.int (oI l1)), some (.int (oI l2)), some (.int (oI l3)), some (.int (oI l4)), some (.int (oI l5)), some (.int (oI x2)), none, none]) (by subst ex2; rfl) ?_
  refine aw_iconst X dX6_addCut_12 ?_
  refine aw_istore X dX6_addCut_13 (Nat.le_of_ble_eq_true rfl) rfl ?_
  refine aw_als (als' := [some (.ref (ad (6, 0, 0))), some (.int (oI l1)), some (.int (oI l2)), some (.int (oI l3)), some (.int (oI l4)), some (.int (oI l5)), some (.int (oI x2)), some (.int (oI 0)), none]) rfl ?_
  refine aw_weak (als' := [some (.ref (ad (6, 0, 0))), some (.int (oI l1)), some (.int (oI l2)), some (.int (oI l3)), some (.int (oI l4)), some (.int (oI l5)), some (.int (oI x2)), some (.int (oI 0)), none]) ⟨rfl, rfl, rfl, rfl, rfl, rfl, rfl, rfl, trivial⟩ ?_
  obtain ⟨n0, h⟩ := h
  exact m_Mo_addCut_15 X hR hret n0 _ _ _ _ _ _ _ _ h
theorem s_Mo_addCut (l : Launch) (D : va_G) (ad : Ky → Nat) (tc : Tc) (hi : adI ad) {l1 : Int} {l2 : Int} {l3 : Int} {l4 : Int} {l5 : Int} {σ : Mem} {Q : Mem → Prop} (h : Mo_addCut l1 l2 l3 l4 l5 σ Q) : CtV l D ad tc yX6_addCut cX6_addCut 9 none { frames := 3, cells := 0, slots := 0, locals := 80 } [.ref (ad (6, 0, 0)), .int (oI l1), .int (oI l2), .int (oI l3), .int (oI l4), .int (oI l5)] σ Q := CtV.mk (by decide +kernel) hi (Nat.le_of_ble_eq_true rfl) rfl (fun p e s m args below meth c A Qm X hR hret => m_Mo_addCut_0 X hR hret h)

set_option maxHeartbeats 4000000 in
set_option maxRecDepth 100000 in
theorem m_Mo_allWeights_4 {p : Program} {l : Launch} {e : Env} {R : Room} {s : State} {m : MethodId} {args : Array Value} {below : List Frame} {meth : Method} {c : Code} {D : va_G} {ad : Ky → Nat} {tc : Tc} {A : Nat → Prop} {cs sl : Nat} {Qm : State → Prop} (X : Cx p s m args c cX6_allWeights RX6 3 D ad tc A) (hR : RmOK R cs sl 0 0) {Q : Int → Mem → Prop} (hret : RtI p l e R s m args below meth c D ad tc A cs sl Qm cX6_allWeights Q) : ∀ (n : Nat) (l1 : Int) (l2 : Int) (σ : Mem), Mo_allWeights_4 Q n l1 l2 σ → AW p l e R s m args below meth c D ad tc A cs sl Qm 4 [some (.ref (ad (6, 0, 0))), some (.int (oI l1)), some (.int (oI l2))] [] σ := by
  intro n
  induction n with
  | zero =>
    intro l1 l2 σ h
    exact False.elim h
  | succ n ih =>
    intro l1 l2 σ h
    unfold Mo_allWeights_4 at h
    refine aw_iload_n X dX6_allWeights_4 rfl ?_
    refine aw_aload_n X dX6_allWeights_5 rfl ?_
    refine aw_get X ob_6 fl_X6_23 rfl dX6_allWeights_6 ?_
    obtain ⟨g1, h⟩ := h
    obtain ⟨g2, h⟩ := h
    refine aw_icmp_ge X dX6_allWeights_9 (tgt := 27) (by decide) g1 g2 (fun hc => ?_) (fun hc => ?_)
    · replace h := h.1 hc
      refine aw_iload_n X dX6_allWeights_27 rfl ?_
      exact hret 28 _ _ _ dX6_allWeights_28 h
    · replace h := h.2 hc
      refine aw_iload_n X dX6_allWeights_12 rfl ?_
      refine aw_aload_n X dX6_allWeights_13 rfl ?_
      refine aw_get X ob_6 fl_X6_27 rfl dX6_allWeights_14 ?_
      refine aw_iload_n X dX6_allWeights_17 rfl ?_
      obtain ⟨g3a, g3b, h⟩ := h
      refine aw_iald X ar_6_6 g3a g3b dX6_allWeights_18 ?_
      refine aw_iadd X dX6_allWeights_19 ?_
      refine aw_istore_n X dX6_allWeights_20 (Nat.le_of_ble_eq_true rfl) rfl ?_
      obtain ⟨x4, ex4⟩ : ∃ z : Int, z = (l1 + (σ 6 0 6 l2)) := ⟨_, rfl⟩
      replace h := h x4 ex4
      refine aw_als (als' := [some (.ref (ad (6, 0, 0))), some (.int (oI x4)), some (.int (oI l2))]) (by subst ex4; rfl) ?_
      refine aw_iinc X dX6_allWeights_21 rfl rfl ?_
      obtain ⟨x5, ex5⟩ : ∃ z : Int, z = (l2 + 1) := ⟨_, rfl⟩
      replace h := h x5 ex5
      refine aw_als (als' := [some (.ref (ad (6, 0, 0))), some (.int (oI x4)), some (.int (oI x5))]) (by subst ex5; rfl) ?_
      refine aw_goto X dX6_allWeights_24 (tgt := 4) (by decide) ?_
      refine aw_weak (als' := [some (.ref (ad (6, 0, 0))), some (.int (oI x4)), some (.int (oI x5))]) ⟨rfl, rfl, rfl, trivial⟩ ?_
      exact ih _ _ _ h

set_option maxHeartbeats 4000000 in
set_option maxRecDepth 100000 in
theorem m_Mo_allWeights_0 {p : Program} {l : Launch} {e : Env} {R : Room} {s : State} {m : MethodId} {args : Array Value} {below : List Frame} {meth : Method} {c : Code} {D : va_G} {ad : Ky → Nat} {tc : Tc} {A : Nat → Prop} {cs sl : Nat} {Qm : State → Prop} (X : Cx p s m args c cX6_allWeights RX6 3 D ad tc A) (hR : RmOK R cs sl 0 0) {Q : Int → Mem → Prop} (hret : RtI p l e R s m args below meth c D ad tc A cs sl Qm cX6_allWeights Q) {σ : Mem} (h : Mo_allWeights σ Q) : AW p l e R s m args below meth c D ad tc A cs sl Qm 0 [some (.ref (ad (6, 0, 0))), none, none] [] σ := by
  unfold Mo_allWeights at h
  refine aw_iconst X dX6_allWeights_0 ?_
  refine aw_istore_n X dX6_allWeights_1 (Nat.le_of_ble_eq_true rfl) rfl ?_
  refine aw_als (als' := [some (.ref (ad (6, 0, 0))), some (.int (oI 0)), none]) rfl ?_
  refine aw_iconst X dX6_allWeights_2 ?_
  refine aw_istore_n X dX6_allWeights_3 (Nat.le_of_ble_eq_true rfl) rfl ?_
  refine aw_als (als' := [some (.ref (ad (6, 0, 0))), some (.int (oI 0)), some (.int (oI 0))]) rfl ?_
  refine aw_weak (als' := [some (.ref (ad (6, 0, 0))), some (.int (oI 0)), some (.int (oI 0))]) ⟨rfl, rfl, rfl, trivial⟩ ?_
  obtain ⟨n0, h⟩ := h
  exact m_Mo_allWeights_4 X hR hret n0 _ _ _ h
theorem s_Mo_allWeights (l : Launch) (D : va_G) (ad : Ky → Nat) (tc : Tc) (hi : adI ad) {σ : Mem} {Q : Int → Mem → Prop} (h : Mo_allWeights σ Q) : CtI l D ad tc yX6_allWeights cX6_allWeights 3 (some .int) { frames := 0, cells := 0, slots := 0, locals := 0 } [.ref (ad (6, 0, 0))] σ Q := CtI.mk (by decide +kernel) hi (Nat.le_of_ble_eq_true rfl) rfl (fun p e s m args below meth c A Qm X hR hret => m_Mo_allWeights_0 X hR hret h)

set_option maxHeartbeats 4000000 in
set_option maxRecDepth 100000 in
theorem m_Mo_firstPlan_2 {p : Program} {l : Launch} {e : Env} {R : Room} {s : State} {m : MethodId} {args : Array Value} {below : List Frame} {meth : Method} {c : Code} {D : va_G} {ad : Ky → Nat} {tc : Tc} {A : Nat → Prop} {cs sl : Nat} {Qm : State → Prop} (X : Cx p s m args c cX6_firstPlan RX6 2 D ad tc A) (hR : RmOK R cs sl 0 0) {Q : Mem → Prop} (hret : RtV p l e R s m args below meth c D ad tc A cs sl Qm cX6_firstPlan Q) : ∀ (n : Nat) (l1 : Int) (σ : Mem), Mo_firstPlan_2 Q n l1 σ → AW p l e R s m args below meth c D ad tc A cs sl Qm 2 [some (.ref (ad (6, 0, 0))), some (.int (oI l1))] [] σ := by
  intro n
  induction n with
  | zero =>
    intro l1 σ h
    exact False.elim h
  | succ n ih =>
    intro l1 σ h
    unfold Mo_firstPlan_2 at h
    refine aw_iload_n X dX6_firstPlan_2 rfl ?_
    refine aw_bipush X dX6_firstPlan_3 rfl ?_
    obtain ⟨g1, h⟩ := h
    refine aw_icmp_ge X dX6_firstPlan_5 (tgt := 21) (by decide) g1 ⟨by decide, by decide⟩ (fun hc => ?_) (fun hc => ?_)
    · replace h := h.1 hc
      exact hret 21 _ _ dX6_firstPlan_21 h
    · replace h := h.2 hc
      refine aw_aload_n X dX6_firstPlan_8 rfl ?_
      refine aw_get X ob_6 fl_X6_105 rfl dX6_firstPlan_9 ?_
      refine aw_iload_n X dX6_firstPlan_12 rfl ?_
      refine aw_iconst X dX6_firstPlan_13 ?_
      obtain ⟨g3a, g3b, h⟩ := h
      refine aw_iast X ar_6_40 g3a g3b dX6_firstPlan_14 ?_
      obtain ⟨σ3, eσ3⟩ : ∃ z : Mem, z = up σ 6 0 40 l1 0 := ⟨_, rfl⟩
      replace h := h σ3 eσ3
      refine aw_mem eσ3 ?_
      refine aw_iinc X dX6_firstPlan_15 rfl rfl ?_
      obtain ⟨x4, ex4⟩ : ∃ z : Int, z = (l1 + 1) := ⟨_, rfl⟩
      replace h := h x4 ex4
      refine aw_als (als' := [some (.ref (ad (6, 0, 0))), some (.int (oI x4))]) (by subst ex4; rfl) ?_
      refine aw_goto X dX6_firstPlan_18 (tgt := 2) (by decide) ?_
      refine aw_weak (als' := [some (.ref (ad (6, 0, 0))), some (.int (oI x4))]) ⟨rfl, rfl, trivial⟩ ?_
      exact ih _ _ h

set_option maxHeartbeats 4000000 in
set_option maxRecDepth 100000 in
theorem m_Mo_firstPlan_0 {p : Program} {l : Launch} {e : Env} {R : Room} {s : State} {m : MethodId} {args : Array Value} {below : List Frame} {meth : Method} {c : Code} {D : va_G} {ad : Ky → Nat} {tc : Tc} {A : Nat → Prop} {cs sl : Nat} {Qm : State → Prop} (X : Cx p s m args c cX6_firstPlan RX6 2 D ad tc A) (hR : RmOK R cs sl 0 0) {Q : Mem → Prop} (hret : RtV p l e R s m args below meth c D ad tc A cs sl Qm cX6_firstPlan Q) {σ : Mem} (h : Mo_firstPlan σ Q) : AW p l e R s m args below meth c D ad tc A cs sl Qm 0 [some (.ref (ad (6, 0, 0))), none] [] σ := by
  unfold Mo_firstPlan at h
  refine aw_iconst X dX6_firstPlan_0 ?_
  refine aw_istore_n X dX6_firstPlan_1 (Nat.le_of_ble_eq_true rfl) rfl ?_
  refine aw_als (als' := [some (.ref (ad (6, 0, 0))), some (.int (oI 0))]) rfl ?_
  refine aw_weak (als' := [some (.ref (ad (6, 0, 0))), some (.int (oI 0))]) ⟨rfl, rfl, trivial⟩ ?_
  obtain ⟨n0, h⟩ := h
  exact m_Mo_firstPlan_2 X hR hret n0 _ _ h
theorem s_Mo_firstPlan (l : Launch) (D : va_G) (ad : Ky → Nat) (tc : Tc) (hi : adI ad) {σ : Mem} {Q : Mem → Prop} (h : Mo_firstPlan σ Q) : CtV l D ad tc yX6_firstPlan cX6_firstPlan 2 none { frames := 0, cells := 0, slots := 0, locals := 0 } [.ref (ad (6, 0, 0))] σ Q := CtV.mk (by decide +kernel) hi (Nat.le_of_ble_eq_true rfl) rfl (fun p e s m args below meth c A Qm X hR hret => m_Mo_firstPlan_0 X hR hret h)

set_option maxHeartbeats 4000000 in
set_option maxRecDepth 100000 in
theorem m_Mo_nextPlan_41 {p : Program} {l : Launch} {e : Env} {R : Room} {s : State} {m : MethodId} {args : Array Value} {below : List Frame} {meth : Method} {c : Code} {D : va_G} {ad : Ky → Nat} {tc : Tc} {A : Nat → Prop} {cs sl : Nat} {Qm : State → Prop} (X : Cx p s m args c cX6_nextPlan RX6 2 D ad tc A) (hR : RmOK R cs sl 0 0) {Q : Int → Mem → Prop} (hret : RtZ p l e R s m args below meth c D ad tc A cs sl Qm cX6_nextPlan Q) {l1 : Int} {σ : Mem} (h : Mo_nextPlan_41 Q l1 σ) : AW p l e R s m args below meth c D ad tc A cs sl Qm 41 [some (.ref (ad (6, 0, 0))), some (.int (oI l1))] [] σ := by
  unfold Mo_nextPlan_41 at h
  refine aw_iload_n X dX6_nextPlan_41 rfl ?_
  obtain ⟨g1, h⟩ := h
  refine aw_if_ge X dX6_nextPlan_42 (tgt := 47) (by decide) g1 (fun hc => ?_) (fun hc => ?_)
  · replace h := h.1 hc
    refine aw_aload_n X dX6_nextPlan_47 rfl ?_
    refine aw_get X ob_6 fl_X6_105 rfl dX6_nextPlan_48 ?_
    refine aw_iload_n X dX6_nextPlan_51 rfl ?_
    refine aw_dup2 X dX6_nextPlan_52 rfl rfl ?_
    obtain ⟨g2a, g2b, h⟩ := h
    refine aw_iald X ar_6_40 g2a g2b dX6_nextPlan_53 ?_
    refine aw_iconst X dX6_nextPlan_54 ?_
    refine aw_iadd X dX6_nextPlan_55 ?_
    obtain ⟨g3a, g3b, h⟩ := h
    refine aw_iast X ar_6_40 g3a g3b dX6_nextPlan_56 ?_
    obtain ⟨σ3, eσ3⟩ : ∃ z : Mem, z = up σ 6 0 40 l1 ((σ 6 0 40 l1) + 1) := ⟨_, rfl⟩
    replace h := h σ3 eσ3
    refine aw_mem eσ3 ?_
    refine aw_iconst X dX6_nextPlan_57 ?_
    exact hret 58 _ _ _ dX6_nextPlan_58 (by decide) h
  · replace h := h.2 hc
    refine aw_iconst X dX6_nextPlan_45 ?_
    exact hret 46 _ _ _ dX6_nextPlan_46 (by decide) h

set_option maxHeartbeats 4000000 in
set_option maxRecDepth 100000 in
theorem m_Mo_nextPlan_7 {p : Program} {l : Launch} {e : Env} {R : Room} {s : State} {m : MethodId} {args : Array Value} {below : List Frame} {meth : Method} {c : Code} {D : va_G} {ad : Ky → Nat} {tc : Tc} {A : Nat → Prop} {cs sl : Nat} {Qm : State → Prop} (X : Cx p s m args c cX6_nextPlan RX6 2 D ad tc A) (hR : RmOK R cs sl 0 0) {Q : Int → Mem → Prop} (hret : RtZ p l e R s m args below meth c D ad tc A cs sl Qm cX6_nextPlan Q) : ∀ (n : Nat) (l1 : Int) (σ : Mem), Mo_nextPlan_7 Q n l1 σ → AW p l e R s m args below meth c D ad tc A cs sl Qm 7 [some (.ref (ad (6, 0, 0))), some (.int (oI l1))] [] σ := by
  intro n
  induction n with
  | zero =>
    intro l1 σ h
    exact False.elim h
  | succ n ih =>
    intro l1 σ h
    unfold Mo_nextPlan_7 at h
    refine aw_iload_n X dX6_nextPlan_7 rfl ?_
    obtain ⟨g1, h⟩ := h
    refine aw_if_lt X dX6_nextPlan_8 (tgt := 41) (by decide) g1 (fun hc => ?_) (fun hc => ?_)
    · replace h := h.1 hc
      refine aw_weak (als' := [some (.ref (ad (6, 0, 0))), some (.int (oI l1))]) ⟨rfl, rfl, trivial⟩ ?_
      exact m_Mo_nextPlan_41 X hR hret h
    · replace h := h.2 hc
      refine aw_aload_n X dX6_nextPlan_11 rfl ?_
      refine aw_get X ob_6 fl_X6_105 rfl dX6_nextPlan_12 ?_
      refine aw_iload_n X dX6_nextPlan_15 rfl ?_
      obtain ⟨g2a, g2b, h⟩ := h
      refine aw_iald X ar_6_40 g2a g2b dX6_nextPlan_16 ?_
      refine aw_aload_n X dX6_nextPlan_17 rfl ?_
      refine aw_get X ob_6 fl_X6_7 rfl dX6_nextPlan_18 ?_
      refine aw_iload_n X dX6_nextPlan_21 rfl ?_
      obtain ⟨g3a, g3b, h⟩ := h
      refine aw_iald X ar_6_1 g3a g3b dX6_nextPlan_22 ?_
      refine aw_iconst X dX6_nextPlan_23 ?_
      refine aw_isub X dX6_nextPlan_24 ?_
      obtain ⟨g4, h⟩ := h
      obtain ⟨g5, h⟩ := h
      refine aw_icmp_ne X dX6_nextPlan_25 (tgt := 41) (by decide) g4 g5 (fun hc => ?_) (fun hc => ?_)
      · replace h := h.1 hc
        refine aw_weak (als' := [some (.ref (ad (6, 0, 0))), some (.int (oI l1))]) ⟨rfl, rfl, trivial⟩ ?_
        exact m_Mo_nextPlan_41 X hR hret h
      · replace h := h.2 hc
        refine aw_aload_n X dX6_nextPlan_28 rfl ?_
        refine aw_get X ob_6 fl_X6_105 rfl dX6_nextPlan_29 ?_
        refine aw_iload_n X dX6_nextPlan_32 rfl ?_
        refine aw_iconst X dX6_nextPlan_33 ?_
        obtain ⟨g6a, g6b, h⟩ := h
        refine aw_iast X ar_6_40 g6a g6b dX6_nextPlan_34 ?_
        obtain ⟨σ6, eσ6⟩ : ∃ z : Mem, z = up σ 6 0 40 l1 0 := ⟨_, rfl⟩
        replace h := h σ6 eσ6
        refine aw_mem eσ6 ?_
        refine aw_iinc X dX6_nextPlan_35 rfl rfl ?_
        obtain ⟨x7, ex7⟩ : ∃ z : Int, z = (l1 + (-1)) := ⟨_, rfl⟩
        replace h := h x7 ex7
        refine aw_als (als' := [some (.ref (ad (6, 0, 0))), some (.int (oI x7))]) (by subst ex7; rfl) ?_
        refine aw_goto X dX6_nextPlan_38 (tgt := 7) (by decide) ?_
        refine aw_weak (als' := [some (.ref (ad (6, 0, 0))), some (.int (oI x7))]) ⟨rfl, rfl, trivial⟩ ?_
        exact ih _ _ h

set_option maxHeartbeats 4000000 in
set_option maxRecDepth 100000 in
theorem m_Mo_nextPlan_0 {p : Program} {l : Launch} {e : Env} {R : Room} {s : State} {m : MethodId} {args : Array Value} {below : List Frame} {meth : Method} {c : Code} {D : va_G} {ad : Ky → Nat} {tc : Tc} {A : Nat → Prop} {cs sl : Nat} {Qm : State → Prop} (X : Cx p s m args c cX6_nextPlan RX6 2 D ad tc A) (hR : RmOK R cs sl 0 0) {Q : Int → Mem → Prop} (hret : RtZ p l e R s m args below meth c D ad tc A cs sl Qm cX6_nextPlan Q) {σ : Mem} (h : Mo_nextPlan σ Q) : AW p l e R s m args below meth c D ad tc A cs sl Qm 0 [some (.ref (ad (6, 0, 0))), none] [] σ := by
  unfold Mo_nextPlan at h
  refine aw_aload_n X dX6_nextPlan_0 rfl ?_
  refine aw_get X ob_6 fl_X6_134 rfl dX6_nextPlan_1 ?_
  refine aw_iconst X dX6_nextPlan_4 ?_
  refine aw_isub X dX6_nextPlan_5 ?_
  refine aw_istore_n X dX6_nextPlan_6 (Nat.le_of_ble_eq_true rfl) rfl ?_
  obtain ⟨x1, ex1⟩ : ∃ z : Int, z = ((σ 6 0 0 0) - 1) := ⟨_, rfl⟩
  replace h := h x1 ex1
  refine aw_als (als' := [some (.ref (ad (6, 0, 0))), some (.int (oI x1))]) (by subst ex1; rfl) ?_
  refine aw_weak (als' := [some (.ref (ad (6, 0, 0))), some (.int (oI x1))]) ⟨rfl, rfl, trivial⟩ ?_
  obtain ⟨n0, h⟩ := h
  exact m_Mo_nextPlan_7 X hR hret n0 _ _ h
theorem s_Mo_nextPlan (l : Launch) (D : va_G) (ad : Ky → Nat) (tc : Tc) (hi : adI ad) {σ : Mem} {Q : Int → Mem → Prop} (h : Mo_nextPlan σ Q) : CtI l D ad tc yX6_nextPlan cX6_nextPlan 2 (some .boolean) { frames := 0, cells := 0, slots := 0, locals := 0 } [.ref (ad (6, 0, 0))] σ Q := CtI.mkz (by decide +kernel) hi (Nat.le_of_ble_eq_true rfl) rfl (fun p e s m args below meth c A Qm X hR hret => m_Mo_nextPlan_0 X hR hret h)

set_option maxHeartbeats 4000000 in
set_option maxRecDepth 100000 in
theorem m_Mo_priceOf_4 {p : Program} {l : Launch} {e : Env} {R : Room} {s : State} {m : MethodId} {args : Array Value} {below : List Frame} {meth : Method} {c : Code} {D : va_G} {ad : Ky → Nat} {tc : Tc} {A : Nat → Prop} {cs sl : Nat} {Qm : State → Prop} (X : Cx p s m args c cX6_priceOf RX6 4 D ad tc A) (hR : RmOK R cs sl 1 22) {Q : Int → Mem → Prop} (hret : RtI p l e R s m args below meth c D ad tc A cs sl Qm cX6_priceOf Q) : ∀ (n : Nat) (l1c : Nat) (l1p : Int) (l1k : Nat) (l2 : Int) (l3 : Int) (σ : Mem) (_ : Arr l1c l1p l1k 6), Mo_priceOf_4 Q n l1c l1p l1k l2 l3 σ → AW p l e R s m args below meth c D ad tc A cs sl Qm 4 [some (.ref (ad (6, 0, 0))), some (.ref (ad (l1c, l1p, l1k + 1))), some (.int (oI l2)), some (.int (oI l3))] [] σ := by
  intro n
  induction n with
  | zero =>
    intro l1c l1p l1k l2 l3 σ hl1 h
    exact False.elim h
  | succ n ih =>
    intro l1c l1p l1k l2 l3 σ hl1 h
    unfold Mo_priceOf_4 at h
    refine aw_iload_n X dX6_priceOf_4 rfl ?_
    refine aw_aload_n X dX6_priceOf_5 rfl ?_
    refine aw_get X ob_6 fl_X6_134 rfl dX6_priceOf_6 ?_
    obtain ⟨g1, h⟩ := h
    obtain ⟨g2, h⟩ := h
    refine aw_icmp_ge X dX6_priceOf_9 (tgt := 50) (by decide) g1 g2 (fun hc => ?_) (fun hc => ?_)
    · replace h := h.1 hc
      refine aw_iload_n X dX6_priceOf_50 rfl ?_
      refine aw_aload_n X dX6_priceOf_51 rfl ?_
      refine aw_callVI X hR (s_Mo_allWeights l D ad tc X.2.2.2.2.2.2.1 h) ml_X6_179 ob_6 rfl (by decide) (by decide) rfl rfl rfl rfl (Nat.le_of_ble_eq_true rfl) rfl dX6_priceOf_52 (fun r3 σ3 h => ?_)
      refine aw_imul X dX6_priceOf_55 ?_
      exact hret 56 _ _ _ dX6_priceOf_56 h
    · replace h := h.2 hc
      refine aw_aload_n X dX6_priceOf_12 rfl ?_
      refine aw_get X ob_6 fl_X6_16 rfl dX6_priceOf_13 ?_
      refine aw_iconst X dX6_priceOf_16 ?_
      refine aw_iload_n X dX6_priceOf_17 rfl ?_
      refine aw_imul X dX6_priceOf_18 ?_
      refine aw_aload_n X dX6_priceOf_19 rfl ?_
      refine aw_iload_n X dX6_priceOf_20 rfl ?_
      obtain ⟨g4a, g4b, h⟩ := h
      refine aw_iald X hl1 g4a g4b dX6_priceOf_21 ?_
      refine aw_iadd X dX6_priceOf_22 ?_
      obtain ⟨g5a, g5b, h⟩ := h
      refine aw_zald X ar_6_3 g5a g5b dX6_priceOf_23 ?_
      obtain ⟨g6, h⟩ := h
      refine aw_if_eq X dX6_priceOf_24 (tgt := 29) (by decide) g6 (fun hc => ?_) (fun hc => ?_)
      · replace h := h.1 hc
        refine aw_iload_n X dX6_priceOf_29 rfl ?_
        refine aw_aload_n X dX6_priceOf_30 rfl ?_
        refine aw_get X ob_6 fl_X6_13 rfl dX6_priceOf_31 ?_
        refine aw_iconst X dX6_priceOf_34 ?_
        refine aw_iload_n X dX6_priceOf_35 rfl ?_
        refine aw_imul X dX6_priceOf_36 ?_
        refine aw_aload_n X dX6_priceOf_37 rfl ?_
        refine aw_iload_n X dX6_priceOf_38 rfl ?_
        obtain ⟨g7a, g7b, h⟩ := h
        refine aw_iald X hl1 g7a g7b dX6_priceOf_39 ?_
        refine aw_iadd X dX6_priceOf_40 ?_
        obtain ⟨g8a, g8b, h⟩ := h
        refine aw_iald X ar_6_2 g8a g8b dX6_priceOf_41 ?_
        refine aw_iadd X dX6_priceOf_42 ?_
        refine aw_istore_n X dX6_priceOf_43 (Nat.le_of_ble_eq_true rfl) rfl ?_
        obtain ⟨x9, ex9⟩ : ∃ z : Int, z = (l2 + (σ 6 0 2 ((4 * l3) + (σ l1c l1p l1k l3)))) := ⟨_, rfl⟩
        replace h := h x9 ex9
        refine aw_als (als' := [some (.ref (ad (6, 0, 0))), some (.ref (ad (l1c, l1p, l1k + 1))), some (.int (oI x9)), some (.int (oI l3))]) (by subst ex9; rfl) ?_
        refine aw_iinc X dX6_priceOf_44 rfl rfl ?_
        obtain ⟨x10, ex10⟩ : ∃ z : Int, z = (l3 + 1) := ⟨_, rfl⟩
        replace h := h x10 ex10
        refine aw_als (als' := [some (.ref (ad (6, 0, 0))), some (.ref (ad (l1c, l1p, l1k + 1))), some (.int (oI x9)), some (.int (oI x10))]) (by subst ex10; rfl) ?_
        refine aw_goto X dX6_priceOf_47 (tgt := 4) (by decide) ?_
        refine aw_weak (als' := [some (.ref (ad (6, 0, 0))), some (.ref (ad (l1c, l1p, l1k + 1))), some (.int (oI x9)), some (.int (oI x10))]) ⟨rfl, rfl, rfl, rfl, trivial⟩ ?_
        exact ih _ _ _ _ _ _ hl1 h
      · replace h := h.2 hc
        refine aw_iconst X dX6_priceOf_27 ?_
        exact hret 28 _ _ _ dX6_priceOf_28 h

set_option maxHeartbeats 4000000 in
set_option maxRecDepth 100000 in
theorem m_Mo_priceOf_0 {p : Program} {l : Launch} {e : Env} {R : Room} {s : State} {m : MethodId} {args : Array Value} {below : List Frame} {meth : Method} {c : Code} {D : va_G} {ad : Ky → Nat} {tc : Tc} {A : Nat → Prop} {cs sl : Nat} {Qm : State → Prop} (X : Cx p s m args c cX6_priceOf RX6 4 D ad tc A) (hR : RmOK R cs sl 1 22) {Q : Int → Mem → Prop} (hret : RtI p l e R s m args below meth c D ad tc A cs sl Qm cX6_priceOf Q) {l1c : Nat} {l1p : Int} {l1k : Nat} {σ : Mem} (hl1 : Arr l1c l1p l1k 6) (h : Mo_priceOf l1c l1p l1k σ Q) : AW p l e R s m args below meth c D ad tc A cs sl Qm 0 [some (.ref (ad (6, 0, 0))), some (.ref (ad (l1c, l1p, l1k + 1))), none, none] [] σ := by
  unfold Mo_priceOf at h
  refine aw_iconst X dX6_priceOf_0 ?_
  refine aw_istore_n X dX6_priceOf_1 (Nat.le_of_ble_eq_true rfl) rfl ?_
  refine aw_als (als' := [some (.ref (ad (6, 0, 0))), some (.ref (ad (l1c, l1p, l1k + 1))), some (.int (oI 0)), none]) rfl ?_
  refine aw_iconst X dX6_priceOf_2 ?_
  refine aw_istore_n X dX6_priceOf_3 (Nat.le_of_ble_eq_true rfl) rfl ?_
  refine aw_als (als' := [some (.ref (ad (6, 0, 0))), some (.ref (ad (l1c, l1p, l1k + 1))), some (.int (oI 0)), some (.int (oI 0))]) rfl ?_
  refine aw_weak (als' := [some (.ref (ad (6, 0, 0))), some (.ref (ad (l1c, l1p, l1k + 1))), some (.int (oI 0)), some (.int (oI 0))]) ⟨rfl, rfl, rfl, rfl, trivial⟩ ?_
  obtain ⟨n0, h⟩ := h
  exact m_Mo_priceOf_4 X hR hret n0 _ _ _ _ _ _ hl1 h
theorem s_Mo_priceOf (l : Launch) (D : va_G) (ad : Ky → Nat) (tc : Tc) (hi : adI ad) {l1c : Nat} {l1p : Int} {l1k : Nat} (hl1 : Arr l1c l1p l1k 6) {σ : Mem} {Q : Int → Mem → Prop} (h : Mo_priceOf l1c l1p l1k σ Q) : CtI l D ad tc yX6_priceOf cX6_priceOf 4 (some .int) { frames := 1, cells := 0, slots := 0, locals := 22 } [.ref (ad (6, 0, 0)), .ref (ad (l1c, l1p, l1k + 1))] σ Q := CtI.mk (by decide +kernel) hi (Nat.le_of_ble_eq_true rfl) rfl (fun p e s m args below meth c A Qm X hR hret => m_Mo_priceOf_0 X hR hret hl1 h)

set_option maxHeartbeats 4000000 in
set_option maxRecDepth 100000 in
theorem m_Mo_byCuts_106 {p : Program} {l : Launch} {e : Env} {R : Room} {s : State} {m : MethodId} {args : Array Value} {below : List Frame} {meth : Method} {c : Code} {D : va_G} {ad : Ky → Nat} {tc : Tc} {A : Nat → Prop} {cs sl : Nat} {Qm : State → Prop} (X : Cx p s m args c cX6_byCuts RX6 6 D ad tc A) (hR : RmOK R cs sl 2 45) {Q : Int → Mem → Prop} (hret : RtI p l e R s m args below meth c D ad tc A cs sl Qm cX6_byCuts Q) {l1 : Int} {σ : Mem} (h : Mo_byCuts_106 Q l1 σ) : AW p l e R s m args below meth c D ad tc A cs sl Qm 106 [none, some (.int (oI l1)), none, none, none, none] [] σ := by
  unfold Mo_byCuts_106 at h
  refine aw_iload_n X dX6_byCuts_106 rfl ?_
  exact hret 107 _ _ _ dX6_byCuts_107 h

set_option maxHeartbeats 4000000 in
set_option maxRecDepth 100000 in
theorem m_Mo_byCuts_100 {p : Program} {l : Launch} {e : Env} {R : Room} {s : State} {m : MethodId} {args : Array Value} {below : List Frame} {meth : Method} {c : Code} {D : va_G} {ad : Ky → Nat} {tc : Tc} {A : Nat → Prop} {cs sl : Nat} {Qm : State → Prop} (X : Cx p s m args c cX6_byCuts RX6 6 D ad tc A) (hR : RmOK R cs sl 2 45) {Q : Int → Mem → Prop} (hret : RtI p l e R s m args below meth c D ad tc A cs sl Qm cX6_byCuts Q) {k11 : Int → Int → Mem → Prop} (hk11 : ∀ (l1 : Int) (l2 : Int) (σ : Mem), k11 l1 l2 σ → AW p l e R s m args below meth c D ad tc A cs sl Qm 11 [some (.ref (ad (6, 0, 0))), some (.int (oI l1)), some (.int (oI l2)), none, none, none] [] σ) {l1 : Int} {l2 : Int} {σ : Mem} (h : Mo_byCuts_100 k11 Q l1 l2 σ) : AW p l e R s m args below meth c D ad tc A cs sl Qm 100 [some (.ref (ad (6, 0, 0))), some (.int (oI l1)), some (.int (oI l2)), none, none, none] [] σ := by
  unfold Mo_byCuts_100 at h
  refine aw_iinc X dX6_byCuts_100 rfl rfl ?_
  obtain ⟨x1, ex1⟩ : ∃ z : Int, z = (l2 + 1) := ⟨_, rfl⟩
  replace h := h x1 ex1
  refine aw_als (als' := [some (.ref (ad (6, 0, 0))), some (.int (oI l1)), some (.int (oI x1)), none, none, none]) (by subst ex1; rfl) ?_
  refine aw_goto X dX6_byCuts_103 (tgt := 11) (by decide) ?_
  refine aw_weak (als' := [some (.ref (ad (6, 0, 0))), some (.int (oI l1)), some (.int (oI x1)), none, none, none]) ⟨rfl, rfl, rfl, trivial⟩ ?_
  exact hk11 _ _ _ h

set_option maxHeartbeats 4000000 in
set_option maxRecDepth 100000 in
theorem m_Mo_byCuts_93 {p : Program} {l : Launch} {e : Env} {R : Room} {s : State} {m : MethodId} {args : Array Value} {below : List Frame} {meth : Method} {c : Code} {D : va_G} {ad : Ky → Nat} {tc : Tc} {A : Nat → Prop} {cs sl : Nat} {Qm : State → Prop} (X : Cx p s m args c cX6_byCuts RX6 6 D ad tc A) (hR : RmOK R cs sl 2 45) {Q : Int → Mem → Prop} (hret : RtI p l e R s m args below meth c D ad tc A cs sl Qm cX6_byCuts Q) {k36 : Int → Int → Int → Int → Mem → Prop} (hk36 : ∀ (l1 : Int) (l2 : Int) (l3 : Int) (l4 : Int) (σ : Mem), k36 l1 l2 l3 l4 σ → AW p l e R s m args below meth c D ad tc A cs sl Qm 36 [some (.ref (ad (6, 0, 0))), some (.int (oI l1)), some (.int (oI l2)), some (.int (oI l3)), some (.int (oI l4)), none] [] σ) {l2 : Int} {l3 : Int} {l4 : Int} {s0 : Int} {σ : Mem} (h : Mo_byCuts_93 k36 Q l2 l3 l4 s0 σ) : AW p l e R s m args below meth c D ad tc A cs sl Qm 93 [some (.ref (ad (6, 0, 0))), none, some (.int (oI l2)), some (.int (oI l3)), some (.int (oI l4)), none] [.int (oI s0)] σ := by
  unfold Mo_byCuts_93 at h
  refine aw_istore_n X dX6_byCuts_93 (Nat.le_of_ble_eq_true rfl) rfl ?_
  refine aw_als (als' := [some (.ref (ad (6, 0, 0))), some (.int (oI s0)), some (.int (oI l2)), some (.int (oI l3)), some (.int (oI l4)), none]) rfl ?_
  refine aw_iinc X dX6_byCuts_94 rfl rfl ?_
  obtain ⟨x1, ex1⟩ : ∃ z : Int, z = (l4 + 1) := ⟨_, rfl⟩
  replace h := h x1 ex1
  refine aw_als (als' := [some (.ref (ad (6, 0, 0))), some (.int (oI s0)), some (.int (oI l2)), some (.int (oI l3)), some (.int (oI x1)), none]) (by subst ex1; rfl) ?_
  refine aw_goto X dX6_byCuts_97 (tgt := 36) (by decide) ?_
  refine aw_weak (als' := [some (.ref (ad (6, 0, 0))), some (.int (oI s0)), some (.int (oI l2)), some (.int (oI l3)), some (.int (oI x1)), none]) ⟨rfl, rfl, rfl, rfl, rfl, trivial⟩ ?_
  exact hk36 _ _ _ _ _ h

set_option maxHeartbeats 4000000 in
set_option maxRecDepth 100000 in
theorem m_Mo_byCuts_36 {p : Program} {l : Launch} {e : Env} {R : Room} {s : State} {m : MethodId} {args : Array Value} {below : List Frame} {meth : Method} {c : Code} {D : va_G} {ad : Ky → Nat} {tc : Tc} {A : Nat → Prop} {cs sl : Nat} {Qm : State → Prop} (X : Cx p s m args c cX6_byCuts RX6 6 D ad tc A) (hR : RmOK R cs sl 2 45) {Q : Int → Mem → Prop} (hret : RtI p l e R s m args below meth c D ad tc A cs sl Qm cX6_byCuts Q) {k11 : Int → Int → Mem → Prop} (hk11 : ∀ (l1 : Int) (l2 : Int) (σ : Mem), k11 l1 l2 σ → AW p l e R s m args below meth c D ad tc A cs sl Qm 11 [some (.ref (ad (6, 0, 0))), some (.int (oI l1)), some (.int (oI l2)), none, none, none] [] σ) : ∀ (n : Nat) (l1 : Int) (l2 : Int) (l3 : Int) (l4 : Int) (σ : Mem), Mo_byCuts_36 k11 Q n l1 l2 l3 l4 σ → AW p l e R s m args below meth c D ad tc A cs sl Qm 36 [some (.ref (ad (6, 0, 0))), some (.int (oI l1)), some (.int (oI l2)), some (.int (oI l3)), some (.int (oI l4)), none] [] σ := by
  intro n
  induction n with
  | zero =>
    intro l1 l2 l3 l4 σ h
    exact False.elim h
  | succ n ih =>
    intro l1 l2 l3 l4 σ h
    unfold Mo_byCuts_36 at h
    refine aw_iload X dX6_byCuts_36 rfl ?_
    refine aw_aload_n X dX6_byCuts_38 rfl ?_
    refine aw_get X ob_6 fl_X6_23 rfl dX6_byCuts_39 ?_
    obtain ⟨g1, h⟩ := h
    obtain ⟨g2, h⟩ := h
    refine aw_icmp_ge X dX6_byCuts_42 (tgt := 100) (by decide) g1 g2 (fun hc => ?_) (fun hc => ?_)
    · replace h := h.1 hc
      refine aw_weak (als' := [some (.ref (ad (6, 0, 0))), some (.int (oI l1)), some (.int (oI l2)), none, none, none]) ⟨rfl, rfl, rfl, trivial⟩ ?_
      exact m_Mo_byCuts_100 X hR hret hk11 h
    · replace h := h.2 hc
      refine aw_iload_n X dX6_byCuts_45 rfl ?_
      obtain ⟨g3, h⟩ := h
      refine aw_if_lt X dX6_byCuts_46 (tgt := 100) (by decide) g3 (fun hc => ?_) (fun hc => ?_)
      · replace h := h.1 hc
        refine aw_weak (als' := [some (.ref (ad (6, 0, 0))), some (.int (oI l1)), some (.int (oI l2)), none, none, none]) ⟨rfl, rfl, rfl, trivial⟩ ?_
        exact m_Mo_byCuts_100 X hR hret hk11 h
      · replace h := h.2 hc
        refine aw_bipush X dX6_byCuts_49 rfl ?_
        refine aw_iconst X dX6_byCuts_51 ?_
        refine aw_iload_n X dX6_byCuts_52 rfl ?_
        refine aw_imul X dX6_byCuts_53 ?_
        refine aw_iload X dX6_byCuts_54 rfl ?_
        refine aw_iadd X dX6_byCuts_56 ?_
        refine aw_imul X dX6_byCuts_57 ?_
        refine aw_iload_n X dX6_byCuts_58 rfl ?_
        refine aw_iadd X dX6_byCuts_59 ?_
        refine aw_istore X dX6_byCuts_60 (Nat.le_of_ble_eq_true rfl) rfl ?_
        obtain ⟨x4, ex4⟩ : ∃ z : Int, z = ((64 * ((4 * l2) + l4)) + l3) := ⟨_, rfl⟩
        replace h := h x4 ex4
        refine aw_als (als' := [some (.ref (ad (6, 0, 0))), some (.int (oI l1)), some (.int (oI l2)), some (.int (oI l3)), some (.int (oI l4)), some (.int (oI x4))]) (by subst ex4; rfl) ?_
        refine aw_aload_n X dX6_byCuts_62 rfl ?_
        refine aw_get X ob_6 fl_X6_99 rfl dX6_byCuts_63 ?_
        refine aw_iload X dX6_byCuts_66 rfl ?_
        obtain ⟨g5a, g5b, h⟩ := h
        refine aw_zald X ar_6_38 g5a g5b dX6_byCuts_68 ?_
        obtain ⟨g6, h⟩ := h
        refine aw_if_eq X dX6_byCuts_69 (tgt := 76) (by decide) g6 (fun hc => ?_) (fun hc => ?_)
        · replace h := h.1 hc
          refine aw_iload_n X dX6_byCuts_76 rfl ?_
          refine aw_aload_n X dX6_byCuts_77 rfl ?_
          refine aw_get X ob_6 fl_X6_27 rfl dX6_byCuts_78 ?_
          refine aw_iload X dX6_byCuts_81 rfl ?_
          obtain ⟨g7a, g7b, h⟩ := h
          refine aw_iald X ar_6_6 g7a g7b dX6_byCuts_83 ?_
          refine aw_aload_n X dX6_byCuts_84 rfl ?_
          refine aw_get X ob_6 fl_X6_102 rfl dX6_byCuts_85 ?_
          refine aw_iload X dX6_byCuts_88 rfl ?_
          obtain ⟨g8a, g8b, h⟩ := h
          refine aw_iald X ar_6_39 g8a g8b dX6_byCuts_90 ?_
          refine aw_imul X dX6_byCuts_91 ?_
          refine aw_iadd X dX6_byCuts_92 ?_
          refine aw_weak (als' := [some (.ref (ad (6, 0, 0))), none, some (.int (oI l2)), some (.int (oI l3)), some (.int (oI l4)), none]) ⟨rfl, rfl, rfl, rfl, trivial⟩ ?_
          exact m_Mo_byCuts_93 X hR hret ih h
        · replace h := h.2 hc
          refine aw_iconst X dX6_byCuts_72 ?_
          refine aw_goto X dX6_byCuts_73 (tgt := 93) (by decide) ?_
          refine aw_weak (als' := [some (.ref (ad (6, 0, 0))), none, some (.int (oI l2)), some (.int (oI l3)), some (.int (oI l4)), none]) ⟨rfl, rfl, rfl, rfl, trivial⟩ ?_
          exact m_Mo_byCuts_93 X hR hret ih h

set_option maxHeartbeats 4000000 in
set_option maxRecDepth 100000 in
theorem m_Mo_byCuts_11 {p : Program} {l : Launch} {e : Env} {R : Room} {s : State} {m : MethodId} {args : Array Value} {below : List Frame} {meth : Method} {c : Code} {D : va_G} {ad : Ky → Nat} {tc : Tc} {A : Nat → Prop} {cs sl : Nat} {Qm : State → Prop} (X : Cx p s m args c cX6_byCuts RX6 6 D ad tc A) (hR : RmOK R cs sl 2 45) {Q : Int → Mem → Prop} (hret : RtI p l e R s m args below meth c D ad tc A cs sl Qm cX6_byCuts Q) : ∀ (n : Nat) (l1 : Int) (l2 : Int) (σ : Mem), Mo_byCuts_11 Q n l1 l2 σ → AW p l e R s m args below meth c D ad tc A cs sl Qm 11 [some (.ref (ad (6, 0, 0))), some (.int (oI l1)), some (.int (oI l2)), none, none, none] [] σ := by
  intro n
  induction n with
  | zero =>
    intro l1 l2 σ h
    exact False.elim h
  | succ n ih =>
    intro l1 l2 σ h
    unfold Mo_byCuts_11 at h
    refine aw_iload_n X dX6_byCuts_11 rfl ?_
    refine aw_aload_n X dX6_byCuts_12 rfl ?_
    refine aw_get X ob_6 fl_X6_141 rfl dX6_byCuts_13 ?_
    obtain ⟨g1, h⟩ := h
    obtain ⟨g2, h⟩ := h
    refine aw_icmp_ge X dX6_byCuts_16 (tgt := 106) (by decide) g1 g2 (fun hc => ?_) (fun hc => ?_)
    · replace h := h.1 hc
      refine aw_weak (als' := [none, some (.int (oI l1)), none, none, none, none]) ⟨rfl, trivial⟩ ?_
      exact m_Mo_byCuts_106 X hR hret h
    · replace h := h.2 hc
      refine aw_iload_n X dX6_byCuts_19 rfl ?_
      obtain ⟨g3, h⟩ := h
      refine aw_if_lt X dX6_byCuts_20 (tgt := 106) (by decide) g3 (fun hc => ?_) (fun hc => ?_)
      · replace h := h.1 hc
        refine aw_weak (als' := [none, some (.int (oI l1)), none, none, none, none]) ⟨rfl, trivial⟩ ?_
        exact m_Mo_byCuts_106 X hR hret h
      · replace h := h.2 hc
        refine aw_aload_n X dX6_byCuts_23 rfl ?_
        refine aw_iload_n X dX6_byCuts_24 rfl ?_
        refine aw_aload_n X dX6_byCuts_25 rfl ?_
        refine aw_get X ob_6 fl_X6_105 rfl dX6_byCuts_26 ?_
        refine aw_callVI X hR (s_Mo_codeOf l D ad tc X.2.2.2.2.2.2.1 ar_6_40 h) ml_X6_187 ob_6 rfl (by decide) (by decide) rfl rfl rfl rfl (Nat.le_of_ble_eq_true rfl) rfl dX6_byCuts_29 (fun r4 σ4 h => ?_)
        refine aw_istore_n X dX6_byCuts_32 (Nat.le_of_ble_eq_true rfl) rfl ?_
        refine aw_als (als' := [some (.ref (ad (6, 0, 0))), some (.int (oI l1)), some (.int (oI l2)), some (.int (oI r4)), none, none]) rfl ?_
        refine aw_iconst X dX6_byCuts_33 ?_
        refine aw_istore X dX6_byCuts_34 (Nat.le_of_ble_eq_true rfl) rfl ?_
        refine aw_als (als' := [some (.ref (ad (6, 0, 0))), some (.int (oI l1)), some (.int (oI l2)), some (.int (oI r4)), some (.int (oI 0)), none]) rfl ?_
        refine aw_weak (als' := [some (.ref (ad (6, 0, 0))), some (.int (oI l1)), some (.int (oI l2)), some (.int (oI r4)), some (.int (oI 0)), none]) ⟨rfl, rfl, rfl, rfl, rfl, trivial⟩ ?_
        obtain ⟨n0, h⟩ := h
        exact m_Mo_byCuts_36 X hR hret ih n0 _ _ _ _ _ h

set_option maxHeartbeats 4000000 in
set_option maxRecDepth 100000 in
theorem m_Mo_byCuts_0 {p : Program} {l : Launch} {e : Env} {R : Room} {s : State} {m : MethodId} {args : Array Value} {below : List Frame} {meth : Method} {c : Code} {D : va_G} {ad : Ky → Nat} {tc : Tc} {A : Nat → Prop} {cs sl : Nat} {Qm : State → Prop} (X : Cx p s m args c cX6_byCuts RX6 6 D ad tc A) (hR : RmOK R cs sl 2 45) {Q : Int → Mem → Prop} (hret : RtI p l e R s m args below meth c D ad tc A cs sl Qm cX6_byCuts Q) {σ : Mem} (h : Mo_byCuts σ Q) : AW p l e R s m args below meth c D ad tc A cs sl Qm 0 [some (.ref (ad (6, 0, 0))), none, none, none, none, none] [] σ := by
  unfold Mo_byCuts at h
  refine aw_aload_n X dX6_byCuts_0 rfl ?_
  refine aw_aload_n X dX6_byCuts_1 rfl ?_
  refine aw_get X ob_6 fl_X6_105 rfl dX6_byCuts_2 ?_
  refine aw_callVI X hR (s_Mo_priceOf l D ad tc X.2.2.2.2.2.2.1 ar_6_40 h) ml_X6_183 ob_6 rfl (by decide) (by decide) rfl rfl rfl rfl (Nat.le_of_ble_eq_true rfl) rfl dX6_byCuts_5 (fun r1 σ1 h => ?_)
  refine aw_istore_n X dX6_byCuts_8 (Nat.le_of_ble_eq_true rfl) rfl ?_
  refine aw_als (als' := [some (.ref (ad (6, 0, 0))), some (.int (oI r1)), none, none, none, none]) rfl ?_
  refine aw_iconst X dX6_byCuts_9 ?_
  refine aw_istore_n X dX6_byCuts_10 (Nat.le_of_ble_eq_true rfl) rfl ?_
  refine aw_als (als' := [some (.ref (ad (6, 0, 0))), some (.int (oI r1)), some (.int (oI 0)), none, none, none]) rfl ?_
  refine aw_weak (als' := [some (.ref (ad (6, 0, 0))), some (.int (oI r1)), some (.int (oI 0)), none, none, none]) ⟨rfl, rfl, rfl, trivial⟩ ?_
  obtain ⟨n0, h⟩ := h
  exact m_Mo_byCuts_11 X hR hret n0 _ _ _ h
theorem s_Mo_byCuts (l : Launch) (D : va_G) (ad : Ky → Nat) (tc : Tc) (hi : adI ad) {σ : Mem} {Q : Int → Mem → Prop} (h : Mo_byCuts σ Q) : CtI l D ad tc yX6_byCuts cX6_byCuts 6 (some .int) { frames := 2, cells := 0, slots := 0, locals := 45 } [.ref (ad (6, 0, 0))] σ Q := CtI.mk (by decide +kernel) hi (Nat.le_of_ble_eq_true rfl) rfl (fun p e s m args below meth c A Qm X hR hret => m_Mo_byCuts_0 X hR hret h)

set_option maxHeartbeats 4000000 in
set_option maxRecDepth 100000 in
theorem m_Mo_findMaster_79 {p : Program} {l : Launch} {e : Env} {R : Room} {s : State} {m : MethodId} {args : Array Value} {below : List Frame} {meth : Method} {c : Code} {D : va_G} {ad : Ky → Nat} {tc : Tc} {A : Nat → Prop} {cs sl : Nat} {Qm : State → Prop} (X : Cx p s m args c cX6_findMaster RX6 4 D ad tc A) (hR : RmOK R cs sl 3 72) {Q : Mem → Prop} (hret : RtV p l e R s m args below meth c D ad tc A cs sl Qm cX6_findMaster Q) {k15 : Int → Mem → Prop} (hk15 : ∀ (l1 : Int) (σ : Mem), k15 l1 σ → AW p l e R s m args below meth c D ad tc A cs sl Qm 15 [some (.ref (ad (6, 0, 0))), some (.int (oI l1)), none, none] [] σ) {σ : Mem} (h : Mo_findMaster_79 k15 Q σ) : AW p l e R s m args below meth c D ad tc A cs sl Qm 79 [some (.ref (ad (6, 0, 0))), none, none, none] [] σ := by
  unfold Mo_findMaster_79 at h
  refine aw_aload_n X dX6_findMaster_79 rfl ?_
  refine aw_callVI X hR (s_Mo_nextPlan l D ad tc X.2.2.2.2.2.2.1 h) ml_X6_203 ob_6 rfl (by decide) (by decide) rfl rfl rfl rfl (Nat.le_of_ble_eq_true rfl) rfl dX6_findMaster_80 (fun r1 σ1 h => ?_)
  refine aw_istore_n X dX6_findMaster_83 (Nat.le_of_ble_eq_true rfl) rfl ?_
  refine aw_als (als' := [some (.ref (ad (6, 0, 0))), some (.int (oI r1)), none, none]) rfl ?_
  refine aw_goto X dX6_findMaster_84 (tgt := 15) (by decide) ?_
  refine aw_weak (als' := [some (.ref (ad (6, 0, 0))), some (.int (oI r1)), none, none]) ⟨rfl, rfl, trivial⟩ ?_
  exact hk15 _ _ h

set_option maxHeartbeats 4000000 in
set_option maxRecDepth 100000 in
theorem m_Mo_findMaster_55 {p : Program} {l : Launch} {e : Env} {R : Room} {s : State} {m : MethodId} {args : Array Value} {below : List Frame} {meth : Method} {c : Code} {D : va_G} {ad : Ky → Nat} {tc : Tc} {A : Nat → Prop} {cs sl : Nat} {Qm : State → Prop} (X : Cx p s m args c cX6_findMaster RX6 4 D ad tc A) (hR : RmOK R cs sl 3 72) {Q : Mem → Prop} (hret : RtV p l e R s m args below meth c D ad tc A cs sl Qm cX6_findMaster Q) {k15 : Int → Mem → Prop} (hk15 : ∀ (l1 : Int) (σ : Mem), k15 l1 σ → AW p l e R s m args below meth c D ad tc A cs sl Qm 15 [some (.ref (ad (6, 0, 0))), some (.int (oI l1)), none, none] [] σ) : ∀ (n : Nat) (l3 : Int) (σ : Mem), Mo_findMaster_55 k15 Q n l3 σ → AW p l e R s m args below meth c D ad tc A cs sl Qm 55 [some (.ref (ad (6, 0, 0))), none, none, some (.int (oI l3))] [] σ := by
  intro n
  induction n with
  | zero =>
    intro l3 σ h
    exact False.elim h
  | succ n ih =>
    intro l3 σ h
    unfold Mo_findMaster_55 at h
    refine aw_iload_n X dX6_findMaster_55 rfl ?_
    refine aw_bipush X dX6_findMaster_56 rfl ?_
    obtain ⟨g1, h⟩ := h
    refine aw_icmp_ge X dX6_findMaster_58 (tgt := 79) (by decide) g1 ⟨by decide, by decide⟩ (fun hc => ?_) (fun hc => ?_)
    · replace h := h.1 hc
      refine aw_weak (als' := [some (.ref (ad (6, 0, 0))), none, none, none]) ⟨rfl, trivial⟩ ?_
      exact m_Mo_findMaster_79 X hR hret hk15 h
    · replace h := h.2 hc
      refine aw_aload_n X dX6_findMaster_61 rfl ?_
      refine aw_get X ob_6 fl_X6_87 rfl dX6_findMaster_62 ?_
      refine aw_iload_n X dX6_findMaster_65 rfl ?_
      refine aw_aload_n X dX6_findMaster_66 rfl ?_
      refine aw_get X ob_6 fl_X6_105 rfl dX6_findMaster_67 ?_
      refine aw_iload_n X dX6_findMaster_70 rfl ?_
      obtain ⟨g3a, g3b, h⟩ := h
      refine aw_iald X ar_6_40 g3a g3b dX6_findMaster_71 ?_
      obtain ⟨g4a, g4b, h⟩ := h
      refine aw_iast X ar_6_34 g4a g4b dX6_findMaster_72 ?_
      obtain ⟨σ4, eσ4⟩ : ∃ z : Mem, z = up σ 6 0 34 l3 (σ 6 0 40 l3) := ⟨_, rfl⟩
      replace h := h σ4 eσ4
      refine aw_mem eσ4 ?_
      refine aw_iinc X dX6_findMaster_73 rfl rfl ?_
      obtain ⟨x5, ex5⟩ : ∃ z : Int, z = (l3 + 1) := ⟨_, rfl⟩
      replace h := h x5 ex5
      refine aw_als (als' := [some (.ref (ad (6, 0, 0))), none, none, some (.int (oI x5))]) (by subst ex5; rfl) ?_
      refine aw_goto X dX6_findMaster_76 (tgt := 55) (by decide) ?_
      refine aw_weak (als' := [some (.ref (ad (6, 0, 0))), none, none, some (.int (oI x5))]) ⟨rfl, rfl, trivial⟩ ?_
      exact ih _ _ h

set_option maxHeartbeats 4000000 in
set_option maxRecDepth 100000 in
theorem m_Mo_findMaster_43 {p : Program} {l : Launch} {e : Env} {R : Room} {s : State} {m : MethodId} {args : Array Value} {below : List Frame} {meth : Method} {c : Code} {D : va_G} {ad : Ky → Nat} {tc : Tc} {A : Nat → Prop} {cs sl : Nat} {Qm : State → Prop} (X : Cx p s m args c cX6_findMaster RX6 4 D ad tc A) (hR : RmOK R cs sl 3 72) {Q : Mem → Prop} (hret : RtV p l e R s m args below meth c D ad tc A cs sl Qm cX6_findMaster Q) {k15 : Int → Mem → Prop} (hk15 : ∀ (l1 : Int) (σ : Mem), k15 l1 σ → AW p l e R s m args below meth c D ad tc A cs sl Qm 15 [some (.ref (ad (6, 0, 0))), some (.int (oI l1)), none, none] [] σ) {l2 : Int} {σ : Mem} (h : Mo_findMaster_43 k15 Q l2 σ) : AW p l e R s m args below meth c D ad tc A cs sl Qm 43 [some (.ref (ad (6, 0, 0))), none, some (.int (oI l2)), none] [] σ := by
  unfold Mo_findMaster_43 at h
  refine aw_aload_n X dX6_findMaster_43 rfl ?_
  refine aw_iconst X dX6_findMaster_44 ?_
  refine aw_put X ob_6 fl_X6_121 (sf_6_30 ad) (nar_z2 (by decide)).1 (nar_z2 (by decide)).2 dX6_findMaster_45 ?_
  obtain ⟨σ1, eσ1⟩ : ∃ z : Mem, z = up σ 6 0 30 0 1 := ⟨_, rfl⟩
  replace h := h σ1 eσ1
  refine aw_mem eσ1 ?_
  refine aw_aload_n X dX6_findMaster_48 rfl ?_
  refine aw_iload_n X dX6_findMaster_49 rfl ?_
  refine aw_put X ob_6 fl_X6_200 (sf_6_31 ad) rfl rfl dX6_findMaster_50 ?_
  obtain ⟨σ2, eσ2⟩ : ∃ z : Mem, z = up σ1 6 0 31 0 l2 := ⟨_, rfl⟩
  replace h := h σ2 eσ2
  refine aw_mem eσ2 ?_
  refine aw_iconst X dX6_findMaster_53 ?_
  refine aw_istore_n X dX6_findMaster_54 (Nat.le_of_ble_eq_true rfl) rfl ?_
  refine aw_als (als' := [some (.ref (ad (6, 0, 0))), none, some (.int (oI l2)), some (.int (oI 0))]) rfl ?_
  refine aw_weak (als' := [some (.ref (ad (6, 0, 0))), none, none, some (.int (oI 0))]) ⟨rfl, rfl, trivial⟩ ?_
  obtain ⟨n0, h⟩ := h
  exact m_Mo_findMaster_55 X hR hret hk15 n0 _ _ h

set_option maxHeartbeats 4000000 in
set_option maxRecDepth 100000 in
theorem m_Mo_findMaster_15 {p : Program} {l : Launch} {e : Env} {R : Room} {s : State} {m : MethodId} {args : Array Value} {below : List Frame} {meth : Method} {c : Code} {D : va_G} {ad : Ky → Nat} {tc : Tc} {A : Nat → Prop} {cs sl : Nat} {Qm : State → Prop} (X : Cx p s m args c cX6_findMaster RX6 4 D ad tc A) (hR : RmOK R cs sl 3 72) {Q : Mem → Prop} (hret : RtV p l e R s m args below meth c D ad tc A cs sl Qm cX6_findMaster Q) : ∀ (n : Nat) (l1 : Int) (σ : Mem), Mo_findMaster_15 Q n l1 σ → AW p l e R s m args below meth c D ad tc A cs sl Qm 15 [some (.ref (ad (6, 0, 0))), some (.int (oI l1)), none, none] [] σ := by
  intro n
  induction n with
  | zero =>
    intro l1 σ h
    exact False.elim h
  | succ n ih =>
    intro l1 σ h
    unfold Mo_findMaster_15 at h
    refine aw_iload_n X dX6_findMaster_15 rfl ?_
    obtain ⟨g1, h⟩ := h
    refine aw_if_eq X dX6_findMaster_16 (tgt := 87) (by decide) g1 (fun hc => ?_) (fun hc => ?_)
    · replace h := h.1 hc
      exact hret 87 _ _ dX6_findMaster_87 h
    · replace h := h.2 hc
      refine aw_aload_n X dX6_findMaster_19 rfl ?_
      refine aw_callVI X hR (s_Mo_byCuts l D ad tc X.2.2.2.2.2.2.1 h) ml_X6_197 ob_6 rfl (by decide) (by decide) rfl rfl rfl rfl (Nat.le_of_ble_eq_true rfl) rfl dX6_findMaster_20 (fun r2 σ2 h => ?_)
      refine aw_istore_n X dX6_findMaster_23 (Nat.le_of_ble_eq_true rfl) rfl ?_
      refine aw_als (als' := [some (.ref (ad (6, 0, 0))), some (.int (oI l1)), some (.int (oI r2)), none]) rfl ?_
      refine aw_iload_n X dX6_findMaster_24 rfl ?_
      obtain ⟨g3, h⟩ := h
      refine aw_if_lt X dX6_findMaster_25 (tgt := 79) (by decide) g3 (fun hc => ?_) (fun hc => ?_)
      · replace h := h.1 hc
        refine aw_weak (als' := [some (.ref (ad (6, 0, 0))), none, none, none]) ⟨rfl, trivial⟩ ?_
        exact m_Mo_findMaster_79 X hR hret ih h
      · replace h := h.2 hc
        refine aw_aload_n X dX6_findMaster_28 rfl ?_
        refine aw_get X ob_6 fl_X6_121 rfl dX6_findMaster_29 ?_
        obtain ⟨g4, h⟩ := h
        refine aw_if_eq X dX6_findMaster_32 (tgt := 43) (by decide) g4 (fun hc => ?_) (fun hc => ?_)
        · replace h := h.1 hc
          refine aw_weak (als' := [some (.ref (ad (6, 0, 0))), none, some (.int (oI r2)), none]) ⟨rfl, rfl, trivial⟩ ?_
          exact m_Mo_findMaster_43 X hR hret ih h
        · replace h := h.2 hc
          refine aw_iload_n X dX6_findMaster_35 rfl ?_
          refine aw_aload_n X dX6_findMaster_36 rfl ?_
          refine aw_get X ob_6 fl_X6_200 rfl dX6_findMaster_37 ?_
          obtain ⟨g5, h⟩ := h
          obtain ⟨g6, h⟩ := h
          refine aw_icmp_ge X dX6_findMaster_40 (tgt := 79) (by decide) g5 g6 (fun hc => ?_) (fun hc => ?_)
          · replace h := h.1 hc
            refine aw_weak (als' := [some (.ref (ad (6, 0, 0))), none, none, none]) ⟨rfl, trivial⟩ ?_
            exact m_Mo_findMaster_79 X hR hret ih h
          · replace h := h.2 hc
            refine aw_weak (als' := [some (.ref (ad (6, 0, 0))), none, some (.int (oI r2)), none]) ⟨rfl, rfl, trivial⟩ ?_
            exact m_Mo_findMaster_43 X hR hret ih h

set_option maxHeartbeats 4000000 in
set_option maxRecDepth 100000 in
theorem m_Mo_findMaster_0 {p : Program} {l : Launch} {e : Env} {R : Room} {s : State} {m : MethodId} {args : Array Value} {below : List Frame} {meth : Method} {c : Code} {D : va_G} {ad : Ky → Nat} {tc : Tc} {A : Nat → Prop} {cs sl : Nat} {Qm : State → Prop} (X : Cx p s m args c cX6_findMaster RX6 4 D ad tc A) (hR : RmOK R cs sl 3 72) {Q : Mem → Prop} (hret : RtV p l e R s m args below meth c D ad tc A cs sl Qm cX6_findMaster Q) {σ : Mem} (h : Mo_findMaster σ Q) : AW p l e R s m args below meth c D ad tc A cs sl Qm 0 [some (.ref (ad (6, 0, 0))), none, none, none] [] σ := by
  unfold Mo_findMaster at h
  refine aw_aload_n X dX6_findMaster_0 rfl ?_
  refine aw_callVV X hR (s_Mo_layCuts l D ad tc X.2.2.2.2.2.2.1 h) ml_X6_191 ob_6 rfl (by decide) (by decide) rfl rfl rfl rfl (Nat.le_of_ble_eq_true rfl) rfl dX6_findMaster_1 (fun σ1 h => ?_)
  refine aw_aload_n X dX6_findMaster_4 rfl ?_
  refine aw_iconst X dX6_findMaster_5 ?_
  refine aw_put X ob_6 fl_X6_121 (sf_6_30 ad) (nar_z2 (by decide)).1 (nar_z2 (by decide)).2 dX6_findMaster_6 ?_
  obtain ⟨σ2, eσ2⟩ : ∃ z : Mem, z = up σ1 6 0 30 0 0 := ⟨_, rfl⟩
  replace h := h σ2 eσ2
  refine aw_mem eσ2 ?_
  refine aw_aload_n X dX6_findMaster_9 rfl ?_
  refine aw_callVV X hR (s_Mo_firstPlan l D ad tc X.2.2.2.2.2.2.1 h) ml_X6_194 ob_6 rfl (by decide) (by decide) rfl rfl rfl rfl (Nat.le_of_ble_eq_true rfl) rfl dX6_findMaster_10 (fun σ3 h => ?_)
  refine aw_iconst X dX6_findMaster_13 ?_
  refine aw_istore_n X dX6_findMaster_14 (Nat.le_of_ble_eq_true rfl) rfl ?_
  refine aw_als (als' := [some (.ref (ad (6, 0, 0))), some (.int (oI 1)), none, none]) rfl ?_
  refine aw_weak (als' := [some (.ref (ad (6, 0, 0))), some (.int (oI 1)), none, none]) ⟨rfl, rfl, trivial⟩ ?_
  obtain ⟨n0, h⟩ := h
  exact m_Mo_findMaster_15 X hR hret n0 _ _ h
theorem s_Mo_findMaster (l : Launch) (D : va_G) (ad : Ky → Nat) (tc : Tc) (hi : adI ad) {σ : Mem} {Q : Mem → Prop} (h : Mo_findMaster σ Q) : CtV l D ad tc yX6_findMaster cX6_findMaster 4 none { frames := 3, cells := 0, slots := 0, locals := 72 } [.ref (ad (6, 0, 0))] σ Q := CtV.mk (by decide +kernel) hi (Nat.le_of_ble_eq_true rfl) rfl (fun p e s m args below meth c A Qm X hR hret => m_Mo_findMaster_0 X hR hret h)

set_option maxHeartbeats 4000000 in
set_option maxRecDepth 100000 in
theorem m_Mo_round_306 {p : Program} {l : Launch} {e : Env} {R : Room} {s : State} {m : MethodId} {args : Array Value} {below : List Frame} {meth : Method} {c : Code} {D : va_G} {ad : Ky → Nat} {tc : Tc} {A : Nat → Prop} {cs sl : Nat} {Qm : State → Prop} (X : Cx p s m args c cX6_round RX6 9 D ad tc A) (hR : RmOK R cs sl 4 108) {Q : Mem → Prop} (hret : RtV p l e R s m args below meth c D ad tc A cs sl Qm cX6_round Q) {s1 : Int} {σ : Mem} (h : Mo_round_306 Q s1 σ) : AW p l e R s m args below meth c D ad tc A cs sl Qm 306 [some (.ref (ad (6, 0, 0))), none, none, none, none, none, none, none, none] [.int (oI s1), .ref (ad (6, 0, 0))] σ := by
  unfold Mo_round_306 at h
  refine aw_put X ob_6 fl_X6_114 (sf_6_28 ad) rfl rfl dX6_round_306 ?_
  obtain ⟨σ1, eσ1⟩ : ∃ z : Mem, z = up σ 6 0 28 0 s1 := ⟨_, rfl⟩
  replace h := h σ1 eσ1
  refine aw_mem eσ1 ?_
  refine aw_aload_n X dX6_round_309 rfl ?_
  refine aw_dup X dX6_round_310 rfl ?_
  refine aw_get X ob_6 fl_X6_111 rfl dX6_round_311 ?_
  refine aw_iconst X dX6_round_314 ?_
  refine aw_iadd X dX6_round_315 ?_
  refine aw_put X ob_6 fl_X6_111 (sf_6_27 ad) rfl rfl dX6_round_316 ?_
  obtain ⟨σ2, eσ2⟩ : ∃ z : Mem, z = up σ1 6 0 27 0 ((σ1 6 0 27 0) + 1) := ⟨_, rfl⟩
  replace h := h σ2 eσ2
  refine aw_mem eσ2 ?_
  exact hret 319 _ _ dX6_round_319 h

set_option maxHeartbeats 4000000 in
set_option maxRecDepth 100000 in
theorem m_Mo_round_305 {p : Program} {l : Launch} {e : Env} {R : Room} {s : State} {m : MethodId} {args : Array Value} {below : List Frame} {meth : Method} {c : Code} {D : va_G} {ad : Ky → Nat} {tc : Tc} {A : Nat → Prop} {cs sl : Nat} {Qm : State → Prop} (X : Cx p s m args c cX6_round RX6 9 D ad tc A) (hR : RmOK R cs sl 4 108) {Q : Mem → Prop} (hret : RtV p l e R s m args below meth c D ad tc A cs sl Qm cX6_round Q) {σ : Mem} (h : Mo_round_305 Q σ) : AW p l e R s m args below meth c D ad tc A cs sl Qm 305 [some (.ref (ad (6, 0, 0))), none, none, none, none, none, none, none, none] [.ref (ad (6, 0, 0))] σ := by
  unfold Mo_round_305 at h
  refine aw_iconst X dX6_round_305 ?_
  refine aw_weak (als' := [some (.ref (ad (6, 0, 0))), none, none, none, none, none, none, none, none]) ⟨rfl, trivial⟩ ?_
  exact m_Mo_round_306 X hR hret h

set_option maxHeartbeats 4000000 in
set_option maxRecDepth 100000 in
theorem m_Mo_round_282 {p : Program} {l : Launch} {e : Env} {R : Room} {s : State} {m : MethodId} {args : Array Value} {below : List Frame} {meth : Method} {c : Code} {D : va_G} {ad : Ky → Nat} {tc : Tc} {A : Nat → Prop} {cs sl : Nat} {Qm : State → Prop} (X : Cx p s m args c cX6_round RX6 9 D ad tc A) (hR : RmOK R cs sl 4 108) {Q : Mem → Prop} (hret : RtV p l e R s m args below meth c D ad tc A cs sl Qm cX6_round Q) {σ : Mem} (h : Mo_round_282 Q σ) : AW p l e R s m args below meth c D ad tc A cs sl Qm 282 [some (.ref (ad (6, 0, 0))), none, none, none, none, none, none, none, none] [] σ := by
  unfold Mo_round_282 at h
  refine aw_aload_n X dX6_round_282 rfl ?_
  refine aw_aload_n X dX6_round_283 rfl ?_
  refine aw_get X ob_6 fl_X6_117 rfl dX6_round_284 ?_
  obtain ⟨g1, h⟩ := h
  refine aw_if_eq X dX6_round_287 (tgt := 305) (by decide) g1 (fun hc => ?_) (fun hc => ?_)
  · replace h := h.1 hc
    refine aw_weak (als' := [some (.ref (ad (6, 0, 0))), none, none, none, none, none, none, none, none]) ⟨rfl, trivial⟩ ?_
    exact m_Mo_round_305 X hR hret h
  · replace h := h.2 hc
    refine aw_aload_n X dX6_round_290 rfl ?_
    refine aw_get X ob_6 fl_X6_200 rfl dX6_round_291 ?_
    refine aw_aload_n X dX6_round_294 rfl ?_
    refine aw_get X ob_6 fl_X6_214 rfl dX6_round_295 ?_
    obtain ⟨g2, h⟩ := h
    obtain ⟨g3, h⟩ := h
    refine aw_icmp_lt X dX6_round_298 (tgt := 305) (by decide) g2 g3 (fun hc => ?_) (fun hc => ?_)
    · replace h := h.1 hc
      refine aw_weak (als' := [some (.ref (ad (6, 0, 0))), none, none, none, none, none, none, none, none]) ⟨rfl, trivial⟩ ?_
      exact m_Mo_round_305 X hR hret h
    · replace h := h.2 hc
      refine aw_iconst X dX6_round_301 ?_
      refine aw_goto X dX6_round_302 (tgt := 306) (by decide) ?_
      refine aw_weak (als' := [some (.ref (ad (6, 0, 0))), none, none, none, none, none, none, none, none]) ⟨rfl, trivial⟩ ?_
      exact m_Mo_round_306 X hR hret h

set_option maxHeartbeats 4000000 in
set_option maxRecDepth 100000 in
theorem m_Mo_round_255 {p : Program} {l : Launch} {e : Env} {R : Room} {s : State} {m : MethodId} {args : Array Value} {below : List Frame} {meth : Method} {c : Code} {D : va_G} {ad : Ky → Nat} {tc : Tc} {A : Nat → Prop} {cs sl : Nat} {Qm : State → Prop} (X : Cx p s m args c cX6_round RX6 9 D ad tc A) (hR : RmOK R cs sl 4 108) {Q : Mem → Prop} (hret : RtV p l e R s m args below meth c D ad tc A cs sl Qm cX6_round Q) : ∀ (n : Nat) (l4 : Int) (σ : Mem), Mo_round_255 Q n l4 σ → AW p l e R s m args below meth c D ad tc A cs sl Qm 255 [some (.ref (ad (6, 0, 0))), none, none, none, some (.int (oI l4)), none, none, none, none] [] σ := by
  intro n
  induction n with
  | zero =>
    intro l4 σ h
    exact False.elim h
  | succ n ih =>
    intro l4 σ h
    unfold Mo_round_255 at h
    refine aw_iload X dX6_round_255 rfl ?_
    refine aw_bipush X dX6_round_257 rfl ?_
    obtain ⟨g1, h⟩ := h
    refine aw_icmp_ge X dX6_round_259 (tgt := 282) (by decide) g1 ⟨by decide, by decide⟩ (fun hc => ?_) (fun hc => ?_)
    · replace h := h.1 hc
      refine aw_weak (als' := [some (.ref (ad (6, 0, 0))), none, none, none, none, none, none, none, none]) ⟨rfl, trivial⟩ ?_
      exact m_Mo_round_282 X hR hret h
    · replace h := h.2 hc
      refine aw_aload_n X dX6_round_262 rfl ?_
      refine aw_get X ob_6 fl_X6_84 rfl dX6_round_263 ?_
      refine aw_iload X dX6_round_266 rfl ?_
      refine aw_aload_n X dX6_round_268 rfl ?_
      refine aw_get X ob_6 fl_X6_87 rfl dX6_round_269 ?_
      refine aw_iload X dX6_round_272 rfl ?_
      obtain ⟨g3a, g3b, h⟩ := h
      refine aw_iald X ar_6_34 g3a g3b dX6_round_274 ?_
      obtain ⟨g4a, g4b, h⟩ := h
      refine aw_iast X ar_6_33 g4a g4b dX6_round_275 ?_
      obtain ⟨σ4, eσ4⟩ : ∃ z : Mem, z = up σ 6 0 33 l4 (σ 6 0 34 l4) := ⟨_, rfl⟩
      replace h := h σ4 eσ4
      refine aw_mem eσ4 ?_
      refine aw_iinc X dX6_round_276 rfl rfl ?_
      obtain ⟨x5, ex5⟩ : ∃ z : Int, z = (l4 + 1) := ⟨_, rfl⟩
      replace h := h x5 ex5
      refine aw_als (als' := [some (.ref (ad (6, 0, 0))), none, none, none, some (.int (oI x5)), none, none, none, none]) (by subst ex5; rfl) ?_
      refine aw_goto X dX6_round_279 (tgt := 255) (by decide) ?_
      refine aw_weak (als' := [some (.ref (ad (6, 0, 0))), none, none, none, some (.int (oI x5)), none, none, none, none]) ⟨rfl, rfl, trivial⟩ ?_
      exact ih _ _ h

set_option maxHeartbeats 4000000 in
set_option maxRecDepth 100000 in
theorem m_Mo_round_242 {p : Program} {l : Launch} {e : Env} {R : Room} {s : State} {m : MethodId} {args : Array Value} {below : List Frame} {meth : Method} {c : Code} {D : va_G} {ad : Ky → Nat} {tc : Tc} {A : Nat → Prop} {cs sl : Nat} {Qm : State → Prop} (X : Cx p s m args c cX6_round RX6 9 D ad tc A) (hR : RmOK R cs sl 4 108) {Q : Mem → Prop} (hret : RtV p l e R s m args below meth c D ad tc A cs sl Qm cX6_round Q) {l3 : Int} {σ : Mem} (h : Mo_round_242 Q l3 σ) : AW p l e R s m args below meth c D ad tc A cs sl Qm 242 [some (.ref (ad (6, 0, 0))), none, none, some (.int (oI l3)), none, none, none, none, none] [] σ := by
  unfold Mo_round_242 at h
  refine aw_aload_n X dX6_round_242 rfl ?_
  refine aw_iconst X dX6_round_243 ?_
  refine aw_put X ob_6 fl_X6_117 (sf_6_29 ad) (nar_z2 (by decide)).1 (nar_z2 (by decide)).2 dX6_round_244 ?_
  obtain ⟨σ1, eσ1⟩ : ∃ z : Mem, z = up σ 6 0 29 0 1 := ⟨_, rfl⟩
  replace h := h σ1 eσ1
  refine aw_mem eσ1 ?_
  refine aw_aload_n X dX6_round_247 rfl ?_
  refine aw_iload_n X dX6_round_248 rfl ?_
  refine aw_put X ob_6 fl_X6_214 (sf_6_32 ad) rfl rfl dX6_round_249 ?_
  obtain ⟨σ2, eσ2⟩ : ∃ z : Mem, z = up σ1 6 0 32 0 l3 := ⟨_, rfl⟩
  replace h := h σ2 eσ2
  refine aw_mem eσ2 ?_
  refine aw_iconst X dX6_round_252 ?_
  refine aw_istore X dX6_round_253 (Nat.le_of_ble_eq_true rfl) rfl ?_
  refine aw_als (als' := [some (.ref (ad (6, 0, 0))), none, none, some (.int (oI l3)), some (.int (oI 0)), none, none, none, none]) rfl ?_
  refine aw_weak (als' := [some (.ref (ad (6, 0, 0))), none, none, none, some (.int (oI 0)), none, none, none, none]) ⟨rfl, rfl, trivial⟩ ?_
  obtain ⟨n0, h⟩ := h
  exact m_Mo_round_255 X hR hret n0 _ _ h

set_option maxHeartbeats 4000000 in
set_option maxRecDepth 100000 in
theorem m_Mo_round_211 {p : Program} {l : Launch} {e : Env} {R : Room} {s : State} {m : MethodId} {args : Array Value} {below : List Frame} {meth : Method} {c : Code} {D : va_G} {ad : Ky → Nat} {tc : Tc} {A : Nat → Prop} {cs sl : Nat} {Qm : State → Prop} (X : Cx p s m args c cX6_round RX6 9 D ad tc A) (hR : RmOK R cs sl 4 108) {Q : Mem → Prop} (hret : RtV p l e R s m args below meth c D ad tc A cs sl Qm cX6_round Q) {k67 : Int → Int → Int → Int → Int → Int → Mem → Prop} (hk67 : ∀ (l1 : Int) (l2 : Int) (l3 : Int) (l4 : Int) (l5 : Int) (l6 : Int) (σ : Mem), k67 l1 l2 l3 l4 l5 l6 σ → AW p l e R s m args below meth c D ad tc A cs sl Qm 67 [some (.ref (ad (6, 0, 0))), some (.int (oI l1)), some (.int (oI l2)), some (.int (oI l3)), some (.int (oI l4)), some (.int (oI l5)), some (.int (oI l6)), none, none] [] σ) {l1 : Int} {l2 : Int} {l3 : Int} {l4 : Int} {l5 : Int} {l6 : Int} {σ : Mem} (h : Mo_round_211 k67 Q l1 l2 l3 l4 l5 l6 σ) : AW p l e R s m args below meth c D ad tc A cs sl Qm 211 [some (.ref (ad (6, 0, 0))), some (.int (oI l1)), some (.int (oI l2)), some (.int (oI l3)), some (.int (oI l4)), some (.int (oI l5)), some (.int (oI l6)), none, none] [] σ := by
  unfold Mo_round_211 at h
  refine aw_iinc X dX6_round_211 rfl rfl ?_
  obtain ⟨x1, ex1⟩ : ∃ z : Int, z = (l6 + 1) := ⟨_, rfl⟩
  replace h := h x1 ex1
  refine aw_als (als' := [some (.ref (ad (6, 0, 0))), some (.int (oI l1)), some (.int (oI l2)), some (.int (oI l3)), some (.int (oI l4)), some (.int (oI l5)), some (.int (oI x1)), none, none]) (by subst ex1; rfl) ?_
  refine aw_goto X dX6_round_214 (tgt := 67) (by decide) ?_
  refine aw_weak (als' := [some (.ref (ad (6, 0, 0))), some (.int (oI l1)), some (.int (oI l2)), some (.int (oI l3)), some (.int (oI l4)), some (.int (oI l5)), some (.int (oI x1)), none, none]) ⟨rfl, rfl, rfl, rfl, rfl, rfl, rfl, trivial⟩ ?_
  exact hk67 _ _ _ _ _ _ _ h

set_option maxHeartbeats 4000000 in
set_option maxRecDepth 100000 in
theorem m_Mo_round_206 {p : Program} {l : Launch} {e : Env} {R : Room} {s : State} {m : MethodId} {args : Array Value} {below : List Frame} {meth : Method} {c : Code} {D : va_G} {ad : Ky → Nat} {tc : Tc} {A : Nat → Prop} {cs sl : Nat} {Qm : State → Prop} (X : Cx p s m args c cX6_round RX6 9 D ad tc A) (hR : RmOK R cs sl 4 108) {Q : Mem → Prop} (hret : RtV p l e R s m args below meth c D ad tc A cs sl Qm cX6_round Q) {k67 : Int → Int → Int → Int → Int → Int → Mem → Prop} (hk67 : ∀ (l1 : Int) (l2 : Int) (l3 : Int) (l4 : Int) (l5 : Int) (l6 : Int) (σ : Mem), k67 l1 l2 l3 l4 l5 l6 σ → AW p l e R s m args below meth c D ad tc A cs sl Qm 67 [some (.ref (ad (6, 0, 0))), some (.int (oI l1)), some (.int (oI l2)), some (.int (oI l3)), some (.int (oI l4)), some (.int (oI l5)), some (.int (oI l6)), none, none] [] σ) {l1 : Int} {l2 : Int} {l3 : Int} {l4 : Int} {l5 : Int} {l6 : Int} {l7 : Int} {s1 : Int} {s2 : Int} {s3 : Int} {s4 : Int} {σ : Mem} (h : Mo_round_206 k67 Q l1 l2 l3 l4 l5 l6 l7 s1 s2 s3 s4 σ) : AW p l e R s m args below meth c D ad tc A cs sl Qm 206 [some (.ref (ad (6, 0, 0))), some (.int (oI l1)), some (.int (oI l2)), some (.int (oI l3)), some (.int (oI l4)), some (.int (oI l5)), some (.int (oI l6)), some (.int (oI l7)), none] [.int (oI s4), .int (oI s3), .int (oI s2), .int (oI s1), .ref (ad (6, 0, 0))] σ := by
  unfold Mo_round_206 at h
  refine aw_iload X dX6_round_206 rfl ?_
  refine aw_callVV X hR (s_Mo_addCut l D ad tc X.2.2.2.2.2.2.1 h) ml_X6_210 ob_6 rfl (by decide) (by decide) rfl rfl rfl rfl (Nat.le_of_ble_eq_true rfl) rfl dX6_round_208 (fun σ1 h => ?_)
  refine aw_weak (als' := [some (.ref (ad (6, 0, 0))), some (.int (oI l1)), some (.int (oI l2)), some (.int (oI l3)), some (.int (oI l4)), some (.int (oI l5)), some (.int (oI l6)), none, none]) ⟨rfl, rfl, rfl, rfl, rfl, rfl, rfl, trivial⟩ ?_
  exact m_Mo_round_211 X hR hret hk67 h

set_option maxHeartbeats 4000000 in
set_option maxRecDepth 100000 in
theorem m_Mo_round_182 {p : Program} {l : Launch} {e : Env} {R : Room} {s : State} {m : MethodId} {args : Array Value} {below : List Frame} {meth : Method} {c : Code} {D : va_G} {ad : Ky → Nat} {tc : Tc} {A : Nat → Prop} {cs sl : Nat} {Qm : State → Prop} (X : Cx p s m args c cX6_round RX6 9 D ad tc A) (hR : RmOK R cs sl 4 108) {Q : Mem → Prop} (hret : RtV p l e R s m args below meth c D ad tc A cs sl Qm cX6_round Q) {k67 : Int → Int → Int → Int → Int → Int → Mem → Prop} (hk67 : ∀ (l1 : Int) (l2 : Int) (l3 : Int) (l4 : Int) (l5 : Int) (l6 : Int) (σ : Mem), k67 l1 l2 l3 l4 l5 l6 σ → AW p l e R s m args below meth c D ad tc A cs sl Qm 67 [some (.ref (ad (6, 0, 0))), some (.int (oI l1)), some (.int (oI l2)), some (.int (oI l3)), some (.int (oI l4)), some (.int (oI l5)), some (.int (oI l6)), none, none] [] σ) {l1 : Int} {l3 : Int} {l4 : Int} {l5 : Int} {l6 : Int} {l7 : Int} {s0 : Int} {σ : Mem} (h : Mo_round_182 k67 Q l1 l3 l4 l5 l6 l7 s0 σ) : AW p l e R s m args below meth c D ad tc A cs sl Qm 182 [some (.ref (ad (6, 0, 0))), some (.int (oI l1)), none, some (.int (oI l3)), some (.int (oI l4)), some (.int (oI l5)), some (.int (oI l6)), some (.int (oI l7)), none] [.int (oI s0)] σ := by
  unfold Mo_round_182 at h
  refine aw_istore_n X dX6_round_182 (Nat.le_of_ble_eq_true rfl) rfl ?_
  refine aw_als (als' := [some (.ref (ad (6, 0, 0))), some (.int (oI l1)), some (.int (oI s0)), some (.int (oI l3)), some (.int (oI l4)), some (.int (oI l5)), some (.int (oI l6)), some (.int (oI l7)), none]) rfl ?_
  refine aw_iload_n X dX6_round_183 rfl ?_
  obtain ⟨g1, h⟩ := h
  refine aw_if_ne X dX6_round_184 (tgt := 211) (by decide) g1 (fun hc => ?_) (fun hc => ?_)
  · replace h := h.1 hc
    refine aw_weak (als' := [some (.ref (ad (6, 0, 0))), some (.int (oI l1)), some (.int (oI s0)), some (.int (oI l3)), some (.int (oI l4)), some (.int (oI l5)), some (.int (oI l6)), none, none]) ⟨rfl, rfl, rfl, rfl, rfl, rfl, rfl, trivial⟩ ?_
    exact m_Mo_round_211 X hR hret hk67 h
  · replace h := h.2 hc
    refine aw_aload_n X dX6_round_187 rfl ?_
    refine aw_iload X dX6_round_188 rfl ?_
    refine aw_iload X dX6_round_190 rfl ?_
    refine aw_iload X dX6_round_192 rfl ?_
    refine aw_iload X dX6_round_194 rfl ?_
    refine aw_bipush X dX6_round_196 rfl ?_
    obtain ⟨g2, h⟩ := h
    refine aw_icmp_eq X dX6_round_198 (tgt := 205) (by decide) g2 ⟨by decide, by decide⟩ (fun hc => ?_) (fun hc => ?_)
    · replace h := h.1 hc
      refine aw_iconst X dX6_round_205 ?_
      refine aw_weak (als' := [some (.ref (ad (6, 0, 0))), some (.int (oI l1)), some (.int (oI s0)), some (.int (oI l3)), some (.int (oI l4)), some (.int (oI l5)), some (.int (oI l6)), some (.int (oI l7)), none]) ⟨rfl, rfl, rfl, rfl, rfl, rfl, rfl, rfl, trivial⟩ ?_
      exact m_Mo_round_206 X hR hret hk67 h
    · replace h := h.2 hc
      refine aw_iconst X dX6_round_201 ?_
      refine aw_goto X dX6_round_202 (tgt := 206) (by decide) ?_
      refine aw_weak (als' := [some (.ref (ad (6, 0, 0))), some (.int (oI l1)), some (.int (oI s0)), some (.int (oI l3)), some (.int (oI l4)), some (.int (oI l5)), some (.int (oI l6)), some (.int (oI l7)), none]) ⟨rfl, rfl, rfl, rfl, rfl, rfl, rfl, rfl, trivial⟩ ?_
      exact m_Mo_round_206 X hR hret hk67 h

set_option maxHeartbeats 4000000 in
set_option maxRecDepth 100000 in
theorem m_Mo_round_177 {p : Program} {l : Launch} {e : Env} {R : Room} {s : State} {m : MethodId} {args : Array Value} {below : List Frame} {meth : Method} {c : Code} {D : va_G} {ad : Ky → Nat} {tc : Tc} {A : Nat → Prop} {cs sl : Nat} {Qm : State → Prop} (X : Cx p s m args c cX6_round RX6 9 D ad tc A) (hR : RmOK R cs sl 4 108) {Q : Mem → Prop} (hret : RtV p l e R s m args below meth c D ad tc A cs sl Qm cX6_round Q) {k67 : Int → Int → Int → Int → Int → Int → Mem → Prop} (hk67 : ∀ (l1 : Int) (l2 : Int) (l3 : Int) (l4 : Int) (l5 : Int) (l6 : Int) (σ : Mem), k67 l1 l2 l3 l4 l5 l6 σ → AW p l e R s m args below meth c D ad tc A cs sl Qm 67 [some (.ref (ad (6, 0, 0))), some (.int (oI l1)), some (.int (oI l2)), some (.int (oI l3)), some (.int (oI l4)), some (.int (oI l5)), some (.int (oI l6)), none, none] [] σ) {l1 : Int} {l3 : Int} {l4 : Int} {l5 : Int} {l6 : Int} {l7 : Int} {σ : Mem} (h : Mo_round_177 k67 Q l1 l3 l4 l5 l6 l7 σ) : AW p l e R s m args below meth c D ad tc A cs sl Qm 177 [some (.ref (ad (6, 0, 0))), some (.int (oI l1)), none, some (.int (oI l3)), some (.int (oI l4)), some (.int (oI l5)), some (.int (oI l6)), some (.int (oI l7)), none] [] σ := by
  unfold Mo_round_177 at h
  refine aw_iconst X dX6_round_177 ?_
  refine aw_goto X dX6_round_178 (tgt := 182) (by decide) ?_
  refine aw_weak (als' := [some (.ref (ad (6, 0, 0))), some (.int (oI l1)), none, some (.int (oI l3)), some (.int (oI l4)), some (.int (oI l5)), some (.int (oI l6)), some (.int (oI l7)), none]) ⟨rfl, rfl, rfl, rfl, rfl, rfl, rfl, trivial⟩ ?_
  exact m_Mo_round_182 X hR hret hk67 h

set_option maxHeartbeats 4000000 in
set_option maxRecDepth 100000 in
theorem m_Mo_round_163 {p : Program} {l : Launch} {e : Env} {R : Room} {s : State} {m : MethodId} {args : Array Value} {below : List Frame} {meth : Method} {c : Code} {D : va_G} {ad : Ky → Nat} {tc : Tc} {A : Nat → Prop} {cs sl : Nat} {Qm : State → Prop} (X : Cx p s m args c cX6_round RX6 9 D ad tc A) (hR : RmOK R cs sl 4 108) {Q : Mem → Prop} (hret : RtV p l e R s m args below meth c D ad tc A cs sl Qm cX6_round Q) {k67 : Int → Int → Int → Int → Int → Int → Mem → Prop} (hk67 : ∀ (l1 : Int) (l2 : Int) (l3 : Int) (l4 : Int) (l5 : Int) (l6 : Int) (σ : Mem), k67 l1 l2 l3 l4 l5 l6 σ → AW p l e R s m args below meth c D ad tc A cs sl Qm 67 [some (.ref (ad (6, 0, 0))), some (.int (oI l1)), some (.int (oI l2)), some (.int (oI l3)), some (.int (oI l4)), some (.int (oI l5)), some (.int (oI l6)), none, none] [] σ) {l1 : Int} {l2 : Int} {l3 : Int} {l4 : Int} {l5 : Int} {l6 : Int} {l7 : Int} {σ : Mem} (h : Mo_round_163 k67 Q l1 l2 l3 l4 l5 l6 l7 σ) : AW p l e R s m args below meth c D ad tc A cs sl Qm 163 [some (.ref (ad (6, 0, 0))), some (.int (oI l1)), some (.int (oI l2)), some (.int (oI l3)), some (.int (oI l4)), some (.int (oI l5)), some (.int (oI l6)), some (.int (oI l7)), none] [] σ := by
  unfold Mo_round_163 at h
  refine aw_iload_n X dX6_round_163 rfl ?_
  obtain ⟨g1, h⟩ := h
  refine aw_if_ne X dX6_round_164 (tgt := 177) (by decide) g1 (fun hc => ?_) (fun hc => ?_)
  · replace h := h.1 hc
    refine aw_weak (als' := [some (.ref (ad (6, 0, 0))), some (.int (oI l1)), none, some (.int (oI l3)), some (.int (oI l4)), some (.int (oI l5)), some (.int (oI l6)), some (.int (oI l7)), none]) ⟨rfl, rfl, rfl, rfl, rfl, rfl, rfl, trivial⟩ ?_
    exact m_Mo_round_177 X hR hret hk67 h
  · replace h := h.2 hc
    refine aw_aload_n X dX6_round_167 rfl ?_
    refine aw_get X ob_6 fl_X6_124 rfl dX6_round_168 ?_
    refine aw_sipush X dX6_round_171 rfl ?_
    obtain ⟨g2, h⟩ := h
    refine aw_icmp_ne X dX6_round_174 (tgt := 181) (by decide) g2 ⟨by decide, by decide⟩ (fun hc => ?_) (fun hc => ?_)
    · replace h := h.1 hc
      refine aw_iconst X dX6_round_181 ?_
      refine aw_weak (als' := [some (.ref (ad (6, 0, 0))), some (.int (oI l1)), none, some (.int (oI l3)), some (.int (oI l4)), some (.int (oI l5)), some (.int (oI l6)), some (.int (oI l7)), none]) ⟨rfl, rfl, rfl, rfl, rfl, rfl, rfl, trivial⟩ ?_
      exact m_Mo_round_182 X hR hret hk67 h
    · replace h := h.2 hc
      refine aw_weak (als' := [some (.ref (ad (6, 0, 0))), some (.int (oI l1)), none, some (.int (oI l3)), some (.int (oI l4)), some (.int (oI l5)), some (.int (oI l6)), some (.int (oI l7)), none]) ⟨rfl, rfl, rfl, rfl, rfl, rfl, rfl, trivial⟩ ?_
      exact m_Mo_round_177 X hR hret hk67 h

set_option maxHeartbeats 4000000 in
set_option maxRecDepth 100000 in
theorem m_Mo_round_147 {p : Program} {l : Launch} {e : Env} {R : Room} {s : State} {m : MethodId} {args : Array Value} {below : List Frame} {meth : Method} {c : Code} {D : va_G} {ad : Ky → Nat} {tc : Tc} {A : Nat → Prop} {cs sl : Nat} {Qm : State → Prop} (X : Cx p s m args c cX6_round RX6 9 D ad tc A) (hR : RmOK R cs sl 4 108) {Q : Mem → Prop} (hret : RtV p l e R s m args below meth c D ad tc A cs sl Qm cX6_round Q) {k67 : Int → Int → Int → Int → Int → Int → Mem → Prop} (hk67 : ∀ (l1 : Int) (l2 : Int) (l3 : Int) (l4 : Int) (l5 : Int) (l6 : Int) (σ : Mem), k67 l1 l2 l3 l4 l5 l6 σ → AW p l e R s m args below meth c D ad tc A cs sl Qm 67 [some (.ref (ad (6, 0, 0))), some (.int (oI l1)), some (.int (oI l2)), some (.int (oI l3)), some (.int (oI l4)), some (.int (oI l5)), some (.int (oI l6)), none, none] [] σ) {l1 : Int} {l2 : Int} {l4 : Int} {l5 : Int} {l6 : Int} {l7 : Int} {l8 : Int} {s0 : Int} {s1 : Int} {σ : Mem} (h : Mo_round_147 k67 Q l1 l2 l4 l5 l6 l7 l8 s0 s1 σ) : AW p l e R s m args below meth c D ad tc A cs sl Qm 147 [some (.ref (ad (6, 0, 0))), some (.int (oI l1)), some (.int (oI l2)), none, some (.int (oI l4)), some (.int (oI l5)), some (.int (oI l6)), some (.int (oI l7)), some (.int (oI l8))] [.int (oI s1), .int (oI s0)] σ := by
  unfold Mo_round_147 at h
  refine aw_iadd X dX6_round_147 ?_
  refine aw_istore_n X dX6_round_148 (Nat.le_of_ble_eq_true rfl) rfl ?_
  obtain ⟨x1, ex1⟩ : ∃ z : Int, z = (s0 + s1) := ⟨_, rfl⟩
  replace h := h x1 ex1
  refine aw_als (als' := [some (.ref (ad (6, 0, 0))), some (.int (oI l1)), some (.int (oI l2)), some (.int (oI x1)), some (.int (oI l4)), some (.int (oI l5)), some (.int (oI l6)), some (.int (oI l7)), some (.int (oI l8))]) (by subst ex1; rfl) ?_
  refine aw_iload X dX6_round_149 rfl ?_
  refine aw_bipush X dX6_round_151 rfl ?_
  obtain ⟨g2, h⟩ := h
  refine aw_icmp_eq X dX6_round_153 (tgt := 163) (by decide) g2 ⟨by decide, by decide⟩ (fun hc => ?_) (fun hc => ?_)
  · replace h := h.1 hc
    refine aw_weak (als' := [some (.ref (ad (6, 0, 0))), some (.int (oI l1)), some (.int (oI l2)), some (.int (oI x1)), some (.int (oI l4)), some (.int (oI l5)), some (.int (oI l6)), some (.int (oI l7)), none]) ⟨rfl, rfl, rfl, rfl, rfl, rfl, rfl, rfl, trivial⟩ ?_
    exact m_Mo_round_163 X hR hret hk67 h
  · replace h := h.2 hc
    refine aw_iload X dX6_round_156 rfl ?_
    refine aw_iload X dX6_round_158 rfl ?_
    obtain ⟨g4, h⟩ := h
    obtain ⟨g5, h⟩ := h
    refine aw_icmp_le X dX6_round_160 (tgt := 211) (by decide) g4 g5 (fun hc => ?_) (fun hc => ?_)
    · replace h := h.1 hc
      refine aw_weak (als' := [some (.ref (ad (6, 0, 0))), some (.int (oI l1)), some (.int (oI l2)), some (.int (oI x1)), some (.int (oI l4)), some (.int (oI l5)), some (.int (oI l6)), none, none]) ⟨rfl, rfl, rfl, rfl, rfl, rfl, rfl, trivial⟩ ?_
      exact m_Mo_round_211 X hR hret hk67 h
    · replace h := h.2 hc
      refine aw_weak (als' := [some (.ref (ad (6, 0, 0))), some (.int (oI l1)), some (.int (oI l2)), some (.int (oI x1)), some (.int (oI l4)), some (.int (oI l5)), some (.int (oI l6)), some (.int (oI l7)), none]) ⟨rfl, rfl, rfl, rfl, rfl, rfl, rfl, rfl, trivial⟩ ?_
      exact m_Mo_round_163 X hR hret hk67 h

set_option maxHeartbeats 4000000 in
set_option maxRecDepth 100000 in
theorem m_Mo_round_124 {p : Program} {l : Launch} {e : Env} {R : Room} {s : State} {m : MethodId} {args : Array Value} {below : List Frame} {meth : Method} {c : Code} {D : va_G} {ad : Ky → Nat} {tc : Tc} {A : Nat → Prop} {cs sl : Nat} {Qm : State → Prop} (X : Cx p s m args c cX6_round RX6 9 D ad tc A) (hR : RmOK R cs sl 4 108) {Q : Mem → Prop} (hret : RtV p l e R s m args below meth c D ad tc A cs sl Qm cX6_round Q) {k67 : Int → Int → Int → Int → Int → Int → Mem → Prop} (hk67 : ∀ (l1 : Int) (l2 : Int) (l3 : Int) (l4 : Int) (l5 : Int) (l6 : Int) (σ : Mem), k67 l1 l2 l3 l4 l5 l6 σ → AW p l e R s m args below meth c D ad tc A cs sl Qm 67 [some (.ref (ad (6, 0, 0))), some (.int (oI l1)), some (.int (oI l2)), some (.int (oI l3)), some (.int (oI l4)), some (.int (oI l5)), some (.int (oI l6)), none, none] [] σ) {l2 : Int} {l3 : Int} {l4 : Int} {l5 : Int} {l6 : Int} {l7 : Int} {l8 : Int} {s0 : Int} {σ : Mem} (h : Mo_round_124 k67 Q l2 l3 l4 l5 l6 l7 l8 s0 σ) : AW p l e R s m args below meth c D ad tc A cs sl Qm 124 [some (.ref (ad (6, 0, 0))), none, some (.int (oI l2)), some (.int (oI l3)), some (.int (oI l4)), some (.int (oI l5)), some (.int (oI l6)), some (.int (oI l7)), some (.int (oI l8))] [.int (oI s0)] σ := by
  unfold Mo_round_124 at h
  refine aw_istore_n X dX6_round_124 (Nat.le_of_ble_eq_true rfl) rfl ?_
  refine aw_als (als' := [some (.ref (ad (6, 0, 0))), some (.int (oI s0)), some (.int (oI l2)), some (.int (oI l3)), some (.int (oI l4)), some (.int (oI l5)), some (.int (oI l6)), some (.int (oI l7)), some (.int (oI l8))]) rfl ?_
  refine aw_iload_n X dX6_round_125 rfl ?_
  refine aw_iload X dX6_round_126 rfl ?_
  refine aw_bipush X dX6_round_128 rfl ?_
  obtain ⟨g1, h⟩ := h
  refine aw_icmp_ne X dX6_round_130 (tgt := 137) (by decide) g1 ⟨by decide, by decide⟩ (fun hc => ?_) (fun hc => ?_)
  · replace h := h.1 hc
    refine aw_aload_n X dX6_round_137 rfl ?_
    refine aw_get X ob_6 fl_X6_27 rfl dX6_round_138 ?_
    refine aw_iload X dX6_round_141 rfl ?_
    obtain ⟨g3a, g3b, h⟩ := h
    refine aw_iald X ar_6_6 g3a g3b dX6_round_143 ?_
    refine aw_iload X dX6_round_144 rfl ?_
    refine aw_imul X dX6_round_146 ?_
    refine aw_weak (als' := [some (.ref (ad (6, 0, 0))), some (.int (oI s0)), some (.int (oI l2)), none, some (.int (oI l4)), some (.int (oI l5)), some (.int (oI l6)), some (.int (oI l7)), some (.int (oI l8))]) ⟨rfl, rfl, rfl, rfl, rfl, rfl, rfl, rfl, trivial⟩ ?_
    exact m_Mo_round_147 X hR hret hk67 h
  · replace h := h.2 hc
    refine aw_iconst X dX6_round_133 ?_
    refine aw_goto X dX6_round_134 (tgt := 147) (by decide) ?_
    refine aw_weak (als' := [some (.ref (ad (6, 0, 0))), some (.int (oI s0)), some (.int (oI l2)), none, some (.int (oI l4)), some (.int (oI l5)), some (.int (oI l6)), some (.int (oI l7)), some (.int (oI l8))]) ⟨rfl, rfl, rfl, rfl, rfl, rfl, rfl, rfl, trivial⟩ ?_
    exact m_Mo_round_147 X hR hret hk67 h

set_option maxHeartbeats 4000000 in
set_option maxRecDepth 100000 in
theorem m_Mo_round_123 {p : Program} {l : Launch} {e : Env} {R : Room} {s : State} {m : MethodId} {args : Array Value} {below : List Frame} {meth : Method} {c : Code} {D : va_G} {ad : Ky → Nat} {tc : Tc} {A : Nat → Prop} {cs sl : Nat} {Qm : State → Prop} (X : Cx p s m args c cX6_round RX6 9 D ad tc A) (hR : RmOK R cs sl 4 108) {Q : Mem → Prop} (hret : RtV p l e R s m args below meth c D ad tc A cs sl Qm cX6_round Q) {k67 : Int → Int → Int → Int → Int → Int → Mem → Prop} (hk67 : ∀ (l1 : Int) (l2 : Int) (l3 : Int) (l4 : Int) (l5 : Int) (l6 : Int) (σ : Mem), k67 l1 l2 l3 l4 l5 l6 σ → AW p l e R s m args below meth c D ad tc A cs sl Qm 67 [some (.ref (ad (6, 0, 0))), some (.int (oI l1)), some (.int (oI l2)), some (.int (oI l3)), some (.int (oI l4)), some (.int (oI l5)), some (.int (oI l6)), none, none] [] σ) {l2 : Int} {l3 : Int} {l4 : Int} {l5 : Int} {l6 : Int} {l7 : Int} {l8 : Int} {σ : Mem} (h : Mo_round_123 k67 Q l2 l3 l4 l5 l6 l7 l8 σ) : AW p l e R s m args below meth c D ad tc A cs sl Qm 123 [some (.ref (ad (6, 0, 0))), none, some (.int (oI l2)), some (.int (oI l3)), some (.int (oI l4)), some (.int (oI l5)), some (.int (oI l6)), some (.int (oI l7)), some (.int (oI l8))] [] σ := by
  unfold Mo_round_123 at h
  refine aw_iconst X dX6_round_123 ?_
  refine aw_weak (als' := [some (.ref (ad (6, 0, 0))), none, some (.int (oI l2)), some (.int (oI l3)), some (.int (oI l4)), some (.int (oI l5)), some (.int (oI l6)), some (.int (oI l7)), some (.int (oI l8))]) ⟨rfl, rfl, rfl, rfl, rfl, rfl, rfl, rfl, trivial⟩ ?_
  exact m_Mo_round_124 X hR hret hk67 h

set_option maxHeartbeats 4000000 in
set_option maxRecDepth 100000 in
theorem m_Mo_round_67 {p : Program} {l : Launch} {e : Env} {R : Room} {s : State} {m : MethodId} {args : Array Value} {below : List Frame} {meth : Method} {c : Code} {D : va_G} {ad : Ky → Nat} {tc : Tc} {A : Nat → Prop} {cs sl : Nat} {Qm : State → Prop} (X : Cx p s m args c cX6_round RX6 9 D ad tc A) (hR : RmOK R cs sl 4 108) {Q : Mem → Prop} (hret : RtV p l e R s m args below meth c D ad tc A cs sl Qm cX6_round Q) {k43 : Int → Int → Int → Int → Mem → Prop} (hk43 : ∀ (l1 : Int) (l2 : Int) (l3 : Int) (l4 : Int) (σ : Mem), k43 l1 l2 l3 l4 σ → AW p l e R s m args below meth c D ad tc A cs sl Qm 43 [some (.ref (ad (6, 0, 0))), some (.int (oI l1)), some (.int (oI l2)), some (.int (oI l3)), some (.int (oI l4)), none, none, none, none] [] σ) : ∀ (n : Nat) (l1 : Int) (l2 : Int) (l3 : Int) (l4 : Int) (l5 : Int) (l6 : Int) (σ : Mem), Mo_round_67 k43 Q n l1 l2 l3 l4 l5 l6 σ → AW p l e R s m args below meth c D ad tc A cs sl Qm 67 [some (.ref (ad (6, 0, 0))), some (.int (oI l1)), some (.int (oI l2)), some (.int (oI l3)), some (.int (oI l4)), some (.int (oI l5)), some (.int (oI l6)), none, none] [] σ := by
  intro n
  induction n with
  | zero =>
    intro l1 l2 l3 l4 l5 l6 σ h
    exact False.elim h
  | succ n ih =>
    intro l1 l2 l3 l4 l5 l6 σ h
    unfold Mo_round_67 at h
    refine aw_iload X dX6_round_67 rfl ?_
    refine aw_aload_n X dX6_round_69 rfl ?_
    refine aw_get X ob_6 fl_X6_23 rfl dX6_round_70 ?_
    obtain ⟨g1, h⟩ := h
    obtain ⟨g2, h⟩ := h
    refine aw_icmp_ge X dX6_round_73 (tgt := 217) (by decide) g1 g2 (fun hc => ?_) (fun hc => ?_)
    · replace h := h.1 hc
      refine aw_iinc X dX6_round_217 rfl rfl ?_
      obtain ⟨x3, ex3⟩ : ∃ z : Int, z = (l4 + 1) := ⟨_, rfl⟩
      replace h := h x3 ex3
      refine aw_als (als' := [some (.ref (ad (6, 0, 0))), some (.int (oI l1)), some (.int (oI l2)), some (.int (oI l3)), some (.int (oI x3)), some (.int (oI l5)), some (.int (oI l6)), none, none]) (by subst ex3; rfl) ?_
      refine aw_goto X dX6_round_220 (tgt := 43) (by decide) ?_
      refine aw_weak (als' := [some (.ref (ad (6, 0, 0))), some (.int (oI l1)), some (.int (oI l2)), some (.int (oI l3)), some (.int (oI x3)), none, none, none, none]) ⟨rfl, rfl, rfl, rfl, rfl, trivial⟩ ?_
      exact hk43 _ _ _ _ _ h
    · replace h := h.2 hc
      refine aw_aload_n X dX6_round_76 rfl ?_
      refine aw_iload X dX6_round_77 rfl ?_
      refine aw_iload X dX6_round_79 rfl ?_
      refine aw_iload X dX6_round_81 rfl ?_
      refine aw_callVI X hR (s_Mo_answerTo l D ad tc X.2.2.2.2.2.2.1 h) ml_X6_171 ob_6 rfl (by decide) (by decide) rfl rfl rfl rfl (Nat.le_of_ble_eq_true rfl) rfl dX6_round_83 (fun r4 σ4 h => ?_)
      refine aw_istore X dX6_round_86 (Nat.le_of_ble_eq_true rfl) rfl ?_
      refine aw_als (als' := [some (.ref (ad (6, 0, 0))), some (.int (oI l1)), some (.int (oI l2)), some (.int (oI l3)), some (.int (oI l4)), some (.int (oI l5)), some (.int (oI l6)), some (.int (oI r4)), none]) rfl ?_
      refine aw_aload_n X dX6_round_88 rfl ?_
      refine aw_get X ob_6 fl_X6_102 rfl dX6_round_89 ?_
      refine aw_bipush X dX6_round_92 rfl ?_
      refine aw_iconst X dX6_round_94 ?_
      refine aw_iload X dX6_round_95 rfl ?_
      refine aw_imul X dX6_round_97 ?_
      refine aw_iload X dX6_round_98 rfl ?_
      refine aw_iadd X dX6_round_100 ?_
      refine aw_imul X dX6_round_101 ?_
      refine aw_iload X dX6_round_102 rfl ?_
      refine aw_iadd X dX6_round_104 ?_
      obtain ⟨g5a, g5b, h⟩ := h
      refine aw_iald X ar_6_39 g5a g5b dX6_round_105 ?_
      refine aw_istore X dX6_round_106 (Nat.le_of_ble_eq_true rfl) rfl ?_
      obtain ⟨x6, ex6⟩ : ∃ z : Int, z = (σ4 6 0 39 ((64 * ((4 * l4) + l6)) + l5)) := ⟨_, rfl⟩
      replace h := h x6 ex6
      refine aw_als (als' := [some (.ref (ad (6, 0, 0))), some (.int (oI l1)), some (.int (oI l2)), some (.int (oI l3)), some (.int (oI l4)), some (.int (oI l5)), some (.int (oI l6)), some (.int (oI r4)), some (.int (oI x6))]) (by subst ex6; rfl) ?_
      refine aw_iload_n X dX6_round_108 rfl ?_
      obtain ⟨g7, h⟩ := h
      refine aw_if_eq X dX6_round_109 (tgt := 123) (by decide) g7 (fun hc => ?_) (fun hc => ?_)
      · replace h := h.1 hc
        refine aw_weak (als' := [some (.ref (ad (6, 0, 0))), none, some (.int (oI l2)), some (.int (oI l3)), some (.int (oI l4)), some (.int (oI l5)), some (.int (oI l6)), some (.int (oI r4)), some (.int (oI x6))]) ⟨rfl, rfl, rfl, rfl, rfl, rfl, rfl, rfl, trivial⟩ ?_
        exact m_Mo_round_123 X hR hret ih h
      · replace h := h.2 hc
        refine aw_iload X dX6_round_112 rfl ?_
        refine aw_bipush X dX6_round_114 rfl ?_
        obtain ⟨g8, h⟩ := h
        refine aw_icmp_eq X dX6_round_116 (tgt := 123) (by decide) g8 ⟨by decide, by decide⟩ (fun hc => ?_) (fun hc => ?_)
        · replace h := h.1 hc
          refine aw_weak (als' := [some (.ref (ad (6, 0, 0))), none, some (.int (oI l2)), some (.int (oI l3)), some (.int (oI l4)), some (.int (oI l5)), some (.int (oI l6)), some (.int (oI r4)), some (.int (oI x6))]) ⟨rfl, rfl, rfl, rfl, rfl, rfl, rfl, rfl, trivial⟩ ?_
          exact m_Mo_round_123 X hR hret ih h
        · replace h := h.2 hc
          refine aw_iconst X dX6_round_119 ?_
          refine aw_goto X dX6_round_120 (tgt := 124) (by decide) ?_
          refine aw_weak (als' := [some (.ref (ad (6, 0, 0))), none, some (.int (oI l2)), some (.int (oI l3)), some (.int (oI l4)), some (.int (oI l5)), some (.int (oI l6)), some (.int (oI r4)), some (.int (oI x6))]) ⟨rfl, rfl, rfl, rfl, rfl, rfl, rfl, rfl, trivial⟩ ?_
          exact m_Mo_round_124 X hR hret ih h

set_option maxHeartbeats 4000000 in
set_option maxRecDepth 100000 in
theorem m_Mo_round_43 {p : Program} {l : Launch} {e : Env} {R : Room} {s : State} {m : MethodId} {args : Array Value} {below : List Frame} {meth : Method} {c : Code} {D : va_G} {ad : Ky → Nat} {tc : Tc} {A : Nat → Prop} {cs sl : Nat} {Qm : State → Prop} (X : Cx p s m args c cX6_round RX6 9 D ad tc A) (hR : RmOK R cs sl 4 108) {Q : Mem → Prop} (hret : RtV p l e R s m args below meth c D ad tc A cs sl Qm cX6_round Q) : ∀ (n : Nat) (l1 : Int) (l2 : Int) (l3 : Int) (l4 : Int) (σ : Mem), Mo_round_43 Q n l1 l2 l3 l4 σ → AW p l e R s m args below meth c D ad tc A cs sl Qm 43 [some (.ref (ad (6, 0, 0))), some (.int (oI l1)), some (.int (oI l2)), some (.int (oI l3)), some (.int (oI l4)), none, none, none, none] [] σ := by
  intro n
  induction n with
  | zero =>
    intro l1 l2 l3 l4 σ h
    exact False.elim h
  | succ n ih =>
    intro l1 l2 l3 l4 σ h
    unfold Mo_round_43 at h
    refine aw_iload X dX6_round_43 rfl ?_
    refine aw_aload_n X dX6_round_45 rfl ?_
    refine aw_get X ob_6 fl_X6_141 rfl dX6_round_46 ?_
    obtain ⟨g1, h⟩ := h
    obtain ⟨g2, h⟩ := h
    refine aw_icmp_ge X dX6_round_49 (tgt := 223) (by decide) g1 g2 (fun hc => ?_) (fun hc => ?_)
    · replace h := h.1 hc
      refine aw_iload_n X dX6_round_223 rfl ?_
      obtain ⟨g3, h⟩ := h
      refine aw_if_eq X dX6_round_224 (tgt := 282) (by decide) g3 (fun hc => ?_) (fun hc => ?_)
      · replace h := h.1 hc
        refine aw_weak (als' := [some (.ref (ad (6, 0, 0))), none, none, none, none, none, none, none, none]) ⟨rfl, trivial⟩ ?_
        exact m_Mo_round_282 X hR hret h
      · replace h := h.2 hc
        refine aw_aload_n X dX6_round_227 rfl ?_
        refine aw_get X ob_6 fl_X6_117 rfl dX6_round_228 ?_
        obtain ⟨g4, h⟩ := h
        refine aw_if_eq X dX6_round_231 (tgt := 242) (by decide) g4 (fun hc => ?_) (fun hc => ?_)
        · replace h := h.1 hc
          refine aw_weak (als' := [some (.ref (ad (6, 0, 0))), none, none, some (.int (oI l3)), none, none, none, none, none]) ⟨rfl, rfl, trivial⟩ ?_
          exact m_Mo_round_242 X hR hret h
        · replace h := h.2 hc
          refine aw_iload_n X dX6_round_234 rfl ?_
          refine aw_aload_n X dX6_round_235 rfl ?_
          refine aw_get X ob_6 fl_X6_214 rfl dX6_round_236 ?_
          obtain ⟨g5, h⟩ := h
          obtain ⟨g6, h⟩ := h
          refine aw_icmp_ge X dX6_round_239 (tgt := 282) (by decide) g5 g6 (fun hc => ?_) (fun hc => ?_)
          · replace h := h.1 hc
            refine aw_weak (als' := [some (.ref (ad (6, 0, 0))), none, none, none, none, none, none, none, none]) ⟨rfl, trivial⟩ ?_
            exact m_Mo_round_282 X hR hret h
          · replace h := h.2 hc
            refine aw_weak (als' := [some (.ref (ad (6, 0, 0))), none, none, some (.int (oI l3)), none, none, none, none, none]) ⟨rfl, rfl, trivial⟩ ?_
            exact m_Mo_round_242 X hR hret h
    · replace h := h.2 hc
      refine aw_aload_n X dX6_round_52 rfl ?_
      refine aw_iload X dX6_round_53 rfl ?_
      refine aw_aload_n X dX6_round_55 rfl ?_
      refine aw_get X ob_6 fl_X6_87 rfl dX6_round_56 ?_
      refine aw_callVI X hR (s_Mo_codeOf l D ad tc X.2.2.2.2.2.2.1 ar_6_34 h) ml_X6_187 ob_6 rfl (by decide) (by decide) rfl rfl rfl rfl (Nat.le_of_ble_eq_true rfl) rfl dX6_round_59 (fun r7 σ7 h => ?_)
      refine aw_istore X dX6_round_62 (Nat.le_of_ble_eq_true rfl) rfl ?_
      refine aw_als (als' := [some (.ref (ad (6, 0, 0))), some (.int (oI l1)), some (.int (oI l2)), some (.int (oI l3)), some (.int (oI l4)), some (.int (oI r7)), none, none, none]) rfl ?_
      refine aw_iconst X dX6_round_64 ?_
      refine aw_istore X dX6_round_65 (Nat.le_of_ble_eq_true rfl) rfl ?_
      refine aw_als (als' := [some (.ref (ad (6, 0, 0))), some (.int (oI l1)), some (.int (oI l2)), some (.int (oI l3)), some (.int (oI l4)), some (.int (oI r7)), some (.int (oI 0)), none, none]) rfl ?_
      refine aw_weak (als' := [some (.ref (ad (6, 0, 0))), some (.int (oI l1)), some (.int (oI l2)), some (.int (oI l3)), some (.int (oI l4)), some (.int (oI r7)), some (.int (oI 0)), none, none]) ⟨rfl, rfl, rfl, rfl, rfl, rfl, rfl, trivial⟩ ?_
      obtain ⟨n0, h⟩ := h
      exact m_Mo_round_67 X hR hret ih n0 _ _ _ _ _ _ _ h

set_option maxHeartbeats 4000000 in
set_option maxRecDepth 100000 in
theorem m_Mo_round_0 {p : Program} {l : Launch} {e : Env} {R : Room} {s : State} {m : MethodId} {args : Array Value} {below : List Frame} {meth : Method} {c : Code} {D : va_G} {ad : Ky → Nat} {tc : Tc} {A : Nat → Prop} {cs sl : Nat} {Qm : State → Prop} (X : Cx p s m args c cX6_round RX6 9 D ad tc A) (hR : RmOK R cs sl 4 108) {Q : Mem → Prop} (hret : RtV p l e R s m args below meth c D ad tc A cs sl Qm cX6_round Q) {σ : Mem} (h : Mo_round σ Q) : AW p l e R s m args below meth c D ad tc A cs sl Qm 0 [some (.ref (ad (6, 0, 0))), none, none, none, none, none, none, none, none] [] σ := by
  unfold Mo_round at h
  refine aw_aload_n X dX6_round_0 rfl ?_
  refine aw_callVV X hR (s_Mo_findMaster l D ad tc X.2.2.2.2.2.2.1 h) ml_X6_207 ob_6 rfl (by decide) (by decide) rfl rfl rfl rfl (Nat.le_of_ble_eq_true rfl) rfl dX6_round_1 (fun σ1 h => ?_)
  refine aw_aload_n X dX6_round_4 rfl ?_
  refine aw_get X ob_6 fl_X6_121 rfl dX6_round_5 ?_
  obtain ⟨g2, h⟩ := h
  refine aw_if_ne X dX6_round_8 (tgt := 27) (by decide) g2 (fun hc => ?_) (fun hc => ?_)
  · replace h := h.1 hc
    refine aw_iconst X dX6_round_27 ?_
    refine aw_istore_n X dX6_round_28 (Nat.le_of_ble_eq_true rfl) rfl ?_
    refine aw_als (als' := [some (.ref (ad (6, 0, 0))), some (.int (oI 1)), none, none, none, none, none, none, none]) rfl ?_
    refine aw_iconst X dX6_round_29 ?_
    refine aw_istore_n X dX6_round_30 (Nat.le_of_ble_eq_true rfl) rfl ?_
    refine aw_als (als' := [some (.ref (ad (6, 0, 0))), some (.int (oI 1)), some (.int (oI 0)), none, none, none, none, none, none]) rfl ?_
    refine aw_aload_n X dX6_round_31 rfl ?_
    refine aw_aload_n X dX6_round_32 rfl ?_
    refine aw_get X ob_6 fl_X6_87 rfl dX6_round_33 ?_
    refine aw_callVI X hR (s_Mo_priceOf l D ad tc X.2.2.2.2.2.2.1 ar_6_34 h) ml_X6_183 ob_6 rfl (by decide) (by decide) rfl rfl rfl rfl (Nat.le_of_ble_eq_true rfl) rfl dX6_round_36 (fun r3 σ3 h => ?_)
    refine aw_istore_n X dX6_round_39 (Nat.le_of_ble_eq_true rfl) rfl ?_
    refine aw_als (als' := [some (.ref (ad (6, 0, 0))), some (.int (oI 1)), some (.int (oI 0)), some (.int (oI r3)), none, none, none, none, none]) rfl ?_
    refine aw_iconst X dX6_round_40 ?_
    refine aw_istore X dX6_round_41 (Nat.le_of_ble_eq_true rfl) rfl ?_
    refine aw_als (als' := [some (.ref (ad (6, 0, 0))), some (.int (oI 1)), some (.int (oI 0)), some (.int (oI r3)), some (.int (oI 0)), none, none, none, none]) rfl ?_
    refine aw_weak (als' := [some (.ref (ad (6, 0, 0))), some (.int (oI 1)), some (.int (oI 0)), some (.int (oI r3)), some (.int (oI 0)), none, none, none, none]) ⟨rfl, rfl, rfl, rfl, rfl, trivial⟩ ?_
    obtain ⟨n0, h⟩ := h
    exact m_Mo_round_43 X hR hret n0 _ _ _ _ _ h
  · replace h := h.2 hc
    refine aw_aload_n X dX6_round_11 rfl ?_
    refine aw_iconst X dX6_round_12 ?_
    refine aw_put X ob_6 fl_X6_114 (sf_6_28 ad) rfl rfl dX6_round_13 ?_
    obtain ⟨σ4, eσ4⟩ : ∃ z : Mem, z = up σ1 6 0 28 0 2 := ⟨_, rfl⟩
    replace h := h σ4 eσ4
    refine aw_mem eσ4 ?_
    refine aw_aload_n X dX6_round_16 rfl ?_
    refine aw_dup X dX6_round_17 rfl ?_
    refine aw_get X ob_6 fl_X6_111 rfl dX6_round_18 ?_
    refine aw_iconst X dX6_round_21 ?_
    refine aw_iadd X dX6_round_22 ?_
    refine aw_put X ob_6 fl_X6_111 (sf_6_27 ad) rfl rfl dX6_round_23 ?_
    obtain ⟨σ5, eσ5⟩ : ∃ z : Mem, z = up σ4 6 0 27 0 ((σ4 6 0 27 0) + 1) := ⟨_, rfl⟩
    replace h := h σ5 eσ5
    refine aw_mem eσ5 ?_
    exact hret 26 _ _ dX6_round_26 h
theorem s_Mo_round (l : Launch) (D : va_G) (ad : Ky → Nat) (tc : Tc) (hi : adI ad) {σ : Mem} {Q : Mem → Prop} (h : Mo_round σ Q) : CtV l D ad tc yX6_round cX6_round 9 none { frames := 4, cells := 0, slots := 0, locals := 108 } [.ref (ad (6, 0, 0))] σ Q := CtV.mk (by decide +kernel) hi (Nat.le_of_ble_eq_true rfl) rfl (fun p e s m args below meth c A Qm X hR hret => m_Mo_round_0 X hR hret h)

set_option maxHeartbeats 4000000 in
set_option maxRecDepth 100000 in
theorem m_Mo_run_62 {p : Program} {l : Launch} {e : Env} {R : Room} {s : State} {m : MethodId} {args : Array Value} {below : List Frame} {meth : Method} {c : Code} {D : va_G} {ad : Ky → Nat} {tc : Tc} {A : Nat → Prop} {cs sl : Nat} {Qm : State → Prop} (X : Cx p s m args c cX6_run RX6 3 D ad tc A) (hR : RmOK R cs sl 5 136) {Q : Int → Mem → Prop} (hret : RtI p l e R s m args below meth c D ad tc A cs sl Qm cX6_run Q) {s0 : Int} {σ : Mem} (h : Mo_run_62 Q s0 σ) : AW p l e R s m args below meth c D ad tc A cs sl Qm 62 [none, none, none] [.int (oI s0)] σ := by
  unfold Mo_run_62 at h
  exact hret 62 _ _ _ dX6_run_62 h

set_option maxHeartbeats 4000000 in
set_option maxRecDepth 100000 in
theorem m_Mo_run_37 {p : Program} {l : Launch} {e : Env} {R : Room} {s : State} {m : MethodId} {args : Array Value} {below : List Frame} {meth : Method} {c : Code} {D : va_G} {ad : Ky → Nat} {tc : Tc} {A : Nat → Prop} {cs sl : Nat} {Qm : State → Prop} (X : Cx p s m args c cX6_run RX6 3 D ad tc A) (hR : RmOK R cs sl 5 136) {Q : Int → Mem → Prop} (hret : RtI p l e R s m args below meth c D ad tc A cs sl Qm cX6_run Q) {σ : Mem} (h : Mo_run_37 Q σ) : AW p l e R s m args below meth c D ad tc A cs sl Qm 37 [some (.ref (ad (6, 0, 0))), none, none] [] σ := by
  unfold Mo_run_37 at h
  refine aw_aload_n X dX6_run_37 rfl ?_
  refine aw_get X ob_6 fl_X6_114 rfl dX6_run_38 ?_
  refine aw_iconst X dX6_run_41 ?_
  obtain ⟨g1, h⟩ := h
  refine aw_icmp_ne X dX6_run_42 (tgt := 49) (by decide) g1 ⟨by decide, by decide⟩ (fun hc => ?_) (fun hc => ?_)
  · replace h := h.1 hc
    refine aw_aload_n X dX6_run_49 rfl ?_
    refine aw_get X ob_6 fl_X6_114 rfl dX6_run_50 ?_
    refine aw_iconst X dX6_run_53 ?_
    obtain ⟨g3, h⟩ := h
    refine aw_icmp_ne X dX6_run_54 (tgt := 61) (by decide) g3 ⟨by decide, by decide⟩ (fun hc => ?_) (fun hc => ?_)
    · replace h := h.1 hc
      refine aw_iconst X dX6_run_61 ?_
      refine aw_weak (als' := [none, none, none]) trivial ?_
      exact m_Mo_run_62 X hR hret h
    · replace h := h.2 hc
      refine aw_iconst X dX6_run_57 ?_
      refine aw_goto X dX6_run_58 (tgt := 62) (by decide) ?_
      refine aw_weak (als' := [none, none, none]) trivial ?_
      exact m_Mo_run_62 X hR hret h
  · replace h := h.2 hc
    refine aw_iconst X dX6_run_45 ?_
    refine aw_goto X dX6_run_46 (tgt := 62) (by decide) ?_
    refine aw_weak (als' := [none, none, none]) trivial ?_
    exact m_Mo_run_62 X hR hret h

set_option maxHeartbeats 4000000 in
set_option maxRecDepth 100000 in
theorem m_Mo_run_15 {p : Program} {l : Launch} {e : Env} {R : Room} {s : State} {m : MethodId} {args : Array Value} {below : List Frame} {meth : Method} {c : Code} {D : va_G} {ad : Ky → Nat} {tc : Tc} {A : Nat → Prop} {cs sl : Nat} {Qm : State → Prop} (X : Cx p s m args c cX6_run RX6 3 D ad tc A) (hR : RmOK R cs sl 5 136) {Q : Int → Mem → Prop} (hret : RtI p l e R s m args below meth c D ad tc A cs sl Qm cX6_run Q) : ∀ (n : Nat) (l1 : Int) (l2 : Int) (σ : Mem), Mo_run_15 Q n l1 l2 σ → AW p l e R s m args below meth c D ad tc A cs sl Qm 15 [some (.ref (ad (6, 0, 0))), some (.int (oI l1)), some (.int (oI l2))] [] σ := by
  intro n
  induction n with
  | zero =>
    intro l1 l2 σ h
    exact False.elim h
  | succ n ih =>
    intro l1 l2 σ h
    unfold Mo_run_15 at h
    refine aw_iload_n X dX6_run_15 rfl ?_
    refine aw_iload_n X dX6_run_16 rfl ?_
    obtain ⟨g1, h⟩ := h
    obtain ⟨g2, h⟩ := h
    refine aw_icmp_ge X dX6_run_17 (tgt := 37) (by decide) g1 g2 (fun hc => ?_) (fun hc => ?_)
    · replace h := h.1 hc
      refine aw_weak (als' := [some (.ref (ad (6, 0, 0))), none, none]) ⟨rfl, trivial⟩ ?_
      exact m_Mo_run_37 X hR hret h
    · replace h := h.2 hc
      refine aw_aload_n X dX6_run_20 rfl ?_
      refine aw_get X ob_6 fl_X6_114 rfl dX6_run_21 ?_
      obtain ⟨g3, h⟩ := h
      refine aw_if_ne X dX6_run_24 (tgt := 37) (by decide) g3 (fun hc => ?_) (fun hc => ?_)
      · replace h := h.1 hc
        refine aw_weak (als' := [some (.ref (ad (6, 0, 0))), none, none]) ⟨rfl, trivial⟩ ?_
        exact m_Mo_run_37 X hR hret h
      · replace h := h.2 hc
        refine aw_aload_n X dX6_run_27 rfl ?_
        refine aw_callVV X hR (s_Mo_round l D ad tc X.2.2.2.2.2.2.1 h) ml_X6_217 ob_6 rfl (by decide) (by decide) rfl rfl rfl rfl (Nat.le_of_ble_eq_true rfl) rfl dX6_run_28 (fun σ4 h => ?_)
        refine aw_iinc X dX6_run_31 rfl rfl ?_
        obtain ⟨x5, ex5⟩ : ∃ z : Int, z = (l2 + 1) := ⟨_, rfl⟩
        replace h := h x5 ex5
        refine aw_als (als' := [some (.ref (ad (6, 0, 0))), some (.int (oI l1)), some (.int (oI x5))]) (by subst ex5; rfl) ?_
        refine aw_goto X dX6_run_34 (tgt := 15) (by decide) ?_
        refine aw_weak (als' := [some (.ref (ad (6, 0, 0))), some (.int (oI l1)), some (.int (oI x5))]) ⟨rfl, rfl, rfl, trivial⟩ ?_
        exact ih _ _ _ h

set_option maxHeartbeats 4000000 in
set_option maxRecDepth 100000 in
theorem m_Mo_run_0 {p : Program} {l : Launch} {e : Env} {R : Room} {s : State} {m : MethodId} {args : Array Value} {below : List Frame} {meth : Method} {c : Code} {D : va_G} {ad : Ky → Nat} {tc : Tc} {A : Nat → Prop} {cs sl : Nat} {Qm : State → Prop} (X : Cx p s m args c cX6_run RX6 3 D ad tc A) (hR : RmOK R cs sl 5 136) {Q : Int → Mem → Prop} (hret : RtI p l e R s m args below meth c D ad tc A cs sl Qm cX6_run Q) {l1 : Int} {σ : Mem} (h : Mo_run l1 σ Q) : AW p l e R s m args below meth c D ad tc A cs sl Qm 0 [some (.ref (ad (6, 0, 0))), some (.int (oI l1)), none] [] σ := by
  unfold Mo_run at h
  refine aw_iload_n X dX6_run_0 rfl ?_
  refine aw_iconst X dX6_run_1 ?_
  refine aw_bipush X dX6_run_2 rfl ?_
  refine aw_callSI X hR (s_Mo_beyond l D ad tc X.2.2.2.2.2.2.1 h) ms_X6_130 (by decide) (by decide) rfl rfl rfl rfl (Nat.le_of_ble_eq_true rfl) rfl dX6_run_4 (fun r1 σ1 h => ?_)
  obtain ⟨g2, h⟩ := h
  refine aw_if_eq X dX6_run_7 (tgt := 13) (by decide) g2 (fun hc => ?_) (fun hc => ?_)
  · replace h := h.1 hc
    refine aw_iconst X dX6_run_13 ?_
    refine aw_istore_n X dX6_run_14 (Nat.le_of_ble_eq_true rfl) rfl ?_
    refine aw_als (als' := [some (.ref (ad (6, 0, 0))), some (.int (oI l1)), some (.int (oI 0))]) rfl ?_
    refine aw_weak (als' := [some (.ref (ad (6, 0, 0))), some (.int (oI l1)), some (.int (oI 0))]) ⟨rfl, rfl, rfl, trivial⟩ ?_
    obtain ⟨n0, h⟩ := h
    exact m_Mo_run_15 X hR hret n0 _ _ _ h
  · replace h := h.2 hc
    refine aw_bipush X dX6_run_10 rfl ?_
    exact hret 12 _ _ _ dX6_run_12 h
theorem s_Mo_run (l : Launch) (D : va_G) (ad : Ky → Nat) (tc : Tc) (hi : adI ad) {l1 : Int} {σ : Mem} {Q : Int → Mem → Prop} (h : Mo_run l1 σ Q) : CtI l D ad tc yX6_run cX6_run 3 (some .int) { frames := 5, cells := 0, slots := 0, locals := 136 } [.ref (ad (6, 0, 0)), .int (oI l1)] σ Q := CtI.mk (by decide +kernel) hi (Nat.le_of_ble_eq_true rfl) rfl (fun p e s m args below meth c A Qm X hR hret => m_Mo_run_0 X hR hret h)

set_option maxHeartbeats 4000000 in
set_option maxRecDepth 100000 in
theorem m_Mo_told_95 {p : Program} {l : Launch} {e : Env} {R : Room} {s : State} {m : MethodId} {args : Array Value} {below : List Frame} {meth : Method} {c : Code} {D : va_G} {ad : Ky → Nat} {tc : Tc} {A : Nat → Prop} {cs sl : Nat} {Qm : State → Prop} (X : Cx p s m args c cX6_told RX6 2 D ad tc A) (hR : RmOK R cs sl 1 22) {Q : Int → Mem → Prop} (hret : RtI p l e R s m args below meth c D ad tc A cs sl Qm cX6_told Q) {s0 : Int} {σ : Mem} (h : Mo_told_95 Q s0 σ) : AW p l e R s m args below meth c D ad tc A cs sl Qm 95 [none, none] [.int (oI s0)] σ := by
  unfold Mo_told_95 at h
  exact hret 95 _ _ _ dX6_told_95 h

set_option maxHeartbeats 4000000 in
set_option maxRecDepth 100000 in
theorem m_Mo_told_78 {p : Program} {l : Launch} {e : Env} {R : Room} {s : State} {m : MethodId} {args : Array Value} {below : List Frame} {meth : Method} {c : Code} {D : va_G} {ad : Ky → Nat} {tc : Tc} {A : Nat → Prop} {cs sl : Nat} {Qm : State → Prop} (X : Cx p s m args c cX6_told RX6 2 D ad tc A) (hR : RmOK R cs sl 1 22) {Q : Int → Mem → Prop} (hret : RtI p l e R s m args below meth c D ad tc A cs sl Qm cX6_told Q) {s0 : Int} {σ : Mem} (h : Mo_told_78 Q s0 σ) : AW p l e R s m args below meth c D ad tc A cs sl Qm 78 [none, none] [.int (oI s0)] σ := by
  unfold Mo_told_78 at h
  exact hret 78 _ _ _ dX6_told_78 h

set_option maxHeartbeats 4000000 in
set_option maxRecDepth 100000 in
theorem m_Mo_told_0 {p : Program} {l : Launch} {e : Env} {R : Room} {s : State} {m : MethodId} {args : Array Value} {below : List Frame} {meth : Method} {c : Code} {D : va_G} {ad : Ky → Nat} {tc : Tc} {A : Nat → Prop} {cs sl : Nat} {Qm : State → Prop} (X : Cx p s m args c cX6_told RX6 2 D ad tc A) (hR : RmOK R cs sl 1 22) {Q : Int → Mem → Prop} (hret : RtI p l e R s m args below meth c D ad tc A cs sl Qm cX6_told Q) {l1 : Int} {σ : Mem} (h : Mo_told l1 σ Q) : AW p l e R s m args below meth c D ad tc A cs sl Qm 0 [some (.ref (ad (6, 0, 0))), some (.int (oI l1))] [] σ := by
  unfold Mo_told at h
  refine aw_iload_n X dX6_told_0 rfl ?_
  obtain ⟨g1, h⟩ := h
  by_cases hc0 : l1 = 0
  · replace h := h.1 hc0
    refine aw_tableIn X dX6_told_1 0 hc0 ⟨by decide, by decide⟩ (by decide) (by decide) rfl (tgt := 52) (by decide) ?_
    refine aw_aload_n X dX6_told_52 rfl ?_
    refine aw_get X ob_6 fl_X6_111 rfl dX6_told_53 ?_
    exact hret 56 _ _ _ dX6_told_56 h
  replace h := h.2
  by_cases hc1 : l1 = 1
  · replace h := h.1 hc1
    refine aw_tableIn X dX6_told_1 1 hc1 ⟨by decide, by decide⟩ (by decide) (by decide) rfl (tgt := 57) (by decide) ?_
    refine aw_aload_n X dX6_told_57 rfl ?_
    refine aw_get X ob_6 fl_X6_124 rfl dX6_told_58 ?_
    exact hret 61 _ _ _ dX6_told_61 h
  replace h := h.2
  by_cases hc2 : l1 = 2
  · replace h := h.1 hc2
    refine aw_tableIn X dX6_told_1 2 hc2 ⟨by decide, by decide⟩ (by decide) (by decide) rfl (tgt := 62) (by decide) ?_
    refine aw_aload_n X dX6_told_62 rfl ?_
    refine aw_get X ob_6 fl_X6_121 rfl dX6_told_63 ?_
    obtain ⟨g2, h⟩ := h
    refine aw_if_eq X dX6_told_66 (tgt := 76) (by decide) g2 (fun hc => ?_) (fun hc => ?_)
    · replace h := h.1 hc
      refine aw_bipush X dX6_told_76 rfl ?_
      refine aw_weak (als' := [none, none]) trivial ?_
      exact m_Mo_told_78 X hR hret h
    · replace h := h.2 hc
      refine aw_aload_n X dX6_told_69 rfl ?_
      refine aw_get X ob_6 fl_X6_200 rfl dX6_told_70 ?_
      refine aw_goto X dX6_told_73 (tgt := 78) (by decide) ?_
      refine aw_weak (als' := [none, none]) trivial ?_
      exact m_Mo_told_78 X hR hret h
  replace h := h.2
  by_cases hc3 : l1 = 3
  · replace h := h.1 hc3
    refine aw_tableIn X dX6_told_1 3 hc3 ⟨by decide, by decide⟩ (by decide) (by decide) rfl (tgt := 79) (by decide) ?_
    refine aw_aload_n X dX6_told_79 rfl ?_
    refine aw_get X ob_6 fl_X6_117 rfl dX6_told_80 ?_
    obtain ⟨g3, h⟩ := h
    refine aw_if_eq X dX6_told_83 (tgt := 93) (by decide) g3 (fun hc => ?_) (fun hc => ?_)
    · replace h := h.1 hc
      refine aw_bipush X dX6_told_93 rfl ?_
      refine aw_weak (als' := [none, none]) trivial ?_
      exact m_Mo_told_95 X hR hret h
    · replace h := h.2 hc
      refine aw_aload_n X dX6_told_86 rfl ?_
      refine aw_get X ob_6 fl_X6_214 rfl dX6_told_87 ?_
      refine aw_goto X dX6_told_90 (tgt := 95) (by decide) ?_
      refine aw_weak (als' := [none, none]) trivial ?_
      exact m_Mo_told_95 X hR hret h
  replace h := h.2
  by_cases hc4 : l1 = 4
  · replace h := h.1 hc4
    refine aw_tableIn X dX6_told_1 4 hc4 ⟨by decide, by decide⟩ (by decide) (by decide) rfl (tgt := 96) (by decide) ?_
    refine aw_aload_n X dX6_told_96 rfl ?_
    refine aw_callVI X hR (s_Mo_allWeights l D ad tc X.2.2.2.2.2.2.1 h) ml_X6_179 ob_6 rfl (by decide) (by decide) rfl rfl rfl rfl (Nat.le_of_ble_eq_true rfl) rfl dX6_told_97 (fun r4 σ4 h => ?_)
    exact hret 100 _ _ _ dX6_told_100 h
  replace h := h.2
  by_cases hc5 : l1 = 5
  · replace h := h.1 hc5
    refine aw_tableIn X dX6_told_1 5 hc5 ⟨by decide, by decide⟩ (by decide) (by decide) rfl (tgt := 101) (by decide) ?_
    refine aw_aload_n X dX6_told_101 rfl ?_
    refine aw_get X ob_6 fl_X6_134 rfl dX6_told_102 ?_
    exact hret 105 _ _ _ dX6_told_105 h
  replace h := h.2
  by_cases hc6 : l1 = 6
  · replace h := h.1 hc6
    refine aw_tableIn X dX6_told_1 6 hc6 ⟨by decide, by decide⟩ (by decide) (by decide) rfl (tgt := 106) (by decide) ?_
    refine aw_aload_n X dX6_told_106 rfl ?_
    refine aw_get X ob_6 fl_X6_141 rfl dX6_told_107 ?_
    exact hret 110 _ _ _ dX6_told_110 h
  replace h := h.2
  by_cases hc7 : l1 = 7
  · replace h := h.1 hc7
    refine aw_tableIn X dX6_told_1 7 hc7 ⟨by decide, by decide⟩ (by decide) (by decide) rfl (tgt := 111) (by decide) ?_
    refine aw_aload_n X dX6_told_111 rfl ?_
    refine aw_get X ob_6 fl_X6_23 rfl dX6_told_112 ?_
    exact hret 115 _ _ _ dX6_told_115 h
  replace h := h.2
  by_cases hc8 : l1 = 8
  · replace h := h.1 hc8
    refine aw_tableIn X dX6_told_1 8 hc8 ⟨by decide, by decide⟩ (by decide) (by decide) rfl (tgt := 116) (by decide) ?_
    refine aw_aload_n X dX6_told_116 rfl ?_
    refine aw_get X ob_6 fl_X6_114 rfl dX6_told_117 ?_
    exact hret 120 _ _ _ dX6_told_120 h
  replace h := h.2
  have hcd : l1 < 0 ∨ 8 < l1 := by omega
  replace h := h hcd
  refine aw_tableOut X dX6_told_1 g1 hcd (tgt := 121) (by decide) ?_
  refine aw_bipush X dX6_told_121 rfl ?_
  exact hret 123 _ _ _ dX6_told_123 h
theorem s_Mo_told (l : Launch) (D : va_G) (ad : Ky → Nat) (tc : Tc) (hi : adI ad) {l1 : Int} {σ : Mem} {Q : Int → Mem → Prop} (h : Mo_told l1 σ Q) : CtI l D ad tc yX6_told cX6_told 2 (some .int) { frames := 1, cells := 0, slots := 0, locals := 22 } [.ref (ad (6, 0, 0)), .int (oI l1)] σ Q := CtI.mk (by decide +kernel) hi (Nat.le_of_ble_eq_true rfl) rfl (fun p e s m args below meth c A Qm X hR hret => m_Mo_told_0 X hR hret h)

set_option maxHeartbeats 4000000 in
set_option maxRecDepth 100000 in
theorem m_Mo_best_34 {p : Program} {l : Launch} {e : Env} {R : Room} {s : State} {m : MethodId} {args : Array Value} {below : List Frame} {meth : Method} {c : Code} {D : va_G} {ad : Ky → Nat} {tc : Tc} {A : Nat → Prop} {cs sl : Nat} {Qm : State → Prop} (X : Cx p s m args c cX6_best RX6 2 D ad tc A) (hR : RmOK R cs sl 1 22) {Q : Int → Mem → Prop} (hret : RtI p l e R s m args below meth c D ad tc A cs sl Qm cX6_best Q) {s0 : Int} {σ : Mem} (h : Mo_best_34 Q s0 σ) : AW p l e R s m args below meth c D ad tc A cs sl Qm 34 [none, none] [.int (oI s0)] σ := by
  unfold Mo_best_34 at h
  exact hret 34 _ _ _ dX6_best_34 h

set_option maxHeartbeats 4000000 in
set_option maxRecDepth 100000 in
theorem m_Mo_best_0 {p : Program} {l : Launch} {e : Env} {R : Room} {s : State} {m : MethodId} {args : Array Value} {below : List Frame} {meth : Method} {c : Code} {D : va_G} {ad : Ky → Nat} {tc : Tc} {A : Nat → Prop} {cs sl : Nat} {Qm : State → Prop} (X : Cx p s m args c cX6_best RX6 2 D ad tc A) (hR : RmOK R cs sl 1 22) {Q : Int → Mem → Prop} (hret : RtI p l e R s m args below meth c D ad tc A cs sl Qm cX6_best Q) {l1 : Int} {σ : Mem} (h : Mo_best l1 σ Q) : AW p l e R s m args below meth c D ad tc A cs sl Qm 0 [some (.ref (ad (6, 0, 0))), some (.int (oI l1))] [] σ := by
  unfold Mo_best at h
  refine aw_iload_n X dX6_best_0 rfl ?_
  refine aw_iconst X dX6_best_1 ?_
  refine aw_aload_n X dX6_best_2 rfl ?_
  refine aw_get X ob_6 fl_X6_134 rfl dX6_best_3 ?_
  refine aw_iconst X dX6_best_6 ?_
  refine aw_isub X dX6_best_7 ?_
  refine aw_callSI X hR (s_Mo_beyond l D ad tc X.2.2.2.2.2.2.1 h) ms_X6_130 (by decide) (by decide) rfl rfl rfl rfl (Nat.le_of_ble_eq_true rfl) rfl dX6_best_8 (fun r1 σ1 h => ?_)
  obtain ⟨g2, h⟩ := h
  refine aw_if_eq X dX6_best_11 (tgt := 16) (by decide) g2 (fun hc => ?_) (fun hc => ?_)
  · replace h := h.1 hc
    refine aw_aload_n X dX6_best_16 rfl ?_
    refine aw_get X ob_6 fl_X6_117 rfl dX6_best_17 ?_
    obtain ⟨g3, h⟩ := h
    refine aw_if_eq X dX6_best_20 (tgt := 32) (by decide) g3 (fun hc => ?_) (fun hc => ?_)
    · replace h := h.1 hc
      refine aw_bipush X dX6_best_32 rfl ?_
      refine aw_weak (als' := [none, none]) trivial ?_
      exact m_Mo_best_34 X hR hret h
    · replace h := h.2 hc
      refine aw_aload_n X dX6_best_23 rfl ?_
      refine aw_get X ob_6 fl_X6_84 rfl dX6_best_24 ?_
      refine aw_iload_n X dX6_best_27 rfl ?_
      obtain ⟨g4a, g4b, h⟩ := h
      refine aw_iald X ar_6_33 g4a g4b dX6_best_28 ?_
      refine aw_goto X dX6_best_29 (tgt := 34) (by decide) ?_
      refine aw_weak (als' := [none, none]) trivial ?_
      exact m_Mo_best_34 X hR hret h
  · replace h := h.2 hc
    refine aw_iconst X dX6_best_14 ?_
    exact hret 15 _ _ _ dX6_best_15 h
theorem s_Mo_best (l : Launch) (D : va_G) (ad : Ky → Nat) (tc : Tc) (hi : adI ad) {l1 : Int} {σ : Mem} {Q : Int → Mem → Prop} (h : Mo_best l1 σ Q) : CtI l D ad tc yX6_best cX6_best 2 (some .int) { frames := 1, cells := 0, slots := 0, locals := 22 } [.ref (ad (6, 0, 0)), .int (oI l1)] σ Q := CtI.mk (by decide +kernel) hi (Nat.le_of_ble_eq_true rfl) rfl (fun p e s m args below meth c A Qm X hR hret => m_Mo_best_0 X hR hret h)

set_option maxHeartbeats 4000000 in
set_option maxRecDepth 100000 in
theorem m_Mo_master_34 {p : Program} {l : Launch} {e : Env} {R : Room} {s : State} {m : MethodId} {args : Array Value} {below : List Frame} {meth : Method} {c : Code} {D : va_G} {ad : Ky → Nat} {tc : Tc} {A : Nat → Prop} {cs sl : Nat} {Qm : State → Prop} (X : Cx p s m args c cX6_master RX6 2 D ad tc A) (hR : RmOK R cs sl 1 22) {Q : Int → Mem → Prop} (hret : RtI p l e R s m args below meth c D ad tc A cs sl Qm cX6_master Q) {s0 : Int} {σ : Mem} (h : Mo_master_34 Q s0 σ) : AW p l e R s m args below meth c D ad tc A cs sl Qm 34 [none, none] [.int (oI s0)] σ := by
  unfold Mo_master_34 at h
  exact hret 34 _ _ _ dX6_master_34 h

set_option maxHeartbeats 4000000 in
set_option maxRecDepth 100000 in
theorem m_Mo_master_0 {p : Program} {l : Launch} {e : Env} {R : Room} {s : State} {m : MethodId} {args : Array Value} {below : List Frame} {meth : Method} {c : Code} {D : va_G} {ad : Ky → Nat} {tc : Tc} {A : Nat → Prop} {cs sl : Nat} {Qm : State → Prop} (X : Cx p s m args c cX6_master RX6 2 D ad tc A) (hR : RmOK R cs sl 1 22) {Q : Int → Mem → Prop} (hret : RtI p l e R s m args below meth c D ad tc A cs sl Qm cX6_master Q) {l1 : Int} {σ : Mem} (h : Mo_master l1 σ Q) : AW p l e R s m args below meth c D ad tc A cs sl Qm 0 [some (.ref (ad (6, 0, 0))), some (.int (oI l1))] [] σ := by
  unfold Mo_master at h
  refine aw_iload_n X dX6_master_0 rfl ?_
  refine aw_iconst X dX6_master_1 ?_
  refine aw_aload_n X dX6_master_2 rfl ?_
  refine aw_get X ob_6 fl_X6_134 rfl dX6_master_3 ?_
  refine aw_iconst X dX6_master_6 ?_
  refine aw_isub X dX6_master_7 ?_
  refine aw_callSI X hR (s_Mo_beyond l D ad tc X.2.2.2.2.2.2.1 h) ms_X6_130 (by decide) (by decide) rfl rfl rfl rfl (Nat.le_of_ble_eq_true rfl) rfl dX6_master_8 (fun r1 σ1 h => ?_)
  obtain ⟨g2, h⟩ := h
  refine aw_if_eq X dX6_master_11 (tgt := 16) (by decide) g2 (fun hc => ?_) (fun hc => ?_)
  · replace h := h.1 hc
    refine aw_aload_n X dX6_master_16 rfl ?_
    refine aw_get X ob_6 fl_X6_121 rfl dX6_master_17 ?_
    obtain ⟨g3, h⟩ := h
    refine aw_if_eq X dX6_master_20 (tgt := 32) (by decide) g3 (fun hc => ?_) (fun hc => ?_)
    · replace h := h.1 hc
      refine aw_bipush X dX6_master_32 rfl ?_
      refine aw_weak (als' := [none, none]) trivial ?_
      exact m_Mo_master_34 X hR hret h
    · replace h := h.2 hc
      refine aw_aload_n X dX6_master_23 rfl ?_
      refine aw_get X ob_6 fl_X6_87 rfl dX6_master_24 ?_
      refine aw_iload_n X dX6_master_27 rfl ?_
      obtain ⟨g4a, g4b, h⟩ := h
      refine aw_iald X ar_6_34 g4a g4b dX6_master_28 ?_
      refine aw_goto X dX6_master_29 (tgt := 34) (by decide) ?_
      refine aw_weak (als' := [none, none]) trivial ?_
      exact m_Mo_master_34 X hR hret h
  · replace h := h.2 hc
    refine aw_iconst X dX6_master_14 ?_
    exact hret 15 _ _ _ dX6_master_15 h
theorem s_Mo_master (l : Launch) (D : va_G) (ad : Ky → Nat) (tc : Tc) (hi : adI ad) {l1 : Int} {σ : Mem} {Q : Int → Mem → Prop} (h : Mo_master l1 σ Q) : CtI l D ad tc yX6_master cX6_master 2 (some .int) { frames := 1, cells := 0, slots := 0, locals := 22 } [.ref (ad (6, 0, 0)), .int (oI l1)] σ Q := CtI.mk (by decide +kernel) hi (Nat.le_of_ble_eq_true rfl) rfl (fun p e s m args below meth c A Qm X hR hret => m_Mo_master_0 X hR hret h)

set_option maxHeartbeats 4000000 in
set_option maxRecDepth 100000 in
theorem m_Mo_share_45 {p : Program} {l : Launch} {e : Env} {R : Room} {s : State} {m : MethodId} {args : Array Value} {below : List Frame} {meth : Method} {c : Code} {D : va_G} {ad : Ky → Nat} {tc : Tc} {A : Nat → Prop} {cs sl : Nat} {Qm : State → Prop} (X : Cx p s m args c cX6_share RX6 4 D ad tc A) (hR : RmOK R cs sl 2 51) {Q : Int → Mem → Prop} (hret : RtI p l e R s m args below meth c D ad tc A cs sl Qm cX6_share Q) : ∀ (n : Nat) (l1 : Int) (l2 : Int) (l3 : Int) (σ : Mem), Mo_share_45 Q n l1 l2 l3 σ → AW p l e R s m args below meth c D ad tc A cs sl Qm 45 [some (.ref (ad (6, 0, 0))), some (.int (oI l1)), some (.int (oI l2)), some (.int (oI l3))] [] σ := by
  intro n
  induction n with
  | zero =>
    intro l1 l2 l3 σ h
    exact False.elim h
  | succ n ih =>
    intro l1 l2 l3 σ h
    unfold Mo_share_45 at h
    refine aw_iload_n X dX6_share_45 rfl ?_
    refine aw_aload_n X dX6_share_46 rfl ?_
    refine aw_get X ob_6 fl_X6_23 rfl dX6_share_47 ?_
    obtain ⟨g1, h⟩ := h
    obtain ⟨g2, h⟩ := h
    refine aw_icmp_ge X dX6_share_50 (tgt := 84) (by decide) g1 g2 (fun hc => ?_) (fun hc => ?_)
    · replace h := h.1 hc
      refine aw_iload_n X dX6_share_84 rfl ?_
      exact hret 85 _ _ _ dX6_share_85 h
    · replace h := h.2 hc
      refine aw_iload_n X dX6_share_53 rfl ?_
      refine aw_aload_n X dX6_share_54 rfl ?_
      refine aw_get X ob_6 fl_X6_27 rfl dX6_share_55 ?_
      refine aw_iload_n X dX6_share_58 rfl ?_
      obtain ⟨g3a, g3b, h⟩ := h
      refine aw_iald X ar_6_6 g3a g3b dX6_share_59 ?_
      refine aw_aload_n X dX6_share_60 rfl ?_
      refine aw_iload_n X dX6_share_61 rfl ?_
      refine aw_aload_n X dX6_share_62 rfl ?_
      refine aw_iload_n X dX6_share_63 rfl ?_
      refine aw_aload_n X dX6_share_64 rfl ?_
      refine aw_get X ob_6 fl_X6_84 rfl dX6_share_65 ?_
      refine aw_callVI X hR (s_Mo_codeOf l D ad tc X.2.2.2.2.2.2.1 ar_6_33 h) ml_X6_187 ob_6 rfl (by decide) (by decide) rfl rfl rfl rfl (Nat.le_of_ble_eq_true rfl) rfl dX6_share_68 (fun r4 σ4 h => ?_)
      refine aw_iload_n X dX6_share_71 rfl ?_
      refine aw_callVI X hR (s_Mo_answerTo l D ad tc X.2.2.2.2.2.2.1 h) ml_X6_171 ob_6 rfl (by decide) (by decide) rfl rfl rfl rfl (Nat.le_of_ble_eq_true rfl) rfl dX6_share_72 (fun r5 σ5 h => ?_)
      refine aw_imul X dX6_share_75 ?_
      refine aw_iadd X dX6_share_76 ?_
      refine aw_istore_n X dX6_share_77 (Nat.le_of_ble_eq_true rfl) rfl ?_
      obtain ⟨x6, ex6⟩ : ∃ z : Int, z = (l2 + ((σ 6 0 6 l3) * r5)) := ⟨_, rfl⟩
      replace h := h x6 ex6
      refine aw_als (als' := [some (.ref (ad (6, 0, 0))), some (.int (oI l1)), some (.int (oI x6)), some (.int (oI l3))]) (by subst ex6; rfl) ?_
      refine aw_iinc X dX6_share_78 rfl rfl ?_
      obtain ⟨x7, ex7⟩ : ∃ z : Int, z = (l3 + 1) := ⟨_, rfl⟩
      replace h := h x7 ex7
      refine aw_als (als' := [some (.ref (ad (6, 0, 0))), some (.int (oI l1)), some (.int (oI x6)), some (.int (oI x7))]) (by subst ex7; rfl) ?_
      refine aw_goto X dX6_share_81 (tgt := 45) (by decide) ?_
      refine aw_weak (als' := [some (.ref (ad (6, 0, 0))), some (.int (oI l1)), some (.int (oI x6)), some (.int (oI x7))]) ⟨rfl, rfl, rfl, rfl, trivial⟩ ?_
      exact ih _ _ _ _ h

set_option maxHeartbeats 4000000 in
set_option maxRecDepth 100000 in
theorem m_Mo_share_16 {p : Program} {l : Launch} {e : Env} {R : Room} {s : State} {m : MethodId} {args : Array Value} {below : List Frame} {meth : Method} {c : Code} {D : va_G} {ad : Ky → Nat} {tc : Tc} {A : Nat → Prop} {cs sl : Nat} {Qm : State → Prop} (X : Cx p s m args c cX6_share RX6 4 D ad tc A) (hR : RmOK R cs sl 2 51) {Q : Int → Mem → Prop} (hret : RtI p l e R s m args below meth c D ad tc A cs sl Qm cX6_share Q) {l1 : Int} {σ : Mem} (h : Mo_share_16 Q l1 σ) : AW p l e R s m args below meth c D ad tc A cs sl Qm 16 [some (.ref (ad (6, 0, 0))), some (.int (oI l1)), none, none] [] σ := by
  unfold Mo_share_16 at h
  refine aw_aload_n X dX6_share_16 rfl ?_
  refine aw_get X ob_6 fl_X6_117 rfl dX6_share_17 ?_
  obtain ⟨g1, h⟩ := h
  refine aw_if_ne X dX6_share_20 (tgt := 26) (by decide) g1 (fun hc => ?_) (fun hc => ?_)
  · replace h := h.1 hc
    refine aw_iload_n X dX6_share_26 rfl ?_
    refine aw_bipush X dX6_share_27 rfl ?_
    obtain ⟨g2, h⟩ := h
    refine aw_icmp_ne X dX6_share_29 (tgt := 41) (by decide) g2 ⟨by decide, by decide⟩ (fun hc => ?_) (fun hc => ?_)
    · replace h := h.1 hc
      refine aw_iconst X dX6_share_41 ?_
      refine aw_istore_n X dX6_share_42 (Nat.le_of_ble_eq_true rfl) rfl ?_
      refine aw_als (als' := [some (.ref (ad (6, 0, 0))), some (.int (oI l1)), some (.int (oI 0)), none]) rfl ?_
      refine aw_iconst X dX6_share_43 ?_
      refine aw_istore_n X dX6_share_44 (Nat.le_of_ble_eq_true rfl) rfl ?_
      refine aw_als (als' := [some (.ref (ad (6, 0, 0))), some (.int (oI l1)), some (.int (oI 0)), some (.int (oI 0))]) rfl ?_
      refine aw_weak (als' := [some (.ref (ad (6, 0, 0))), some (.int (oI l1)), some (.int (oI 0)), some (.int (oI 0))]) ⟨rfl, rfl, rfl, rfl, trivial⟩ ?_
      obtain ⟨n0, h⟩ := h
      exact m_Mo_share_45 X hR hret n0 _ _ _ _ h
    · replace h := h.2 hc
      refine aw_aload_n X dX6_share_32 rfl ?_
      refine aw_aload_n X dX6_share_33 rfl ?_
      refine aw_get X ob_6 fl_X6_84 rfl dX6_share_34 ?_
      refine aw_callVI X hR (s_Mo_priceOf l D ad tc X.2.2.2.2.2.2.1 ar_6_33 h) ml_X6_183 ob_6 rfl (by decide) (by decide) rfl rfl rfl rfl (Nat.le_of_ble_eq_true rfl) rfl dX6_share_37 (fun r4 σ4 h => ?_)
      exact hret 40 _ _ _ dX6_share_40 h
  · replace h := h.2 hc
    refine aw_bipush X dX6_share_23 rfl ?_
    exact hret 25 _ _ _ dX6_share_25 h

set_option maxHeartbeats 4000000 in
set_option maxRecDepth 100000 in
theorem m_Mo_share_0 {p : Program} {l : Launch} {e : Env} {R : Room} {s : State} {m : MethodId} {args : Array Value} {below : List Frame} {meth : Method} {c : Code} {D : va_G} {ad : Ky → Nat} {tc : Tc} {A : Nat → Prop} {cs sl : Nat} {Qm : State → Prop} (X : Cx p s m args c cX6_share RX6 4 D ad tc A) (hR : RmOK R cs sl 2 51) {Q : Int → Mem → Prop} (hret : RtI p l e R s m args below meth c D ad tc A cs sl Qm cX6_share Q) {l1 : Int} {σ : Mem} (h : Mo_share l1 σ Q) : AW p l e R s m args below meth c D ad tc A cs sl Qm 0 [some (.ref (ad (6, 0, 0))), some (.int (oI l1)), none, none] [] σ := by
  unfold Mo_share at h
  refine aw_iload_n X dX6_share_0 rfl ?_
  refine aw_bipush X dX6_share_1 rfl ?_
  obtain ⟨g1, h⟩ := h
  refine aw_icmp_eq X dX6_share_3 (tgt := 16) (by decide) g1 ⟨by decide, by decide⟩ (fun hc => ?_) (fun hc => ?_)
  · replace h := h.1 hc
    refine aw_weak (als' := [some (.ref (ad (6, 0, 0))), some (.int (oI l1)), none, none]) ⟨rfl, rfl, trivial⟩ ?_
    exact m_Mo_share_16 X hR hret h
  · replace h := h.2 hc
    refine aw_aload_n X dX6_share_6 rfl ?_
    refine aw_iload_n X dX6_share_7 rfl ?_
    refine aw_callVI X hR (s_Mo_noPart l D ad tc X.2.2.2.2.2.2.1 h) ml_X6_148 ob_6 rfl (by decide) (by decide) rfl rfl rfl rfl (Nat.le_of_ble_eq_true rfl) rfl dX6_share_8 (fun r3 σ3 h => ?_)
    obtain ⟨g4, h⟩ := h
    refine aw_if_eq X dX6_share_11 (tgt := 16) (by decide) g4 (fun hc => ?_) (fun hc => ?_)
    · replace h := h.1 hc
      refine aw_weak (als' := [some (.ref (ad (6, 0, 0))), some (.int (oI l1)), none, none]) ⟨rfl, rfl, trivial⟩ ?_
      exact m_Mo_share_16 X hR hret h
    · replace h := h.2 hc
      refine aw_iconst X dX6_share_14 ?_
      exact hret 15 _ _ _ dX6_share_15 h
theorem s_Mo_share (l : Launch) (D : va_G) (ad : Ky → Nat) (tc : Tc) (hi : adI ad) {l1 : Int} {σ : Mem} {Q : Int → Mem → Prop} (h : Mo_share l1 σ Q) : CtI l D ad tc yX6_share cX6_share 4 (some .int) { frames := 2, cells := 0, slots := 0, locals := 51 } [.ref (ad (6, 0, 0)), .int (oI l1)] σ Q := CtI.mk (by decide +kernel) hi (Nat.le_of_ble_eq_true rfl) rfl (fun p e s m args below meth c A Qm X hR hret => m_Mo_share_0 X hR hret h)

set_option maxHeartbeats 4000000 in
set_option maxRecDepth 100000 in
theorem m_Mo_ask_0 {p : Program} {l : Launch} {e : Env} {R : Room} {s : State} {m : MethodId} {args : Array Value} {below : List Frame} {meth : Method} {c : Code} {D : va_G} {ad : Ky → Nat} {tc : Tc} {A : Nat → Prop} {cs sl : Nat} {Qm : State → Prop} (X : Cx p s m args c cX6_ask RX6 4 D ad tc A) (hR : RmOK R cs sl 2 44) {Q : Int → Mem → Prop} (hret : RtI p l e R s m args below meth c D ad tc A cs sl Qm cX6_ask Q) {l1 : Int} {l2 : Int} {σ : Mem} (h : Mo_ask l1 l2 σ Q) : AW p l e R s m args below meth c D ad tc A cs sl Qm 0 [some (.ref (ad (6, 0, 0))), some (.int (oI l1)), some (.int (oI l2)), none] [] σ := by
  unfold Mo_ask at h
  refine aw_aload_n X dX6_ask_0 rfl ?_
  refine aw_iload_n X dX6_ask_1 rfl ?_
  refine aw_iload_n X dX6_ask_2 rfl ?_
  refine aw_callVI X hR (s_Mo_noValue l D ad tc X.2.2.2.2.2.2.1 h) ml_X6_137 ob_6 rfl (by decide) (by decide) rfl rfl rfl rfl (Nat.le_of_ble_eq_true rfl) rfl dX6_ask_3 (fun r1 σ1 h => ?_)
  obtain ⟨g2, h⟩ := h
  refine aw_if_eq X dX6_ask_6 (tgt := 11) (by decide) g2 (fun hc => ?_) (fun hc => ?_)
  · replace h := h.1 hc
    refine aw_aload_n X dX6_ask_11 rfl ?_
    refine aw_get X ob_6 fl_X6_20 rfl dX6_ask_12 ?_
    refine aw_iload_n X dX6_ask_15 rfl ?_
    obtain ⟨g3a, g3b, h⟩ := h
    refine aw_iald X ar_6_4 g3a g3b dX6_ask_16 ?_
    refine aw_istore_n X dX6_ask_17 (Nat.le_of_ble_eq_true rfl) rfl ?_
    obtain ⟨x4, ex4⟩ : ∃ z : Int, z = (σ1 6 0 4 l1) := ⟨_, rfl⟩
    replace h := h x4 ex4
    refine aw_als (als' := [some (.ref (ad (6, 0, 0))), some (.int (oI l1)), some (.int (oI l2)), some (.int (oI x4))]) (by subst ex4; rfl) ?_
    refine aw_aload_n X dX6_ask_18 rfl ?_
    refine aw_get X ob_6 fl_X6_20 rfl dX6_ask_19 ?_
    refine aw_iload_n X dX6_ask_22 rfl ?_
    refine aw_iload_n X dX6_ask_23 rfl ?_
    obtain ⟨g5a, g5b, h⟩ := h
    refine aw_iast X ar_6_4 g5a g5b dX6_ask_24 ?_
    obtain ⟨σ5, eσ5⟩ : ∃ z : Mem, z = up σ1 6 0 4 l1 l2 := ⟨_, rfl⟩
    replace h := h σ5 eσ5
    refine aw_mem eσ5 ?_
    refine aw_iload_n X dX6_ask_25 rfl ?_
    exact hret 26 _ _ _ dX6_ask_26 h
  · replace h := h.2 hc
    refine aw_iconst X dX6_ask_9 ?_
    exact hret 10 _ _ _ dX6_ask_10 h
theorem s_Mo_ask (l : Launch) (D : va_G) (ad : Ky → Nat) (tc : Tc) (hi : adI ad) {l1 : Int} {l2 : Int} {σ : Mem} {Q : Int → Mem → Prop} (h : Mo_ask l1 l2 σ Q) : CtI l D ad tc yX6_ask cX6_ask 4 (some .int) { frames := 2, cells := 0, slots := 0, locals := 44 } [.ref (ad (6, 0, 0)), .int (oI l1), .int (oI l2)] σ Q := CtI.mk (by decide +kernel) hi (Nat.le_of_ble_eq_true rfl) rfl (fun p e s m args below meth c A Qm X hR hret => m_Mo_ask_0 X hR hret h)

set_option maxHeartbeats 4000000 in
set_option maxRecDepth 100000 in
theorem m_Mo_answer_16 {p : Program} {l : Launch} {e : Env} {R : Room} {s : State} {m : MethodId} {args : Array Value} {below : List Frame} {meth : Method} {c : Code} {D : va_G} {ad : Ky → Nat} {tc : Tc} {A : Nat → Prop} {cs sl : Nat} {Qm : State → Prop} (X : Cx p s m args c cX6_answer RX6 3 D ad tc A) (hR : RmOK R cs sl 2 51) {Q : Int → Mem → Prop} (hret : RtI p l e R s m args below meth c D ad tc A cs sl Qm cX6_answer Q) {σ : Mem} (h : Mo_answer_16 Q σ) : AW p l e R s m args below meth c D ad tc A cs sl Qm 16 [none, none, none] [] σ := by
  unfold Mo_answer_16 at h
  refine aw_iconst X dX6_answer_16 ?_
  exact hret 17 _ _ _ dX6_answer_17 h

set_option maxHeartbeats 4000000 in
set_option maxRecDepth 100000 in
theorem m_Mo_answer_0 {p : Program} {l : Launch} {e : Env} {R : Room} {s : State} {m : MethodId} {args : Array Value} {below : List Frame} {meth : Method} {c : Code} {D : va_G} {ad : Ky → Nat} {tc : Tc} {A : Nat → Prop} {cs sl : Nat} {Qm : State → Prop} (X : Cx p s m args c cX6_answer RX6 3 D ad tc A) (hR : RmOK R cs sl 2 51) {Q : Int → Mem → Prop} (hret : RtI p l e R s m args below meth c D ad tc A cs sl Qm cX6_answer Q) {l1 : Int} {l2 : Int} {σ : Mem} (h : Mo_answer l1 l2 σ Q) : AW p l e R s m args below meth c D ad tc A cs sl Qm 0 [some (.ref (ad (6, 0, 0))), some (.int (oI l1)), some (.int (oI l2))] [] σ := by
  unfold Mo_answer at h
  refine aw_aload_n X dX6_answer_0 rfl ?_
  refine aw_iload_n X dX6_answer_1 rfl ?_
  refine aw_callVI X hR (s_Mo_noPart l D ad tc X.2.2.2.2.2.2.1 h) ml_X6_148 ob_6 rfl (by decide) (by decide) rfl rfl rfl rfl (Nat.le_of_ble_eq_true rfl) rfl dX6_answer_2 (fun r1 σ1 h => ?_)
  obtain ⟨g2, h⟩ := h
  refine aw_if_ne X dX6_answer_5 (tgt := 16) (by decide) g2 (fun hc => ?_) (fun hc => ?_)
  · replace h := h.1 hc
    refine aw_weak (als' := [none, none, none]) trivial ?_
    exact m_Mo_answer_16 X hR hret h
  · replace h := h.2 hc
    refine aw_aload_n X dX6_answer_8 rfl ?_
    refine aw_iload_n X dX6_answer_9 rfl ?_
    refine aw_callVI X hR (s_Mo_noFuture l D ad tc X.2.2.2.2.2.2.1 h) ml_X6_144 ob_6 rfl (by decide) (by decide) rfl rfl rfl rfl (Nat.le_of_ble_eq_true rfl) rfl dX6_answer_10 (fun r3 σ3 h => ?_)
    obtain ⟨g4, h⟩ := h
    refine aw_if_eq X dX6_answer_13 (tgt := 18) (by decide) g4 (fun hc => ?_) (fun hc => ?_)
    · replace h := h.1 hc
      refine aw_aload_n X dX6_answer_18 rfl ?_
      refine aw_iload_n X dX6_answer_19 rfl ?_
      refine aw_aload_n X dX6_answer_20 rfl ?_
      refine aw_iload_n X dX6_answer_21 rfl ?_
      refine aw_aload_n X dX6_answer_22 rfl ?_
      refine aw_get X ob_6 fl_X6_20 rfl dX6_answer_23 ?_
      refine aw_callVI X hR (s_Mo_codeOf l D ad tc X.2.2.2.2.2.2.1 ar_6_4 h) ml_X6_187 ob_6 rfl (by decide) (by decide) rfl rfl rfl rfl (Nat.le_of_ble_eq_true rfl) rfl dX6_answer_26 (fun r5 σ5 h => ?_)
      refine aw_iload_n X dX6_answer_29 rfl ?_
      refine aw_callVI X hR (s_Mo_answerTo l D ad tc X.2.2.2.2.2.2.1 h) ml_X6_171 ob_6 rfl (by decide) (by decide) rfl rfl rfl rfl (Nat.le_of_ble_eq_true rfl) rfl dX6_answer_30 (fun r6 σ6 h => ?_)
      exact hret 33 _ _ _ dX6_answer_33 h
    · replace h := h.2 hc
      refine aw_weak (als' := [none, none, none]) trivial ?_
      exact m_Mo_answer_16 X hR hret h
theorem s_Mo_answer (l : Launch) (D : va_G) (ad : Ky → Nat) (tc : Tc) (hi : adI ad) {l1 : Int} {l2 : Int} {σ : Mem} {Q : Int → Mem → Prop} (h : Mo_answer l1 l2 σ Q) : CtI l D ad tc yX6_answer cX6_answer 3 (some .int) { frames := 2, cells := 0, slots := 0, locals := 51 } [.ref (ad (6, 0, 0)), .int (oI l1), .int (oI l2)] σ Q := CtI.mk (by decide +kernel) hi (Nat.le_of_ble_eq_true rfl) rfl (fun p e s m args below meth c A Qm X hR hret => m_Mo_answer_0 X hR hret h)

set_option maxHeartbeats 4000000 in
set_option maxRecDepth 100000 in
theorem m_Mo_unit_69 {p : Program} {l : Launch} {e : Env} {R : Room} {s : State} {m : MethodId} {args : Array Value} {below : List Frame} {meth : Method} {c : Code} {D : va_G} {ad : Ky → Nat} {tc : Tc} {A : Nat → Prop} {cs sl : Nat} {Qm : State → Prop} (X : Cx p s m args c cX6_unit RX6 5 D ad tc A) (hR : RmOK R cs sl 2 51) {Q : Int → Mem → Prop} (hret : RtI p l e R s m args below meth c D ad tc A cs sl Qm cX6_unit Q) {s0 : Int} {σ : Mem} (h : Mo_unit_69 Q s0 σ) : AW p l e R s m args below meth c D ad tc A cs sl Qm 69 [none, none, none, none, none] [.int (oI s0)] σ := by
  unfold Mo_unit_69 at h
  exact hret 69 _ _ _ dX6_unit_69 h

set_option maxHeartbeats 4000000 in
set_option maxRecDepth 100000 in
theorem m_Mo_unit_32 {p : Program} {l : Launch} {e : Env} {R : Room} {s : State} {m : MethodId} {args : Array Value} {below : List Frame} {meth : Method} {c : Code} {D : va_G} {ad : Ky → Nat} {tc : Tc} {A : Nat → Prop} {cs sl : Nat} {Qm : State → Prop} (X : Cx p s m args c cX6_unit RX6 5 D ad tc A) (hR : RmOK R cs sl 2 51) {Q : Int → Mem → Prop} (hret : RtI p l e R s m args below meth c D ad tc A cs sl Qm cX6_unit Q) {σ : Mem} (h : Mo_unit_32 Q σ) : AW p l e R s m args below meth c D ad tc A cs sl Qm 32 [none, none, none, none, none] [] σ := by
  unfold Mo_unit_32 at h
  refine aw_iconst X dX6_unit_32 ?_
  exact hret 33 _ _ _ dX6_unit_33 h

set_option maxHeartbeats 4000000 in
set_option maxRecDepth 100000 in
theorem m_Mo_unit_0 {p : Program} {l : Launch} {e : Env} {R : Room} {s : State} {m : MethodId} {args : Array Value} {below : List Frame} {meth : Method} {c : Code} {D : va_G} {ad : Ky → Nat} {tc : Tc} {A : Nat → Prop} {cs sl : Nat} {Qm : State → Prop} (X : Cx p s m args c cX6_unit RX6 5 D ad tc A) (hR : RmOK R cs sl 2 51) {Q : Int → Mem → Prop} (hret : RtI p l e R s m args below meth c D ad tc A cs sl Qm cX6_unit Q) {l1 : Int} {l2 : Int} {l3 : Int} {σ : Mem} (h : Mo_unit l1 l2 l3 σ Q) : AW p l e R s m args below meth c D ad tc A cs sl Qm 0 [some (.ref (ad (6, 0, 0))), some (.int (oI l1)), some (.int (oI l2)), some (.int (oI l3)), none] [] σ := by
  unfold Mo_unit at h
  refine aw_aload_n X dX6_unit_0 rfl ?_
  refine aw_iload_n X dX6_unit_1 rfl ?_
  refine aw_callVI X hR (s_Mo_noPart l D ad tc X.2.2.2.2.2.2.1 h) ml_X6_148 ob_6 rfl (by decide) (by decide) rfl rfl rfl rfl (Nat.le_of_ble_eq_true rfl) rfl dX6_unit_2 (fun r1 σ1 h => ?_)
  obtain ⟨g2, h⟩ := h
  refine aw_if_ne X dX6_unit_5 (tgt := 32) (by decide) g2 (fun hc => ?_) (fun hc => ?_)
  · replace h := h.1 hc
    refine aw_weak (als' := [none, none, none, none, none]) trivial ?_
    exact m_Mo_unit_32 X hR hret h
  · replace h := h.2 hc
    refine aw_aload_n X dX6_unit_8 rfl ?_
    refine aw_iload_n X dX6_unit_9 rfl ?_
    refine aw_callVI X hR (s_Mo_noFuture l D ad tc X.2.2.2.2.2.2.1 h) ml_X6_144 ob_6 rfl (by decide) (by decide) rfl rfl rfl rfl (Nat.le_of_ble_eq_true rfl) rfl dX6_unit_10 (fun r3 σ3 h => ?_)
    obtain ⟨g4, h⟩ := h
    refine aw_if_ne X dX6_unit_13 (tgt := 32) (by decide) g4 (fun hc => ?_) (fun hc => ?_)
    · replace h := h.1 hc
      refine aw_weak (als' := [none, none, none, none, none]) trivial ?_
      exact m_Mo_unit_32 X hR hret h
    · replace h := h.2 hc
      refine aw_iload_n X dX6_unit_16 rfl ?_
      refine aw_iconst X dX6_unit_17 ?_
      refine aw_aload_n X dX6_unit_18 rfl ?_
      refine aw_get X ob_6 fl_X6_36 rfl dX6_unit_19 ?_
      refine aw_iload_n X dX6_unit_22 rfl ?_
      obtain ⟨g5a, g5b, h⟩ := h
      refine aw_iald X ar_6_10 g5a g5b dX6_unit_23 ?_
      refine aw_iconst X dX6_unit_24 ?_
      refine aw_isub X dX6_unit_25 ?_
      refine aw_callSI X hR (s_Mo_beyond l D ad tc X.2.2.2.2.2.2.1 h) ms_X6_130 (by decide) (by decide) rfl rfl rfl rfl (Nat.le_of_ble_eq_true rfl) rfl dX6_unit_26 (fun r6 σ6 h => ?_)
      obtain ⟨g7, h⟩ := h
      refine aw_if_eq X dX6_unit_29 (tgt := 34) (by decide) g7 (fun hc => ?_) (fun hc => ?_)
      · replace h := h.1 hc
        refine aw_aload_n X dX6_unit_34 rfl ?_
        refine aw_iload_n X dX6_unit_35 rfl ?_
        refine aw_aload_n X dX6_unit_36 rfl ?_
        refine aw_iload_n X dX6_unit_37 rfl ?_
        refine aw_aload_n X dX6_unit_38 rfl ?_
        refine aw_get X ob_6 fl_X6_20 rfl dX6_unit_39 ?_
        refine aw_callVI X hR (s_Mo_codeOf l D ad tc X.2.2.2.2.2.2.1 ar_6_4 h) ml_X6_187 ob_6 rfl (by decide) (by decide) rfl rfl rfl rfl (Nat.le_of_ble_eq_true rfl) rfl dX6_unit_42 (fun r8 σ8 h => ?_)
        refine aw_iload_n X dX6_unit_45 rfl ?_
        refine aw_callVI X hR (s_Mo_answerTo l D ad tc X.2.2.2.2.2.2.1 h) ml_X6_171 ob_6 rfl (by decide) (by decide) rfl rfl rfl rfl (Nat.le_of_ble_eq_true rfl) rfl dX6_unit_46 (fun r9 σ9 h => ?_)
        refine aw_istore X dX6_unit_49 (Nat.le_of_ble_eq_true rfl) rfl ?_
        refine aw_als (als' := [some (.ref (ad (6, 0, 0))), some (.int (oI l1)), some (.int (oI l2)), some (.int (oI l3)), some (.int (oI r9))]) rfl ?_
        refine aw_iload X dX6_unit_51 rfl ?_
        refine aw_bipush X dX6_unit_53 rfl ?_
        obtain ⟨g10, h⟩ := h
        refine aw_icmp_ne X dX6_unit_55 (tgt := 63) (by decide) g10 ⟨by decide, by decide⟩ (fun hc => ?_) (fun hc => ?_)
        · replace h := h.1 hc
          refine aw_aload_n X dX6_unit_63 rfl ?_
          refine aw_get X ob_6 fl_X6_96 rfl dX6_unit_64 ?_
          refine aw_iload_n X dX6_unit_67 rfl ?_
          obtain ⟨g12a, g12b, h⟩ := h
          refine aw_iald X ar_6_37 g12a g12b dX6_unit_68 ?_
          refine aw_weak (als' := [none, none, none, none, none]) trivial ?_
          exact m_Mo_unit_69 X hR hret h
        · replace h := h.2 hc
          refine aw_bipush X dX6_unit_58 rfl ?_
          refine aw_goto X dX6_unit_60 (tgt := 69) (by decide) ?_
          refine aw_weak (als' := [none, none, none, none, none]) trivial ?_
          exact m_Mo_unit_69 X hR hret h
      · replace h := h.2 hc
        refine aw_weak (als' := [none, none, none, none, none]) trivial ?_
        exact m_Mo_unit_32 X hR hret h
theorem s_Mo_unit (l : Launch) (D : va_G) (ad : Ky → Nat) (tc : Tc) (hi : adI ad) {l1 : Int} {l2 : Int} {l3 : Int} {σ : Mem} {Q : Int → Mem → Prop} (h : Mo_unit l1 l2 l3 σ Q) : CtI l D ad tc yX6_unit cX6_unit 5 (some .int) { frames := 2, cells := 0, slots := 0, locals := 51 } [.ref (ad (6, 0, 0)), .int (oI l1), .int (oI l2), .int (oI l3)] σ Q := CtI.mk (by decide +kernel) hi (Nat.le_of_ble_eq_true rfl) rfl (fun p e s m args below meth c A Qm X hR hret => m_Mo_unit_0 X hR hret h)

set_option maxHeartbeats 4000000 in
set_option maxRecDepth 100000 in
theorem m_Mo_cut_143 {p : Program} {l : Launch} {e : Env} {R : Room} {s : State} {m : MethodId} {args : Array Value} {below : List Frame} {meth : Method} {c : Code} {D : va_G} {ad : Ky → Nat} {tc : Tc} {A : Nat → Prop} {cs sl : Nat} {Qm : State → Prop} (X : Cx p s m args c cX6_cut RX6 3 D ad tc A) (hR : RmOK R cs sl 2 49) {Q : Int → Mem → Prop} (hret : RtI p l e R s m args below meth c D ad tc A cs sl Qm cX6_cut Q) {s0 : Int} {σ : Mem} (h : Mo_cut_143 Q s0 σ) : AW p l e R s m args below meth c D ad tc A cs sl Qm 143 [none, none, none] [.int (oI s0)] σ := by
  unfold Mo_cut_143 at h
  exact hret 143 _ _ _ dX6_cut_143 h

set_option maxHeartbeats 4000000 in
set_option maxRecDepth 100000 in
theorem m_Mo_cut_74 {p : Program} {l : Launch} {e : Env} {R : Room} {s : State} {m : MethodId} {args : Array Value} {below : List Frame} {meth : Method} {c : Code} {D : va_G} {ad : Ky → Nat} {tc : Tc} {A : Nat → Prop} {cs sl : Nat} {Qm : State → Prop} (X : Cx p s m args c cX6_cut RX6 3 D ad tc A) (hR : RmOK R cs sl 2 49) {Q : Int → Mem → Prop} (hret : RtI p l e R s m args below meth c D ad tc A cs sl Qm cX6_cut Q) {s0 : Int} {σ : Mem} (h : Mo_cut_74 Q s0 σ) : AW p l e R s m args below meth c D ad tc A cs sl Qm 74 [none, none, none] [.int (oI s0)] σ := by
  unfold Mo_cut_74 at h
  exact hret 74 _ _ _ dX6_cut_74 h

set_option maxHeartbeats 4000000 in
set_option maxRecDepth 100000 in
theorem m_Mo_cut_0 {p : Program} {l : Launch} {e : Env} {R : Room} {s : State} {m : MethodId} {args : Array Value} {below : List Frame} {meth : Method} {c : Code} {D : va_G} {ad : Ky → Nat} {tc : Tc} {A : Nat → Prop} {cs sl : Nat} {Qm : State → Prop} (X : Cx p s m args c cX6_cut RX6 3 D ad tc A) (hR : RmOK R cs sl 2 49) {Q : Int → Mem → Prop} (hret : RtI p l e R s m args below meth c D ad tc A cs sl Qm cX6_cut Q) {l1 : Int} {l2 : Int} {σ : Mem} (h : Mo_cut l1 l2 σ Q) : AW p l e R s m args below meth c D ad tc A cs sl Qm 0 [some (.ref (ad (6, 0, 0))), some (.int (oI l1)), some (.int (oI l2))] [] σ := by
  unfold Mo_cut at h
  refine aw_iload_n X dX6_cut_0 rfl ?_
  refine aw_iconst X dX6_cut_1 ?_
  refine aw_aload_n X dX6_cut_2 rfl ?_
  refine aw_get X ob_6 fl_X6_124 rfl dX6_cut_3 ?_
  refine aw_iconst X dX6_cut_6 ?_
  refine aw_isub X dX6_cut_7 ?_
  refine aw_callSI X hR (s_Mo_beyond l D ad tc X.2.2.2.2.2.2.1 h) ms_X6_130 (by decide) (by decide) rfl rfl rfl rfl (Nat.le_of_ble_eq_true rfl) rfl dX6_cut_8 (fun r1 σ1 h => ?_)
  obtain ⟨g2, h⟩ := h
  refine aw_if_eq X dX6_cut_11 (tgt := 16) (by decide) g2 (fun hc => ?_) (fun hc => ?_)
  · replace h := h.1 hc
    refine aw_iload_n X dX6_cut_16 rfl ?_
    obtain ⟨g3, h⟩ := h
    by_cases hc0 : l2 = 0
    · replace h := h.1 hc0
      refine aw_tableIn X dX6_cut_17 0 hc0 ⟨by decide, by decide⟩ (by decide) (by decide) rfl (tgt := 60) (by decide) ?_
      refine aw_aload_n X dX6_cut_60 rfl ?_
      refine aw_get X ob_6 fl_X6_60 rfl dX6_cut_61 ?_
      refine aw_iload_n X dX6_cut_64 rfl ?_
      obtain ⟨g4a, g4b, h⟩ := h
      refine aw_zald X ar_6_19 g4a g4b dX6_cut_65 ?_
      obtain ⟨g5, h⟩ := h
      refine aw_if_eq X dX6_cut_66 (tgt := 73) (by decide) g5 (fun hc => ?_) (fun hc => ?_)
      · replace h := h.1 hc
        refine aw_iconst X dX6_cut_73 ?_
        refine aw_weak (als' := [none, none, none]) trivial ?_
        exact m_Mo_cut_74 X hR hret h
      · replace h := h.2 hc
        refine aw_iconst X dX6_cut_69 ?_
        refine aw_goto X dX6_cut_70 (tgt := 74) (by decide) ?_
        refine aw_weak (als' := [none, none, none]) trivial ?_
        exact m_Mo_cut_74 X hR hret h
    replace h := h.2
    by_cases hc1 : l2 = 1
    · replace h := h.1 hc1
      refine aw_tableIn X dX6_cut_17 1 hc1 ⟨by decide, by decide⟩ (by decide) (by decide) rfl (tgt := 75) (by decide) ?_
      refine aw_aload_n X dX6_cut_75 rfl ?_
      refine aw_get X ob_6 fl_X6_63 rfl dX6_cut_76 ?_
      refine aw_iload_n X dX6_cut_79 rfl ?_
      obtain ⟨g6a, g6b, h⟩ := h
      refine aw_iald X ar_6_20 g6a g6b dX6_cut_80 ?_
      exact hret 81 _ _ _ dX6_cut_81 h
    replace h := h.2
    by_cases hc2 : l2 = 2
    · replace h := h.1 hc2
      refine aw_tableIn X dX6_cut_17 2 hc2 ⟨by decide, by decide⟩ (by decide) (by decide) rfl (tgt := 82) (by decide) ?_
      refine aw_aload_n X dX6_cut_82 rfl ?_
      refine aw_get X ob_6 fl_X6_66 rfl dX6_cut_83 ?_
      refine aw_iload_n X dX6_cut_86 rfl ?_
      obtain ⟨g7a, g7b, h⟩ := h
      refine aw_iald X ar_6_21 g7a g7b dX6_cut_87 ?_
      exact hret 88 _ _ _ dX6_cut_88 h
    replace h := h.2
    by_cases hc3 : l2 = 3
    · replace h := h.1 hc3
      refine aw_tableIn X dX6_cut_17 3 hc3 ⟨by decide, by decide⟩ (by decide) (by decide) rfl (tgt := 89) (by decide) ?_
      refine aw_aload_n X dX6_cut_89 rfl ?_
      refine aw_get X ob_6 fl_X6_69 rfl dX6_cut_90 ?_
      refine aw_iload_n X dX6_cut_93 rfl ?_
      obtain ⟨g8a, g8b, h⟩ := h
      refine aw_iald X ar_6_22 g8a g8b dX6_cut_94 ?_
      exact hret 95 _ _ _ dX6_cut_95 h
    replace h := h.2
    by_cases hc4 : l2 = 4
    · replace h := h.1 hc4
      refine aw_tableIn X dX6_cut_17 4 hc4 ⟨by decide, by decide⟩ (by decide) (by decide) rfl (tgt := 96) (by decide) ?_
      refine aw_aload_n X dX6_cut_96 rfl ?_
      refine aw_get X ob_6 fl_X6_75 rfl dX6_cut_97 ?_
      refine aw_iload_n X dX6_cut_100 rfl ?_
      obtain ⟨g9a, g9b, h⟩ := h
      refine aw_iald X ar_6_24 g9a g9b dX6_cut_101 ?_
      exact hret 102 _ _ _ dX6_cut_102 h
    replace h := h.2
    by_cases hc5 : l2 = 5
    · replace h := h.1 hc5
      refine aw_tableIn X dX6_cut_17 5 hc5 ⟨by decide, by decide⟩ (by decide) (by decide) rfl (tgt := 103) (by decide) ?_
      refine aw_aload_n X dX6_cut_103 rfl ?_
      refine aw_get X ob_6 fl_X6_72 rfl dX6_cut_104 ?_
      refine aw_iload_n X dX6_cut_107 rfl ?_
      obtain ⟨g10a, g10b, h⟩ := h
      refine aw_iald X ar_6_23 g10a g10b dX6_cut_108 ?_
      exact hret 109 _ _ _ dX6_cut_109 h
    replace h := h.2
    by_cases hc6 : l2 = 6
    · replace h := h.1 hc6
      refine aw_tableIn X dX6_cut_17 6 hc6 ⟨by decide, by decide⟩ (by decide) (by decide) rfl (tgt := 110) (by decide) ?_
      refine aw_aload_n X dX6_cut_110 rfl ?_
      refine aw_iload_n X dX6_cut_111 rfl ?_
      refine aw_aload_n X dX6_cut_112 rfl ?_
      refine aw_get X ob_6 fl_X6_63 rfl dX6_cut_113 ?_
      refine aw_iload_n X dX6_cut_116 rfl ?_
      obtain ⟨g11a, g11b, h⟩ := h
      refine aw_iald X ar_6_20 g11a g11b dX6_cut_117 ?_
      refine aw_aload_n X dX6_cut_118 rfl ?_
      refine aw_aload_n X dX6_cut_119 rfl ?_
      refine aw_get X ob_6 fl_X6_63 rfl dX6_cut_120 ?_
      refine aw_iload_n X dX6_cut_123 rfl ?_
      obtain ⟨g12a, g12b, h⟩ := h
      refine aw_iald X ar_6_20 g12a g12b dX6_cut_124 ?_
      refine aw_aload_n X dX6_cut_125 rfl ?_
      refine aw_get X ob_6 fl_X6_20 rfl dX6_cut_126 ?_
      refine aw_callVI X hR (s_Mo_codeOf l D ad tc X.2.2.2.2.2.2.1 ar_6_4 h) ml_X6_187 ob_6 rfl (by decide) (by decide) rfl rfl rfl rfl (Nat.le_of_ble_eq_true rfl) rfl dX6_cut_129 (fun r13 σ13 h => ?_)
      refine aw_callVI X hR (s_Mo_meets l D ad tc X.2.2.2.2.2.2.1 h) ml_X6_168 ob_6 rfl (by decide) (by decide) rfl rfl rfl rfl (Nat.le_of_ble_eq_true rfl) rfl dX6_cut_132 (fun r14 σ14 h => ?_)
      obtain ⟨g15, h⟩ := h
      refine aw_if_eq X dX6_cut_135 (tgt := 142) (by decide) g15 (fun hc => ?_) (fun hc => ?_)
      · replace h := h.1 hc
        refine aw_iconst X dX6_cut_142 ?_
        refine aw_weak (als' := [none, none, none]) trivial ?_
        exact m_Mo_cut_143 X hR hret h
      · replace h := h.2 hc
        refine aw_iconst X dX6_cut_138 ?_
        refine aw_goto X dX6_cut_139 (tgt := 143) (by decide) ?_
        refine aw_weak (als' := [none, none, none]) trivial ?_
        exact m_Mo_cut_143 X hR hret h
    replace h := h.2
    have hcd : l2 < 0 ∨ 6 < l2 := by omega
    replace h := h hcd
    refine aw_tableOut X dX6_cut_17 g3 hcd (tgt := 144) (by decide) ?_
    refine aw_bipush X dX6_cut_144 rfl ?_
    exact hret 146 _ _ _ dX6_cut_146 h
  · replace h := h.2 hc
    refine aw_iconst X dX6_cut_14 ?_
    exact hret 15 _ _ _ dX6_cut_15 h
theorem s_Mo_cut (l : Launch) (D : va_G) (ad : Ky → Nat) (tc : Tc) (hi : adI ad) {l1 : Int} {l2 : Int} {σ : Mem} {Q : Int → Mem → Prop} (h : Mo_cut l1 l2 σ Q) : CtI l D ad tc yX6_cut cX6_cut 3 (some .int) { frames := 2, cells := 0, slots := 0, locals := 49 } [.ref (ad (6, 0, 0)), .int (oI l1), .int (oI l2)] σ Q := CtI.mk (by decide +kernel) hi (Nat.le_of_ble_eq_true rfl) rfl (fun p e s m args below meth c A Qm X hR hret => m_Mo_cut_0 X hR hret h)

set_option maxHeartbeats 4000000 in
set_option maxRecDepth 100000 in
theorem m_Mo_reason_61 {p : Program} {l : Launch} {e : Env} {R : Room} {s : State} {m : MethodId} {args : Array Value} {below : List Frame} {meth : Method} {c : Code} {D : va_G} {ad : Ky → Nat} {tc : Tc} {A : Nat → Prop} {cs sl : Nat} {Qm : State → Prop} (X : Cx p s m args c cX6_reason RX6 3 D ad tc A) (hR : RmOK R cs sl 1 22) {Q : Int → Mem → Prop} (hret : RtI p l e R s m args below meth c D ad tc A cs sl Qm cX6_reason Q) {s0 : Int} {σ : Mem} (h : Mo_reason_61 Q s0 σ) : AW p l e R s m args below meth c D ad tc A cs sl Qm 61 [none, none, none] [.int (oI s0)] σ := by
  unfold Mo_reason_61 at h
  exact hret 61 _ _ _ dX6_reason_61 h

set_option maxHeartbeats 4000000 in
set_option maxRecDepth 100000 in
theorem m_Mo_reason_0 {p : Program} {l : Launch} {e : Env} {R : Room} {s : State} {m : MethodId} {args : Array Value} {below : List Frame} {meth : Method} {c : Code} {D : va_G} {ad : Ky → Nat} {tc : Tc} {A : Nat → Prop} {cs sl : Nat} {Qm : State → Prop} (X : Cx p s m args c cX6_reason RX6 3 D ad tc A) (hR : RmOK R cs sl 1 22) {Q : Int → Mem → Prop} (hret : RtI p l e R s m args below meth c D ad tc A cs sl Qm cX6_reason Q) {l1 : Int} {l2 : Int} {σ : Mem} (h : Mo_reason l1 l2 σ Q) : AW p l e R s m args below meth c D ad tc A cs sl Qm 0 [some (.ref (ad (6, 0, 0))), some (.int (oI l1)), some (.int (oI l2))] [] σ := by
  unfold Mo_reason at h
  refine aw_iload_n X dX6_reason_0 rfl ?_
  refine aw_iconst X dX6_reason_1 ?_
  refine aw_aload_n X dX6_reason_2 rfl ?_
  refine aw_get X ob_6 fl_X6_124 rfl dX6_reason_3 ?_
  refine aw_iconst X dX6_reason_6 ?_
  refine aw_isub X dX6_reason_7 ?_
  refine aw_callSI X hR (s_Mo_beyond l D ad tc X.2.2.2.2.2.2.1 h) ms_X6_130 (by decide) (by decide) rfl rfl rfl rfl (Nat.le_of_ble_eq_true rfl) rfl dX6_reason_8 (fun r1 σ1 h => ?_)
  obtain ⟨g2, h⟩ := h
  refine aw_if_eq X dX6_reason_11 (tgt := 16) (by decide) g2 (fun hc => ?_) (fun hc => ?_)
  · replace h := h.1 hc
    refine aw_iload_n X dX6_reason_16 rfl ?_
    refine aw_iconst X dX6_reason_17 ?_
    refine aw_aload_n X dX6_reason_18 rfl ?_
    refine aw_get X ob_6 fl_X6_75 rfl dX6_reason_19 ?_
    refine aw_iload_n X dX6_reason_22 rfl ?_
    obtain ⟨g3a, g3b, h⟩ := h
    refine aw_iald X ar_6_24 g3a g3b dX6_reason_23 ?_
    refine aw_iconst X dX6_reason_24 ?_
    refine aw_isub X dX6_reason_25 ?_
    refine aw_callSI X hR (s_Mo_beyond l D ad tc X.2.2.2.2.2.2.1 h) ms_X6_130 (by decide) (by decide) rfl rfl rfl rfl (Nat.le_of_ble_eq_true rfl) rfl dX6_reason_26 (fun r4 σ4 h => ?_)
    obtain ⟨g5, h⟩ := h
    refine aw_if_eq X dX6_reason_29 (tgt := 37) (by decide) g5 (fun hc => ?_) (fun hc => ?_)
    · replace h := h.1 hc
      refine aw_bipush X dX6_reason_37 rfl ?_
      refine aw_aload_n X dX6_reason_39 rfl ?_
      refine aw_get X ob_6 fl_X6_78 rfl dX6_reason_40 ?_
      refine aw_iconst X dX6_reason_43 ?_
      refine aw_iload_n X dX6_reason_44 rfl ?_
      refine aw_imul X dX6_reason_45 ?_
      refine aw_iload_n X dX6_reason_46 rfl ?_
      refine aw_iadd X dX6_reason_47 ?_
      obtain ⟨g6a, g6b, h⟩ := h
      refine aw_iald X ar_6_25 g6a g6b dX6_reason_48 ?_
      refine aw_imul X dX6_reason_49 ?_
      refine aw_aload_n X dX6_reason_50 rfl ?_
      refine aw_get X ob_6 fl_X6_81 rfl dX6_reason_51 ?_
      refine aw_iconst X dX6_reason_54 ?_
      refine aw_iload_n X dX6_reason_55 rfl ?_
      refine aw_imul X dX6_reason_56 ?_
      refine aw_iload_n X dX6_reason_57 rfl ?_
      refine aw_iadd X dX6_reason_58 ?_
      obtain ⟨g7a, g7b, h⟩ := h
      refine aw_iald X ar_6_26 g7a g7b dX6_reason_59 ?_
      refine aw_iadd X dX6_reason_60 ?_
      refine aw_weak (als' := [none, none, none]) trivial ?_
      exact m_Mo_reason_61 X hR hret h
    · replace h := h.2 hc
      refine aw_bipush X dX6_reason_32 rfl ?_
      refine aw_goto X dX6_reason_34 (tgt := 61) (by decide) ?_
      refine aw_weak (als' := [none, none, none]) trivial ?_
      exact m_Mo_reason_61 X hR hret h
  · replace h := h.2 hc
    refine aw_iconst X dX6_reason_14 ?_
    exact hret 15 _ _ _ dX6_reason_15 h
theorem s_Mo_reason (l : Launch) (D : va_G) (ad : Ky → Nat) (tc : Tc) (hi : adI ad) {l1 : Int} {l2 : Int} {σ : Mem} {Q : Int → Mem → Prop} (h : Mo_reason l1 l2 σ Q) : CtI l D ad tc yX6_reason cX6_reason 3 (some .int) { frames := 1, cells := 0, slots := 0, locals := 22 } [.ref (ad (6, 0, 0)), .int (oI l1), .int (oI l2)] σ Q := CtI.mk (by decide +kernel) hi (Nat.le_of_ble_eq_true rfl) rfl (fun p e s m args below meth c A Qm X hR hret => m_Mo_reason_0 X hR hret h)

set_option maxHeartbeats 4000000 in
set_option maxRecDepth 100000 in
theorem m_Mo_judge_217 {p : Program} {l : Launch} {e : Env} {R : Room} {s : State} {m : MethodId} {args : Array Value} {below : List Frame} {meth : Method} {c : Code} {D : va_G} {ad : Ky → Nat} {tc : Tc} {A : Nat → Prop} {cs sl : Nat} {Qm : State → Prop} (X : Cx p s m args c cX6_judge RX6 7 D ad tc A) (hR : RmOK R cs sl 2 51) {Q : Int → Mem → Prop} (hret : RtI p l e R s m args below meth c D ad tc A cs sl Qm cX6_judge Q) {k91 : Int → Int → Mem → Prop} (hk91 : ∀ (l1 : Int) (l2 : Int) (σ : Mem), k91 l1 l2 σ → AW p l e R s m args below meth c D ad tc A cs sl Qm 91 [some (.ref (ad (6, 0, 0))), some (.int (oI l1)), some (.int (oI l2)), none, none, none, none] [] σ) {l1 : Int} {σ : Mem} (h : Mo_judge_217 k91 Q l1 σ) : AW p l e R s m args below meth c D ad tc A cs sl Qm 217 [some (.ref (ad (6, 0, 0))), some (.int (oI l1)), none, none, none, none, none] [] σ := by
  unfold Mo_judge_217 at h
  refine aw_aload_n X dX6_judge_217 rfl ?_
  refine aw_callVI X hR (s_Mo_nextPlan l D ad tc X.2.2.2.2.2.2.1 h) ml_X6_203 ob_6 rfl (by decide) (by decide) rfl rfl rfl rfl (Nat.le_of_ble_eq_true rfl) rfl dX6_judge_218 (fun r1 σ1 h => ?_)
  refine aw_istore_n X dX6_judge_221 (Nat.le_of_ble_eq_true rfl) rfl ?_
  refine aw_als (als' := [some (.ref (ad (6, 0, 0))), some (.int (oI l1)), some (.int (oI r1)), none, none, none, none]) rfl ?_
  refine aw_goto X dX6_judge_222 (tgt := 91) (by decide) ?_
  refine aw_weak (als' := [some (.ref (ad (6, 0, 0))), some (.int (oI l1)), some (.int (oI r1)), none, none, none, none]) ⟨rfl, rfl, rfl, trivial⟩ ?_
  exact hk91 _ _ _ h

set_option maxHeartbeats 4000000 in
set_option maxRecDepth 100000 in
theorem m_Mo_judge_215 {p : Program} {l : Launch} {e : Env} {R : Room} {s : State} {m : MethodId} {args : Array Value} {below : List Frame} {meth : Method} {c : Code} {D : va_G} {ad : Ky → Nat} {tc : Tc} {A : Nat → Prop} {cs sl : Nat} {Qm : State → Prop} (X : Cx p s m args c cX6_judge RX6 7 D ad tc A) (hR : RmOK R cs sl 2 51) {Q : Int → Mem → Prop} (hret : RtI p l e R s m args below meth c D ad tc A cs sl Qm cX6_judge Q) {k91 : Int → Int → Mem → Prop} (hk91 : ∀ (l1 : Int) (l2 : Int) (σ : Mem), k91 l1 l2 σ → AW p l e R s m args below meth c D ad tc A cs sl Qm 91 [some (.ref (ad (6, 0, 0))), some (.int (oI l1)), some (.int (oI l2)), none, none, none, none] [] σ) {l3 : Int} {σ : Mem} (h : Mo_judge_215 k91 Q l3 σ) : AW p l e R s m args below meth c D ad tc A cs sl Qm 215 [some (.ref (ad (6, 0, 0))), none, none, some (.int (oI l3)), none, none, none] [] σ := by
  unfold Mo_judge_215 at h
  refine aw_iload_n X dX6_judge_215 rfl ?_
  refine aw_istore_n X dX6_judge_216 (Nat.le_of_ble_eq_true rfl) rfl ?_
  refine aw_als (als' := [some (.ref (ad (6, 0, 0))), some (.int (oI l3)), none, some (.int (oI l3)), none, none, none]) rfl ?_
  refine aw_weak (als' := [some (.ref (ad (6, 0, 0))), some (.int (oI l3)), none, none, none, none, none]) ⟨rfl, rfl, trivial⟩ ?_
  exact m_Mo_judge_217 X hR hret hk91 h

set_option maxHeartbeats 4000000 in
set_option maxRecDepth 100000 in
theorem m_Mo_judge_200 {p : Program} {l : Launch} {e : Env} {R : Room} {s : State} {m : MethodId} {args : Array Value} {below : List Frame} {meth : Method} {c : Code} {D : va_G} {ad : Ky → Nat} {tc : Tc} {A : Nat → Prop} {cs sl : Nat} {Qm : State → Prop} (X : Cx p s m args c cX6_judge RX6 7 D ad tc A) (hR : RmOK R cs sl 2 51) {Q : Int → Mem → Prop} (hret : RtI p l e R s m args below meth c D ad tc A cs sl Qm cX6_judge Q) {k91 : Int → Int → Mem → Prop} (hk91 : ∀ (l1 : Int) (l2 : Int) (σ : Mem), k91 l1 l2 σ → AW p l e R s m args below meth c D ad tc A cs sl Qm 91 [some (.ref (ad (6, 0, 0))), some (.int (oI l1)), some (.int (oI l2)), none, none, none, none] [] σ) {l1 : Int} {l3 : Int} {σ : Mem} (h : Mo_judge_200 k91 Q l1 l3 σ) : AW p l e R s m args below meth c D ad tc A cs sl Qm 200 [some (.ref (ad (6, 0, 0))), some (.int (oI l1)), none, some (.int (oI l3)), none, none, none] [] σ := by
  unfold Mo_judge_200 at h
  refine aw_iload_n X dX6_judge_200 rfl ?_
  obtain ⟨g1, h⟩ := h
  refine aw_if_lt X dX6_judge_201 (tgt := 217) (by decide) g1 (fun hc => ?_) (fun hc => ?_)
  · replace h := h.1 hc
    refine aw_weak (als' := [some (.ref (ad (6, 0, 0))), some (.int (oI l1)), none, none, none, none, none]) ⟨rfl, rfl, trivial⟩ ?_
    exact m_Mo_judge_217 X hR hret hk91 h
  · replace h := h.2 hc
    refine aw_iload_n X dX6_judge_204 rfl ?_
    refine aw_bipush X dX6_judge_205 rfl ?_
    obtain ⟨g2, h⟩ := h
    refine aw_icmp_eq X dX6_judge_207 (tgt := 215) (by decide) g2 ⟨by decide, by decide⟩ (fun hc => ?_) (fun hc => ?_)
    · replace h := h.1 hc
      refine aw_weak (als' := [some (.ref (ad (6, 0, 0))), none, none, some (.int (oI l3)), none, none, none]) ⟨rfl, rfl, trivial⟩ ?_
      exact m_Mo_judge_215 X hR hret hk91 h
    · replace h := h.2 hc
      refine aw_iload_n X dX6_judge_210 rfl ?_
      refine aw_iload_n X dX6_judge_211 rfl ?_
      obtain ⟨g4, h⟩ := h
      obtain ⟨g5, h⟩ := h
      refine aw_icmp_ge X dX6_judge_212 (tgt := 217) (by decide) g4 g5 (fun hc => ?_) (fun hc => ?_)
      · replace h := h.1 hc
        refine aw_weak (als' := [some (.ref (ad (6, 0, 0))), some (.int (oI l1)), none, none, none, none, none]) ⟨rfl, rfl, trivial⟩ ?_
        exact m_Mo_judge_217 X hR hret hk91 h
      · replace h := h.2 hc
        refine aw_weak (als' := [some (.ref (ad (6, 0, 0))), none, none, some (.int (oI l3)), none, none, none]) ⟨rfl, rfl, trivial⟩ ?_
        exact m_Mo_judge_215 X hR hret hk91 h

set_option maxHeartbeats 4000000 in
set_option maxRecDepth 100000 in
theorem m_Mo_judge_194 {p : Program} {l : Launch} {e : Env} {R : Room} {s : State} {m : MethodId} {args : Array Value} {below : List Frame} {meth : Method} {c : Code} {D : va_G} {ad : Ky → Nat} {tc : Tc} {A : Nat → Prop} {cs sl : Nat} {Qm : State → Prop} (X : Cx p s m args c cX6_judge RX6 7 D ad tc A) (hR : RmOK R cs sl 2 51) {Q : Int → Mem → Prop} (hret : RtI p l e R s m args below meth c D ad tc A cs sl Qm cX6_judge Q) {k107 : Int → Int → Int → Mem → Prop} (hk107 : ∀ (l1 : Int) (l3 : Int) (l4 : Int) (σ : Mem), k107 l1 l3 l4 σ → AW p l e R s m args below meth c D ad tc A cs sl Qm 107 [some (.ref (ad (6, 0, 0))), some (.int (oI l1)), none, some (.int (oI l3)), some (.int (oI l4)), none, none] [] σ) {l1 : Int} {l3 : Int} {l4 : Int} {σ : Mem} (h : Mo_judge_194 k107 Q l1 l3 l4 σ) : AW p l e R s m args below meth c D ad tc A cs sl Qm 194 [some (.ref (ad (6, 0, 0))), some (.int (oI l1)), none, some (.int (oI l3)), some (.int (oI l4)), none, none] [] σ := by
  unfold Mo_judge_194 at h
  refine aw_iinc X dX6_judge_194 rfl rfl ?_
  obtain ⟨x1, ex1⟩ : ∃ z : Int, z = (l4 + 1) := ⟨_, rfl⟩
  replace h := h x1 ex1
  refine aw_als (als' := [some (.ref (ad (6, 0, 0))), some (.int (oI l1)), none, some (.int (oI l3)), some (.int (oI x1)), none, none]) (by subst ex1; rfl) ?_
  refine aw_goto X dX6_judge_197 (tgt := 107) (by decide) ?_
  refine aw_weak (als' := [some (.ref (ad (6, 0, 0))), some (.int (oI l1)), none, some (.int (oI l3)), some (.int (oI x1)), none, none]) ⟨rfl, rfl, rfl, rfl, trivial⟩ ?_
  exact hk107 _ _ _ _ h

set_option maxHeartbeats 4000000 in
set_option maxRecDepth 100000 in
theorem m_Mo_judge_187 {p : Program} {l : Launch} {e : Env} {R : Room} {s : State} {m : MethodId} {args : Array Value} {below : List Frame} {meth : Method} {c : Code} {D : va_G} {ad : Ky → Nat} {tc : Tc} {A : Nat → Prop} {cs sl : Nat} {Qm : State → Prop} (X : Cx p s m args c cX6_judge RX6 7 D ad tc A) (hR : RmOK R cs sl 2 51) {Q : Int → Mem → Prop} (hret : RtI p l e R s m args below meth c D ad tc A cs sl Qm cX6_judge Q) {k123 : Int → Int → Int → Int → Mem → Prop} (hk123 : ∀ (l1 : Int) (l3 : Int) (l4 : Int) (l5 : Int) (σ : Mem), k123 l1 l3 l4 l5 σ → AW p l e R s m args below meth c D ad tc A cs sl Qm 123 [some (.ref (ad (6, 0, 0))), some (.int (oI l1)), none, some (.int (oI l3)), some (.int (oI l4)), some (.int (oI l5)), none] [] σ) {l1 : Int} {l4 : Int} {l5 : Int} {s0 : Int} {σ : Mem} (h : Mo_judge_187 k123 Q l1 l4 l5 s0 σ) : AW p l e R s m args below meth c D ad tc A cs sl Qm 187 [some (.ref (ad (6, 0, 0))), some (.int (oI l1)), none, none, some (.int (oI l4)), some (.int (oI l5)), none] [.int (oI s0)] σ := by
  unfold Mo_judge_187 at h
  refine aw_istore_n X dX6_judge_187 (Nat.le_of_ble_eq_true rfl) rfl ?_
  refine aw_als (als' := [some (.ref (ad (6, 0, 0))), some (.int (oI l1)), none, some (.int (oI s0)), some (.int (oI l4)), some (.int (oI l5)), none]) rfl ?_
  refine aw_iinc X dX6_judge_188 rfl rfl ?_
  obtain ⟨x1, ex1⟩ : ∃ z : Int, z = (l5 + 1) := ⟨_, rfl⟩
  replace h := h x1 ex1
  refine aw_als (als' := [some (.ref (ad (6, 0, 0))), some (.int (oI l1)), none, some (.int (oI s0)), some (.int (oI l4)), some (.int (oI x1)), none]) (by subst ex1; rfl) ?_
  refine aw_goto X dX6_judge_191 (tgt := 123) (by decide) ?_
  refine aw_weak (als' := [some (.ref (ad (6, 0, 0))), some (.int (oI l1)), none, some (.int (oI s0)), some (.int (oI l4)), some (.int (oI x1)), none]) ⟨rfl, rfl, rfl, rfl, rfl, trivial⟩ ?_
  exact hk123 _ _ _ _ _ h

set_option maxHeartbeats 4000000 in
set_option maxRecDepth 100000 in
theorem m_Mo_judge_123 {p : Program} {l : Launch} {e : Env} {R : Room} {s : State} {m : MethodId} {args : Array Value} {below : List Frame} {meth : Method} {c : Code} {D : va_G} {ad : Ky → Nat} {tc : Tc} {A : Nat → Prop} {cs sl : Nat} {Qm : State → Prop} (X : Cx p s m args c cX6_judge RX6 7 D ad tc A) (hR : RmOK R cs sl 2 51) {Q : Int → Mem → Prop} (hret : RtI p l e R s m args below meth c D ad tc A cs sl Qm cX6_judge Q) {k107 : Int → Int → Int → Mem → Prop} (hk107 : ∀ (l1 : Int) (l3 : Int) (l4 : Int) (σ : Mem), k107 l1 l3 l4 σ → AW p l e R s m args below meth c D ad tc A cs sl Qm 107 [some (.ref (ad (6, 0, 0))), some (.int (oI l1)), none, some (.int (oI l3)), some (.int (oI l4)), none, none] [] σ) : ∀ (n : Nat) (l1 : Int) (l3 : Int) (l4 : Int) (l5 : Int) (σ : Mem), Mo_judge_123 k107 Q n l1 l3 l4 l5 σ → AW p l e R s m args below meth c D ad tc A cs sl Qm 123 [some (.ref (ad (6, 0, 0))), some (.int (oI l1)), none, some (.int (oI l3)), some (.int (oI l4)), some (.int (oI l5)), none] [] σ := by
  intro n
  induction n with
  | zero =>
    intro l1 l3 l4 l5 σ h
    exact False.elim h
  | succ n ih =>
    intro l1 l3 l4 l5 σ h
    unfold Mo_judge_123 at h
    refine aw_iload X dX6_judge_123 rfl ?_
    refine aw_aload_n X dX6_judge_125 rfl ?_
    refine aw_get X ob_6 fl_X6_23 rfl dX6_judge_126 ?_
    obtain ⟨g1, h⟩ := h
    obtain ⟨g2, h⟩ := h
    refine aw_icmp_ge X dX6_judge_129 (tgt := 194) (by decide) g1 g2 (fun hc => ?_) (fun hc => ?_)
    · replace h := h.1 hc
      refine aw_weak (als' := [some (.ref (ad (6, 0, 0))), some (.int (oI l1)), none, some (.int (oI l3)), some (.int (oI l4)), none, none]) ⟨rfl, rfl, rfl, rfl, trivial⟩ ?_
      exact m_Mo_judge_194 X hR hret hk107 h
    · replace h := h.2 hc
      refine aw_iload_n X dX6_judge_132 rfl ?_
      obtain ⟨g3, h⟩ := h
      refine aw_if_lt X dX6_judge_133 (tgt := 194) (by decide) g3 (fun hc => ?_) (fun hc => ?_)
      · replace h := h.1 hc
        refine aw_weak (als' := [some (.ref (ad (6, 0, 0))), some (.int (oI l1)), none, some (.int (oI l3)), some (.int (oI l4)), none, none]) ⟨rfl, rfl, rfl, rfl, trivial⟩ ?_
        exact m_Mo_judge_194 X hR hret hk107 h
      · replace h := h.2 hc
        refine aw_aload_n X dX6_judge_136 rfl ?_
        refine aw_get X ob_6 fl_X6_108 rfl dX6_judge_137 ?_
        refine aw_bipush X dX6_judge_140 rfl ?_
        refine aw_iconst X dX6_judge_142 ?_
        refine aw_iload X dX6_judge_143 rfl ?_
        refine aw_imul X dX6_judge_145 ?_
        refine aw_iload X dX6_judge_146 rfl ?_
        refine aw_iadd X dX6_judge_148 ?_
        refine aw_imul X dX6_judge_149 ?_
        refine aw_aload_n X dX6_judge_150 rfl ?_
        refine aw_iload X dX6_judge_151 rfl ?_
        refine aw_aload_n X dX6_judge_153 rfl ?_
        refine aw_get X ob_6 fl_X6_105 rfl dX6_judge_154 ?_
        refine aw_callVI X hR (s_Mo_codeOf l D ad tc X.2.2.2.2.2.2.1 ar_6_40 h) ml_X6_187 ob_6 rfl (by decide) (by decide) rfl rfl rfl rfl (Nat.le_of_ble_eq_true rfl) rfl dX6_judge_157 (fun r4 σ4 h => ?_)
        refine aw_iadd X dX6_judge_160 ?_
        obtain ⟨g5a, g5b, h⟩ := h
        refine aw_iald X ar_6_41 g5a g5b dX6_judge_161 ?_
        refine aw_istore X dX6_judge_162 (Nat.le_of_ble_eq_true rfl) rfl ?_
        obtain ⟨x6, ex6⟩ : ∃ z : Int, z = (σ4 6 0 41 ((64 * ((4 * l4) + l5)) + r4)) := ⟨_, rfl⟩
        replace h := h x6 ex6
        refine aw_als (als' := [some (.ref (ad (6, 0, 0))), some (.int (oI l1)), none, some (.int (oI l3)), some (.int (oI l4)), some (.int (oI l5)), some (.int (oI x6))]) (by subst ex6; rfl) ?_
        refine aw_iload X dX6_judge_164 rfl ?_
        refine aw_bipush X dX6_judge_166 rfl ?_
        obtain ⟨g7, h⟩ := h
        refine aw_icmp_ne X dX6_judge_168 (tgt := 175) (by decide) g7 ⟨by decide, by decide⟩ (fun hc => ?_) (fun hc => ?_)
        · replace h := h.1 hc
          refine aw_iload_n X dX6_judge_175 rfl ?_
          refine aw_aload_n X dX6_judge_176 rfl ?_
          refine aw_get X ob_6 fl_X6_27 rfl dX6_judge_177 ?_
          refine aw_iload X dX6_judge_180 rfl ?_
          obtain ⟨g9a, g9b, h⟩ := h
          refine aw_iald X ar_6_6 g9a g9b dX6_judge_182 ?_
          refine aw_iload X dX6_judge_183 rfl ?_
          refine aw_imul X dX6_judge_185 ?_
          refine aw_iadd X dX6_judge_186 ?_
          refine aw_weak (als' := [some (.ref (ad (6, 0, 0))), some (.int (oI l1)), none, none, some (.int (oI l4)), some (.int (oI l5)), none]) ⟨rfl, rfl, rfl, rfl, trivial⟩ ?_
          exact m_Mo_judge_187 X hR hret ih h
        · replace h := h.2 hc
          refine aw_iconst X dX6_judge_171 ?_
          refine aw_goto X dX6_judge_172 (tgt := 187) (by decide) ?_
          refine aw_weak (als' := [some (.ref (ad (6, 0, 0))), some (.int (oI l1)), none, none, some (.int (oI l4)), some (.int (oI l5)), none]) ⟨rfl, rfl, rfl, rfl, trivial⟩ ?_
          exact m_Mo_judge_187 X hR hret ih h

set_option maxHeartbeats 4000000 in
set_option maxRecDepth 100000 in
theorem m_Mo_judge_107 {p : Program} {l : Launch} {e : Env} {R : Room} {s : State} {m : MethodId} {args : Array Value} {below : List Frame} {meth : Method} {c : Code} {D : va_G} {ad : Ky → Nat} {tc : Tc} {A : Nat → Prop} {cs sl : Nat} {Qm : State → Prop} (X : Cx p s m args c cX6_judge RX6 7 D ad tc A) (hR : RmOK R cs sl 2 51) {Q : Int → Mem → Prop} (hret : RtI p l e R s m args below meth c D ad tc A cs sl Qm cX6_judge Q) {k91 : Int → Int → Mem → Prop} (hk91 : ∀ (l1 : Int) (l2 : Int) (σ : Mem), k91 l1 l2 σ → AW p l e R s m args below meth c D ad tc A cs sl Qm 91 [some (.ref (ad (6, 0, 0))), some (.int (oI l1)), some (.int (oI l2)), none, none, none, none] [] σ) : ∀ (n : Nat) (l1 : Int) (l3 : Int) (l4 : Int) (σ : Mem), Mo_judge_107 k91 Q n l1 l3 l4 σ → AW p l e R s m args below meth c D ad tc A cs sl Qm 107 [some (.ref (ad (6, 0, 0))), some (.int (oI l1)), none, some (.int (oI l3)), some (.int (oI l4)), none, none] [] σ := by
  intro n
  induction n with
  | zero =>
    intro l1 l3 l4 σ h
    exact False.elim h
  | succ n ih =>
    intro l1 l3 l4 σ h
    unfold Mo_judge_107 at h
    refine aw_iload X dX6_judge_107 rfl ?_
    refine aw_aload_n X dX6_judge_109 rfl ?_
    refine aw_get X ob_6 fl_X6_141 rfl dX6_judge_110 ?_
    obtain ⟨g1, h⟩ := h
    obtain ⟨g2, h⟩ := h
    refine aw_icmp_ge X dX6_judge_113 (tgt := 200) (by decide) g1 g2 (fun hc => ?_) (fun hc => ?_)
    · replace h := h.1 hc
      refine aw_weak (als' := [some (.ref (ad (6, 0, 0))), some (.int (oI l1)), none, some (.int (oI l3)), none, none, none]) ⟨rfl, rfl, rfl, trivial⟩ ?_
      exact m_Mo_judge_200 X hR hret hk91 h
    · replace h := h.2 hc
      refine aw_iload_n X dX6_judge_116 rfl ?_
      obtain ⟨g3, h⟩ := h
      refine aw_if_lt X dX6_judge_117 (tgt := 200) (by decide) g3 (fun hc => ?_) (fun hc => ?_)
      · replace h := h.1 hc
        refine aw_weak (als' := [some (.ref (ad (6, 0, 0))), some (.int (oI l1)), none, some (.int (oI l3)), none, none, none]) ⟨rfl, rfl, rfl, trivial⟩ ?_
        exact m_Mo_judge_200 X hR hret hk91 h
      · replace h := h.2 hc
        refine aw_iconst X dX6_judge_120 ?_
        refine aw_istore X dX6_judge_121 (Nat.le_of_ble_eq_true rfl) rfl ?_
        refine aw_als (als' := [some (.ref (ad (6, 0, 0))), some (.int (oI l1)), none, some (.int (oI l3)), some (.int (oI l4)), some (.int (oI 0)), none]) rfl ?_
        refine aw_weak (als' := [some (.ref (ad (6, 0, 0))), some (.int (oI l1)), none, some (.int (oI l3)), some (.int (oI l4)), some (.int (oI 0)), none]) ⟨rfl, rfl, rfl, rfl, rfl, trivial⟩ ?_
        obtain ⟨n0, h⟩ := h
        exact m_Mo_judge_123 X hR hret ih n0 _ _ _ _ _ h

set_option maxHeartbeats 4000000 in
set_option maxRecDepth 100000 in
theorem m_Mo_judge_91 {p : Program} {l : Launch} {e : Env} {R : Room} {s : State} {m : MethodId} {args : Array Value} {below : List Frame} {meth : Method} {c : Code} {D : va_G} {ad : Ky → Nat} {tc : Tc} {A : Nat → Prop} {cs sl : Nat} {Qm : State → Prop} (X : Cx p s m args c cX6_judge RX6 7 D ad tc A) (hR : RmOK R cs sl 2 51) {Q : Int → Mem → Prop} (hret : RtI p l e R s m args below meth c D ad tc A cs sl Qm cX6_judge Q) : ∀ (n : Nat) (l1 : Int) (l2 : Int) (σ : Mem), Mo_judge_91 Q n l1 l2 σ → AW p l e R s m args below meth c D ad tc A cs sl Qm 91 [some (.ref (ad (6, 0, 0))), some (.int (oI l1)), some (.int (oI l2)), none, none, none, none] [] σ := by
  intro n
  induction n with
  | zero =>
    intro l1 l2 σ h
    exact False.elim h
  | succ n ih =>
    intro l1 l2 σ h
    unfold Mo_judge_91 at h
    refine aw_iload_n X dX6_judge_91 rfl ?_
    obtain ⟨g1, h⟩ := h
    refine aw_if_eq X dX6_judge_92 (tgt := 225) (by decide) g1 (fun hc => ?_) (fun hc => ?_)
    · replace h := h.1 hc
      refine aw_iload_n X dX6_judge_225 rfl ?_
      exact hret 226 _ _ _ dX6_judge_226 h
    · replace h := h.2 hc
      refine aw_aload_n X dX6_judge_95 rfl ?_
      refine aw_aload_n X dX6_judge_96 rfl ?_
      refine aw_get X ob_6 fl_X6_105 rfl dX6_judge_97 ?_
      refine aw_callVI X hR (s_Mo_priceOf l D ad tc X.2.2.2.2.2.2.1 ar_6_40 h) ml_X6_183 ob_6 rfl (by decide) (by decide) rfl rfl rfl rfl (Nat.le_of_ble_eq_true rfl) rfl dX6_judge_100 (fun r2 σ2 h => ?_)
      refine aw_istore_n X dX6_judge_103 (Nat.le_of_ble_eq_true rfl) rfl ?_
      refine aw_als (als' := [some (.ref (ad (6, 0, 0))), some (.int (oI l1)), some (.int (oI l2)), some (.int (oI r2)), none, none, none]) rfl ?_
      refine aw_iconst X dX6_judge_104 ?_
      refine aw_istore X dX6_judge_105 (Nat.le_of_ble_eq_true rfl) rfl ?_
      refine aw_als (als' := [some (.ref (ad (6, 0, 0))), some (.int (oI l1)), some (.int (oI l2)), some (.int (oI r2)), some (.int (oI 0)), none, none]) rfl ?_
      refine aw_weak (als' := [some (.ref (ad (6, 0, 0))), some (.int (oI l1)), none, some (.int (oI r2)), some (.int (oI 0)), none, none]) ⟨rfl, rfl, rfl, rfl, trivial⟩ ?_
      obtain ⟨n0, h⟩ := h
      exact m_Mo_judge_107 X hR hret ih n0 _ _ _ _ h

set_option maxHeartbeats 4000000 in
set_option maxRecDepth 100000 in
theorem m_Mo_judge_63 {p : Program} {l : Launch} {e : Env} {R : Room} {s : State} {m : MethodId} {args : Array Value} {below : List Frame} {meth : Method} {c : Code} {D : va_G} {ad : Ky → Nat} {tc : Tc} {A : Nat → Prop} {cs sl : Nat} {Qm : State → Prop} (X : Cx p s m args c cX6_judge RX6 7 D ad tc A) (hR : RmOK R cs sl 2 51) {Q : Int → Mem → Prop} (hret : RtI p l e R s m args below meth c D ad tc A cs sl Qm cX6_judge Q) {k22 : Int → Int → Int → Mem → Prop} (hk22 : ∀ (l1 : Int) (l2 : Int) (l3 : Int) (σ : Mem), k22 l1 l2 l3 σ → AW p l e R s m args below meth c D ad tc A cs sl Qm 22 [some (.ref (ad (6, 0, 0))), some (.int (oI l1)), some (.int (oI l2)), some (.int (oI l3)), none, none, none] [] σ) {l1 : Int} {l2 : Int} {l3 : Int} {s1 : Int} {s2 : Int} {σ : Mem} (h : Mo_judge_63 k22 Q l1 l2 l3 s1 s2 σ) : AW p l e R s m args below meth c D ad tc A cs sl Qm 63 [some (.ref (ad (6, 0, 0))), some (.int (oI l1)), some (.int (oI l2)), some (.int (oI l3)), none, none, none] [.int (oI s2), .int (oI s1), .ref (ad (6, 0, 42))] σ := by
  unfold Mo_judge_63 at h
  obtain ⟨g1a, g1b, h⟩ := h
  refine aw_iast X ar_6_41 g1a g1b dX6_judge_63 ?_
  obtain ⟨σ1, eσ1⟩ : ∃ z : Mem, z = up σ 6 0 41 s1 s2 := ⟨_, rfl⟩
  replace h := h σ1 eσ1
  refine aw_mem eσ1 ?_
  refine aw_iinc X dX6_judge_64 rfl rfl ?_
  obtain ⟨x2, ex2⟩ : ∃ z : Int, z = (l3 + 1) := ⟨_, rfl⟩
  replace h := h x2 ex2
  refine aw_als (als' := [some (.ref (ad (6, 0, 0))), some (.int (oI l1)), some (.int (oI l2)), some (.int (oI x2)), none, none, none]) (by subst ex2; rfl) ?_
  refine aw_goto X dX6_judge_67 (tgt := 22) (by decide) ?_
  refine aw_weak (als' := [some (.ref (ad (6, 0, 0))), some (.int (oI l1)), some (.int (oI l2)), some (.int (oI x2)), none, none, none]) ⟨rfl, rfl, rfl, rfl, trivial⟩ ?_
  exact hk22 _ _ _ _ h

set_option maxHeartbeats 4000000 in
set_option maxRecDepth 100000 in
theorem m_Mo_judge_22 {p : Program} {l : Launch} {e : Env} {R : Room} {s : State} {m : MethodId} {args : Array Value} {below : List Frame} {meth : Method} {c : Code} {D : va_G} {ad : Ky → Nat} {tc : Tc} {A : Nat → Prop} {cs sl : Nat} {Qm : State → Prop} (X : Cx p s m args c cX6_judge RX6 7 D ad tc A) (hR : RmOK R cs sl 2 51) {Q : Int → Mem → Prop} (hret : RtI p l e R s m args below meth c D ad tc A cs sl Qm cX6_judge Q) {k12 : Int → Int → Mem → Prop} (hk12 : ∀ (l1 : Int) (l2 : Int) (σ : Mem), k12 l1 l2 σ → AW p l e R s m args below meth c D ad tc A cs sl Qm 12 [some (.ref (ad (6, 0, 0))), some (.int (oI l1)), some (.int (oI l2)), none, none, none, none] [] σ) : ∀ (n : Nat) (l1 : Int) (l2 : Int) (l3 : Int) (σ : Mem), Mo_judge_22 k12 Q n l1 l2 l3 σ → AW p l e R s m args below meth c D ad tc A cs sl Qm 22 [some (.ref (ad (6, 0, 0))), some (.int (oI l1)), some (.int (oI l2)), some (.int (oI l3)), none, none, none] [] σ := by
  intro n
  induction n with
  | zero =>
    intro l1 l2 l3 σ h
    exact False.elim h
  | succ n ih =>
    intro l1 l2 l3 σ h
    unfold Mo_judge_22 at h
    refine aw_iload_n X dX6_judge_22 rfl ?_
    refine aw_bipush X dX6_judge_23 rfl ?_
    obtain ⟨g1, h⟩ := h
    refine aw_icmp_ge X dX6_judge_25 (tgt := 70) (by decide) g1 ⟨by decide, by decide⟩ (fun hc => ?_) (fun hc => ?_)
    · replace h := h.1 hc
      refine aw_iinc X dX6_judge_70 rfl rfl ?_
      obtain ⟨x3, ex3⟩ : ∃ z : Int, z = (l2 + 1) := ⟨_, rfl⟩
      replace h := h x3 ex3
      refine aw_als (als' := [some (.ref (ad (6, 0, 0))), some (.int (oI l1)), some (.int (oI x3)), some (.int (oI l3)), none, none, none]) (by subst ex3; rfl) ?_
      refine aw_goto X dX6_judge_73 (tgt := 12) (by decide) ?_
      refine aw_weak (als' := [some (.ref (ad (6, 0, 0))), some (.int (oI l1)), some (.int (oI x3)), none, none, none, none]) ⟨rfl, rfl, rfl, trivial⟩ ?_
      exact hk12 _ _ _ h
    · replace h := h.2 hc
      refine aw_aload_n X dX6_judge_28 rfl ?_
      refine aw_get X ob_6 fl_X6_108 rfl dX6_judge_29 ?_
      refine aw_bipush X dX6_judge_32 rfl ?_
      refine aw_iconst X dX6_judge_34 ?_
      refine aw_iload_n X dX6_judge_35 rfl ?_
      refine aw_imul X dX6_judge_36 ?_
      refine aw_iload_n X dX6_judge_37 rfl ?_
      refine aw_iadd X dX6_judge_38 ?_
      refine aw_imul X dX6_judge_39 ?_
      refine aw_iload_n X dX6_judge_40 rfl ?_
      refine aw_iadd X dX6_judge_41 ?_
      refine aw_aload_n X dX6_judge_42 rfl ?_
      refine aw_iload_n X dX6_judge_43 rfl ?_
      refine aw_iload_n X dX6_judge_44 rfl ?_
      refine aw_callVI X hR (s_Mo_isCode l D ad tc X.2.2.2.2.2.2.1 h) ml_X6_165 ob_6 rfl (by decide) (by decide) rfl rfl rfl rfl (Nat.le_of_ble_eq_true rfl) rfl dX6_judge_45 (fun r4 σ4 h => ?_)
      obtain ⟨g5, h⟩ := h
      refine aw_if_eq X dX6_judge_48 (tgt := 61) (by decide) g5 (fun hc => ?_) (fun hc => ?_)
      · replace h := h.1 hc
        refine aw_bipush X dX6_judge_61 rfl ?_
        refine aw_weak (als' := [some (.ref (ad (6, 0, 0))), some (.int (oI l1)), some (.int (oI l2)), some (.int (oI l3)), none, none, none]) ⟨rfl, rfl, rfl, rfl, trivial⟩ ?_
        exact m_Mo_judge_63 X hR hret ih h
      · replace h := h.2 hc
        refine aw_aload_n X dX6_judge_51 rfl ?_
        refine aw_iload_n X dX6_judge_52 rfl ?_
        refine aw_iload_n X dX6_judge_53 rfl ?_
        refine aw_iload_n X dX6_judge_54 rfl ?_
        refine aw_callVI X hR (s_Mo_answerTo l D ad tc X.2.2.2.2.2.2.1 h) ml_X6_171 ob_6 rfl (by decide) (by decide) rfl rfl rfl rfl (Nat.le_of_ble_eq_true rfl) rfl dX6_judge_55 (fun r6 σ6 h => ?_)
        refine aw_goto X dX6_judge_58 (tgt := 63) (by decide) ?_
        refine aw_weak (als' := [some (.ref (ad (6, 0, 0))), some (.int (oI l1)), some (.int (oI l2)), some (.int (oI l3)), none, none, none]) ⟨rfl, rfl, rfl, rfl, trivial⟩ ?_
        exact m_Mo_judge_63 X hR hret ih h

set_option maxHeartbeats 4000000 in
set_option maxRecDepth 100000 in
theorem m_Mo_judge_12 {p : Program} {l : Launch} {e : Env} {R : Room} {s : State} {m : MethodId} {args : Array Value} {below : List Frame} {meth : Method} {c : Code} {D : va_G} {ad : Ky → Nat} {tc : Tc} {A : Nat → Prop} {cs sl : Nat} {Qm : State → Prop} (X : Cx p s m args c cX6_judge RX6 7 D ad tc A) (hR : RmOK R cs sl 2 51) {Q : Int → Mem → Prop} (hret : RtI p l e R s m args below meth c D ad tc A cs sl Qm cX6_judge Q) {k2 : Int → Mem → Prop} (hk2 : ∀ (l1 : Int) (σ : Mem), k2 l1 σ → AW p l e R s m args below meth c D ad tc A cs sl Qm 2 [some (.ref (ad (6, 0, 0))), some (.int (oI l1)), none, none, none, none, none] [] σ) : ∀ (n : Nat) (l1 : Int) (l2 : Int) (σ : Mem), Mo_judge_12 k2 Q n l1 l2 σ → AW p l e R s m args below meth c D ad tc A cs sl Qm 12 [some (.ref (ad (6, 0, 0))), some (.int (oI l1)), some (.int (oI l2)), none, none, none, none] [] σ := by
  intro n
  induction n with
  | zero =>
    intro l1 l2 σ h
    exact False.elim h
  | succ n ih =>
    intro l1 l2 σ h
    unfold Mo_judge_12 at h
    refine aw_iload_n X dX6_judge_12 rfl ?_
    refine aw_aload_n X dX6_judge_13 rfl ?_
    refine aw_get X ob_6 fl_X6_23 rfl dX6_judge_14 ?_
    obtain ⟨g1, h⟩ := h
    obtain ⟨g2, h⟩ := h
    refine aw_icmp_ge X dX6_judge_17 (tgt := 76) (by decide) g1 g2 (fun hc => ?_) (fun hc => ?_)
    · replace h := h.1 hc
      refine aw_iinc X dX6_judge_76 rfl rfl ?_
      obtain ⟨x3, ex3⟩ : ∃ z : Int, z = (l1 + 1) := ⟨_, rfl⟩
      replace h := h x3 ex3
      refine aw_als (als' := [some (.ref (ad (6, 0, 0))), some (.int (oI x3)), some (.int (oI l2)), none, none, none, none]) (by subst ex3; rfl) ?_
      refine aw_goto X dX6_judge_79 (tgt := 2) (by decide) ?_
      refine aw_weak (als' := [some (.ref (ad (6, 0, 0))), some (.int (oI x3)), none, none, none, none, none]) ⟨rfl, rfl, trivial⟩ ?_
      exact hk2 _ _ h
    · replace h := h.2 hc
      refine aw_iconst X dX6_judge_20 ?_
      refine aw_istore_n X dX6_judge_21 (Nat.le_of_ble_eq_true rfl) rfl ?_
      refine aw_als (als' := [some (.ref (ad (6, 0, 0))), some (.int (oI l1)), some (.int (oI l2)), some (.int (oI 0)), none, none, none]) rfl ?_
      refine aw_weak (als' := [some (.ref (ad (6, 0, 0))), some (.int (oI l1)), some (.int (oI l2)), some (.int (oI 0)), none, none, none]) ⟨rfl, rfl, rfl, rfl, trivial⟩ ?_
      obtain ⟨n0, h⟩ := h
      exact m_Mo_judge_22 X hR hret ih n0 _ _ _ _ h

set_option maxHeartbeats 4000000 in
set_option maxRecDepth 100000 in
theorem m_Mo_judge_2 {p : Program} {l : Launch} {e : Env} {R : Room} {s : State} {m : MethodId} {args : Array Value} {below : List Frame} {meth : Method} {c : Code} {D : va_G} {ad : Ky → Nat} {tc : Tc} {A : Nat → Prop} {cs sl : Nat} {Qm : State → Prop} (X : Cx p s m args c cX6_judge RX6 7 D ad tc A) (hR : RmOK R cs sl 2 51) {Q : Int → Mem → Prop} (hret : RtI p l e R s m args below meth c D ad tc A cs sl Qm cX6_judge Q) : ∀ (n : Nat) (l1 : Int) (σ : Mem), Mo_judge_2 Q n l1 σ → AW p l e R s m args below meth c D ad tc A cs sl Qm 2 [some (.ref (ad (6, 0, 0))), some (.int (oI l1)), none, none, none, none, none] [] σ := by
  intro n
  induction n with
  | zero =>
    intro l1 σ h
    exact False.elim h
  | succ n ih =>
    intro l1 σ h
    unfold Mo_judge_2 at h
    refine aw_iload_n X dX6_judge_2 rfl ?_
    refine aw_aload_n X dX6_judge_3 rfl ?_
    refine aw_get X ob_6 fl_X6_141 rfl dX6_judge_4 ?_
    obtain ⟨g1, h⟩ := h
    obtain ⟨g2, h⟩ := h
    refine aw_icmp_ge X dX6_judge_7 (tgt := 82) (by decide) g1 g2 (fun hc => ?_) (fun hc => ?_)
    · replace h := h.1 hc
      refine aw_bipush X dX6_judge_82 rfl ?_
      refine aw_istore_n X dX6_judge_84 (Nat.le_of_ble_eq_true rfl) rfl ?_
      refine aw_als (als' := [some (.ref (ad (6, 0, 0))), some (.int (oI (-4))), none, none, none, none, none]) rfl ?_
      refine aw_aload_n X dX6_judge_85 rfl ?_
      refine aw_callVV X hR (s_Mo_firstPlan l D ad tc X.2.2.2.2.2.2.1 h) ml_X6_194 ob_6 rfl (by decide) (by decide) rfl rfl rfl rfl (Nat.le_of_ble_eq_true rfl) rfl dX6_judge_86 (fun σ3 h => ?_)
      refine aw_iconst X dX6_judge_89 ?_
      refine aw_istore_n X dX6_judge_90 (Nat.le_of_ble_eq_true rfl) rfl ?_
      refine aw_als (als' := [some (.ref (ad (6, 0, 0))), some (.int (oI (-4))), some (.int (oI 1)), none, none, none, none]) rfl ?_
      refine aw_weak (als' := [some (.ref (ad (6, 0, 0))), some (.int (oI (-4))), some (.int (oI 1)), none, none, none, none]) ⟨rfl, rfl, rfl, trivial⟩ ?_
      obtain ⟨n0, h⟩ := h
      exact m_Mo_judge_91 X hR hret n0 _ _ _ h
    · replace h := h.2 hc
      refine aw_iconst X dX6_judge_10 ?_
      refine aw_istore_n X dX6_judge_11 (Nat.le_of_ble_eq_true rfl) rfl ?_
      refine aw_als (als' := [some (.ref (ad (6, 0, 0))), some (.int (oI l1)), some (.int (oI 0)), none, none, none, none]) rfl ?_
      refine aw_weak (als' := [some (.ref (ad (6, 0, 0))), some (.int (oI l1)), some (.int (oI 0)), none, none, none, none]) ⟨rfl, rfl, rfl, trivial⟩ ?_
      obtain ⟨n0, h⟩ := h
      exact m_Mo_judge_12 X hR hret ih n0 _ _ _ h

set_option maxHeartbeats 4000000 in
set_option maxRecDepth 100000 in
theorem m_Mo_judge_0 {p : Program} {l : Launch} {e : Env} {R : Room} {s : State} {m : MethodId} {args : Array Value} {below : List Frame} {meth : Method} {c : Code} {D : va_G} {ad : Ky → Nat} {tc : Tc} {A : Nat → Prop} {cs sl : Nat} {Qm : State → Prop} (X : Cx p s m args c cX6_judge RX6 7 D ad tc A) (hR : RmOK R cs sl 2 51) {Q : Int → Mem → Prop} (hret : RtI p l e R s m args below meth c D ad tc A cs sl Qm cX6_judge Q) {σ : Mem} (h : Mo_judge σ Q) : AW p l e R s m args below meth c D ad tc A cs sl Qm 0 [some (.ref (ad (6, 0, 0))), none, none, none, none, none, none] [] σ := by
  unfold Mo_judge at h
  refine aw_iconst X dX6_judge_0 ?_
  refine aw_istore_n X dX6_judge_1 (Nat.le_of_ble_eq_true rfl) rfl ?_
  refine aw_als (als' := [some (.ref (ad (6, 0, 0))), some (.int (oI 0)), none, none, none, none, none]) rfl ?_
  refine aw_weak (als' := [some (.ref (ad (6, 0, 0))), some (.int (oI 0)), none, none, none, none, none]) ⟨rfl, rfl, trivial⟩ ?_
  obtain ⟨n0, h⟩ := h
  exact m_Mo_judge_2 X hR hret n0 _ _ h
theorem s_Mo_judge (l : Launch) (D : va_G) (ad : Ky → Nat) (tc : Tc) (hi : adI ad) {σ : Mem} {Q : Int → Mem → Prop} (h : Mo_judge σ Q) : CtI l D ad tc yX6_judge cX6_judge 7 (some .int) { frames := 2, cells := 0, slots := 0, locals := 51 } [.ref (ad (6, 0, 0))] σ Q := CtI.mk (by decide +kernel) hi (Nat.le_of_ble_eq_true rfl) rfl (fun p e s m args below meth c A Qm X hR hret => m_Mo_judge_0 X hR hret h)

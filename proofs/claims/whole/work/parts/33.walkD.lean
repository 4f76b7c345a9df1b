set_option maxHeartbeats 4000000 in
set_option maxRecDepth 100000 in
theorem m_Mo_beyond_15 {p : Program} {l : Launch} {e : Env} {R : Room} {s : State} {m : MethodId} {args : Array Value} {below : List Frame} {meth : Method} {c : Code} {D : va_G} {ad : Ky → Nat} {tc : Tc} {A : Nat → Prop} {cs sl : Nat} {Qm : State → Prop} (X : Cx p s m args c cX6_beyond RX6 3 D ad tc A) (hR : RmOK R cs sl 0 0) {Q : Int → Mem → Prop} (hret : RtZ p l e R s m args below meth c D ad tc A cs sl Qm cX6_beyond Q) {s0 : Int} {σ : Mem} (h : Mo_beyond_15 Q s0 σ) : AW p l e R s m args below meth c D ad tc A cs sl Qm 15 [none, none, none] [.int (oI s0)] σ := by
  unfold Mo_beyond_15 at h
  exact hret 15 _ _ _ dX6_beyond_15 h.1 h.2

set_option maxHeartbeats 4000000 in
set_option maxRecDepth 100000 in
theorem m_Mo_beyond_10 {p : Program} {l : Launch} {e : Env} {R : Room} {s : State} {m : MethodId} {args : Array Value} {below : List Frame} {meth : Method} {c : Code} {D : va_G} {ad : Ky → Nat} {tc : Tc} {A : Nat → Prop} {cs sl : Nat} {Qm : State → Prop} (X : Cx p s m args c cX6_beyond RX6 3 D ad tc A) (hR : RmOK R cs sl 0 0) {Q : Int → Mem → Prop} (hret : RtZ p l e R s m args below meth c D ad tc A cs sl Qm cX6_beyond Q) {σ : Mem} (h : Mo_beyond_10 Q σ) : AW p l e R s m args below meth c D ad tc A cs sl Qm 10 [none, none, none] [] σ := by
  unfold Mo_beyond_10 at h
  refine aw_iconst X dX6_beyond_10 ?_
  refine aw_goto X dX6_beyond_11 (tgt := 15) (by decide) ?_
  refine aw_weak (als' := [none, none, none]) trivial ?_
  exact m_Mo_beyond_15 X hR hret h

set_option maxHeartbeats 4000000 in
set_option maxRecDepth 100000 in
theorem m_Mo_beyond_0 {p : Program} {l : Launch} {e : Env} {R : Room} {s : State} {m : MethodId} {args : Array Value} {below : List Frame} {meth : Method} {c : Code} {D : va_G} {ad : Ky → Nat} {tc : Tc} {A : Nat → Prop} {cs sl : Nat} {Qm : State → Prop} (X : Cx p s m args c cX6_beyond RX6 3 D ad tc A) (hR : RmOK R cs sl 0 0) {Q : Int → Mem → Prop} (hret : RtZ p l e R s m args below meth c D ad tc A cs sl Qm cX6_beyond Q) {l0 : Int} {l1 : Int} {l2 : Int} {σ : Mem} (h : Mo_beyond l0 l1 l2 σ Q) : AW p l e R s m args below meth c D ad tc A cs sl Qm 0 [some (.int (oI l0)), some (.int (oI l1)), some (.int (oI l2))] [] σ := by
  unfold Mo_beyond at h
  refine aw_iload_n X dX6_beyond_0 rfl ?_
  refine aw_iload_n X dX6_beyond_1 rfl ?_
  obtain ⟨g1, h⟩ := h
  obtain ⟨g2, h⟩ := h
  refine aw_icmp_lt X dX6_beyond_2 (tgt := 10) (by decide) g1 g2 (fun hc => ?_) (fun hc => ?_)
  · replace h := h.1 hc
    refine aw_weak (als' := [none, none, none]) trivial ?_
    exact m_Mo_beyond_10 X hR hret h
  · replace h := h.2 hc
    refine aw_iload_n X dX6_beyond_5 rfl ?_
    refine aw_iload_n X dX6_beyond_6 rfl ?_
    obtain ⟨g3, h⟩ := h
    obtain ⟨g4, h⟩ := h
    refine aw_icmp_le X dX6_beyond_7 (tgt := 14) (by decide) g3 g4 (fun hc => ?_) (fun hc => ?_)
    · replace h := h.1 hc
      refine aw_iconst X dX6_beyond_14 ?_
      refine aw_weak (als' := [none, none, none]) trivial ?_
      exact m_Mo_beyond_15 X hR hret h
    · replace h := h.2 hc
      refine aw_weak (als' := [none, none, none]) trivial ?_
      exact m_Mo_beyond_10 X hR hret h
theorem s_Mo_beyond (l : Launch) (D : va_G) (ad : Ky → Nat) (tc : Tc) (hi : adI ad) {l0 : Int} {l1 : Int} {l2 : Int} {σ : Mem} {Q : Int → Mem → Prop} (h : Mo_beyond l0 l1 l2 σ Q) : CtI l D ad tc yX6_beyond cX6_beyond 3 (some .boolean) { frames := 0, cells := 0, slots := 0, locals := 0 } [.int (oI l0), .int (oI l1), .int (oI l2)] σ Q := CtI.mkz (by decide +kernel) hi (Nat.le_of_ble_eq_true rfl) rfl (fun p e s m args below meth c A Qm X hR hret => m_Mo_beyond_0 X hR hret h)

set_option maxHeartbeats 4000000 in
set_option maxRecDepth 100000 in
theorem m_Mo_anew_0 {p : Program} {l : Launch} {e : Env} {R : Room} {s : State} {m : MethodId} {args : Array Value} {below : List Frame} {meth : Method} {c : Code} {D : va_G} {ad : Ky → Nat} {tc : Tc} {A : Nat → Prop} {cs sl : Nat} {Qm : State → Prop} (X : Cx p s m args c cX6_anew RX6 1 D ad tc A) (hR : RmOK R cs sl 0 0) {Q : Mem → Prop} (hret : RtV p l e R s m args below meth c D ad tc A cs sl Qm cX6_anew Q) {σ : Mem} (h : Mo_anew σ Q) : AW p l e R s m args below meth c D ad tc A cs sl Qm 0 [some (.ref (ad (6, 0, 0)))] [] σ := by
  unfold Mo_anew at h
  refine aw_aload_n X dX6_anew_0 rfl ?_
  refine aw_iconst X dX6_anew_1 ?_
  refine aw_put X ob_6 fl_X6_111 (sf_6_27 ad) rfl rfl dX6_anew_2 ?_
  obtain ⟨σ1, eσ1⟩ : ∃ z : Mem, z = up σ 6 0 27 0 0 := ⟨_, rfl⟩
  replace h := h σ1 eσ1
  refine aw_mem eσ1 ?_
  refine aw_aload_n X dX6_anew_5 rfl ?_
  refine aw_iconst X dX6_anew_6 ?_
  refine aw_put X ob_6 fl_X6_114 (sf_6_28 ad) rfl rfl dX6_anew_7 ?_
  obtain ⟨σ2, eσ2⟩ : ∃ z : Mem, z = up σ1 6 0 28 0 0 := ⟨_, rfl⟩
  replace h := h σ2 eσ2
  refine aw_mem eσ2 ?_
  refine aw_aload_n X dX6_anew_10 rfl ?_
  refine aw_iconst X dX6_anew_11 ?_
  refine aw_put X ob_6 fl_X6_117 (sf_6_29 ad) (nar_z2 (by decide)).1 (nar_z2 (by decide)).2 dX6_anew_12 ?_
  obtain ⟨σ3, eσ3⟩ : ∃ z : Mem, z = up σ2 6 0 29 0 0 := ⟨_, rfl⟩
  replace h := h σ3 eσ3
  refine aw_mem eσ3 ?_
  refine aw_aload_n X dX6_anew_15 rfl ?_
  refine aw_iconst X dX6_anew_16 ?_
  refine aw_put X ob_6 fl_X6_121 (sf_6_30 ad) (nar_z2 (by decide)).1 (nar_z2 (by decide)).2 dX6_anew_17 ?_
  obtain ⟨σ4, eσ4⟩ : ∃ z : Mem, z = up σ3 6 0 30 0 0 := ⟨_, rfl⟩
  replace h := h σ4 eσ4
  refine aw_mem eσ4 ?_
  exact hret 20 _ _ dX6_anew_20 h
theorem s_Mo_anew (l : Launch) (D : va_G) (ad : Ky → Nat) (tc : Tc) (hi : adI ad) {σ : Mem} {Q : Mem → Prop} (h : Mo_anew σ Q) : CtV l D ad tc yX6_anew cX6_anew 1 none { frames := 0, cells := 0, slots := 0, locals := 0 } [.ref (ad (6, 0, 0))] σ Q := CtV.mk (by decide +kernel) hi (Nat.le_of_ble_eq_true rfl) rfl (fun p e s m args below meth c A Qm X hR hret => m_Mo_anew_0 X hR hret h)

set_option maxHeartbeats 4000000 in
set_option maxRecDepth 100000 in
theorem m_Mo_without_156 {p : Program} {l : Launch} {e : Env} {R : Room} {s : State} {m : MethodId} {args : Array Value} {below : List Frame} {meth : Method} {c : Code} {D : va_G} {ad : Ky → Nat} {tc : Tc} {A : Nat → Prop} {cs sl : Nat} {Qm : State → Prop} (X : Cx p s m args c cX6_without RX6 5 D ad tc A) (hR : RmOK R cs sl 1 20) {Q : Mem → Prop} (hret : RtV p l e R s m args below meth c D ad tc A cs sl Qm cX6_without Q) {k4 : Int → Int → Int → Mem → Prop} (hk4 : ∀ (l1 : Int) (l2 : Int) (l3 : Int) (σ : Mem), k4 l1 l2 l3 σ → AW p l e R s m args below meth c D ad tc A cs sl Qm 4 [some (.ref (ad (6, 0, 0))), some (.int (oI l1)), some (.int (oI l2)), some (.int (oI l3)), none] [] σ) {l1 : Int} {l2 : Int} {l3 : Int} {σ : Mem} (h : Mo_without_156 k4 Q l1 l2 l3 σ) : AW p l e R s m args below meth c D ad tc A cs sl Qm 156 [some (.ref (ad (6, 0, 0))), some (.int (oI l1)), some (.int (oI l2)), some (.int (oI l3)), none] [] σ := by
  unfold Mo_without_156 at h
  refine aw_iinc X dX6_without_156 rfl rfl ?_
  obtain ⟨x1, ex1⟩ : ∃ z : Int, z = (l3 + 1) := ⟨_, rfl⟩
  replace h := h x1 ex1
  refine aw_als (als' := [some (.ref (ad (6, 0, 0))), some (.int (oI l1)), some (.int (oI l2)), some (.int (oI x1)), none]) (by subst ex1; rfl) ?_
  refine aw_goto X dX6_without_159 (tgt := 4) (by decide) ?_
  refine aw_weak (als' := [some (.ref (ad (6, 0, 0))), some (.int (oI l1)), some (.int (oI l2)), some (.int (oI x1)), none]) ⟨rfl, rfl, rfl, rfl, trivial⟩ ?_
  exact hk4 _ _ _ _ h

set_option maxHeartbeats 4000000 in
set_option maxRecDepth 100000 in
theorem m_Mo_without_97 {p : Program} {l : Launch} {e : Env} {R : Room} {s : State} {m : MethodId} {args : Array Value} {below : List Frame} {meth : Method} {c : Code} {D : va_G} {ad : Ky → Nat} {tc : Tc} {A : Nat → Prop} {cs sl : Nat} {Qm : State → Prop} (X : Cx p s m args c cX6_without RX6 5 D ad tc A) (hR : RmOK R cs sl 1 20) {Q : Mem → Prop} (hret : RtV p l e R s m args below meth c D ad tc A cs sl Qm cX6_without Q) {k4 : Int → Int → Int → Mem → Prop} (hk4 : ∀ (l1 : Int) (l2 : Int) (l3 : Int) (σ : Mem), k4 l1 l2 l3 σ → AW p l e R s m args below meth c D ad tc A cs sl Qm 4 [some (.ref (ad (6, 0, 0))), some (.int (oI l1)), some (.int (oI l2)), some (.int (oI l3)), none] [] σ) : ∀ (n : Nat) (l1 : Int) (l2 : Int) (l3 : Int) (l4 : Int) (σ : Mem), Mo_without_97 k4 Q n l1 l2 l3 l4 σ → AW p l e R s m args below meth c D ad tc A cs sl Qm 97 [some (.ref (ad (6, 0, 0))), some (.int (oI l1)), some (.int (oI l2)), some (.int (oI l3)), some (.int (oI l4))] [] σ := by
  intro n
  induction n with
  | zero =>
    intro l1 l2 l3 l4 σ h
    exact False.elim h
  | succ n ih =>
    intro l1 l2 l3 l4 σ h
    unfold Mo_without_97 at h
    refine aw_iload X dX6_without_97 rfl ?_
    refine aw_iconst X dX6_without_99 ?_
    obtain ⟨g1, h⟩ := h
    refine aw_icmp_ge X dX6_without_100 (tgt := 153) (by decide) g1 ⟨by decide, by decide⟩ (fun hc => ?_) (fun hc => ?_)
    · replace h := h.1 hc
      refine aw_iinc X dX6_without_153 rfl rfl ?_
      obtain ⟨x3, ex3⟩ : ∃ z : Int, z = (l2 + 1) := ⟨_, rfl⟩
      replace h := h x3 ex3
      refine aw_als (als' := [some (.ref (ad (6, 0, 0))), some (.int (oI l1)), some (.int (oI x3)), some (.int (oI l3)), some (.int (oI l4))]) (by subst ex3; rfl) ?_
      refine aw_weak (als' := [some (.ref (ad (6, 0, 0))), some (.int (oI l1)), some (.int (oI x3)), some (.int (oI l3)), none]) ⟨rfl, rfl, rfl, rfl, trivial⟩ ?_
      exact m_Mo_without_156 X hR hret hk4 h
    · replace h := h.2 hc
      refine aw_aload_n X dX6_without_103 rfl ?_
      refine aw_get X ob_6 fl_X6_78 rfl dX6_without_104 ?_
      refine aw_iconst X dX6_without_107 ?_
      refine aw_iload_n X dX6_without_108 rfl ?_
      refine aw_imul X dX6_without_109 ?_
      refine aw_iload X dX6_without_110 rfl ?_
      refine aw_iadd X dX6_without_112 ?_
      refine aw_aload_n X dX6_without_113 rfl ?_
      refine aw_get X ob_6 fl_X6_78 rfl dX6_without_114 ?_
      refine aw_iconst X dX6_without_117 ?_
      refine aw_iload_n X dX6_without_118 rfl ?_
      refine aw_imul X dX6_without_119 ?_
      refine aw_iload X dX6_without_120 rfl ?_
      refine aw_iadd X dX6_without_122 ?_
      obtain ⟨g4a, g4b, h⟩ := h
      refine aw_iald X ar_6_25 g4a g4b dX6_without_123 ?_
      obtain ⟨g5a, g5b, h⟩ := h
      refine aw_iast X ar_6_25 g5a g5b dX6_without_124 ?_
      obtain ⟨σ5, eσ5⟩ : ∃ z : Mem, z = up σ 6 0 25 ((3 * l2) + l4) (σ 6 0 25 ((3 * l3) + l4)) := ⟨_, rfl⟩
      replace h := h σ5 eσ5
      refine aw_mem eσ5 ?_
      refine aw_aload_n X dX6_without_125 rfl ?_
      refine aw_get X ob_6 fl_X6_81 rfl dX6_without_126 ?_
      refine aw_iconst X dX6_without_129 ?_
      refine aw_iload_n X dX6_without_130 rfl ?_
      refine aw_imul X dX6_without_131 ?_
      refine aw_iload X dX6_without_132 rfl ?_
      refine aw_iadd X dX6_without_134 ?_
      refine aw_aload_n X dX6_without_135 rfl ?_
      refine aw_get X ob_6 fl_X6_81 rfl dX6_without_136 ?_
      refine aw_iconst X dX6_without_139 ?_
      refine aw_iload_n X dX6_without_140 rfl ?_
      refine aw_imul X dX6_without_141 ?_
      refine aw_iload X dX6_without_142 rfl ?_
      refine aw_iadd X dX6_without_144 ?_
      obtain ⟨g6a, g6b, h⟩ := h
      refine aw_iald X ar_6_26 g6a g6b dX6_without_145 ?_
      obtain ⟨g7a, g7b, h⟩ := h
      refine aw_iast X ar_6_26 g7a g7b dX6_without_146 ?_
      obtain ⟨σ7, eσ7⟩ : ∃ z : Mem, z = up σ5 6 0 26 ((3 * l2) + l4) (σ5 6 0 26 ((3 * l3) + l4)) := ⟨_, rfl⟩
      replace h := h σ7 eσ7
      refine aw_mem eσ7 ?_
      refine aw_iinc X dX6_without_147 rfl rfl ?_
      obtain ⟨x8, ex8⟩ : ∃ z : Int, z = (l4 + 1) := ⟨_, rfl⟩
      replace h := h x8 ex8
      refine aw_als (als' := [some (.ref (ad (6, 0, 0))), some (.int (oI l1)), some (.int (oI l2)), some (.int (oI l3)), some (.int (oI x8))]) (by subst ex8; rfl) ?_
      refine aw_goto X dX6_without_150 (tgt := 97) (by decide) ?_
      refine aw_weak (als' := [some (.ref (ad (6, 0, 0))), some (.int (oI l1)), some (.int (oI l2)), some (.int (oI l3)), some (.int (oI x8))]) ⟨rfl, rfl, rfl, rfl, rfl, trivial⟩ ?_
      exact ih _ _ _ _ _ h

set_option maxHeartbeats 4000000 in
set_option maxRecDepth 100000 in
theorem m_Mo_without_4 {p : Program} {l : Launch} {e : Env} {R : Room} {s : State} {m : MethodId} {args : Array Value} {below : List Frame} {meth : Method} {c : Code} {D : va_G} {ad : Ky → Nat} {tc : Tc} {A : Nat → Prop} {cs sl : Nat} {Qm : State → Prop} (X : Cx p s m args c cX6_without RX6 5 D ad tc A) (hR : RmOK R cs sl 1 20) {Q : Mem → Prop} (hret : RtV p l e R s m args below meth c D ad tc A cs sl Qm cX6_without Q) : ∀ (n : Nat) (l1 : Int) (l2 : Int) (l3 : Int) (σ : Mem), Mo_without_4 Q n l1 l2 l3 σ → AW p l e R s m args below meth c D ad tc A cs sl Qm 4 [some (.ref (ad (6, 0, 0))), some (.int (oI l1)), some (.int (oI l2)), some (.int (oI l3)), none] [] σ := by
  intro n
  induction n with
  | zero =>
    intro l1 l2 l3 σ h
    exact False.elim h
  | succ n ih =>
    intro l1 l2 l3 σ h
    unfold Mo_without_4 at h
    refine aw_iload_n X dX6_without_4 rfl ?_
    refine aw_aload_n X dX6_without_5 rfl ?_
    refine aw_get X ob_6 fl_X6_124 rfl dX6_without_6 ?_
    obtain ⟨g1, h⟩ := h
    obtain ⟨g2, h⟩ := h
    refine aw_icmp_ge X dX6_without_9 (tgt := 162) (by decide) g1 g2 (fun hc => ?_) (fun hc => ?_)
    · replace h := h.1 hc
      refine aw_aload_n X dX6_without_162 rfl ?_
      refine aw_iload_n X dX6_without_163 rfl ?_
      refine aw_put X ob_6 fl_X6_124 (sf_6_18 ad) rfl rfl dX6_without_164 ?_
      obtain ⟨σ3, eσ3⟩ : ∃ z : Mem, z = up σ 6 0 18 0 l2 := ⟨_, rfl⟩
      replace h := h σ3 eσ3
      refine aw_mem eσ3 ?_
      refine aw_aload_n X dX6_without_167 rfl ?_
      refine aw_callVV X hR (s_Mo_anew l D ad tc X.2.2.2.2.2.2.1 h) ml_X6_127 ob_6 rfl (by decide) (by decide) rfl rfl rfl rfl (Nat.le_of_ble_eq_true rfl) rfl dX6_without_168 (fun σ4 h => ?_)
      exact hret 171 _ _ dX6_without_171 h
    · replace h := h.2 hc
      refine aw_aload_n X dX6_without_12 rfl ?_
      refine aw_get X ob_6 fl_X6_63 rfl dX6_without_13 ?_
      refine aw_iload_n X dX6_without_16 rfl ?_
      obtain ⟨g5a, g5b, h⟩ := h
      refine aw_iald X ar_6_20 g5a g5b dX6_without_17 ?_
      refine aw_iload_n X dX6_without_18 rfl ?_
      obtain ⟨g6, h⟩ := h
      obtain ⟨g7, h⟩ := h
      refine aw_icmp_eq X dX6_without_19 (tgt := 156) (by decide) g6 g7 (fun hc => ?_) (fun hc => ?_)
      · replace h := h.1 hc
        refine aw_weak (als' := [some (.ref (ad (6, 0, 0))), some (.int (oI l1)), some (.int (oI l2)), some (.int (oI l3)), none]) ⟨rfl, rfl, rfl, rfl, trivial⟩ ?_
        exact m_Mo_without_156 X hR hret ih h
      · replace h := h.2 hc
        refine aw_aload_n X dX6_without_22 rfl ?_
        refine aw_get X ob_6 fl_X6_60 rfl dX6_without_23 ?_
        refine aw_iload_n X dX6_without_26 rfl ?_
        refine aw_aload_n X dX6_without_27 rfl ?_
        refine aw_get X ob_6 fl_X6_60 rfl dX6_without_28 ?_
        refine aw_iload_n X dX6_without_31 rfl ?_
        obtain ⟨g8a, g8b, h⟩ := h
        refine aw_zald X ar_6_19 g8a g8b dX6_without_32 ?_
        obtain ⟨g9a, g9b, h⟩ := h
        obtain ⟨g9c, h⟩ := h
        refine aw_zast X ar_6_19 g9a g9b g9c dX6_without_33 ?_
        obtain ⟨σ9, eσ9⟩ : ∃ z : Mem, z = up σ 6 0 19 l2 (σ 6 0 19 l3) := ⟨_, rfl⟩
        replace h := h σ9 eσ9
        refine aw_mem eσ9 ?_
        refine aw_aload_n X dX6_without_34 rfl ?_
        refine aw_get X ob_6 fl_X6_63 rfl dX6_without_35 ?_
        refine aw_iload_n X dX6_without_38 rfl ?_
        refine aw_aload_n X dX6_without_39 rfl ?_
        refine aw_get X ob_6 fl_X6_63 rfl dX6_without_40 ?_
        refine aw_iload_n X dX6_without_43 rfl ?_
        obtain ⟨g10a, g10b, h⟩ := h
        refine aw_iald X ar_6_20 g10a g10b dX6_without_44 ?_
        obtain ⟨g11a, g11b, h⟩ := h
        refine aw_iast X ar_6_20 g11a g11b dX6_without_45 ?_
        obtain ⟨σ11, eσ11⟩ : ∃ z : Mem, z = up σ9 6 0 20 l2 (σ9 6 0 20 l3) := ⟨_, rfl⟩
        replace h := h σ11 eσ11
        refine aw_mem eσ11 ?_
        refine aw_aload_n X dX6_without_46 rfl ?_
        refine aw_get X ob_6 fl_X6_66 rfl dX6_without_47 ?_
        refine aw_iload_n X dX6_without_50 rfl ?_
        refine aw_aload_n X dX6_without_51 rfl ?_
        refine aw_get X ob_6 fl_X6_66 rfl dX6_without_52 ?_
        refine aw_iload_n X dX6_without_55 rfl ?_
        obtain ⟨g12a, g12b, h⟩ := h
        refine aw_iald X ar_6_21 g12a g12b dX6_without_56 ?_
        obtain ⟨g13a, g13b, h⟩ := h
        refine aw_iast X ar_6_21 g13a g13b dX6_without_57 ?_
        obtain ⟨σ13, eσ13⟩ : ∃ z : Mem, z = up σ11 6 0 21 l2 (σ11 6 0 21 l3) := ⟨_, rfl⟩
        replace h := h σ13 eσ13
        refine aw_mem eσ13 ?_
        refine aw_aload_n X dX6_without_58 rfl ?_
        refine aw_get X ob_6 fl_X6_69 rfl dX6_without_59 ?_
        refine aw_iload_n X dX6_without_62 rfl ?_
        refine aw_aload_n X dX6_without_63 rfl ?_
        refine aw_get X ob_6 fl_X6_69 rfl dX6_without_64 ?_
        refine aw_iload_n X dX6_without_67 rfl ?_
        obtain ⟨g14a, g14b, h⟩ := h
        refine aw_iald X ar_6_22 g14a g14b dX6_without_68 ?_
        obtain ⟨g15a, g15b, h⟩ := h
        refine aw_iast X ar_6_22 g15a g15b dX6_without_69 ?_
        obtain ⟨σ15, eσ15⟩ : ∃ z : Mem, z = up σ13 6 0 22 l2 (σ13 6 0 22 l3) := ⟨_, rfl⟩
        replace h := h σ15 eσ15
        refine aw_mem eσ15 ?_
        refine aw_aload_n X dX6_without_70 rfl ?_
        refine aw_get X ob_6 fl_X6_72 rfl dX6_without_71 ?_
        refine aw_iload_n X dX6_without_74 rfl ?_
        refine aw_aload_n X dX6_without_75 rfl ?_
        refine aw_get X ob_6 fl_X6_72 rfl dX6_without_76 ?_
        refine aw_iload_n X dX6_without_79 rfl ?_
        obtain ⟨g16a, g16b, h⟩ := h
        refine aw_iald X ar_6_23 g16a g16b dX6_without_80 ?_
        obtain ⟨g17a, g17b, h⟩ := h
        refine aw_iast X ar_6_23 g17a g17b dX6_without_81 ?_
        obtain ⟨σ17, eσ17⟩ : ∃ z : Mem, z = up σ15 6 0 23 l2 (σ15 6 0 23 l3) := ⟨_, rfl⟩
        replace h := h σ17 eσ17
        refine aw_mem eσ17 ?_
        refine aw_aload_n X dX6_without_82 rfl ?_
        refine aw_get X ob_6 fl_X6_75 rfl dX6_without_83 ?_
        refine aw_iload_n X dX6_without_86 rfl ?_
        refine aw_aload_n X dX6_without_87 rfl ?_
        refine aw_get X ob_6 fl_X6_75 rfl dX6_without_88 ?_
        refine aw_iload_n X dX6_without_91 rfl ?_
        obtain ⟨g18a, g18b, h⟩ := h
        refine aw_iald X ar_6_24 g18a g18b dX6_without_92 ?_
        obtain ⟨g19a, g19b, h⟩ := h
        refine aw_iast X ar_6_24 g19a g19b dX6_without_93 ?_
        obtain ⟨σ19, eσ19⟩ : ∃ z : Mem, z = up σ17 6 0 24 l2 (σ17 6 0 24 l3) := ⟨_, rfl⟩
        replace h := h σ19 eσ19
        refine aw_mem eσ19 ?_
        refine aw_iconst X dX6_without_94 ?_
        refine aw_istore X dX6_without_95 (Nat.le_of_ble_eq_true rfl) rfl ?_
        refine aw_als (als' := [some (.ref (ad (6, 0, 0))), some (.int (oI l1)), some (.int (oI l2)), some (.int (oI l3)), some (.int (oI 0))]) rfl ?_
        refine aw_weak (als' := [some (.ref (ad (6, 0, 0))), some (.int (oI l1)), some (.int (oI l2)), some (.int (oI l3)), some (.int (oI 0))]) ⟨rfl, rfl, rfl, rfl, rfl, trivial⟩ ?_
        obtain ⟨n0, h⟩ := h
        exact m_Mo_without_97 X hR hret ih n0 _ _ _ _ _ h

set_option maxHeartbeats 4000000 in
set_option maxRecDepth 100000 in
theorem m_Mo_without_0 {p : Program} {l : Launch} {e : Env} {R : Room} {s : State} {m : MethodId} {args : Array Value} {below : List Frame} {meth : Method} {c : Code} {D : va_G} {ad : Ky → Nat} {tc : Tc} {A : Nat → Prop} {cs sl : Nat} {Qm : State → Prop} (X : Cx p s m args c cX6_without RX6 5 D ad tc A) (hR : RmOK R cs sl 1 20) {Q : Mem → Prop} (hret : RtV p l e R s m args below meth c D ad tc A cs sl Qm cX6_without Q) {l1 : Int} {σ : Mem} (h : Mo_without l1 σ Q) : AW p l e R s m args below meth c D ad tc A cs sl Qm 0 [some (.ref (ad (6, 0, 0))), some (.int (oI l1)), none, none, none] [] σ := by
  unfold Mo_without at h
  refine aw_iconst X dX6_without_0 ?_
  refine aw_istore_n X dX6_without_1 (Nat.le_of_ble_eq_true rfl) rfl ?_
  refine aw_als (als' := [some (.ref (ad (6, 0, 0))), some (.int (oI l1)), some (.int (oI 0)), none, none]) rfl ?_
  refine aw_iconst X dX6_without_2 ?_
  refine aw_istore_n X dX6_without_3 (Nat.le_of_ble_eq_true rfl) rfl ?_
  refine aw_als (als' := [some (.ref (ad (6, 0, 0))), some (.int (oI l1)), some (.int (oI 0)), some (.int (oI 0)), none]) rfl ?_
  refine aw_weak (als' := [some (.ref (ad (6, 0, 0))), some (.int (oI l1)), some (.int (oI 0)), some (.int (oI 0)), none]) ⟨rfl, rfl, rfl, rfl, trivial⟩ ?_
  obtain ⟨n0, h⟩ := h
  exact m_Mo_without_4 X hR hret n0 _ _ _ _ h
theorem s_Mo_without (l : Launch) (D : va_G) (ad : Ky → Nat) (tc : Tc) (hi : adI ad) {l1 : Int} {σ : Mem} {Q : Mem → Prop} (h : Mo_without l1 σ Q) : CtV l D ad tc yX6_without cX6_without 5 none { frames := 1, cells := 0, slots := 0, locals := 20 } [.ref (ad (6, 0, 0)), .int (oI l1)] σ Q := CtV.mk (by decide +kernel) hi (Nat.le_of_ble_eq_true rfl) rfl (fun p e s m args below meth c A Qm X hR hret => m_Mo_without_0 X hR hret h)

set_option maxHeartbeats 4000000 in
set_option maxRecDepth 100000 in
theorem m_Mo_choice_36 {p : Program} {l : Launch} {e : Env} {R : Room} {s : State} {m : MethodId} {args : Array Value} {below : List Frame} {meth : Method} {c : Code} {D : va_G} {ad : Ky → Nat} {tc : Tc} {A : Nat → Prop} {cs sl : Nat} {Qm : State → Prop} (X : Cx p s m args c cX6_choice RX6 3 D ad tc A) (hR : RmOK R cs sl 1 22) {Q : Int → Mem → Prop} (hret : RtI p l e R s m args below meth c D ad tc A cs sl Qm cX6_choice Q) : ∀ (n : Nat) (l2 : Int) (σ : Mem), Mo_choice_36 Q n l2 σ → AW p l e R s m args below meth c D ad tc A cs sl Qm 36 [some (.ref (ad (6, 0, 0))), none, some (.int (oI l2))] [] σ := by
  intro n
  induction n with
  | zero =>
    intro l2 σ h
    exact False.elim h
  | succ n ih =>
    intro l2 σ h
    unfold Mo_choice_36 at h
    refine aw_iload_n X dX6_choice_36 rfl ?_
    refine aw_iconst X dX6_choice_37 ?_
    obtain ⟨g1, h⟩ := h
    refine aw_icmp_ge X dX6_choice_38 (tgt := 75) (by decide) g1 ⟨by decide, by decide⟩ (fun hc => ?_) (fun hc => ?_)
    · replace h := h.1 hc
      refine aw_aload_n X dX6_choice_75 rfl ?_
      refine aw_get X ob_6 fl_X6_20 rfl dX6_choice_76 ?_
      refine aw_aload_n X dX6_choice_79 rfl ?_
      refine aw_get X ob_6 fl_X6_134 rfl dX6_choice_80 ?_
      refine aw_iconst X dX6_choice_83 ?_
      obtain ⟨g3a, g3b, h⟩ := h
      refine aw_iast X ar_6_4 g3a g3b dX6_choice_84 ?_
      obtain ⟨σ3, eσ3⟩ : ∃ z : Mem, z = up σ 6 0 4 (σ 6 0 0 0) 0 := ⟨_, rfl⟩
      replace h := h σ3 eσ3
      refine aw_mem eσ3 ?_
      refine aw_aload_n X dX6_choice_85 rfl ?_
      refine aw_dup X dX6_choice_86 rfl ?_
      refine aw_get X ob_6 fl_X6_134 rfl dX6_choice_87 ?_
      refine aw_iconst X dX6_choice_90 ?_
      refine aw_iadd X dX6_choice_91 ?_
      refine aw_put X ob_6 fl_X6_134 (sf_6_0 ad) rfl rfl dX6_choice_92 ?_
      obtain ⟨σ4, eσ4⟩ : ∃ z : Mem, z = up σ3 6 0 0 0 ((σ3 6 0 0 0) + 1) := ⟨_, rfl⟩
      replace h := h σ4 eσ4
      refine aw_mem eσ4 ?_
      refine aw_aload_n X dX6_choice_95 rfl ?_
      refine aw_callVV X hR (s_Mo_anew l D ad tc X.2.2.2.2.2.2.1 h) ml_X6_127 ob_6 rfl (by decide) (by decide) rfl rfl rfl rfl (Nat.le_of_ble_eq_true rfl) rfl dX6_choice_96 (fun σ5 h => ?_)
      refine aw_aload_n X dX6_choice_99 rfl ?_
      refine aw_get X ob_6 fl_X6_134 rfl dX6_choice_100 ?_
      refine aw_iconst X dX6_choice_103 ?_
      refine aw_isub X dX6_choice_104 ?_
      exact hret 105 _ _ _ dX6_choice_105 h
    · replace h := h.2 hc
      refine aw_aload_n X dX6_choice_41 rfl ?_
      refine aw_get X ob_6 fl_X6_13 rfl dX6_choice_42 ?_
      refine aw_iconst X dX6_choice_45 ?_
      refine aw_aload_n X dX6_choice_46 rfl ?_
      refine aw_get X ob_6 fl_X6_134 rfl dX6_choice_47 ?_
      refine aw_imul X dX6_choice_50 ?_
      refine aw_iload_n X dX6_choice_51 rfl ?_
      refine aw_iadd X dX6_choice_52 ?_
      refine aw_iconst X dX6_choice_53 ?_
      obtain ⟨g6a, g6b, h⟩ := h
      refine aw_iast X ar_6_2 g6a g6b dX6_choice_54 ?_
      obtain ⟨σ6, eσ6⟩ : ∃ z : Mem, z = up σ 6 0 2 ((4 * (σ 6 0 0 0)) + l2) 0 := ⟨_, rfl⟩
      replace h := h σ6 eσ6
      refine aw_mem eσ6 ?_
      refine aw_aload_n X dX6_choice_55 rfl ?_
      refine aw_get X ob_6 fl_X6_16 rfl dX6_choice_56 ?_
      refine aw_iconst X dX6_choice_59 ?_
      refine aw_aload_n X dX6_choice_60 rfl ?_
      refine aw_get X ob_6 fl_X6_134 rfl dX6_choice_61 ?_
      refine aw_imul X dX6_choice_64 ?_
      refine aw_iload_n X dX6_choice_65 rfl ?_
      refine aw_iadd X dX6_choice_66 ?_
      refine aw_iconst X dX6_choice_67 ?_
      obtain ⟨g7a, g7b, h⟩ := h
      refine aw_zast X ar_6_3 g7a g7b (by decide) dX6_choice_68 ?_
      obtain ⟨σ7, eσ7⟩ : ∃ z : Mem, z = up σ6 6 0 3 ((4 * (σ6 6 0 0 0)) + l2) 0 := ⟨_, rfl⟩
      replace h := h σ7 eσ7
      refine aw_mem eσ7 ?_
      refine aw_iinc X dX6_choice_69 rfl rfl ?_
      obtain ⟨x8, ex8⟩ : ∃ z : Int, z = (l2 + 1) := ⟨_, rfl⟩
      replace h := h x8 ex8
      refine aw_als (als' := [some (.ref (ad (6, 0, 0))), none, some (.int (oI x8))]) (by subst ex8; rfl) ?_
      refine aw_goto X dX6_choice_72 (tgt := 36) (by decide) ?_
      refine aw_weak (als' := [some (.ref (ad (6, 0, 0))), none, some (.int (oI x8))]) ⟨rfl, rfl, trivial⟩ ?_
      exact ih _ _ h

set_option maxHeartbeats 4000000 in
set_option maxRecDepth 100000 in
theorem m_Mo_choice_0 {p : Program} {l : Launch} {e : Env} {R : Room} {s : State} {m : MethodId} {args : Array Value} {below : List Frame} {meth : Method} {c : Code} {D : va_G} {ad : Ky → Nat} {tc : Tc} {A : Nat → Prop} {cs sl : Nat} {Qm : State → Prop} (X : Cx p s m args c cX6_choice RX6 3 D ad tc A) (hR : RmOK R cs sl 1 22) {Q : Int → Mem → Prop} (hret : RtI p l e R s m args below meth c D ad tc A cs sl Qm cX6_choice Q) {l1 : Int} {σ : Mem} (h : Mo_choice l1 σ Q) : AW p l e R s m args below meth c D ad tc A cs sl Qm 0 [some (.ref (ad (6, 0, 0))), some (.int (oI l1)), none] [] σ := by
  unfold Mo_choice at h
  refine aw_iload_n X dX6_choice_0 rfl ?_
  refine aw_iconst X dX6_choice_1 ?_
  refine aw_iconst X dX6_choice_2 ?_
  refine aw_callSI X hR (s_Mo_beyond l D ad tc X.2.2.2.2.2.2.1 h) ms_X6_130 (by decide) (by decide) rfl rfl rfl rfl (Nat.le_of_ble_eq_true rfl) rfl dX6_choice_3 (fun r1 σ1 h => ?_)
  obtain ⟨g2, h⟩ := h
  refine aw_if_eq X dX6_choice_6 (tgt := 12) (by decide) g2 (fun hc => ?_) (fun hc => ?_)
  · replace h := h.1 hc
    refine aw_aload_n X dX6_choice_12 rfl ?_
    refine aw_get X ob_6 fl_X6_134 rfl dX6_choice_13 ?_
    refine aw_bipush X dX6_choice_16 rfl ?_
    obtain ⟨g3, h⟩ := h
    refine aw_icmp_ne X dX6_choice_18 (tgt := 24) (by decide) g3 ⟨by decide, by decide⟩ (fun hc => ?_) (fun hc => ?_)
    · replace h := h.1 hc
      refine aw_aload_n X dX6_choice_24 rfl ?_
      refine aw_get X ob_6 fl_X6_7 rfl dX6_choice_25 ?_
      refine aw_aload_n X dX6_choice_28 rfl ?_
      refine aw_get X ob_6 fl_X6_134 rfl dX6_choice_29 ?_
      refine aw_iload_n X dX6_choice_32 rfl ?_
      obtain ⟨g5a, g5b, h⟩ := h
      refine aw_iast X ar_6_1 g5a g5b dX6_choice_33 ?_
      obtain ⟨σ5, eσ5⟩ : ∃ z : Mem, z = up σ1 6 0 1 (σ1 6 0 0 0) l1 := ⟨_, rfl⟩
      replace h := h σ5 eσ5
      refine aw_mem eσ5 ?_
      refine aw_iconst X dX6_choice_34 ?_
      refine aw_istore_n X dX6_choice_35 (Nat.le_of_ble_eq_true rfl) rfl ?_
      refine aw_als (als' := [some (.ref (ad (6, 0, 0))), some (.int (oI l1)), some (.int (oI 0))]) rfl ?_
      refine aw_weak (als' := [some (.ref (ad (6, 0, 0))), none, some (.int (oI 0))]) ⟨rfl, rfl, trivial⟩ ?_
      obtain ⟨n0, h⟩ := h
      exact m_Mo_choice_36 X hR hret n0 _ _ h
    · replace h := h.2 hc
      refine aw_bipush X dX6_choice_21 rfl ?_
      exact hret 23 _ _ _ dX6_choice_23 h
  · replace h := h.2 hc
    refine aw_bipush X dX6_choice_9 rfl ?_
    exact hret 11 _ _ _ dX6_choice_11 h
theorem s_Mo_choice (l : Launch) (D : va_G) (ad : Ky → Nat) (tc : Tc) (hi : adI ad) {l1 : Int} {σ : Mem} {Q : Int → Mem → Prop} (h : Mo_choice l1 σ Q) : CtI l D ad tc yX6_choice cX6_choice 3 (some .int) { frames := 1, cells := 0, slots := 0, locals := 22 } [.ref (ad (6, 0, 0)), .int (oI l1)] σ Q := CtI.mk (by decide +kernel) hi (Nat.le_of_ble_eq_true rfl) rfl (fun p e s m args below meth c A Qm X hR hret => m_Mo_choice_0 X hR hret h)

set_option maxHeartbeats 4000000 in
set_option maxRecDepth 100000 in
theorem m_Mo_noValue_35 {p : Program} {l : Launch} {e : Env} {R : Room} {s : State} {m : MethodId} {args : Array Value} {below : List Frame} {meth : Method} {c : Code} {D : va_G} {ad : Ky → Nat} {tc : Tc} {A : Nat → Prop} {cs sl : Nat} {Qm : State → Prop} (X : Cx p s m args c cX6_noValue RX6 3 D ad tc A) (hR : RmOK R cs sl 1 22) {Q : Int → Mem → Prop} (hret : RtZ p l e R s m args below meth c D ad tc A cs sl Qm cX6_noValue Q) {s0 : Int} {σ : Mem} (h : Mo_noValue_35 Q s0 σ) : AW p l e R s m args below meth c D ad tc A cs sl Qm 35 [none, none, none] [.int (oI s0)] σ := by
  unfold Mo_noValue_35 at h
  exact hret 35 _ _ _ dX6_noValue_35 h.1 h.2

set_option maxHeartbeats 4000000 in
set_option maxRecDepth 100000 in
theorem m_Mo_noValue_30 {p : Program} {l : Launch} {e : Env} {R : Room} {s : State} {m : MethodId} {args : Array Value} {below : List Frame} {meth : Method} {c : Code} {D : va_G} {ad : Ky → Nat} {tc : Tc} {A : Nat → Prop} {cs sl : Nat} {Qm : State → Prop} (X : Cx p s m args c cX6_noValue RX6 3 D ad tc A) (hR : RmOK R cs sl 1 22) {Q : Int → Mem → Prop} (hret : RtZ p l e R s m args below meth c D ad tc A cs sl Qm cX6_noValue Q) {σ : Mem} (h : Mo_noValue_30 Q σ) : AW p l e R s m args below meth c D ad tc A cs sl Qm 30 [none, none, none] [] σ := by
  unfold Mo_noValue_30 at h
  refine aw_iconst X dX6_noValue_30 ?_
  refine aw_goto X dX6_noValue_31 (tgt := 35) (by decide) ?_
  refine aw_weak (als' := [none, none, none]) trivial ?_
  exact m_Mo_noValue_35 X hR hret h

set_option maxHeartbeats 4000000 in
set_option maxRecDepth 100000 in
theorem m_Mo_noValue_0 {p : Program} {l : Launch} {e : Env} {R : Room} {s : State} {m : MethodId} {args : Array Value} {below : List Frame} {meth : Method} {c : Code} {D : va_G} {ad : Ky → Nat} {tc : Tc} {A : Nat → Prop} {cs sl : Nat} {Qm : State → Prop} (X : Cx p s m args c cX6_noValue RX6 3 D ad tc A) (hR : RmOK R cs sl 1 22) {Q : Int → Mem → Prop} (hret : RtZ p l e R s m args below meth c D ad tc A cs sl Qm cX6_noValue Q) {l1 : Int} {l2 : Int} {σ : Mem} (h : Mo_noValue l1 l2 σ Q) : AW p l e R s m args below meth c D ad tc A cs sl Qm 0 [some (.ref (ad (6, 0, 0))), some (.int (oI l1)), some (.int (oI l2))] [] σ := by
  unfold Mo_noValue at h
  refine aw_iload_n X dX6_noValue_0 rfl ?_
  refine aw_iconst X dX6_noValue_1 ?_
  refine aw_aload_n X dX6_noValue_2 rfl ?_
  refine aw_get X ob_6 fl_X6_134 rfl dX6_noValue_3 ?_
  refine aw_iconst X dX6_noValue_6 ?_
  refine aw_isub X dX6_noValue_7 ?_
  refine aw_callSI X hR (s_Mo_beyond l D ad tc X.2.2.2.2.2.2.1 h) ms_X6_130 (by decide) (by decide) rfl rfl rfl rfl (Nat.le_of_ble_eq_true rfl) rfl dX6_noValue_8 (fun r1 σ1 h => ?_)
  obtain ⟨g2, h⟩ := h
  refine aw_if_ne X dX6_noValue_11 (tgt := 30) (by decide) g2 (fun hc => ?_) (fun hc => ?_)
  · replace h := h.1 hc
    refine aw_weak (als' := [none, none, none]) trivial ?_
    exact m_Mo_noValue_30 X hR hret h
  · replace h := h.2 hc
    refine aw_iload_n X dX6_noValue_14 rfl ?_
    refine aw_iconst X dX6_noValue_15 ?_
    refine aw_aload_n X dX6_noValue_16 rfl ?_
    refine aw_get X ob_6 fl_X6_7 rfl dX6_noValue_17 ?_
    refine aw_iload_n X dX6_noValue_20 rfl ?_
    obtain ⟨g3a, g3b, h⟩ := h
    refine aw_iald X ar_6_1 g3a g3b dX6_noValue_21 ?_
    refine aw_iconst X dX6_noValue_22 ?_
    refine aw_isub X dX6_noValue_23 ?_
    refine aw_callSI X hR (s_Mo_beyond l D ad tc X.2.2.2.2.2.2.1 h) ms_X6_130 (by decide) (by decide) rfl rfl rfl rfl (Nat.le_of_ble_eq_true rfl) rfl dX6_noValue_24 (fun r4 σ4 h => ?_)
    obtain ⟨g5, h⟩ := h
    refine aw_if_eq X dX6_noValue_27 (tgt := 34) (by decide) g5 (fun hc => ?_) (fun hc => ?_)
    · replace h := h.1 hc
      refine aw_iconst X dX6_noValue_34 ?_
      refine aw_weak (als' := [none, none, none]) trivial ?_
      exact m_Mo_noValue_35 X hR hret h
    · replace h := h.2 hc
      refine aw_weak (als' := [none, none, none]) trivial ?_
      exact m_Mo_noValue_30 X hR hret h
theorem s_Mo_noValue (l : Launch) (D : va_G) (ad : Ky → Nat) (tc : Tc) (hi : adI ad) {l1 : Int} {l2 : Int} {σ : Mem} {Q : Int → Mem → Prop} (h : Mo_noValue l1 l2 σ Q) : CtI l D ad tc yX6_noValue cX6_noValue 3 (some .boolean) { frames := 1, cells := 0, slots := 0, locals := 22 } [.ref (ad (6, 0, 0)), .int (oI l1), .int (oI l2)] σ Q := CtI.mkz (by decide +kernel) hi (Nat.le_of_ble_eq_true rfl) rfl (fun p e s m args below meth c A Qm X hR hret => m_Mo_noValue_0 X hR hret h)

set_option maxHeartbeats 4000000 in
set_option maxRecDepth 100000 in
theorem m_Mo_price_73 {p : Program} {l : Launch} {e : Env} {R : Room} {s : State} {m : MethodId} {args : Array Value} {below : List Frame} {meth : Method} {c : Code} {D : va_G} {ad : Ky → Nat} {tc : Tc} {A : Nat → Prop} {cs sl : Nat} {Qm : State → Prop} (X : Cx p s m args c cX6_price RX6 5 D ad tc A) (hR : RmOK R cs sl 2 44) {Q : Int → Mem → Prop} (hret : RtI p l e R s m args below meth c D ad tc A cs sl Qm cX6_price Q) {s1 : Int} {s2 : Int} {σ : Mem} (h : Mo_price_73 Q s1 s2 σ) : AW p l e R s m args below meth c D ad tc A cs sl Qm 73 [some (.ref (ad (6, 0, 0))), none, none, none, none] [.int (oI s2), .int (oI s1), .ref (ad (6, 0, 3))] σ := by
  unfold Mo_price_73 at h
  obtain ⟨g1a, g1b, h⟩ := h
  refine aw_iast X ar_6_2 g1a g1b dX6_price_73 ?_
  obtain ⟨σ1, eσ1⟩ : ∃ z : Mem, z = up σ 6 0 2 s1 s2 := ⟨_, rfl⟩
  replace h := h σ1 eσ1
  refine aw_mem eσ1 ?_
  refine aw_aload_n X dX6_price_74 rfl ?_
  refine aw_callVV X hR (s_Mo_anew l D ad tc X.2.2.2.2.2.2.1 h) ml_X6_127 ob_6 rfl (by decide) (by decide) rfl rfl rfl rfl (Nat.le_of_ble_eq_true rfl) rfl dX6_price_75 (fun σ2 h => ?_)
  refine aw_iconst X dX6_price_78 ?_
  exact hret 79 _ _ _ dX6_price_79 h

set_option maxHeartbeats 4000000 in
set_option maxRecDepth 100000 in
theorem m_Mo_price_55 {p : Program} {l : Launch} {e : Env} {R : Room} {s : State} {m : MethodId} {args : Array Value} {below : List Frame} {meth : Method} {c : Code} {D : va_G} {ad : Ky → Nat} {tc : Tc} {A : Nat → Prop} {cs sl : Nat} {Qm : State → Prop} (X : Cx p s m args c cX6_price RX6 5 D ad tc A) (hR : RmOK R cs sl 2 44) {Q : Int → Mem → Prop} (hret : RtI p l e R s m args below meth c D ad tc A cs sl Qm cX6_price Q) {l3 : Int} {l4 : Int} {s1 : Int} {s2 : Int} {σ : Mem} (h : Mo_price_55 Q l3 l4 s1 s2 σ) : AW p l e R s m args below meth c D ad tc A cs sl Qm 55 [some (.ref (ad (6, 0, 0))), none, none, some (.int (oI l3)), some (.int (oI l4))] [.int (oI s2), .int (oI s1), .ref (ad (6, 0, 4))] σ := by
  unfold Mo_price_55 at h
  obtain ⟨g1a, g1b, h⟩ := h
  obtain ⟨g1c, h⟩ := h
  refine aw_zast X ar_6_3 g1a g1b g1c dX6_price_55 ?_
  obtain ⟨σ1, eσ1⟩ : ∃ z : Mem, z = up σ 6 0 3 s1 s2 := ⟨_, rfl⟩
  replace h := h σ1 eσ1
  refine aw_mem eσ1 ?_
  refine aw_aload_n X dX6_price_56 rfl ?_
  refine aw_get X ob_6 fl_X6_13 rfl dX6_price_57 ?_
  refine aw_iload X dX6_price_60 rfl ?_
  refine aw_iload_n X dX6_price_62 rfl ?_
  refine aw_bipush X dX6_price_63 rfl ?_
  obtain ⟨g2, h⟩ := h
  refine aw_icmp_ne X dX6_price_65 (tgt := 72) (by decide) g2 ⟨by decide, by decide⟩ (fun hc => ?_) (fun hc => ?_)
  · replace h := h.1 hc
    refine aw_iload_n X dX6_price_72 rfl ?_
    refine aw_weak (als' := [some (.ref (ad (6, 0, 0))), none, none, none, none]) ⟨rfl, trivial⟩ ?_
    exact m_Mo_price_73 X hR hret h
  · replace h := h.2 hc
    refine aw_iconst X dX6_price_68 ?_
    refine aw_goto X dX6_price_69 (tgt := 73) (by decide) ?_
    refine aw_weak (als' := [some (.ref (ad (6, 0, 0))), none, none, none, none]) ⟨rfl, trivial⟩ ?_
    exact m_Mo_price_73 X hR hret h

set_option maxHeartbeats 4000000 in
set_option maxRecDepth 100000 in
theorem m_Mo_price_31 {p : Program} {l : Launch} {e : Env} {R : Room} {s : State} {m : MethodId} {args : Array Value} {below : List Frame} {meth : Method} {c : Code} {D : va_G} {ad : Ky → Nat} {tc : Tc} {A : Nat → Prop} {cs sl : Nat} {Qm : State → Prop} (X : Cx p s m args c cX6_price RX6 5 D ad tc A) (hR : RmOK R cs sl 2 44) {Q : Int → Mem → Prop} (hret : RtI p l e R s m args below meth c D ad tc A cs sl Qm cX6_price Q) {l1 : Int} {l2 : Int} {l3 : Int} {σ : Mem} (h : Mo_price_31 Q l1 l2 l3 σ) : AW p l e R s m args below meth c D ad tc A cs sl Qm 31 [some (.ref (ad (6, 0, 0))), some (.int (oI l1)), some (.int (oI l2)), some (.int (oI l3)), none] [] σ := by
  unfold Mo_price_31 at h
  refine aw_iconst X dX6_price_31 ?_
  refine aw_iload_n X dX6_price_32 rfl ?_
  refine aw_imul X dX6_price_33 ?_
  refine aw_iload_n X dX6_price_34 rfl ?_
  refine aw_iadd X dX6_price_35 ?_
  refine aw_istore X dX6_price_36 (Nat.le_of_ble_eq_true rfl) rfl ?_
  obtain ⟨x1, ex1⟩ : ∃ z : Int, z = ((4 * l1) + l2) := ⟨_, rfl⟩
  replace h := h x1 ex1
  refine aw_als (als' := [some (.ref (ad (6, 0, 0))), some (.int (oI l1)), some (.int (oI l2)), some (.int (oI l3)), some (.int (oI x1))]) (by subst ex1; rfl) ?_
  refine aw_aload_n X dX6_price_38 rfl ?_
  refine aw_get X ob_6 fl_X6_16 rfl dX6_price_39 ?_
  refine aw_iload X dX6_price_42 rfl ?_
  refine aw_iload_n X dX6_price_44 rfl ?_
  refine aw_bipush X dX6_price_45 rfl ?_
  obtain ⟨g2, h⟩ := h
  refine aw_icmp_ne X dX6_price_47 (tgt := 54) (by decide) g2 ⟨by decide, by decide⟩ (fun hc => ?_) (fun hc => ?_)
  · replace h := h.1 hc
    refine aw_iconst X dX6_price_54 ?_
    refine aw_weak (als' := [some (.ref (ad (6, 0, 0))), none, none, some (.int (oI l3)), some (.int (oI x1))]) ⟨rfl, rfl, rfl, trivial⟩ ?_
    exact m_Mo_price_55 X hR hret h
  · replace h := h.2 hc
    refine aw_iconst X dX6_price_50 ?_
    refine aw_goto X dX6_price_51 (tgt := 55) (by decide) ?_
    refine aw_weak (als' := [some (.ref (ad (6, 0, 0))), none, none, some (.int (oI l3)), some (.int (oI x1))]) ⟨rfl, rfl, rfl, trivial⟩ ?_
    exact m_Mo_price_55 X hR hret h

set_option maxHeartbeats 4000000 in
set_option maxRecDepth 100000 in
theorem m_Mo_price_0 {p : Program} {l : Launch} {e : Env} {R : Room} {s : State} {m : MethodId} {args : Array Value} {below : List Frame} {meth : Method} {c : Code} {D : va_G} {ad : Ky → Nat} {tc : Tc} {A : Nat → Prop} {cs sl : Nat} {Qm : State → Prop} (X : Cx p s m args c cX6_price RX6 5 D ad tc A) (hR : RmOK R cs sl 2 44) {Q : Int → Mem → Prop} (hret : RtI p l e R s m args below meth c D ad tc A cs sl Qm cX6_price Q) {l1 : Int} {l2 : Int} {l3 : Int} {σ : Mem} (h : Mo_price l1 l2 l3 σ Q) : AW p l e R s m args below meth c D ad tc A cs sl Qm 0 [some (.ref (ad (6, 0, 0))), some (.int (oI l1)), some (.int (oI l2)), some (.int (oI l3)), none] [] σ := by
  unfold Mo_price at h
  refine aw_aload_n X dX6_price_0 rfl ?_
  refine aw_iload_n X dX6_price_1 rfl ?_
  refine aw_iload_n X dX6_price_2 rfl ?_
  refine aw_callVI X hR (s_Mo_noValue l D ad tc X.2.2.2.2.2.2.1 h) ml_X6_137 ob_6 rfl (by decide) (by decide) rfl rfl rfl rfl (Nat.le_of_ble_eq_true rfl) rfl dX6_price_3 (fun r1 σ1 h => ?_)
  obtain ⟨g2, h⟩ := h
  refine aw_if_eq X dX6_price_6 (tgt := 11) (by decide) g2 (fun hc => ?_) (fun hc => ?_)
  · replace h := h.1 hc
    refine aw_iload_n X dX6_price_11 rfl ?_
    refine aw_bipush X dX6_price_12 rfl ?_
    obtain ⟨g3, h⟩ := h
    refine aw_icmp_eq X dX6_price_14 (tgt := 31) (by decide) g3 ⟨by decide, by decide⟩ (fun hc => ?_) (fun hc => ?_)
    · replace h := h.1 hc
      refine aw_weak (als' := [some (.ref (ad (6, 0, 0))), some (.int (oI l1)), some (.int (oI l2)), some (.int (oI l3)), none]) ⟨rfl, rfl, rfl, rfl, trivial⟩ ?_
      exact m_Mo_price_31 X hR hret h
    · replace h := h.2 hc
      refine aw_iload_n X dX6_price_17 rfl ?_
      refine aw_iconst X dX6_price_18 ?_
      refine aw_sipush X dX6_price_19 rfl ?_
      refine aw_callSI X hR (s_Mo_beyond l D ad tc X.2.2.2.2.2.2.1 h) ms_X6_130 (by decide) (by decide) rfl rfl rfl rfl (Nat.le_of_ble_eq_true rfl) rfl dX6_price_22 (fun r5 σ5 h => ?_)
      obtain ⟨g6, h⟩ := h
      refine aw_if_eq X dX6_price_25 (tgt := 31) (by decide) g6 (fun hc => ?_) (fun hc => ?_)
      · replace h := h.1 hc
        refine aw_weak (als' := [some (.ref (ad (6, 0, 0))), some (.int (oI l1)), some (.int (oI l2)), some (.int (oI l3)), none]) ⟨rfl, rfl, rfl, rfl, trivial⟩ ?_
        exact m_Mo_price_31 X hR hret h
      · replace h := h.2 hc
        refine aw_bipush X dX6_price_28 rfl ?_
        exact hret 30 _ _ _ dX6_price_30 h
  · replace h := h.2 hc
    refine aw_iconst X dX6_price_9 ?_
    exact hret 10 _ _ _ dX6_price_10 h
theorem s_Mo_price (l : Launch) (D : va_G) (ad : Ky → Nat) (tc : Tc) (hi : adI ad) {l1 : Int} {l2 : Int} {l3 : Int} {σ : Mem} {Q : Int → Mem → Prop} (h : Mo_price l1 l2 l3 σ Q) : CtI l D ad tc yX6_price cX6_price 5 (some .int) { frames := 2, cells := 0, slots := 0, locals := 44 } [.ref (ad (6, 0, 0)), .int (oI l1), .int (oI l2), .int (oI l3)] σ Q := CtI.mk (by decide +kernel) hi (Nat.le_of_ble_eq_true rfl) rfl (fun p e s m args below meth c A Qm X hR hret => m_Mo_price_0 X hR hret h)

set_option maxHeartbeats 4000000 in
set_option maxRecDepth 100000 in
theorem m_Mo_future_0 {p : Program} {l : Launch} {e : Env} {R : Room} {s : State} {m : MethodId} {args : Array Value} {below : List Frame} {meth : Method} {c : Code} {D : va_G} {ad : Ky → Nat} {tc : Tc} {A : Nat → Prop} {cs sl : Nat} {Qm : State → Prop} (X : Cx p s m args c cX6_future RX6 2 D ad tc A) (hR : RmOK R cs sl 1 22) {Q : Int → Mem → Prop} (hret : RtI p l e R s m args below meth c D ad tc A cs sl Qm cX6_future Q) {l1 : Int} {σ : Mem} (h : Mo_future l1 σ Q) : AW p l e R s m args below meth c D ad tc A cs sl Qm 0 [some (.ref (ad (6, 0, 0))), some (.int (oI l1))] [] σ := by
  unfold Mo_future at h
  refine aw_iload_n X dX6_future_0 rfl ?_
  refine aw_iconst X dX6_future_1 ?_
  refine aw_bipush X dX6_future_2 rfl ?_
  refine aw_callSI X hR (s_Mo_beyond l D ad tc X.2.2.2.2.2.2.1 h) ms_X6_130 (by decide) (by decide) rfl rfl rfl rfl (Nat.le_of_ble_eq_true rfl) rfl dX6_future_4 (fun r1 σ1 h => ?_)
  obtain ⟨g2, h⟩ := h
  refine aw_if_eq X dX6_future_7 (tgt := 13) (by decide) g2 (fun hc => ?_) (fun hc => ?_)
  · replace h := h.1 hc
    refine aw_aload_n X dX6_future_13 rfl ?_
    refine aw_get X ob_6 fl_X6_23 rfl dX6_future_14 ?_
    refine aw_iconst X dX6_future_17 ?_
    obtain ⟨g3, h⟩ := h
    refine aw_icmp_ne X dX6_future_18 (tgt := 24) (by decide) g3 ⟨by decide, by decide⟩ (fun hc => ?_) (fun hc => ?_)
    · replace h := h.1 hc
      refine aw_aload_n X dX6_future_24 rfl ?_
      refine aw_get X ob_6 fl_X6_27 rfl dX6_future_25 ?_
      refine aw_aload_n X dX6_future_28 rfl ?_
      refine aw_get X ob_6 fl_X6_23 rfl dX6_future_29 ?_
      refine aw_iload_n X dX6_future_32 rfl ?_
      obtain ⟨g5a, g5b, h⟩ := h
      refine aw_iast X ar_6_6 g5a g5b dX6_future_33 ?_
      obtain ⟨σ5, eσ5⟩ : ∃ z : Mem, z = up σ1 6 0 6 (σ1 6 0 5 0) l1 := ⟨_, rfl⟩
      replace h := h σ5 eσ5
      refine aw_mem eσ5 ?_
      refine aw_aload_n X dX6_future_34 rfl ?_
      refine aw_dup X dX6_future_35 rfl ?_
      refine aw_get X ob_6 fl_X6_23 rfl dX6_future_36 ?_
      refine aw_iconst X dX6_future_39 ?_
      refine aw_iadd X dX6_future_40 ?_
      refine aw_put X ob_6 fl_X6_23 (sf_6_5 ad) rfl rfl dX6_future_41 ?_
      obtain ⟨σ6, eσ6⟩ : ∃ z : Mem, z = up σ5 6 0 5 0 ((σ5 6 0 5 0) + 1) := ⟨_, rfl⟩
      replace h := h σ6 eσ6
      refine aw_mem eσ6 ?_
      refine aw_aload_n X dX6_future_44 rfl ?_
      refine aw_callVV X hR (s_Mo_anew l D ad tc X.2.2.2.2.2.2.1 h) ml_X6_127 ob_6 rfl (by decide) (by decide) rfl rfl rfl rfl (Nat.le_of_ble_eq_true rfl) rfl dX6_future_45 (fun σ7 h => ?_)
      refine aw_aload_n X dX6_future_48 rfl ?_
      refine aw_get X ob_6 fl_X6_23 rfl dX6_future_49 ?_
      refine aw_iconst X dX6_future_52 ?_
      refine aw_isub X dX6_future_53 ?_
      exact hret 54 _ _ _ dX6_future_54 h
    · replace h := h.2 hc
      refine aw_bipush X dX6_future_21 rfl ?_
      exact hret 23 _ _ _ dX6_future_23 h
  · replace h := h.2 hc
    refine aw_bipush X dX6_future_10 rfl ?_
    exact hret 12 _ _ _ dX6_future_12 h
theorem s_Mo_future (l : Launch) (D : va_G) (ad : Ky → Nat) (tc : Tc) (hi : adI ad) {l1 : Int} {σ : Mem} {Q : Int → Mem → Prop} (h : Mo_future l1 σ Q) : CtI l D ad tc yX6_future cX6_future 2 (some .int) { frames := 1, cells := 0, slots := 0, locals := 22 } [.ref (ad (6, 0, 0)), .int (oI l1)] σ Q := CtI.mk (by decide +kernel) hi (Nat.le_of_ble_eq_true rfl) rfl (fun p e s m args below meth c A Qm X hR hret => m_Mo_future_0 X hR hret h)

set_option maxHeartbeats 4000000 in
set_option maxRecDepth 100000 in
theorem m_Mo_noFuture_0 {p : Program} {l : Launch} {e : Env} {R : Room} {s : State} {m : MethodId} {args : Array Value} {below : List Frame} {meth : Method} {c : Code} {D : va_G} {ad : Ky → Nat} {tc : Tc} {A : Nat → Prop} {cs sl : Nat} {Qm : State → Prop} (X : Cx p s m args c cX6_noFuture RX6 2 D ad tc A) (hR : RmOK R cs sl 1 22) {Q : Int → Mem → Prop} (hret : RtZ p l e R s m args below meth c D ad tc A cs sl Qm cX6_noFuture Q) {l1 : Int} {σ : Mem} (h : Mo_noFuture l1 σ Q) : AW p l e R s m args below meth c D ad tc A cs sl Qm 0 [some (.ref (ad (6, 0, 0))), some (.int (oI l1))] [] σ := by
  unfold Mo_noFuture at h
  refine aw_iload_n X dX6_noFuture_0 rfl ?_
  refine aw_iconst X dX6_noFuture_1 ?_
  refine aw_aload_n X dX6_noFuture_2 rfl ?_
  refine aw_get X ob_6 fl_X6_23 rfl dX6_noFuture_3 ?_
  refine aw_iconst X dX6_noFuture_6 ?_
  refine aw_isub X dX6_noFuture_7 ?_
  refine aw_callSI X hR (s_Mo_beyond l D ad tc X.2.2.2.2.2.2.1 h) ms_X6_130 (by decide) (by decide) rfl rfl rfl rfl (Nat.le_of_ble_eq_true rfl) rfl dX6_noFuture_8 (fun r1 σ1 h => ?_)
  exact hret 11 _ _ _ dX6_noFuture_11 h.1 h.2
theorem s_Mo_noFuture (l : Launch) (D : va_G) (ad : Ky → Nat) (tc : Tc) (hi : adI ad) {l1 : Int} {σ : Mem} {Q : Int → Mem → Prop} (h : Mo_noFuture l1 σ Q) : CtI l D ad tc yX6_noFuture cX6_noFuture 2 (some .boolean) { frames := 1, cells := 0, slots := 0, locals := 22 } [.ref (ad (6, 0, 0)), .int (oI l1)] σ Q := CtI.mkz (by decide +kernel) hi (Nat.le_of_ble_eq_true rfl) rfl (fun p e s m args below meth c A Qm X hR hret => m_Mo_noFuture_0 X hR hret h)

set_option maxHeartbeats 4000000 in
set_option maxRecDepth 100000 in
theorem m_Mo_noPart_0 {p : Program} {l : Launch} {e : Env} {R : Room} {s : State} {m : MethodId} {args : Array Value} {below : List Frame} {meth : Method} {c : Code} {D : va_G} {ad : Ky → Nat} {tc : Tc} {A : Nat → Prop} {cs sl : Nat} {Qm : State → Prop} (X : Cx p s m args c cX6_noPart RX6 2 D ad tc A) (hR : RmOK R cs sl 1 22) {Q : Int → Mem → Prop} (hret : RtZ p l e R s m args below meth c D ad tc A cs sl Qm cX6_noPart Q) {l1 : Int} {σ : Mem} (h : Mo_noPart l1 σ Q) : AW p l e R s m args below meth c D ad tc A cs sl Qm 0 [some (.ref (ad (6, 0, 0))), some (.int (oI l1))] [] σ := by
  unfold Mo_noPart at h
  refine aw_iload_n X dX6_noPart_0 rfl ?_
  refine aw_iconst X dX6_noPart_1 ?_
  refine aw_aload_n X dX6_noPart_2 rfl ?_
  refine aw_get X ob_6 fl_X6_141 rfl dX6_noPart_3 ?_
  refine aw_iconst X dX6_noPart_6 ?_
  refine aw_isub X dX6_noPart_7 ?_
  refine aw_callSI X hR (s_Mo_beyond l D ad tc X.2.2.2.2.2.2.1 h) ms_X6_130 (by decide) (by decide) rfl rfl rfl rfl (Nat.le_of_ble_eq_true rfl) rfl dX6_noPart_8 (fun r1 σ1 h => ?_)
  exact hret 11 _ _ _ dX6_noPart_11 h.1 h.2
theorem s_Mo_noPart (l : Launch) (D : va_G) (ad : Ky → Nat) (tc : Tc) (hi : adI ad) {l1 : Int} {σ : Mem} {Q : Int → Mem → Prop} (h : Mo_noPart l1 σ Q) : CtI l D ad tc yX6_noPart cX6_noPart 2 (some .boolean) { frames := 1, cells := 0, slots := 0, locals := 22 } [.ref (ad (6, 0, 0)), .int (oI l1)] σ Q := CtI.mkz (by decide +kernel) hi (Nat.le_of_ble_eq_true rfl) rfl (fun p e s m args below meth c A Qm X hR hret => m_Mo_noPart_0 X hR hret h)

set_option maxHeartbeats 4000000 in
set_option maxRecDepth 100000 in
theorem m_Mo_weight_0 {p : Program} {l : Launch} {e : Env} {R : Room} {s : State} {m : MethodId} {args : Array Value} {below : List Frame} {meth : Method} {c : Code} {D : va_G} {ad : Ky → Nat} {tc : Tc} {A : Nat → Prop} {cs sl : Nat} {Qm : State → Prop} (X : Cx p s m args c cX6_weight RX6 4 D ad tc A) (hR : RmOK R cs sl 2 43) {Q : Int → Mem → Prop} (hret : RtI p l e R s m args below meth c D ad tc A cs sl Qm cX6_weight Q) {l1 : Int} {l2 : Int} {σ : Mem} (h : Mo_weight l1 l2 σ Q) : AW p l e R s m args below meth c D ad tc A cs sl Qm 0 [some (.ref (ad (6, 0, 0))), some (.int (oI l1)), some (.int (oI l2)), none] [] σ := by
  unfold Mo_weight at h
  refine aw_aload_n X dX6_weight_0 rfl ?_
  refine aw_iload_n X dX6_weight_1 rfl ?_
  refine aw_callVI X hR (s_Mo_noFuture l D ad tc X.2.2.2.2.2.2.1 h) ml_X6_144 ob_6 rfl (by decide) (by decide) rfl rfl rfl rfl (Nat.le_of_ble_eq_true rfl) rfl dX6_weight_2 (fun r1 σ1 h => ?_)
  obtain ⟨g2, h⟩ := h
  refine aw_if_eq X dX6_weight_5 (tgt := 10) (by decide) g2 (fun hc => ?_) (fun hc => ?_)
  · replace h := h.1 hc
    refine aw_iload_n X dX6_weight_10 rfl ?_
    refine aw_iconst X dX6_weight_11 ?_
    refine aw_bipush X dX6_weight_12 rfl ?_
    refine aw_callSI X hR (s_Mo_beyond l D ad tc X.2.2.2.2.2.2.1 h) ms_X6_130 (by decide) (by decide) rfl rfl rfl rfl (Nat.le_of_ble_eq_true rfl) rfl dX6_weight_14 (fun r3 σ3 h => ?_)
    obtain ⟨g4, h⟩ := h
    refine aw_if_eq X dX6_weight_17 (tgt := 23) (by decide) g4 (fun hc => ?_) (fun hc => ?_)
    · replace h := h.1 hc
      refine aw_aload_n X dX6_weight_23 rfl ?_
      refine aw_get X ob_6 fl_X6_27 rfl dX6_weight_24 ?_
      refine aw_iload_n X dX6_weight_27 rfl ?_
      obtain ⟨g5a, g5b, h⟩ := h
      refine aw_iald X ar_6_6 g5a g5b dX6_weight_28 ?_
      refine aw_istore_n X dX6_weight_29 (Nat.le_of_ble_eq_true rfl) rfl ?_
      obtain ⟨x6, ex6⟩ : ∃ z : Int, z = (σ3 6 0 6 l1) := ⟨_, rfl⟩
      replace h := h x6 ex6
      refine aw_als (als' := [some (.ref (ad (6, 0, 0))), some (.int (oI l1)), some (.int (oI l2)), some (.int (oI x6))]) (by subst ex6; rfl) ?_
      refine aw_aload_n X dX6_weight_30 rfl ?_
      refine aw_get X ob_6 fl_X6_27 rfl dX6_weight_31 ?_
      refine aw_iload_n X dX6_weight_34 rfl ?_
      refine aw_iload_n X dX6_weight_35 rfl ?_
      obtain ⟨g7a, g7b, h⟩ := h
      refine aw_iast X ar_6_6 g7a g7b dX6_weight_36 ?_
      obtain ⟨σ7, eσ7⟩ : ∃ z : Mem, z = up σ3 6 0 6 l1 l2 := ⟨_, rfl⟩
      replace h := h σ7 eσ7
      refine aw_mem eσ7 ?_
      refine aw_aload_n X dX6_weight_37 rfl ?_
      refine aw_callVV X hR (s_Mo_anew l D ad tc X.2.2.2.2.2.2.1 h) ml_X6_127 ob_6 rfl (by decide) (by decide) rfl rfl rfl rfl (Nat.le_of_ble_eq_true rfl) rfl dX6_weight_38 (fun σ8 h => ?_)
      refine aw_iload_n X dX6_weight_41 rfl ?_
      exact hret 42 _ _ _ dX6_weight_42 h
    · replace h := h.2 hc
      refine aw_bipush X dX6_weight_20 rfl ?_
      exact hret 22 _ _ _ dX6_weight_22 h
  · replace h := h.2 hc
    refine aw_iconst X dX6_weight_8 ?_
    exact hret 9 _ _ _ dX6_weight_9 h
theorem s_Mo_weight (l : Launch) (D : va_G) (ad : Ky → Nat) (tc : Tc) (hi : adI ad) {l1 : Int} {l2 : Int} {σ : Mem} {Q : Int → Mem → Prop} (h : Mo_weight l1 l2 σ Q) : CtI l D ad tc yX6_weight cX6_weight 4 (some .int) { frames := 2, cells := 0, slots := 0, locals := 43 } [.ref (ad (6, 0, 0)), .int (oI l1), .int (oI l2)] σ Q := CtI.mk (by decide +kernel) hi (Nat.le_of_ble_eq_true rfl) rfl (fun p e s m args below meth c A Qm X hR hret => m_Mo_weight_0 X hR hret h)

set_option maxHeartbeats 4000000 in
set_option maxRecDepth 100000 in
theorem m_Mo_part_0 {p : Program} {l : Launch} {e : Env} {R : Room} {s : State} {m : MethodId} {args : Array Value} {below : List Frame} {meth : Method} {c : Code} {D : va_G} {ad : Ky → Nat} {tc : Tc} {A : Nat → Prop} {cs sl : Nat} {Qm : State → Prop} (X : Cx p s m args c cX6_part RX6 1 D ad tc A) (hR : RmOK R cs sl 1 20) {Q : Int → Mem → Prop} (hret : RtI p l e R s m args below meth c D ad tc A cs sl Qm cX6_part Q) {σ : Mem} (h : Mo_part σ Q) : AW p l e R s m args below meth c D ad tc A cs sl Qm 0 [some (.ref (ad (6, 0, 0)))] [] σ := by
  unfold Mo_part at h
  refine aw_aload_n X dX6_part_0 rfl ?_
  refine aw_get X ob_6 fl_X6_141 rfl dX6_part_1 ?_
  refine aw_iconst X dX6_part_4 ?_
  obtain ⟨g1, h⟩ := h
  refine aw_icmp_ne X dX6_part_5 (tgt := 11) (by decide) g1 ⟨by decide, by decide⟩ (fun hc => ?_) (fun hc => ?_)
  · replace h := h.1 hc
    refine aw_aload_n X dX6_part_11 rfl ?_
    refine aw_dup X dX6_part_12 rfl ?_
    refine aw_get X ob_6 fl_X6_141 rfl dX6_part_13 ?_
    refine aw_iconst X dX6_part_16 ?_
    refine aw_iadd X dX6_part_17 ?_
    refine aw_put X ob_6 fl_X6_141 (sf_6_7 ad) rfl rfl dX6_part_18 ?_
    obtain ⟨σ3, eσ3⟩ : ∃ z : Mem, z = up σ 6 0 7 0 ((σ 6 0 7 0) + 1) := ⟨_, rfl⟩
    replace h := h σ3 eσ3
    refine aw_mem eσ3 ?_
    refine aw_aload_n X dX6_part_21 rfl ?_
    refine aw_callVV X hR (s_Mo_anew l D ad tc X.2.2.2.2.2.2.1 h) ml_X6_127 ob_6 rfl (by decide) (by decide) rfl rfl rfl rfl (Nat.le_of_ble_eq_true rfl) rfl dX6_part_22 (fun σ4 h => ?_)
    refine aw_aload_n X dX6_part_25 rfl ?_
    refine aw_get X ob_6 fl_X6_141 rfl dX6_part_26 ?_
    refine aw_iconst X dX6_part_29 ?_
    refine aw_isub X dX6_part_30 ?_
    exact hret 31 _ _ _ dX6_part_31 h
  · replace h := h.2 hc
    refine aw_bipush X dX6_part_8 rfl ?_
    exact hret 10 _ _ _ dX6_part_10 h
theorem s_Mo_part (l : Launch) (D : va_G) (ad : Ky → Nat) (tc : Tc) (hi : adI ad) {σ : Mem} {Q : Int → Mem → Prop} (h : Mo_part σ Q) : CtI l D ad tc yX6_part cX6_part 1 (some .int) { frames := 1, cells := 0, slots := 0, locals := 20 } [.ref (ad (6, 0, 0))] σ Q := CtI.mk (by decide +kernel) hi (Nat.le_of_ble_eq_true rfl) rfl (fun p e s m args below meth c A Qm X hR hret => m_Mo_part_0 X hR hret h)

set_option maxHeartbeats 4000000 in
set_option maxRecDepth 100000 in
theorem m_Mo_placeOf_2 {p : Program} {l : Launch} {e : Env} {R : Room} {s : State} {m : MethodId} {args : Array Value} {below : List Frame} {meth : Method} {c : Code} {D : va_G} {ad : Ky → Nat} {tc : Tc} {A : Nat → Prop} {cs sl : Nat} {Qm : State → Prop} (X : Cx p s m args c cX6_placeOf RX6 4 D ad tc A) (hR : RmOK R cs sl 0 0) {Q : Int → Mem → Prop} (hret : RtI p l e R s m args below meth c D ad tc A cs sl Qm cX6_placeOf Q) : ∀ (n : Nat) (l1 : Int) (l2 : Int) (l3 : Int) (σ : Mem), Mo_placeOf_2 Q n l1 l2 l3 σ → AW p l e R s m args below meth c D ad tc A cs sl Qm 2 [some (.ref (ad (6, 0, 0))), some (.int (oI l1)), some (.int (oI l2)), some (.int (oI l3))] [] σ := by
  intro n
  induction n with
  | zero =>
    intro l1 l2 l3 σ h
    exact False.elim h
  | succ n ih =>
    intro l1 l2 l3 σ h
    unfold Mo_placeOf_2 at h
    refine aw_iload_n X dX6_placeOf_2 rfl ?_
    refine aw_aload_n X dX6_placeOf_3 rfl ?_
    refine aw_get X ob_6 fl_X6_30 rfl dX6_placeOf_4 ?_
    refine aw_iload_n X dX6_placeOf_7 rfl ?_
    obtain ⟨g1a, g1b, h⟩ := h
    refine aw_iald X ar_6_8 g1a g1b dX6_placeOf_8 ?_
    obtain ⟨g2, h⟩ := h
    obtain ⟨g3, h⟩ := h
    refine aw_icmp_ge X dX6_placeOf_9 (tgt := 34) (by decide) g2 g3 (fun hc => ?_) (fun hc => ?_)
    · replace h := h.1 hc
      refine aw_iconst X dX6_placeOf_34 ?_
      exact hret 35 _ _ _ dX6_placeOf_35 h
    · replace h := h.2 hc
      refine aw_aload_n X dX6_placeOf_12 rfl ?_
      refine aw_get X ob_6 fl_X6_33 rfl dX6_placeOf_13 ?_
      refine aw_iconst X dX6_placeOf_16 ?_
      refine aw_iload_n X dX6_placeOf_17 rfl ?_
      refine aw_imul X dX6_placeOf_18 ?_
      refine aw_iload_n X dX6_placeOf_19 rfl ?_
      refine aw_iadd X dX6_placeOf_20 ?_
      obtain ⟨g4a, g4b, h⟩ := h
      refine aw_iald X ar_6_9 g4a g4b dX6_placeOf_21 ?_
      refine aw_iload_n X dX6_placeOf_22 rfl ?_
      obtain ⟨g5, h⟩ := h
      obtain ⟨g6, h⟩ := h
      refine aw_icmp_ne X dX6_placeOf_23 (tgt := 28) (by decide) g5 g6 (fun hc => ?_) (fun hc => ?_)
      · replace h := h.1 hc
        refine aw_iinc X dX6_placeOf_28 rfl rfl ?_
        obtain ⟨x7, ex7⟩ : ∃ z : Int, z = (l3 + 1) := ⟨_, rfl⟩
        replace h := h x7 ex7
        refine aw_als (als' := [some (.ref (ad (6, 0, 0))), some (.int (oI l1)), some (.int (oI l2)), some (.int (oI x7))]) (by subst ex7; rfl) ?_
        refine aw_goto X dX6_placeOf_31 (tgt := 2) (by decide) ?_
        refine aw_weak (als' := [some (.ref (ad (6, 0, 0))), some (.int (oI l1)), some (.int (oI l2)), some (.int (oI x7))]) ⟨rfl, rfl, rfl, rfl, trivial⟩ ?_
        exact ih _ _ _ _ h
      · replace h := h.2 hc
        refine aw_iload_n X dX6_placeOf_26 rfl ?_
        exact hret 27 _ _ _ dX6_placeOf_27 h

set_option maxHeartbeats 4000000 in
set_option maxRecDepth 100000 in
theorem m_Mo_placeOf_0 {p : Program} {l : Launch} {e : Env} {R : Room} {s : State} {m : MethodId} {args : Array Value} {below : List Frame} {meth : Method} {c : Code} {D : va_G} {ad : Ky → Nat} {tc : Tc} {A : Nat → Prop} {cs sl : Nat} {Qm : State → Prop} (X : Cx p s m args c cX6_placeOf RX6 4 D ad tc A) (hR : RmOK R cs sl 0 0) {Q : Int → Mem → Prop} (hret : RtI p l e R s m args below meth c D ad tc A cs sl Qm cX6_placeOf Q) {l1 : Int} {l2 : Int} {σ : Mem} (h : Mo_placeOf l1 l2 σ Q) : AW p l e R s m args below meth c D ad tc A cs sl Qm 0 [some (.ref (ad (6, 0, 0))), some (.int (oI l1)), some (.int (oI l2)), none] [] σ := by
  unfold Mo_placeOf at h
  refine aw_iconst X dX6_placeOf_0 ?_
  refine aw_istore_n X dX6_placeOf_1 (Nat.le_of_ble_eq_true rfl) rfl ?_
  refine aw_als (als' := [some (.ref (ad (6, 0, 0))), some (.int (oI l1)), some (.int (oI l2)), some (.int (oI 0))]) rfl ?_
  refine aw_weak (als' := [some (.ref (ad (6, 0, 0))), some (.int (oI l1)), some (.int (oI l2)), some (.int (oI 0))]) ⟨rfl, rfl, rfl, rfl, trivial⟩ ?_
  obtain ⟨n0, h⟩ := h
  exact m_Mo_placeOf_2 X hR hret n0 _ _ _ _ h
theorem s_Mo_placeOf (l : Launch) (D : va_G) (ad : Ky → Nat) (tc : Tc) (hi : adI ad) {l1 : Int} {l2 : Int} {σ : Mem} {Q : Int → Mem → Prop} (h : Mo_placeOf l1 l2 σ Q) : CtI l D ad tc yX6_placeOf cX6_placeOf 4 (some .int) { frames := 0, cells := 0, slots := 0, locals := 0 } [.ref (ad (6, 0, 0)), .int (oI l1), .int (oI l2)] σ Q := CtI.mk (by decide +kernel) hi (Nat.le_of_ble_eq_true rfl) rfl (fun p e s m args below meth c A Qm X hR hret => m_Mo_placeOf_0 X hR hret h)

set_option maxHeartbeats 4000000 in
set_option maxRecDepth 100000 in
theorem m_Mo_join_104 {p : Program} {l : Launch} {e : Env} {R : Room} {s : State} {m : MethodId} {args : Array Value} {below : List Frame} {meth : Method} {c : Code} {D : va_G} {ad : Ky → Nat} {tc : Tc} {A : Nat → Prop} {cs sl : Nat} {Qm : State → Prop} (X : Cx p s m args c cX6_join RX6 4 D ad tc A) (hR : RmOK R cs sl 2 44) {Q : Int → Mem → Prop} (hret : RtI p l e R s m args below meth c D ad tc A cs sl Qm cX6_join Q) {l1 : Int} {l2 : Int} {l3 : Int} {σ : Mem} (h : Mo_join_104 Q l1 l2 l3 σ) : AW p l e R s m args below meth c D ad tc A cs sl Qm 104 [some (.ref (ad (6, 0, 0))), some (.int (oI l1)), some (.int (oI l2)), some (.int (oI l3))] [] σ := by
  unfold Mo_join_104 at h
  refine aw_aload_n X dX6_join_104 rfl ?_
  refine aw_get X ob_6 fl_X6_33 rfl dX6_join_105 ?_
  refine aw_iconst X dX6_join_108 ?_
  refine aw_iload_n X dX6_join_109 rfl ?_
  refine aw_imul X dX6_join_110 ?_
  refine aw_iload_n X dX6_join_111 rfl ?_
  refine aw_iadd X dX6_join_112 ?_
  refine aw_iload_n X dX6_join_113 rfl ?_
  obtain ⟨g1a, g1b, h⟩ := h
  refine aw_iast X ar_6_9 g1a g1b dX6_join_114 ?_
  obtain ⟨σ1, eσ1⟩ : ∃ z : Mem, z = up σ 6 0 9 ((3 * l1) + l3) l2 := ⟨_, rfl⟩
  replace h := h σ1 eσ1
  refine aw_mem eσ1 ?_
  refine aw_aload_n X dX6_join_115 rfl ?_
  refine aw_get X ob_6 fl_X6_30 rfl dX6_join_116 ?_
  refine aw_iload_n X dX6_join_119 rfl ?_
  refine aw_dup2 X dX6_join_120 rfl rfl ?_
  obtain ⟨g2a, g2b, h⟩ := h
  refine aw_iald X ar_6_8 g2a g2b dX6_join_121 ?_
  refine aw_iconst X dX6_join_122 ?_
  refine aw_iadd X dX6_join_123 ?_
  obtain ⟨g3a, g3b, h⟩ := h
  refine aw_iast X ar_6_8 g3a g3b dX6_join_124 ?_
  obtain ⟨σ3, eσ3⟩ : ∃ z : Mem, z = up σ1 6 0 8 l1 ((σ1 6 0 8 l1) + 1) := ⟨_, rfl⟩
  replace h := h σ3 eσ3
  refine aw_mem eσ3 ?_
  refine aw_aload_n X dX6_join_125 rfl ?_
  refine aw_iload_n X dX6_join_126 rfl ?_
  refine aw_callVV X hR (s_Mo_without l D ad tc X.2.2.2.2.2.2.1 h) ml_X6_155 ob_6 rfl (by decide) (by decide) rfl rfl rfl rfl (Nat.le_of_ble_eq_true rfl) rfl dX6_join_127 (fun σ4 h => ?_)
  refine aw_aload_n X dX6_join_130 rfl ?_
  refine aw_get X ob_6 fl_X6_30 rfl dX6_join_131 ?_
  refine aw_iload_n X dX6_join_134 rfl ?_
  obtain ⟨g5a, g5b, h⟩ := h
  refine aw_iald X ar_6_8 g5a g5b dX6_join_135 ?_
  exact hret 136 _ _ _ dX6_join_136 h

set_option maxHeartbeats 4000000 in
set_option maxRecDepth 100000 in
theorem m_Mo_join_56 {p : Program} {l : Launch} {e : Env} {R : Room} {s : State} {m : MethodId} {args : Array Value} {below : List Frame} {meth : Method} {c : Code} {D : va_G} {ad : Ky → Nat} {tc : Tc} {A : Nat → Prop} {cs sl : Nat} {Qm : State → Prop} (X : Cx p s m args c cX6_join RX6 4 D ad tc A) (hR : RmOK R cs sl 2 44) {Q : Int → Mem → Prop} (hret : RtI p l e R s m args below meth c D ad tc A cs sl Qm cX6_join Q) : ∀ (n : Nat) (l1 : Int) (l2 : Int) (l3 : Int) (σ : Mem), Mo_join_56 Q n l1 l2 l3 σ → AW p l e R s m args below meth c D ad tc A cs sl Qm 56 [some (.ref (ad (6, 0, 0))), some (.int (oI l1)), some (.int (oI l2)), some (.int (oI l3))] [] σ := by
  intro n
  induction n with
  | zero =>
    intro l1 l2 l3 σ h
    exact False.elim h
  | succ n ih =>
    intro l1 l2 l3 σ h
    unfold Mo_join_56 at h
    refine aw_iload_n X dX6_join_56 rfl ?_
    obtain ⟨g1, h⟩ := h
    refine aw_if_le X dX6_join_57 (tgt := 104) (by decide) g1 (fun hc => ?_) (fun hc => ?_)
    · replace h := h.1 hc
      refine aw_weak (als' := [some (.ref (ad (6, 0, 0))), some (.int (oI l1)), some (.int (oI l2)), some (.int (oI l3))]) ⟨rfl, rfl, rfl, rfl, trivial⟩ ?_
      exact m_Mo_join_104 X hR hret h
    · replace h := h.2 hc
      refine aw_aload_n X dX6_join_60 rfl ?_
      refine aw_get X ob_6 fl_X6_33 rfl dX6_join_61 ?_
      refine aw_iconst X dX6_join_64 ?_
      refine aw_iload_n X dX6_join_65 rfl ?_
      refine aw_imul X dX6_join_66 ?_
      refine aw_iload_n X dX6_join_67 rfl ?_
      refine aw_iadd X dX6_join_68 ?_
      refine aw_iconst X dX6_join_69 ?_
      refine aw_isub X dX6_join_70 ?_
      obtain ⟨g2a, g2b, h⟩ := h
      refine aw_iald X ar_6_9 g2a g2b dX6_join_71 ?_
      refine aw_iload_n X dX6_join_72 rfl ?_
      obtain ⟨g3, h⟩ := h
      obtain ⟨g4, h⟩ := h
      refine aw_icmp_le X dX6_join_73 (tgt := 104) (by decide) g3 g4 (fun hc => ?_) (fun hc => ?_)
      · replace h := h.1 hc
        refine aw_weak (als' := [some (.ref (ad (6, 0, 0))), some (.int (oI l1)), some (.int (oI l2)), some (.int (oI l3))]) ⟨rfl, rfl, rfl, rfl, trivial⟩ ?_
        exact m_Mo_join_104 X hR hret h
      · replace h := h.2 hc
        refine aw_aload_n X dX6_join_76 rfl ?_
        refine aw_get X ob_6 fl_X6_33 rfl dX6_join_77 ?_
        refine aw_iconst X dX6_join_80 ?_
        refine aw_iload_n X dX6_join_81 rfl ?_
        refine aw_imul X dX6_join_82 ?_
        refine aw_iload_n X dX6_join_83 rfl ?_
        refine aw_iadd X dX6_join_84 ?_
        refine aw_aload_n X dX6_join_85 rfl ?_
        refine aw_get X ob_6 fl_X6_33 rfl dX6_join_86 ?_
        refine aw_iconst X dX6_join_89 ?_
        refine aw_iload_n X dX6_join_90 rfl ?_
        refine aw_imul X dX6_join_91 ?_
        refine aw_iload_n X dX6_join_92 rfl ?_
        refine aw_iadd X dX6_join_93 ?_
        refine aw_iconst X dX6_join_94 ?_
        refine aw_isub X dX6_join_95 ?_
        obtain ⟨g5a, g5b, h⟩ := h
        refine aw_iald X ar_6_9 g5a g5b dX6_join_96 ?_
        obtain ⟨g6a, g6b, h⟩ := h
        refine aw_iast X ar_6_9 g6a g6b dX6_join_97 ?_
        obtain ⟨σ6, eσ6⟩ : ∃ z : Mem, z = up σ 6 0 9 ((3 * l1) + l3) (σ 6 0 9 (((3 * l1) + l3) - 1)) := ⟨_, rfl⟩
        replace h := h σ6 eσ6
        refine aw_mem eσ6 ?_
        refine aw_iinc X dX6_join_98 rfl rfl ?_
        obtain ⟨x7, ex7⟩ : ∃ z : Int, z = (l3 + (-1)) := ⟨_, rfl⟩
        replace h := h x7 ex7
        refine aw_als (als' := [some (.ref (ad (6, 0, 0))), some (.int (oI l1)), some (.int (oI l2)), some (.int (oI x7))]) (by subst ex7; rfl) ?_
        refine aw_goto X dX6_join_101 (tgt := 56) (by decide) ?_
        refine aw_weak (als' := [some (.ref (ad (6, 0, 0))), some (.int (oI l1)), some (.int (oI l2)), some (.int (oI x7))]) ⟨rfl, rfl, rfl, rfl, trivial⟩ ?_
        exact ih _ _ _ _ h

set_option maxHeartbeats 4000000 in
set_option maxRecDepth 100000 in
theorem m_Mo_join_22 {p : Program} {l : Launch} {e : Env} {R : Room} {s : State} {m : MethodId} {args : Array Value} {below : List Frame} {meth : Method} {c : Code} {D : va_G} {ad : Ky → Nat} {tc : Tc} {A : Nat → Prop} {cs sl : Nat} {Qm : State → Prop} (X : Cx p s m args c cX6_join RX6 4 D ad tc A) (hR : RmOK R cs sl 2 44) {Q : Int → Mem → Prop} (hret : RtI p l e R s m args below meth c D ad tc A cs sl Qm cX6_join Q) {σ : Mem} (h : Mo_join_22 Q σ) : AW p l e R s m args below meth c D ad tc A cs sl Qm 22 [none, none, none, none] [] σ := by
  unfold Mo_join_22 at h
  refine aw_iconst X dX6_join_22 ?_
  exact hret 23 _ _ _ dX6_join_23 h

set_option maxHeartbeats 4000000 in
set_option maxRecDepth 100000 in
theorem m_Mo_join_0 {p : Program} {l : Launch} {e : Env} {R : Room} {s : State} {m : MethodId} {args : Array Value} {below : List Frame} {meth : Method} {c : Code} {D : va_G} {ad : Ky → Nat} {tc : Tc} {A : Nat → Prop} {cs sl : Nat} {Qm : State → Prop} (X : Cx p s m args c cX6_join RX6 4 D ad tc A) (hR : RmOK R cs sl 2 44) {Q : Int → Mem → Prop} (hret : RtI p l e R s m args below meth c D ad tc A cs sl Qm cX6_join Q) {l1 : Int} {l2 : Int} {σ : Mem} (h : Mo_join l1 l2 σ Q) : AW p l e R s m args below meth c D ad tc A cs sl Qm 0 [some (.ref (ad (6, 0, 0))), some (.int (oI l1)), some (.int (oI l2)), none] [] σ := by
  unfold Mo_join at h
  refine aw_aload_n X dX6_join_0 rfl ?_
  refine aw_iload_n X dX6_join_1 rfl ?_
  refine aw_callVI X hR (s_Mo_noPart l D ad tc X.2.2.2.2.2.2.1 h) ml_X6_148 ob_6 rfl (by decide) (by decide) rfl rfl rfl rfl (Nat.le_of_ble_eq_true rfl) rfl dX6_join_2 (fun r1 σ1 h => ?_)
  obtain ⟨g2, h⟩ := h
  refine aw_if_ne X dX6_join_5 (tgt := 22) (by decide) g2 (fun hc => ?_) (fun hc => ?_)
  · replace h := h.1 hc
    refine aw_weak (als' := [none, none, none, none]) trivial ?_
    exact m_Mo_join_22 X hR hret h
  · replace h := h.2 hc
    refine aw_iload_n X dX6_join_8 rfl ?_
    refine aw_iconst X dX6_join_9 ?_
    refine aw_aload_n X dX6_join_10 rfl ?_
    refine aw_get X ob_6 fl_X6_134 rfl dX6_join_11 ?_
    refine aw_iconst X dX6_join_14 ?_
    refine aw_isub X dX6_join_15 ?_
    refine aw_callSI X hR (s_Mo_beyond l D ad tc X.2.2.2.2.2.2.1 h) ms_X6_130 (by decide) (by decide) rfl rfl rfl rfl (Nat.le_of_ble_eq_true rfl) rfl dX6_join_16 (fun r3 σ3 h => ?_)
    obtain ⟨g4, h⟩ := h
    refine aw_if_eq X dX6_join_19 (tgt := 24) (by decide) g4 (fun hc => ?_) (fun hc => ?_)
    · replace h := h.1 hc
      refine aw_aload_n X dX6_join_24 rfl ?_
      refine aw_iload_n X dX6_join_25 rfl ?_
      refine aw_iload_n X dX6_join_26 rfl ?_
      refine aw_callVI X hR (s_Mo_placeOf l D ad tc X.2.2.2.2.2.2.1 h) ml_X6_151 ob_6 rfl (by decide) (by decide) rfl rfl rfl rfl (Nat.le_of_ble_eq_true rfl) rfl dX6_join_27 (fun r5 σ5 h => ?_)
      obtain ⟨g6, h⟩ := h
      refine aw_if_lt X dX6_join_30 (tgt := 36) (by decide) g6 (fun hc => ?_) (fun hc => ?_)
      · replace h := h.1 hc
        refine aw_aload_n X dX6_join_36 rfl ?_
        refine aw_get X ob_6 fl_X6_30 rfl dX6_join_37 ?_
        refine aw_iload_n X dX6_join_40 rfl ?_
        obtain ⟨g7a, g7b, h⟩ := h
        refine aw_iald X ar_6_8 g7a g7b dX6_join_41 ?_
        refine aw_iconst X dX6_join_42 ?_
        obtain ⟨g8, h⟩ := h
        refine aw_icmp_ne X dX6_join_43 (tgt := 49) (by decide) g8 ⟨by decide, by decide⟩ (fun hc => ?_) (fun hc => ?_)
        · replace h := h.1 hc
          refine aw_aload_n X dX6_join_49 rfl ?_
          refine aw_get X ob_6 fl_X6_30 rfl dX6_join_50 ?_
          refine aw_iload_n X dX6_join_53 rfl ?_
          obtain ⟨g10a, g10b, h⟩ := h
          refine aw_iald X ar_6_8 g10a g10b dX6_join_54 ?_
          refine aw_istore_n X dX6_join_55 (Nat.le_of_ble_eq_true rfl) rfl ?_
          obtain ⟨x11, ex11⟩ : ∃ z : Int, z = (σ5 6 0 8 l1) := ⟨_, rfl⟩
          replace h := h x11 ex11
          refine aw_als (als' := [some (.ref (ad (6, 0, 0))), some (.int (oI l1)), some (.int (oI l2)), some (.int (oI x11))]) (by subst ex11; rfl) ?_
          refine aw_weak (als' := [some (.ref (ad (6, 0, 0))), some (.int (oI l1)), some (.int (oI l2)), some (.int (oI x11))]) ⟨rfl, rfl, rfl, rfl, trivial⟩ ?_
          obtain ⟨n0, h⟩ := h
          exact m_Mo_join_56 X hR hret n0 _ _ _ _ h
        · replace h := h.2 hc
          refine aw_bipush X dX6_join_46 rfl ?_
          exact hret 48 _ _ _ dX6_join_48 h
      · replace h := h.2 hc
        refine aw_bipush X dX6_join_33 rfl ?_
        exact hret 35 _ _ _ dX6_join_35 h
    · replace h := h.2 hc
      refine aw_weak (als' := [none, none, none, none]) trivial ?_
      exact m_Mo_join_22 X hR hret h
theorem s_Mo_join (l : Launch) (D : va_G) (ad : Ky → Nat) (tc : Tc) (hi : adI ad) {l1 : Int} {l2 : Int} {σ : Mem} {Q : Int → Mem → Prop} (h : Mo_join l1 l2 σ Q) : CtI l D ad tc yX6_join cX6_join 4 (some .int) { frames := 2, cells := 0, slots := 0, locals := 44 } [.ref (ad (6, 0, 0)), .int (oI l1), .int (oI l2)] σ Q := CtI.mk (by decide +kernel) hi (Nat.le_of_ble_eq_true rfl) rfl (fun p e s m args below meth c A Qm X hR hret => m_Mo_join_0 X hR hret h)

set_option maxHeartbeats 4000000 in
set_option maxRecDepth 100000 in
theorem m_Mo_local_29 {p : Program} {l : Launch} {e : Env} {R : Room} {s : State} {m : MethodId} {args : Array Value} {below : List Frame} {meth : Method} {c : Code} {D : va_G} {ad : Ky → Nat} {tc : Tc} {A : Nat → Prop} {cs sl : Nat} {Qm : State → Prop} (X : Cx p s m args c cX6_local RX6 4 D ad tc A) (hR : RmOK R cs sl 2 44) {Q : Int → Mem → Prop} (hret : RtI p l e R s m args below meth c D ad tc A cs sl Qm cX6_local Q) {σ : Mem} (h : Mo_local_29 Q σ) : AW p l e R s m args below meth c D ad tc A cs sl Qm 29 [none, none, none, none] [] σ := by
  unfold Mo_local_29 at h
  refine aw_bipush X dX6_local_29 rfl ?_
  exact hret 31 _ _ _ dX6_local_31 h

set_option maxHeartbeats 4000000 in
set_option maxRecDepth 100000 in
theorem m_Mo_local_0 {p : Program} {l : Launch} {e : Env} {R : Room} {s : State} {m : MethodId} {args : Array Value} {below : List Frame} {meth : Method} {c : Code} {D : va_G} {ad : Ky → Nat} {tc : Tc} {A : Nat → Prop} {cs sl : Nat} {Qm : State → Prop} (X : Cx p s m args c cX6_local RX6 4 D ad tc A) (hR : RmOK R cs sl 2 44) {Q : Int → Mem → Prop} (hret : RtI p l e R s m args below meth c D ad tc A cs sl Qm cX6_local Q) {l1 : Int} {l2 : Int} {l3 : Int} {σ : Mem} (h : Mo_local l1 l2 l3 σ Q) : AW p l e R s m args below meth c D ad tc A cs sl Qm 0 [some (.ref (ad (6, 0, 0))), some (.int (oI l1)), some (.int (oI l2)), some (.int (oI l3))] [] σ := by
  unfold Mo_local at h
  refine aw_aload_n X dX6_local_0 rfl ?_
  refine aw_iload_n X dX6_local_1 rfl ?_
  refine aw_callVI X hR (s_Mo_noPart l D ad tc X.2.2.2.2.2.2.1 h) ml_X6_148 ob_6 rfl (by decide) (by decide) rfl rfl rfl rfl (Nat.le_of_ble_eq_true rfl) rfl dX6_local_2 (fun r1 σ1 h => ?_)
  obtain ⟨g2, h⟩ := h
  refine aw_if_eq X dX6_local_5 (tgt := 10) (by decide) g2 (fun hc => ?_) (fun hc => ?_)
  · replace h := h.1 hc
    refine aw_iload_n X dX6_local_10 rfl ?_
    refine aw_iconst X dX6_local_11 ?_
    refine aw_iconst X dX6_local_12 ?_
    refine aw_callSI X hR (s_Mo_beyond l D ad tc X.2.2.2.2.2.2.1 h) ms_X6_130 (by decide) (by decide) rfl rfl rfl rfl (Nat.le_of_ble_eq_true rfl) rfl dX6_local_13 (fun r3 σ3 h => ?_)
    obtain ⟨g4, h⟩ := h
    refine aw_if_ne X dX6_local_16 (tgt := 29) (by decide) g4 (fun hc => ?_) (fun hc => ?_)
    · replace h := h.1 hc
      refine aw_weak (als' := [none, none, none, none]) trivial ?_
      exact m_Mo_local_29 X hR hret h
    · replace h := h.2 hc
      refine aw_iload_n X dX6_local_19 rfl ?_
      refine aw_iconst X dX6_local_20 ?_
      refine aw_bipush X dX6_local_21 rfl ?_
      refine aw_callSI X hR (s_Mo_beyond l D ad tc X.2.2.2.2.2.2.1 h) ms_X6_130 (by decide) (by decide) rfl rfl rfl rfl (Nat.le_of_ble_eq_true rfl) rfl dX6_local_23 (fun r5 σ5 h => ?_)
      obtain ⟨g6, h⟩ := h
      refine aw_if_eq X dX6_local_26 (tgt := 32) (by decide) g6 (fun hc => ?_) (fun hc => ?_)
      · replace h := h.1 hc
        refine aw_aload_n X dX6_local_32 rfl ?_
        refine aw_get X ob_6 fl_X6_36 rfl dX6_local_33 ?_
        refine aw_iload_n X dX6_local_36 rfl ?_
        obtain ⟨g7a, g7b, h⟩ := h
        refine aw_iald X ar_6_10 g7a g7b dX6_local_37 ?_
        refine aw_iconst X dX6_local_38 ?_
        obtain ⟨g8, h⟩ := h
        refine aw_icmp_ne X dX6_local_39 (tgt := 45) (by decide) g8 ⟨by decide, by decide⟩ (fun hc => ?_) (fun hc => ?_)
        · replace h := h.1 hc
          refine aw_aload_n X dX6_local_45 rfl ?_
          refine aw_get X ob_6 fl_X6_39 rfl dX6_local_46 ?_
          refine aw_iconst X dX6_local_49 ?_
          refine aw_iload_n X dX6_local_50 rfl ?_
          refine aw_imul X dX6_local_51 ?_
          refine aw_aload_n X dX6_local_52 rfl ?_
          refine aw_get X ob_6 fl_X6_36 rfl dX6_local_53 ?_
          refine aw_iload_n X dX6_local_56 rfl ?_
          obtain ⟨g10a, g10b, h⟩ := h
          refine aw_iald X ar_6_10 g10a g10b dX6_local_57 ?_
          refine aw_iadd X dX6_local_58 ?_
          refine aw_iload_n X dX6_local_59 rfl ?_
          obtain ⟨g11a, g11b, h⟩ := h
          refine aw_iast X ar_6_11 g11a g11b dX6_local_60 ?_
          obtain ⟨σ11, eσ11⟩ : ∃ z : Mem, z = up σ5 6 0 11 ((4 * l1) + (σ5 6 0 10 l1)) l2 := ⟨_, rfl⟩
          replace h := h σ11 eσ11
          refine aw_mem eσ11 ?_
          refine aw_aload_n X dX6_local_61 rfl ?_
          refine aw_get X ob_6 fl_X6_42 rfl dX6_local_62 ?_
          refine aw_iconst X dX6_local_65 ?_
          refine aw_iload_n X dX6_local_66 rfl ?_
          refine aw_imul X dX6_local_67 ?_
          refine aw_aload_n X dX6_local_68 rfl ?_
          refine aw_get X ob_6 fl_X6_36 rfl dX6_local_69 ?_
          refine aw_iload_n X dX6_local_72 rfl ?_
          obtain ⟨g12a, g12b, h⟩ := h
          refine aw_iald X ar_6_10 g12a g12b dX6_local_73 ?_
          refine aw_iadd X dX6_local_74 ?_
          refine aw_iload_n X dX6_local_75 rfl ?_
          obtain ⟨g13a, g13b, h⟩ := h
          refine aw_iast X ar_6_12 g13a g13b dX6_local_76 ?_
          obtain ⟨σ13, eσ13⟩ : ∃ z : Mem, z = up σ11 6 0 12 ((4 * l1) + (σ11 6 0 10 l1)) l3 := ⟨_, rfl⟩
          replace h := h σ13 eσ13
          refine aw_mem eσ13 ?_
          refine aw_aload_n X dX6_local_77 rfl ?_
          refine aw_get X ob_6 fl_X6_36 rfl dX6_local_78 ?_
          refine aw_iload_n X dX6_local_81 rfl ?_
          refine aw_dup2 X dX6_local_82 rfl rfl ?_
          obtain ⟨g14a, g14b, h⟩ := h
          refine aw_iald X ar_6_10 g14a g14b dX6_local_83 ?_
          refine aw_iconst X dX6_local_84 ?_
          refine aw_iadd X dX6_local_85 ?_
          obtain ⟨g15a, g15b, h⟩ := h
          refine aw_iast X ar_6_10 g15a g15b dX6_local_86 ?_
          obtain ⟨σ15, eσ15⟩ : ∃ z : Mem, z = up σ13 6 0 10 l1 ((σ13 6 0 10 l1) + 1) := ⟨_, rfl⟩
          replace h := h σ15 eσ15
          refine aw_mem eσ15 ?_
          refine aw_aload_n X dX6_local_87 rfl ?_
          refine aw_iload_n X dX6_local_88 rfl ?_
          refine aw_callVV X hR (s_Mo_without l D ad tc X.2.2.2.2.2.2.1 h) ml_X6_155 ob_6 rfl (by decide) (by decide) rfl rfl rfl rfl (Nat.le_of_ble_eq_true rfl) rfl dX6_local_89 (fun σ16 h => ?_)
          refine aw_aload_n X dX6_local_92 rfl ?_
          refine aw_get X ob_6 fl_X6_36 rfl dX6_local_93 ?_
          refine aw_iload_n X dX6_local_96 rfl ?_
          obtain ⟨g17a, g17b, h⟩ := h
          refine aw_iald X ar_6_10 g17a g17b dX6_local_97 ?_
          refine aw_iconst X dX6_local_98 ?_
          refine aw_isub X dX6_local_99 ?_
          exact hret 100 _ _ _ dX6_local_100 h
        · replace h := h.2 hc
          refine aw_bipush X dX6_local_42 rfl ?_
          exact hret 44 _ _ _ dX6_local_44 h
      · replace h := h.2 hc
        refine aw_weak (als' := [none, none, none, none]) trivial ?_
        exact m_Mo_local_29 X hR hret h
  · replace h := h.2 hc
    refine aw_iconst X dX6_local_8 ?_
    exact hret 9 _ _ _ dX6_local_9 h
theorem s_Mo_local (l : Launch) (D : va_G) (ad : Ky → Nat) (tc : Tc) (hi : adI ad) {l1 : Int} {l2 : Int} {l3 : Int} {σ : Mem} {Q : Int → Mem → Prop} (h : Mo_local l1 l2 l3 σ Q) : CtI l D ad tc yX6_local cX6_local 4 (some .int) { frames := 2, cells := 0, slots := 0, locals := 44 } [.ref (ad (6, 0, 0)), .int (oI l1), .int (oI l2), .int (oI l3)] σ Q := CtI.mk (by decide +kernel) hi (Nat.le_of_ble_eq_true rfl) rfl (fun p e s m args below meth c A Qm X hR hret => m_Mo_local_0 X hR hret h)

set_option maxHeartbeats 4000000 in
set_option maxRecDepth 100000 in
theorem m_Mo_row_0 {p : Program} {l : Launch} {e : Env} {R : Room} {s : State} {m : MethodId} {args : Array Value} {below : List Frame} {meth : Method} {c : Code} {D : va_G} {ad : Ky → Nat} {tc : Tc} {A : Nat → Prop} {cs sl : Nat} {Qm : State → Prop} (X : Cx p s m args c cX6_row RX6 3 D ad tc A) (hR : RmOK R cs sl 2 44) {Q : Int → Mem → Prop} (hret : RtI p l e R s m args below meth c D ad tc A cs sl Qm cX6_row Q) {l1 : Int} {l2 : Int} {σ : Mem} (h : Mo_row l1 l2 σ Q) : AW p l e R s m args below meth c D ad tc A cs sl Qm 0 [some (.ref (ad (6, 0, 0))), some (.int (oI l1)), some (.int (oI l2))] [] σ := by
  unfold Mo_row at h
  refine aw_aload_n X dX6_row_0 rfl ?_
  refine aw_iload_n X dX6_row_1 rfl ?_
  refine aw_callVI X hR (s_Mo_noPart l D ad tc X.2.2.2.2.2.2.1 h) ml_X6_148 ob_6 rfl (by decide) (by decide) rfl rfl rfl rfl (Nat.le_of_ble_eq_true rfl) rfl dX6_row_2 (fun r1 σ1 h => ?_)
  obtain ⟨g2, h⟩ := h
  refine aw_if_eq X dX6_row_5 (tgt := 10) (by decide) g2 (fun hc => ?_) (fun hc => ?_)
  · replace h := h.1 hc
    refine aw_iload_n X dX6_row_10 rfl ?_
    refine aw_bipush X dX6_row_11 rfl ?_
    refine aw_bipush X dX6_row_13 rfl ?_
    refine aw_callSI X hR (s_Mo_beyond l D ad tc X.2.2.2.2.2.2.1 h) ms_X6_130 (by decide) (by decide) rfl rfl rfl rfl (Nat.le_of_ble_eq_true rfl) rfl dX6_row_15 (fun r3 σ3 h => ?_)
    obtain ⟨g4, h⟩ := h
    refine aw_if_eq X dX6_row_18 (tgt := 24) (by decide) g4 (fun hc => ?_) (fun hc => ?_)
    · replace h := h.1 hc
      refine aw_aload_n X dX6_row_24 rfl ?_
      refine aw_get X ob_6 fl_X6_45 rfl dX6_row_25 ?_
      refine aw_iload_n X dX6_row_28 rfl ?_
      obtain ⟨g5a, g5b, h⟩ := h
      refine aw_iald X ar_6_13 g5a g5b dX6_row_29 ?_
      refine aw_bipush X dX6_row_30 rfl ?_
      obtain ⟨g6, h⟩ := h
      refine aw_icmp_ne X dX6_row_32 (tgt := 38) (by decide) g6 ⟨by decide, by decide⟩ (fun hc => ?_) (fun hc => ?_)
      · replace h := h.1 hc
        refine aw_aload_n X dX6_row_38 rfl ?_
        refine aw_get X ob_6 fl_X6_48 rfl dX6_row_39 ?_
        refine aw_bipush X dX6_row_42 rfl ?_
        refine aw_iload_n X dX6_row_44 rfl ?_
        refine aw_imul X dX6_row_45 ?_
        refine aw_aload_n X dX6_row_46 rfl ?_
        refine aw_get X ob_6 fl_X6_45 rfl dX6_row_47 ?_
        refine aw_iload_n X dX6_row_50 rfl ?_
        obtain ⟨g8a, g8b, h⟩ := h
        refine aw_iald X ar_6_13 g8a g8b dX6_row_51 ?_
        refine aw_iadd X dX6_row_52 ?_
        refine aw_iload_n X dX6_row_53 rfl ?_
        obtain ⟨g9a, g9b, h⟩ := h
        refine aw_iast X ar_6_14 g9a g9b dX6_row_54 ?_
        obtain ⟨σ9, eσ9⟩ : ∃ z : Mem, z = up σ3 6 0 14 ((6 * l1) + (σ3 6 0 13 l1)) l2 := ⟨_, rfl⟩
        replace h := h σ9 eσ9
        refine aw_mem eσ9 ?_
        refine aw_aload_n X dX6_row_55 rfl ?_
        refine aw_get X ob_6 fl_X6_45 rfl dX6_row_56 ?_
        refine aw_iload_n X dX6_row_59 rfl ?_
        refine aw_dup2 X dX6_row_60 rfl rfl ?_
        obtain ⟨g10a, g10b, h⟩ := h
        refine aw_iald X ar_6_13 g10a g10b dX6_row_61 ?_
        refine aw_iconst X dX6_row_62 ?_
        refine aw_iadd X dX6_row_63 ?_
        obtain ⟨g11a, g11b, h⟩ := h
        refine aw_iast X ar_6_13 g11a g11b dX6_row_64 ?_
        obtain ⟨σ11, eσ11⟩ : ∃ z : Mem, z = up σ9 6 0 13 l1 ((σ9 6 0 13 l1) + 1) := ⟨_, rfl⟩
        replace h := h σ11 eσ11
        refine aw_mem eσ11 ?_
        refine aw_aload_n X dX6_row_65 rfl ?_
        refine aw_iload_n X dX6_row_66 rfl ?_
        refine aw_callVV X hR (s_Mo_without l D ad tc X.2.2.2.2.2.2.1 h) ml_X6_155 ob_6 rfl (by decide) (by decide) rfl rfl rfl rfl (Nat.le_of_ble_eq_true rfl) rfl dX6_row_67 (fun σ12 h => ?_)
        refine aw_aload_n X dX6_row_70 rfl ?_
        refine aw_get X ob_6 fl_X6_45 rfl dX6_row_71 ?_
        refine aw_iload_n X dX6_row_74 rfl ?_
        obtain ⟨g13a, g13b, h⟩ := h
        refine aw_iald X ar_6_13 g13a g13b dX6_row_75 ?_
        refine aw_iconst X dX6_row_76 ?_
        refine aw_isub X dX6_row_77 ?_
        exact hret 78 _ _ _ dX6_row_78 h
      · replace h := h.2 hc
        refine aw_bipush X dX6_row_35 rfl ?_
        exact hret 37 _ _ _ dX6_row_37 h
    · replace h := h.2 hc
      refine aw_bipush X dX6_row_21 rfl ?_
      exact hret 23 _ _ _ dX6_row_23 h
  · replace h := h.2 hc
    refine aw_iconst X dX6_row_8 ?_
    exact hret 9 _ _ _ dX6_row_9 h
theorem s_Mo_row (l : Launch) (D : va_G) (ad : Ky → Nat) (tc : Tc) (hi : adI ad) {l1 : Int} {l2 : Int} {σ : Mem} {Q : Int → Mem → Prop} (h : Mo_row l1 l2 σ Q) : CtI l D ad tc yX6_row cX6_row 3 (some .int) { frames := 2, cells := 0, slots := 0, locals := 44 } [.ref (ad (6, 0, 0)), .int (oI l1), .int (oI l2)] σ Q := CtI.mk (by decide +kernel) hi (Nat.le_of_ble_eq_true rfl) rfl (fun p e s m args below meth c A Qm X hR hret => m_Mo_row_0 X hR hret h)

set_option maxHeartbeats 4000000 in
set_option maxRecDepth 100000 in
theorem m_Mo_noRow_29 {p : Program} {l : Launch} {e : Env} {R : Room} {s : State} {m : MethodId} {args : Array Value} {below : List Frame} {meth : Method} {c : Code} {D : va_G} {ad : Ky → Nat} {tc : Tc} {A : Nat → Prop} {cs sl : Nat} {Qm : State → Prop} (X : Cx p s m args c cX6_noRow RX6 3 D ad tc A) (hR : RmOK R cs sl 2 43) {Q : Int → Mem → Prop} (hret : RtZ p l e R s m args below meth c D ad tc A cs sl Qm cX6_noRow Q) {s0 : Int} {σ : Mem} (h : Mo_noRow_29 Q s0 σ) : AW p l e R s m args below meth c D ad tc A cs sl Qm 29 [none, none, none] [.int (oI s0)] σ := by
  unfold Mo_noRow_29 at h
  exact hret 29 _ _ _ dX6_noRow_29 h.1 h.2

set_option maxHeartbeats 4000000 in
set_option maxRecDepth 100000 in
theorem m_Mo_noRow_24 {p : Program} {l : Launch} {e : Env} {R : Room} {s : State} {m : MethodId} {args : Array Value} {below : List Frame} {meth : Method} {c : Code} {D : va_G} {ad : Ky → Nat} {tc : Tc} {A : Nat → Prop} {cs sl : Nat} {Qm : State → Prop} (X : Cx p s m args c cX6_noRow RX6 3 D ad tc A) (hR : RmOK R cs sl 2 43) {Q : Int → Mem → Prop} (hret : RtZ p l e R s m args below meth c D ad tc A cs sl Qm cX6_noRow Q) {σ : Mem} (h : Mo_noRow_24 Q σ) : AW p l e R s m args below meth c D ad tc A cs sl Qm 24 [none, none, none] [] σ := by
  unfold Mo_noRow_24 at h
  refine aw_iconst X dX6_noRow_24 ?_
  refine aw_goto X dX6_noRow_25 (tgt := 29) (by decide) ?_
  refine aw_weak (als' := [none, none, none]) trivial ?_
  exact m_Mo_noRow_29 X hR hret h

set_option maxHeartbeats 4000000 in
set_option maxRecDepth 100000 in
theorem m_Mo_noRow_0 {p : Program} {l : Launch} {e : Env} {R : Room} {s : State} {m : MethodId} {args : Array Value} {below : List Frame} {meth : Method} {c : Code} {D : va_G} {ad : Ky → Nat} {tc : Tc} {A : Nat → Prop} {cs sl : Nat} {Qm : State → Prop} (X : Cx p s m args c cX6_noRow RX6 3 D ad tc A) (hR : RmOK R cs sl 2 43) {Q : Int → Mem → Prop} (hret : RtZ p l e R s m args below meth c D ad tc A cs sl Qm cX6_noRow Q) {l1 : Int} {l2 : Int} {σ : Mem} (h : Mo_noRow l1 l2 σ Q) : AW p l e R s m args below meth c D ad tc A cs sl Qm 0 [some (.ref (ad (6, 0, 0))), some (.int (oI l1)), some (.int (oI l2))] [] σ := by
  unfold Mo_noRow at h
  refine aw_aload_n X dX6_noRow_0 rfl ?_
  refine aw_iload_n X dX6_noRow_1 rfl ?_
  refine aw_callVI X hR (s_Mo_noPart l D ad tc X.2.2.2.2.2.2.1 h) ml_X6_148 ob_6 rfl (by decide) (by decide) rfl rfl rfl rfl (Nat.le_of_ble_eq_true rfl) rfl dX6_noRow_2 (fun r1 σ1 h => ?_)
  obtain ⟨g2, h⟩ := h
  refine aw_if_ne X dX6_noRow_5 (tgt := 24) (by decide) g2 (fun hc => ?_) (fun hc => ?_)
  · replace h := h.1 hc
    refine aw_weak (als' := [none, none, none]) trivial ?_
    exact m_Mo_noRow_24 X hR hret h
  · replace h := h.2 hc
    refine aw_iload_n X dX6_noRow_8 rfl ?_
    refine aw_iconst X dX6_noRow_9 ?_
    refine aw_aload_n X dX6_noRow_10 rfl ?_
    refine aw_get X ob_6 fl_X6_45 rfl dX6_noRow_11 ?_
    refine aw_iload_n X dX6_noRow_14 rfl ?_
    obtain ⟨g3a, g3b, h⟩ := h
    refine aw_iald X ar_6_13 g3a g3b dX6_noRow_15 ?_
    refine aw_iconst X dX6_noRow_16 ?_
    refine aw_isub X dX6_noRow_17 ?_
    refine aw_callSI X hR (s_Mo_beyond l D ad tc X.2.2.2.2.2.2.1 h) ms_X6_130 (by decide) (by decide) rfl rfl rfl rfl (Nat.le_of_ble_eq_true rfl) rfl dX6_noRow_18 (fun r4 σ4 h => ?_)
    obtain ⟨g5, h⟩ := h
    refine aw_if_eq X dX6_noRow_21 (tgt := 28) (by decide) g5 (fun hc => ?_) (fun hc => ?_)
    · replace h := h.1 hc
      refine aw_iconst X dX6_noRow_28 ?_
      refine aw_weak (als' := [none, none, none]) trivial ?_
      exact m_Mo_noRow_29 X hR hret h
    · replace h := h.2 hc
      refine aw_weak (als' := [none, none, none]) trivial ?_
      exact m_Mo_noRow_24 X hR hret h
theorem s_Mo_noRow (l : Launch) (D : va_G) (ad : Ky → Nat) (tc : Tc) (hi : adI ad) {l1 : Int} {l2 : Int} {σ : Mem} {Q : Int → Mem → Prop} (h : Mo_noRow l1 l2 σ Q) : CtI l D ad tc yX6_noRow cX6_noRow 3 (some .boolean) { frames := 2, cells := 0, slots := 0, locals := 43 } [.ref (ad (6, 0, 0)), .int (oI l1), .int (oI l2)] σ Q := CtI.mkz (by decide +kernel) hi (Nat.le_of_ble_eq_true rfl) rfl (fun p e s m args below meth c A Qm X hR hret => m_Mo_noRow_0 X hR hret h)

set_option maxHeartbeats 4000000 in
set_option maxRecDepth 100000 in
theorem m_Mo_weigh_132 {p : Program} {l : Launch} {e : Env} {R : Room} {s : State} {m : MethodId} {args : Array Value} {below : List Frame} {meth : Method} {c : Code} {D : va_G} {ad : Ky → Nat} {tc : Tc} {A : Nat → Prop} {cs sl : Nat} {Qm : State → Prop} (X : Cx p s m args c cX6_weigh RX6 8 D ad tc A) (hR : RmOK R cs sl 3 65) {Q : Int → Mem → Prop} (hret : RtI p l e R s m args below meth c D ad tc A cs sl Qm cX6_weigh Q) {l1 : Int} {l6 : Int} {σ : Mem} (h : Mo_weigh_132 Q l1 l6 σ) : AW p l e R s m args below meth c D ad tc A cs sl Qm 132 [some (.ref (ad (6, 0, 0))), some (.int (oI l1)), none, none, none, none, some (.int (oI l6)), none] [] σ := by
  unfold Mo_weigh_132 at h
  refine aw_aload_n X dX6_weigh_132 rfl ?_
  refine aw_iload_n X dX6_weigh_133 rfl ?_
  refine aw_callVV X hR (s_Mo_without l D ad tc X.2.2.2.2.2.2.1 h) ml_X6_155 ob_6 rfl (by decide) (by decide) rfl rfl rfl rfl (Nat.le_of_ble_eq_true rfl) rfl dX6_weigh_134 (fun σ1 h => ?_)
  refine aw_iload X dX6_weigh_137 rfl ?_
  exact hret 139 _ _ _ dX6_weigh_139 h

set_option maxHeartbeats 4000000 in
set_option maxRecDepth 100000 in
theorem m_Mo_weigh_47 {p : Program} {l : Launch} {e : Env} {R : Room} {s : State} {m : MethodId} {args : Array Value} {below : List Frame} {meth : Method} {c : Code} {D : va_G} {ad : Ky → Nat} {tc : Tc} {A : Nat → Prop} {cs sl : Nat} {Qm : State → Prop} (X : Cx p s m args c cX6_weigh RX6 8 D ad tc A) (hR : RmOK R cs sl 3 65) {Q : Int → Mem → Prop} (hret : RtI p l e R s m args below meth c D ad tc A cs sl Qm cX6_weigh Q) {l1 : Int} {l2 : Int} {l3 : Int} {l4 : Int} {l5 : Int} {σ : Mem} (h : Mo_weigh_47 Q l1 l2 l3 l4 l5 σ) : AW p l e R s m args below meth c D ad tc A cs sl Qm 47 [some (.ref (ad (6, 0, 0))), some (.int (oI l1)), some (.int (oI l2)), some (.int (oI l3)), some (.int (oI l4)), some (.int (oI l5)), none, none] [] σ := by
  unfold Mo_weigh_47 at h
  refine aw_iload X dX6_weigh_47 rfl ?_
  refine aw_bipush X dX6_weigh_49 rfl ?_
  refine aw_bipush X dX6_weigh_51 rfl ?_
  refine aw_callSI X hR (s_Mo_beyond l D ad tc X.2.2.2.2.2.2.1 h) ms_X6_130 (by decide) (by decide) rfl rfl rfl rfl (Nat.le_of_ble_eq_true rfl) rfl dX6_weigh_53 (fun r1 σ1 h => ?_)
  obtain ⟨g2, h⟩ := h
  refine aw_if_eq X dX6_weigh_56 (tgt := 62) (by decide) g2 (fun hc => ?_) (fun hc => ?_)
  · replace h := h.1 hc
    refine aw_iload_n X dX6_weigh_62 rfl ?_
    obtain ⟨g3, h⟩ := h
    refine aw_if_eq X dX6_weigh_63 (tgt := 101) (by decide) g3 (fun hc => ?_) (fun hc => ?_)
    · replace h := h.1 hc
      refine aw_iconst X dX6_weigh_101 ?_
      refine aw_bipush X dX6_weigh_102 rfl ?_
      refine aw_iload_n X dX6_weigh_104 rfl ?_
      refine aw_imul X dX6_weigh_105 ?_
      refine aw_iload_n X dX6_weigh_106 rfl ?_
      refine aw_iadd X dX6_weigh_107 ?_
      refine aw_imul X dX6_weigh_108 ?_
      refine aw_iload X dX6_weigh_109 rfl ?_
      refine aw_iadd X dX6_weigh_111 ?_
      refine aw_istore X dX6_weigh_112 (Nat.le_of_ble_eq_true rfl) rfl ?_
      obtain ⟨x4, ex4⟩ : ∃ z : Int, z = ((4 * ((6 * l1) + l2)) + l4) := ⟨_, rfl⟩
      replace h := h x4 ex4
      refine aw_als (als' := [some (.ref (ad (6, 0, 0))), some (.int (oI l1)), some (.int (oI l2)), some (.int (oI l3)), some (.int (oI l4)), some (.int (oI l5)), none, some (.int (oI x4))]) (by subst ex4; rfl) ?_
      refine aw_aload_n X dX6_weigh_114 rfl ?_
      refine aw_get X ob_6 fl_X6_51 rfl dX6_weigh_115 ?_
      refine aw_iload X dX6_weigh_118 rfl ?_
      obtain ⟨g5a, g5b, h⟩ := h
      refine aw_iald X ar_6_15 g5a g5b dX6_weigh_120 ?_
      refine aw_istore X dX6_weigh_121 (Nat.le_of_ble_eq_true rfl) rfl ?_
      obtain ⟨x6, ex6⟩ : ∃ z : Int, z = (σ1 6 0 15 x4) := ⟨_, rfl⟩
      replace h := h x6 ex6
      refine aw_als (als' := [some (.ref (ad (6, 0, 0))), some (.int (oI l1)), some (.int (oI l2)), some (.int (oI l3)), some (.int (oI l4)), some (.int (oI l5)), some (.int (oI x6)), some (.int (oI x4))]) (by subst ex6; rfl) ?_
      refine aw_aload_n X dX6_weigh_123 rfl ?_
      refine aw_get X ob_6 fl_X6_51 rfl dX6_weigh_124 ?_
      refine aw_iload X dX6_weigh_127 rfl ?_
      refine aw_iload X dX6_weigh_129 rfl ?_
      obtain ⟨g7a, g7b, h⟩ := h
      refine aw_iast X ar_6_15 g7a g7b dX6_weigh_131 ?_
      obtain ⟨σ7, eσ7⟩ : ∃ z : Mem, z = up σ1 6 0 15 x4 l5 := ⟨_, rfl⟩
      replace h := h σ7 eσ7
      refine aw_mem eσ7 ?_
      refine aw_weak (als' := [some (.ref (ad (6, 0, 0))), some (.int (oI l1)), none, none, none, none, some (.int (oI x6)), none]) ⟨rfl, rfl, rfl, trivial⟩ ?_
      exact m_Mo_weigh_132 X hR hret h
    · replace h := h.2 hc
      refine aw_bipush X dX6_weigh_66 rfl ?_
      refine aw_bipush X dX6_weigh_68 rfl ?_
      refine aw_iload_n X dX6_weigh_70 rfl ?_
      refine aw_imul X dX6_weigh_71 ?_
      refine aw_iload_n X dX6_weigh_72 rfl ?_
      refine aw_iadd X dX6_weigh_73 ?_
      refine aw_imul X dX6_weigh_74 ?_
      refine aw_iload X dX6_weigh_75 rfl ?_
      refine aw_iadd X dX6_weigh_77 ?_
      refine aw_istore X dX6_weigh_78 (Nat.le_of_ble_eq_true rfl) rfl ?_
      obtain ⟨x8, ex8⟩ : ∃ z : Int, z = ((6 * ((6 * l1) + l2)) + l4) := ⟨_, rfl⟩
      replace h := h x8 ex8
      refine aw_als (als' := [some (.ref (ad (6, 0, 0))), some (.int (oI l1)), some (.int (oI l2)), some (.int (oI l3)), some (.int (oI l4)), some (.int (oI l5)), none, some (.int (oI x8))]) (by subst ex8; rfl) ?_
      refine aw_aload_n X dX6_weigh_80 rfl ?_
      refine aw_get X ob_6 fl_X6_54 rfl dX6_weigh_81 ?_
      refine aw_iload X dX6_weigh_84 rfl ?_
      obtain ⟨g9a, g9b, h⟩ := h
      refine aw_iald X ar_6_16 g9a g9b dX6_weigh_86 ?_
      refine aw_istore X dX6_weigh_87 (Nat.le_of_ble_eq_true rfl) rfl ?_
      obtain ⟨x10, ex10⟩ : ∃ z : Int, z = (σ1 6 0 16 x8) := ⟨_, rfl⟩
      replace h := h x10 ex10
      refine aw_als (als' := [some (.ref (ad (6, 0, 0))), some (.int (oI l1)), some (.int (oI l2)), some (.int (oI l3)), some (.int (oI l4)), some (.int (oI l5)), some (.int (oI x10)), some (.int (oI x8))]) (by subst ex10; rfl) ?_
      refine aw_aload_n X dX6_weigh_89 rfl ?_
      refine aw_get X ob_6 fl_X6_54 rfl dX6_weigh_90 ?_
      refine aw_iload X dX6_weigh_93 rfl ?_
      refine aw_iload X dX6_weigh_95 rfl ?_
      obtain ⟨g11a, g11b, h⟩ := h
      refine aw_iast X ar_6_16 g11a g11b dX6_weigh_97 ?_
      obtain ⟨σ11, eσ11⟩ : ∃ z : Mem, z = up σ1 6 0 16 x8 l5 := ⟨_, rfl⟩
      replace h := h σ11 eσ11
      refine aw_mem eσ11 ?_
      refine aw_goto X dX6_weigh_98 (tgt := 132) (by decide) ?_
      refine aw_weak (als' := [some (.ref (ad (6, 0, 0))), some (.int (oI l1)), none, none, none, none, some (.int (oI x10)), none]) ⟨rfl, rfl, rfl, trivial⟩ ?_
      exact m_Mo_weigh_132 X hR hret h
  · replace h := h.2 hc
    refine aw_bipush X dX6_weigh_59 rfl ?_
    exact hret 61 _ _ _ dX6_weigh_61 h

set_option maxHeartbeats 4000000 in
set_option maxRecDepth 100000 in
theorem m_Mo_weigh_45 {p : Program} {l : Launch} {e : Env} {R : Room} {s : State} {m : MethodId} {args : Array Value} {below : List Frame} {meth : Method} {c : Code} {D : va_G} {ad : Ky → Nat} {tc : Tc} {A : Nat → Prop} {cs sl : Nat} {Qm : State → Prop} (X : Cx p s m args c cX6_weigh RX6 8 D ad tc A) (hR : RmOK R cs sl 3 65) {Q : Int → Mem → Prop} (hret : RtI p l e R s m args below meth c D ad tc A cs sl Qm cX6_weigh Q) {σ : Mem} (h : Mo_weigh_45 Q σ) : AW p l e R s m args below meth c D ad tc A cs sl Qm 45 [none, none, none, none, none, none, none, none] [] σ := by
  unfold Mo_weigh_45 at h
  refine aw_iconst X dX6_weigh_45 ?_
  exact hret 46 _ _ _ dX6_weigh_46 h

set_option maxHeartbeats 4000000 in
set_option maxRecDepth 100000 in
theorem m_Mo_weigh_0 {p : Program} {l : Launch} {e : Env} {R : Room} {s : State} {m : MethodId} {args : Array Value} {below : List Frame} {meth : Method} {c : Code} {D : va_G} {ad : Ky → Nat} {tc : Tc} {A : Nat → Prop} {cs sl : Nat} {Qm : State → Prop} (X : Cx p s m args c cX6_weigh RX6 8 D ad tc A) (hR : RmOK R cs sl 3 65) {Q : Int → Mem → Prop} (hret : RtI p l e R s m args below meth c D ad tc A cs sl Qm cX6_weigh Q) {l1 : Int} {l2 : Int} {l3 : Int} {l4 : Int} {l5 : Int} {σ : Mem} (h : Mo_weigh l1 l2 l3 l4 l5 σ Q) : AW p l e R s m args below meth c D ad tc A cs sl Qm 0 [some (.ref (ad (6, 0, 0))), some (.int (oI l1)), some (.int (oI l2)), some (.int (oI l3)), some (.int (oI l4)), some (.int (oI l5)), none, none] [] σ := by
  unfold Mo_weigh at h
  refine aw_aload_n X dX6_weigh_0 rfl ?_
  refine aw_iload_n X dX6_weigh_1 rfl ?_
  refine aw_iload_n X dX6_weigh_2 rfl ?_
  refine aw_callVI X hR (s_Mo_noRow l D ad tc X.2.2.2.2.2.2.1 h) ml_X6_159 ob_6 rfl (by decide) (by decide) rfl rfl rfl rfl (Nat.le_of_ble_eq_true rfl) rfl dX6_weigh_3 (fun r1 σ1 h => ?_)
  obtain ⟨g2, h⟩ := h
  refine aw_if_eq X dX6_weigh_6 (tgt := 11) (by decide) g2 (fun hc => ?_) (fun hc => ?_)
  · replace h := h.1 hc
    refine aw_iload_n X dX6_weigh_11 rfl ?_
    obtain ⟨g3, h⟩ := h
    refine aw_if_eq X dX6_weigh_12 (tgt := 28) (by decide) g3 (fun hc => ?_) (fun hc => ?_)
    · replace h := h.1 hc
      refine aw_iload X dX6_weigh_28 rfl ?_
      refine aw_iconst X dX6_weigh_30 ?_
      refine aw_aload_n X dX6_weigh_31 rfl ?_
      refine aw_get X ob_6 fl_X6_36 rfl dX6_weigh_32 ?_
      refine aw_iload_n X dX6_weigh_35 rfl ?_
      obtain ⟨g4a, g4b, h⟩ := h
      refine aw_iald X ar_6_10 g4a g4b dX6_weigh_36 ?_
      refine aw_iconst X dX6_weigh_37 ?_
      refine aw_isub X dX6_weigh_38 ?_
      refine aw_callSI X hR (s_Mo_beyond l D ad tc X.2.2.2.2.2.2.1 h) ms_X6_130 (by decide) (by decide) rfl rfl rfl rfl (Nat.le_of_ble_eq_true rfl) rfl dX6_weigh_39 (fun r5 σ5 h => ?_)
      obtain ⟨g6, h⟩ := h
      refine aw_if_eq X dX6_weigh_42 (tgt := 47) (by decide) g6 (fun hc => ?_) (fun hc => ?_)
      · replace h := h.1 hc
        refine aw_weak (als' := [some (.ref (ad (6, 0, 0))), some (.int (oI l1)), some (.int (oI l2)), some (.int (oI l3)), some (.int (oI l4)), some (.int (oI l5)), none, none]) ⟨rfl, rfl, rfl, rfl, rfl, rfl, trivial⟩ ?_
        exact m_Mo_weigh_47 X hR hret h
      · replace h := h.2 hc
        refine aw_weak (als' := [none, none, none, none, none, none, none, none]) trivial ?_
        exact m_Mo_weigh_45 X hR hret h
    · replace h := h.2 hc
      refine aw_aload_n X dX6_weigh_15 rfl ?_
      refine aw_iload_n X dX6_weigh_16 rfl ?_
      refine aw_iload X dX6_weigh_17 rfl ?_
      refine aw_callVI X hR (s_Mo_placeOf l D ad tc X.2.2.2.2.2.2.1 h) ml_X6_151 ob_6 rfl (by decide) (by decide) rfl rfl rfl rfl (Nat.le_of_ble_eq_true rfl) rfl dX6_weigh_19 (fun r7 σ7 h => ?_)
      obtain ⟨g8, h⟩ := h
      refine aw_if_ge X dX6_weigh_22 (tgt := 47) (by decide) g8 (fun hc => ?_) (fun hc => ?_)
      · replace h := h.1 hc
        refine aw_weak (als' := [some (.ref (ad (6, 0, 0))), some (.int (oI l1)), some (.int (oI l2)), some (.int (oI l3)), some (.int (oI l4)), some (.int (oI l5)), none, none]) ⟨rfl, rfl, rfl, rfl, rfl, rfl, trivial⟩ ?_
        exact m_Mo_weigh_47 X hR hret h
      · replace h := h.2 hc
        refine aw_goto X dX6_weigh_25 (tgt := 45) (by decide) ?_
        refine aw_weak (als' := [none, none, none, none, none, none, none, none]) trivial ?_
        exact m_Mo_weigh_45 X hR hret h
  · replace h := h.2 hc
    refine aw_iconst X dX6_weigh_9 ?_
    exact hret 10 _ _ _ dX6_weigh_10 h
theorem s_Mo_weigh (l : Launch) (D : va_G) (ad : Ky → Nat) (tc : Tc) (hi : adI ad) {l1 : Int} {l2 : Int} {l3 : Int} {l4 : Int} {l5 : Int} {σ : Mem} {Q : Int → Mem → Prop} (h : Mo_weigh l1 l2 l3 l4 l5 σ Q) : CtI l D ad tc yX6_weigh cX6_weigh 8 (some .int) { frames := 3, cells := 0, slots := 0, locals := 65 } [.ref (ad (6, 0, 0)), .int (oI l1), .int (oI l2), .int (oI l3), .int (oI l4), .int (oI l5)] σ Q := CtI.mk (by decide +kernel) hi (Nat.le_of_ble_eq_true rfl) rfl (fun p e s m args below meth c A Qm X hR hret => m_Mo_weigh_0 X hR hret h)

set_option maxHeartbeats 4000000 in
set_option maxRecDepth 100000 in
theorem m_Mo_shift_17 {p : Program} {l : Launch} {e : Env} {R : Room} {s : State} {m : MethodId} {args : Array Value} {below : List Frame} {meth : Method} {c : Code} {D : va_G} {ad : Ky → Nat} {tc : Tc} {A : Nat → Prop} {cs sl : Nat} {Qm : State → Prop} (X : Cx p s m args c cX6_shift RX6 7 D ad tc A) (hR : RmOK R cs sl 3 65) {Q : Int → Mem → Prop} (hret : RtI p l e R s m args below meth c D ad tc A cs sl Qm cX6_shift Q) {σ : Mem} (h : Mo_shift_17 Q σ) : AW p l e R s m args below meth c D ad tc A cs sl Qm 17 [none, none, none, none, none, none, none] [] σ := by
  unfold Mo_shift_17 at h
  refine aw_iconst X dX6_shift_17 ?_
  exact hret 18 _ _ _ dX6_shift_18 h

set_option maxHeartbeats 4000000 in
set_option maxRecDepth 100000 in
theorem m_Mo_shift_0 {p : Program} {l : Launch} {e : Env} {R : Room} {s : State} {m : MethodId} {args : Array Value} {below : List Frame} {meth : Method} {c : Code} {D : va_G} {ad : Ky → Nat} {tc : Tc} {A : Nat → Prop} {cs sl : Nat} {Qm : State → Prop} (X : Cx p s m args c cX6_shift RX6 7 D ad tc A) (hR : RmOK R cs sl 3 65) {Q : Int → Mem → Prop} (hret : RtI p l e R s m args below meth c D ad tc A cs sl Qm cX6_shift Q) {l1 : Int} {l2 : Int} {l3 : Int} {l4 : Int} {σ : Mem} (h : Mo_shift l1 l2 l3 l4 σ Q) : AW p l e R s m args below meth c D ad tc A cs sl Qm 0 [some (.ref (ad (6, 0, 0))), some (.int (oI l1)), some (.int (oI l2)), some (.int (oI l3)), some (.int (oI l4)), none, none] [] σ := by
  unfold Mo_shift at h
  refine aw_aload_n X dX6_shift_0 rfl ?_
  refine aw_iload_n X dX6_shift_1 rfl ?_
  refine aw_callVI X hR (s_Mo_noFuture l D ad tc X.2.2.2.2.2.2.1 h) ml_X6_144 ob_6 rfl (by decide) (by decide) rfl rfl rfl rfl (Nat.le_of_ble_eq_true rfl) rfl dX6_shift_2 (fun r1 σ1 h => ?_)
  obtain ⟨g2, h⟩ := h
  refine aw_if_ne X dX6_shift_5 (tgt := 17) (by decide) g2 (fun hc => ?_) (fun hc => ?_)
  · replace h := h.1 hc
    refine aw_weak (als' := [none, none, none, none, none, none, none]) trivial ?_
    exact m_Mo_shift_17 X hR hret h
  · replace h := h.2 hc
    refine aw_aload_n X dX6_shift_8 rfl ?_
    refine aw_iload_n X dX6_shift_9 rfl ?_
    refine aw_iload_n X dX6_shift_10 rfl ?_
    refine aw_callVI X hR (s_Mo_noRow l D ad tc X.2.2.2.2.2.2.1 h) ml_X6_159 ob_6 rfl (by decide) (by decide) rfl rfl rfl rfl (Nat.le_of_ble_eq_true rfl) rfl dX6_shift_11 (fun r3 σ3 h => ?_)
    obtain ⟨g4, h⟩ := h
    refine aw_if_eq X dX6_shift_14 (tgt := 19) (by decide) g4 (fun hc => ?_) (fun hc => ?_)
    · replace h := h.1 hc
      refine aw_iload X dX6_shift_19 rfl ?_
      refine aw_bipush X dX6_shift_21 rfl ?_
      refine aw_bipush X dX6_shift_23 rfl ?_
      refine aw_callSI X hR (s_Mo_beyond l D ad tc X.2.2.2.2.2.2.1 h) ms_X6_130 (by decide) (by decide) rfl rfl rfl rfl (Nat.le_of_ble_eq_true rfl) rfl dX6_shift_25 (fun r5 σ5 h => ?_)
      obtain ⟨g6, h⟩ := h
      refine aw_if_eq X dX6_shift_28 (tgt := 34) (by decide) g6 (fun hc => ?_) (fun hc => ?_)
      · replace h := h.1 hc
        refine aw_bipush X dX6_shift_34 rfl ?_
        refine aw_iload_n X dX6_shift_36 rfl ?_
        refine aw_imul X dX6_shift_37 ?_
        refine aw_bipush X dX6_shift_38 rfl ?_
        refine aw_iload_n X dX6_shift_40 rfl ?_
        refine aw_imul X dX6_shift_41 ?_
        refine aw_iadd X dX6_shift_42 ?_
        refine aw_iload_n X dX6_shift_43 rfl ?_
        refine aw_iadd X dX6_shift_44 ?_
        refine aw_istore X dX6_shift_45 (Nat.le_of_ble_eq_true rfl) rfl ?_
        obtain ⟨x7, ex7⟩ : ∃ z : Int, z = (((24 * l1) + (6 * l2)) + l3) := ⟨_, rfl⟩
        replace h := h x7 ex7
        refine aw_als (als' := [some (.ref (ad (6, 0, 0))), some (.int (oI l1)), some (.int (oI l2)), some (.int (oI l3)), some (.int (oI l4)), some (.int (oI x7)), none]) (by subst ex7; rfl) ?_
        refine aw_aload_n X dX6_shift_47 rfl ?_
        refine aw_get X ob_6 fl_X6_57 rfl dX6_shift_48 ?_
        refine aw_iload X dX6_shift_51 rfl ?_
        obtain ⟨g8a, g8b, h⟩ := h
        refine aw_iald X ar_6_17 g8a g8b dX6_shift_53 ?_
        refine aw_istore X dX6_shift_54 (Nat.le_of_ble_eq_true rfl) rfl ?_
        obtain ⟨x9, ex9⟩ : ∃ z : Int, z = (σ5 6 0 17 x7) := ⟨_, rfl⟩
        replace h := h x9 ex9
        refine aw_als (als' := [some (.ref (ad (6, 0, 0))), some (.int (oI l1)), some (.int (oI l2)), some (.int (oI l3)), some (.int (oI l4)), some (.int (oI x7)), some (.int (oI x9))]) (by subst ex9; rfl) ?_
        refine aw_aload_n X dX6_shift_56 rfl ?_
        refine aw_get X ob_6 fl_X6_57 rfl dX6_shift_57 ?_
        refine aw_iload X dX6_shift_60 rfl ?_
        refine aw_iload X dX6_shift_62 rfl ?_
        obtain ⟨g10a, g10b, h⟩ := h
        refine aw_iast X ar_6_17 g10a g10b dX6_shift_64 ?_
        obtain ⟨σ10, eσ10⟩ : ∃ z : Mem, z = up σ5 6 0 17 x7 l4 := ⟨_, rfl⟩
        replace h := h σ10 eσ10
        refine aw_mem eσ10 ?_
        refine aw_aload_n X dX6_shift_65 rfl ?_
        refine aw_iload_n X dX6_shift_66 rfl ?_
        refine aw_callVV X hR (s_Mo_without l D ad tc X.2.2.2.2.2.2.1 h) ml_X6_155 ob_6 rfl (by decide) (by decide) rfl rfl rfl rfl (Nat.le_of_ble_eq_true rfl) rfl dX6_shift_67 (fun σ11 h => ?_)
        refine aw_iload X dX6_shift_70 rfl ?_
        exact hret 72 _ _ _ dX6_shift_72 h
      · replace h := h.2 hc
        refine aw_bipush X dX6_shift_31 rfl ?_
        exact hret 33 _ _ _ dX6_shift_33 h
    · replace h := h.2 hc
      refine aw_weak (als' := [none, none, none, none, none, none, none]) trivial ?_
      exact m_Mo_shift_17 X hR hret h
theorem s_Mo_shift (l : Launch) (D : va_G) (ad : Ky → Nat) (tc : Tc) (hi : adI ad) {l1 : Int} {l2 : Int} {l3 : Int} {l4 : Int} {σ : Mem} {Q : Int → Mem → Prop} (h : Mo_shift l1 l2 l3 l4 σ Q) : CtI l D ad tc yX6_shift cX6_shift 7 (some .int) { frames := 3, cells := 0, slots := 0, locals := 65 } [.ref (ad (6, 0, 0)), .int (oI l1), .int (oI l2), .int (oI l3), .int (oI l4)] σ Q := CtI.mk (by decide +kernel) hi (Nat.le_of_ble_eq_true rfl) rfl (fun p e s m args below meth c A Qm X hR hret => m_Mo_shift_0 X hR hret h)

set_option maxHeartbeats 4000000 in
set_option maxRecDepth 100000 in
theorem m_Mo_figure_27 {p : Program} {l : Launch} {e : Env} {R : Room} {s : State} {m : MethodId} {args : Array Value} {below : List Frame} {meth : Method} {c : Code} {D : va_G} {ad : Ky → Nat} {tc : Tc} {A : Nat → Prop} {cs sl : Nat} {Qm : State → Prop} (X : Cx p s m args c cX6_figure RX6 2 D ad tc A) (hR : RmOK R cs sl 0 0) {Q : Int → Mem → Prop} (hret : RtI p l e R s m args below meth c D ad tc A cs sl Qm cX6_figure Q) {s0 : Int} {σ : Mem} (h : Mo_figure_27 Q s0 σ) : AW p l e R s m args below meth c D ad tc A cs sl Qm 27 [none, none] [.int (oI s0)] σ := by
  unfold Mo_figure_27 at h
  exact hret 27 _ _ _ dX6_figure_27 h

set_option maxHeartbeats 4000000 in
set_option maxRecDepth 100000 in
theorem m_Mo_figure_0 {p : Program} {l : Launch} {e : Env} {R : Room} {s : State} {m : MethodId} {args : Array Value} {below : List Frame} {meth : Method} {c : Code} {D : va_G} {ad : Ky → Nat} {tc : Tc} {A : Nat → Prop} {cs sl : Nat} {Qm : State → Prop} (X : Cx p s m args c cX6_figure RX6 2 D ad tc A) (hR : RmOK R cs sl 0 0) {Q : Int → Mem → Prop} (hret : RtI p l e R s m args below meth c D ad tc A cs sl Qm cX6_figure Q) {l0 : Int} {l1 : Int} {σ : Mem} (h : Mo_figure l0 l1 σ Q) : AW p l e R s m args below meth c D ad tc A cs sl Qm 0 [some (.int (oI l0)), some (.int (oI l1))] [] σ := by
  unfold Mo_figure at h
  refine aw_iload_n X dX6_figure_0 rfl ?_
  obtain ⟨g1, h⟩ := h
  refine aw_if_ne X dX6_figure_1 (tgt := 11) (by decide) g1 (fun hc => ?_) (fun hc => ?_)
  · replace h := h.1 hc
    refine aw_iload_n X dX6_figure_11 rfl ?_
    refine aw_iconst X dX6_figure_12 ?_
    obtain ⟨g2, h⟩ := h
    refine aw_icmp_ne X dX6_figure_13 (tgt := 24) (by decide) g2 ⟨by decide, by decide⟩ (fun hc => ?_) (fun hc => ?_)
    · replace h := h.1 hc
      refine aw_iload_n X dX6_figure_24 rfl ?_
      refine aw_iconst X dX6_figure_25 ?_
      refine aw_irem X dX6_figure_26 (by decide) ?_
      refine aw_weak (als' := [none, none]) trivial ?_
      exact m_Mo_figure_27 X hR hret h
    · replace h := h.2 hc
      refine aw_iload_n X dX6_figure_16 rfl ?_
      refine aw_iconst X dX6_figure_17 ?_
      refine aw_idiv X dX6_figure_18 (by decide) ?_
      refine aw_iconst X dX6_figure_19 ?_
      refine aw_irem X dX6_figure_20 (by decide) ?_
      refine aw_goto X dX6_figure_21 (tgt := 27) (by decide) ?_
      refine aw_weak (als' := [none, none]) trivial ?_
      exact m_Mo_figure_27 X hR hret h
  · replace h := h.2 hc
    refine aw_iload_n X dX6_figure_4 rfl ?_
    refine aw_bipush X dX6_figure_5 rfl ?_
    refine aw_idiv X dX6_figure_7 (by decide) ?_
    refine aw_goto X dX6_figure_8 (tgt := 27) (by decide) ?_
    refine aw_weak (als' := [none, none]) trivial ?_
    exact m_Mo_figure_27 X hR hret h
theorem s_Mo_figure (l : Launch) (D : va_G) (ad : Ky → Nat) (tc : Tc) (hi : adI ad) {l0 : Int} {l1 : Int} {σ : Mem} {Q : Int → Mem → Prop} (h : Mo_figure l0 l1 σ Q) : CtI l D ad tc yX6_figure cX6_figure 2 (some .int) { frames := 0, cells := 0, slots := 0, locals := 0 } [.int (oI l0), .int (oI l1)] σ Q := CtI.mk (by decide +kernel) hi (Nat.le_of_ble_eq_true rfl) rfl (fun p e s m args below meth c A Qm X hR hret => m_Mo_figure_0 X hR hret h)

set_option maxHeartbeats 4000000 in
set_option maxRecDepth 100000 in
theorem m_Mo_answerTo_428 {p : Program} {l : Launch} {e : Env} {R : Room} {s : State} {m : MethodId} {args : Array Value} {below : List Frame} {meth : Method} {c : Code} {D : va_G} {ad : Ky → Nat} {tc : Tc} {A : Nat → Prop} {cs sl : Nat} {Qm : State → Prop} (X : Cx p s m args c cX6_answerTo RX6 11 D ad tc A) (hR : RmOK R cs sl 1 21) {Q : Int → Mem → Prop} (hret : RtI p l e R s m args below meth c D ad tc A cs sl Qm cX6_answerTo Q) {k158 : Int → Int → Int → Int → Mem → Prop} (hk158 : ∀ (l1 : Int) (l4 : Int) (l5 : Int) (l6 : Int) (σ : Mem), k158 l1 l4 l5 l6 σ → AW p l e R s m args below meth c D ad tc A cs sl Qm 158 [some (.ref (ad (6, 0, 0))), some (.int (oI l1)), none, none, some (.int (oI l4)), some (.int (oI l5)), some (.int (oI l6)), none, none, none, none] [] σ) {l1 : Int} {l4 : Int} {l5 : Int} {l6 : Int} {σ : Mem} (h : Mo_answerTo_428 k158 Q l1 l4 l5 l6 σ) : AW p l e R s m args below meth c D ad tc A cs sl Qm 428 [some (.ref (ad (6, 0, 0))), some (.int (oI l1)), none, none, some (.int (oI l4)), some (.int (oI l5)), some (.int (oI l6)), none, none, none, none] [] σ := by
  unfold Mo_answerTo_428 at h
  refine aw_goto X dX6_answerTo_428 (tgt := 158) (by decide) ?_
  refine aw_weak (als' := [some (.ref (ad (6, 0, 0))), some (.int (oI l1)), none, none, some (.int (oI l4)), some (.int (oI l5)), some (.int (oI l6)), none, none, none, none]) ⟨rfl, rfl, rfl, rfl, rfl, trivial⟩ ?_
  exact hk158 _ _ _ _ _ h

set_option maxHeartbeats 4000000 in
set_option maxRecDepth 100000 in
theorem m_Mo_answerTo_410 {p : Program} {l : Launch} {e : Env} {R : Room} {s : State} {m : MethodId} {args : Array Value} {below : List Frame} {meth : Method} {c : Code} {D : va_G} {ad : Ky → Nat} {tc : Tc} {A : Nat → Prop} {cs sl : Nat} {Qm : State → Prop} (X : Cx p s m args c cX6_answerTo RX6 11 D ad tc A) (hR : RmOK R cs sl 1 21) {Q : Int → Mem → Prop} (hret : RtI p l e R s m args below meth c D ad tc A cs sl Qm cX6_answerTo Q) {k158 : Int → Int → Int → Int → Mem → Prop} (hk158 : ∀ (l1 : Int) (l4 : Int) (l5 : Int) (l6 : Int) (σ : Mem), k158 l1 l4 l5 l6 σ → AW p l e R s m args below meth c D ad tc A cs sl Qm 158 [some (.ref (ad (6, 0, 0))), some (.int (oI l1)), none, none, some (.int (oI l4)), some (.int (oI l5)), some (.int (oI l6)), none, none, none, none] [] σ) {l1 : Int} {l4 : Int} {l5 : Int} {l8 : Int} {s0 : Int} {σ : Mem} (h : Mo_answerTo_410 k158 Q l1 l4 l5 l8 s0 σ) : AW p l e R s m args below meth c D ad tc A cs sl Qm 410 [some (.ref (ad (6, 0, 0))), some (.int (oI l1)), none, none, some (.int (oI l4)), some (.int (oI l5)), none, none, some (.int (oI l8)), none, none] [.int (oI s0)] σ := by
  unfold Mo_answerTo_410 at h
  refine aw_istore X dX6_answerTo_410 (Nat.le_of_ble_eq_true rfl) rfl ?_
  refine aw_als (als' := [some (.ref (ad (6, 0, 0))), some (.int (oI l1)), none, none, some (.int (oI l4)), some (.int (oI l5)), some (.int (oI s0)), none, some (.int (oI l8)), none, none]) rfl ?_
  refine aw_iload X dX6_answerTo_412 rfl ?_
  obtain ⟨g1, h⟩ := h
  refine aw_if_eq X dX6_answerTo_414 (tgt := 428) (by decide) g1 (fun hc => ?_) (fun hc => ?_)
  · replace h := h.1 hc
    refine aw_weak (als' := [some (.ref (ad (6, 0, 0))), some (.int (oI l1)), none, none, some (.int (oI l4)), some (.int (oI l5)), some (.int (oI s0)), none, none, none, none]) ⟨rfl, rfl, rfl, rfl, rfl, trivial⟩ ?_
    exact m_Mo_answerTo_428 X hR hret hk158 h
  · replace h := h.2 hc
    refine aw_aload_n X dX6_answerTo_417 rfl ?_
    refine aw_get X ob_6 fl_X6_93 rfl dX6_answerTo_418 ?_
    refine aw_iload X dX6_answerTo_421 rfl ?_
    refine aw_dup2 X dX6_answerTo_423 rfl rfl ?_
    obtain ⟨g2a, g2b, h⟩ := h
    refine aw_iald X ar_6_36 g2a g2b dX6_answerTo_424 ?_
    refine aw_iconst X dX6_answerTo_425 ?_
    refine aw_iadd X dX6_answerTo_426 ?_
    obtain ⟨g3a, g3b, h⟩ := h
    refine aw_iast X ar_6_36 g3a g3b dX6_answerTo_427 ?_
    obtain ⟨σ3, eσ3⟩ : ∃ z : Mem, z = up σ 6 0 36 l8 ((σ 6 0 36 l8) + 1) := ⟨_, rfl⟩
    replace h := h σ3 eσ3
    refine aw_mem eσ3 ?_
    refine aw_weak (als' := [some (.ref (ad (6, 0, 0))), some (.int (oI l1)), none, none, some (.int (oI l4)), some (.int (oI l5)), some (.int (oI s0)), none, none, none, none]) ⟨rfl, rfl, rfl, rfl, rfl, trivial⟩ ?_
    exact m_Mo_answerTo_428 X hR hret hk158 h

set_option maxHeartbeats 4000000 in
set_option maxRecDepth 100000 in
theorem m_Mo_answerTo_400 {p : Program} {l : Launch} {e : Env} {R : Room} {s : State} {m : MethodId} {args : Array Value} {below : List Frame} {meth : Method} {c : Code} {D : va_G} {ad : Ky → Nat} {tc : Tc} {A : Nat → Prop} {cs sl : Nat} {Qm : State → Prop} (X : Cx p s m args c cX6_answerTo RX6 11 D ad tc A) (hR : RmOK R cs sl 1 21) {Q : Int → Mem → Prop} (hret : RtI p l e R s m args below meth c D ad tc A cs sl Qm cX6_answerTo Q) {k158 : Int → Int → Int → Int → Mem → Prop} (hk158 : ∀ (l1 : Int) (l4 : Int) (l5 : Int) (l6 : Int) (σ : Mem), k158 l1 l4 l5 l6 σ → AW p l e R s m args below meth c D ad tc A cs sl Qm 158 [some (.ref (ad (6, 0, 0))), some (.int (oI l1)), none, none, some (.int (oI l4)), some (.int (oI l5)), some (.int (oI l6)), none, none, none, none] [] σ) {l1 : Int} {l4 : Int} {l5 : Int} {l8 : Int} {σ : Mem} (h : Mo_answerTo_400 k158 Q l1 l4 l5 l8 σ) : AW p l e R s m args below meth c D ad tc A cs sl Qm 400 [some (.ref (ad (6, 0, 0))), some (.int (oI l1)), none, none, some (.int (oI l4)), some (.int (oI l5)), none, none, some (.int (oI l8)), none, none] [] σ := by
  unfold Mo_answerTo_400 at h
  refine aw_iload X dX6_answerTo_400 rfl ?_
  obtain ⟨g1, h⟩ := h
  refine aw_if_lt X dX6_answerTo_402 (tgt := 409) (by decide) g1 (fun hc => ?_) (fun hc => ?_)
  · replace h := h.1 hc
    refine aw_iconst X dX6_answerTo_409 ?_
    refine aw_weak (als' := [some (.ref (ad (6, 0, 0))), some (.int (oI l1)), none, none, some (.int (oI l4)), some (.int (oI l5)), none, none, some (.int (oI l8)), none, none]) ⟨rfl, rfl, rfl, rfl, rfl, trivial⟩ ?_
    exact m_Mo_answerTo_410 X hR hret hk158 h
  · replace h := h.2 hc
    refine aw_iconst X dX6_answerTo_405 ?_
    refine aw_goto X dX6_answerTo_406 (tgt := 410) (by decide) ?_
    refine aw_weak (als' := [some (.ref (ad (6, 0, 0))), some (.int (oI l1)), none, none, some (.int (oI l4)), some (.int (oI l5)), none, none, some (.int (oI l8)), none, none]) ⟨rfl, rfl, rfl, rfl, rfl, trivial⟩ ?_
    exact m_Mo_answerTo_410 X hR hret hk158 h

set_option maxHeartbeats 4000000 in
set_option maxRecDepth 100000 in
theorem m_Mo_answerTo_360 {p : Program} {l : Launch} {e : Env} {R : Room} {s : State} {m : MethodId} {args : Array Value} {below : List Frame} {meth : Method} {c : Code} {D : va_G} {ad : Ky → Nat} {tc : Tc} {A : Nat → Prop} {cs sl : Nat} {Qm : State → Prop} (X : Cx p s m args c cX6_answerTo RX6 11 D ad tc A) (hR : RmOK R cs sl 1 21) {Q : Int → Mem → Prop} (hret : RtI p l e R s m args below meth c D ad tc A cs sl Qm cX6_answerTo Q) {k158 : Int → Int → Int → Int → Mem → Prop} (hk158 : ∀ (l1 : Int) (l4 : Int) (l5 : Int) (l6 : Int) (σ : Mem), k158 l1 l4 l5 l6 σ → AW p l e R s m args below meth c D ad tc A cs sl Qm 158 [some (.ref (ad (6, 0, 0))), some (.int (oI l1)), none, none, some (.int (oI l4)), some (.int (oI l5)), some (.int (oI l6)), none, none, none, none] [] σ) : ∀ (n : Nat) (l1 : Int) (l4 : Int) (l5 : Int) (l8 : Int) (σ : Mem), Mo_answerTo_360 k158 Q n l1 l4 l5 l8 σ → AW p l e R s m args below meth c D ad tc A cs sl Qm 360 [some (.ref (ad (6, 0, 0))), some (.int (oI l1)), none, none, some (.int (oI l4)), some (.int (oI l5)), none, none, some (.int (oI l8)), none, none] [] σ := by
  intro n
  induction n with
  | zero =>
    intro l1 l4 l5 l8 σ h
    exact False.elim h
  | succ n ih =>
    intro l1 l4 l5 l8 σ h
    unfold Mo_answerTo_360 at h
    refine aw_iload X dX6_answerTo_360 rfl ?_
    obtain ⟨g1, h⟩ := h
    refine aw_if_lt X dX6_answerTo_362 (tgt := 400) (by decide) g1 (fun hc => ?_) (fun hc => ?_)
    · replace h := h.1 hc
      refine aw_weak (als' := [some (.ref (ad (6, 0, 0))), some (.int (oI l1)), none, none, some (.int (oI l4)), some (.int (oI l5)), none, none, some (.int (oI l8)), none, none]) ⟨rfl, rfl, rfl, rfl, rfl, trivial⟩ ?_
      exact m_Mo_answerTo_400 X hR hret hk158 h
    · replace h := h.2 hc
      refine aw_aload_n X dX6_answerTo_365 rfl ?_
      refine aw_get X ob_6 fl_X6_93 rfl dX6_answerTo_366 ?_
      refine aw_iload X dX6_answerTo_369 rfl ?_
      obtain ⟨g2a, g2b, h⟩ := h
      refine aw_iald X ar_6_36 g2a g2b dX6_answerTo_371 ?_
      refine aw_aload_n X dX6_answerTo_372 rfl ?_
      refine aw_get X ob_6 fl_X6_39 rfl dX6_answerTo_373 ?_
      refine aw_iconst X dX6_answerTo_376 ?_
      refine aw_iload_n X dX6_answerTo_377 rfl ?_
      refine aw_imul X dX6_answerTo_378 ?_
      refine aw_iload X dX6_answerTo_379 rfl ?_
      refine aw_iadd X dX6_answerTo_381 ?_
      obtain ⟨g3a, g3b, h⟩ := h
      refine aw_iald X ar_6_11 g3a g3b dX6_answerTo_382 ?_
      obtain ⟨g4, h⟩ := h
      obtain ⟨g5, h⟩ := h
      refine aw_icmp_ne X dX6_answerTo_383 (tgt := 400) (by decide) g4 g5 (fun hc => ?_) (fun hc => ?_)
      · replace h := h.1 hc
        refine aw_weak (als' := [some (.ref (ad (6, 0, 0))), some (.int (oI l1)), none, none, some (.int (oI l4)), some (.int (oI l5)), none, none, some (.int (oI l8)), none, none]) ⟨rfl, rfl, rfl, rfl, rfl, trivial⟩ ?_
        exact m_Mo_answerTo_400 X hR hret hk158 h
      · replace h := h.2 hc
        refine aw_aload_n X dX6_answerTo_386 rfl ?_
        refine aw_get X ob_6 fl_X6_93 rfl dX6_answerTo_387 ?_
        refine aw_iload X dX6_answerTo_390 rfl ?_
        refine aw_iconst X dX6_answerTo_392 ?_
        obtain ⟨g6a, g6b, h⟩ := h
        refine aw_iast X ar_6_36 g6a g6b dX6_answerTo_393 ?_
        obtain ⟨σ6, eσ6⟩ : ∃ z : Mem, z = up σ 6 0 36 l8 0 := ⟨_, rfl⟩
        replace h := h σ6 eσ6
        refine aw_mem eσ6 ?_
        refine aw_iinc X dX6_answerTo_394 rfl rfl ?_
        obtain ⟨x7, ex7⟩ : ∃ z : Int, z = (l8 + (-1)) := ⟨_, rfl⟩
        replace h := h x7 ex7
        refine aw_als (als' := [some (.ref (ad (6, 0, 0))), some (.int (oI l1)), none, none, some (.int (oI l4)), some (.int (oI l5)), none, none, some (.int (oI x7)), none, none]) (by subst ex7; rfl) ?_
        refine aw_goto X dX6_answerTo_397 (tgt := 360) (by decide) ?_
        refine aw_weak (als' := [some (.ref (ad (6, 0, 0))), some (.int (oI l1)), none, none, some (.int (oI l4)), some (.int (oI l5)), none, none, some (.int (oI x7)), none, none]) ⟨rfl, rfl, rfl, rfl, rfl, trivial⟩ ?_
        exact ih _ _ _ _ _ h

set_option maxHeartbeats 4000000 in
set_option maxRecDepth 100000 in
theorem m_Mo_answerTo_354 {p : Program} {l : Launch} {e : Env} {R : Room} {s : State} {m : MethodId} {args : Array Value} {below : List Frame} {meth : Method} {c : Code} {D : va_G} {ad : Ky → Nat} {tc : Tc} {A : Nat → Prop} {cs sl : Nat} {Qm : State → Prop} (X : Cx p s m args c cX6_answerTo RX6 11 D ad tc A) (hR : RmOK R cs sl 1 21) {Q : Int → Mem → Prop} (hret : RtI p l e R s m args below meth c D ad tc A cs sl Qm cX6_answerTo Q) {k158 : Int → Int → Int → Int → Mem → Prop} (hk158 : ∀ (l1 : Int) (l4 : Int) (l5 : Int) (l6 : Int) (σ : Mem), k158 l1 l4 l5 l6 σ → AW p l e R s m args below meth c D ad tc A cs sl Qm 158 [some (.ref (ad (6, 0, 0))), some (.int (oI l1)), none, none, some (.int (oI l4)), some (.int (oI l5)), some (.int (oI l6)), none, none, none, none] [] σ) {l1 : Int} {l4 : Int} {l5 : Int} {σ : Mem} (h : Mo_answerTo_354 k158 Q l1 l4 l5 σ) : AW p l e R s m args below meth c D ad tc A cs sl Qm 354 [some (.ref (ad (6, 0, 0))), some (.int (oI l1)), none, none, some (.int (oI l4)), some (.int (oI l5)), none, none, none, none, none] [] σ := by
  unfold Mo_answerTo_354 at h
  refine aw_iload X dX6_answerTo_354 rfl ?_
  refine aw_iconst X dX6_answerTo_356 ?_
  refine aw_isub X dX6_answerTo_357 ?_
  refine aw_istore X dX6_answerTo_358 (Nat.le_of_ble_eq_true rfl) rfl ?_
  obtain ⟨x1, ex1⟩ : ∃ z : Int, z = (l4 - 1) := ⟨_, rfl⟩
  replace h := h x1 ex1
  refine aw_als (als' := [some (.ref (ad (6, 0, 0))), some (.int (oI l1)), none, none, some (.int (oI l4)), some (.int (oI l5)), none, none, some (.int (oI x1)), none, none]) (by subst ex1; rfl) ?_
  refine aw_weak (als' := [some (.ref (ad (6, 0, 0))), some (.int (oI l1)), none, none, some (.int (oI l4)), some (.int (oI l5)), none, none, some (.int (oI x1)), none, none]) ⟨rfl, rfl, rfl, rfl, rfl, trivial⟩ ?_
  obtain ⟨n0, h⟩ := h
  exact m_Mo_answerTo_360 X hR hret hk158 n0 _ _ _ _ _ h

set_option maxHeartbeats 4000000 in
set_option maxRecDepth 100000 in
theorem m_Mo_answerTo_328 {p : Program} {l : Launch} {e : Env} {R : Room} {s : State} {m : MethodId} {args : Array Value} {below : List Frame} {meth : Method} {c : Code} {D : va_G} {ad : Ky → Nat} {tc : Tc} {A : Nat → Prop} {cs sl : Nat} {Qm : State → Prop} (X : Cx p s m args c cX6_answerTo RX6 11 D ad tc A) (hR : RmOK R cs sl 1 21) {Q : Int → Mem → Prop} (hret : RtI p l e R s m args below meth c D ad tc A cs sl Qm cX6_answerTo Q) {k158 : Int → Int → Int → Int → Mem → Prop} (hk158 : ∀ (l1 : Int) (l4 : Int) (l5 : Int) (l6 : Int) (σ : Mem), k158 l1 l4 l5 l6 σ → AW p l e R s m args below meth c D ad tc A cs sl Qm 158 [some (.ref (ad (6, 0, 0))), some (.int (oI l1)), none, none, some (.int (oI l4)), some (.int (oI l5)), some (.int (oI l6)), none, none, none, none] [] σ) : ∀ (n : Nat) (l1 : Int) (l4 : Int) (l5 : Int) (l9 : Int) (σ : Mem), Mo_answerTo_328 k158 Q n l1 l4 l5 l9 σ → AW p l e R s m args below meth c D ad tc A cs sl Qm 328 [some (.ref (ad (6, 0, 0))), some (.int (oI l1)), none, none, some (.int (oI l4)), some (.int (oI l5)), none, none, none, some (.int (oI l9)), none] [] σ := by
  intro n
  induction n with
  | zero =>
    intro l1 l4 l5 l9 σ h
    exact False.elim h
  | succ n ih =>
    intro l1 l4 l5 l9 σ h
    unfold Mo_answerTo_328 at h
    refine aw_iload X dX6_answerTo_328 rfl ?_
    refine aw_iconst X dX6_answerTo_330 ?_
    obtain ⟨g1, h⟩ := h
    refine aw_icmp_ge X dX6_answerTo_331 (tgt := 354) (by decide) g1 ⟨by decide, by decide⟩ (fun hc => ?_) (fun hc => ?_)
    · replace h := h.1 hc
      refine aw_weak (als' := [some (.ref (ad (6, 0, 0))), some (.int (oI l1)), none, none, some (.int (oI l4)), some (.int (oI l5)), none, none, none, none, none]) ⟨rfl, rfl, rfl, rfl, trivial⟩ ?_
      exact m_Mo_answerTo_354 X hR hret hk158 h
    · replace h := h.2 hc
      refine aw_aload_n X dX6_answerTo_334 rfl ?_
      refine aw_get X ob_6 fl_X6_96 rfl dX6_answerTo_335 ?_
      refine aw_iload X dX6_answerTo_338 rfl ?_
      refine aw_aload_n X dX6_answerTo_340 rfl ?_
      refine aw_get X ob_6 fl_X6_93 rfl dX6_answerTo_341 ?_
      refine aw_iload X dX6_answerTo_344 rfl ?_
      obtain ⟨g3a, g3b, h⟩ := h
      refine aw_iald X ar_6_36 g3a g3b dX6_answerTo_346 ?_
      obtain ⟨g4a, g4b, h⟩ := h
      refine aw_iast X ar_6_37 g4a g4b dX6_answerTo_347 ?_
      obtain ⟨σ4, eσ4⟩ : ∃ z : Mem, z = up σ 6 0 37 l9 (σ 6 0 36 l9) := ⟨_, rfl⟩
      replace h := h σ4 eσ4
      refine aw_mem eσ4 ?_
      refine aw_iinc X dX6_answerTo_348 rfl rfl ?_
      obtain ⟨x5, ex5⟩ : ∃ z : Int, z = (l9 + 1) := ⟨_, rfl⟩
      replace h := h x5 ex5
      refine aw_als (als' := [some (.ref (ad (6, 0, 0))), some (.int (oI l1)), none, none, some (.int (oI l4)), some (.int (oI l5)), none, none, none, some (.int (oI x5)), none]) (by subst ex5; rfl) ?_
      refine aw_goto X dX6_answerTo_351 (tgt := 328) (by decide) ?_
      refine aw_weak (als' := [some (.ref (ad (6, 0, 0))), some (.int (oI l1)), none, none, some (.int (oI l4)), some (.int (oI l5)), none, none, none, some (.int (oI x5)), none]) ⟨rfl, rfl, rfl, rfl, rfl, trivial⟩ ?_
      exact ih _ _ _ _ _ h

set_option maxHeartbeats 4000000 in
set_option maxRecDepth 100000 in
theorem m_Mo_answerTo_321 {p : Program} {l : Launch} {e : Env} {R : Room} {s : State} {m : MethodId} {args : Array Value} {below : List Frame} {meth : Method} {c : Code} {D : va_G} {ad : Ky → Nat} {tc : Tc} {A : Nat → Prop} {cs sl : Nat} {Qm : State → Prop} (X : Cx p s m args c cX6_answerTo RX6 11 D ad tc A) (hR : RmOK R cs sl 1 21) {Q : Int → Mem → Prop} (hret : RtI p l e R s m args below meth c D ad tc A cs sl Qm cX6_answerTo Q) {k158 : Int → Int → Int → Int → Mem → Prop} (hk158 : ∀ (l1 : Int) (l4 : Int) (l5 : Int) (l6 : Int) (σ : Mem), k158 l1 l4 l5 l6 σ → AW p l e R s m args below meth c D ad tc A cs sl Qm 158 [some (.ref (ad (6, 0, 0))), some (.int (oI l1)), none, none, some (.int (oI l4)), some (.int (oI l5)), some (.int (oI l6)), none, none, none, none] [] σ) {l1 : Int} {l4 : Int} {l8 : Int} {σ : Mem} (h : Mo_answerTo_321 k158 Q l1 l4 l8 σ) : AW p l e R s m args below meth c D ad tc A cs sl Qm 321 [some (.ref (ad (6, 0, 0))), some (.int (oI l1)), none, none, some (.int (oI l4)), none, none, none, some (.int (oI l8)), none, none] [] σ := by
  unfold Mo_answerTo_321 at h
  refine aw_iload X dX6_answerTo_321 rfl ?_
  refine aw_istore X dX6_answerTo_323 (Nat.le_of_ble_eq_true rfl) rfl ?_
  refine aw_als (als' := [some (.ref (ad (6, 0, 0))), some (.int (oI l1)), none, none, some (.int (oI l4)), some (.int (oI l8)), none, none, some (.int (oI l8)), none, none]) rfl ?_
  refine aw_iconst X dX6_answerTo_325 ?_
  refine aw_istore X dX6_answerTo_326 (Nat.le_of_ble_eq_true rfl) rfl ?_
  refine aw_als (als' := [some (.ref (ad (6, 0, 0))), some (.int (oI l1)), none, none, some (.int (oI l4)), some (.int (oI l8)), none, none, some (.int (oI l8)), some (.int (oI 0)), none]) rfl ?_
  refine aw_weak (als' := [some (.ref (ad (6, 0, 0))), some (.int (oI l1)), none, none, some (.int (oI l4)), some (.int (oI l8)), none, none, none, some (.int (oI 0)), none]) ⟨rfl, rfl, rfl, rfl, rfl, trivial⟩ ?_
  obtain ⟨n0, h⟩ := h
  exact m_Mo_answerTo_328 X hR hret hk158 n0 _ _ _ _ _ h

set_option maxHeartbeats 4000000 in
set_option maxRecDepth 100000 in
theorem m_Mo_answerTo_270 {p : Program} {l : Launch} {e : Env} {R : Room} {s : State} {m : MethodId} {args : Array Value} {below : List Frame} {meth : Method} {c : Code} {D : va_G} {ad : Ky → Nat} {tc : Tc} {A : Nat → Prop} {cs sl : Nat} {Qm : State → Prop} (X : Cx p s m args c cX6_answerTo RX6 11 D ad tc A) (hR : RmOK R cs sl 1 21) {Q : Int → Mem → Prop} (hret : RtI p l e R s m args below meth c D ad tc A cs sl Qm cX6_answerTo Q) {k158 : Int → Int → Int → Int → Mem → Prop} (hk158 : ∀ (l1 : Int) (l4 : Int) (l5 : Int) (l6 : Int) (σ : Mem), k158 l1 l4 l5 l6 σ → AW p l e R s m args below meth c D ad tc A cs sl Qm 158 [some (.ref (ad (6, 0, 0))), some (.int (oI l1)), none, none, some (.int (oI l4)), some (.int (oI l5)), some (.int (oI l6)), none, none, none, none] [] σ) : ∀ (n : Nat) (l1 : Int) (l4 : Int) (l5 : Int) (l8 : Int) (l9 : Int) (σ : Mem), Mo_answerTo_270 k158 Q n l1 l4 l5 l8 l9 σ → AW p l e R s m args below meth c D ad tc A cs sl Qm 270 [some (.ref (ad (6, 0, 0))), some (.int (oI l1)), none, none, some (.int (oI l4)), some (.int (oI l5)), none, none, some (.int (oI l8)), some (.int (oI l9)), none] [] σ := by
  intro n
  induction n with
  | zero =>
    intro l1 l4 l5 l8 l9 σ h
    exact False.elim h
  | succ n ih =>
    intro l1 l4 l5 l8 l9 σ h
    unfold Mo_answerTo_270 at h
    refine aw_iload X dX6_answerTo_270 rfl ?_
    refine aw_iload X dX6_answerTo_272 rfl ?_
    obtain ⟨g1, h⟩ := h
    obtain ⟨g2, h⟩ := h
    refine aw_icmp_ge X dX6_answerTo_274 (tgt := 307) (by decide) g1 g2 (fun hc => ?_) (fun hc => ?_)
    · replace h := h.1 hc
      refine aw_iload X dX6_answerTo_307 rfl ?_
      refine aw_bipush X dX6_answerTo_309 rfl ?_
      obtain ⟨g3, h⟩ := h
      refine aw_icmp_eq X dX6_answerTo_311 (tgt := 321) (by decide) g3 ⟨by decide, by decide⟩ (fun hc => ?_) (fun hc => ?_)
      · replace h := h.1 hc
        refine aw_weak (als' := [some (.ref (ad (6, 0, 0))), some (.int (oI l1)), none, none, some (.int (oI l4)), none, none, none, some (.int (oI l8)), none, none]) ⟨rfl, rfl, rfl, rfl, trivial⟩ ?_
        exact m_Mo_answerTo_321 X hR hret hk158 h
      · replace h := h.2 hc
        refine aw_iload X dX6_answerTo_314 rfl ?_
        refine aw_iload X dX6_answerTo_316 rfl ?_
        obtain ⟨g5, h⟩ := h
        obtain ⟨g6, h⟩ := h
        refine aw_icmp_ge X dX6_answerTo_318 (tgt := 354) (by decide) g5 g6 (fun hc => ?_) (fun hc => ?_)
        · replace h := h.1 hc
          refine aw_weak (als' := [some (.ref (ad (6, 0, 0))), some (.int (oI l1)), none, none, some (.int (oI l4)), some (.int (oI l5)), none, none, none, none, none]) ⟨rfl, rfl, rfl, rfl, trivial⟩ ?_
          exact m_Mo_answerTo_354 X hR hret hk158 h
        · replace h := h.2 hc
          refine aw_weak (als' := [some (.ref (ad (6, 0, 0))), some (.int (oI l1)), none, none, some (.int (oI l4)), none, none, none, some (.int (oI l8)), none, none]) ⟨rfl, rfl, rfl, rfl, trivial⟩ ?_
          exact m_Mo_answerTo_321 X hR hret hk158 h
    · replace h := h.2 hc
      refine aw_iload X dX6_answerTo_277 rfl ?_
      refine aw_aload_n X dX6_answerTo_279 rfl ?_
      refine aw_get X ob_6 fl_X6_42 rfl dX6_answerTo_280 ?_
      refine aw_iconst X dX6_answerTo_283 ?_
      refine aw_iload_n X dX6_answerTo_284 rfl ?_
      refine aw_imul X dX6_answerTo_285 ?_
      refine aw_iload X dX6_answerTo_286 rfl ?_
      refine aw_iadd X dX6_answerTo_288 ?_
      obtain ⟨g7a, g7b, h⟩ := h
      refine aw_iald X ar_6_12 g7a g7b dX6_answerTo_289 ?_
      refine aw_aload_n X dX6_answerTo_290 rfl ?_
      refine aw_get X ob_6 fl_X6_93 rfl dX6_answerTo_291 ?_
      refine aw_iload X dX6_answerTo_294 rfl ?_
      obtain ⟨g8a, g8b, h⟩ := h
      refine aw_iald X ar_6_36 g8a g8b dX6_answerTo_296 ?_
      refine aw_imul X dX6_answerTo_297 ?_
      refine aw_iadd X dX6_answerTo_298 ?_
      refine aw_istore X dX6_answerTo_299 (Nat.le_of_ble_eq_true rfl) rfl ?_
      obtain ⟨x9, ex9⟩ : ∃ z : Int, z = (l8 + ((σ 6 0 12 ((4 * l1) + l9)) * (σ 6 0 36 l9))) := ⟨_, rfl⟩
      replace h := h x9 ex9
      refine aw_als (als' := [some (.ref (ad (6, 0, 0))), some (.int (oI l1)), none, none, some (.int (oI l4)), some (.int (oI l5)), none, none, some (.int (oI x9)), some (.int (oI l9)), none]) (by subst ex9; rfl) ?_
      refine aw_iinc X dX6_answerTo_301 rfl rfl ?_
      obtain ⟨x10, ex10⟩ : ∃ z : Int, z = (l9 + 1) := ⟨_, rfl⟩
      replace h := h x10 ex10
      refine aw_als (als' := [some (.ref (ad (6, 0, 0))), some (.int (oI l1)), none, none, some (.int (oI l4)), some (.int (oI l5)), none, none, some (.int (oI x9)), some (.int (oI x10)), none]) (by subst ex10; rfl) ?_
      refine aw_goto X dX6_answerTo_304 (tgt := 270) (by decide) ?_
      refine aw_weak (als' := [some (.ref (ad (6, 0, 0))), some (.int (oI l1)), none, none, some (.int (oI l4)), some (.int (oI l5)), none, none, some (.int (oI x9)), some (.int (oI x10)), none]) ⟨rfl, rfl, rfl, rfl, rfl, rfl, trivial⟩ ?_
      exact ih _ _ _ _ _ _ h

set_option maxHeartbeats 4000000 in
set_option maxRecDepth 100000 in
theorem m_Mo_answerTo_259 {p : Program} {l : Launch} {e : Env} {R : Room} {s : State} {m : MethodId} {args : Array Value} {below : List Frame} {meth : Method} {c : Code} {D : va_G} {ad : Ky → Nat} {tc : Tc} {A : Nat → Prop} {cs sl : Nat} {Qm : State → Prop} (X : Cx p s m args c cX6_answerTo RX6 11 D ad tc A) (hR : RmOK R cs sl 1 21) {Q : Int → Mem → Prop} (hret : RtI p l e R s m args below meth c D ad tc A cs sl Qm cX6_answerTo Q) {k158 : Int → Int → Int → Int → Mem → Prop} (hk158 : ∀ (l1 : Int) (l4 : Int) (l5 : Int) (l6 : Int) (σ : Mem), k158 l1 l4 l5 l6 σ → AW p l e R s m args below meth c D ad tc A cs sl Qm 158 [some (.ref (ad (6, 0, 0))), some (.int (oI l1)), none, none, some (.int (oI l4)), some (.int (oI l5)), some (.int (oI l6)), none, none, none, none] [] σ) {l1 : Int} {l4 : Int} {l5 : Int} {l7 : Int} {σ : Mem} (h : Mo_answerTo_259 k158 Q l1 l4 l5 l7 σ) : AW p l e R s m args below meth c D ad tc A cs sl Qm 259 [some (.ref (ad (6, 0, 0))), some (.int (oI l1)), none, none, some (.int (oI l4)), some (.int (oI l5)), none, some (.int (oI l7)), none, none, none] [] σ := by
  unfold Mo_answerTo_259 at h
  refine aw_iload X dX6_answerTo_259 rfl ?_
  obtain ⟨g1, h⟩ := h
  refine aw_if_eq X dX6_answerTo_261 (tgt := 354) (by decide) g1 (fun hc => ?_) (fun hc => ?_)
  · replace h := h.1 hc
    refine aw_weak (als' := [some (.ref (ad (6, 0, 0))), some (.int (oI l1)), none, none, some (.int (oI l4)), some (.int (oI l5)), none, none, none, none, none]) ⟨rfl, rfl, rfl, rfl, trivial⟩ ?_
    exact m_Mo_answerTo_354 X hR hret hk158 h
  · replace h := h.2 hc
    refine aw_iconst X dX6_answerTo_264 ?_
    refine aw_istore X dX6_answerTo_265 (Nat.le_of_ble_eq_true rfl) rfl ?_
    refine aw_als (als' := [some (.ref (ad (6, 0, 0))), some (.int (oI l1)), none, none, some (.int (oI l4)), some (.int (oI l5)), none, some (.int (oI l7)), some (.int (oI 0)), none, none]) rfl ?_
    refine aw_iconst X dX6_answerTo_267 ?_
    refine aw_istore X dX6_answerTo_268 (Nat.le_of_ble_eq_true rfl) rfl ?_
    refine aw_als (als' := [some (.ref (ad (6, 0, 0))), some (.int (oI l1)), none, none, some (.int (oI l4)), some (.int (oI l5)), none, some (.int (oI l7)), some (.int (oI 0)), some (.int (oI 0)), none]) rfl ?_
    refine aw_weak (als' := [some (.ref (ad (6, 0, 0))), some (.int (oI l1)), none, none, some (.int (oI l4)), some (.int (oI l5)), none, none, some (.int (oI 0)), some (.int (oI 0)), none]) ⟨rfl, rfl, rfl, rfl, rfl, rfl, trivial⟩ ?_
    obtain ⟨n0, h⟩ := h
    exact m_Mo_answerTo_270 X hR hret hk158 n0 _ _ _ _ _ _ h

set_option maxHeartbeats 4000000 in
set_option maxRecDepth 100000 in
theorem m_Mo_answerTo_251 {p : Program} {l : Launch} {e : Env} {R : Room} {s : State} {m : MethodId} {args : Array Value} {below : List Frame} {meth : Method} {c : Code} {D : va_G} {ad : Ky → Nat} {tc : Tc} {A : Nat → Prop} {cs sl : Nat} {Qm : State → Prop} (X : Cx p s m args c cX6_answerTo RX6 11 D ad tc A) (hR : RmOK R cs sl 1 21) {Q : Int → Mem → Prop} (hret : RtI p l e R s m args below meth c D ad tc A cs sl Qm cX6_answerTo Q) {k169 : Int → Int → Int → Int → Int → Mem → Prop} (hk169 : ∀ (l1 : Int) (l4 : Int) (l5 : Int) (l7 : Int) (l8 : Int) (σ : Mem), k169 l1 l4 l5 l7 l8 σ → AW p l e R s m args below meth c D ad tc A cs sl Qm 169 [some (.ref (ad (6, 0, 0))), some (.int (oI l1)), none, none, some (.int (oI l4)), some (.int (oI l5)), none, some (.int (oI l7)), some (.int (oI l8)), none, none] [] σ) {l1 : Int} {l4 : Int} {l5 : Int} {l8 : Int} {s0 : Int} {σ : Mem} (h : Mo_answerTo_251 k169 Q l1 l4 l5 l8 s0 σ) : AW p l e R s m args below meth c D ad tc A cs sl Qm 251 [some (.ref (ad (6, 0, 0))), some (.int (oI l1)), none, none, some (.int (oI l4)), some (.int (oI l5)), none, none, some (.int (oI l8)), none, none] [.int (oI s0)] σ := by
  unfold Mo_answerTo_251 at h
  refine aw_istore X dX6_answerTo_251 (Nat.le_of_ble_eq_true rfl) rfl ?_
  refine aw_als (als' := [some (.ref (ad (6, 0, 0))), some (.int (oI l1)), none, none, some (.int (oI l4)), some (.int (oI l5)), none, some (.int (oI s0)), some (.int (oI l8)), none, none]) rfl ?_
  refine aw_iinc X dX6_answerTo_253 rfl rfl ?_
  obtain ⟨x1, ex1⟩ : ∃ z : Int, z = (l8 + 1) := ⟨_, rfl⟩
  replace h := h x1 ex1
  refine aw_als (als' := [some (.ref (ad (6, 0, 0))), some (.int (oI l1)), none, none, some (.int (oI l4)), some (.int (oI l5)), none, some (.int (oI s0)), some (.int (oI x1)), none, none]) (by subst ex1; rfl) ?_
  refine aw_goto X dX6_answerTo_256 (tgt := 169) (by decide) ?_
  refine aw_weak (als' := [some (.ref (ad (6, 0, 0))), some (.int (oI l1)), none, none, some (.int (oI l4)), some (.int (oI l5)), none, some (.int (oI s0)), some (.int (oI x1)), none, none]) ⟨rfl, rfl, rfl, rfl, rfl, rfl, trivial⟩ ?_
  exact hk169 _ _ _ _ _ _ h

set_option maxHeartbeats 4000000 in
set_option maxRecDepth 100000 in
theorem m_Mo_answerTo_191 {p : Program} {l : Launch} {e : Env} {R : Room} {s : State} {m : MethodId} {args : Array Value} {below : List Frame} {meth : Method} {c : Code} {D : va_G} {ad : Ky → Nat} {tc : Tc} {A : Nat → Prop} {cs sl : Nat} {Qm : State → Prop} (X : Cx p s m args c cX6_answerTo RX6 11 D ad tc A) (hR : RmOK R cs sl 1 21) {Q : Int → Mem → Prop} (hret : RtI p l e R s m args below meth c D ad tc A cs sl Qm cX6_answerTo Q) {k169 : Int → Int → Int → Int → Int → Mem → Prop} (hk169 : ∀ (l1 : Int) (l4 : Int) (l5 : Int) (l7 : Int) (l8 : Int) (σ : Mem), k169 l1 l4 l5 l7 l8 σ → AW p l e R s m args below meth c D ad tc A cs sl Qm 169 [some (.ref (ad (6, 0, 0))), some (.int (oI l1)), none, none, some (.int (oI l4)), some (.int (oI l5)), none, some (.int (oI l7)), some (.int (oI l8)), none, none] [] σ) : ∀ (n : Nat) (l1 : Int) (l4 : Int) (l5 : Int) (l8 : Int) (l9 : Int) (l10 : Int) (σ : Mem), Mo_answerTo_191 k169 Q n l1 l4 l5 l8 l9 l10 σ → AW p l e R s m args below meth c D ad tc A cs sl Qm 191 [some (.ref (ad (6, 0, 0))), some (.int (oI l1)), none, none, some (.int (oI l4)), some (.int (oI l5)), none, none, some (.int (oI l8)), some (.int (oI l9)), some (.int (oI l10))] [] σ := by
  intro n
  induction n with
  | zero =>
    intro l1 l4 l5 l8 l9 l10 σ h
    exact False.elim h
  | succ n ih =>
    intro l1 l4 l5 l8 l9 l10 σ h
    unfold Mo_answerTo_191 at h
    refine aw_iload X dX6_answerTo_191 rfl ?_
    refine aw_iload X dX6_answerTo_193 rfl ?_
    obtain ⟨g1, h⟩ := h
    obtain ⟨g2, h⟩ := h
    refine aw_icmp_ge X dX6_answerTo_195 (tgt := 234) (by decide) g1 g2 (fun hc => ?_) (fun hc => ?_)
    · replace h := h.1 hc
      refine aw_iload X dX6_answerTo_234 rfl ?_
      refine aw_aload_n X dX6_answerTo_236 rfl ?_
      refine aw_get X ob_6 fl_X6_90 rfl dX6_answerTo_237 ?_
      refine aw_iload X dX6_answerTo_240 rfl ?_
      obtain ⟨g3a, g3b, h⟩ := h
      refine aw_iald X ar_6_35 g3a g3b dX6_answerTo_242 ?_
      obtain ⟨g4, h⟩ := h
      obtain ⟨g5, h⟩ := h
      refine aw_icmp_gt X dX6_answerTo_243 (tgt := 250) (by decide) g4 g5 (fun hc => ?_) (fun hc => ?_)
      · replace h := h.1 hc
        refine aw_iconst X dX6_answerTo_250 ?_
        refine aw_weak (als' := [some (.ref (ad (6, 0, 0))), some (.int (oI l1)), none, none, some (.int (oI l4)), some (.int (oI l5)), none, none, some (.int (oI l8)), none, none]) ⟨rfl, rfl, rfl, rfl, rfl, trivial⟩ ?_
        exact m_Mo_answerTo_251 X hR hret hk169 h
      · replace h := h.2 hc
        refine aw_iconst X dX6_answerTo_246 ?_
        refine aw_goto X dX6_answerTo_247 (tgt := 251) (by decide) ?_
        refine aw_weak (als' := [some (.ref (ad (6, 0, 0))), some (.int (oI l1)), none, none, some (.int (oI l4)), some (.int (oI l5)), none, none, some (.int (oI l8)), none, none]) ⟨rfl, rfl, rfl, rfl, rfl, trivial⟩ ?_
        exact m_Mo_answerTo_251 X hR hret hk169 h
    · replace h := h.2 hc
      refine aw_iload X dX6_answerTo_198 rfl ?_
      refine aw_aload_n X dX6_answerTo_200 rfl ?_
      refine aw_get X ob_6 fl_X6_51 rfl dX6_answerTo_201 ?_
      refine aw_iconst X dX6_answerTo_204 ?_
      refine aw_bipush X dX6_answerTo_205 rfl ?_
      refine aw_iload_n X dX6_answerTo_207 rfl ?_
      refine aw_imul X dX6_answerTo_208 ?_
      refine aw_iload X dX6_answerTo_209 rfl ?_
      refine aw_iadd X dX6_answerTo_211 ?_
      refine aw_imul X dX6_answerTo_212 ?_
      refine aw_iload X dX6_answerTo_213 rfl ?_
      refine aw_iadd X dX6_answerTo_215 ?_
      obtain ⟨g6a, g6b, h⟩ := h
      refine aw_iald X ar_6_15 g6a g6b dX6_answerTo_216 ?_
      refine aw_aload_n X dX6_answerTo_217 rfl ?_
      refine aw_get X ob_6 fl_X6_93 rfl dX6_answerTo_218 ?_
      refine aw_iload X dX6_answerTo_221 rfl ?_
      obtain ⟨g7a, g7b, h⟩ := h
      refine aw_iald X ar_6_36 g7a g7b dX6_answerTo_223 ?_
      refine aw_imul X dX6_answerTo_224 ?_
      refine aw_iadd X dX6_answerTo_225 ?_
      refine aw_istore X dX6_answerTo_226 (Nat.le_of_ble_eq_true rfl) rfl ?_
      obtain ⟨x8, ex8⟩ : ∃ z : Int, z = (l9 + ((σ 6 0 15 ((4 * ((6 * l1) + l8)) + l10)) * (σ 6 0 36 l10))) := ⟨_, rfl⟩
      replace h := h x8 ex8
      refine aw_als (als' := [some (.ref (ad (6, 0, 0))), some (.int (oI l1)), none, none, some (.int (oI l4)), some (.int (oI l5)), none, none, some (.int (oI l8)), some (.int (oI x8)), some (.int (oI l10))]) (by subst ex8; rfl) ?_
      refine aw_iinc X dX6_answerTo_228 rfl rfl ?_
      obtain ⟨x9, ex9⟩ : ∃ z : Int, z = (l10 + 1) := ⟨_, rfl⟩
      replace h := h x9 ex9
      refine aw_als (als' := [some (.ref (ad (6, 0, 0))), some (.int (oI l1)), none, none, some (.int (oI l4)), some (.int (oI l5)), none, none, some (.int (oI l8)), some (.int (oI x8)), some (.int (oI x9))]) (by subst ex9; rfl) ?_
      refine aw_goto X dX6_answerTo_231 (tgt := 191) (by decide) ?_
      refine aw_weak (als' := [some (.ref (ad (6, 0, 0))), some (.int (oI l1)), none, none, some (.int (oI l4)), some (.int (oI l5)), none, none, some (.int (oI l8)), some (.int (oI x8)), some (.int (oI x9))]) ⟨rfl, rfl, rfl, rfl, rfl, rfl, rfl, trivial⟩ ?_
      exact ih _ _ _ _ _ _ _ h

set_option maxHeartbeats 4000000 in
set_option maxRecDepth 100000 in
theorem m_Mo_answerTo_169 {p : Program} {l : Launch} {e : Env} {R : Room} {s : State} {m : MethodId} {args : Array Value} {below : List Frame} {meth : Method} {c : Code} {D : va_G} {ad : Ky → Nat} {tc : Tc} {A : Nat → Prop} {cs sl : Nat} {Qm : State → Prop} (X : Cx p s m args c cX6_answerTo RX6 11 D ad tc A) (hR : RmOK R cs sl 1 21) {Q : Int → Mem → Prop} (hret : RtI p l e R s m args below meth c D ad tc A cs sl Qm cX6_answerTo Q) {k158 : Int → Int → Int → Int → Mem → Prop} (hk158 : ∀ (l1 : Int) (l4 : Int) (l5 : Int) (l6 : Int) (σ : Mem), k158 l1 l4 l5 l6 σ → AW p l e R s m args below meth c D ad tc A cs sl Qm 158 [some (.ref (ad (6, 0, 0))), some (.int (oI l1)), none, none, some (.int (oI l4)), some (.int (oI l5)), some (.int (oI l6)), none, none, none, none] [] σ) : ∀ (n : Nat) (l1 : Int) (l4 : Int) (l5 : Int) (l7 : Int) (l8 : Int) (σ : Mem), Mo_answerTo_169 k158 Q n l1 l4 l5 l7 l8 σ → AW p l e R s m args below meth c D ad tc A cs sl Qm 169 [some (.ref (ad (6, 0, 0))), some (.int (oI l1)), none, none, some (.int (oI l4)), some (.int (oI l5)), none, some (.int (oI l7)), some (.int (oI l8)), none, none] [] σ := by
  intro n
  induction n with
  | zero =>
    intro l1 l4 l5 l7 l8 σ h
    exact False.elim h
  | succ n ih =>
    intro l1 l4 l5 l7 l8 σ h
    unfold Mo_answerTo_169 at h
    refine aw_iload X dX6_answerTo_169 rfl ?_
    refine aw_aload_n X dX6_answerTo_171 rfl ?_
    refine aw_get X ob_6 fl_X6_45 rfl dX6_answerTo_172 ?_
    refine aw_iload_n X dX6_answerTo_175 rfl ?_
    obtain ⟨g1a, g1b, h⟩ := h
    refine aw_iald X ar_6_13 g1a g1b dX6_answerTo_176 ?_
    obtain ⟨g2, h⟩ := h
    obtain ⟨g3, h⟩ := h
    refine aw_icmp_ge X dX6_answerTo_177 (tgt := 259) (by decide) g2 g3 (fun hc => ?_) (fun hc => ?_)
    · replace h := h.1 hc
      refine aw_weak (als' := [some (.ref (ad (6, 0, 0))), some (.int (oI l1)), none, none, some (.int (oI l4)), some (.int (oI l5)), none, some (.int (oI l7)), none, none, none]) ⟨rfl, rfl, rfl, rfl, rfl, trivial⟩ ?_
      exact m_Mo_answerTo_259 X hR hret hk158 h
    · replace h := h.2 hc
      refine aw_iload X dX6_answerTo_180 rfl ?_
      obtain ⟨g4, h⟩ := h
      refine aw_if_eq X dX6_answerTo_182 (tgt := 259) (by decide) g4 (fun hc => ?_) (fun hc => ?_)
      · replace h := h.1 hc
        refine aw_weak (als' := [some (.ref (ad (6, 0, 0))), some (.int (oI l1)), none, none, some (.int (oI l4)), some (.int (oI l5)), none, some (.int (oI l7)), none, none, none]) ⟨rfl, rfl, rfl, rfl, rfl, trivial⟩ ?_
        exact m_Mo_answerTo_259 X hR hret hk158 h
      · replace h := h.2 hc
        refine aw_iconst X dX6_answerTo_185 ?_
        refine aw_istore X dX6_answerTo_186 (Nat.le_of_ble_eq_true rfl) rfl ?_
        refine aw_als (als' := [some (.ref (ad (6, 0, 0))), some (.int (oI l1)), none, none, some (.int (oI l4)), some (.int (oI l5)), none, some (.int (oI l7)), some (.int (oI l8)), some (.int (oI 0)), none]) rfl ?_
        refine aw_iconst X dX6_answerTo_188 ?_
        refine aw_istore X dX6_answerTo_189 (Nat.le_of_ble_eq_true rfl) rfl ?_
        refine aw_als (als' := [some (.ref (ad (6, 0, 0))), some (.int (oI l1)), none, none, some (.int (oI l4)), some (.int (oI l5)), none, some (.int (oI l7)), some (.int (oI l8)), some (.int (oI 0)), some (.int (oI 0))]) rfl ?_
        refine aw_weak (als' := [some (.ref (ad (6, 0, 0))), some (.int (oI l1)), none, none, some (.int (oI l4)), some (.int (oI l5)), none, none, some (.int (oI l8)), some (.int (oI 0)), some (.int (oI 0))]) ⟨rfl, rfl, rfl, rfl, rfl, rfl, rfl, trivial⟩ ?_
        obtain ⟨n0, h⟩ := h
        exact m_Mo_answerTo_191 X hR hret ih n0 _ _ _ _ _ _ _ h

set_option maxHeartbeats 4000000 in
set_option maxRecDepth 100000 in
theorem m_Mo_answerTo_158 {p : Program} {l : Launch} {e : Env} {R : Room} {s : State} {m : MethodId} {args : Array Value} {below : List Frame} {meth : Method} {c : Code} {D : va_G} {ad : Ky → Nat} {tc : Tc} {A : Nat → Prop} {cs sl : Nat} {Qm : State → Prop} (X : Cx p s m args c cX6_answerTo RX6 11 D ad tc A) (hR : RmOK R cs sl 1 21) {Q : Int → Mem → Prop} (hret : RtI p l e R s m args below meth c D ad tc A cs sl Qm cX6_answerTo Q) : ∀ (n : Nat) (l1 : Int) (l4 : Int) (l5 : Int) (l6 : Int) (σ : Mem), Mo_answerTo_158 Q n l1 l4 l5 l6 σ → AW p l e R s m args below meth c D ad tc A cs sl Qm 158 [some (.ref (ad (6, 0, 0))), some (.int (oI l1)), none, none, some (.int (oI l4)), some (.int (oI l5)), some (.int (oI l6)), none, none, none, none] [] σ := by
  intro n
  induction n with
  | zero =>
    intro l1 l4 l5 l6 σ h
    exact False.elim h
  | succ n ih =>
    intro l1 l4 l5 l6 σ h
    unfold Mo_answerTo_158 at h
    refine aw_iload X dX6_answerTo_158 rfl ?_
    obtain ⟨g1, h⟩ := h
    refine aw_if_eq X dX6_answerTo_160 (tgt := 431) (by decide) g1 (fun hc => ?_) (fun hc => ?_)
    · replace h := h.1 hc
      refine aw_iload X dX6_answerTo_431 rfl ?_
      exact hret 433 _ _ _ dX6_answerTo_433 h
    · replace h := h.2 hc
      refine aw_iconst X dX6_answerTo_163 ?_
      refine aw_istore X dX6_answerTo_164 (Nat.le_of_ble_eq_true rfl) rfl ?_
      refine aw_als (als' := [some (.ref (ad (6, 0, 0))), some (.int (oI l1)), none, none, some (.int (oI l4)), some (.int (oI l5)), some (.int (oI l6)), some (.int (oI 1)), none, none, none]) rfl ?_
      refine aw_iconst X dX6_answerTo_166 ?_
      refine aw_istore X dX6_answerTo_167 (Nat.le_of_ble_eq_true rfl) rfl ?_
      refine aw_als (als' := [some (.ref (ad (6, 0, 0))), some (.int (oI l1)), none, none, some (.int (oI l4)), some (.int (oI l5)), some (.int (oI l6)), some (.int (oI 1)), some (.int (oI 0)), none, none]) rfl ?_
      refine aw_weak (als' := [some (.ref (ad (6, 0, 0))), some (.int (oI l1)), none, none, some (.int (oI l4)), some (.int (oI l5)), none, some (.int (oI 1)), some (.int (oI 0)), none, none]) ⟨rfl, rfl, rfl, rfl, rfl, rfl, trivial⟩ ?_
      obtain ⟨n0, h⟩ := h
      exact m_Mo_answerTo_169 X hR hret ih n0 _ _ _ _ _ _ h

set_option maxHeartbeats 4000000 in
set_option maxRecDepth 100000 in
theorem m_Mo_answerTo_135 {p : Program} {l : Launch} {e : Env} {R : Room} {s : State} {m : MethodId} {args : Array Value} {below : List Frame} {meth : Method} {c : Code} {D : va_G} {ad : Ky → Nat} {tc : Tc} {A : Nat → Prop} {cs sl : Nat} {Qm : State → Prop} (X : Cx p s m args c cX6_answerTo RX6 11 D ad tc A) (hR : RmOK R cs sl 1 21) {Q : Int → Mem → Prop} (hret : RtI p l e R s m args below meth c D ad tc A cs sl Qm cX6_answerTo Q) : ∀ (n : Nat) (l1 : Int) (l4 : Int) (l5 : Int) (l6 : Int) (σ : Mem), Mo_answerTo_135 Q n l1 l4 l5 l6 σ → AW p l e R s m args below meth c D ad tc A cs sl Qm 135 [some (.ref (ad (6, 0, 0))), some (.int (oI l1)), none, none, some (.int (oI l4)), some (.int (oI l5)), some (.int (oI l6)), none, none, none, none] [] σ := by
  intro n
  induction n with
  | zero =>
    intro l1 l4 l5 l6 σ h
    exact False.elim h
  | succ n ih =>
    intro l1 l4 l5 l6 σ h
    unfold Mo_answerTo_135 at h
    refine aw_iload X dX6_answerTo_135 rfl ?_
    refine aw_iconst X dX6_answerTo_137 ?_
    obtain ⟨g1, h⟩ := h
    refine aw_icmp_ge X dX6_answerTo_138 (tgt := 155) (by decide) g1 ⟨by decide, by decide⟩ (fun hc => ?_) (fun hc => ?_)
    · replace h := h.1 hc
      refine aw_iconst X dX6_answerTo_155 ?_
      refine aw_istore X dX6_answerTo_156 (Nat.le_of_ble_eq_true rfl) rfl ?_
      refine aw_als (als' := [some (.ref (ad (6, 0, 0))), some (.int (oI l1)), none, none, some (.int (oI l4)), some (.int (oI l5)), some (.int (oI 1)), none, none, none, none]) rfl ?_
      refine aw_weak (als' := [some (.ref (ad (6, 0, 0))), some (.int (oI l1)), none, none, some (.int (oI l4)), some (.int (oI l5)), some (.int (oI 1)), none, none, none, none]) ⟨rfl, rfl, rfl, rfl, rfl, trivial⟩ ?_
      obtain ⟨n0, h⟩ := h
      exact m_Mo_answerTo_158 X hR hret n0 _ _ _ _ _ h
    · replace h := h.2 hc
      refine aw_aload_n X dX6_answerTo_141 rfl ?_
      refine aw_get X ob_6 fl_X6_93 rfl dX6_answerTo_142 ?_
      refine aw_iload X dX6_answerTo_145 rfl ?_
      refine aw_iconst X dX6_answerTo_147 ?_
      obtain ⟨g3a, g3b, h⟩ := h
      refine aw_iast X ar_6_36 g3a g3b dX6_answerTo_148 ?_
      obtain ⟨σ3, eσ3⟩ : ∃ z : Mem, z = up σ 6 0 36 l6 0 := ⟨_, rfl⟩
      replace h := h σ3 eσ3
      refine aw_mem eσ3 ?_
      refine aw_iinc X dX6_answerTo_149 rfl rfl ?_
      obtain ⟨x4, ex4⟩ : ∃ z : Int, z = (l6 + 1) := ⟨_, rfl⟩
      replace h := h x4 ex4
      refine aw_als (als' := [some (.ref (ad (6, 0, 0))), some (.int (oI l1)), none, none, some (.int (oI l4)), some (.int (oI l5)), some (.int (oI x4)), none, none, none, none]) (by subst ex4; rfl) ?_
      refine aw_goto X dX6_answerTo_152 (tgt := 135) (by decide) ?_
      refine aw_weak (als' := [some (.ref (ad (6, 0, 0))), some (.int (oI l1)), none, none, some (.int (oI l4)), some (.int (oI l5)), some (.int (oI x4)), none, none, none, none]) ⟨rfl, rfl, rfl, rfl, rfl, trivial⟩ ?_
      exact ih _ _ _ _ _ h

set_option maxHeartbeats 4000000 in
set_option maxRecDepth 100000 in
theorem m_Mo_answerTo_49 {p : Program} {l : Launch} {e : Env} {R : Room} {s : State} {m : MethodId} {args : Array Value} {below : List Frame} {meth : Method} {c : Code} {D : va_G} {ad : Ky → Nat} {tc : Tc} {A : Nat → Prop} {cs sl : Nat} {Qm : State → Prop} (X : Cx p s m args c cX6_answerTo RX6 11 D ad tc A) (hR : RmOK R cs sl 1 21) {Q : Int → Mem → Prop} (hret : RtI p l e R s m args below meth c D ad tc A cs sl Qm cX6_answerTo Q) {k3 : Int → Int → Int → Int → Mem → Prop} (hk3 : ∀ (l1 : Int) (l2 : Int) (l3 : Int) (l4 : Int) (σ : Mem), k3 l1 l2 l3 l4 σ → AW p l e R s m args below meth c D ad tc A cs sl Qm 3 [some (.ref (ad (6, 0, 0))), some (.int (oI l1)), some (.int (oI l2)), some (.int (oI l3)), some (.int (oI l4)), none, none, none, none, none, none] [] σ) : ∀ (n : Nat) (l1 : Int) (l2 : Int) (l3 : Int) (l4 : Int) (l5 : Int) (l6 : Int) (σ : Mem), Mo_answerTo_49 k3 Q n l1 l2 l3 l4 l5 l6 σ → AW p l e R s m args below meth c D ad tc A cs sl Qm 49 [some (.ref (ad (6, 0, 0))), some (.int (oI l1)), some (.int (oI l2)), some (.int (oI l3)), some (.int (oI l4)), some (.int (oI l5)), some (.int (oI l6)), none, none, none, none] [] σ := by
  intro n
  induction n with
  | zero =>
    intro l1 l2 l3 l4 l5 l6 σ h
    exact False.elim h
  | succ n ih =>
    intro l1 l2 l3 l4 l5 l6 σ h
    unfold Mo_answerTo_49 at h
    refine aw_iload X dX6_answerTo_49 rfl ?_
    refine aw_aload_n X dX6_answerTo_51 rfl ?_
    refine aw_get X ob_6 fl_X6_30 rfl dX6_answerTo_52 ?_
    refine aw_iload_n X dX6_answerTo_55 rfl ?_
    obtain ⟨g1a, g1b, h⟩ := h
    refine aw_iald X ar_6_8 g1a g1b dX6_answerTo_56 ?_
    obtain ⟨g2, h⟩ := h
    obtain ⟨g3, h⟩ := h
    refine aw_icmp_ge X dX6_answerTo_57 (tgt := 105) (by decide) g2 g3 (fun hc => ?_) (fun hc => ?_)
    · replace h := h.1 hc
      refine aw_aload_n X dX6_answerTo_105 rfl ?_
      refine aw_get X ob_6 fl_X6_90 rfl dX6_answerTo_106 ?_
      refine aw_iload X dX6_answerTo_109 rfl ?_
      refine aw_iload X dX6_answerTo_111 rfl ?_
      obtain ⟨g4a, g4b, h⟩ := h
      refine aw_iast X ar_6_35 g4a g4b dX6_answerTo_113 ?_
      obtain ⟨σ4, eσ4⟩ : ∃ z : Mem, z = up σ 6 0 35 l4 l5 := ⟨_, rfl⟩
      replace h := h σ4 eσ4
      refine aw_mem eσ4 ?_
      refine aw_iinc X dX6_answerTo_114 rfl rfl ?_
      obtain ⟨x5, ex5⟩ : ∃ z : Int, z = (l4 + 1) := ⟨_, rfl⟩
      replace h := h x5 ex5
      refine aw_als (als' := [some (.ref (ad (6, 0, 0))), some (.int (oI l1)), some (.int (oI l2)), some (.int (oI l3)), some (.int (oI x5)), some (.int (oI l5)), some (.int (oI l6)), none, none, none, none]) (by subst ex5; rfl) ?_
      refine aw_goto X dX6_answerTo_117 (tgt := 3) (by decide) ?_
      refine aw_weak (als' := [some (.ref (ad (6, 0, 0))), some (.int (oI l1)), some (.int (oI l2)), some (.int (oI l3)), some (.int (oI x5)), none, none, none, none, none, none]) ⟨rfl, rfl, rfl, rfl, rfl, trivial⟩ ?_
      exact hk3 _ _ _ _ _ h
    · replace h := h.2 hc
      refine aw_iload X dX6_answerTo_60 rfl ?_
      refine aw_aload_n X dX6_answerTo_62 rfl ?_
      refine aw_get X ob_6 fl_X6_54 rfl dX6_answerTo_63 ?_
      refine aw_bipush X dX6_answerTo_66 rfl ?_
      refine aw_bipush X dX6_answerTo_68 rfl ?_
      refine aw_iload_n X dX6_answerTo_70 rfl ?_
      refine aw_imul X dX6_answerTo_71 ?_
      refine aw_iload X dX6_answerTo_72 rfl ?_
      refine aw_iadd X dX6_answerTo_74 ?_
      refine aw_imul X dX6_answerTo_75 ?_
      refine aw_aload_n X dX6_answerTo_76 rfl ?_
      refine aw_get X ob_6 fl_X6_33 rfl dX6_answerTo_77 ?_
      refine aw_iconst X dX6_answerTo_80 ?_
      refine aw_iload_n X dX6_answerTo_81 rfl ?_
      refine aw_imul X dX6_answerTo_82 ?_
      refine aw_iload X dX6_answerTo_83 rfl ?_
      refine aw_iadd X dX6_answerTo_85 ?_
      obtain ⟨g6a, g6b, h⟩ := h
      refine aw_iald X ar_6_9 g6a g6b dX6_answerTo_86 ?_
      refine aw_iadd X dX6_answerTo_87 ?_
      obtain ⟨g7a, g7b, h⟩ := h
      refine aw_iald X ar_6_16 g7a g7b dX6_answerTo_88 ?_
      refine aw_iload_n X dX6_answerTo_89 rfl ?_
      refine aw_iload X dX6_answerTo_90 rfl ?_
      refine aw_callSI X hR (s_Mo_figure l D ad tc X.2.2.2.2.2.2.1 h) ms_X6_162 (by decide) (by decide) rfl rfl rfl rfl (Nat.le_of_ble_eq_true rfl) rfl dX6_answerTo_92 (fun r8 σ8 h => ?_)
      refine aw_imul X dX6_answerTo_95 ?_
      refine aw_isub X dX6_answerTo_96 ?_
      refine aw_istore X dX6_answerTo_97 (Nat.le_of_ble_eq_true rfl) rfl ?_
      obtain ⟨x9, ex9⟩ : ∃ z : Int, z = (l5 - ((σ 6 0 16 ((6 * ((6 * l1) + l4)) + (σ 6 0 9 ((3 * l1) + l6)))) * r8)) := ⟨_, rfl⟩
      replace h := h x9 ex9
      refine aw_als (als' := [some (.ref (ad (6, 0, 0))), some (.int (oI l1)), some (.int (oI l2)), some (.int (oI l3)), some (.int (oI l4)), some (.int (oI x9)), some (.int (oI l6)), none, none, none, none]) (by subst ex9; rfl) ?_
      refine aw_iinc X dX6_answerTo_99 rfl rfl ?_
      obtain ⟨x10, ex10⟩ : ∃ z : Int, z = (l6 + 1) := ⟨_, rfl⟩
      replace h := h x10 ex10
      refine aw_als (als' := [some (.ref (ad (6, 0, 0))), some (.int (oI l1)), some (.int (oI l2)), some (.int (oI l3)), some (.int (oI l4)), some (.int (oI x9)), some (.int (oI x10)), none, none, none, none]) (by subst ex10; rfl) ?_
      refine aw_goto X dX6_answerTo_102 (tgt := 49) (by decide) ?_
      refine aw_weak (als' := [some (.ref (ad (6, 0, 0))), some (.int (oI l1)), some (.int (oI l2)), some (.int (oI l3)), some (.int (oI l4)), some (.int (oI x9)), some (.int (oI x10)), none, none, none, none]) ⟨rfl, rfl, rfl, rfl, rfl, rfl, rfl, trivial⟩ ?_
      exact ih _ _ _ _ _ _ _ h

set_option maxHeartbeats 4000000 in
set_option maxRecDepth 100000 in
theorem m_Mo_answerTo_3 {p : Program} {l : Launch} {e : Env} {R : Room} {s : State} {m : MethodId} {args : Array Value} {below : List Frame} {meth : Method} {c : Code} {D : va_G} {ad : Ky → Nat} {tc : Tc} {A : Nat → Prop} {cs sl : Nat} {Qm : State → Prop} (X : Cx p s m args c cX6_answerTo RX6 11 D ad tc A) (hR : RmOK R cs sl 1 21) {Q : Int → Mem → Prop} (hret : RtI p l e R s m args below meth c D ad tc A cs sl Qm cX6_answerTo Q) : ∀ (n : Nat) (l1 : Int) (l2 : Int) (l3 : Int) (l4 : Int) (σ : Mem), Mo_answerTo_3 Q n l1 l2 l3 l4 σ → AW p l e R s m args below meth c D ad tc A cs sl Qm 3 [some (.ref (ad (6, 0, 0))), some (.int (oI l1)), some (.int (oI l2)), some (.int (oI l3)), some (.int (oI l4)), none, none, none, none, none, none] [] σ := by
  intro n
  induction n with
  | zero =>
    intro l1 l2 l3 l4 σ h
    exact False.elim h
  | succ n ih =>
    intro l1 l2 l3 l4 σ h
    unfold Mo_answerTo_3 at h
    refine aw_iload X dX6_answerTo_3 rfl ?_
    refine aw_aload_n X dX6_answerTo_5 rfl ?_
    refine aw_get X ob_6 fl_X6_45 rfl dX6_answerTo_6 ?_
    refine aw_iload_n X dX6_answerTo_9 rfl ?_
    obtain ⟨g1a, g1b, h⟩ := h
    refine aw_iald X ar_6_13 g1a g1b dX6_answerTo_10 ?_
    obtain ⟨g2, h⟩ := h
    obtain ⟨g3, h⟩ := h
    refine aw_icmp_ge X dX6_answerTo_11 (tgt := 120) (by decide) g2 g3 (fun hc => ?_) (fun hc => ?_)
    · replace h := h.1 hc
      refine aw_aload_n X dX6_answerTo_120 rfl ?_
      refine aw_get X ob_6 fl_X6_36 rfl dX6_answerTo_121 ?_
      refine aw_iload_n X dX6_answerTo_124 rfl ?_
      obtain ⟨g4a, g4b, h⟩ := h
      refine aw_iald X ar_6_10 g4a g4b dX6_answerTo_125 ?_
      refine aw_istore X dX6_answerTo_126 (Nat.le_of_ble_eq_true rfl) rfl ?_
      obtain ⟨x5, ex5⟩ : ∃ z : Int, z = (σ 6 0 10 l1) := ⟨_, rfl⟩
      replace h := h x5 ex5
      refine aw_als (als' := [some (.ref (ad (6, 0, 0))), some (.int (oI l1)), some (.int (oI l2)), some (.int (oI l3)), some (.int (oI x5)), none, none, none, none, none, none]) (by subst ex5; rfl) ?_
      refine aw_bipush X dX6_answerTo_128 rfl ?_
      refine aw_istore X dX6_answerTo_130 (Nat.le_of_ble_eq_true rfl) rfl ?_
      refine aw_als (als' := [some (.ref (ad (6, 0, 0))), some (.int (oI l1)), some (.int (oI l2)), some (.int (oI l3)), some (.int (oI x5)), some (.int (oI (-4))), none, none, none, none, none]) rfl ?_
      refine aw_iconst X dX6_answerTo_132 ?_
      refine aw_istore X dX6_answerTo_133 (Nat.le_of_ble_eq_true rfl) rfl ?_
      refine aw_als (als' := [some (.ref (ad (6, 0, 0))), some (.int (oI l1)), some (.int (oI l2)), some (.int (oI l3)), some (.int (oI x5)), some (.int (oI (-4))), some (.int (oI 0)), none, none, none, none]) rfl ?_
      refine aw_weak (als' := [some (.ref (ad (6, 0, 0))), some (.int (oI l1)), none, none, some (.int (oI x5)), some (.int (oI (-4))), some (.int (oI 0)), none, none, none, none]) ⟨rfl, rfl, rfl, rfl, rfl, trivial⟩ ?_
      obtain ⟨n0, h⟩ := h
      exact m_Mo_answerTo_135 X hR hret n0 _ _ _ _ _ h
    · replace h := h.2 hc
      refine aw_aload_n X dX6_answerTo_14 rfl ?_
      refine aw_get X ob_6 fl_X6_48 rfl dX6_answerTo_15 ?_
      refine aw_bipush X dX6_answerTo_18 rfl ?_
      refine aw_iload_n X dX6_answerTo_20 rfl ?_
      refine aw_imul X dX6_answerTo_21 ?_
      refine aw_iload X dX6_answerTo_22 rfl ?_
      refine aw_iadd X dX6_answerTo_24 ?_
      obtain ⟨g6a, g6b, h⟩ := h
      refine aw_iald X ar_6_14 g6a g6b dX6_answerTo_25 ?_
      refine aw_aload_n X dX6_answerTo_26 rfl ?_
      refine aw_get X ob_6 fl_X6_57 rfl dX6_answerTo_27 ?_
      refine aw_bipush X dX6_answerTo_30 rfl ?_
      refine aw_iload_n X dX6_answerTo_32 rfl ?_
      refine aw_imul X dX6_answerTo_33 ?_
      refine aw_bipush X dX6_answerTo_34 rfl ?_
      refine aw_iload_n X dX6_answerTo_36 rfl ?_
      refine aw_imul X dX6_answerTo_37 ?_
      refine aw_iadd X dX6_answerTo_38 ?_
      refine aw_iload X dX6_answerTo_39 rfl ?_
      refine aw_iadd X dX6_answerTo_41 ?_
      obtain ⟨g7a, g7b, h⟩ := h
      refine aw_iald X ar_6_17 g7a g7b dX6_answerTo_42 ?_
      refine aw_iadd X dX6_answerTo_43 ?_
      refine aw_istore X dX6_answerTo_44 (Nat.le_of_ble_eq_true rfl) rfl ?_
      obtain ⟨x8, ex8⟩ : ∃ z : Int, z = ((σ 6 0 14 ((6 * l1) + l4)) + (σ 6 0 17 (((24 * l3) + (6 * l1)) + l4))) := ⟨_, rfl⟩
      replace h := h x8 ex8
      refine aw_als (als' := [some (.ref (ad (6, 0, 0))), some (.int (oI l1)), some (.int (oI l2)), some (.int (oI l3)), some (.int (oI l4)), some (.int (oI x8)), none, none, none, none, none]) (by subst ex8; rfl) ?_
      refine aw_iconst X dX6_answerTo_46 ?_
      refine aw_istore X dX6_answerTo_47 (Nat.le_of_ble_eq_true rfl) rfl ?_
      refine aw_als (als' := [some (.ref (ad (6, 0, 0))), some (.int (oI l1)), some (.int (oI l2)), some (.int (oI l3)), some (.int (oI l4)), some (.int (oI x8)), some (.int (oI 0)), none, none, none, none]) rfl ?_
      refine aw_weak (als' := [some (.ref (ad (6, 0, 0))), some (.int (oI l1)), some (.int (oI l2)), some (.int (oI l3)), some (.int (oI l4)), some (.int (oI x8)), some (.int (oI 0)), none, none, none, none]) ⟨rfl, rfl, rfl, rfl, rfl, rfl, rfl, trivial⟩ ?_
      obtain ⟨n0, h⟩ := h
      exact m_Mo_answerTo_49 X hR hret ih n0 _ _ _ _ _ _ _ h

set_option maxHeartbeats 4000000 in
set_option maxRecDepth 100000 in
theorem m_Mo_answerTo_0 {p : Program} {l : Launch} {e : Env} {R : Room} {s : State} {m : MethodId} {args : Array Value} {below : List Frame} {meth : Method} {c : Code} {D : va_G} {ad : Ky → Nat} {tc : Tc} {A : Nat → Prop} {cs sl : Nat} {Qm : State → Prop} (X : Cx p s m args c cX6_answerTo RX6 11 D ad tc A) (hR : RmOK R cs sl 1 21) {Q : Int → Mem → Prop} (hret : RtI p l e R s m args below meth c D ad tc A cs sl Qm cX6_answerTo Q) {l1 : Int} {l2 : Int} {l3 : Int} {σ : Mem} (h : Mo_answerTo l1 l2 l3 σ Q) : AW p l e R s m args below meth c D ad tc A cs sl Qm 0 [some (.ref (ad (6, 0, 0))), some (.int (oI l1)), some (.int (oI l2)), some (.int (oI l3)), none, none, none, none, none, none, none] [] σ := by
  unfold Mo_answerTo at h
  refine aw_iconst X dX6_answerTo_0 ?_
  refine aw_istore X dX6_answerTo_1 (Nat.le_of_ble_eq_true rfl) rfl ?_
  refine aw_als (als' := [some (.ref (ad (6, 0, 0))), some (.int (oI l1)), some (.int (oI l2)), some (.int (oI l3)), some (.int (oI 0)), none, none, none, none, none, none]) rfl ?_
  refine aw_weak (als' := [some (.ref (ad (6, 0, 0))), some (.int (oI l1)), some (.int (oI l2)), some (.int (oI l3)), some (.int (oI 0)), none, none, none, none, none, none]) ⟨rfl, rfl, rfl, rfl, rfl, trivial⟩ ?_
  obtain ⟨n0, h⟩ := h
  exact m_Mo_answerTo_3 X hR hret n0 _ _ _ _ _ h
theorem s_Mo_answerTo (l : Launch) (D : va_G) (ad : Ky → Nat) (tc : Tc) (hi : adI ad) {l1 : Int} {l2 : Int} {l3 : Int} {σ : Mem} {Q : Int → Mem → Prop} (h : Mo_answerTo l1 l2 l3 σ Q) : CtI l D ad tc yX6_answerTo cX6_answerTo 11 (some .int) { frames := 1, cells := 0, slots := 0, locals := 21 } [.ref (ad (6, 0, 0)), .int (oI l1), .int (oI l2), .int (oI l3)] σ Q := CtI.mk (by decide +kernel) hi (Nat.le_of_ble_eq_true rfl) rfl (fun p e s m args below meth c A Qm X hR hret => m_Mo_answerTo_0 X hR hret h)

set_option maxHeartbeats 4000000 in
set_option maxRecDepth 100000 in
theorem m_Mo_codeOf_42 {p : Program} {l : Launch} {e : Env} {R : Room} {s : State} {m : MethodId} {args : Array Value} {below : List Frame} {meth : Method} {c : Code} {D : va_G} {ad : Ky → Nat} {tc : Tc} {A : Nat → Prop} {cs sl : Nat} {Qm : State → Prop} (X : Cx p s m args c cX6_codeOf RX6 5 D ad tc A) (hR : RmOK R cs sl 0 0) {Q : Int → Mem → Prop} (hret : RtI p l e R s m args below meth c D ad tc A cs sl Qm cX6_codeOf Q) {k5 : Int → Nat → Int → Nat → Int → Int → Mem → Prop} (hk5 : ∀ (l1 : Int) (l2c : Nat) (l2p : Int) (l2k : Nat) (l3 : Int) (l4 : Int) (σ : Mem) (_ : Arr l2c l2p l2k 6), k5 l1 l2c l2p l2k l3 l4 σ → AW p l e R s m args below meth c D ad tc A cs sl Qm 5 [some (.ref (ad (6, 0, 0))), some (.int (oI l1)), some (.ref (ad (l2c, l2p, l2k + 1))), some (.int (oI l3)), some (.int (oI l4))] [] σ) {l1 : Int} {l2c : Nat} {l2p : Int} {l2k : Nat} {l4 : Int} {s0 : Int} {s1 : Int} {σ : Mem} (hl2 : Arr l2c l2p l2k 6) (h : Mo_codeOf_42 k5 Q l1 l2c l2p l2k l4 s0 s1 σ) : AW p l e R s m args below meth c D ad tc A cs sl Qm 42 [some (.ref (ad (6, 0, 0))), some (.int (oI l1)), some (.ref (ad (l2c, l2p, l2k + 1))), none, some (.int (oI l4))] [.int (oI s1), .int (oI s0)] σ := by
  unfold Mo_codeOf_42 at h
  refine aw_iadd X dX6_codeOf_42 ?_
  refine aw_istore_n X dX6_codeOf_43 (Nat.le_of_ble_eq_true rfl) rfl ?_
  obtain ⟨x1, ex1⟩ : ∃ z : Int, z = (s0 + s1) := ⟨_, rfl⟩
  replace h := h x1 ex1
  refine aw_als (als' := [some (.ref (ad (6, 0, 0))), some (.int (oI l1)), some (.ref (ad (l2c, l2p, l2k + 1))), some (.int (oI x1)), some (.int (oI l4))]) (by subst ex1; rfl) ?_
  refine aw_iinc X dX6_codeOf_44 rfl rfl ?_
  obtain ⟨x2, ex2⟩ : ∃ z : Int, z = (l4 + 1) := ⟨_, rfl⟩
  replace h := h x2 ex2
  refine aw_als (als' := [some (.ref (ad (6, 0, 0))), some (.int (oI l1)), some (.ref (ad (l2c, l2p, l2k + 1))), some (.int (oI x1)), some (.int (oI x2))]) (by subst ex2; rfl) ?_
  refine aw_goto X dX6_codeOf_47 (tgt := 5) (by decide) ?_
  refine aw_weak (als' := [some (.ref (ad (6, 0, 0))), some (.int (oI l1)), some (.ref (ad (l2c, l2p, l2k + 1))), some (.int (oI x1)), some (.int (oI x2))]) ⟨rfl, rfl, rfl, rfl, rfl, trivial⟩ ?_
  exact hk5 _ _ _ _ _ _ _ hl2 h

set_option maxHeartbeats 4000000 in
set_option maxRecDepth 100000 in
theorem m_Mo_codeOf_5 {p : Program} {l : Launch} {e : Env} {R : Room} {s : State} {m : MethodId} {args : Array Value} {below : List Frame} {meth : Method} {c : Code} {D : va_G} {ad : Ky → Nat} {tc : Tc} {A : Nat → Prop} {cs sl : Nat} {Qm : State → Prop} (X : Cx p s m args c cX6_codeOf RX6 5 D ad tc A) (hR : RmOK R cs sl 0 0) {Q : Int → Mem → Prop} (hret : RtI p l e R s m args below meth c D ad tc A cs sl Qm cX6_codeOf Q) : ∀ (n : Nat) (l1 : Int) (l2c : Nat) (l2p : Int) (l2k : Nat) (l3 : Int) (l4 : Int) (σ : Mem) (_ : Arr l2c l2p l2k 6), Mo_codeOf_5 Q n l1 l2c l2p l2k l3 l4 σ → AW p l e R s m args below meth c D ad tc A cs sl Qm 5 [some (.ref (ad (6, 0, 0))), some (.int (oI l1)), some (.ref (ad (l2c, l2p, l2k + 1))), some (.int (oI l3)), some (.int (oI l4))] [] σ := by
  intro n
  induction n with
  | zero =>
    intro l1 l2c l2p l2k l3 l4 σ hl2 h
    exact False.elim h
  | succ n ih =>
    intro l1 l2c l2p l2k l3 l4 σ hl2 h
    unfold Mo_codeOf_5 at h
    refine aw_iload X dX6_codeOf_5 rfl ?_
    refine aw_iconst X dX6_codeOf_7 ?_
    obtain ⟨g1, h⟩ := h
    refine aw_icmp_ge X dX6_codeOf_8 (tgt := 50) (by decide) g1 ⟨by decide, by decide⟩ (fun hc => ?_) (fun hc => ?_)
    · replace h := h.1 hc
      refine aw_iload_n X dX6_codeOf_50 rfl ?_
      exact hret 51 _ _ _ dX6_codeOf_51 h
    · replace h := h.2 hc
      refine aw_iconst X dX6_codeOf_11 ?_
      refine aw_iload_n X dX6_codeOf_12 rfl ?_
      refine aw_imul X dX6_codeOf_13 ?_
      refine aw_iload X dX6_codeOf_14 rfl ?_
      refine aw_aload_n X dX6_codeOf_16 rfl ?_
      refine aw_get X ob_6 fl_X6_30 rfl dX6_codeOf_17 ?_
      refine aw_iload_n X dX6_codeOf_20 rfl ?_
      obtain ⟨g3a, g3b, h⟩ := h
      refine aw_iald X ar_6_8 g3a g3b dX6_codeOf_21 ?_
      obtain ⟨g4, h⟩ := h
      obtain ⟨g5, h⟩ := h
      refine aw_icmp_ge X dX6_codeOf_22 (tgt := 41) (by decide) g4 g5 (fun hc => ?_) (fun hc => ?_)
      · replace h := h.1 hc
        refine aw_iconst X dX6_codeOf_41 ?_
        refine aw_weak (als' := [some (.ref (ad (6, 0, 0))), some (.int (oI l1)), some (.ref (ad (l2c, l2p, l2k + 1))), none, some (.int (oI l4))]) ⟨rfl, rfl, rfl, rfl, trivial⟩ ?_
        exact m_Mo_codeOf_42 X hR hret ih hl2 h
      · replace h := h.2 hc
        refine aw_aload_n X dX6_codeOf_25 rfl ?_
        refine aw_aload_n X dX6_codeOf_26 rfl ?_
        refine aw_get X ob_6 fl_X6_33 rfl dX6_codeOf_27 ?_
        refine aw_iconst X dX6_codeOf_30 ?_
        refine aw_iload_n X dX6_codeOf_31 rfl ?_
        refine aw_imul X dX6_codeOf_32 ?_
        refine aw_iload X dX6_codeOf_33 rfl ?_
        refine aw_iadd X dX6_codeOf_35 ?_
        obtain ⟨g6a, g6b, h⟩ := h
        refine aw_iald X ar_6_9 g6a g6b dX6_codeOf_36 ?_
        obtain ⟨g7a, g7b, h⟩ := h
        refine aw_iald X hl2 g7a g7b dX6_codeOf_37 ?_
        refine aw_goto X dX6_codeOf_38 (tgt := 42) (by decide) ?_
        refine aw_weak (als' := [some (.ref (ad (6, 0, 0))), some (.int (oI l1)), some (.ref (ad (l2c, l2p, l2k + 1))), none, some (.int (oI l4))]) ⟨rfl, rfl, rfl, rfl, trivial⟩ ?_
        exact m_Mo_codeOf_42 X hR hret ih hl2 h

set_option maxHeartbeats 4000000 in
set_option maxRecDepth 100000 in
theorem m_Mo_codeOf_0 {p : Program} {l : Launch} {e : Env} {R : Room} {s : State} {m : MethodId} {args : Array Value} {below : List Frame} {meth : Method} {c : Code} {D : va_G} {ad : Ky → Nat} {tc : Tc} {A : Nat → Prop} {cs sl : Nat} {Qm : State → Prop} (X : Cx p s m args c cX6_codeOf RX6 5 D ad tc A) (hR : RmOK R cs sl 0 0) {Q : Int → Mem → Prop} (hret : RtI p l e R s m args below meth c D ad tc A cs sl Qm cX6_codeOf Q) {l1 : Int} {l2c : Nat} {l2p : Int} {l2k : Nat} {σ : Mem} (hl2 : Arr l2c l2p l2k 6) (h : Mo_codeOf l1 l2c l2p l2k σ Q) : AW p l e R s m args below meth c D ad tc A cs sl Qm 0 [some (.ref (ad (6, 0, 0))), some (.int (oI l1)), some (.ref (ad (l2c, l2p, l2k + 1))), none, none] [] σ := by
  unfold Mo_codeOf at h
  refine aw_iconst X dX6_codeOf_0 ?_
  refine aw_istore_n X dX6_codeOf_1 (Nat.le_of_ble_eq_true rfl) rfl ?_
  refine aw_als (als' := [some (.ref (ad (6, 0, 0))), some (.int (oI l1)), some (.ref (ad (l2c, l2p, l2k + 1))), some (.int (oI 0)), none]) rfl ?_
  refine aw_iconst X dX6_codeOf_2 ?_
  refine aw_istore X dX6_codeOf_3 (Nat.le_of_ble_eq_true rfl) rfl ?_
  refine aw_als (als' := [some (.ref (ad (6, 0, 0))), some (.int (oI l1)), some (.ref (ad (l2c, l2p, l2k + 1))), some (.int (oI 0)), some (.int (oI 0))]) rfl ?_
  refine aw_weak (als' := [some (.ref (ad (6, 0, 0))), some (.int (oI l1)), some (.ref (ad (l2c, l2p, l2k + 1))), some (.int (oI 0)), some (.int (oI 0))]) ⟨rfl, rfl, rfl, rfl, rfl, trivial⟩ ?_
  obtain ⟨n0, h⟩ := h
  exact m_Mo_codeOf_5 X hR hret n0 _ _ _ _ _ _ _ hl2 h
theorem s_Mo_codeOf (l : Launch) (D : va_G) (ad : Ky → Nat) (tc : Tc) (hi : adI ad) {l1 : Int} {l2c : Nat} {l2p : Int} {l2k : Nat} (hl2 : Arr l2c l2p l2k 6) {σ : Mem} {Q : Int → Mem → Prop} (h : Mo_codeOf l1 l2c l2p l2k σ Q) : CtI l D ad tc yX6_codeOf cX6_codeOf 5 (some .int) { frames := 0, cells := 0, slots := 0, locals := 0 } [.ref (ad (6, 0, 0)), .int (oI l1), .ref (ad (l2c, l2p, l2k + 1))] σ Q := CtI.mk (by decide +kernel) hi (Nat.le_of_ble_eq_true rfl) rfl (fun p e s m args below meth c A Qm X hR hret => m_Mo_codeOf_0 X hR hret hl2 h)

set_option maxHeartbeats 4000000 in
set_option maxRecDepth 100000 in
theorem m_Mo_isCode_60 {p : Program} {l : Launch} {e : Env} {R : Room} {s : State} {m : MethodId} {args : Array Value} {below : List Frame} {meth : Method} {c : Code} {D : va_G} {ad : Ky → Nat} {tc : Tc} {A : Nat → Prop} {cs sl : Nat} {Qm : State → Prop} (X : Cx p s m args c cX6_isCode RX6 5 D ad tc A) (hR : RmOK R cs sl 1 21) {Q : Int → Mem → Prop} (hret : RtZ p l e R s m args below meth c D ad tc A cs sl Qm cX6_isCode Q) {k5 : Int → Int → Int → Int → Mem → Prop} (hk5 : ∀ (l1 : Int) (l2 : Int) (l3 : Int) (l4 : Int) (σ : Mem), k5 l1 l2 l3 l4 σ → AW p l e R s m args below meth c D ad tc A cs sl Qm 5 [some (.ref (ad (6, 0, 0))), some (.int (oI l1)), some (.int (oI l2)), some (.int (oI l3)), some (.int (oI l4))] [] σ) {l1 : Int} {l2 : Int} {l4 : Int} {s0 : Int} {σ : Mem} (h : Mo_isCode_60 k5 Q l1 l2 l4 s0 σ) : AW p l e R s m args below meth c D ad tc A cs sl Qm 60 [some (.ref (ad (6, 0, 0))), some (.int (oI l1)), some (.int (oI l2)), none, some (.int (oI l4))] [.int (oI s0)] σ := by
  unfold Mo_isCode_60 at h
  refine aw_istore_n X dX6_isCode_60 (Nat.le_of_ble_eq_true rfl) rfl ?_
  refine aw_als (als' := [some (.ref (ad (6, 0, 0))), some (.int (oI l1)), some (.int (oI l2)), some (.int (oI s0)), some (.int (oI l4))]) rfl ?_
  refine aw_iinc X dX6_isCode_61 rfl rfl ?_
  obtain ⟨x1, ex1⟩ : ∃ z : Int, z = (l4 + 1) := ⟨_, rfl⟩
  replace h := h x1 ex1
  refine aw_als (als' := [some (.ref (ad (6, 0, 0))), some (.int (oI l1)), some (.int (oI l2)), some (.int (oI s0)), some (.int (oI x1))]) (by subst ex1; rfl) ?_
  refine aw_goto X dX6_isCode_64 (tgt := 5) (by decide) ?_
  refine aw_weak (als' := [some (.ref (ad (6, 0, 0))), some (.int (oI l1)), some (.int (oI l2)), some (.int (oI s0)), some (.int (oI x1))]) ⟨rfl, rfl, rfl, rfl, rfl, trivial⟩ ?_
  exact hk5 _ _ _ _ _ h

set_option maxHeartbeats 4000000 in
set_option maxRecDepth 100000 in
theorem m_Mo_isCode_59 {p : Program} {l : Launch} {e : Env} {R : Room} {s : State} {m : MethodId} {args : Array Value} {below : List Frame} {meth : Method} {c : Code} {D : va_G} {ad : Ky → Nat} {tc : Tc} {A : Nat → Prop} {cs sl : Nat} {Qm : State → Prop} (X : Cx p s m args c cX6_isCode RX6 5 D ad tc A) (hR : RmOK R cs sl 1 21) {Q : Int → Mem → Prop} (hret : RtZ p l e R s m args below meth c D ad tc A cs sl Qm cX6_isCode Q) {k5 : Int → Int → Int → Int → Mem → Prop} (hk5 : ∀ (l1 : Int) (l2 : Int) (l3 : Int) (l4 : Int) (σ : Mem), k5 l1 l2 l3 l4 σ → AW p l e R s m args below meth c D ad tc A cs sl Qm 5 [some (.ref (ad (6, 0, 0))), some (.int (oI l1)), some (.int (oI l2)), some (.int (oI l3)), some (.int (oI l4))] [] σ) {l1 : Int} {l2 : Int} {l4 : Int} {σ : Mem} (h : Mo_isCode_59 k5 Q l1 l2 l4 σ) : AW p l e R s m args below meth c D ad tc A cs sl Qm 59 [some (.ref (ad (6, 0, 0))), some (.int (oI l1)), some (.int (oI l2)), none, some (.int (oI l4))] [] σ := by
  unfold Mo_isCode_59 at h
  refine aw_iconst X dX6_isCode_59 ?_
  refine aw_weak (als' := [some (.ref (ad (6, 0, 0))), some (.int (oI l1)), some (.int (oI l2)), none, some (.int (oI l4))]) ⟨rfl, rfl, rfl, rfl, trivial⟩ ?_
  exact m_Mo_isCode_60 X hR hret hk5 h

set_option maxHeartbeats 4000000 in
set_option maxRecDepth 100000 in
theorem m_Mo_isCode_52 {p : Program} {l : Launch} {e : Env} {R : Room} {s : State} {m : MethodId} {args : Array Value} {below : List Frame} {meth : Method} {c : Code} {D : va_G} {ad : Ky → Nat} {tc : Tc} {A : Nat → Prop} {cs sl : Nat} {Qm : State → Prop} (X : Cx p s m args c cX6_isCode RX6 5 D ad tc A) (hR : RmOK R cs sl 1 21) {Q : Int → Mem → Prop} (hret : RtZ p l e R s m args below meth c D ad tc A cs sl Qm cX6_isCode Q) {k5 : Int → Int → Int → Int → Mem → Prop} (hk5 : ∀ (l1 : Int) (l2 : Int) (l3 : Int) (l4 : Int) (σ : Mem), k5 l1 l2 l3 l4 σ → AW p l e R s m args below meth c D ad tc A cs sl Qm 5 [some (.ref (ad (6, 0, 0))), some (.int (oI l1)), some (.int (oI l2)), some (.int (oI l3)), some (.int (oI l4))] [] σ) {l1 : Int} {l2 : Int} {l4 : Int} {s0 : Int} {s1 : Int} {σ : Mem} (h : Mo_isCode_52 k5 Q l1 l2 l4 s0 s1 σ) : AW p l e R s m args below meth c D ad tc A cs sl Qm 52 [some (.ref (ad (6, 0, 0))), some (.int (oI l1)), some (.int (oI l2)), none, some (.int (oI l4))] [.int (oI s1), .int (oI s0)] σ := by
  unfold Mo_isCode_52 at h
  obtain ⟨g1, h⟩ := h
  obtain ⟨g2, h⟩ := h
  refine aw_icmp_ge X dX6_isCode_52 (tgt := 59) (by decide) g1 g2 (fun hc => ?_) (fun hc => ?_)
  · replace h := h.1 hc
    refine aw_weak (als' := [some (.ref (ad (6, 0, 0))), some (.int (oI l1)), some (.int (oI l2)), none, some (.int (oI l4))]) ⟨rfl, rfl, rfl, rfl, trivial⟩ ?_
    exact m_Mo_isCode_59 X hR hret hk5 h
  · replace h := h.2 hc
    refine aw_iconst X dX6_isCode_55 ?_
    refine aw_goto X dX6_isCode_56 (tgt := 60) (by decide) ?_
    refine aw_weak (als' := [some (.ref (ad (6, 0, 0))), some (.int (oI l1)), some (.int (oI l2)), none, some (.int (oI l4))]) ⟨rfl, rfl, rfl, rfl, trivial⟩ ?_
    exact m_Mo_isCode_60 X hR hret hk5 h

set_option maxHeartbeats 4000000 in
set_option maxRecDepth 100000 in
theorem m_Mo_isCode_5 {p : Program} {l : Launch} {e : Env} {R : Room} {s : State} {m : MethodId} {args : Array Value} {below : List Frame} {meth : Method} {c : Code} {D : va_G} {ad : Ky → Nat} {tc : Tc} {A : Nat → Prop} {cs sl : Nat} {Qm : State → Prop} (X : Cx p s m args c cX6_isCode RX6 5 D ad tc A) (hR : RmOK R cs sl 1 21) {Q : Int → Mem → Prop} (hret : RtZ p l e R s m args below meth c D ad tc A cs sl Qm cX6_isCode Q) : ∀ (n : Nat) (l1 : Int) (l2 : Int) (l3 : Int) (l4 : Int) (σ : Mem), Mo_isCode_5 Q n l1 l2 l3 l4 σ → AW p l e R s m args below meth c D ad tc A cs sl Qm 5 [some (.ref (ad (6, 0, 0))), some (.int (oI l1)), some (.int (oI l2)), some (.int (oI l3)), some (.int (oI l4))] [] σ := by
  intro n
  induction n with
  | zero =>
    intro l1 l2 l3 l4 σ h
    exact False.elim h
  | succ n ih =>
    intro l1 l2 l3 l4 σ h
    unfold Mo_isCode_5 at h
    refine aw_iload X dX6_isCode_5 rfl ?_
    refine aw_iconst X dX6_isCode_7 ?_
    obtain ⟨g1, h⟩ := h
    refine aw_icmp_ge X dX6_isCode_8 (tgt := 67) (by decide) g1 ⟨by decide, by decide⟩ (fun hc => ?_) (fun hc => ?_)
    · replace h := h.1 hc
      refine aw_iload_n X dX6_isCode_67 rfl ?_
      exact hret 68 _ _ _ dX6_isCode_68 h.1 h.2
    · replace h := h.2 hc
      refine aw_iload_n X dX6_isCode_11 rfl ?_
      obtain ⟨g3, h⟩ := h
      refine aw_if_eq X dX6_isCode_12 (tgt := 59) (by decide) g3 (fun hc => ?_) (fun hc => ?_)
      · replace h := h.1 hc
        refine aw_weak (als' := [some (.ref (ad (6, 0, 0))), some (.int (oI l1)), some (.int (oI l2)), none, some (.int (oI l4))]) ⟨rfl, rfl, rfl, rfl, trivial⟩ ?_
        exact m_Mo_isCode_59 X hR hret ih h
      · replace h := h.2 hc
        refine aw_iload_n X dX6_isCode_15 rfl ?_
        refine aw_iload X dX6_isCode_16 rfl ?_
        refine aw_callSI X hR (s_Mo_figure l D ad tc X.2.2.2.2.2.2.1 h) ms_X6_162 (by decide) (by decide) rfl rfl rfl rfl (Nat.le_of_ble_eq_true rfl) rfl dX6_isCode_18 (fun r4 σ4 h => ?_)
        refine aw_iload X dX6_isCode_21 rfl ?_
        refine aw_aload_n X dX6_isCode_23 rfl ?_
        refine aw_get X ob_6 fl_X6_30 rfl dX6_isCode_24 ?_
        refine aw_iload_n X dX6_isCode_27 rfl ?_
        obtain ⟨g5a, g5b, h⟩ := h
        refine aw_iald X ar_6_8 g5a g5b dX6_isCode_28 ?_
        obtain ⟨g6, h⟩ := h
        obtain ⟨g7, h⟩ := h
        refine aw_icmp_ge X dX6_isCode_29 (tgt := 51) (by decide) g6 g7 (fun hc => ?_) (fun hc => ?_)
        · replace h := h.1 hc
          refine aw_iconst X dX6_isCode_51 ?_
          refine aw_weak (als' := [some (.ref (ad (6, 0, 0))), some (.int (oI l1)), some (.int (oI l2)), none, some (.int (oI l4))]) ⟨rfl, rfl, rfl, rfl, trivial⟩ ?_
          exact m_Mo_isCode_52 X hR hret ih h
        · replace h := h.2 hc
          refine aw_aload_n X dX6_isCode_32 rfl ?_
          refine aw_get X ob_6 fl_X6_7 rfl dX6_isCode_33 ?_
          refine aw_aload_n X dX6_isCode_36 rfl ?_
          refine aw_get X ob_6 fl_X6_33 rfl dX6_isCode_37 ?_
          refine aw_iconst X dX6_isCode_40 ?_
          refine aw_iload_n X dX6_isCode_41 rfl ?_
          refine aw_imul X dX6_isCode_42 ?_
          refine aw_iload X dX6_isCode_43 rfl ?_
          refine aw_iadd X dX6_isCode_45 ?_
          obtain ⟨g8a, g8b, h⟩ := h
          refine aw_iald X ar_6_9 g8a g8b dX6_isCode_46 ?_
          obtain ⟨g9a, g9b, h⟩ := h
          refine aw_iald X ar_6_1 g9a g9b dX6_isCode_47 ?_
          refine aw_goto X dX6_isCode_48 (tgt := 52) (by decide) ?_
          refine aw_weak (als' := [some (.ref (ad (6, 0, 0))), some (.int (oI l1)), some (.int (oI l2)), none, some (.int (oI l4))]) ⟨rfl, rfl, rfl, rfl, trivial⟩ ?_
          exact m_Mo_isCode_52 X hR hret ih h

set_option maxHeartbeats 4000000 in
set_option maxRecDepth 100000 in
theorem m_Mo_isCode_0 {p : Program} {l : Launch} {e : Env} {R : Room} {s : State} {m : MethodId} {args : Array Value} {below : List Frame} {meth : Method} {c : Code} {D : va_G} {ad : Ky → Nat} {tc : Tc} {A : Nat → Prop} {cs sl : Nat} {Qm : State → Prop} (X : Cx p s m args c cX6_isCode RX6 5 D ad tc A) (hR : RmOK R cs sl 1 21) {Q : Int → Mem → Prop} (hret : RtZ p l e R s m args below meth c D ad tc A cs sl Qm cX6_isCode Q) {l1 : Int} {l2 : Int} {σ : Mem} (h : Mo_isCode l1 l2 σ Q) : AW p l e R s m args below meth c D ad tc A cs sl Qm 0 [some (.ref (ad (6, 0, 0))), some (.int (oI l1)), some (.int (oI l2)), none, none] [] σ := by
  unfold Mo_isCode at h
  refine aw_iconst X dX6_isCode_0 ?_
  refine aw_istore_n X dX6_isCode_1 (Nat.le_of_ble_eq_true rfl) rfl ?_
  refine aw_als (als' := [some (.ref (ad (6, 0, 0))), some (.int (oI l1)), some (.int (oI l2)), some (.int (oI 1)), none]) rfl ?_
  refine aw_iconst X dX6_isCode_2 ?_
  refine aw_istore X dX6_isCode_3 (Nat.le_of_ble_eq_true rfl) rfl ?_
  refine aw_als (als' := [some (.ref (ad (6, 0, 0))), some (.int (oI l1)), some (.int (oI l2)), some (.int (oI 1)), some (.int (oI 0))]) rfl ?_
  refine aw_weak (als' := [some (.ref (ad (6, 0, 0))), some (.int (oI l1)), some (.int (oI l2)), some (.int (oI 1)), some (.int (oI 0))]) ⟨rfl, rfl, rfl, rfl, rfl, trivial⟩ ?_
  obtain ⟨n0, h⟩ := h
  exact m_Mo_isCode_5 X hR hret n0 _ _ _ _ _ h
theorem s_Mo_isCode (l : Launch) (D : va_G) (ad : Ky → Nat) (tc : Tc) (hi : adI ad) {l1 : Int} {l2 : Int} {σ : Mem} {Q : Int → Mem → Prop} (h : Mo_isCode l1 l2 σ Q) : CtI l D ad tc yX6_isCode cX6_isCode 5 (some .boolean) { frames := 1, cells := 0, slots := 0, locals := 21 } [.ref (ad (6, 0, 0)), .int (oI l1), .int (oI l2)] σ Q := CtI.mkz (by decide +kernel) hi (Nat.le_of_ble_eq_true rfl) rfl (fun p e s m args below meth c A Qm X hR hret => m_Mo_isCode_0 X hR hret h)

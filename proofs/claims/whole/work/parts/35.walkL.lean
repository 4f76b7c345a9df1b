set_option maxHeartbeats 4000000 in
set_option maxRecDepth 100000 in
theorem m_Lw_law_811 {p : Program} {l : Launch} {e : Env} {R : Room} {s : State} {m : MethodId} {args : Array Value} {below : List Frame} {meth : Method} {c : Code} {D : va_G} {ad : Ky → Nat} {tc : Tc} {A : Nat → Prop} {cs sl : Nat} {Qm : State → Prop} (X : Cx p s m args c cL_law RL 4 D ad tc A) (hR : RmOK R cs sl 8 214) {Q : Int → Mem → Prop} (hret : RtI p l e R s m args below meth c D ad tc A cs sl Qm cL_law Q) {scr : Int → Int} {LL : Nat} {bS : Nat} (hsc : Scr s A bS LL scr) {k18 : Int → Mem → Prop} (hk18 : ∀ (l3 : Int) (σ : Mem), k18 l3 σ → AW p l e R s m args below meth c D ad tc A cs sl Qm 18 [some (.ref bS), some (.ref (ad (5, 0, 0))), some (.ref (ad (6, 0, 0))), some (.int (oI l3))] [] σ) {l3 : Int} {σ : Mem} (h : Lw_law_811 scr LL k18 Q l3 σ) : AW p l e R s m args below meth c D ad tc A cs sl Qm 811 [some (.ref bS), some (.ref (ad (5, 0, 0))), some (.ref (ad (6, 0, 0))), some (.int (oI l3))] [] σ := by
  unfold Lw_law_811 at h
  refine aw_iinc X dL_law_811 rfl rfl ?_
  obtain ⟨x1, ex1⟩ : ∃ z : Int, z = (l3 + 6) := ⟨_, rfl⟩
  replace h := h x1 ex1
  refine aw_als (als' := [some (.ref bS), some (.ref (ad (5, 0, 0))), some (.ref (ad (6, 0, 0))), some (.int (oI x1))]) (by subst ex1; rfl) ?_
  refine aw_goto X dL_law_814 (tgt := 18) (by decide) ?_
  refine aw_weak (als' := [some (.ref bS), some (.ref (ad (5, 0, 0))), some (.ref (ad (6, 0, 0))), some (.int (oI x1))]) ⟨rfl, rfl, rfl, rfl, trivial⟩ ?_
  exact hk18 _ _ h

set_option maxHeartbeats 4000000 in
set_option maxRecDepth 100000 in
theorem m_Lw_law_437 {p : Program} {l : Launch} {e : Env} {R : Room} {s : State} {m : MethodId} {args : Array Value} {below : List Frame} {meth : Method} {c : Code} {D : va_G} {ad : Ky → Nat} {tc : Tc} {A : Nat → Prop} {cs sl : Nat} {Qm : State → Prop} (X : Cx p s m args c cL_law RL 4 D ad tc A) (hR : RmOK R cs sl 8 214) {Q : Int → Mem → Prop} (hret : RtI p l e R s m args below meth c D ad tc A cs sl Qm cL_law Q) {scr : Int → Int} {LL : Nat} {bS : Nat} (hsc : Scr s A bS LL scr) {k18 : Int → Mem → Prop} (hk18 : ∀ (l3 : Int) (σ : Mem), k18 l3 σ → AW p l e R s m args below meth c D ad tc A cs sl Qm 18 [some (.ref bS), some (.ref (ad (5, 0, 0))), some (.ref (ad (6, 0, 0))), some (.int (oI l3))] [] σ) {l3 : Int} {s0 : Int} {s2 : Int} {s3 : Int} {s4 : Int} {σ : Mem} (h : Lw_law_437 scr LL k18 Q l3 s0 s2 s3 s4 σ) : AW p l e R s m args below meth c D ad tc A cs sl Qm 437 [some (.ref bS), some (.ref (ad (5, 0, 0))), some (.ref (ad (6, 0, 0))), some (.int (oI l3))] [.int (oI s4), .int (oI s3), .int (oI s2), .ref (ad (6, 0, 0)), .int (oI s0)] σ := by
  unfold Lw_law_437 at h
  refine aw_aload_n X dL_law_437 rfl ?_
  refine aw_iload_n X dL_law_438 rfl ?_
  refine aw_iconst X dL_law_439 ?_
  refine aw_iadd X dL_law_440 ?_
  obtain ⟨g1a, g1b, h⟩ := h
  refine aw_sld X hsc g1a g1b dL_law_441 ?_
  refine aw_aload_n X dL_law_442 rfl ?_
  refine aw_iload_n X dL_law_443 rfl ?_
  refine aw_iconst X dL_law_444 ?_
  refine aw_iadd X dL_law_445 ?_
  obtain ⟨g2a, g2b, h⟩ := h
  refine aw_sld X hsc g2a g2b dL_law_446 ?_
  refine aw_callVI X hR (s_Mo_weigh l D ad tc X.2.2.2.2.2.2.1 h) ml_L_53 ob_6 rfl (by decide) (by decide) rfl rfl rfl rfl (Nat.le_of_ble_eq_true rfl) rfl dL_law_447 (fun r3 σ3 h => ?_)
  obtain ⟨g4, h⟩ := h
  obtain ⟨g5, h⟩ := h
  refine aw_icmp_eq X dL_law_450 (tgt := 811) (by decide) g4 g5 (fun hc => ?_) (fun hc => ?_)
  · replace h := h.1 hc
    refine aw_weak (als' := [some (.ref bS), some (.ref (ad (5, 0, 0))), some (.ref (ad (6, 0, 0))), some (.int (oI l3))]) ⟨rfl, rfl, rfl, rfl, trivial⟩ ?_
    exact m_Lw_law_811 X hR hret hsc hk18 h
  · replace h := h.2 hc
    refine aw_iconst X dL_law_453 ?_
    exact hret 454 _ _ _ dL_law_454 h

set_option maxHeartbeats 4000000 in
set_option maxRecDepth 100000 in
theorem m_Lw_law_400 {p : Program} {l : Launch} {e : Env} {R : Room} {s : State} {m : MethodId} {args : Array Value} {below : List Frame} {meth : Method} {c : Code} {D : va_G} {ad : Ky → Nat} {tc : Tc} {A : Nat → Prop} {cs sl : Nat} {Qm : State → Prop} (X : Cx p s m args c cL_law RL 4 D ad tc A) (hR : RmOK R cs sl 8 214) {Q : Int → Mem → Prop} (hret : RtI p l e R s m args below meth c D ad tc A cs sl Qm cL_law Q) {scr : Int → Int} {LL : Nat} {bS : Nat} (hsc : Scr s A bS LL scr) {k18 : Int → Mem → Prop} (hk18 : ∀ (l3 : Int) (σ : Mem), k18 l3 σ → AW p l e R s m args below meth c D ad tc A cs sl Qm 18 [some (.ref bS), some (.ref (ad (5, 0, 0))), some (.ref (ad (6, 0, 0))), some (.int (oI l3))] [] σ) {l3 : Int} {s1 : Int} {s2 : Int} {s3 : Int} {σ : Mem} (h : Lw_law_400 scr LL k18 Q l3 s1 s2 s3 σ) : AW p l e R s m args below meth c D ad tc A cs sl Qm 400 [some (.ref bS), some (.ref (ad (5, 0, 0))), some (.ref (ad (6, 0, 0))), some (.int (oI l3))] [.int (oI s3), .int (oI s2), .int (oI s1), .ref (ad (5, 0, 0))] σ := by
  unfold Lw_law_400 at h
  refine aw_aload_n X dL_law_400 rfl ?_
  refine aw_iload_n X dL_law_401 rfl ?_
  refine aw_iconst X dL_law_402 ?_
  refine aw_iadd X dL_law_403 ?_
  obtain ⟨g1a, g1b, h⟩ := h
  refine aw_sld X hsc g1a g1b dL_law_404 ?_
  refine aw_aload_n X dL_law_405 rfl ?_
  refine aw_iload_n X dL_law_406 rfl ?_
  refine aw_iconst X dL_law_407 ?_
  refine aw_iadd X dL_law_408 ?_
  obtain ⟨g2a, g2b, h⟩ := h
  refine aw_sld X hsc g2a g2b dL_law_409 ?_
  refine aw_callVI X hR (s_Sr_weigh l D ad tc X.2.2.2.2.2.2.1 h) ml_L_49 ob_5 rfl (by decide) (by decide) rfl rfl rfl rfl (Nat.le_of_ble_eq_true rfl) rfl dL_law_410 (fun r3 σ3 h => ?_)
  refine aw_aload_n X dL_law_413 rfl ?_
  refine aw_aload_n X dL_law_414 rfl ?_
  refine aw_iload_n X dL_law_415 rfl ?_
  refine aw_iconst X dL_law_416 ?_
  refine aw_iadd X dL_law_417 ?_
  obtain ⟨g4a, g4b, h⟩ := h
  refine aw_sld X hsc g4a g4b dL_law_418 ?_
  refine aw_aload_n X dL_law_419 rfl ?_
  refine aw_iload_n X dL_law_420 rfl ?_
  refine aw_iconst X dL_law_421 ?_
  refine aw_iadd X dL_law_422 ?_
  obtain ⟨g5a, g5b, h⟩ := h
  refine aw_sld X hsc g5a g5b dL_law_423 ?_
  refine aw_aload_n X dL_law_424 rfl ?_
  refine aw_iload_n X dL_law_425 rfl ?_
  refine aw_iconst X dL_law_426 ?_
  refine aw_iadd X dL_law_427 ?_
  obtain ⟨g6a, g6b, h⟩ := h
  refine aw_sld X hsc g6a g6b dL_law_428 ?_
  obtain ⟨g7, h⟩ := h
  refine aw_if_eq X dL_law_429 (tgt := 436) (by decide) g7 (fun hc => ?_) (fun hc => ?_)
  · replace h := h.1 hc
    refine aw_iconst X dL_law_436 ?_
    refine aw_weak (als' := [some (.ref bS), some (.ref (ad (5, 0, 0))), some (.ref (ad (6, 0, 0))), some (.int (oI l3))]) ⟨rfl, rfl, rfl, rfl, trivial⟩ ?_
    exact m_Lw_law_437 X hR hret hsc hk18 h
  · replace h := h.2 hc
    refine aw_iconst X dL_law_432 ?_
    refine aw_goto X dL_law_433 (tgt := 437) (by decide) ?_
    refine aw_weak (als' := [some (.ref bS), some (.ref (ad (5, 0, 0))), some (.ref (ad (6, 0, 0))), some (.int (oI l3))]) ⟨rfl, rfl, rfl, rfl, trivial⟩ ?_
    exact m_Lw_law_437 X hR hret hsc hk18 h

set_option maxHeartbeats 4000000 in
set_option maxRecDepth 100000 in
theorem m_Lw_law_18 {p : Program} {l : Launch} {e : Env} {R : Room} {s : State} {m : MethodId} {args : Array Value} {below : List Frame} {meth : Method} {c : Code} {D : va_G} {ad : Ky → Nat} {tc : Tc} {A : Nat → Prop} {cs sl : Nat} {Qm : State → Prop} (X : Cx p s m args c cL_law RL 4 D ad tc A) (hR : RmOK R cs sl 8 214) {Q : Int → Mem → Prop} (hret : RtI p l e R s m args below meth c D ad tc A cs sl Qm cL_law Q) {scr : Int → Int} {LL : Nat} {bS : Nat} (hsc : Scr s A bS LL scr) : ∀ (n : Nat) (l3 : Int) (σ : Mem), Lw_law_18 scr LL Q n l3 σ → AW p l e R s m args below meth c D ad tc A cs sl Qm 18 [some (.ref bS), some (.ref (ad (5, 0, 0))), some (.ref (ad (6, 0, 0))), some (.int (oI l3))] [] σ := by
  intro n
  induction n with
  | zero =>
    intro l3 σ h
    exact False.elim h
  | succ n ih =>
    intro l3 σ h
    unfold Lw_law_18 at h
    refine aw_iload_n X dL_law_18 rfl ?_
    refine aw_aload_n X dL_law_19 rfl ?_
    refine aw_slen X hsc dL_law_20 ?_
    refine aw_bipush X dL_law_21 rfl ?_
    refine aw_isub X dL_law_23 ?_
    obtain ⟨g1, h⟩ := h
    obtain ⟨g2, h⟩ := h
    refine aw_icmp_gt X dL_law_24 (tgt := 817) (by decide) g1 g2 (fun hc => ?_) (fun hc => ?_)
    · replace h := h.1 hc
      refine aw_iconst X dL_law_817 ?_
      exact hret 818 _ _ _ dL_law_818 h
    · replace h := h.2 hc
      refine aw_aload_n X dL_law_27 rfl ?_
      refine aw_iload_n X dL_law_28 rfl ?_
      obtain ⟨g3a, g3b, h⟩ := h
      refine aw_sld X hsc g3a g3b dL_law_29 ?_
      refine aw_bipush X dL_law_30 rfl ?_
      refine aw_iand X dL_law_32 ?_
      obtain ⟨g4, h⟩ := h
      by_cases hc0 : (iAnd (scr l3) 31) = 0
      · replace h := h.1 hc0
        refine aw_tableIn X dL_law_33 0 hc0 ⟨by decide, by decide⟩ (by decide) (by decide) rfl (tgt := 132) (by decide) ?_
        refine aw_aload_n X dL_law_132 rfl ?_
        refine aw_aload_n X dL_law_133 rfl ?_
        refine aw_iload_n X dL_law_134 rfl ?_
        refine aw_iconst X dL_law_135 ?_
        refine aw_iadd X dL_law_136 ?_
        obtain ⟨g5a, g5b, h⟩ := h
        refine aw_sld X hsc g5a g5b dL_law_137 ?_
        refine aw_callVI X hR (s_Sr_choice l D ad tc X.2.2.2.2.2.2.1 h) ml_L_13 ob_5 rfl (by decide) (by decide) rfl rfl rfl rfl (Nat.le_of_ble_eq_true rfl) rfl dL_law_138 (fun r6 σ6 h => ?_)
        refine aw_aload_n X dL_law_141 rfl ?_
        refine aw_aload_n X dL_law_142 rfl ?_
        refine aw_iload_n X dL_law_143 rfl ?_
        refine aw_iconst X dL_law_144 ?_
        refine aw_iadd X dL_law_145 ?_
        obtain ⟨g7a, g7b, h⟩ := h
        refine aw_sld X hsc g7a g7b dL_law_146 ?_
        refine aw_callVI X hR (s_Mo_choice l D ad tc X.2.2.2.2.2.2.1 h) ml_L_17 ob_6 rfl (by decide) (by decide) rfl rfl rfl rfl (Nat.le_of_ble_eq_true rfl) rfl dL_law_147 (fun r8 σ8 h => ?_)
        obtain ⟨g9, h⟩ := h
        obtain ⟨g10, h⟩ := h
        refine aw_icmp_eq X dL_law_150 (tgt := 811) (by decide) g9 g10 (fun hc => ?_) (fun hc => ?_)
        · replace h := h.1 hc
          refine aw_weak (als' := [some (.ref bS), some (.ref (ad (5, 0, 0))), some (.ref (ad (6, 0, 0))), some (.int (oI l3))]) ⟨rfl, rfl, rfl, rfl, trivial⟩ ?_
          exact m_Lw_law_811 X hR hret hsc ih h
        · replace h := h.2 hc
          refine aw_iconst X dL_law_153 ?_
          exact hret 154 _ _ _ dL_law_154 h
      replace h := h.2
      by_cases hc1 : (iAnd (scr l3) 31) = 1
      · replace h := h.1 hc1
        refine aw_tableIn X dL_law_33 1 hc1 ⟨by decide, by decide⟩ (by decide) (by decide) rfl (tgt := 155) (by decide) ?_
        refine aw_aload_n X dL_law_155 rfl ?_
        refine aw_aload_n X dL_law_156 rfl ?_
        refine aw_iload_n X dL_law_157 rfl ?_
        refine aw_iconst X dL_law_158 ?_
        refine aw_iadd X dL_law_159 ?_
        obtain ⟨g11a, g11b, h⟩ := h
        refine aw_sld X hsc g11a g11b dL_law_160 ?_
        refine aw_aload_n X dL_law_161 rfl ?_
        refine aw_iload_n X dL_law_162 rfl ?_
        refine aw_iconst X dL_law_163 ?_
        refine aw_iadd X dL_law_164 ?_
        obtain ⟨g12a, g12b, h⟩ := h
        refine aw_sld X hsc g12a g12b dL_law_165 ?_
        refine aw_aload_n X dL_law_166 rfl ?_
        refine aw_iload_n X dL_law_167 rfl ?_
        refine aw_iconst X dL_law_168 ?_
        refine aw_iadd X dL_law_169 ?_
        obtain ⟨g13a, g13b, h⟩ := h
        refine aw_sld X hsc g13a g13b dL_law_170 ?_
        refine aw_callVI X hR (s_Sr_price l D ad tc X.2.2.2.2.2.2.1 h) ml_L_18 ob_5 rfl (by decide) (by decide) rfl rfl rfl rfl (Nat.le_of_ble_eq_true rfl) rfl dL_law_171 (fun r14 σ14 h => ?_)
        refine aw_aload_n X dL_law_174 rfl ?_
        refine aw_aload_n X dL_law_175 rfl ?_
        refine aw_iload_n X dL_law_176 rfl ?_
        refine aw_iconst X dL_law_177 ?_
        refine aw_iadd X dL_law_178 ?_
        obtain ⟨g15a, g15b, h⟩ := h
        refine aw_sld X hsc g15a g15b dL_law_179 ?_
        refine aw_aload_n X dL_law_180 rfl ?_
        refine aw_iload_n X dL_law_181 rfl ?_
        refine aw_iconst X dL_law_182 ?_
        refine aw_iadd X dL_law_183 ?_
        obtain ⟨g16a, g16b, h⟩ := h
        refine aw_sld X hsc g16a g16b dL_law_184 ?_
        refine aw_aload_n X dL_law_185 rfl ?_
        refine aw_iload_n X dL_law_186 rfl ?_
        refine aw_iconst X dL_law_187 ?_
        refine aw_iadd X dL_law_188 ?_
        obtain ⟨g17a, g17b, h⟩ := h
        refine aw_sld X hsc g17a g17b dL_law_189 ?_
        refine aw_callVI X hR (s_Mo_price l D ad tc X.2.2.2.2.2.2.1 h) ml_L_22 ob_6 rfl (by decide) (by decide) rfl rfl rfl rfl (Nat.le_of_ble_eq_true rfl) rfl dL_law_190 (fun r18 σ18 h => ?_)
        obtain ⟨g19, h⟩ := h
        obtain ⟨g20, h⟩ := h
        refine aw_icmp_eq X dL_law_193 (tgt := 811) (by decide) g19 g20 (fun hc => ?_) (fun hc => ?_)
        · replace h := h.1 hc
          refine aw_weak (als' := [some (.ref bS), some (.ref (ad (5, 0, 0))), some (.ref (ad (6, 0, 0))), some (.int (oI l3))]) ⟨rfl, rfl, rfl, rfl, trivial⟩ ?_
          exact m_Lw_law_811 X hR hret hsc ih h
        · replace h := h.2 hc
          refine aw_iconst X dL_law_196 ?_
          exact hret 197 _ _ _ dL_law_197 h
      replace h := h.2
      by_cases hc2 : (iAnd (scr l3) 31) = 2
      · replace h := h.1 hc2
        refine aw_tableIn X dL_law_33 2 hc2 ⟨by decide, by decide⟩ (by decide) (by decide) rfl (tgt := 198) (by decide) ?_
        refine aw_aload_n X dL_law_198 rfl ?_
        refine aw_aload_n X dL_law_199 rfl ?_
        refine aw_iload_n X dL_law_200 rfl ?_
        refine aw_iconst X dL_law_201 ?_
        refine aw_iadd X dL_law_202 ?_
        obtain ⟨g21a, g21b, h⟩ := h
        refine aw_sld X hsc g21a g21b dL_law_203 ?_
        refine aw_callVI X hR (s_Sr_future l D ad tc X.2.2.2.2.2.2.1 h) ml_L_23 ob_5 rfl (by decide) (by decide) rfl rfl rfl rfl (Nat.le_of_ble_eq_true rfl) rfl dL_law_204 (fun r22 σ22 h => ?_)
        refine aw_aload_n X dL_law_207 rfl ?_
        refine aw_aload_n X dL_law_208 rfl ?_
        refine aw_iload_n X dL_law_209 rfl ?_
        refine aw_iconst X dL_law_210 ?_
        refine aw_iadd X dL_law_211 ?_
        obtain ⟨g23a, g23b, h⟩ := h
        refine aw_sld X hsc g23a g23b dL_law_212 ?_
        refine aw_callVI X hR (s_Mo_future l D ad tc X.2.2.2.2.2.2.1 h) ml_L_26 ob_6 rfl (by decide) (by decide) rfl rfl rfl rfl (Nat.le_of_ble_eq_true rfl) rfl dL_law_213 (fun r24 σ24 h => ?_)
        obtain ⟨g25, h⟩ := h
        obtain ⟨g26, h⟩ := h
        refine aw_icmp_eq X dL_law_216 (tgt := 811) (by decide) g25 g26 (fun hc => ?_) (fun hc => ?_)
        · replace h := h.1 hc
          refine aw_weak (als' := [some (.ref bS), some (.ref (ad (5, 0, 0))), some (.ref (ad (6, 0, 0))), some (.int (oI l3))]) ⟨rfl, rfl, rfl, rfl, trivial⟩ ?_
          exact m_Lw_law_811 X hR hret hsc ih h
        · replace h := h.2 hc
          refine aw_iconst X dL_law_219 ?_
          exact hret 220 _ _ _ dL_law_220 h
      replace h := h.2
      by_cases hc3 : (iAnd (scr l3) 31) = 3
      · replace h := h.1 hc3
        refine aw_tableIn X dL_law_33 3 hc3 ⟨by decide, by decide⟩ (by decide) (by decide) rfl (tgt := 221) (by decide) ?_
        refine aw_aload_n X dL_law_221 rfl ?_
        refine aw_aload_n X dL_law_222 rfl ?_
        refine aw_iload_n X dL_law_223 rfl ?_
        refine aw_iconst X dL_law_224 ?_
        refine aw_iadd X dL_law_225 ?_
        obtain ⟨g27a, g27b, h⟩ := h
        refine aw_sld X hsc g27a g27b dL_law_226 ?_
        refine aw_aload_n X dL_law_227 rfl ?_
        refine aw_iload_n X dL_law_228 rfl ?_
        refine aw_iconst X dL_law_229 ?_
        refine aw_iadd X dL_law_230 ?_
        obtain ⟨g28a, g28b, h⟩ := h
        refine aw_sld X hsc g28a g28b dL_law_231 ?_
        refine aw_callVI X hR (s_Sr_weight l D ad tc X.2.2.2.2.2.2.1 h) ml_L_27 ob_5 rfl (by decide) (by decide) rfl rfl rfl rfl (Nat.le_of_ble_eq_true rfl) rfl dL_law_232 (fun r29 σ29 h => ?_)
        refine aw_aload_n X dL_law_235 rfl ?_
        refine aw_aload_n X dL_law_236 rfl ?_
        refine aw_iload_n X dL_law_237 rfl ?_
        refine aw_iconst X dL_law_238 ?_
        refine aw_iadd X dL_law_239 ?_
        obtain ⟨g30a, g30b, h⟩ := h
        refine aw_sld X hsc g30a g30b dL_law_240 ?_
        refine aw_aload_n X dL_law_241 rfl ?_
        refine aw_iload_n X dL_law_242 rfl ?_
        refine aw_iconst X dL_law_243 ?_
        refine aw_iadd X dL_law_244 ?_
        obtain ⟨g31a, g31b, h⟩ := h
        refine aw_sld X hsc g31a g31b dL_law_245 ?_
        refine aw_callVI X hR (s_Mo_weight l D ad tc X.2.2.2.2.2.2.1 h) ml_L_31 ob_6 rfl (by decide) (by decide) rfl rfl rfl rfl (Nat.le_of_ble_eq_true rfl) rfl dL_law_246 (fun r32 σ32 h => ?_)
        obtain ⟨g33, h⟩ := h
        obtain ⟨g34, h⟩ := h
        refine aw_icmp_eq X dL_law_249 (tgt := 811) (by decide) g33 g34 (fun hc => ?_) (fun hc => ?_)
        · replace h := h.1 hc
          refine aw_weak (als' := [some (.ref bS), some (.ref (ad (5, 0, 0))), some (.ref (ad (6, 0, 0))), some (.int (oI l3))]) ⟨rfl, rfl, rfl, rfl, trivial⟩ ?_
          exact m_Lw_law_811 X hR hret hsc ih h
        · replace h := h.2 hc
          refine aw_iconst X dL_law_252 ?_
          exact hret 253 _ _ _ dL_law_253 h
      replace h := h.2
      by_cases hc4 : (iAnd (scr l3) 31) = 4
      · replace h := h.1 hc4
        refine aw_tableIn X dL_law_33 4 hc4 ⟨by decide, by decide⟩ (by decide) (by decide) rfl (tgt := 254) (by decide) ?_
        refine aw_aload_n X dL_law_254 rfl ?_
        refine aw_callVI X hR (s_Sr_part l D ad tc X.2.2.2.2.2.2.1 h) ml_L_32 ob_5 rfl (by decide) (by decide) rfl rfl rfl rfl (Nat.le_of_ble_eq_true rfl) rfl dL_law_255 (fun r35 σ35 h => ?_)
        refine aw_aload_n X dL_law_258 rfl ?_
        refine aw_callVI X hR (s_Mo_part l D ad tc X.2.2.2.2.2.2.1 h) ml_L_36 ob_6 rfl (by decide) (by decide) rfl rfl rfl rfl (Nat.le_of_ble_eq_true rfl) rfl dL_law_259 (fun r36 σ36 h => ?_)
        obtain ⟨g37, h⟩ := h
        obtain ⟨g38, h⟩ := h
        refine aw_icmp_eq X dL_law_262 (tgt := 811) (by decide) g37 g38 (fun hc => ?_) (fun hc => ?_)
        · replace h := h.1 hc
          refine aw_weak (als' := [some (.ref bS), some (.ref (ad (5, 0, 0))), some (.ref (ad (6, 0, 0))), some (.int (oI l3))]) ⟨rfl, rfl, rfl, rfl, trivial⟩ ?_
          exact m_Lw_law_811 X hR hret hsc ih h
        · replace h := h.2 hc
          refine aw_iconst X dL_law_265 ?_
          exact hret 266 _ _ _ dL_law_266 h
      replace h := h.2
      by_cases hc5 : (iAnd (scr l3) 31) = 5
      · replace h := h.1 hc5
        refine aw_tableIn X dL_law_33 5 hc5 ⟨by decide, by decide⟩ (by decide) (by decide) rfl (tgt := 267) (by decide) ?_
        refine aw_aload_n X dL_law_267 rfl ?_
        refine aw_aload_n X dL_law_268 rfl ?_
        refine aw_iload_n X dL_law_269 rfl ?_
        refine aw_iconst X dL_law_270 ?_
        refine aw_iadd X dL_law_271 ?_
        obtain ⟨g39a, g39b, h⟩ := h
        refine aw_sld X hsc g39a g39b dL_law_272 ?_
        refine aw_aload_n X dL_law_273 rfl ?_
        refine aw_iload_n X dL_law_274 rfl ?_
        refine aw_iconst X dL_law_275 ?_
        refine aw_iadd X dL_law_276 ?_
        obtain ⟨g40a, g40b, h⟩ := h
        refine aw_sld X hsc g40a g40b dL_law_277 ?_
        refine aw_callVI X hR (s_Sr_join l D ad tc X.2.2.2.2.2.2.1 h) ml_L_37 ob_5 rfl (by decide) (by decide) rfl rfl rfl rfl (Nat.le_of_ble_eq_true rfl) rfl dL_law_278 (fun r41 σ41 h => ?_)
        refine aw_aload_n X dL_law_281 rfl ?_
        refine aw_aload_n X dL_law_282 rfl ?_
        refine aw_iload_n X dL_law_283 rfl ?_
        refine aw_iconst X dL_law_284 ?_
        refine aw_iadd X dL_law_285 ?_
        obtain ⟨g42a, g42b, h⟩ := h
        refine aw_sld X hsc g42a g42b dL_law_286 ?_
        refine aw_aload_n X dL_law_287 rfl ?_
        refine aw_iload_n X dL_law_288 rfl ?_
        refine aw_iconst X dL_law_289 ?_
        refine aw_iadd X dL_law_290 ?_
        obtain ⟨g43a, g43b, h⟩ := h
        refine aw_sld X hsc g43a g43b dL_law_291 ?_
        refine aw_callVI X hR (s_Mo_join l D ad tc X.2.2.2.2.2.2.1 h) ml_L_40 ob_6 rfl (by decide) (by decide) rfl rfl rfl rfl (Nat.le_of_ble_eq_true rfl) rfl dL_law_292 (fun r44 σ44 h => ?_)
        obtain ⟨g45, h⟩ := h
        obtain ⟨g46, h⟩ := h
        refine aw_icmp_eq X dL_law_295 (tgt := 811) (by decide) g45 g46 (fun hc => ?_) (fun hc => ?_)
        · replace h := h.1 hc
          refine aw_weak (als' := [some (.ref bS), some (.ref (ad (5, 0, 0))), some (.ref (ad (6, 0, 0))), some (.int (oI l3))]) ⟨rfl, rfl, rfl, rfl, trivial⟩ ?_
          exact m_Lw_law_811 X hR hret hsc ih h
        · replace h := h.2 hc
          refine aw_iconst X dL_law_298 ?_
          exact hret 299 _ _ _ dL_law_299 h
      replace h := h.2
      by_cases hc6 : (iAnd (scr l3) 31) = 6
      · replace h := h.1 hc6
        refine aw_tableIn X dL_law_33 6 hc6 ⟨by decide, by decide⟩ (by decide) (by decide) rfl (tgt := 300) (by decide) ?_
        refine aw_aload_n X dL_law_300 rfl ?_
        refine aw_aload_n X dL_law_301 rfl ?_
        refine aw_iload_n X dL_law_302 rfl ?_
        refine aw_iconst X dL_law_303 ?_
        refine aw_iadd X dL_law_304 ?_
        obtain ⟨g47a, g47b, h⟩ := h
        refine aw_sld X hsc g47a g47b dL_law_305 ?_
        refine aw_aload_n X dL_law_306 rfl ?_
        refine aw_iload_n X dL_law_307 rfl ?_
        refine aw_iconst X dL_law_308 ?_
        refine aw_iadd X dL_law_309 ?_
        obtain ⟨g48a, g48b, h⟩ := h
        refine aw_sld X hsc g48a g48b dL_law_310 ?_
        refine aw_aload_n X dL_law_311 rfl ?_
        refine aw_iload_n X dL_law_312 rfl ?_
        refine aw_iconst X dL_law_313 ?_
        refine aw_iadd X dL_law_314 ?_
        obtain ⟨g49a, g49b, h⟩ := h
        refine aw_sld X hsc g49a g49b dL_law_315 ?_
        refine aw_callVI X hR (s_Sr_local l D ad tc X.2.2.2.2.2.2.1 h) ml_L_41 ob_5 rfl (by decide) (by decide) rfl rfl rfl rfl (Nat.le_of_ble_eq_true rfl) rfl dL_law_316 (fun r50 σ50 h => ?_)
        refine aw_aload_n X dL_law_319 rfl ?_
        refine aw_aload_n X dL_law_320 rfl ?_
        refine aw_iload_n X dL_law_321 rfl ?_
        refine aw_iconst X dL_law_322 ?_
        refine aw_iadd X dL_law_323 ?_
        obtain ⟨g51a, g51b, h⟩ := h
        refine aw_sld X hsc g51a g51b dL_law_324 ?_
        refine aw_aload_n X dL_law_325 rfl ?_
        refine aw_iload_n X dL_law_326 rfl ?_
        refine aw_iconst X dL_law_327 ?_
        refine aw_iadd X dL_law_328 ?_
        obtain ⟨g52a, g52b, h⟩ := h
        refine aw_sld X hsc g52a g52b dL_law_329 ?_
        refine aw_aload_n X dL_law_330 rfl ?_
        refine aw_iload_n X dL_law_331 rfl ?_
        refine aw_iconst X dL_law_332 ?_
        refine aw_iadd X dL_law_333 ?_
        obtain ⟨g53a, g53b, h⟩ := h
        refine aw_sld X hsc g53a g53b dL_law_334 ?_
        refine aw_callVI X hR (s_Mo_local l D ad tc X.2.2.2.2.2.2.1 h) ml_L_44 ob_6 rfl (by decide) (by decide) rfl rfl rfl rfl (Nat.le_of_ble_eq_true rfl) rfl dL_law_335 (fun r54 σ54 h => ?_)
        obtain ⟨g55, h⟩ := h
        obtain ⟨g56, h⟩ := h
        refine aw_icmp_eq X dL_law_338 (tgt := 811) (by decide) g55 g56 (fun hc => ?_) (fun hc => ?_)
        · replace h := h.1 hc
          refine aw_weak (als' := [some (.ref bS), some (.ref (ad (5, 0, 0))), some (.ref (ad (6, 0, 0))), some (.int (oI l3))]) ⟨rfl, rfl, rfl, rfl, trivial⟩ ?_
          exact m_Lw_law_811 X hR hret hsc ih h
        · replace h := h.2 hc
          refine aw_iconst X dL_law_341 ?_
          exact hret 342 _ _ _ dL_law_342 h
      replace h := h.2
      by_cases hc7 : (iAnd (scr l3) 31) = 7
      · replace h := h.1 hc7
        refine aw_tableIn X dL_law_33 7 hc7 ⟨by decide, by decide⟩ (by decide) (by decide) rfl (tgt := 343) (by decide) ?_
        refine aw_aload_n X dL_law_343 rfl ?_
        refine aw_aload_n X dL_law_344 rfl ?_
        refine aw_iload_n X dL_law_345 rfl ?_
        refine aw_iconst X dL_law_346 ?_
        refine aw_iadd X dL_law_347 ?_
        obtain ⟨g57a, g57b, h⟩ := h
        refine aw_sld X hsc g57a g57b dL_law_348 ?_
        refine aw_aload_n X dL_law_349 rfl ?_
        refine aw_iload_n X dL_law_350 rfl ?_
        refine aw_iconst X dL_law_351 ?_
        refine aw_iadd X dL_law_352 ?_
        obtain ⟨g58a, g58b, h⟩ := h
        refine aw_sld X hsc g58a g58b dL_law_353 ?_
        refine aw_callVI X hR (s_Sr_row l D ad tc X.2.2.2.2.2.2.1 h) ml_L_45 ob_5 rfl (by decide) (by decide) rfl rfl rfl rfl (Nat.le_of_ble_eq_true rfl) rfl dL_law_354 (fun r59 σ59 h => ?_)
        refine aw_aload_n X dL_law_357 rfl ?_
        refine aw_aload_n X dL_law_358 rfl ?_
        refine aw_iload_n X dL_law_359 rfl ?_
        refine aw_iconst X dL_law_360 ?_
        refine aw_iadd X dL_law_361 ?_
        obtain ⟨g60a, g60b, h⟩ := h
        refine aw_sld X hsc g60a g60b dL_law_362 ?_
        refine aw_aload_n X dL_law_363 rfl ?_
        refine aw_iload_n X dL_law_364 rfl ?_
        refine aw_iconst X dL_law_365 ?_
        refine aw_iadd X dL_law_366 ?_
        obtain ⟨g61a, g61b, h⟩ := h
        refine aw_sld X hsc g61a g61b dL_law_367 ?_
        refine aw_callVI X hR (s_Mo_row l D ad tc X.2.2.2.2.2.2.1 h) ml_L_48 ob_6 rfl (by decide) (by decide) rfl rfl rfl rfl (Nat.le_of_ble_eq_true rfl) rfl dL_law_368 (fun r62 σ62 h => ?_)
        obtain ⟨g63, h⟩ := h
        obtain ⟨g64, h⟩ := h
        refine aw_icmp_eq X dL_law_371 (tgt := 811) (by decide) g63 g64 (fun hc => ?_) (fun hc => ?_)
        · replace h := h.1 hc
          refine aw_weak (als' := [some (.ref bS), some (.ref (ad (5, 0, 0))), some (.ref (ad (6, 0, 0))), some (.int (oI l3))]) ⟨rfl, rfl, rfl, rfl, trivial⟩ ?_
          exact m_Lw_law_811 X hR hret hsc ih h
        · replace h := h.2 hc
          refine aw_iconst X dL_law_374 ?_
          exact hret 375 _ _ _ dL_law_375 h
      replace h := h.2
      by_cases hc8 : (iAnd (scr l3) 31) = 8
      · replace h := h.1 hc8
        refine aw_tableIn X dL_law_33 8 hc8 ⟨by decide, by decide⟩ (by decide) (by decide) rfl (tgt := 376) (by decide) ?_
        refine aw_aload_n X dL_law_376 rfl ?_
        refine aw_aload_n X dL_law_377 rfl ?_
        refine aw_iload_n X dL_law_378 rfl ?_
        refine aw_iconst X dL_law_379 ?_
        refine aw_iadd X dL_law_380 ?_
        obtain ⟨g65a, g65b, h⟩ := h
        refine aw_sld X hsc g65a g65b dL_law_381 ?_
        refine aw_aload_n X dL_law_382 rfl ?_
        refine aw_iload_n X dL_law_383 rfl ?_
        refine aw_iconst X dL_law_384 ?_
        refine aw_iadd X dL_law_385 ?_
        obtain ⟨g66a, g66b, h⟩ := h
        refine aw_sld X hsc g66a g66b dL_law_386 ?_
        refine aw_aload_n X dL_law_387 rfl ?_
        refine aw_iload_n X dL_law_388 rfl ?_
        refine aw_iconst X dL_law_389 ?_
        refine aw_iadd X dL_law_390 ?_
        obtain ⟨g67a, g67b, h⟩ := h
        refine aw_sld X hsc g67a g67b dL_law_391 ?_
        obtain ⟨g68, h⟩ := h
        refine aw_if_eq X dL_law_392 (tgt := 399) (by decide) g68 (fun hc => ?_) (fun hc => ?_)
        · replace h := h.1 hc
          refine aw_iconst X dL_law_399 ?_
          refine aw_weak (als' := [some (.ref bS), some (.ref (ad (5, 0, 0))), some (.ref (ad (6, 0, 0))), some (.int (oI l3))]) ⟨rfl, rfl, rfl, rfl, trivial⟩ ?_
          exact m_Lw_law_400 X hR hret hsc ih h
        · replace h := h.2 hc
          refine aw_iconst X dL_law_395 ?_
          refine aw_goto X dL_law_396 (tgt := 400) (by decide) ?_
          refine aw_weak (als' := [some (.ref bS), some (.ref (ad (5, 0, 0))), some (.ref (ad (6, 0, 0))), some (.int (oI l3))]) ⟨rfl, rfl, rfl, rfl, trivial⟩ ?_
          exact m_Lw_law_400 X hR hret hsc ih h
      replace h := h.2
      by_cases hc9 : (iAnd (scr l3) 31) = 9
      · replace h := h.1 hc9
        refine aw_tableIn X dL_law_33 9 hc9 ⟨by decide, by decide⟩ (by decide) (by decide) rfl (tgt := 455) (by decide) ?_
        refine aw_aload_n X dL_law_455 rfl ?_
        refine aw_aload_n X dL_law_456 rfl ?_
        refine aw_iload_n X dL_law_457 rfl ?_
        refine aw_iconst X dL_law_458 ?_
        refine aw_iadd X dL_law_459 ?_
        obtain ⟨g69a, g69b, h⟩ := h
        refine aw_sld X hsc g69a g69b dL_law_460 ?_
        refine aw_aload_n X dL_law_461 rfl ?_
        refine aw_iload_n X dL_law_462 rfl ?_
        refine aw_iconst X dL_law_463 ?_
        refine aw_iadd X dL_law_464 ?_
        obtain ⟨g70a, g70b, h⟩ := h
        refine aw_sld X hsc g70a g70b dL_law_465 ?_
        refine aw_aload_n X dL_law_466 rfl ?_
        refine aw_iload_n X dL_law_467 rfl ?_
        refine aw_iconst X dL_law_468 ?_
        refine aw_iadd X dL_law_469 ?_
        obtain ⟨g71a, g71b, h⟩ := h
        refine aw_sld X hsc g71a g71b dL_law_470 ?_
        refine aw_aload_n X dL_law_471 rfl ?_
        refine aw_iload_n X dL_law_472 rfl ?_
        refine aw_iconst X dL_law_473 ?_
        refine aw_iadd X dL_law_474 ?_
        obtain ⟨g72a, g72b, h⟩ := h
        refine aw_sld X hsc g72a g72b dL_law_475 ?_
        refine aw_callVI X hR (s_Sr_shift l D ad tc X.2.2.2.2.2.2.1 h) ml_L_54 ob_5 rfl (by decide) (by decide) rfl rfl rfl rfl (Nat.le_of_ble_eq_true rfl) rfl dL_law_476 (fun r73 σ73 h => ?_)
        refine aw_aload_n X dL_law_479 rfl ?_
        refine aw_aload_n X dL_law_480 rfl ?_
        refine aw_iload_n X dL_law_481 rfl ?_
        refine aw_iconst X dL_law_482 ?_
        refine aw_iadd X dL_law_483 ?_
        obtain ⟨g74a, g74b, h⟩ := h
        refine aw_sld X hsc g74a g74b dL_law_484 ?_
        refine aw_aload_n X dL_law_485 rfl ?_
        refine aw_iload_n X dL_law_486 rfl ?_
        refine aw_iconst X dL_law_487 ?_
        refine aw_iadd X dL_law_488 ?_
        obtain ⟨g75a, g75b, h⟩ := h
        refine aw_sld X hsc g75a g75b dL_law_489 ?_
        refine aw_aload_n X dL_law_490 rfl ?_
        refine aw_iload_n X dL_law_491 rfl ?_
        refine aw_iconst X dL_law_492 ?_
        refine aw_iadd X dL_law_493 ?_
        obtain ⟨g76a, g76b, h⟩ := h
        refine aw_sld X hsc g76a g76b dL_law_494 ?_
        refine aw_aload_n X dL_law_495 rfl ?_
        refine aw_iload_n X dL_law_496 rfl ?_
        refine aw_iconst X dL_law_497 ?_
        refine aw_iadd X dL_law_498 ?_
        obtain ⟨g77a, g77b, h⟩ := h
        refine aw_sld X hsc g77a g77b dL_law_499 ?_
        refine aw_callVI X hR (s_Mo_shift l D ad tc X.2.2.2.2.2.2.1 h) ml_L_58 ob_6 rfl (by decide) (by decide) rfl rfl rfl rfl (Nat.le_of_ble_eq_true rfl) rfl dL_law_500 (fun r78 σ78 h => ?_)
        obtain ⟨g79, h⟩ := h
        obtain ⟨g80, h⟩ := h
        refine aw_icmp_eq X dL_law_503 (tgt := 811) (by decide) g79 g80 (fun hc => ?_) (fun hc => ?_)
        · replace h := h.1 hc
          refine aw_weak (als' := [some (.ref bS), some (.ref (ad (5, 0, 0))), some (.ref (ad (6, 0, 0))), some (.int (oI l3))]) ⟨rfl, rfl, rfl, rfl, trivial⟩ ?_
          exact m_Lw_law_811 X hR hret hsc ih h
        · replace h := h.2 hc
          refine aw_iconst X dL_law_506 ?_
          exact hret 507 _ _ _ dL_law_507 h
      replace h := h.2
      by_cases hc10 : (iAnd (scr l3) 31) = 10
      · replace h := h.1 hc10
        refine aw_tableIn X dL_law_33 10 hc10 ⟨by decide, by decide⟩ (by decide) (by decide) rfl (tgt := 508) (by decide) ?_
        refine aw_aload_n X dL_law_508 rfl ?_
        refine aw_aload_n X dL_law_509 rfl ?_
        refine aw_iload_n X dL_law_510 rfl ?_
        refine aw_iconst X dL_law_511 ?_
        refine aw_iadd X dL_law_512 ?_
        obtain ⟨g81a, g81b, h⟩ := h
        refine aw_sld X hsc g81a g81b dL_law_513 ?_
        refine aw_callVI X hR (s_Sr_run l D ad tc X.2.2.2.2.2.2.1 h) ml_L_59 ob_5 rfl (by decide) (by decide) rfl rfl rfl rfl (Nat.le_of_ble_eq_true rfl) rfl dL_law_514 (fun r82 σ82 h => ?_)
        refine aw_aload_n X dL_law_517 rfl ?_
        refine aw_aload_n X dL_law_518 rfl ?_
        refine aw_iload_n X dL_law_519 rfl ?_
        refine aw_iconst X dL_law_520 ?_
        refine aw_iadd X dL_law_521 ?_
        obtain ⟨g83a, g83b, h⟩ := h
        refine aw_sld X hsc g83a g83b dL_law_522 ?_
        refine aw_callVI X hR (s_Mo_run l D ad tc X.2.2.2.2.2.2.1 h) ml_L_62 ob_6 rfl (by decide) (by decide) rfl rfl rfl rfl (Nat.le_of_ble_eq_true rfl) rfl dL_law_523 (fun r84 σ84 h => ?_)
        obtain ⟨g85, h⟩ := h
        obtain ⟨g86, h⟩ := h
        refine aw_icmp_eq X dL_law_526 (tgt := 811) (by decide) g85 g86 (fun hc => ?_) (fun hc => ?_)
        · replace h := h.1 hc
          refine aw_weak (als' := [some (.ref bS), some (.ref (ad (5, 0, 0))), some (.ref (ad (6, 0, 0))), some (.int (oI l3))]) ⟨rfl, rfl, rfl, rfl, trivial⟩ ?_
          exact m_Lw_law_811 X hR hret hsc ih h
        · replace h := h.2 hc
          refine aw_iconst X dL_law_529 ?_
          exact hret 530 _ _ _ dL_law_530 h
      replace h := h.2
      by_cases hc11 : (iAnd (scr l3) 31) = 11
      · replace h := h.1 hc11
        refine aw_tableIn X dL_law_33 11 hc11 ⟨by decide, by decide⟩ (by decide) (by decide) rfl (tgt := 531) (by decide) ?_
        refine aw_aload_n X dL_law_531 rfl ?_
        refine aw_aload_n X dL_law_532 rfl ?_
        refine aw_iload_n X dL_law_533 rfl ?_
        refine aw_iconst X dL_law_534 ?_
        refine aw_iadd X dL_law_535 ?_
        obtain ⟨g87a, g87b, h⟩ := h
        refine aw_sld X hsc g87a g87b dL_law_536 ?_
        refine aw_callVI X hR (s_Sr_told l D ad tc X.2.2.2.2.2.2.1 h) ml_L_63 ob_5 rfl (by decide) (by decide) rfl rfl rfl rfl (Nat.le_of_ble_eq_true rfl) rfl dL_law_537 (fun r88 σ88 h => ?_)
        refine aw_aload_n X dL_law_540 rfl ?_
        refine aw_aload_n X dL_law_541 rfl ?_
        refine aw_iload_n X dL_law_542 rfl ?_
        refine aw_iconst X dL_law_543 ?_
        refine aw_iadd X dL_law_544 ?_
        obtain ⟨g89a, g89b, h⟩ := h
        refine aw_sld X hsc g89a g89b dL_law_545 ?_
        refine aw_callVI X hR (s_Mo_told l D ad tc X.2.2.2.2.2.2.1 h) ml_L_66 ob_6 rfl (by decide) (by decide) rfl rfl rfl rfl (Nat.le_of_ble_eq_true rfl) rfl dL_law_546 (fun r90 σ90 h => ?_)
        obtain ⟨g91, h⟩ := h
        obtain ⟨g92, h⟩ := h
        refine aw_icmp_eq X dL_law_549 (tgt := 811) (by decide) g91 g92 (fun hc => ?_) (fun hc => ?_)
        · replace h := h.1 hc
          refine aw_weak (als' := [some (.ref bS), some (.ref (ad (5, 0, 0))), some (.ref (ad (6, 0, 0))), some (.int (oI l3))]) ⟨rfl, rfl, rfl, rfl, trivial⟩ ?_
          exact m_Lw_law_811 X hR hret hsc ih h
        · replace h := h.2 hc
          refine aw_iconst X dL_law_552 ?_
          exact hret 553 _ _ _ dL_law_553 h
      replace h := h.2
      by_cases hc12 : (iAnd (scr l3) 31) = 12
      · replace h := h.1 hc12
        refine aw_tableIn X dL_law_33 12 hc12 ⟨by decide, by decide⟩ (by decide) (by decide) rfl (tgt := 554) (by decide) ?_
        refine aw_aload_n X dL_law_554 rfl ?_
        refine aw_aload_n X dL_law_555 rfl ?_
        refine aw_iload_n X dL_law_556 rfl ?_
        refine aw_iconst X dL_law_557 ?_
        refine aw_iadd X dL_law_558 ?_
        obtain ⟨g93a, g93b, h⟩ := h
        refine aw_sld X hsc g93a g93b dL_law_559 ?_
        refine aw_callVI X hR (s_Sr_best l D ad tc X.2.2.2.2.2.2.1 h) ml_L_67 ob_5 rfl (by decide) (by decide) rfl rfl rfl rfl (Nat.le_of_ble_eq_true rfl) rfl dL_law_560 (fun r94 σ94 h => ?_)
        refine aw_aload_n X dL_law_563 rfl ?_
        refine aw_aload_n X dL_law_564 rfl ?_
        refine aw_iload_n X dL_law_565 rfl ?_
        refine aw_iconst X dL_law_566 ?_
        refine aw_iadd X dL_law_567 ?_
        obtain ⟨g95a, g95b, h⟩ := h
        refine aw_sld X hsc g95a g95b dL_law_568 ?_
        refine aw_callVI X hR (s_Mo_best l D ad tc X.2.2.2.2.2.2.1 h) ml_L_70 ob_6 rfl (by decide) (by decide) rfl rfl rfl rfl (Nat.le_of_ble_eq_true rfl) rfl dL_law_569 (fun r96 σ96 h => ?_)
        obtain ⟨g97, h⟩ := h
        obtain ⟨g98, h⟩ := h
        refine aw_icmp_eq X dL_law_572 (tgt := 811) (by decide) g97 g98 (fun hc => ?_) (fun hc => ?_)
        · replace h := h.1 hc
          refine aw_weak (als' := [some (.ref bS), some (.ref (ad (5, 0, 0))), some (.ref (ad (6, 0, 0))), some (.int (oI l3))]) ⟨rfl, rfl, rfl, rfl, trivial⟩ ?_
          exact m_Lw_law_811 X hR hret hsc ih h
        · replace h := h.2 hc
          refine aw_iconst X dL_law_575 ?_
          exact hret 576 _ _ _ dL_law_576 h
      replace h := h.2
      by_cases hc13 : (iAnd (scr l3) 31) = 13
      · replace h := h.1 hc13
        refine aw_tableIn X dL_law_33 13 hc13 ⟨by decide, by decide⟩ (by decide) (by decide) rfl (tgt := 577) (by decide) ?_
        refine aw_aload_n X dL_law_577 rfl ?_
        refine aw_aload_n X dL_law_578 rfl ?_
        refine aw_iload_n X dL_law_579 rfl ?_
        refine aw_iconst X dL_law_580 ?_
        refine aw_iadd X dL_law_581 ?_
        obtain ⟨g99a, g99b, h⟩ := h
        refine aw_sld X hsc g99a g99b dL_law_582 ?_
        refine aw_callVI X hR (s_Sr_master l D ad tc X.2.2.2.2.2.2.1 h) ml_L_71 ob_5 rfl (by decide) (by decide) rfl rfl rfl rfl (Nat.le_of_ble_eq_true rfl) rfl dL_law_583 (fun r100 σ100 h => ?_)
        refine aw_aload_n X dL_law_586 rfl ?_
        refine aw_aload_n X dL_law_587 rfl ?_
        refine aw_iload_n X dL_law_588 rfl ?_
        refine aw_iconst X dL_law_589 ?_
        refine aw_iadd X dL_law_590 ?_
        obtain ⟨g101a, g101b, h⟩ := h
        refine aw_sld X hsc g101a g101b dL_law_591 ?_
        refine aw_callVI X hR (s_Mo_master l D ad tc X.2.2.2.2.2.2.1 h) ml_L_74 ob_6 rfl (by decide) (by decide) rfl rfl rfl rfl (Nat.le_of_ble_eq_true rfl) rfl dL_law_592 (fun r102 σ102 h => ?_)
        obtain ⟨g103, h⟩ := h
        obtain ⟨g104, h⟩ := h
        refine aw_icmp_eq X dL_law_595 (tgt := 811) (by decide) g103 g104 (fun hc => ?_) (fun hc => ?_)
        · replace h := h.1 hc
          refine aw_weak (als' := [some (.ref bS), some (.ref (ad (5, 0, 0))), some (.ref (ad (6, 0, 0))), some (.int (oI l3))]) ⟨rfl, rfl, rfl, rfl, trivial⟩ ?_
          exact m_Lw_law_811 X hR hret hsc ih h
        · replace h := h.2 hc
          refine aw_iconst X dL_law_598 ?_
          exact hret 599 _ _ _ dL_law_599 h
      replace h := h.2
      by_cases hc14 : (iAnd (scr l3) 31) = 14
      · replace h := h.1 hc14
        refine aw_tableIn X dL_law_33 14 hc14 ⟨by decide, by decide⟩ (by decide) (by decide) rfl (tgt := 600) (by decide) ?_
        refine aw_aload_n X dL_law_600 rfl ?_
        refine aw_aload_n X dL_law_601 rfl ?_
        refine aw_iload_n X dL_law_602 rfl ?_
        refine aw_iconst X dL_law_603 ?_
        refine aw_iadd X dL_law_604 ?_
        obtain ⟨g105a, g105b, h⟩ := h
        refine aw_sld X hsc g105a g105b dL_law_605 ?_
        refine aw_callVI X hR (s_Sr_share l D ad tc X.2.2.2.2.2.2.1 h) ml_L_75 ob_5 rfl (by decide) (by decide) rfl rfl rfl rfl (Nat.le_of_ble_eq_true rfl) rfl dL_law_606 (fun r106 σ106 h => ?_)
        refine aw_aload_n X dL_law_609 rfl ?_
        refine aw_aload_n X dL_law_610 rfl ?_
        refine aw_iload_n X dL_law_611 rfl ?_
        refine aw_iconst X dL_law_612 ?_
        refine aw_iadd X dL_law_613 ?_
        obtain ⟨g107a, g107b, h⟩ := h
        refine aw_sld X hsc g107a g107b dL_law_614 ?_
        refine aw_callVI X hR (s_Mo_share l D ad tc X.2.2.2.2.2.2.1 h) ml_L_78 ob_6 rfl (by decide) (by decide) rfl rfl rfl rfl (Nat.le_of_ble_eq_true rfl) rfl dL_law_615 (fun r108 σ108 h => ?_)
        obtain ⟨g109, h⟩ := h
        obtain ⟨g110, h⟩ := h
        refine aw_icmp_eq X dL_law_618 (tgt := 811) (by decide) g109 g110 (fun hc => ?_) (fun hc => ?_)
        · replace h := h.1 hc
          refine aw_weak (als' := [some (.ref bS), some (.ref (ad (5, 0, 0))), some (.ref (ad (6, 0, 0))), some (.int (oI l3))]) ⟨rfl, rfl, rfl, rfl, trivial⟩ ?_
          exact m_Lw_law_811 X hR hret hsc ih h
        · replace h := h.2 hc
          refine aw_iconst X dL_law_621 ?_
          exact hret 622 _ _ _ dL_law_622 h
      replace h := h.2
      by_cases hc15 : (iAnd (scr l3) 31) = 15
      · replace h := h.1 hc15
        refine aw_tableIn X dL_law_33 15 hc15 ⟨by decide, by decide⟩ (by decide) (by decide) rfl (tgt := 623) (by decide) ?_
        refine aw_aload_n X dL_law_623 rfl ?_
        refine aw_aload_n X dL_law_624 rfl ?_
        refine aw_iload_n X dL_law_625 rfl ?_
        refine aw_iconst X dL_law_626 ?_
        refine aw_iadd X dL_law_627 ?_
        obtain ⟨g111a, g111b, h⟩ := h
        refine aw_sld X hsc g111a g111b dL_law_628 ?_
        refine aw_aload_n X dL_law_629 rfl ?_
        refine aw_iload_n X dL_law_630 rfl ?_
        refine aw_iconst X dL_law_631 ?_
        refine aw_iadd X dL_law_632 ?_
        obtain ⟨g112a, g112b, h⟩ := h
        refine aw_sld X hsc g112a g112b dL_law_633 ?_
        refine aw_callVI X hR (s_Sr_ask l D ad tc X.2.2.2.2.2.2.1 h) ml_L_79 ob_5 rfl (by decide) (by decide) rfl rfl rfl rfl (Nat.le_of_ble_eq_true rfl) rfl dL_law_634 (fun r113 σ113 h => ?_)
        refine aw_aload_n X dL_law_637 rfl ?_
        refine aw_aload_n X dL_law_638 rfl ?_
        refine aw_iload_n X dL_law_639 rfl ?_
        refine aw_iconst X dL_law_640 ?_
        refine aw_iadd X dL_law_641 ?_
        obtain ⟨g114a, g114b, h⟩ := h
        refine aw_sld X hsc g114a g114b dL_law_642 ?_
        refine aw_aload_n X dL_law_643 rfl ?_
        refine aw_iload_n X dL_law_644 rfl ?_
        refine aw_iconst X dL_law_645 ?_
        refine aw_iadd X dL_law_646 ?_
        obtain ⟨g115a, g115b, h⟩ := h
        refine aw_sld X hsc g115a g115b dL_law_647 ?_
        refine aw_callVI X hR (s_Mo_ask l D ad tc X.2.2.2.2.2.2.1 h) ml_L_82 ob_6 rfl (by decide) (by decide) rfl rfl rfl rfl (Nat.le_of_ble_eq_true rfl) rfl dL_law_648 (fun r116 σ116 h => ?_)
        obtain ⟨g117, h⟩ := h
        obtain ⟨g118, h⟩ := h
        refine aw_icmp_eq X dL_law_651 (tgt := 811) (by decide) g117 g118 (fun hc => ?_) (fun hc => ?_)
        · replace h := h.1 hc
          refine aw_weak (als' := [some (.ref bS), some (.ref (ad (5, 0, 0))), some (.ref (ad (6, 0, 0))), some (.int (oI l3))]) ⟨rfl, rfl, rfl, rfl, trivial⟩ ?_
          exact m_Lw_law_811 X hR hret hsc ih h
        · replace h := h.2 hc
          refine aw_iconst X dL_law_654 ?_
          exact hret 655 _ _ _ dL_law_655 h
      replace h := h.2
      by_cases hc16 : (iAnd (scr l3) 31) = 16
      · replace h := h.1 hc16
        refine aw_tableIn X dL_law_33 16 hc16 ⟨by decide, by decide⟩ (by decide) (by decide) rfl (tgt := 656) (by decide) ?_
        refine aw_aload_n X dL_law_656 rfl ?_
        refine aw_aload_n X dL_law_657 rfl ?_
        refine aw_iload_n X dL_law_658 rfl ?_
        refine aw_iconst X dL_law_659 ?_
        refine aw_iadd X dL_law_660 ?_
        obtain ⟨g119a, g119b, h⟩ := h
        refine aw_sld X hsc g119a g119b dL_law_661 ?_
        refine aw_aload_n X dL_law_662 rfl ?_
        refine aw_iload_n X dL_law_663 rfl ?_
        refine aw_iconst X dL_law_664 ?_
        refine aw_iadd X dL_law_665 ?_
        obtain ⟨g120a, g120b, h⟩ := h
        refine aw_sld X hsc g120a g120b dL_law_666 ?_
        refine aw_callVI X hR (s_Sr_answer l D ad tc X.2.2.2.2.2.2.1 h) ml_L_83 ob_5 rfl (by decide) (by decide) rfl rfl rfl rfl (Nat.le_of_ble_eq_true rfl) rfl dL_law_667 (fun r121 σ121 h => ?_)
        refine aw_aload_n X dL_law_670 rfl ?_
        refine aw_aload_n X dL_law_671 rfl ?_
        refine aw_iload_n X dL_law_672 rfl ?_
        refine aw_iconst X dL_law_673 ?_
        refine aw_iadd X dL_law_674 ?_
        obtain ⟨g122a, g122b, h⟩ := h
        refine aw_sld X hsc g122a g122b dL_law_675 ?_
        refine aw_aload_n X dL_law_676 rfl ?_
        refine aw_iload_n X dL_law_677 rfl ?_
        refine aw_iconst X dL_law_678 ?_
        refine aw_iadd X dL_law_679 ?_
        obtain ⟨g123a, g123b, h⟩ := h
        refine aw_sld X hsc g123a g123b dL_law_680 ?_
        refine aw_callVI X hR (s_Mo_answer l D ad tc X.2.2.2.2.2.2.1 h) ml_L_86 ob_6 rfl (by decide) (by decide) rfl rfl rfl rfl (Nat.le_of_ble_eq_true rfl) rfl dL_law_681 (fun r124 σ124 h => ?_)
        obtain ⟨g125, h⟩ := h
        obtain ⟨g126, h⟩ := h
        refine aw_icmp_eq X dL_law_684 (tgt := 811) (by decide) g125 g126 (fun hc => ?_) (fun hc => ?_)
        · replace h := h.1 hc
          refine aw_weak (als' := [some (.ref bS), some (.ref (ad (5, 0, 0))), some (.ref (ad (6, 0, 0))), some (.int (oI l3))]) ⟨rfl, rfl, rfl, rfl, trivial⟩ ?_
          exact m_Lw_law_811 X hR hret hsc ih h
        · replace h := h.2 hc
          refine aw_iconst X dL_law_687 ?_
          exact hret 688 _ _ _ dL_law_688 h
      replace h := h.2
      by_cases hc17 : (iAnd (scr l3) 31) = 17
      · replace h := h.1 hc17
        refine aw_tableIn X dL_law_33 17 hc17 ⟨by decide, by decide⟩ (by decide) (by decide) rfl (tgt := 689) (by decide) ?_
        refine aw_aload_n X dL_law_689 rfl ?_
        refine aw_aload_n X dL_law_690 rfl ?_
        refine aw_iload_n X dL_law_691 rfl ?_
        refine aw_iconst X dL_law_692 ?_
        refine aw_iadd X dL_law_693 ?_
        obtain ⟨g127a, g127b, h⟩ := h
        refine aw_sld X hsc g127a g127b dL_law_694 ?_
        refine aw_aload_n X dL_law_695 rfl ?_
        refine aw_iload_n X dL_law_696 rfl ?_
        refine aw_iconst X dL_law_697 ?_
        refine aw_iadd X dL_law_698 ?_
        obtain ⟨g128a, g128b, h⟩ := h
        refine aw_sld X hsc g128a g128b dL_law_699 ?_
        refine aw_aload_n X dL_law_700 rfl ?_
        refine aw_iload_n X dL_law_701 rfl ?_
        refine aw_iconst X dL_law_702 ?_
        refine aw_iadd X dL_law_703 ?_
        obtain ⟨g129a, g129b, h⟩ := h
        refine aw_sld X hsc g129a g129b dL_law_704 ?_
        refine aw_callVI X hR (s_Sr_unit l D ad tc X.2.2.2.2.2.2.1 h) ml_L_87 ob_5 rfl (by decide) (by decide) rfl rfl rfl rfl (Nat.le_of_ble_eq_true rfl) rfl dL_law_705 (fun r130 σ130 h => ?_)
        refine aw_aload_n X dL_law_708 rfl ?_
        refine aw_aload_n X dL_law_709 rfl ?_
        refine aw_iload_n X dL_law_710 rfl ?_
        refine aw_iconst X dL_law_711 ?_
        refine aw_iadd X dL_law_712 ?_
        obtain ⟨g131a, g131b, h⟩ := h
        refine aw_sld X hsc g131a g131b dL_law_713 ?_
        refine aw_aload_n X dL_law_714 rfl ?_
        refine aw_iload_n X dL_law_715 rfl ?_
        refine aw_iconst X dL_law_716 ?_
        refine aw_iadd X dL_law_717 ?_
        obtain ⟨g132a, g132b, h⟩ := h
        refine aw_sld X hsc g132a g132b dL_law_718 ?_
        refine aw_aload_n X dL_law_719 rfl ?_
        refine aw_iload_n X dL_law_720 rfl ?_
        refine aw_iconst X dL_law_721 ?_
        refine aw_iadd X dL_law_722 ?_
        obtain ⟨g133a, g133b, h⟩ := h
        refine aw_sld X hsc g133a g133b dL_law_723 ?_
        refine aw_callVI X hR (s_Mo_unit l D ad tc X.2.2.2.2.2.2.1 h) ml_L_90 ob_6 rfl (by decide) (by decide) rfl rfl rfl rfl (Nat.le_of_ble_eq_true rfl) rfl dL_law_724 (fun r134 σ134 h => ?_)
        obtain ⟨g135, h⟩ := h
        obtain ⟨g136, h⟩ := h
        refine aw_icmp_eq X dL_law_727 (tgt := 811) (by decide) g135 g136 (fun hc => ?_) (fun hc => ?_)
        · replace h := h.1 hc
          refine aw_weak (als' := [some (.ref bS), some (.ref (ad (5, 0, 0))), some (.ref (ad (6, 0, 0))), some (.int (oI l3))]) ⟨rfl, rfl, rfl, rfl, trivial⟩ ?_
          exact m_Lw_law_811 X hR hret hsc ih h
        · replace h := h.2 hc
          refine aw_iconst X dL_law_730 ?_
          exact hret 731 _ _ _ dL_law_731 h
      replace h := h.2
      by_cases hc18 : (iAnd (scr l3) 31) = 18
      · replace h := h.1 hc18
        refine aw_tableIn X dL_law_33 18 hc18 ⟨by decide, by decide⟩ (by decide) (by decide) rfl (tgt := 732) (by decide) ?_
        refine aw_aload_n X dL_law_732 rfl ?_
        refine aw_aload_n X dL_law_733 rfl ?_
        refine aw_iload_n X dL_law_734 rfl ?_
        refine aw_iconst X dL_law_735 ?_
        refine aw_iadd X dL_law_736 ?_
        obtain ⟨g137a, g137b, h⟩ := h
        refine aw_sld X hsc g137a g137b dL_law_737 ?_
        refine aw_aload_n X dL_law_738 rfl ?_
        refine aw_iload_n X dL_law_739 rfl ?_
        refine aw_iconst X dL_law_740 ?_
        refine aw_iadd X dL_law_741 ?_
        obtain ⟨g138a, g138b, h⟩ := h
        refine aw_sld X hsc g138a g138b dL_law_742 ?_
        refine aw_callVI X hR (s_Sr_cut l D ad tc X.2.2.2.2.2.2.1 h) ml_L_91 ob_5 rfl (by decide) (by decide) rfl rfl rfl rfl (Nat.le_of_ble_eq_true rfl) rfl dL_law_743 (fun r139 σ139 h => ?_)
        refine aw_aload_n X dL_law_746 rfl ?_
        refine aw_aload_n X dL_law_747 rfl ?_
        refine aw_iload_n X dL_law_748 rfl ?_
        refine aw_iconst X dL_law_749 ?_
        refine aw_iadd X dL_law_750 ?_
        obtain ⟨g140a, g140b, h⟩ := h
        refine aw_sld X hsc g140a g140b dL_law_751 ?_
        refine aw_aload_n X dL_law_752 rfl ?_
        refine aw_iload_n X dL_law_753 rfl ?_
        refine aw_iconst X dL_law_754 ?_
        refine aw_iadd X dL_law_755 ?_
        obtain ⟨g141a, g141b, h⟩ := h
        refine aw_sld X hsc g141a g141b dL_law_756 ?_
        refine aw_callVI X hR (s_Mo_cut l D ad tc X.2.2.2.2.2.2.1 h) ml_L_94 ob_6 rfl (by decide) (by decide) rfl rfl rfl rfl (Nat.le_of_ble_eq_true rfl) rfl dL_law_757 (fun r142 σ142 h => ?_)
        obtain ⟨g143, h⟩ := h
        obtain ⟨g144, h⟩ := h
        refine aw_icmp_eq X dL_law_760 (tgt := 811) (by decide) g143 g144 (fun hc => ?_) (fun hc => ?_)
        · replace h := h.1 hc
          refine aw_weak (als' := [some (.ref bS), some (.ref (ad (5, 0, 0))), some (.ref (ad (6, 0, 0))), some (.int (oI l3))]) ⟨rfl, rfl, rfl, rfl, trivial⟩ ?_
          exact m_Lw_law_811 X hR hret hsc ih h
        · replace h := h.2 hc
          refine aw_iconst X dL_law_763 ?_
          exact hret 764 _ _ _ dL_law_764 h
      replace h := h.2
      by_cases hc19 : (iAnd (scr l3) 31) = 19
      · replace h := h.1 hc19
        refine aw_tableIn X dL_law_33 19 hc19 ⟨by decide, by decide⟩ (by decide) (by decide) rfl (tgt := 765) (by decide) ?_
        refine aw_aload_n X dL_law_765 rfl ?_
        refine aw_aload_n X dL_law_766 rfl ?_
        refine aw_iload_n X dL_law_767 rfl ?_
        refine aw_iconst X dL_law_768 ?_
        refine aw_iadd X dL_law_769 ?_
        obtain ⟨g145a, g145b, h⟩ := h
        refine aw_sld X hsc g145a g145b dL_law_770 ?_
        refine aw_aload_n X dL_law_771 rfl ?_
        refine aw_iload_n X dL_law_772 rfl ?_
        refine aw_iconst X dL_law_773 ?_
        refine aw_iadd X dL_law_774 ?_
        obtain ⟨g146a, g146b, h⟩ := h
        refine aw_sld X hsc g146a g146b dL_law_775 ?_
        refine aw_callVI X hR (s_Sr_reason l D ad tc X.2.2.2.2.2.2.1 h) ml_L_95 ob_5 rfl (by decide) (by decide) rfl rfl rfl rfl (Nat.le_of_ble_eq_true rfl) rfl dL_law_776 (fun r147 σ147 h => ?_)
        refine aw_aload_n X dL_law_779 rfl ?_
        refine aw_aload_n X dL_law_780 rfl ?_
        refine aw_iload_n X dL_law_781 rfl ?_
        refine aw_iconst X dL_law_782 ?_
        refine aw_iadd X dL_law_783 ?_
        obtain ⟨g148a, g148b, h⟩ := h
        refine aw_sld X hsc g148a g148b dL_law_784 ?_
        refine aw_aload_n X dL_law_785 rfl ?_
        refine aw_iload_n X dL_law_786 rfl ?_
        refine aw_iconst X dL_law_787 ?_
        refine aw_iadd X dL_law_788 ?_
        obtain ⟨g149a, g149b, h⟩ := h
        refine aw_sld X hsc g149a g149b dL_law_789 ?_
        refine aw_callVI X hR (s_Mo_reason l D ad tc X.2.2.2.2.2.2.1 h) ml_L_98 ob_6 rfl (by decide) (by decide) rfl rfl rfl rfl (Nat.le_of_ble_eq_true rfl) rfl dL_law_790 (fun r150 σ150 h => ?_)
        obtain ⟨g151, h⟩ := h
        obtain ⟨g152, h⟩ := h
        refine aw_icmp_eq X dL_law_793 (tgt := 811) (by decide) g151 g152 (fun hc => ?_) (fun hc => ?_)
        · replace h := h.1 hc
          refine aw_weak (als' := [some (.ref bS), some (.ref (ad (5, 0, 0))), some (.ref (ad (6, 0, 0))), some (.int (oI l3))]) ⟨rfl, rfl, rfl, rfl, trivial⟩ ?_
          exact m_Lw_law_811 X hR hret hsc ih h
        · replace h := h.2 hc
          refine aw_iconst X dL_law_796 ?_
          exact hret 797 _ _ _ dL_law_797 h
      replace h := h.2
      by_cases hc20 : (iAnd (scr l3) 31) = 20
      · replace h := h.1 hc20
        refine aw_tableIn X dL_law_33 20 hc20 ⟨by decide, by decide⟩ (by decide) (by decide) rfl (tgt := 798) (by decide) ?_
        refine aw_aload_n X dL_law_798 rfl ?_
        refine aw_callVI X hR (s_Sr_judge l D ad tc X.2.2.2.2.2.2.1 h) ml_L_99 ob_5 rfl (by decide) (by decide) rfl rfl rfl rfl (Nat.le_of_ble_eq_true rfl) rfl dL_law_799 (fun r153 σ153 h => ?_)
        refine aw_aload_n X dL_law_802 rfl ?_
        refine aw_callVI X hR (s_Mo_judge l D ad tc X.2.2.2.2.2.2.1 h) ml_L_102 ob_6 rfl (by decide) (by decide) rfl rfl rfl rfl (Nat.le_of_ble_eq_true rfl) rfl dL_law_803 (fun r154 σ154 h => ?_)
        obtain ⟨g155, h⟩ := h
        obtain ⟨g156, h⟩ := h
        refine aw_icmp_eq X dL_law_806 (tgt := 811) (by decide) g155 g156 (fun hc => ?_) (fun hc => ?_)
        · replace h := h.1 hc
          refine aw_weak (als' := [some (.ref bS), some (.ref (ad (5, 0, 0))), some (.ref (ad (6, 0, 0))), some (.int (oI l3))]) ⟨rfl, rfl, rfl, rfl, trivial⟩ ?_
          exact m_Lw_law_811 X hR hret hsc ih h
        · replace h := h.2 hc
          refine aw_iconst X dL_law_809 ?_
          exact hret 810 _ _ _ dL_law_810 h
      replace h := h.2
      have hcd : (iAnd (scr l3) 31) < 0 ∨ 20 < (iAnd (scr l3) 31) := by omega
      replace h := h hcd
      refine aw_tableOut X dL_law_33 g4 hcd (tgt := 811) (by decide) ?_
      refine aw_weak (als' := [some (.ref bS), some (.ref (ad (5, 0, 0))), some (.ref (ad (6, 0, 0))), some (.int (oI l3))]) ⟨rfl, rfl, rfl, rfl, trivial⟩ ?_
      exact m_Lw_law_811 X hR hret hsc ih h

set_option maxHeartbeats 4000000 in
set_option maxRecDepth 100000 in
theorem m_Lw_law_16 {p : Program} {l : Launch} {e : Env} {R : Room} {s : State} {m : MethodId} {args : Array Value} {below : List Frame} {meth : Method} {c : Code} {D : va_G} {ad : Ky → Nat} {tc : Tc} {A : Nat → Prop} {cs sl : Nat} {Qm : State → Prop} (X : Cx p s m args c cL_law RL 4 D ad tc A) (hR : RmOK R cs sl 8 214) {Q : Int → Mem → Prop} (hret : RtI p l e R s m args below meth c D ad tc A cs sl Qm cL_law Q) {scr : Int → Int} {LL : Nat} {bS : Nat} (hsc : Scr s A bS LL scr) {σ : Mem} (h : Lw_law scr LL σ Q) : AW p l e R s m args below meth c D ad tc A cs sl Qm 16 [some (.ref bS), some (.ref (ad (5, 0, 0))), some (.ref (ad (6, 0, 0))), none] [] σ := by
  unfold Lw_law at h
  refine aw_iconst X dL_law_16 ?_
  refine aw_istore_n X dL_law_17 (Nat.le_of_ble_eq_true rfl) rfl ?_
  refine aw_als (als' := [some (.ref bS), some (.ref (ad (5, 0, 0))), some (.ref (ad (6, 0, 0))), some (.int (oI 0))]) rfl ?_
  refine aw_weak (als' := [some (.ref bS), some (.ref (ad (5, 0, 0))), some (.ref (ad (6, 0, 0))), some (.int (oI 0))]) ⟨rfl, rfl, rfl, rfl, trivial⟩ ?_
  obtain ⟨n0, h⟩ := h
  exact m_Lw_law_18 X hR hret hsc n0 _ _ h

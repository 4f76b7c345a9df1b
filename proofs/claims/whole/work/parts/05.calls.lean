/-- the cells that a method may change, and those that come -/
def AA (ad : Ky → Nat) (sz : Nat) : Nat → Prop := fun q => (∃ k ∈ keys, q = ad k) ∨ sz ≤ q
def PcA (D : va_G) (ad : Ky → Nat) (tc : Tc) (av : List Value) (σ : Mem) (sz : Nat) : Array Value → State → Prop := va_Pc av (fun U => U.heap.size = sz ∧ va_P D vwCl (wS ad tc σ) U.heap ∧ va_K D vwCl [(tc.1, .int), (tc.2.1, .boolean), (tc.2.2, .object RX3)] U)
/-- a method's contract with an int or boolean answer: what the wp of its body says -/
def CtI (l : Launch) (D : va_G) (ad : Ky → Nat) (tc : Tc) (y : MethodName) (bytes : ByteArray) (maxL : Nat) (ret : Option FieldType) (rm : Room) (av : List Value) (σ : Mem) (Q : Int → Mem → Prop) : Prop :=
  ∀ sz : Nat, Met l y (Cond.code y bytes maxL ret :: wsL_law) rm (PcA D ad tc av σ sz) (va_Qi (fun (r : Int32) (u : Int × Mem) => r = oI u.1 ∧ Q u.1 u.2) (fun u t => va_P D vwCl (wS ad tc u.2) t.heap) (AA ad sz)) 0 0 (AA ad sz)
def CtV (l : Launch) (D : va_G) (ad : Ky → Nat) (tc : Tc) (y : MethodName) (bytes : ByteArray) (maxL : Nat) (ret : Option FieldType) (rm : Room) (av : List Value) (σ : Mem) (Q : Mem → Prop) : Prop :=
  ∀ sz : Nat, Met l y (Cond.code y bytes maxL ret :: wsL_law) rm (PcA D ad tc av σ sz) (va_Qv (fun (u : Mem) => Q u) (fun u t => va_P D vwCl (wS ad tc u) t.heap) (AA ad sz)) 0 0 (AA ad sz)
def RtI (p : Program) (l : Launch) (e : Env) (R : Room) (s : State) (m : MethodId) (args : Array Value) (below : List Frame) (meth : Method) (c : Code) (D : va_G) (ad : Ky → Nat) (tc : Tc) (A : Nat → Prop) (cs sl : Nat) (Qm : State → Prop) (cc : ByteArray) (Q : Int → Mem → Prop) : Prop := ∀ (pc : Nat) (als : List (Option Value)) (x : Int) (σ : Mem), decode cc pc = .ok (.ireturn, 1) → Q x σ → AW p l e R s m args below meth c D ad tc A cs sl Qm pc als [.int (oI x)] σ
def RtZ (p : Program) (l : Launch) (e : Env) (R : Room) (s : State) (m : MethodId) (args : Array Value) (below : List Frame) (meth : Method) (c : Code) (D : va_G) (ad : Ky → Nat) (tc : Tc) (A : Nat → Prop) (cs sl : Nat) (Qm : State → Prop) (cc : ByteArray) (Q : Int → Mem → Prop) : Prop := ∀ (pc : Nat) (als : List (Option Value)) (x : Int) (σ : Mem), decode cc pc = .ok (.ireturn, 1) → (x = 0 ∨ x = 1) → Q x σ → AW p l e R s m args below meth c D ad tc A cs sl Qm pc als [.int (oI x)] σ
def RtV (p : Program) (l : Launch) (e : Env) (R : Room) (s : State) (m : MethodId) (args : Array Value) (below : List Frame) (meth : Method) (c : Code) (D : va_G) (ad : Ky → Nat) (tc : Tc) (A : Nat → Prop) (cs sl : Nat) (Qm : State → Prop) (cc : ByteArray) (Q : Mem → Prop) : Prop := ∀ (pc : Nat) (als : List (Option Value)) (σ : Mem), decode cc pc = .ok (.return_, 1) → Q σ → AW p l e R s m args below meth c D ad tc A cs sl Qm pc als [] σ
theorem nar_z2 {x : Int} (h : x = 0 ∨ x = 1) : narrow .boolean (.int (oI x)) = .int (oI x) ∧ fits .boolean (.int (oI x)) = true := by
  rcases h with h | h <;> subst h <;> exact ⟨by decide +kernel, by decide +kernel⟩
section CT
variable {l : Launch} {D : va_G} {ad : Ky → Nat} {tc : Tc} {y : MethodName} {cc : ByteArray} {nL fr lo : Nat} {av : List Value} {σ : Mem}
theorem ct_pre {sz : Nat} {s : State} {args : Array Value} (h : PcA D ad tc av σ sz args s) : args = av.toArray ∧ s.heap.size = sz ∧ va_P D vwCl (wS ad tc σ) s.heap ∧ va_K D vwCl [(tc.1, .int), (tc.2.1, .boolean), (tc.2.2, .object RX3)] s := h
theorem ct_blind {sz : Nat} : FrameBlind (PcA D ad tc av σ sz) := fun a U g mk q => by
  obtain ⟨q0, q1, qP, qK⟩ := q
  exact ⟨q0, q1, qP, va_K.moved (u := U) (U := U.calling g mk a) (Vm.Alike.refl U.vm) qK⟩
theorem CtI.mk {Q : Int → Mem → Prop} (hy : plainName y.cls = true) (hi : adI ad) (hn : av.length ≤ nL) (hc : av.all (fun v => v.category == 1) = true)
    (body : ∀ (p : Program) (e : Env) (s : State) (m : MethodId) (args : Array Value) (below : List Frame) (meth : Method) (c : Code) (A : Nat → Prop) (Qm : State → Prop), Cx p s m args c cc y.cls nL D ad tc A → RmOK { frames := fr, cells := 0, slots := 0, locals := lo } 0 0 fr lo → RtI p l e { frames := fr, cells := 0, slots := 0, locals := lo } s m args below meth c D ad tc A 0 0 Qm cc Q → AW p l e { frames := fr, cells := 0, slots := 0, locals := lo } s m args below meth c D ad tc A 0 0 Qm 0 (av.map some ++ List.replicate (nL - av.length) none) [] σ) :
    CtI l D ad tc y cc nL (some .int) { frames := fr, cells := 0, slots := 0, locals := lo } av σ Q := by
  intro sz
  refine Met.ofW (cc := cc) (maxL := nL) (ret := some .int) hy rfl ?_
  intro p e s m args below meth c s₁ B hml hv
  obtain ⟨rfl, hsz, hP, hK⟩ := ct_pre hv
  have hts := atoms_spec (ws := Cond.code y cc nL (some .int) :: wsL_law) B.pre
  have hlocks := B.notSynchronized
  have hX : Cx p s m av.toArray c cc y.cls nL D ad tc (AA ad sz) := ⟨B.exec, B.bytes, hml, findClass_of_methodNamed B.named, fun w h => hts w (List.mem_cons_of_mem _ h), hK, hi, fun q hq => Or.inl ⟨q, hq, rfl⟩, fun q hq => Or.inr (by rw [← hsz]; exact hq)⟩
  have hb := body p e s m av.toArray below meth c (AA ad sz) (MQ below (va_Qi (fun (r : Int32) (u : Int × Mem) => r = oI u.1 ∧ Q u.1 u.2) (fun u t => va_P D vwCl (wS ad tc u.2) t.heap) (AA ad sz)) av.toArray s 0 0 (AA ad sz)) hX ⟨Nat.le_refl _, Nat.le_refl _, Nat.le_refl _, Nat.le_refl _⟩
    (fun pc als x σ1 hd hq H locs ls hP hS hl => W.iret hX.1 hX.2.1 B.returns (fun t ht hW => ⟨⟨oI x, (x, σ1), rfl, ⟨rfl, hq⟩, by show va_P D vwCl (wS ad tc σ1) t.heap; rw [ht]; exact hP⟩, hS.F ht⟩) hS.2.2 hd)
  rw [lg_entry_eq]
  exact hb s.heap [] _ hP va_S.rf (Lk.entry av (fun v hv => by simpa using List.all_eq_true.mp hc v hv) hn)
theorem CtI.mkz {Q : Int → Mem → Prop} (hy : plainName y.cls = true) (hi : adI ad) (hn : av.length ≤ nL) (hc : av.all (fun v => v.category == 1) = true)
    (body : ∀ (p : Program) (e : Env) (s : State) (m : MethodId) (args : Array Value) (below : List Frame) (meth : Method) (c : Code) (A : Nat → Prop) (Qm : State → Prop), Cx p s m args c cc y.cls nL D ad tc A → RmOK { frames := fr, cells := 0, slots := 0, locals := lo } 0 0 fr lo → RtZ p l e { frames := fr, cells := 0, slots := 0, locals := lo } s m args below meth c D ad tc A 0 0 Qm cc Q → AW p l e { frames := fr, cells := 0, slots := 0, locals := lo } s m args below meth c D ad tc A 0 0 Qm 0 (av.map some ++ List.replicate (nL - av.length) none) [] σ) :
    CtI l D ad tc y cc nL (some .boolean) { frames := fr, cells := 0, slots := 0, locals := lo } av σ Q := by
  intro sz
  refine Met.ofW (cc := cc) (maxL := nL) (ret := some .boolean) hy rfl ?_
  intro p e s m args below meth c s₁ B hml hv
  obtain ⟨rfl, hsz, hP, hK⟩ := ct_pre hv
  have hts := atoms_spec (ws := Cond.code y cc nL (some .boolean) :: wsL_law) B.pre
  have hlocks := B.notSynchronized
  have hX : Cx p s m av.toArray c cc y.cls nL D ad tc (AA ad sz) := ⟨B.exec, B.bytes, hml, findClass_of_methodNamed B.named, fun w h => hts w (List.mem_cons_of_mem _ h), hK, hi, fun q hq => Or.inl ⟨q, hq, rfl⟩, fun q hq => Or.inr (by rw [← hsz]; exact hq)⟩
  have hb := body p e s m av.toArray below meth c (AA ad sz) (MQ below (va_Qi (fun (r : Int32) (u : Int × Mem) => r = oI u.1 ∧ Q u.1 u.2) (fun u t => va_P D vwCl (wS ad tc u.2) t.heap) (AA ad sz)) av.toArray s 0 0 (AA ad sz)) hX ⟨Nat.le_refl _, Nat.le_refl _, Nat.le_refl _, Nat.le_refl _⟩
    (fun pc als x σ1 hd hz hq H locs ls hP hS hl => W.zret hX.1 hX.2.1 B.returns (nar_z2 hz).1 (fun t ht hW => ⟨⟨oI x, (x, σ1), rfl, ⟨rfl, hq⟩, by show va_P D vwCl (wS ad tc σ1) t.heap; rw [ht]; exact hP⟩, hS.F ht⟩) hS.2.2 hd)
  rw [lg_entry_eq]
  exact hb s.heap [] _ hP va_S.rf (Lk.entry av (fun v hv => by simpa using List.all_eq_true.mp hc v hv) hn)
theorem CtV.mk {Q : Mem → Prop} (hy : plainName y.cls = true) (hi : adI ad) (hn : av.length ≤ nL) (hc : av.all (fun v => v.category == 1) = true)
    (body : ∀ (p : Program) (e : Env) (s : State) (m : MethodId) (args : Array Value) (below : List Frame) (meth : Method) (c : Code) (A : Nat → Prop) (Qm : State → Prop), Cx p s m args c cc y.cls nL D ad tc A → RmOK { frames := fr, cells := 0, slots := 0, locals := lo } 0 0 fr lo → RtV p l e { frames := fr, cells := 0, slots := 0, locals := lo } s m args below meth c D ad tc A 0 0 Qm cc Q → AW p l e { frames := fr, cells := 0, slots := 0, locals := lo } s m args below meth c D ad tc A 0 0 Qm 0 (av.map some ++ List.replicate (nL - av.length) none) [] σ) :
    CtV l D ad tc y cc nL none { frames := fr, cells := 0, slots := 0, locals := lo } av σ Q := by
  intro sz
  refine Met.ofW (cc := cc) (maxL := nL) (ret := none) hy rfl ?_
  intro p e s m args below meth c s₁ B hml hv
  obtain ⟨rfl, hsz, hP, hK⟩ := ct_pre hv
  have hts := atoms_spec (ws := Cond.code y cc nL none :: wsL_law) B.pre
  have hlocks := B.notSynchronized
  have hX : Cx p s m av.toArray c cc y.cls nL D ad tc (AA ad sz) := ⟨B.exec, B.bytes, hml, findClass_of_methodNamed B.named, fun w h => hts w (List.mem_cons_of_mem _ h), hK, hi, fun q hq => Or.inl ⟨q, hq, rfl⟩, fun q hq => Or.inr (by rw [← hsz]; exact hq)⟩
  have hb := body p e s m av.toArray below meth c (AA ad sz) (MQ below (va_Qv (fun (u : Mem) => Q u) (fun u t => va_P D vwCl (wS ad tc u) t.heap) (AA ad sz)) av.toArray s 0 0 (AA ad sz)) hX ⟨Nat.le_refl _, Nat.le_refl _, Nat.le_refl _, Nat.le_refl _⟩
    (fun pc als σ1 hd hq H locs ls hP hS hl => W.vret hX.1 hX.2.1 B.returns (fun t ht hW => ⟨⟨σ1, rfl, hq, by show va_P D vwCl (wS ad tc σ1) t.heap; rw [ht]; exact hP⟩, hS.F ht⟩) hS.2.2 hd)
  rw [lg_entry_eq]
  exact hb s.heap [] _ hP va_S.rf (Lk.entry av (fun v hv => by simpa using List.all_eq_true.mp hc v hv) hn)
end CT
/-- a call's words -/
def ML (own : String) (index : Nat) (y : MethodName) (bytes : ByteArray) (maxL : Nat) (ret : Option FieldType) (C : String) (n : Nat) : Prop :=
  Cond.methodLink own index y ∈ wsL_law ∧ Cond.instanceMethod y ∈ wsL_law ∧ Cond.selects C y y ∈ wsL_law ∧ Cond.initialized C ∈ wsL_law ∧ Cond.code y bytes maxL ret ∈ wsL_law ∧ (y.cls = C ∧ y.cls ≠ "java/lang/invoke/MethodHandle" ∧ y.cls ≠ "java/lang/invoke/VarHandle" ∧ (parseMethodDescriptor y.desc).map (fun d => d.parameters.length) = some n)
def MS (own : String) (index : Nat) (y : MethodName) (bytes : ByteArray) (maxL : Nat) (ret : Option FieldType) (n : Nat) : Prop :=
  Cond.methodLink own index y ∈ wsL_law ∧ Cond.static y ∈ wsL_law ∧ Cond.initialized y.cls ∈ wsL_law ∧ Cond.code y bytes maxL ret ∈ wsL_law ∧ (y.cls ≠ "java/lang/invoke/MethodHandle" ∧ y.cls ≠ "java/lang/invoke/VarHandle" ∧ (parseMethodDescriptor y.desc).map (fun d => d.parameters.length) = some n)
theorem gd {w : Cond} (h : w ∈ wsL_law) : (w.onTables && w.keeps) = true ∨ ∃ ty, w = .arrayClass ty := (wsL_good w h).2
section CA
variable {p : Program} {l : Launch} {e : Env} {R : Room} {s : State} {m : MethodId} {args : Array Value} {below : List Frame} {meth : Method} {c : Code} {cc : ByteArray} {own : String} {nL : Nat} {D : va_G} {ad : Ky → Nat} {tc : Tc} {A : Nat → Prop} {cs sl : Nat} {Qm : State → Prop}
variable {pc : Nat} {als : List (Option Value)} {st : List Value} {σ : Mem}
variable {y : MethodName} {bytes : ByteArray} {maxL n index fr lo : Nat} {ret : Option FieldType} {C : String} {rm : Room} {As rest : List Value} {ci : Nat} {pp : Int}
theorem ca_free (X : Cx p s m args c cc own nL D ad tc A) {H : Heap} {locs : List Loc} (hS : va_S A s.heap H locs) : ∀ q, AA ad H.size q → A q := by
  intro q h
  rcases h with ⟨k, hk, rfl⟩ | h
  · exact X.2.2.2.2.2.2.2.1 k hk
  · exact X.2.2.2.2.2.2.2.2 q (Nat.le_trans hS.1 h)
theorem aw_callVI (X : Cx p s m args c cc own nL D ad tc A) (hR : RmOK R cs sl fr lo) {Q : Int → Mem → Prop} (hM : CtI l D ad tc y bytes maxL ret rm (.ref (ad (ci, pp, 0)) :: As) σ Q) (ml : ML own index y bytes maxL ret C n) (hq : ((ci, pp, 0) : Ky) ∈ keys) {T : u_T} {N : Nat} (hc : vwCl[ci]? = some (C, T, N)) (h1 : rm.frames + 1 ≤ fr) (h2 : 8 + (maxL + 11) + rm.locals ≤ lo) (h3 : rm.cells = 0) (h4 : rm.slots = 0) (hst : st = As.reverse ++ .ref (ad (ci, pp, 0)) :: rest) (hn : As.length = n) (hw : (rest.map fun v => v.category).sum ≤ 8) (hnl : als.length = nL) (hd : decode cc pc = .ok (.invokevirtual index, 3))
    (kk : ∀ (x : Int) (σ1 : Mem), Q x σ1 → AW p l e R s m args below meth c D ad tc A cs sl Qm (pc + 3) als (.int (oI x) :: rest) σ1) : AW p l e R s m args below meth c D ad tc A cs sl Qm pc als st σ := fun H locs ls hP hS hl => by
  subst hst
  obtain ⟨l1, l2, l3, l4, l5, l6⟩ := ml
  obtain ⟨i, hi⟩ := keys_ix hq
  have hK := X.2.2.2.2.2.1
  have hG : GoodIn wsL_law (wsV own index C y (Cond.code y bytes maxL ret :: wsL_law)) := by
    intro w hw
    have hm : w ∈ wsL_law := by
      simp only [wsV, List.mem_append, List.mem_cons, List.not_mem_nil, or_false] at hw
      rcases hw with (rfl | rfl | rfl | rfl) | rfl | hw
      · exact l1
      · exact l2
      · exact l3
      · exact l4
      · exact l5
      · exact hw
    exact ⟨hm, gd hm⟩
  have hfree := ca_free X hS
  refine va_calli (va_runV (As := As) (rest := rest) ⟨X.1, X.2.1, X.2.2.1, X.2.2.2.1, X.2.2.2.2.1⟩ (hM H.size) (cwV n X.2.2.2.2.1 hG rfl h3 h4 l6 ⟨Nat.le_trans h1 hR.1, Nat.le_trans h2 hR.2.1⟩) ⟨ct_blind, va_recv hK hP hc (wS_at hi), fun U hU hW => ⟨rfl, by rw [hU], by rw [hU]; exact hP, va_K.moved hW.alike hK⟩⟩ rfl hn (hl.1.trans hnl) rfl (lv_room hw) hd ⟨hR.2.2.1, hR.2.2.2⟩) hS (fun q _ h => hfree q h) hfree (fun r u t H1 locs1 ht hvm hw' hB hz1 hk1 hS1 => ?_)
  obtain ⟨x, σ1⟩ := u
  obtain ⟨e1, e2⟩ := hw'
  subst e1
  exact kk x σ1 e2 H1 locs1 ls (by rw [← ht]; exact hB) hS1 hl
theorem aw_callVV (X : Cx p s m args c cc own nL D ad tc A) (hR : RmOK R cs sl fr lo) {Q : Mem → Prop} (hM : CtV l D ad tc y bytes maxL ret rm (.ref (ad (ci, pp, 0)) :: As) σ Q) (ml : ML own index y bytes maxL ret C n) (hq : ((ci, pp, 0) : Ky) ∈ keys) {T : u_T} {N : Nat} (hc : vwCl[ci]? = some (C, T, N)) (h1 : rm.frames + 1 ≤ fr) (h2 : 8 + (maxL + 11) + rm.locals ≤ lo) (h3 : rm.cells = 0) (h4 : rm.slots = 0) (hst : st = As.reverse ++ .ref (ad (ci, pp, 0)) :: rest) (hn : As.length = n) (hw : (rest.map fun v => v.category).sum ≤ 8) (hnl : als.length = nL) (hd : decode cc pc = .ok (.invokevirtual index, 3))
    (kk : ∀ (σ1 : Mem), Q σ1 → AW p l e R s m args below meth c D ad tc A cs sl Qm (pc + 3) als rest σ1) : AW p l e R s m args below meth c D ad tc A cs sl Qm pc als st σ := fun H locs ls hP hS hl => by
  subst hst
  obtain ⟨l1, l2, l3, l4, l5, l6⟩ := ml
  obtain ⟨i, hi⟩ := keys_ix hq
  have hK := X.2.2.2.2.2.1
  have hG : GoodIn wsL_law (wsV own index C y (Cond.code y bytes maxL ret :: wsL_law)) := by
    intro w hw
    have hm : w ∈ wsL_law := by
      simp only [wsV, List.mem_append, List.mem_cons, List.not_mem_nil, or_false] at hw
      rcases hw with (rfl | rfl | rfl | rfl) | rfl | hw
      · exact l1
      · exact l2
      · exact l3
      · exact l4
      · exact l5
      · exact hw
    exact ⟨hm, gd hm⟩
  have hfree := ca_free X hS
  refine va_callv (va_runV (As := As) (rest := rest) ⟨X.1, X.2.1, X.2.2.1, X.2.2.2.1, X.2.2.2.2.1⟩ (hM H.size) (cwV n X.2.2.2.2.1 hG rfl h3 h4 l6 ⟨Nat.le_trans h1 hR.1, Nat.le_trans h2 hR.2.1⟩) ⟨ct_blind, va_recv hK hP hc (wS_at hi), fun U hU hW => ⟨rfl, by rw [hU], by rw [hU]; exact hP, va_K.moved hW.alike hK⟩⟩ rfl hn (hl.1.trans hnl) rfl (lv_room hw) hd ⟨hR.2.2.1, hR.2.2.2⟩) hS (fun q _ h => hfree q h) hfree (fun u t H1 locs1 ht hvm hw' hB hz1 hk1 hS1 => ?_)
  exact kk u hw' H1 locs1 ls (by rw [← ht]; exact hB) hS1 hl
theorem aw_callSI (X : Cx p s m args c cc own nL D ad tc A) (hR : RmOK R cs sl fr lo) {Q : Int → Mem → Prop} (hM : CtI l D ad tc y bytes maxL ret rm As σ Q) (ml : MS own index y bytes maxL ret n) (h1 : rm.frames + 1 ≤ fr) (h2 : 8 + (maxL + 11) + rm.locals ≤ lo) (h3 : rm.cells = 0) (h4 : rm.slots = 0) (hst : st = As.reverse ++ rest) (hn : As.length = n) (hw : (rest.map fun v => v.category).sum ≤ 8) (hnl : als.length = nL) (hd : decode cc pc = .ok (.invokestatic index, 3))
    (kk : ∀ (x : Int) (σ1 : Mem), Q x σ1 → AW p l e R s m args below meth c D ad tc A cs sl Qm (pc + 3) als (.int (oI x) :: rest) σ1) : AW p l e R s m args below meth c D ad tc A cs sl Qm pc als st σ := fun H locs ls hP hS hl => by
  subst hst
  obtain ⟨l1, l2, l3, l4, l6⟩ := ml
  have hK := X.2.2.2.2.2.1
  have hG : GoodIn wsL_law (va_wsS own index y (Cond.code y bytes maxL ret :: wsL_law)) := by
    intro w hw
    have hm : w ∈ wsL_law := by
      simp only [va_wsS, List.mem_append, List.mem_cons, List.not_mem_nil, or_false] at hw
      rcases hw with (rfl | rfl | rfl) | rfl | hw
      · exact l1
      · exact l2
      · exact l3
      · exact l4
      · exact hw
    exact ⟨hm, gd hm⟩
  have hfree := ca_free X hS
  refine va_calli (va_runS (As := As) (rest := rest) ⟨X.1, X.2.1, X.2.2.1, X.2.2.2.1, X.2.2.2.2.1⟩ (hM H.size) (va_cwS n X.2.2.2.2.1 hG rfl h3 h4 l6 ⟨Nat.le_trans h1 hR.1, Nat.le_trans h2 hR.2.1⟩) ⟨ct_blind, fun U hU hW => ⟨rfl, by rw [hU], by rw [hU]; exact hP, va_K.moved hW.alike hK⟩⟩ rfl hn (hl.1.trans hnl) rfl (lv_room hw) hd ⟨hR.2.2.1, hR.2.2.2⟩) hS (fun q _ h => hfree q h) hfree (fun r u t H1 locs1 ht hvm hw' hB hz1 hk1 hS1 => ?_)
  obtain ⟨x, σ1⟩ := u
  obtain ⟨e1, e2⟩ := hw'
  subst e1
  exact kk x σ1 e2 H1 locs1 ls (by rw [← ht]; exact hB) hS1 hl
theorem aw_callSV (X : Cx p s m args c cc own nL D ad tc A) (hR : RmOK R cs sl fr lo) {Q : Mem → Prop} (hM : CtV l D ad tc y bytes maxL ret rm As σ Q) (ml : MS own index y bytes maxL ret n) (h1 : rm.frames + 1 ≤ fr) (h2 : 8 + (maxL + 11) + rm.locals ≤ lo) (h3 : rm.cells = 0) (h4 : rm.slots = 0) (hst : st = As.reverse ++ rest) (hn : As.length = n) (hw : (rest.map fun v => v.category).sum ≤ 8) (hnl : als.length = nL) (hd : decode cc pc = .ok (.invokestatic index, 3))
    (kk : ∀ (σ1 : Mem), Q σ1 → AW p l e R s m args below meth c D ad tc A cs sl Qm (pc + 3) als rest σ1) : AW p l e R s m args below meth c D ad tc A cs sl Qm pc als st σ := fun H locs ls hP hS hl => by
  subst hst
  obtain ⟨l1, l2, l3, l4, l6⟩ := ml
  have hK := X.2.2.2.2.2.1
  have hG : GoodIn wsL_law (va_wsS own index y (Cond.code y bytes maxL ret :: wsL_law)) := by
    intro w hw
    have hm : w ∈ wsL_law := by
      simp only [va_wsS, List.mem_append, List.mem_cons, List.not_mem_nil, or_false] at hw
      rcases hw with (rfl | rfl | rfl) | rfl | hw
      · exact l1
      · exact l2
      · exact l3
      · exact l4
      · exact hw
    exact ⟨hm, gd hm⟩
  have hfree := ca_free X hS
  refine va_callv (va_runS (As := As) (rest := rest) ⟨X.1, X.2.1, X.2.2.1, X.2.2.2.1, X.2.2.2.2.1⟩ (hM H.size) (va_cwS n X.2.2.2.2.1 hG rfl h3 h4 l6 ⟨Nat.le_trans h1 hR.1, Nat.le_trans h2 hR.2.1⟩) ⟨ct_blind, fun U hU hW => ⟨rfl, by rw [hU], by rw [hU]; exact hP, va_K.moved hW.alike hK⟩⟩ rfl hn (hl.1.trans hnl) rfl (lv_room hw) hd ⟨hR.2.2.1, hR.2.2.2⟩) hS (fun q _ h => hfree q h) hfree (fun u t H1 locs1 ht hvm hw' hB hz1 hk1 hS1 => ?_)
  exact kk u hw' H1 locs1 ls (by rw [← ht]; exact hB) hS1 hl
end CA
section EX
variable {p : Program} {l : Launch} {e : Env} {R : Room} {s : State} {m : MethodId} {args : Array Value} {below : List Frame} {meth : Method} {c : Code} {cc : ByteArray} {own : String} {nL : Nat} {D : va_G} {ad : Ky → Nat} {tc : Tc} {A : Nat → Prop} {cs sl : Nat} {Qm : State → Prop}
variable {pc : Nat} {als : List (Option Value)} {st : List Value} {σ : Mem}
theorem aw_als {als' : List (Option Value)} (h : als = als') (kk : AW p l e R s m args below meth c D ad tc A cs sl Qm pc als' st σ) : AW p l e R s m args below meth c D ad tc A cs sl Qm pc als st σ := h ▸ kk
theorem aw_mem {σ' : Mem} (h : σ' = σ) (kk : AW p l e R s m args below meth c D ad tc A cs sl Qm pc als st σ') : AW p l e R s m args below meth c D ad tc A cs sl Qm pc als st σ := h ▸ kk
/-- the script: its ints, by place -/
def Scr (s : State) (A : Nat → Prop) (bS LL : Nat) (scr : Int → Int) : Prop := ∃ xs : Nat → Int32, va_X bS LL xs s s.heap ∧ bS < s.heap.size ∧ ¬ A bS ∧ LL < 2 ^ 31 ∧ ∀ j : Int, 0 ≤ j → scr j = (xs j.toNat).toInt
theorem aw_sld (X : Cx p s m args c cc own nL D ad tc A) {bS LL : Nat} {scr : Int → Int} {i : Int} (hsc : Scr s A bS LL scr) (h0 : 0 ≤ i) (h1 : i < LL) (hd : decode cc pc = .ok (.iaload, 1)) (kk : AW p l e R s m args below meth c D ad tc A cs sl Qm (pc + 1) als (.int (oI (scr i)) :: st) σ) : AW p l e R s m args below meth c D ad tc A cs sl Qm pc als (.int (oI i) :: .ref bS :: st) σ := fun H locs ls hP hS hl => by
  obtain ⟨xs, a1, a2, a3, a4, a5⟩ := hsc
  obtain ⟨v1, v2⟩ := oI_in h0 h1 a4
  refine va_sld X.1 X.2.1 a1 a2 a3 hS v1 hd ?_
  rw [v2]
  have k1 := kk H locs ls hP hS hl
  rw [a5 i h0, oI_self] at k1
  exact k1
theorem aw_slen (X : Cx p s m args c cc own nL D ad tc A) {bS LL : Nat} {scr : Int → Int} (hsc : Scr s A bS LL scr) (hd : decode cc pc = .ok (.arraylength, 1)) (kk : AW p l e R s m args below meth c D ad tc A cs sl Qm (pc + 1) als (.int (oI LL) :: st) σ) : AW p l e R s m args below meth c D ad tc A cs sl Qm pc als (.ref bS :: st) σ := fun H locs ls hP hS hl => by
  obtain ⟨xs, a1, a2, a3, a4, a5⟩ := hsc
  refine va_slen X.1 X.2.1 a1 a2 a3 hS hd ?_
  have e : Int32.ofNat LL = oI (LL : Int) := by show Int32.ofNat LL = Int32.ofInt (LL : Int); rw [Int32.ofInt_eq_ofNat]
  rw [e]
  exact kk H locs ls hP hS hl
end EX

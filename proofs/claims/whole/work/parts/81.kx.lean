/-! ===== constructors: worlds as lists ===== -/
abbrev TY (tc : Tc) : List (ClassId × FieldType) := [(tc.1, .int), (tc.2.1, .boolean), (tc.2.2, .object RX3)]
theorem ty_int {D : va_G} {tc : Tc} {s : State} {cA : ClassId} (h : va_K D vwCl (TY tc ++ [(cA, .int)]) s) : cA = tc.1 := by
  have a : s.vm.findClass ("[" ++ FieldType.int.toString) = some tc.1 := (h.2 0 _ rfl).2
  have b : s.vm.findClass ("[" ++ FieldType.int.toString) = some cA := (h.2 3 _ rfl).2
  exact Option.some.inj (b.symm.trans a)
theorem ty_bool {D : va_G} {tc : Tc} {s : State} {cA : ClassId} (h : va_K D vwCl (TY tc ++ [(cA, .boolean)]) s) : cA = tc.2.1 := by
  have a : s.vm.findClass ("[" ++ FieldType.boolean.toString) = some tc.2.1 := (h.2 1 _ rfl).2
  have b : s.vm.findClass ("[" ++ FieldType.boolean.toString) = some cA := (h.2 3 _ rfl).2
  exact Option.some.inj (b.symm.trans a)
theorem ty_obj {D : va_G} {tc : Tc} {s : State} {cA : ClassId} (h : va_K D vwCl (TY tc ++ [(cA, .object RX3)]) s) : cA = tc.2.2 := by
  obtain ⟨k1, c1, -, -, -, a⟩ := (h.2 2 _ rfl).2
  obtain ⟨k2, c2, -, -, -, b⟩ := (h.2 3 _ rfl).2
  exact Option.some.inj (b.symm.trans a)
def Kx (p : Program) (s : State) (m : MethodId) (args : Array Value) (c : Code) (cc : ByteArray) (own : String) (nL : Nat) (D : va_G) (tc : Tc) (A : Nat → Prop) : Prop :=
  p.tables.exec = Jvm.exec ∧ c.code = cc ∧ c.maxLocals = nL ∧ s.vm.findClass own = some m.cls ∧ (∀ w ∈ wsL_law, w.before args s = true) ∧ va_K D vwCl (TY tc) s ∧ (∀ q : Nat, s.heap.size ≤ q → A q)
theorem wi_int : Cond.arrayClass .int ∈ wsL_law := inr_2 _ (List.mem_of_getElem? (i := 6) rfl)
theorem wi_bool : Cond.arrayClass .boolean ∈ wsL_law := inr_4 _ (List.mem_of_getElem? (i := 21) rfl)
theorem wi_oi : Cond.instanceMethod objectInit ∈ wsL_law := inr_1 _ (List.mem_of_getElem? (i := 10) rfl)
theorem wi_oc : Cond.code objectInit ⟨#[0xb1]⟩ 1 none ∈ wsL_law := inr_1 _ (List.mem_of_getElem? (i := 11) rfl)
section KX
variable {p : Program} {l : Launch} {e : Env} {R : Room} {s : State} {m : MethodId} {args : Array Value} {below : List Frame} {meth : Method} {c : Code} {cc : ByteArray} {own : String} {nL : Nat} {D : va_G} {tc : Tc} {A : Nat → Prop} {cells slots : Nat} {Q : State → Prop}
variable {H : Heap} {locs : List Loc} {ls : Array Slot} {ws : va_W} {pc : Nat} {rest : List Value}
/-- newarray int -/
theorem kx_newi (X : Kx p s m args c cc own nL D tc A) (hP : va_P D vwCl ws H) (hD : va_D A ws) (hS : va_S A s.heap H locs) {n : Int32} {N : Nat} (hn : ¬ n < 0) (hN : n.toNatClampNeg = N) (hbytes : N * 4 ≤ 536870912) (hcells : cells + 1 ≤ R.cells) (hslots : slots + N ≤ R.slots) (hd : decode cc pc = .ok (.newarray .int, 2))
    (kk : ∀ (q : Nat) (H1 : Heap), va_P D vwCl (ws ++ [(q, .inl (tc.1, N, .inl (fun _ => 0)))]) H1 → va_D A (ws ++ [(q, .inl (tc.1, N, .inl (fun _ => 0)))]) → va_S A s.heap H1 locs → W p l e R s m args below meth c H1 locs (cells + 1) (slots + N) Q (F0 m (pc + 2) ls (.ref q :: rest))) : W p l e R s m args below meth c H locs cells slots Q (F0 m pc ls (.int n :: rest)) := by
  refine va_newa (atype := .int) (ty := .int) (a0 := (N, .inl (fun _ => 0))) X.1 X.2.1 (X.2.2.2.2.1 _ wi_int) rfl X.2.2.2.2.2.1 hP hD hS X.2.2.2.2.2.2 (fun cA => rfl) hn hN hbytes hcells hslots hd (fun q cA H1 hK1 hP1 hD1 hS1 => ?_)
  have e1 := ty_int hK1
  subst e1
  exact kk q H1 hP1 hD1 hS1
/-- newarray boolean -/
theorem kx_newz (X : Kx p s m args c cc own nL D tc A) (hP : va_P D vwCl ws H) (hD : va_D A ws) (hS : va_S A s.heap H locs) {n : Int32} {N : Nat} (hn : ¬ n < 0) (hN : n.toNatClampNeg = N) (hbytes : N * 1 ≤ 536870912) (hcells : cells + 1 ≤ R.cells) (hslots : slots + N ≤ R.slots) (hd : decode cc pc = .ok (.newarray .boolean, 2))
    (kk : ∀ (q : Nat) (H1 : Heap), va_P D vwCl (ws ++ [(q, .inl (tc.2.1, N, .inl (fun _ => 0)))]) H1 → va_D A (ws ++ [(q, .inl (tc.2.1, N, .inl (fun _ => 0)))]) → va_S A s.heap H1 locs → W p l e R s m args below meth c H1 locs (cells + 1) (slots + N) Q (F0 m (pc + 2) ls (.ref q :: rest))) : W p l e R s m args below meth c H locs cells slots Q (F0 m pc ls (.int n :: rest)) := by
  refine va_newa (atype := .boolean) (ty := .boolean) (a0 := (N, .inl (fun _ => 0))) X.1 X.2.1 (X.2.2.2.2.1 _ wi_bool) rfl X.2.2.2.2.2.1 hP hD hS X.2.2.2.2.2.2 (fun cA => rfl) hn hN hbytes hcells hslots hd (fun q cA H1 hK1 hP1 hD1 hS1 => ?_)
  have e1 := ty_bool hK1
  subst e1
  exact kk q H1 hP1 hD1 hS1
/-- a final field, in the constructor -/
theorem kx_putF (X : Kx p s m args c cc own nL D tc A) (hP : va_P D vwCl ws H) (hD : va_D A ws) (hS : va_S A s.heap H locs) (q0 : Nat) {h0 ci k index : Nat} {fs : List Value} {C : String} {T : u_T} {N : Nat} (he : ws[q0]? = some (h0, .inr (ci, fs))) (hc : vwCl[ci]? = some (C, T, N)) (hF : FL own index ci k) {ty : FieldType} {v : Value} (hin : meth.name = "<init>") (hfin : (T k).2.2.2 = true) (hdecl : (T k).1 = own) (hty : parseFieldDescriptor (T k).2.2.1 = some ty) (hn : narrow ty v = v) (hfit : fits ty v = true) (hl : k < fs.length) (hd : decode cc pc = .ok (.putfield index, 3))
    (kk : ∀ (H1 : Heap) (locs1 : List Loc), va_P D vwCl (ws.set q0 (h0, .inr (ci, fs.set k v))) H1 → va_D A (ws.set q0 (h0, .inr (ci, fs.set k v))) → va_S A s.heap H1 locs1 → W p l e R s m args below meth c H1 locs1 cells slots Q (F0 m (pc + 3) ls rest)) : W p l e R s m args below meth c H locs cells slots Q (F0 m pc ls (v :: .ref h0 :: rest)) := by
  obtain ⟨C', T', N', ty0, f1, f2, f3, f4, f5, f6⟩ := hF
  have ec : (C', T', N') = (C, T, N) := Option.some.inj (f1.symm.trans hc)
  cases ec
  exact va_putF X.1 X.2.1 X.2.2.2.2.1 f3 ty0 f5 f6 X.2.2.2.1 X.2.2.2.2.2.1 hP hD hS q0 he hc k f2 (X.2.2.2.2.1 _ f4) (fun _ h => h) hfin hin hdecl hty hn hfit hl hd kk
/-- a field that is not final -/
theorem kx_put (X : Kx p s m args c cc own nL D tc A) (hP : va_P D vwCl ws H) (hD : va_D A ws) (hS : va_S A s.heap H locs) (q0 : Nat) {h0 ci k index : Nat} {fs : List Value} {C : String} {T : u_T} {N : Nat} (he : ws[q0]? = some (h0, .inr (ci, fs))) (hc : vwCl[ci]? = some (C, T, N)) (hF : FL own index ci k) {ty : FieldType} {v : Value} (hfin : (T k).2.2.2 = false) (hty : parseFieldDescriptor (T k).2.2.1 = some ty) (hn : narrow ty v = v) (hfit : fits ty v = true) (hl : k < fs.length) (hd : decode cc pc = .ok (.putfield index, 3))
    (kk : ∀ (H1 : Heap) (locs1 : List Loc), va_P D vwCl (ws.set q0 (h0, .inr (ci, fs.set k v))) H1 → va_D A (ws.set q0 (h0, .inr (ci, fs.set k v))) → va_S A s.heap H1 locs1 → W p l e R s m args below meth c H1 locs1 cells slots Q (F0 m (pc + 3) ls rest)) : W p l e R s m args below meth c H locs cells slots Q (F0 m pc ls (v :: .ref h0 :: rest)) := by
  obtain ⟨C', T', N', ty0, f1, f2, f3, f4, f5, f6⟩ := hF
  have ec : (C', T', N') = (C, T, N) := Option.some.inj (f1.symm.trans hc)
  cases ec
  exact va_put X.1 X.2.1 X.2.2.2.2.1 f3 ty0 f5 f6 X.2.2.2.1 X.2.2.2.2.2.1 hP hD hS q0 he hc k f2 (X.2.2.2.2.1 _ f4) (fun _ h => h) hfin hty hn hfit hl hd kk
/-- a field read -/
theorem kx_get (X : Kx p s m args c cc own nL D tc A) (hP : va_P D vwCl ws H) (q0 : Nat) {h0 ci k index : Nat} {fs : List Value} (he : ws[q0]? = some (h0, .inr (ci, fs))) (hF : FL own index ci k) {v : Value} (hv : fs[k]? = some v) (hd : decode cc pc = .ok (.getfield index, 3))
    (kk : W p l e R s m args below meth c H locs cells slots Q (F0 m (pc + 3) ls (v :: rest))) : W p l e R s m args below meth c H locs cells slots Q (F0 m pc ls (.ref h0 :: rest)) := by
  obtain ⟨C', T', N', ty0, f1, f2, f3, f4, f5, f6⟩ := hF
  exact va_get X.1 X.2.1 X.2.2.2.2.1 f3 X.2.2.2.1 X.2.2.2.2.2.1 hP q0 he f1 k f2 (X.2.2.2.2.1 _ f4) (fun _ h => h) hv hd kk
/-- Object's constructor -/
theorem kx_obj (X : Kx p s m args c cc own nL D tc A) {idx : Nat} {a : Addr} (hl : ls.size = nL) (hlink : Cond.methodLink own idx objectInit ∈ wsL_law) (hd : decode cc pc = .ok (.invokespecial idx, 3)) (h1 : 1 ≤ R.frames) (h2 : 12 ≤ R.locals)
    (kk : W p l e R s m args below meth c H locs cells slots Q (F0 m (pc + 3) ls [])) : W p l e R s m args below meth c H locs cells slots Q (F0 m pc ls [.ref a]) :=
  W.objInit X.1 X.2.1 X.2.2.2.1 (X.2.2.2.2.1 _ hlink) (X.2.2.2.2.1 _ wi_oi) (X.2.2.2.2.1 _ wi_oc) rfl (by rw [X.2.2.1]; exact hl) rfl hd h1 h2 kk
end KX
theorem fl_X0_15 : FL RX0 15 0 2 := ⟨RX0, TX0, 4, tyX0, rfl, by decide, inlX0, (inr_2 _ (List.mem_of_getElem? (i := 17) rfl)), tyX0_ok, nmX0⟩
theorem fl_X0_18 : FL RX0 18 0 3 := ⟨RX0, TX0, 4, tyX0, rfl, by decide, inlX0, (inr_2 _ (List.mem_of_getElem? (i := 18) rfl)), tyX0_ok, nmX0⟩
/-- a constructor's contract: the object's cell, and the cells that come, as a block over their addresses -/
def CtN {S : Type} (l : Launch) (D : va_G) (tc : Tc) (y : MethodName) (bytes : ByteArray) (maxL : Nat) (rm : Room) (ci : Nat) (fs : List Value) (blk : Nat → S → va_W) (E : State → Prop) : Prop :=
  ∀ h0 sz : Nat, Met l y (Cond.code y bytes maxL none :: wsL_law) rm (va_Pc [.ref h0] (fun U => U.heap.size = sz ∧ va_P D vwCl [(h0, .inr (ci, fs))] U.heap ∧ va_K D vwCl (TY tc) U ∧ va_D (fun _ => True) [(h0, .inr (ci, fs))] ∧ E U)) (va_Qv (fun (_ : S) => True) (fun a t => va_P D vwCl (blk h0 a) t.heap ∧ va_D (va_A [(h0, .inr (ci, fs))] sz) (blk h0 a)) (va_A [(h0, .inr (ci, fs))] sz)) rm.cells rm.slots (va_A [(h0, .inr (ci, fs))] sz)
theorem CtN.mk {S : Type} {l : Launch} {D : va_G} {tc : Tc} {y : MethodName} {cc : ByteArray} {nL : Nat} {rm : Room} {ci : Nat} {fs : List Value} {blk : Nat → S → va_W} {E : State → Prop} (hy : plainName y.cls = true) (hn : y.name = "<init>") (hnl : 1 ≤ nL)
    (body : ∀ (p : Program) (e : Env) (s : State) (m : MethodId) (args : Array Value) (below : List Frame) (meth : Method) (c : Code) (A : Nat → Prop) (Qm : State → Prop) (h0 : Nat) (ls : Array Slot), Kx p s m args c cc y.cls nL D tc A → va_P D vwCl [(h0, .inr (ci, fs))] s.heap → va_D A [(h0, .inr (ci, fs))] → va_S A s.heap s.heap [] → E s → meth.name = "<init>" → lv_has ls nL [(0, .ref h0)] →
      (∀ (H : Heap) (locs : List Loc) (a : S) (ls : Array Slot) (pc : Nat), va_P D vwCl (blk h0 a) H → va_D A (blk h0 a) → va_S A s.heap H locs → decode cc pc = .ok (.return_, 1) → W p l e rm s m args below meth c H locs rm.cells rm.slots Qm (F0 m pc ls [])) →
      W p l e rm s m args below meth c s.heap [] 0 0 Qm (F0 m 0 ls [])) : CtN l D tc y cc nL rm ci fs blk E := by
  intro h0 sz
  refine Met.ofW (cc := cc) (maxL := nL) (ret := none) hy rfl ?_
  intro p e s m args below meth c s₁ B hml hv
  obtain ⟨rfl, hsz, hP, hK, hD0, hE⟩ := hv
  have hts := atoms_spec (ws := Cond.code y cc nL none :: wsL_law) B.pre
  have hlocks := B.notSynchronized
  have hin : meth.name = "<init>" := (name_of_methodNamed B.named B.method).1.trans hn
  subst hsz
  have hD := hD0.self (sz := s.heap.size)
  generalize hAe : va_A [(h0, .inr (ci, fs))] s.heap.size = A at hD ⊢
  have hA : ∀ q : Nat, s.heap.size ≤ q → A q := fun q h => by rw [← hAe]; exact Or.inr h
  have X : Kx p s m ([Value.ref h0] : List Value).toArray c cc y.cls nL D tc A := ⟨B.exec, B.bytes, hml, findClass_of_methodNamed B.named, fun w h => hts w (List.mem_cons_of_mem _ h), hK, hA⟩
  have hl := lv_entry ([.ref h0]) (n := nL) hnl
  rw [lg_entry_eq]
  refine body p e s m _ below meth c A _ h0 _ X hP hD va_S.rf hE hin hl (fun H locs a ls pc hP1 hD1 hS1 hd => ?_)
  exact W.vret X.1 X.2.1 B.returns (fun t ht hW => ⟨⟨a, rfl, trivial, by rw [ht]; exact hP1, hD1⟩, hS1.F ht⟩) hS1.2.2 hd
theorem ctn_blind {D : va_G} {tc : Tc} {ci : Nat} {fs : List Value} {E : State → Prop} (hE : ∀ (a : Array Value) U g mk, E U → E (U.calling g mk a)) {h0 sz : Nat} : FrameBlind (va_Pc [.ref h0] (fun U => U.heap.size = sz ∧ va_P D vwCl [(h0, .inr (ci, fs))] U.heap ∧ va_K D vwCl (TY tc) U ∧ va_D (fun _ => True) [(h0, .inr (ci, fs))] ∧ E U)) := fun a U g mk z => by
  obtain ⟨q0, q1, qP, qK, qD, qE⟩ := z
  exact ⟨q0, q1, qP, va_K.moved (u := U) (U := U.calling g mk a) (Vm.Alike.refl U.vm) qK, qD, hE a U g mk qE⟩
theorem gN {y : MethodName} {bytes : ByteArray} {maxL : Nat} (h : Cond.code y bytes maxL none ∈ wsL_law) : GoodIn wsL_law (Cond.code y bytes maxL none :: wsL_law) := by
  intro w hw
  have hm : w ∈ wsL_law := by
    rcases List.mem_cons.mp hw with rfl | hw
    · exact h
    · exact hw
  exact ⟨hm, gd hm⟩
section KI
variable {p : Program} {l : Launch} {e : Env} {R : Room} {s : State} {m : MethodId} {args : Array Value} {below : List Frame} {meth : Method} {c : Code} {cc : ByteArray} {own : String} {nL : Nat} {D : va_G} {tc : Tc} {A : Nat → Prop} {cells slots : Nat} {Q : State → Prop}
variable {H : Heap} {locs : List Loc} {ls : Array Slot} {ws : va_W} {pc : Nat} {rest : List Value}
/-- new -/
theorem kx_new (X : Kx p s m args c cc own nL D tc A) (hP : va_P D vwCl ws H) (hD : va_D A ws) (hS : va_S A s.heap H locs) {C : String} {T : u_T} {N ci idx : Nat} (ty : Nat → FieldType) (hin : ∀ w ∈ u_ws C T N, w ∈ wsL_law) (hty : ∀ k, k < N → parseFieldDescriptor (T k).2.2.1 = some (ty k)) (hcl : Cond.classLink own idx C ∈ wsL_law) (hinst : Cond.instantiable C N ∈ wsL_law) (hini : Cond.initialized C ∈ wsL_law) (hc : vwCl[ci]? = some (C, T, N)) {fs : List Value} (hfs : ∀ j, j < N → defaultValue (ty j) = vp_V fs j) (hcells : cells + 1 ≤ R.cells) (hslots : slots + N ≤ R.slots) (hd : decode cc pc = .ok (.new idx, 3))
    (kk : ∀ (q : Nat) (H1 : Heap), va_P D vwCl (ws ++ [(q, .inr (ci, fs))]) H1 → va_D A (ws ++ [(q, .inr (ci, fs))]) → va_S A s.heap H1 locs → W p l e R s m args below meth c H1 locs (cells + 1) (slots + N) Q (F0 m (pc + 3) ls (.ref q :: rest))) : W p l e R s m args below meth c H locs cells slots Q (F0 m pc ls rest) :=
  va_new X.1 X.2.1 X.2.2.2.2.1 hin ty hty X.2.2.2.1 (X.2.2.2.2.1 _ hcl) (X.2.2.2.2.1 _ hinst) (X.2.2.2.2.1 _ hini) X.2.2.2.2.2.1 hP hD hS X.2.2.2.2.2.2 hc hfs hcells hslots hd kk
/-- a constructor's call, by its own link -/
theorem kx_iniP {S : Type} (X : Kx p s m args c cc own nL D tc A) (hP : va_P D vwCl ws H) (hD : va_D A ws) (hS : va_S A s.heap H locs) (iq : Nat) (isR : List Nat) {wr : va_W} {q ci idx maxL : Nat} {fs : List Value} {y : MethodName} {bytes : ByteArray} {rm : Room} {blk : Nat → S → va_W} {E : State → Prop} (hq : [iq].map (fun i => ws[i]?) = ([(q, .inr (ci, fs))] : va_W).map some) (hR : isR.map (fun i => ws[i]?) = wr.map some) (hn : va_nd isR = true) (hdis : ∀ i ∈ isR, i ∉ [iq])
    (hM : CtN l D tc y bytes maxL rm ci fs blk E) (hEb : ∀ (a : Array Value) U g mk, E U → E (U.calling g mk a)) (hE : ∀ U : State, s.WarmedH U.vm → E U) (hy : y.name = "<init>") (hcode : Cond.code y bytes maxL none ∈ wsL_law) (hlink : Cond.methodLink own idx y ∈ wsL_law) (hinst : Cond.instanceMethod y ∈ wsL_law) (hini : Cond.initialized y.cls ∈ wsL_law) (hd0 : y.cls ≠ "java/lang/invoke/MethodHandle" ∧ y.cls ≠ "java/lang/invoke/VarHandle" ∧ (parseMethodDescriptor y.desc).map (fun d => d.parameters.length) = some 0) (h1 : rm.frames + 1 ≤ R.frames) (h2 : 8 + (maxL + 11) + rm.locals ≤ R.locals) (hl : ls.size = nL) (hw : (rest.map fun v => v.category).sum ≤ 8) (hd : decode cc pc = .ok (.invokespecial idx, 3)) (hc1 : cells + rm.cells ≤ R.cells) (hc2 : slots + rm.slots ≤ R.slots)
    (kk : ∀ (a : S) (H1 : Heap) (locs1 : List Loc), va_P D vwCl (wr ++ blk q a) H1 → va_D A (wr ++ blk q a) → va_S A s.heap H1 locs1 → W p l e R s m args below meth c H1 locs1 (cells + rm.cells) (slots + rm.slots) Q (F0 m (pc + 3) ls rest)) : W p l e R s m args below meth c H locs cells slots Q (F0 m pc ls (.ref q :: rest)) := by
  have hPc : va_P D vwCl [(q, .inr (ci, fs))] H := hP.sub [iq] (by
    have e : ws[iq]? = some (q, .inr (ci, fs)) := by simpa using hq
    simp [List.filterMap, e])
  have hDc := hD.sub (ws' := [(q, .inr (ci, fs))]) [iq] rfl hq
  have hFc := va_free (wc := [(q, .inr (ci, fs))]) hD hS X.2.2.2.2.2.2 [iq] hq
  refine va_callv (va_runI (As := []) (rest := rest) ⟨X.1, X.2.1, X.2.2.1, X.2.2.2.1, X.2.2.2.2.1⟩ (hM q H.size) (cwI 0 X.2.2.2.2.1 (gN hcode) rfl rfl rfl (X.2.2.2.2.1 _ hini) (X.2.2.2.2.1 _ hlink) (X.2.2.2.2.1 _ hinst) hy hd0 ⟨h1, h2⟩) ⟨ctn_blind hEb, fun U hU hW => ⟨rfl, by rw [hU], by rw [hU]; exact hPc, va_K.moved hW.alike X.2.2.2.2.2.1, hDc.weaken (fun _ _ _ _ => trivial), hE U hW⟩⟩ rfl rfl hl rfl (lv_room hw) hd ⟨hc1, hc2⟩) hS (fun q _ h => hFc q h) hFc (fun a t H1 locs1 ht hvm hw' hB hz1 hk1 hS1 => ?_)
  obtain ⟨hP1, hD1⟩ := hB
  rw [ht] at hP1
  obtain ⟨hP2, hD2⟩ := va_join (wr := wr) (w1 := blk q a) hP hD [iq] isR hq hR hn hdis hk1 hFc hP1 hD1
  exact kk a H1 locs1 hP2 hD2 hS1
/-- a nest mate's private constructor -/
theorem kx_iniN {S : Type} {host : String} (X : Kx p s m args c cc own nL D tc A) (hP : va_P D vwCl ws H) (hD : va_D A ws) (hS : va_S A s.heap H locs) (iq : Nat) (isR : List Nat) {wr : va_W} {q ci idx maxL : Nat} {fs : List Value} {y : MethodName} {bytes : ByteArray} {rm : Room} {blk : Nat → S → va_W} {E : State → Prop} (hq : [iq].map (fun i => ws[i]?) = ([(q, .inr (ci, fs))] : va_W).map some) (hR : isR.map (fun i => ws[i]?) = wr.map some) (hn : va_nd isR = true) (hdis : ∀ i ∈ isR, i ∉ [iq])
    (hM : CtN l D tc y bytes maxL rm ci fs blk E) (hEb : ∀ (a : Array Value) U g mk, E U → E (U.calling g mk a)) (hE : ∀ U : State, s.WarmedH U.vm → E U) (hy : y.name = "<init>") (hcode : Cond.code y bytes maxL none ∈ wsL_law) (hlink : va_Nw (.methodLinkNest own idx y host) s) (hinst : Cond.instanceMethod y ∈ wsL_law) (hini : Cond.initialized y.cls ∈ wsL_law) (hd0 : y.cls ≠ "java/lang/invoke/MethodHandle" ∧ y.cls ≠ "java/lang/invoke/VarHandle" ∧ (parseMethodDescriptor y.desc).map (fun d => d.parameters.length) = some 0) (h1 : rm.frames + 1 ≤ R.frames) (h2 : 8 + (maxL + 11) + rm.locals ≤ R.locals) (hl : ls.size = nL) (hw : (rest.map fun v => v.category).sum ≤ 8) (hd : decode cc pc = .ok (.invokespecial idx, 3)) (hc1 : cells + rm.cells ≤ R.cells) (hc2 : slots + rm.slots ≤ R.slots)
    (kk : ∀ (a : S) (H1 : Heap) (locs1 : List Loc), va_P D vwCl (wr ++ blk q a) H1 → va_D A (wr ++ blk q a) → va_S A s.heap H1 locs1 → W p l e R s m args below meth c H1 locs1 (cells + rm.cells) (slots + rm.slots) Q (F0 m (pc + 3) ls rest)) : W p l e R s m args below meth c H locs cells slots Q (F0 m pc ls (.ref q :: rest)) := by
  have hPc : va_P D vwCl [(q, .inr (ci, fs))] H := hP.sub [iq] (by
    have e : ws[iq]? = some (q, .inr (ci, fs)) := by simpa using hq
    simp [List.filterMap, e])
  have hDc := hD.sub (ws' := [(q, .inr (ci, fs))]) [iq] rfl hq
  have hFc := va_free (wc := [(q, .inr (ci, fs))]) hD hS X.2.2.2.2.2.2 [iq] hq
  refine va_callv (va_runIN (As := []) (rest := rest) ⟨X.1, X.2.1, X.2.2.1, X.2.2.2.1, X.2.2.2.2.1⟩ (hM q H.size) ⟨va_cnB 0 X.2.2.2.2.1 (gN hcode) rfl rfl rfl hlink (X.2.2.2.2.1 _ hini) hd0 ⟨h1, h2⟩, hy, X.2.2.2.2.1 _ hinst⟩ ⟨ctn_blind hEb, fun U hU hW => ⟨rfl, by rw [hU], by rw [hU]; exact hPc, va_K.moved hW.alike X.2.2.2.2.2.1, hDc.weaken (fun _ _ _ _ => trivial), hE U hW⟩⟩ rfl rfl hl rfl (lv_room hw) hd ⟨hc1, hc2⟩) hS (fun q _ h => hFc q h) hFc (fun a t H1 locs1 ht hvm hw' hB hz1 hk1 hS1 => ?_)
  obtain ⟨hP1, hD1⟩ := hB
  rw [ht] at hP1
  obtain ⟨hP2, hD2⟩ := va_join (wr := wr) (w1 := blk q a) hP hD [iq] isR hq hR hn hdis hk1 hFc hP1 hD1
  exact kk a H1 locs1 hP2 hD2 hS1
/-- anewarray of parts -/
theorem kx_newq (X : Kx p s m args c cc own nL D tc A) (hP : va_P D vwCl ws H) (hD : va_D A ws) (hS : va_S A s.heap H locs) {idx : Nat} (hcl : Cond.classLink own idx RX3 ∈ wsL_law) (hAO : va_AO RX3 s) {n : Int32} {N : Nat} (hn : ¬ n < 0) (hN : n.toNatClampNeg = N) (hbytes : N * 4 ≤ 536870912) (hcells : cells + 1 ≤ R.cells) (hslots : slots + N ≤ R.slots) (hd : decode cc pc = .ok (.anewarray idx, 3))
    (kk : ∀ (q : Nat) (H1 : Heap), va_P D vwCl (ws ++ [(q, .inl (tc.2.2, N, .inr (.inr (.inr (.inr (fun _ => none))))))]) H1 → va_D A (ws ++ [(q, .inl (tc.2.2, N, .inr (.inr (.inr (.inr (fun _ => none))))))]) → va_S A s.heap H1 locs → W p l e R s m args below meth c H1 locs (cells + 1) (slots + N) Q (F0 m (pc + 3) ls (.ref q :: rest))) : W p l e R s m args below meth c H locs cells slots Q (F0 m pc ls (.int n :: rest)) := by
  refine va_newq X.1 X.2.1 X.2.2.2.1 (X.2.2.2.2.1 _ hcl) hAO X.2.2.2.2.2.1 hP hD hS X.2.2.2.2.2.2 hn hN hbytes hcells hslots hd (fun q cA H1 hK1 hP1 hD1 hS1 => ?_)
  have e1 := ty_obj hK1
  subst e1
  exact kk q H1 hP1 hD1 hS1
end KI
theorem va_P_cell {D : va_G} {cl : List vw_C} {ws : va_W} {H : Heap} (hP : va_P D cl ws H) (i : Nat) {q : Nat} {cA : ClassId} {x x' : vp_A} (h : ws[i]? = some (q, .inl (cA, x))) (hx : vp_cell cA x = vp_cell cA x') : va_P D cl (ws.set i (q, .inl (cA, x'))) H := by
  intro k y hk
  have hl : i < ws.length := (List.getElem?_eq_some_iff.mp h).1
  by_cases e : k = i
  · subst e
    rw [List.getElem?_set_self hl] at hk
    cases hk
    have h0 := hP k _ h
    show H[q]? = some (vp_cell cA x')
    rw [← hx]
    exact h0
  · rw [List.getElem?_set_ne (Ne.symm e)] at hk
    exact hP k y hk

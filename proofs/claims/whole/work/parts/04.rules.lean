/-- locals, by place -/
def Lk (ls : Array Slot) (als : List (Option Value)) : Prop := ls.size = als.length ∧ lv_wf ls ∧ ∀ (i : Nat) (v : Value), als[i]? = some (some v) → ls[i]? = some (.val v)
theorem Lk.has {ls : Array Slot} {als : List (Option Value)} (h : Lk ls als) : lv_has ls als.length ((als.zipIdx).filterMap (fun q => q.1.map (fun v => (q.2, v)))) := by
  refine ⟨h.1, h.2.1, ?_⟩
  rintro ⟨i, v⟩ hq
  obtain ⟨⟨ov, j⟩, h1, h2⟩ := List.mem_filterMap.mp hq
  cases ov with
  | none => cases h2
  | some w =>
    cases h2
    exact h.2.2 _ _ (List.mem_zipIdx_iff_getElem?.mp h1)
theorem Lk.store {ls : Array Slot} {als : List (Option Value)} {i : Nat} {v : Value} (h : Lk ls als) (hi : i < als.length) (hc : v.category = 1) (hz : ∀ w, some w ∈ als → w.category = 1) : ∃ ls', storeLocals ls i v = some ls' ∧ Lk ls' (als.set i (some v)) := by
  obtain ⟨ls', e1, e2⟩ := lv_store1 (v := v) h.has hi hc
  refine ⟨ls', e1, e2.1.trans (by rw [List.length_set]), e2.2.1, fun j w hj => ?_⟩
  by_cases hji : j = i
  · subst hji
    rw [List.getElem?_set_self hi] at hj
    cases hj
    exact e2.2.2 (j, v) List.mem_cons_self
  · rw [List.getElem?_set_ne (Ne.symm hji)] at hj
    refine e2.2.2 (j, w) (List.mem_cons_of_mem _ (List.mem_filter.mpr ⟨List.mem_filterMap.mpr ⟨(some w, j), List.mem_zipIdx_iff_getElem?.mpr hj, rfl⟩, ?_⟩))
    have hw : w.category = 1 := hz w (List.mem_of_getElem? hj)
    simp [hji, hw]
/-- a weaker list of locals -/
def lsub : List (Option Value) → List (Option Value) → Prop
  | [], [] => True
  | none :: xs, _ :: ys => lsub xs ys
  | some v :: xs, some w :: ys => v = w ∧ lsub xs ys
  | _, _ => False
theorem lsub_len : ∀ {xs ys : List (Option Value)}, lsub xs ys → xs.length = ys.length
  | [], [], _ => rfl
  | none :: xs, _ :: ys, h => congrArg (· + 1) (lsub_len (xs := xs) (ys := ys) h)
  | some _ :: xs, some _ :: ys, h => congrArg (· + 1) (lsub_len (xs := xs) (ys := ys) h.2)
  | [], _ :: _, h => h.elim
  | none :: _, [], h => h.elim
  | some _ :: _, [], h => h.elim
  | some _ :: _, none :: _, h => h.elim
theorem lsub_at : ∀ {xs ys : List (Option Value)}, lsub xs ys → ∀ (i : Nat) (v : Value), xs[i]? = some (some v) → ys[i]? = some (some v)
  | none :: xs, _ :: ys, h, 0, v, e => by simp at e
  | none :: xs, _ :: ys, h, i + 1, v, e => lsub_at (xs := xs) (ys := ys) h i v e
  | some _ :: xs, some _ :: ys, h, 0, v, e => by rw [← h.1]; exact e
  | some _ :: xs, some _ :: ys, h, i + 1, v, e => lsub_at (xs := xs) (ys := ys) h.2 i v e
  | [], [], _, i, v, e => by simp at e
  | [], _ :: _, h, _, _, _ => h.elim
  | none :: _, [], h, _, _, _ => h.elim
  | some _ :: _, [], h, _, _, _ => h.elim
  | some _ :: _, none :: _, h, _, _, _ => h.elim
theorem Lk.weak {ls : Array Slot} {xs ys : List (Option Value)} (h : Lk ls ys) (hs : lsub xs ys) : Lk ls xs := ⟨h.1.trans (lsub_len hs).symm, h.2.1, fun i v e => h.2.2 i v (lsub_at hs i v e)⟩
theorem Lk.entry (vs : List Value) (hc : ∀ v ∈ vs, v.category = 1) {n : Nat} (h : vs.length ≤ n) : Lk ((lg_sl vs ++ List.replicate (n - (lg_sl vs).length) Slot.unset).toArray) (vs.map some ++ List.replicate (n - vs.length) none) := by
  have e : ∀ (us : List Value), (∀ v ∈ us, v.category = 1) → lg_sl us = us.map Slot.val := by
    intro us
    induction us with
    | nil => intro _; rfl
    | cons u us ih =>
      intro hu
      have hu1 := hu u List.mem_cons_self
      have ih' := ih (fun v hv => hu v (List.mem_cons_of_mem _ hv))
      unfold lg_sl at ih' ⊢
      rw [List.flatMap_cons, ih', if_neg (by omega)]
      rfl
  have hl : (lg_sl vs).length ≤ n := by rw [e vs hc, List.length_map]; exact h
  have hh := lv_entry vs (n := n) hl
  refine ⟨hh.1.trans (by simp; omega), hh.2.1, fun i v hi => ?_⟩
  rw [e vs hc]
  by_cases hlt : i < vs.length
  · rw [List.getElem?_append_left (by rw [List.length_map]; exact hlt), List.getElem?_map] at hi
    rw [List.getElem?_toArray, List.getElem?_append_left (by rw [List.length_map]; exact hlt), List.getElem?_map]
    cases hv : vs[i]? with
    | none => rw [hv] at hi; cases hi
    | some u => rw [hv] at hi; cases hi; rfl
  · rw [List.getElem?_append_right (by rw [List.length_map]; omega)] at hi
    have := List.eq_of_mem_replicate (List.mem_of_getElem? hi)
    cases this
/-- what stays the same along a method's walk -/
def Cx (p : Program) (s : State) (m : MethodId) (args : Array Value) (c : Code) (cc : ByteArray) (own : String) (nL : Nat) (D : va_G) (ad : Ky → Nat) (tc : Tc) (A : Nat → Prop) : Prop :=
  p.tables.exec = Jvm.exec ∧ c.code = cc ∧ c.maxLocals = nL ∧ s.vm.findClass own = some m.cls ∧ (∀ w ∈ wsL_law, w.before args s = true) ∧ va_K D vwCl [(tc.1, .int), (tc.2.1, .boolean), (tc.2.2, .object RX3)] s ∧ adI ad ∧ (∀ q ∈ keys, A (ad q)) ∧ (∀ q : Nat, s.heap.size ≤ q → A q)
def AW (p : Program) (l : Launch) (e : Env) (R : Room) (s : State) (m : MethodId) (args : Array Value) (below : List Frame) (meth : Method) (c : Code) (D : va_G) (ad : Ky → Nat) (tc : Tc) (A : Nat → Prop) (cs sl : Nat) (Qm : State → Prop) (pc : Nat) (als : List (Option Value)) (st : List Value) (σ : Mem) : Prop :=
  ∀ (H : Heap) (locs : List Loc) (ls : Array Slot), va_P D vwCl (wS ad tc σ) H → va_S A s.heap H locs → Lk ls als → W p l e R s m args below meth c H locs cs sl Qm (F0 m pc ls st)
theorem oI_add (x y : Int) : oI x + oI y = oI (x + y) := by unfold oI; rw [Int32.ofInt_add]
theorem oI_sub (x y : Int) : oI x - oI y = oI (x - y) := by unfold oI; rw [Int32.ofInt_sub]
theorem oI_mul (x y : Int) : oI x * oI y = oI (x * y) := by unfold oI; rw [Int32.ofInt_mul]
theorem oI_neg (x : Int) : - oI x = oI (- x) := by unfold oI; rw [Int32.ofInt_neg]
theorem oI_toInt {x : Int} (h : InR x) : (oI x).toInt = x := by
  unfold oI
  exact Int32.toInt_ofInt_of_le (by have := h.1; omega) (by have := h.2; omega)
theorem oI_lt {x y : Int} (hx : InR x) (hy : InR y) : oI x < oI y ↔ x < y := by rw [Int32.lt_iff_toInt_lt, oI_toInt hx, oI_toInt hy]
theorem oI_le {x y : Int} (hx : InR x) (hy : InR y) : oI x ≤ oI y ↔ x ≤ y := by rw [Int32.le_iff_toInt_le, oI_toInt hx, oI_toInt hy]
theorem oI_eq {x y : Int} (hx : InR x) (hy : InR y) : oI x = oI y ↔ x = y := ⟨fun h => by rw [← oI_toInt hx, h, oI_toInt hy], fun h => by rw [h]⟩
theorem InR_0 : InR 0 := ⟨by decide, by decide⟩
theorem oI_0 : oI 0 = 0 := rfl
theorem oI_self (x : Int32) : oI x.toInt = x := Int32.ofInt_toInt x
theorem InR_self (x : Int32) : InR x.toInt := ⟨by have := Int32.le_toInt x; omega, by have := Int32.toInt_lt x; omega⟩
theorem oI_in {i : Int} {n : Nat} (h0 : 0 ≤ i) (h1 : i < n) (hn : n < 2 ^ 31) : vp_in (oI i) n ∧ (oI i).toNatClampNeg = i.toNat := by
  have hr : InR i := ⟨by omega, by omega⟩
  refine ⟨vp_in_iff.mpr ⟨by rw [oI_toInt hr]; exact h0, by rw [oI_toInt hr]; exact h1⟩, ?_⟩
  show (oI i).toInt.toNat = i.toNat
  rw [oI_toInt hr]
def iAnd (x y : Int) : Int := (oI x &&& oI y).toInt
def iOr (x y : Int) : Int := (oI x ||| oI y).toInt
def iXor (x y : Int) : Int := (oI x ^^^ oI y).toInt
def iShl (x y : Int) : Int := (oI x <<< (oI y &&& 31)).toInt
def iShr (x y : Int) : Int := (oI x >>> (oI y &&& 31)).toInt
def iDiv (x y : Int) : Int := (oI x / oI y).toInt
def iRem (x y : Int) : Int := (oI x - oI x / oI y * oI y).toInt
def lcb (als : List (Option Value)) : Bool := als.all (fun o => match o with | none => true | some v => v.category == 1)
theorem lcb_spec {als : List (Option Value)} (h : lcb als = true) : ∀ w, some w ∈ als → w.category = 1 := by
  intro w hw
  have := List.all_eq_true.mp h (some w) hw
  simpa using this

section RU
variable {p : Program} {l : Launch} {e : Env} {R : Room} {s : State} {m : MethodId} {args : Array Value} {below : List Frame} {meth : Method} {c : Code} {cc : ByteArray} {own : String} {nL : Nat} {D : va_G} {ad : Ky → Nat} {tc : Tc} {A : Nat → Prop} {cs sl : Nat} {Qm : State → Prop}
variable {pc : Nat} {als : List (Option Value)} {st : List Value} {σ : Mem}
theorem aw_weak {als' : List (Option Value)} (h : lsub als' als) (kk : AW p l e R s m args below meth c D ad tc A cs sl Qm pc als' st σ) : AW p l e R s m args below meth c D ad tc A cs sl Qm pc als st σ := fun H locs ls hP hS hl => kk H locs ls hP hS (hl.weak h)
theorem aw_iconst (X : Cx p s m args c cc own nL D ad tc A) {n : Int} (hd : decode cc pc = .ok (.iconst n, 1)) (kk : AW p l e R s m args below meth c D ad tc A cs sl Qm (pc + 1) als (.int (oI n) :: st) σ) : AW p l e R s m args below meth c D ad tc A cs sl Qm pc als st σ := fun H locs ls hP hS hl => lv_iconst X.1 X.2.1 hd rfl (kk H locs ls hP hS hl)
theorem aw_bipush (X : Cx p s m args c cc own nL D ad tc A) {n : Int} (hd : decode cc pc = .ok (.bipush n, 2)) (hn : (Int8.ofInt n).toInt32 = oI n) (kk : AW p l e R s m args below meth c D ad tc A cs sl Qm (pc + 2) als (.int (oI n) :: st) σ) : AW p l e R s m args below meth c D ad tc A cs sl Qm pc als st σ := fun H locs ls hP hS hl => lv_bipush X.1 X.2.1 hd hn (kk H locs ls hP hS hl)
theorem aw_sipush (X : Cx p s m args c cc own nL D ad tc A) {n : Int} (hd : decode cc pc = .ok (.sipush n, 3)) (hn : (Int16.ofInt n).toInt32 = oI n) (kk : AW p l e R s m args below meth c D ad tc A cs sl Qm (pc + 3) als (.int (oI n) :: st) σ) : AW p l e R s m args below meth c D ad tc A cs sl Qm pc als st σ := fun H locs ls hP hS hl => lv_sipush X.1 X.2.1 hd hn (kk H locs ls hP hS hl)
theorem aw_iload_n (X : Cx p s m args c cc own nL D ad tc A) {k : Fin 4} {x : Int32} (hd : decode cc pc = .ok (.iload_n k, 1)) (hv : als[(k : Nat)]? = some (some (.int x))) (kk : AW p l e R s m args below meth c D ad tc A cs sl Qm (pc + 1) als (.int x :: st) σ) : AW p l e R s m args below meth c D ad tc A cs sl Qm pc als st σ := fun H locs ls hP hS hl => lv_iload_n X.1 X.2.1 hd rfl (hl.2.2 _ _ hv) (kk H locs ls hP hS hl)
theorem aw_iload (X : Cx p s m args c cc own nL D ad tc A) {k : Nat} {x : Int32} (hd : decode cc pc = .ok (.iload k, 2)) (hv : als[k]? = some (some (.int x))) (kk : AW p l e R s m args below meth c D ad tc A cs sl Qm (pc + 2) als (.int x :: st) σ) : AW p l e R s m args below meth c D ad tc A cs sl Qm pc als st σ := fun H locs ls hP hS hl => lv_iload X.1 X.2.1 hd (hl.2.2 _ _ hv) (kk H locs ls hP hS hl)
theorem aw_aload_n (X : Cx p s m args c cc own nL D ad tc A) {k : Fin 4} {x : Nat} (hd : decode cc pc = .ok (.aload_n k, 1)) (hv : als[(k : Nat)]? = some (some (.ref x))) (kk : AW p l e R s m args below meth c D ad tc A cs sl Qm (pc + 1) als (.ref x :: st) σ) : AW p l e R s m args below meth c D ad tc A cs sl Qm pc als st σ := fun H locs ls hP hS hl => lv_aload_n X.1 X.2.1 hd rfl (hl.2.2 _ _ hv) (kk H locs ls hP hS hl)
theorem aw_aload (X : Cx p s m args c cc own nL D ad tc A) {k : Nat} {x : Nat} (hd : decode cc pc = .ok (.aload k, 2)) (hv : als[k]? = some (some (.ref x))) (kk : AW p l e R s m args below meth c D ad tc A cs sl Qm (pc + 2) als (.ref x :: st) σ) : AW p l e R s m args below meth c D ad tc A cs sl Qm pc als st σ := fun H locs ls hP hS hl => lv_aload X.1 X.2.1 hd (hl.2.2 _ _ hv) (kk H locs ls hP hS hl)
theorem aw_istore_n (X : Cx p s m args c cc own nL D ad tc A) {k : Fin 4} {x : Int32} (hd : decode cc pc = .ok (.istore_n k, 1)) (hi : (k : Nat) < als.length) (hz : lcb als = true) (kk : AW p l e R s m args below meth c D ad tc A cs sl Qm (pc + 1) (als.set (k : Nat) (some (.int x))) st σ) : AW p l e R s m args below meth c D ad tc A cs sl Qm pc als (.int x :: st) σ := fun H locs ls hP hS hl => by
  obtain ⟨ls', e1, e2⟩ := hl.store (v := .int x) hi rfl (lcb_spec hz)
  have hx := X.1
  have hb := X.2.1
  intro T hT XX
  obtain ⟨t, a, b⟩ := kk H locs ls' hP hS e2 T hT XX
  refine ⟨t, ?_, b⟩
  jvm_step XX.here [XX.here.top, ↓top_set XX.here.top, hx, hb, hd, e1]
  exact a
theorem aw_istore (X : Cx p s m args c cc own nL D ad tc A) {k : Nat} {x : Int32} (hd : decode cc pc = .ok (.istore k, 2)) (hi : k < als.length) (hz : lcb als = true) (kk : AW p l e R s m args below meth c D ad tc A cs sl Qm (pc + 2) (als.set k (some (.int x))) st σ) : AW p l e R s m args below meth c D ad tc A cs sl Qm pc als (.int x :: st) σ := fun H locs ls hP hS hl => by
  obtain ⟨ls', e1, e2⟩ := hl.store (v := .int x) hi rfl (lcb_spec hz)
  have hx := X.1
  have hb := X.2.1
  intro T hT XX
  obtain ⟨t, a, b⟩ := kk H locs ls' hP hS e2 T hT XX
  refine ⟨t, ?_, b⟩
  jvm_step XX.here [XX.here.top, ↓top_set XX.here.top, hx, hb, hd, e1]
  exact a
theorem aw_astore_n (X : Cx p s m args c cc own nL D ad tc A) {k : Fin 4} {x : Nat} (hd : decode cc pc = .ok (.astore_n k, 1)) (hi : (k : Nat) < als.length) (hz : lcb als = true) (kk : AW p l e R s m args below meth c D ad tc A cs sl Qm (pc + 1) (als.set (k : Nat) (some (.ref x))) st σ) : AW p l e R s m args below meth c D ad tc A cs sl Qm pc als (.ref x :: st) σ := fun H locs ls hP hS hl => by
  obtain ⟨ls', e1, e2⟩ := hl.store (v := .ref x) hi rfl (lcb_spec hz)
  have hx := X.1
  have hb := X.2.1
  intro T hT XX
  obtain ⟨t, a, b⟩ := kk H locs ls' hP hS e2 T hT XX
  refine ⟨t, ?_, b⟩
  jvm_step XX.here [XX.here.top, ↓top_set XX.here.top, hx, hb, hd, e1]
  exact ⟨rfl, a⟩
theorem aw_astore (X : Cx p s m args c cc own nL D ad tc A) {k : Nat} {x : Nat} (hd : decode cc pc = .ok (.astore k, 2)) (hi : k < als.length) (hz : lcb als = true) (kk : AW p l e R s m args below meth c D ad tc A cs sl Qm (pc + 2) (als.set k (some (.ref x))) st σ) : AW p l e R s m args below meth c D ad tc A cs sl Qm pc als (.ref x :: st) σ := fun H locs ls hP hS hl => by
  obtain ⟨ls', e1, e2⟩ := hl.store (v := .ref x) hi rfl (lcb_spec hz)
  have hx := X.1
  have hb := X.2.1
  intro T hT XX
  obtain ⟨t, a, b⟩ := kk H locs ls' hP hS e2 T hT XX
  refine ⟨t, ?_, b⟩
  jvm_step XX.here [XX.here.top, ↓top_set XX.here.top, hx, hb, hd, e1]
  exact ⟨rfl, a⟩
theorem aw_iinc (X : Cx p s m args c cc own nL D ad tc A) {k : Nat} {n x : Int} (hd : decode cc pc = .ok (.iinc k n, 3)) (hv : als[k]? = some (some (.int (oI x)))) (hz : lcb als = true) (kk : AW p l e R s m args below meth c D ad tc A cs sl Qm (pc + 3) (als.set k (some (.int (oI (x + n))))) st σ) : AW p l e R s m args below meth c D ad tc A cs sl Qm pc als st σ := fun H locs ls hP hS hl => by
  obtain ⟨ls', e1, e2⟩ := hl.store (v := .int (oI (x + n))) ((List.getElem?_eq_some_iff.mp hv).1) rfl (lcb_spec hz)
  have hg := hl.2.2 _ _ hv
  have hx := X.1
  have hb := X.2.1
  have e1 : storeLocals ls k (.int (oI x + Int32.ofInt n)) = some ls' := by
    have e : oI x + Int32.ofInt n = oI (x + n) := oI_add x n
    rw [e]; exact e1
  intro T hT XX
  obtain ⟨t, a, b⟩ := kk H locs ls' hP hS e2 T hT XX
  refine ⟨t, ?_, b⟩
  jvm_step XX.here [XX.here.top, ↓top_set XX.here.top, hx, hb, hd, hg, e1]
  exact a
theorem aw_dup (X : Cx p s m args c cc own nL D ad tc A) {v : Value} (hd : decode cc pc = .ok (.dup, 1)) (hv : v.category = 1) (kk : AW p l e R s m args below meth c D ad tc A cs sl Qm (pc + 1) als (v :: v :: st) σ) : AW p l e R s m args below meth c D ad tc A cs sl Qm pc als (v :: st) σ := fun H locs ls hP hS hl => lv_dup X.1 X.2.1 hd hv (kk H locs ls hP hS hl)
theorem aw_dup2 (X : Cx p s m args c cc own nL D ad tc A) {v u : Value} (hd : decode cc pc = .ok (.dup2, 1)) (hv : v.category = 1) (hu : u.category = 1) (kk : AW p l e R s m args below meth c D ad tc A cs sl Qm (pc + 1) als (v :: u :: v :: u :: st) σ) : AW p l e R s m args below meth c D ad tc A cs sl Qm pc als (v :: u :: st) σ := fun H locs ls hP hS hl => lv_dup2_11 X.1 X.2.1 hd hv hu (kk H locs ls hP hS hl)
theorem aw_goto (X : Cx p s m args c cc own nL D ad tc A) {off : Int} {tgt : Nat} (hd : decode cc pc = .ok (.goto off, 3)) (ht : (pc : Int) + off = (tgt : Int)) (kk : AW p l e R s m args below meth c D ad tc A cs sl Qm tgt als st σ) : AW p l e R s m args below meth c D ad tc A cs sl Qm pc als st σ := fun H locs ls hP hS hl => lv_goto X.1 X.2.1 hd ht (kk H locs ls hP hS hl)
theorem aw_iadd (X : Cx p s m args c cc own nL D ad tc A) {x y : Int} (hd : decode cc pc = .ok (.iadd, 1)) (kk : AW p l e R s m args below meth c D ad tc A cs sl Qm (pc + 1) als (.int (oI (x + y)) :: st) σ) : AW p l e R s m args below meth c D ad tc A cs sl Qm pc als (.int (oI y) :: .int (oI x) :: st) σ := fun H locs ls hP hS hl => lv_iadd X.1 X.2.1 hd (by rw [oI_add]; exact kk H locs ls hP hS hl)
theorem aw_isub (X : Cx p s m args c cc own nL D ad tc A) {x y : Int} (hd : decode cc pc = .ok (.isub, 1)) (kk : AW p l e R s m args below meth c D ad tc A cs sl Qm (pc + 1) als (.int (oI (x - y)) :: st) σ) : AW p l e R s m args below meth c D ad tc A cs sl Qm pc als (.int (oI y) :: .int (oI x) :: st) σ := fun H locs ls hP hS hl => lv_isub X.1 X.2.1 hd (by rw [oI_sub]; exact kk H locs ls hP hS hl)
theorem aw_imul (X : Cx p s m args c cc own nL D ad tc A) {x y : Int} (hd : decode cc pc = .ok (.imul, 1)) (kk : AW p l e R s m args below meth c D ad tc A cs sl Qm (pc + 1) als (.int (oI (x * y)) :: st) σ) : AW p l e R s m args below meth c D ad tc A cs sl Qm pc als (.int (oI y) :: .int (oI x) :: st) σ := fun H locs ls hP hS hl => lv_imul X.1 X.2.1 hd (by rw [oI_mul]; exact kk H locs ls hP hS hl)
theorem aw_ineg (X : Cx p s m args c cc own nL D ad tc A) {x : Int} (hd : decode cc pc = .ok (.ineg, 1)) (kk : AW p l e R s m args below meth c D ad tc A cs sl Qm (pc + 1) als (.int (oI (-x)) :: st) σ) : AW p l e R s m args below meth c D ad tc A cs sl Qm pc als (.int (oI x) :: st) σ := fun H locs ls hP hS hl => lv_ineg X.1 X.2.1 hd (by rw [oI_neg]; exact kk H locs ls hP hS hl)
theorem aw_iand (X : Cx p s m args c cc own nL D ad tc A) {x y : Int} (hd : decode cc pc = .ok (.iand, 1)) (kk : AW p l e R s m args below meth c D ad tc A cs sl Qm (pc + 1) als (.int (oI (iAnd x y)) :: st) σ) : AW p l e R s m args below meth c D ad tc A cs sl Qm pc als (.int (oI y) :: .int (oI x) :: st) σ := fun H locs ls hP hS hl => lv_iand X.1 X.2.1 hd (by have h := kk H locs ls hP hS hl; unfold iAnd at h; rw [oI_self] at h; exact h)
theorem aw_ior (X : Cx p s m args c cc own nL D ad tc A) {x y : Int} (hd : decode cc pc = .ok (.ior, 1)) (kk : AW p l e R s m args below meth c D ad tc A cs sl Qm (pc + 1) als (.int (oI (iOr x y)) :: st) σ) : AW p l e R s m args below meth c D ad tc A cs sl Qm pc als (.int (oI y) :: .int (oI x) :: st) σ := fun H locs ls hP hS hl => lv_ior X.1 X.2.1 hd (by have h := kk H locs ls hP hS hl; unfold iOr at h; rw [oI_self] at h; exact h)
theorem aw_ixor (X : Cx p s m args c cc own nL D ad tc A) {x y : Int} (hd : decode cc pc = .ok (.ixor, 1)) (kk : AW p l e R s m args below meth c D ad tc A cs sl Qm (pc + 1) als (.int (oI (iXor x y)) :: st) σ) : AW p l e R s m args below meth c D ad tc A cs sl Qm pc als (.int (oI y) :: .int (oI x) :: st) σ := fun H locs ls hP hS hl => lv_ixor X.1 X.2.1 hd (by have h := kk H locs ls hP hS hl; unfold iXor at h; rw [oI_self] at h; exact h)
theorem aw_ishl (X : Cx p s m args c cc own nL D ad tc A) {x y : Int} (hd : decode cc pc = .ok (.ishl, 1)) (kk : AW p l e R s m args below meth c D ad tc A cs sl Qm (pc + 1) als (.int (oI (iShl x y)) :: st) σ) : AW p l e R s m args below meth c D ad tc A cs sl Qm pc als (.int (oI y) :: .int (oI x) :: st) σ := fun H locs ls hP hS hl => lv_ishl X.1 X.2.1 hd (by have h := kk H locs ls hP hS hl; unfold iShl at h; rw [oI_self] at h; exact h)
theorem aw_ishr (X : Cx p s m args c cc own nL D ad tc A) {x y : Int} (hd : decode cc pc = .ok (.ishr, 1)) (kk : AW p l e R s m args below meth c D ad tc A cs sl Qm (pc + 1) als (.int (oI (iShr x y)) :: st) σ) : AW p l e R s m args below meth c D ad tc A cs sl Qm pc als (.int (oI y) :: .int (oI x) :: st) σ := fun H locs ls hP hS hl => lv_ishr X.1 X.2.1 hd (by have h := kk H locs ls hP hS hl; unfold iShr at h; rw [oI_self] at h; exact h)
theorem aw_idiv (X : Cx p s m args c cc own nL D ad tc A) {x y : Int} (hd : decode cc pc = .ok (.idiv, 1)) (hne : ¬ oI y = 0) (kk : AW p l e R s m args below meth c D ad tc A cs sl Qm (pc + 1) als (.int (oI (iDiv x y)) :: st) σ) : AW p l e R s m args below meth c D ad tc A cs sl Qm pc als (.int (oI y) :: .int (oI x) :: st) σ := fun H locs ls hP hS hl => lv_idiv X.1 X.2.1 hd hne (by have h := kk H locs ls hP hS hl; unfold iDiv at h; rw [oI_self] at h; exact h)
theorem aw_irem (X : Cx p s m args c cc own nL D ad tc A) {x y : Int} (hd : decode cc pc = .ok (.irem, 1)) (hne : ¬ oI y = 0) (kk : AW p l e R s m args below meth c D ad tc A cs sl Qm (pc + 1) als (.int (oI (iRem x y)) :: st) σ) : AW p l e R s m args below meth c D ad tc A cs sl Qm pc als (.int (oI y) :: .int (oI x) :: st) σ := fun H locs ls hP hS hl => lv_irem X.1 X.2.1 hd hne (by have h := kk H locs ls hP hS hl; unfold iRem at h; rw [oI_self] at h; exact h)
theorem aw_icmp_eq (X : Cx p s m args c cc own nL D ad tc A) {x y off : Int} {tgt : Nat} (hd : decode cc pc = .ok (.if_icmp .eq off, 3)) (ht : (pc : Int) + off = (tgt : Int)) (hx : InR x) (hy : InR y) (kt : x = y → AW p l e R s m args below meth c D ad tc A cs sl Qm tgt als st σ) (kf : x ≠ y → AW p l e R s m args below meth c D ad tc A cs sl Qm (pc + 3) als st σ) : AW p l e R s m args below meth c D ad tc A cs sl Qm pc als (.int (oI y) :: .int (oI x) :: st) σ := fun H locs ls hP hS hl => by
  have E := oI_eq hx hy
  exact lv_icmp_eq X.1 X.2.1 hd ht (fun h => kt (by first | exact E.mp h | exact (fun g => h (E.mpr g)) | exact Int.not_lt.mp (fun g => h (E.mpr g)) | exact Int.not_le.mp (fun g => h (E.mpr g)) | exact Classical.byContradiction (fun g => h (fun r => g (E.mp r)))) H locs ls hP hS hl) (fun h => kf (by first | exact E.mp h | exact (fun g => h (E.mpr g)) | exact Int.not_lt.mp (fun g => h (E.mpr g)) | exact Int.not_le.mp (fun g => h (E.mpr g)) | exact Classical.byContradiction (fun g => h (fun r => g (E.mp r)))) H locs ls hP hS hl)
theorem aw_icmp_ne (X : Cx p s m args c cc own nL D ad tc A) {x y off : Int} {tgt : Nat} (hd : decode cc pc = .ok (.if_icmp .ne off, 3)) (ht : (pc : Int) + off = (tgt : Int)) (hx : InR x) (hy : InR y) (kt : x ≠ y → AW p l e R s m args below meth c D ad tc A cs sl Qm tgt als st σ) (kf : x = y → AW p l e R s m args below meth c D ad tc A cs sl Qm (pc + 3) als st σ) : AW p l e R s m args below meth c D ad tc A cs sl Qm pc als (.int (oI y) :: .int (oI x) :: st) σ := fun H locs ls hP hS hl => by
  have E := oI_eq hx hy
  exact lv_icmp_ne X.1 X.2.1 hd ht (fun h => kt (by first | exact E.mp h | exact (fun g => h (E.mpr g)) | exact Int.not_lt.mp (fun g => h (E.mpr g)) | exact Int.not_le.mp (fun g => h (E.mpr g)) | exact Classical.byContradiction (fun g => h (fun r => g (E.mp r)))) H locs ls hP hS hl) (fun h => kf (by first | exact E.mp h | exact (fun g => h (E.mpr g)) | exact Int.not_lt.mp (fun g => h (E.mpr g)) | exact Int.not_le.mp (fun g => h (E.mpr g)) | exact Classical.byContradiction (fun g => h (fun r => g (E.mp r)))) H locs ls hP hS hl)
theorem aw_icmp_lt (X : Cx p s m args c cc own nL D ad tc A) {x y off : Int} {tgt : Nat} (hd : decode cc pc = .ok (.if_icmp .lt off, 3)) (ht : (pc : Int) + off = (tgt : Int)) (hx : InR x) (hy : InR y) (kt : x < y → AW p l e R s m args below meth c D ad tc A cs sl Qm tgt als st σ) (kf : y ≤ x → AW p l e R s m args below meth c D ad tc A cs sl Qm (pc + 3) als st σ) : AW p l e R s m args below meth c D ad tc A cs sl Qm pc als (.int (oI y) :: .int (oI x) :: st) σ := fun H locs ls hP hS hl => by
  have E := oI_lt hx hy
  exact lv_icmp_lt X.1 X.2.1 hd ht (fun h => kt (by first | exact E.mp h | exact (fun g => h (E.mpr g)) | exact Int.not_lt.mp (fun g => h (E.mpr g)) | exact Int.not_le.mp (fun g => h (E.mpr g)) | exact Classical.byContradiction (fun g => h (fun r => g (E.mp r)))) H locs ls hP hS hl) (fun h => kf (by first | exact E.mp h | exact (fun g => h (E.mpr g)) | exact Int.not_lt.mp (fun g => h (E.mpr g)) | exact Int.not_le.mp (fun g => h (E.mpr g)) | exact Classical.byContradiction (fun g => h (fun r => g (E.mp r)))) H locs ls hP hS hl)
theorem aw_icmp_ge (X : Cx p s m args c cc own nL D ad tc A) {x y off : Int} {tgt : Nat} (hd : decode cc pc = .ok (.if_icmp .ge off, 3)) (ht : (pc : Int) + off = (tgt : Int)) (hx : InR x) (hy : InR y) (kt : y ≤ x → AW p l e R s m args below meth c D ad tc A cs sl Qm tgt als st σ) (kf : x < y → AW p l e R s m args below meth c D ad tc A cs sl Qm (pc + 3) als st σ) : AW p l e R s m args below meth c D ad tc A cs sl Qm pc als (.int (oI y) :: .int (oI x) :: st) σ := fun H locs ls hP hS hl => by
  have E := oI_le hy hx
  exact lv_icmp_ge X.1 X.2.1 hd ht (fun h => kt (by first | exact E.mp h | exact (fun g => h (E.mpr g)) | exact Int.not_lt.mp (fun g => h (E.mpr g)) | exact Int.not_le.mp (fun g => h (E.mpr g)) | exact Classical.byContradiction (fun g => h (fun r => g (E.mp r)))) H locs ls hP hS hl) (fun h => kf (by first | exact E.mp h | exact (fun g => h (E.mpr g)) | exact Int.not_lt.mp (fun g => h (E.mpr g)) | exact Int.not_le.mp (fun g => h (E.mpr g)) | exact Classical.byContradiction (fun g => h (fun r => g (E.mp r)))) H locs ls hP hS hl)
theorem aw_icmp_gt (X : Cx p s m args c cc own nL D ad tc A) {x y off : Int} {tgt : Nat} (hd : decode cc pc = .ok (.if_icmp .gt off, 3)) (ht : (pc : Int) + off = (tgt : Int)) (hx : InR x) (hy : InR y) (kt : y < x → AW p l e R s m args below meth c D ad tc A cs sl Qm tgt als st σ) (kf : x ≤ y → AW p l e R s m args below meth c D ad tc A cs sl Qm (pc + 3) als st σ) : AW p l e R s m args below meth c D ad tc A cs sl Qm pc als (.int (oI y) :: .int (oI x) :: st) σ := fun H locs ls hP hS hl => by
  have E := oI_lt hy hx
  exact lv_icmp_gt X.1 X.2.1 hd ht (fun h => kt (by first | exact E.mp h | exact (fun g => h (E.mpr g)) | exact Int.not_lt.mp (fun g => h (E.mpr g)) | exact Int.not_le.mp (fun g => h (E.mpr g)) | exact Classical.byContradiction (fun g => h (fun r => g (E.mp r)))) H locs ls hP hS hl) (fun h => kf (by first | exact E.mp h | exact (fun g => h (E.mpr g)) | exact Int.not_lt.mp (fun g => h (E.mpr g)) | exact Int.not_le.mp (fun g => h (E.mpr g)) | exact Classical.byContradiction (fun g => h (fun r => g (E.mp r)))) H locs ls hP hS hl)
theorem aw_icmp_le (X : Cx p s m args c cc own nL D ad tc A) {x y off : Int} {tgt : Nat} (hd : decode cc pc = .ok (.if_icmp .le off, 3)) (ht : (pc : Int) + off = (tgt : Int)) (hx : InR x) (hy : InR y) (kt : x ≤ y → AW p l e R s m args below meth c D ad tc A cs sl Qm tgt als st σ) (kf : y < x → AW p l e R s m args below meth c D ad tc A cs sl Qm (pc + 3) als st σ) : AW p l e R s m args below meth c D ad tc A cs sl Qm pc als (.int (oI y) :: .int (oI x) :: st) σ := fun H locs ls hP hS hl => by
  have E := oI_le hx hy
  exact lv_icmp_le X.1 X.2.1 hd ht (fun h => kt (by first | exact E.mp h | exact (fun g => h (E.mpr g)) | exact Int.not_lt.mp (fun g => h (E.mpr g)) | exact Int.not_le.mp (fun g => h (E.mpr g)) | exact Classical.byContradiction (fun g => h (fun r => g (E.mp r)))) H locs ls hP hS hl) (fun h => kf (by first | exact E.mp h | exact (fun g => h (E.mpr g)) | exact Int.not_lt.mp (fun g => h (E.mpr g)) | exact Int.not_le.mp (fun g => h (E.mpr g)) | exact Classical.byContradiction (fun g => h (fun r => g (E.mp r)))) H locs ls hP hS hl)
theorem aw_if_eq (X : Cx p s m args c cc own nL D ad tc A) {x off : Int} {tgt : Nat} (hd : decode cc pc = .ok (.ifCond .eq off, 3)) (ht : (pc : Int) + off = (tgt : Int)) (hx : InR x) (kt : x = 0 → AW p l e R s m args below meth c D ad tc A cs sl Qm tgt als st σ) (kf : x ≠ 0 → AW p l e R s m args below meth c D ad tc A cs sl Qm (pc + 3) als st σ) : AW p l e R s m args below meth c D ad tc A cs sl Qm pc als (.int (oI x) :: st) σ := fun H locs ls hP hS hl => by
  have E := oI_eq hx InR_0
  rw [oI_0] at E
  exact lv_if_eq X.1 X.2.1 hd ht (fun h => kt (by first | exact E.mp h | exact (fun g => h (E.mpr g)) | exact Int.not_lt.mp (fun g => h (E.mpr g)) | exact Int.not_le.mp (fun g => h (E.mpr g)) | exact Classical.byContradiction (fun g => h (fun r => g (E.mp r)))) H locs ls hP hS hl) (fun h => kf (by first | exact E.mp h | exact (fun g => h (E.mpr g)) | exact Int.not_lt.mp (fun g => h (E.mpr g)) | exact Int.not_le.mp (fun g => h (E.mpr g)) | exact Classical.byContradiction (fun g => h (fun r => g (E.mp r)))) H locs ls hP hS hl)
theorem aw_if_ne (X : Cx p s m args c cc own nL D ad tc A) {x off : Int} {tgt : Nat} (hd : decode cc pc = .ok (.ifCond .ne off, 3)) (ht : (pc : Int) + off = (tgt : Int)) (hx : InR x) (kt : x ≠ 0 → AW p l e R s m args below meth c D ad tc A cs sl Qm tgt als st σ) (kf : x = 0 → AW p l e R s m args below meth c D ad tc A cs sl Qm (pc + 3) als st σ) : AW p l e R s m args below meth c D ad tc A cs sl Qm pc als (.int (oI x) :: st) σ := fun H locs ls hP hS hl => by
  have E := oI_eq hx InR_0
  rw [oI_0] at E
  exact lv_if_ne X.1 X.2.1 hd ht (fun h => kt (by first | exact E.mp h | exact (fun g => h (E.mpr g)) | exact Int.not_lt.mp (fun g => h (E.mpr g)) | exact Int.not_le.mp (fun g => h (E.mpr g)) | exact Classical.byContradiction (fun g => h (fun r => g (E.mp r)))) H locs ls hP hS hl) (fun h => kf (by first | exact E.mp h | exact (fun g => h (E.mpr g)) | exact Int.not_lt.mp (fun g => h (E.mpr g)) | exact Int.not_le.mp (fun g => h (E.mpr g)) | exact Classical.byContradiction (fun g => h (fun r => g (E.mp r)))) H locs ls hP hS hl)
theorem aw_if_lt (X : Cx p s m args c cc own nL D ad tc A) {x off : Int} {tgt : Nat} (hd : decode cc pc = .ok (.ifCond .lt off, 3)) (ht : (pc : Int) + off = (tgt : Int)) (hx : InR x) (kt : x < 0 → AW p l e R s m args below meth c D ad tc A cs sl Qm tgt als st σ) (kf : 0 ≤ x → AW p l e R s m args below meth c D ad tc A cs sl Qm (pc + 3) als st σ) : AW p l e R s m args below meth c D ad tc A cs sl Qm pc als (.int (oI x) :: st) σ := fun H locs ls hP hS hl => by
  have E := oI_lt hx InR_0
  rw [oI_0] at E
  exact lv_if_lt X.1 X.2.1 hd ht (fun h => kt (by first | exact E.mp h | exact (fun g => h (E.mpr g)) | exact Int.not_lt.mp (fun g => h (E.mpr g)) | exact Int.not_le.mp (fun g => h (E.mpr g)) | exact Classical.byContradiction (fun g => h (fun r => g (E.mp r)))) H locs ls hP hS hl) (fun h => kf (by first | exact E.mp h | exact (fun g => h (E.mpr g)) | exact Int.not_lt.mp (fun g => h (E.mpr g)) | exact Int.not_le.mp (fun g => h (E.mpr g)) | exact Classical.byContradiction (fun g => h (fun r => g (E.mp r)))) H locs ls hP hS hl)
theorem aw_if_ge (X : Cx p s m args c cc own nL D ad tc A) {x off : Int} {tgt : Nat} (hd : decode cc pc = .ok (.ifCond .ge off, 3)) (ht : (pc : Int) + off = (tgt : Int)) (hx : InR x) (kt : 0 ≤ x → AW p l e R s m args below meth c D ad tc A cs sl Qm tgt als st σ) (kf : x < 0 → AW p l e R s m args below meth c D ad tc A cs sl Qm (pc + 3) als st σ) : AW p l e R s m args below meth c D ad tc A cs sl Qm pc als (.int (oI x) :: st) σ := fun H locs ls hP hS hl => by
  have E := oI_le InR_0 hx
  rw [oI_0] at E
  exact lv_if_ge X.1 X.2.1 hd ht (fun h => kt (by first | exact E.mp h | exact (fun g => h (E.mpr g)) | exact Int.not_lt.mp (fun g => h (E.mpr g)) | exact Int.not_le.mp (fun g => h (E.mpr g)) | exact Classical.byContradiction (fun g => h (fun r => g (E.mp r)))) H locs ls hP hS hl) (fun h => kf (by first | exact E.mp h | exact (fun g => h (E.mpr g)) | exact Int.not_lt.mp (fun g => h (E.mpr g)) | exact Int.not_le.mp (fun g => h (E.mpr g)) | exact Classical.byContradiction (fun g => h (fun r => g (E.mp r)))) H locs ls hP hS hl)
theorem aw_if_gt (X : Cx p s m args c cc own nL D ad tc A) {x off : Int} {tgt : Nat} (hd : decode cc pc = .ok (.ifCond .gt off, 3)) (ht : (pc : Int) + off = (tgt : Int)) (hx : InR x) (kt : 0 < x → AW p l e R s m args below meth c D ad tc A cs sl Qm tgt als st σ) (kf : x ≤ 0 → AW p l e R s m args below meth c D ad tc A cs sl Qm (pc + 3) als st σ) : AW p l e R s m args below meth c D ad tc A cs sl Qm pc als (.int (oI x) :: st) σ := fun H locs ls hP hS hl => by
  have E := oI_lt InR_0 hx
  rw [oI_0] at E
  exact lv_if_gt X.1 X.2.1 hd ht (fun h => kt (by first | exact E.mp h | exact (fun g => h (E.mpr g)) | exact Int.not_lt.mp (fun g => h (E.mpr g)) | exact Int.not_le.mp (fun g => h (E.mpr g)) | exact Classical.byContradiction (fun g => h (fun r => g (E.mp r)))) H locs ls hP hS hl) (fun h => kf (by first | exact E.mp h | exact (fun g => h (E.mpr g)) | exact Int.not_lt.mp (fun g => h (E.mpr g)) | exact Int.not_le.mp (fun g => h (E.mpr g)) | exact Classical.byContradiction (fun g => h (fun r => g (E.mp r)))) H locs ls hP hS hl)
theorem aw_if_le (X : Cx p s m args c cc own nL D ad tc A) {x off : Int} {tgt : Nat} (hd : decode cc pc = .ok (.ifCond .le off, 3)) (ht : (pc : Int) + off = (tgt : Int)) (hx : InR x) (kt : x ≤ 0 → AW p l e R s m args below meth c D ad tc A cs sl Qm tgt als st σ) (kf : 0 < x → AW p l e R s m args below meth c D ad tc A cs sl Qm (pc + 3) als st σ) : AW p l e R s m args below meth c D ad tc A cs sl Qm pc als (.int (oI x) :: st) σ := fun H locs ls hP hS hl => by
  have E := oI_le hx InR_0
  rw [oI_0] at E
  exact lv_if_le X.1 X.2.1 hd ht (fun h => kt (by first | exact E.mp h | exact (fun g => h (E.mpr g)) | exact Int.not_lt.mp (fun g => h (E.mpr g)) | exact Int.not_le.mp (fun g => h (E.mpr g)) | exact Classical.byContradiction (fun g => h (fun r => g (E.mp r)))) H locs ls hP hS hl) (fun h => kf (by first | exact E.mp h | exact (fun g => h (E.mpr g)) | exact Int.not_lt.mp (fun g => h (E.mpr g)) | exact Int.not_le.mp (fun g => h (E.mpr g)) | exact Classical.byContradiction (fun g => h (fun r => g (E.mp r)))) H locs ls hP hS hl)
theorem aw_tableIn (X : Cx p s m args c cc own nL D ad tc A) {x dflt lo hi off : Int} {offs : Array Int} {len tgt : Nat} (hd : decode cc pc = .ok (.tableswitch dflt lo hi offs, len)) (j : Int) (hx : x = j) (hj : InR j) (h1 : ¬ j < lo) (h2 : ¬ hi < j) (ho : offs[(j - lo).toNat]? = some off) (ht : (pc : Int) + off = (tgt : Int)) (kk : AW p l e R s m args below meth c D ad tc A cs sl Qm tgt als st σ) : AW p l e R s m args below meth c D ad tc A cs sl Qm pc als (.int (oI x) :: st) σ := fun H locs ls hP hS hl => by
  subst hx
  exact lv_tableIn X.1 X.2.1 hd (by rw [oI_toInt hj]; exact h1) (by rw [oI_toInt hj]; exact h2) (by rw [oI_toInt hj]; exact ho) ht (kk H locs ls hP hS hl)
theorem aw_tableOut (X : Cx p s m args c cc own nL D ad tc A) {x dflt lo hi : Int} {offs : Array Int} {len tgt : Nat} (hd : decode cc pc = .ok (.tableswitch dflt lo hi offs, len)) (hj : InR x) (h : x < lo ∨ hi < x) (ht : (pc : Int) + dflt = (tgt : Int)) (kk : AW p l e R s m args below meth c D ad tc A cs sl Qm tgt als st σ) : AW p l e R s m args below meth c D ad tc A cs sl Qm pc als (.int (oI x) :: st) σ := fun H locs ls hP hS hl => lv_tableOut X.1 X.2.1 hd (by rw [oI_toInt hj]; exact h) ht (kk H locs ls hP hS hl)
/-- a field's words -/
def FL (own : String) (index ci k : Nat) : Prop := ∃ (C : String) (T : u_T) (N : Nat) (ty : Nat → FieldType), vwCl[ci]? = some (C, T, N) ∧ k < N ∧ (∀ w ∈ u_ws C T N, w ∈ wsL_law) ∧ Cond.fieldLink own index (T k).1 (T k).2.1 (T k).2.2.1 ∈ wsL_law ∧ (∀ k, k < N → parseFieldDescriptor (T k).2.2.1 = some (ty k)) ∧ (∀ a, a < N → ∀ b, b < N → a ≠ b → (T a).2.1 ≠ (T b).2.1)
theorem aw_get (X : Cx p s m args c cc own nL D ad tc A) {ci k index : Nat} {pp : Int} {v : Value} (hq : ((ci, pp, 0) : Ky) ∈ keys) (hF : FL own index ci k) (hv : (fvs ad σ ci pp)[k]? = some v) (hd : decode cc pc = .ok (.getfield index, 3)) (kk : AW p l e R s m args below meth c D ad tc A cs sl Qm (pc + 3) als (v :: st) σ) : AW p l e R s m args below meth c D ad tc A cs sl Qm pc als (.ref (ad (ci, pp, 0)) :: st) σ := fun H locs ls hP hS hl => by
  obtain ⟨C, T, N, ty, h1, h2, h3, h4, -, -⟩ := hF
  obtain ⟨i, hi⟩ := keys_ix hq
  exact va_get (D := D) (ci := ci) (v := v) (C := C) (T := T) (N := N) X.1 X.2.1 X.2.2.2.2.1 h3 X.2.2.2.1 X.2.2.2.2.2.1 hP i (wS_at hi) h1 k h2 (X.2.2.2.2.1 _ h4) (fun _ h => h) hv hd (kk H locs ls hP hS hl)
/-- a scalar field: that it may be written, and how the object looks then -/
def SF (ad : Ky → Nat) (ci k : Nat) (ft : FieldType) : Prop := aln ci k = 0 ∧ (∃ (C : String) (T : u_T) (N : Nat), vwCl[ci]? = some (C, T, N) ∧ (T k).2.2.2 = false ∧ parseFieldDescriptor (T k).2.2.1 = some ft) ∧ ∀ (σ : Mem) (pp x : Int), (fvs ad σ ci pp).set k (.int (oI x)) = fvs ad (up σ ci pp k 0 x) ci pp ∧ k < (fvs ad σ ci pp).length
theorem aw_put (X : Cx p s m args c cc own nL D ad tc A) {ci k index : Nat} {pp x : Int} {ft : FieldType} (hq : ((ci, pp, 0) : Ky) ∈ keys) (hF : FL own index ci k) (hs : SF ad ci k ft) (hn : narrow ft (.int (oI x)) = .int (oI x)) (hf : fits ft (.int (oI x)) = true) (hd : decode cc pc = .ok (.putfield index, 3)) (kk : AW p l e R s m args below meth c D ad tc A cs sl Qm (pc + 3) als st (up σ ci pp k 0 x)) : AW p l e R s m args below meth c D ad tc A cs sl Qm pc als (.int (oI x) :: .ref (ad (ci, pp, 0)) :: st) σ := fun H locs ls hP hS hl => by
  obtain ⟨C, T, N, ty, h1, h2, h3, h4, h5, h6⟩ := hF
  obtain ⟨hal, ⟨C', T', N', g1, g2, g3⟩, g4⟩ := hs
  obtain ⟨i, hi⟩ := keys_ix hq
  have eC : (C', T', N') = (C, T, N) := Option.some.inj (g1.symm.trans h1)
  cases eC
  obtain ⟨f1, f2⟩ := g4 σ pp x
  refine va_put (D := D) (ci := ci) (v := .int (oI x)) (C := C) (T := T) (N := N) (ty := ft) X.1 X.2.1 X.2.2.2.2.1 h3 ty h5 h6 X.2.2.2.1 X.2.2.2.2.2.1 hP (wS_D X.2.2.2.2.2.2.1 X.2.2.2.2.2.2.2.1) hS i (wS_at hi) h1 k h2 (X.2.2.2.2.1 _ h4) (fun _ h => h) g2 g3 hn hf f2 hd (fun H1 locs1 hP1 hD1 hS1 => ?_)
  refine kk H1 locs1 ls ?_ hS1 hl
  rw [f1] at hP1
  have e := wS_set (ad := ad) (tc := tc) (σ := σ) (σ' := up σ ci pp k 0 x) hi (cel_sc hal)
  rw [← e]
  exact hP1
theorem cel_ar {c0 k n : Nat} {pp : Int} (h : Arr c0 pp k n) : cel ad tc σ (c0, pp, k + 1) = .inl (tc.1, n, .inl (fun j => oI (σ c0 pp k (j : Int)))) := by
  obtain ⟨-, h2, h3, h4⟩ := h
  simp only [cel, if_neg h2, h3, h4]
  simp
theorem cel_az {c0 k n : Nat} {pp : Int} (h : ArrZ c0 pp k n) : cel ad tc σ (c0, pp, k + 1) = .inl (tc.2.1, n, .inl (fun j => oI (σ c0 pp k (j : Int)))) := by
  obtain ⟨-, h2, h3, h4⟩ := h
  simp only [cel, if_neg h2, h3, h4]
  simp
theorem aln_lt : ∀ c0 k, aln c0 k < 2000 := by
  intro c0 k
  unfold aln
  split <;> decide
theorem aw_iald (X : Cx p s m args c cc own nL D ad tc A) {c0 k n : Nat} {pp i : Int} (hr : Arr c0 pp k n) (h0 : 0 ≤ i) (h1 : i < n) (hd : decode cc pc = .ok (.iaload, 1)) (kk : AW p l e R s m args below meth c D ad tc A cs sl Qm (pc + 1) als (.int (oI (σ c0 pp k i)) :: st) σ) : AW p l e R s m args below meth c D ad tc A cs sl Qm pc als (.int (oI i) :: .ref (ad (c0, pp, k + 1)) :: st) σ := fun H locs ls hP hS hl => by
  obtain ⟨j, hj⟩ := keys_ix hr.1
  obtain ⟨v1, v2⟩ := oI_in h0 h1 (by rw [← hr.2.2.2]; have := aln_lt c0 k; omega)
  have hw := wS_at (ad := ad) (tc := tc) (σ := σ) hj
  rw [cel_ar hr] at hw
  refine va_iald X.1 X.2.1 X.2.2.2.2.2.1 hP j 0 hw rfl v1 hd ?_
  rw [v2, Int.toNat_of_nonneg h0]
  exact kk H locs ls hP hS hl
theorem aw_zald (X : Cx p s m args c cc own nL D ad tc A) {c0 k n : Nat} {pp i : Int} (hr : ArrZ c0 pp k n) (h0 : 0 ≤ i) (h1 : i < n) (hd : decode cc pc = .ok (.baload, 1)) (kk : AW p l e R s m args below meth c D ad tc A cs sl Qm (pc + 1) als (.int (oI (σ c0 pp k i)) :: st) σ) : AW p l e R s m args below meth c D ad tc A cs sl Qm pc als (.int (oI i) :: .ref (ad (c0, pp, k + 1)) :: st) σ := fun H locs ls hP hS hl => by
  obtain ⟨j, hj⟩ := keys_ix hr.1
  obtain ⟨v1, v2⟩ := oI_in h0 h1 (by rw [← hr.2.2.2]; have := aln_lt c0 k; omega)
  have hw := wS_at (ad := ad) (tc := tc) (σ := σ) hj
  rw [cel_az hr] at hw
  refine va_zald X.1 X.2.1 X.2.2.2.2.2.1 hP j 1 hw rfl v1 hd ?_
  rw [v2, Int.toNat_of_nonneg h0]
  exact kk H locs ls hP hS hl
theorem up_fun {c0 k : Nat} {pp i x : Int} (h0 : 0 ≤ i) : (fun j : Nat => oI (up σ c0 pp k i x c0 pp k (j : Int))) = upd (fun j : Nat => oI (σ c0 pp k (j : Int))) i.toNat (oI x) := by
  funext j
  simp only [up, upd]
  by_cases h : j = i.toNat
  · subst h
    have e : ((i.toNat : Nat) : Int) = i := Int.toNat_of_nonneg h0
    simp [e]
  · have e : ¬ ((j : Int) = i) := by omega
    simp [h, e]
theorem aw_iast (X : Cx p s m args c cc own nL D ad tc A) {c0 k n : Nat} {pp i x : Int} (hr : Arr c0 pp k n) (h0 : 0 ≤ i) (h1 : i < n) (hd : decode cc pc = .ok (.iastore, 1)) (kk : AW p l e R s m args below meth c D ad tc A cs sl Qm (pc + 1) als st (up σ c0 pp k i x)) : AW p l e R s m args below meth c D ad tc A cs sl Qm pc als (.int (oI x) :: .int (oI i) :: .ref (ad (c0, pp, k + 1)) :: st) σ := fun H locs ls hP hS hl => by
  obtain ⟨j, hj⟩ := keys_ix hr.1
  obtain ⟨v1, v2⟩ := oI_in h0 h1 (by rw [← hr.2.2.2]; have := aln_lt c0 k; omega)
  have hw := wS_at (ad := ad) (tc := tc) (σ := σ) hj
  rw [cel_ar hr] at hw
  refine va_iast X.1 X.2.1 X.2.2.2.2.2.1 hP (wS_D X.2.2.2.2.2.2.1 X.2.2.2.2.2.2.2.1) hS j 0 hw rfl v1 hd (fun H1 locs1 hP1 hD1 hS1 => ?_)
  refine kk H1 locs1 ls ?_ hS1 hl
  have e := wS_set (ad := ad) (tc := tc) (σ := σ) (σ' := up σ c0 pp k i x) hj (cel_arr (c := c0) (p := pp) (k := k) (by rw [hr.2.2.2]; omega) (fun c' p' k' i' g => by simp only [up]; rw [if_neg (fun z => g ⟨z.1, z.2.1, z.2.2.1⟩)]))
  rw [← e, cel_ar hr, up_fun h0, ← v2]
  exact hP1
theorem nar_z {x : Int} (h : x = 0 ∨ x = 1) : vp_nar .boolean (oI x) = oI x := by
  rcases h with h | h <;> subst h <;> decide +kernel
theorem aw_zast (X : Cx p s m args c cc own nL D ad tc A) {c0 k n : Nat} {pp i x : Int} (hr : ArrZ c0 pp k n) (h0 : 0 ≤ i) (h1 : i < n) (hz : x = 0 ∨ x = 1) (hd : decode cc pc = .ok (.bastore, 1)) (kk : AW p l e R s m args below meth c D ad tc A cs sl Qm (pc + 1) als st (up σ c0 pp k i x)) : AW p l e R s m args below meth c D ad tc A cs sl Qm pc als (.int (oI x) :: .int (oI i) :: .ref (ad (c0, pp, k + 1)) :: st) σ := fun H locs ls hP hS hl => by
  obtain ⟨j, hj⟩ := keys_ix hr.1
  obtain ⟨v1, v2⟩ := oI_in h0 h1 (by rw [← hr.2.2.2]; have := aln_lt c0 k; omega)
  have hw := wS_at (ad := ad) (tc := tc) (σ := σ) hj
  rw [cel_az hr] at hw
  refine va_zast X.1 X.2.1 X.2.2.2.2.2.1 hP (wS_D X.2.2.2.2.2.2.1 X.2.2.2.2.2.2.2.1) hS j 1 hw rfl v1 hd (fun H1 locs1 hP1 hD1 hS1 => ?_)
  refine kk H1 locs1 ls ?_ hS1 hl
  rw [nar_z hz] at hP1
  have e := wS_set (ad := ad) (tc := tc) (σ := σ) (σ' := up σ c0 pp k i x) hj (cel_arr (c := c0) (p := pp) (k := k) (by rw [hr.2.2.2]; omega) (fun c' p' k' i' g => by simp only [up]; rw [if_neg (fun z => g ⟨z.1, z.2.1, z.2.2.1⟩)]))
  rw [← e, cel_az hr, up_fun h0, ← v2]
  exact hP1
theorem pa_key : ((5, 0, 3) : Ky) ∈ keys := by decide +kernel
theorem aw_aald (X : Cx p s m args c cc own nL D ad tc A) {i : Int} (h0 : 0 ≤ i) (h1 : i < 4) (hd : decode cc pc = .ok (.aaload, 1)) (kk : AW p l e R s m args below meth c D ad tc A cs sl Qm (pc + 1) als (.ref (ad (3, i, 0)) :: st) σ) : AW p l e R s m args below meth c D ad tc A cs sl Qm pc als (.int (oI i) :: .ref (ad (5, 0, 3)) :: st) σ := fun H locs ls hP hS hl => by
  obtain ⟨j, hj⟩ := keys_ix pa_key
  obtain ⟨v1, v2⟩ := oI_in (n := 4) h0 h1 (by decide)
  have hw := wS_at (ad := ad) (tc := tc) (σ := σ) hj
  have ec : cel ad tc σ (5, 0, 3) = .inl (tc.2.2, 4, .inr (.inr (.inr (.inr (fun j => some (ad (3, (j : Int), 0))))))) := rfl
  rw [ec] at hw
  refine va_aldq (C := RX3) X.1 X.2.1 X.2.2.2.2.2.1 hP j 2 hw rfl v1 hd ?_
  rw [v2]
  show W p l e R s m args below meth c H locs cs sl Qm (F0 m (pc + 1) ls (.ref (ad (3, ((i.toNat : Nat) : Int), 0)) :: st))
  rw [Int.toNat_of_nonneg h0]
  exact kk H locs ls hP hS hl
theorem aw_alen (X : Cx p s m args c cc own nL D ad tc A) {c0 k n : Nat} {pp : Int} (hr : Arr c0 pp k n) (hd : decode cc pc = .ok (.arraylength, 1)) (kk : AW p l e R s m args below meth c D ad tc A cs sl Qm (pc + 1) als (.int (oI n) :: st) σ) : AW p l e R s m args below meth c D ad tc A cs sl Qm pc als (.ref (ad (c0, pp, k + 1)) :: st) σ := fun H locs ls hP hS hl => by
  obtain ⟨j, hj⟩ := keys_ix hr.1
  have hw := wS_at (ad := ad) (tc := tc) (σ := σ) hj
  rw [cel_ar hr] at hw
  exact va_alen X.1 X.2.1 X.2.2.2.2.2.1 hP j 0 hw rfl (v := oI n) (by show Int32.ofNat n = Int32.ofInt (n : Int); rw [Int32.ofInt_eq_ofNat]) hd (kk H locs ls hP hS hl)
/-- room left for calls -/
def RmOK (R : Room) (cs sl fr lo : Nat) : Prop := fr ≤ R.frames ∧ lo ≤ R.locals ∧ cs ≤ R.cells ∧ sl ≤ R.slots
def CpL (own : String) (index : Nat) : Prop := Cond.methodLink own index arraycopyName ∈ wsL_law
theorem cpN : Cond.native arraycopyName ∈ wsL_law ∧ Cond.static arraycopyName ∈ wsL_law ∧ Cond.initialized "java/lang/System" ∈ wsL_law := by decide +kernel
theorem aw_copy (X : Cx p s m args c cc own nL D ad tc A) {fr lo : Nat} (hR : RmOK R cs sl fr lo) {index c0 k c1 k1 n0 n1 : Nat} {p0 p1 n : Int} (hlk : CpL own index) (h0 : Arr c0 p0 k n0) (h1 : Arr c1 p1 k1 n1) (hn0 : 0 ≤ n) (hn1 : n ≤ n0) (hn2 : n ≤ n1) (hfr : 1 ≤ fr) (hlo : (st.map fun v => v.category).sum + (nativeFrameWords "java/lang/System" "arraycopy" 5 + 11) ≤ lo) (hnl : als.length = nL) (hd : decode cc pc = .ok (.invokestatic index, 3)) (kk : AW p l e R s m args below meth c D ad tc A cs sl Qm (pc + 3) als st (cp σ c0 p0 k c1 p1 k1 n)) : AW p l e R s m args below meth c D ad tc A cs sl Qm pc als (.int (oI n) :: .int (oI 0) :: .ref (ad (c1, p1, k1 + 1)) :: .int (oI 0) :: .ref (ad (c0, p0, k + 1)) :: st) σ := fun H locs ls hP hS hl => by
  obtain ⟨j, hj⟩ := keys_ix h0.1
  obtain ⟨j1, hj1⟩ := keys_ix h1.1
  have hw := wS_at (ad := ad) (tc := tc) (σ := σ) hj
  rw [cel_ar h0] at hw
  have hw1 := wS_at (ad := ad) (tc := tc) (σ := σ) hj1
  rw [cel_ar h1] at hw1
  have a0 := aln_lt c0 k
  have a1 := aln_lt c1 k1
  rw [h0.2.2.2] at a0
  rw [h1.2.2.2] at a1
  have hrn : InR n := ⟨by omega, by omega⟩
  have z0 : (oI 0).toNatClampNeg = 0 := by decide +kernel
  have zn : (oI n).toNatClampNeg = n.toNat := by show (oI n).toInt.toNat = n.toNat; rw [oI_toInt hrn]
  refine va_copyi (ty := .int) X.1 X.2.1 (X.2.2.1.trans (hnl.symm.trans hl.1.symm)) X.2.2.2.1 (X.2.2.2.2.1 _ hlk) (X.2.2.2.2.1 _ cpN.1) (X.2.2.2.2.1 _ cpN.2.1) (X.2.2.2.2.1 _ cpN.2.2) X.2.2.2.2.2.1 hP (wS_D X.2.2.2.2.2.2.1 X.2.2.2.2.2.2.2.1) hS j j1 0 0 hw hw1 rfl rfl rfl (by decide +kernel) (by decide +kernel) (by rw [← oI_0, oI_lt hrn InR_0]; omega) (by rw [z0, zn]; omega) (by rw [z0, zn]; omega) (fun _ _ => rfl) (Nat.le_trans hfr hR.1) (Nat.le_trans hlo hR.2.1) hd (fun H1 locs1 hP1 hD1 hS1 => ?_)
  refine kk H1 locs1 ls ?_ hS1 hl
  by_cases hz : n = 0
  · subst hz
    rw [z0] at hP1
    have ef : cp σ c0 p0 k c1 p1 k1 0 = σ := by
      funext c' p' k' i'
      simp only [cp]
      rw [if_neg (by omega)]
    rw [ef]
    have eg : (va_cpy (fun j : Nat => oI (σ c0 p0 k (j : Int))) (fun j : Nat => oI (σ c1 p1 k1 (j : Int))) 0 0 0) = (fun j : Nat => oI (σ c1 p1 k1 (j : Int))) := by
      funext j
      simp only [va_cpy]
      rw [if_neg (by simp)]
    rw [eg] at hP1
    have e := wS_set (ad := ad) (tc := tc) (σ := σ) (σ' := σ) hj1 (fun _ _ _ => rfl)
    rw [← e, cel_ar h1]
    exact hP1
  · have e := wS_set (ad := ad) (tc := tc) (σ := σ) (σ' := cp σ c0 p0 k c1 p1 k1 n) hj1 (cel_arr (c := c1) (p := p1) (k := k1) (by rw [h1.2.2.2]; omega) (fun c' p' k' i' g => by simp only [cp]; rw [if_neg (fun z => g ⟨z.1, z.2.1, z.2.2.1⟩)]))
    rw [zn, z0] at hP1
    have eg : (fun j : Nat => oI (cp σ c0 p0 k c1 p1 k1 n c1 p1 k1 (j : Int))) = (va_cpy (fun j : Nat => oI (σ c0 p0 k (j : Int))) (fun j : Nat => oI (σ c1 p1 k1 (j : Int))) 0 0 n.toNat) := by
      funext j
      simp only [cp, va_cpy]
      by_cases hjn : (j : Int) < n
      · rw [if_pos ⟨trivial, trivial, trivial, by omega, hjn⟩, if_pos (by omega)]
        congr 2
        omega
      · rw [if_neg (by omega), if_neg (by omega)]
    rw [← e, cel_ar h1, eg]
    exact hP1
end RU

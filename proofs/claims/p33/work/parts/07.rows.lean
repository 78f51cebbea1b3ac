/-! contracts over the one world, and the rows of a walk in it -/
def wsM (y : MethodName) (cc : ByteArray) (n : Nat) (ret : Option FieldType) : List Cond := .code y cc n ret :: BIG
def Rm (fr lo : Nat) : Room := { frames := fr, cells := 0, slots := 0, locals := lo }
def PW (E : En) : Wd → State → Prop := fun w t => va_P E.1 vwCl (wsE E w) t.heap
def PR (E : En) (Post : Nat → Wd → Prop) : Wd → Nat → State → Prop := fun w a t => ∃ k : Nat, k < 6 ∧ a = eA E (41 + 2 * k) ∧ Post k w ∧ PW E w t
def Pr (E : En) (w : Wd) (av : List Value) (sz : Nat) : Array Value → State → Prop := va_Pc av (fun U => U.heap.size = sz ∧ va_P E.1 vwCl (wsE E w) U.heap ∧ va_K E.1 vwCl (tysE E) U ∧ EE E (AA E sz) U U.heap)
def MG (l : Launch) (E : En) (y : MethodName) (cc : ByteArray) (n : Nat) (ret : Option FieldType) (fr lo : Nat) (av : List Value) (w : Wd) (Qx : Nat → Array Value → State → Outcome → State → Prop) : Prop :=
  ∀ sz : Nat, Met l y (wsM y cc n ret) (Rm fr lo) (Pr E w av sz) (Qx sz) 0 0 (AA E sz)
abbrev MI (l : Launch) (E : En) (y : MethodName) (cc : ByteArray) (n : Nat) (ret : Option FieldType) (fr lo : Nat) (av : List Value) (w : Wd) (Post : Int32 → Wd → Prop) : Prop := MG l E y cc n ret fr lo av w (fun sz => va_Qi Post (PW E) (AA E sz))
abbrev MV (l : Launch) (E : En) (y : MethodName) (cc : ByteArray) (n : Nat) (ret : Option FieldType) (fr lo : Nat) (av : List Value) (w : Wd) (Post : Wd → Prop) : Prop := MG l E y cc n ret fr lo av w (fun sz => va_Qv Post (PW E) (AA E sz))
abbrev MD (l : Launch) (E : En) (y : MethodName) (cc : ByteArray) (n : Nat) (ret : Option FieldType) (fr lo : Nat) (av : List Value) (w : Wd) (Post : UInt64 → Wd → Prop) : Prop := MG l E y cc n ret fr lo av w (fun sz => va_Qd Post (PW E) (AA E sz))
abbrev MR (l : Launch) (E : En) (y : MethodName) (cc : ByteArray) (n : Nat) (ret : Option FieldType) (fr lo : Nat) (av : List Value) (w : Wd) (Post : Nat → Wd → Prop) : Prop := MG l E y cc n ret fr lo av w (fun sz => va_Qr (fun _ : Wd => True) (PR E Post) (AA E sz))
/-- what holds all through a method -/
def Cx (E : En) (p : Program) (s : State) (m : MethodId) (args : Array Value) (c : Code) (cc : ByteArray) (nL : Nat) (own : String) : Prop :=
  p.tables.exec = Jvm.exec ∧ c.code = cc ∧ c.maxLocals = nL ∧ s.vm.findClass own = some m.cls ∧ (∀ w ∈ BIG, w.before args s = true) ∧ va_K E.1 vwCl (tysE E) s ∧ EE E (AA E s.heap.size) s s.heap ∧ Inj E
/-- the world now -/
def Wo (E : En) (s : State) (w : Wd) (H : Heap) (locs : List Loc) : Prop := va_P E.1 vwCl (wsE E w) H ∧ va_S (AA E s.heap.size) s.heap H locs
theorem Pr_blind (E : En) (w : Wd) (av : List Value) (sz : Nat) : FrameBlind (Pr E w av sz) := by
  intro a U g mk q
  obtain ⟨q0, q1, qP, qK, qE⟩ := q
  exact ⟨q0, q1, qP, va_K.moved (u := U) (U := U.calling g mk a) (Vm.Alike.refl U.vm) qK, qE.calling⟩
theorem MG.intro {l : Launch} {E : En} {y : MethodName} {cc : ByteArray} {n : Nat} {ret : Option FieldType} {fr lo : Nat} {av : List Value} {w : Wd} {Qx : Nat → Array Value → State → Outcome → State → Prop} (hI : Inj E) (hy : plainName y.cls = true) (hen : (lg_sl av).length ≤ n)
    (body : ∀ (p : Program) (e : Env) (s : State) (m : MethodId) (args : Array Value) (below : List Frame) (meth : Method) (c : Code) (Q : State → Prop), Cx E p s m args c cc n y.cls → meth.sig.returnType = ret → meth.locks = false → Q = MQ below (Qx s.heap.size) args s 0 0 (AA E s.heap.size) → Wo E s w s.heap [] → ∀ ls : Array Slot, lv_has ls n (lv_args 0 av) → W p l e (Rm fr lo) s m args below meth c s.heap [] 0 0 Q (F0 m 0 ls [])) : MG l E y cc n ret fr lo av w Qx := by
  intro sz
  refine Met.ofW (cc := cc) (maxL := n) (ret := ret) hy rfl ?_
  intro p e s m args below meth c s₁ B hml hv
  obtain ⟨rfl, hsz, hP, hK, hE⟩ := hv
  subst hsz
  have hts := atoms_spec (ws := wsM y cc n ret) B.pre
  have hl := lv_entry av (n := n) hen
  rw [lg_entry_eq]
  generalize (lg_sl av ++ List.replicate (n - (lg_sl av).length) Slot.unset).toArray = ls at hl ⊢
  exact body p e s m _ below meth c _ ⟨B.exec, B.bytes, hml, findClass_of_methodNamed B.named, fun w h => hts w (List.mem_cons_of_mem _ h), hK, hE, hI⟩ B.returns B.notSynchronized rfl ⟨hP, va_S.rf⟩ ls hl
/-- at a place that is come to more than once -/
def Jp (E : En) (p : Program) (l : Launch) (e : Env) (R : Room) (s : State) (m : MethodId) (args : Array Value) (below : List Frame) (meth : Method) (c : Code) (Q : State → Prop) (nL pc : Nat) (L : List (Nat × Value)) (w : Wd) : Prop :=
  ∀ (H : Heap) (locs : List Loc), Wo E s w H locs → ∀ ls : Array Slot, lv_has ls nL L → W p l e R s m args below meth c H locs 0 0 Q (F0 m pc ls [])
section ROWS
variable {E : En} {p : Program} {l : Launch} {e : Env} {R : Room} {s : State} {m : MethodId} {args : Array Value} {below : List Frame} {meth : Method} {c : Code} {H : Heap} {locs : List Loc} {cells slots : Nat} {Q : State → Prop} {cc : ByteArray} {nL pc : Nat} {own : String} {ls : Array Slot} {rest st0 : List Value} {w : Wd}
theorem ret_i {v : Int32} {Post : Int32 → Wd → Prop} (C : Cx E p s m args c cc nL own) (hr : meth.sig.returnType = some .int) (hk : meth.locks = false) (hw : Wo E s w H locs) (hp : Post v w) (hd : decode cc pc = .ok (.ireturn, 1)) : W p l e R s m args below meth c H locs cells slots (MQ below (va_Qi Post (PW E) (AA E s.heap.size)) args s cells slots (AA E s.heap.size)) (F0 m pc ls [.int v]) :=
  W.iret C.1 C.2.1 hr (fun t ht hW => ⟨⟨v, w, rfl, hp, show va_P _ _ _ t.heap from ht ▸ hw.1⟩, hw.2.F ht⟩) hw.2.2.2 hd hk
theorem ret_z {v : Int32} {Post : Int32 → Wd → Prop} (C : Cx E p s m args c cc nL own) (hr : meth.sig.returnType = some .boolean) (hk : meth.locks = false) (hw : Wo E s w H locs) (hp : Post v w) (hn : v = 0 ∨ v = 1) (hd : decode cc pc = .ok (.ireturn, 1)) : W p l e R s m args below meth c H locs cells slots (MQ below (va_Qi Post (PW E) (AA E s.heap.size)) args s cells slots (AA E s.heap.size)) (F0 m pc ls [.int v]) :=
  W.zret C.1 C.2.1 hr (by rcases hn with rfl | rfl <;> rfl) (fun t ht hW => ⟨⟨v, w, rfl, hp, show va_P _ _ _ t.heap from ht ▸ hw.1⟩, hw.2.F ht⟩) hw.2.2.2 hd hk
theorem ret_v {Post : Wd → Prop} (C : Cx E p s m args c cc nL own) (hr : meth.sig.returnType = none) (hk : meth.locks = false) (hw : Wo E s w H locs) (hp : Post w) (hd : decode cc pc = .ok (.return_, 1)) : W p l e R s m args below meth c H locs cells slots (MQ below (va_Qv Post (PW E) (AA E s.heap.size)) args s cells slots (AA E s.heap.size)) (F0 m pc ls []) :=
  W.vret C.1 C.2.1 hr (fun t ht hW => ⟨⟨w, rfl, hp, show va_P _ _ _ t.heap from ht ▸ hw.1⟩, hw.2.F ht⟩) hw.2.2.2 hd hk
theorem ret_a {k : Nat} {Post : Nat → Wd → Prop} {nm : String} (C : Cx E p s m args c cc nL own) (hr : meth.sig.returnType = some (.object nm)) (hk : meth.locks = false) (hw : Wo E s w H locs) (hp : Post k w) (h6 : k < 6) (hd : decode cc pc = .ok (.areturn, 1)) : W p l e R s m args below meth c H locs cells slots (MQ below (va_Qr (fun _ : Wd => True) (PR E Post) (AA E s.heap.size)) args s cells slots (AA E s.heap.size)) (F0 m pc ls [.ref (eA E (41 + 2 * k))]) :=
  W.aret C.1 C.2.1 hr (Or.inl ⟨_, rfl⟩) (Or.inr ⟨_, rfl⟩) (fun t ht hW => ⟨⟨w, _, rfl, trivial, k, h6, rfl, hp, show va_P _ _ _ t.heap from ht ▸ hw.1⟩, hw.2.F ht⟩) hw.2.2.2 hd hk
theorem ret_d {v : UInt64} {Post : UInt64 → Wd → Prop} (C : Cx E p s m args c cc nL own) (hr : meth.sig.returnType = some .double) (hk : meth.locks = false) (hw : Wo E s w H locs) (hp : Post v w) (hd : decode cc pc = .ok (.dreturn, 1)) : W p l e R s m args below meth c H locs cells slots (MQ below (va_Qd Post (PW E) (AA E s.heap.size)) args s cells slots (AA E s.heap.size)) (F0 m pc ls [.double v]) :=
  W.dret C.1 C.2.1 hr (fun t ht hW => ⟨⟨v, w, rfl, hp, show va_P _ _ _ t.heap from ht ▸ hw.1⟩, hw.2.F ht⟩) hw.2.2.2 hd hk
theorem r_get (C : Cx E p s m args c cc nL own) (hw : Wo E s w H locs) (o ci k : Nat) {N index : Nat} {T : u_T} {Cn : String} {fs : List Value} {v : Value} (ho : o ∈ eL E) (hce : ce E w o = .inr (ci, fs)) (hcl : vwCl[ci]? = some (Cn, T, N)) (hin : ∀ x ∈ u_ws Cn T N, x ∈ BIG) (hk : k < N)
    (hl : Cond.fieldLink own index (T k).1 (T k).2.1 (T k).2.2.1 ∈ BIG) (hv : fs[k]? = some v) (hd : decode cc pc = .ok (.getfield index, 3))
    (kk : W p l e R s m args below meth c H locs cells slots Q (F0 m (pc + 3) ls (v :: rest))) : W p l e R s m args below meth c H locs cells slots Q (F0 m pc ls (.ref (eA E o) :: rest)) := by
  obtain ⟨k0, hk0⟩ := List.getElem?_of_mem ho
  exact va_get (D := E.1) (ws := wsE E w) C.1 C.2.1 C.2.2.2.2.1 hin C.2.2.2.1 C.2.2.2.2.2.1 hw.1 k0 (by rw [ws_i hk0, hce]) hcl k hk (C.2.2.2.2.1 _ hl) (fun _ h => h) hv hd kk
theorem r_put (C : Cx E p s m args c cc nL own) (hw : Wo E s w H locs) (o ci k : Nat) {N index : Nat} {T : u_T} {Cn : String} {fs : List Value} {x : Int32} (ty0 : Nat → FieldType) (hty : ∀ k, k < N → parseFieldDescriptor (T k).2.2.1 = some (ty0 k)) (hnm : ∀ a, a < N → ∀ b, b < N → a ≠ b → (T a).2.1 ≠ (T b).2.1) (ho : o ∈ eL E) (hce : ce E w o = .inr (ci, fs)) (hcl : vwCl[ci]? = some (Cn, T, N)) (hin : ∀ x ∈ u_ws Cn T N, x ∈ BIG) (hk : k < N)
    (hl : Cond.fieldLink own index (T k).1 (T k).2.1 (T k).2.2.1 ∈ BIG) (hfin : (T k).2.2.2 = false) {ty : FieldType} (htk : parseFieldDescriptor (T k).2.2.1 = some ty) (hn : narrow ty (.int x) = .int x) (hfit : fits ty (.int x) = true) (hlen : k < fs.length) (hce2 : ce E (sI w o k x) o = .inr (ci, fs.set k (.int x))) (hd : decode cc pc = .ok (.putfield index, 3))
    (kk : ∀ (H1 : Heap) (locs1 : List Loc), Wo E s (sI w o k x) H1 locs1 → W p l e R s m args below meth c H1 locs1 cells slots Q (F0 m (pc + 3) ls rest)) : W p l e R s m args below meth c H locs cells slots Q (F0 m pc ls (.int x :: .ref (eA E o) :: rest)) := by
  obtain ⟨k0, hk0⟩ := List.getElem?_of_mem ho
  exact va_put (D := E.1) (ws := wsE E w) (A := AA E s.heap.size) C.1 C.2.1 C.2.2.2.2.1 hin ty0 hty hnm C.2.2.2.1 C.2.2.2.2.2.1 hw.1 (ws_D C.2.2.2.2.2.2.2) hw.2 k0 (by rw [ws_i hk0, hce]) hcl k hk (C.2.2.2.2.1 _ hl) (fun _ h => h) hfin htk hn hfit hlen hd
    (fun H1 locs1 hP hD hS => kk H1 locs1 ⟨by rw [← ws_set C.2.2.2.2.2.2.2 hk0 hce2 (fun j hj => ce_sI hj)]; exact hP, hS⟩)
theorem r_putL (C : Cx E p s m args c cc nL own) (hw : Wo E s w H locs) (o ci k : Nat) {N index : Nat} {T : u_T} {Cn : String} {fs : List Value} {x : Int64} (ty0 : Nat → FieldType) (hty : ∀ k, k < N → parseFieldDescriptor (T k).2.2.1 = some (ty0 k)) (hnm : ∀ a, a < N → ∀ b, b < N → a ≠ b → (T a).2.1 ≠ (T b).2.1) (ho : o ∈ eL E) (hce : ce E w o = .inr (ci, fs)) (hcl : vwCl[ci]? = some (Cn, T, N)) (hin : ∀ x ∈ u_ws Cn T N, x ∈ BIG) (hk : k < N)
    (hl : Cond.fieldLink own index (T k).1 (T k).2.1 (T k).2.2.1 ∈ BIG) (hfin : (T k).2.2.2 = false) {ty : FieldType} (htk : parseFieldDescriptor (T k).2.2.1 = some ty) (hn : narrow ty (.long x) = .long x) (hfit : fits ty (.long x) = true) (hlen : k < fs.length) (hce2 : ce E (sL w o k x) o = .inr (ci, fs.set k (.long x))) (hd : decode cc pc = .ok (.putfield index, 3))
    (kk : ∀ (H1 : Heap) (locs1 : List Loc), Wo E s (sL w o k x) H1 locs1 → W p l e R s m args below meth c H1 locs1 cells slots Q (F0 m (pc + 3) ls rest)) : W p l e R s m args below meth c H locs cells slots Q (F0 m pc ls (.long x :: .ref (eA E o) :: rest)) := by
  obtain ⟨k0, hk0⟩ := List.getElem?_of_mem ho
  exact va_put (D := E.1) (ws := wsE E w) (A := AA E s.heap.size) C.1 C.2.1 C.2.2.2.2.1 hin ty0 hty hnm C.2.2.2.1 C.2.2.2.2.2.1 hw.1 (ws_D C.2.2.2.2.2.2.2) hw.2 k0 (by rw [ws_i hk0, hce]) hcl k hk (C.2.2.2.2.1 _ hl) (fun _ h => h) hfin htk hn hfit hlen hd
    (fun H1 locs1 hP hD hS => kk H1 locs1 ⟨by rw [← ws_set C.2.2.2.2.2.2.2 hk0 hce2 (fun j hj => ce_sL hj)]; exact hP, hS⟩)
theorem r_iald (C : Cx E p s m args c cc nL own) (hw : Wo E s w H locs) (o n : Nat) (ho : o ∈ eL E) (hce : ce E w o = .inl (eC E 0, n, .inl (w.2.1 o))) {i : Int32} (hi : vp_in i n) (hd : decode cc pc = .ok (.iaload, 1))
    (kk : W p l e R s m args below meth c H locs cells slots Q (F0 m (pc + 1) ls (.int (gA w o i.toNatClampNeg) :: rest))) : W p l e R s m args below meth c H locs cells slots Q (F0 m pc ls (.int i :: .ref (eA E o) :: rest)) := by
  obtain ⟨k0, hk0⟩ := List.getElem?_of_mem ho
  exact va_iald (D := E.1) (ws := wsE E w) C.1 C.2.1 C.2.2.2.2.2.1 hw.1 k0 0 (by rw [ws_i hk0, hce]; rfl) rfl hi hd kk
theorem r_bald (C : Cx E p s m args c cc nL own) (hw : Wo E s w H locs) (o n : Nat) (ho : o ∈ eL E) (hce : ce E w o = .inl (eC E 1, n, .inl (w.2.1 o))) {i : Int32} (hi : vp_in i n) (hd : decode cc pc = .ok (.baload, 1))
    (kk : W p l e R s m args below meth c H locs cells slots Q (F0 m (pc + 1) ls (.int (gA w o i.toNatClampNeg) :: rest))) : W p l e R s m args below meth c H locs cells slots Q (F0 m pc ls (.int i :: .ref (eA E o) :: rest)) := by
  obtain ⟨k0, hk0⟩ := List.getElem?_of_mem ho
  exact va_bald (D := E.1) (ws := wsE E w) C.1 C.2.1 C.2.2.2.2.2.1 hw.1 k0 1 (by rw [ws_i hk0, hce]; rfl) rfl hi hd kk
theorem r_zald (C : Cx E p s m args c cc nL own) (hw : Wo E s w H locs) (o n : Nat) (ho : o ∈ eL E) (hce : ce E w o = .inl (eC E 2, n, .inl (w.2.1 o))) {i : Int32} (hi : vp_in i n) (hd : decode cc pc = .ok (.baload, 1))
    (kk : W p l e R s m args below meth c H locs cells slots Q (F0 m (pc + 1) ls (.int (gA w o i.toNatClampNeg) :: rest))) : W p l e R s m args below meth c H locs cells slots Q (F0 m pc ls (.int i :: .ref (eA E o) :: rest)) := by
  obtain ⟨k0, hk0⟩ := List.getElem?_of_mem ho
  exact va_zald (D := E.1) (ws := wsE E w) C.1 C.2.1 C.2.2.2.2.2.1 hw.1 k0 2 (by rw [ws_i hk0, hce]; rfl) rfl hi hd kk
theorem ws_sF {o k : Nat} {f : Nat → Int32} {x : va_E} (hI : Inj E) (ho : (eL E)[k]? = some o) (hce2 : ce E (sF w o f) o = x) : (wsE E w).set k (eA E o, x) = wsE E (sF w o f) := ws_set hI ho hce2 (fun _ hj => ce_sF hj)
theorem r_iast (C : Cx E p s m args c cc nL own) (hw : Wo E s w H locs) (o n : Nat) (ho : o ∈ eL E) (hce : ∀ w, ce E w o = .inl (eC E 0, n, .inl (w.2.1 o))) {i x : Int32} (hi : vp_in i n) (hd : decode cc pc = .ok (.iastore, 1))
    (kk : ∀ (H1 : Heap) (locs1 : List Loc), Wo E s (sA w o i.toNatClampNeg x) H1 locs1 → W p l e R s m args below meth c H1 locs1 cells slots Q (F0 m (pc + 1) ls rest)) : W p l e R s m args below meth c H locs cells slots Q (F0 m pc ls (.int x :: .int i :: .ref (eA E o) :: rest)) := by
  obtain ⟨k0, hk0⟩ := List.getElem?_of_mem ho
  exact va_iast (D := E.1) (ws := wsE E w) (A := AA E s.heap.size) C.1 C.2.1 C.2.2.2.2.2.1 hw.1 (ws_D C.2.2.2.2.2.2.2) hw.2 k0 0 (by rw [ws_i hk0, hce]) rfl hi hd
    (fun H1 locs1 hP hD hS => kk H1 locs1 ⟨by unfold sA; rw [← ws_sF C.2.2.2.2.2.2.2 hk0 (by rw [hce, A_self])]; exact hP, hS⟩)
theorem r_bast (C : Cx E p s m args c cc nL own) (hw : Wo E s w H locs) (o n : Nat) (ho : o ∈ eL E) (hce : ∀ w, ce E w o = .inl (eC E 1, n, .inl (w.2.1 o))) {i x : Int32} (hi : vp_in i n) (hd : decode cc pc = .ok (.bastore, 1))
    (kk : ∀ (H1 : Heap) (locs1 : List Loc), Wo E s (sA w o i.toNatClampNeg (vp_nar .byte x)) H1 locs1 → W p l e R s m args below meth c H1 locs1 cells slots Q (F0 m (pc + 1) ls rest)) : W p l e R s m args below meth c H locs cells slots Q (F0 m pc ls (.int x :: .int i :: .ref (eA E o) :: rest)) := by
  obtain ⟨k0, hk0⟩ := List.getElem?_of_mem ho
  exact va_bast (D := E.1) (ws := wsE E w) (A := AA E s.heap.size) C.1 C.2.1 C.2.2.2.2.2.1 hw.1 (ws_D C.2.2.2.2.2.2.2) hw.2 k0 1 (by rw [ws_i hk0, hce]) rfl hi hd
    (fun H1 locs1 hP hD hS => kk H1 locs1 ⟨by unfold sA; rw [← ws_sF C.2.2.2.2.2.2.2 hk0 (by rw [hce, A_self])]; exact hP, hS⟩)
theorem r_zast (C : Cx E p s m args c cc nL own) (hw : Wo E s w H locs) (o n : Nat) (ho : o ∈ eL E) (hce : ∀ w, ce E w o = .inl (eC E 2, n, .inl (w.2.1 o))) {i x : Int32} (hi : vp_in i n) (hd : decode cc pc = .ok (.bastore, 1))
    (kk : ∀ (H1 : Heap) (locs1 : List Loc), Wo E s (sA w o i.toNatClampNeg (vp_nar .boolean x)) H1 locs1 → W p l e R s m args below meth c H1 locs1 cells slots Q (F0 m (pc + 1) ls rest)) : W p l e R s m args below meth c H locs cells slots Q (F0 m pc ls (.int x :: .int i :: .ref (eA E o) :: rest)) := by
  obtain ⟨k0, hk0⟩ := List.getElem?_of_mem ho
  exact va_zast (D := E.1) (ws := wsE E w) (A := AA E s.heap.size) C.1 C.2.1 C.2.2.2.2.2.1 hw.1 (ws_D C.2.2.2.2.2.2.2) hw.2 k0 2 (by rw [ws_i hk0, hce]) rfl hi hd
    (fun H1 locs1 hP hD hS => kk H1 locs1 ⟨by unfold sA; rw [← ws_sF C.2.2.2.2.2.2.2 hk0 (by rw [hce, A_self])]; exact hP, hS⟩)
theorem r_alen (C : Cx E p s m args c cc nL own) (hw : Wo E s w H locs) (o t0 : Nat) (ho : o ∈ eL E) {cA : ClassId} {x : vp_A} (hce : ce E w o = .inl (cA, x)) {ty : FieldType} (ht : (tysE E)[t0]? = some (cA, ty)) {v : Int32} (hv : Int32.ofNat x.1 = v) (hd : decode cc pc = .ok (.arraylength, 1))
    (kk : W p l e R s m args below meth c H locs cells slots Q (F0 m (pc + 1) ls (.int v :: rest))) : W p l e R s m args below meth c H locs cells slots Q (F0 m pc ls (.ref (eA E o) :: rest)) := by
  obtain ⟨k0, hk0⟩ := List.getElem?_of_mem ho
  exact va_alen (D := E.1) (ws := wsE E w) C.1 C.2.1 C.2.2.2.2.2.1 hw.1 k0 t0 (by rw [ws_i hk0, hce]) ht hv hd kk
theorem r_aald (C : Cx E p s m args c cc nL own) (hw : Wo E s w H locs) (o t0 n : Nat) (ho : o ∈ eL E) {cA : ClassId} {nm : String} {f : Nat → Option Nat} (hce : ce E w o = .inl (cA, n, .inr (.inr (.inr (.inr f))))) (ht : (tysE E)[t0]? = some (cA, .object nm)) {i : Int32} {a : Nat} (hi : vp_in i n) (hf : f i.toNatClampNeg = some a) (hd : decode cc pc = .ok (.aaload, 1))
    (kk : W p l e R s m args below meth c H locs cells slots Q (F0 m (pc + 1) ls (.ref a :: rest))) : W p l e R s m args below meth c H locs cells slots Q (F0 m pc ls (.int i :: .ref (eA E o) :: rest)) := by
  obtain ⟨k0, hk0⟩ := List.getElem?_of_mem ho
  exact va_aldq (D := E.1) (ws := wsE E w) C.1 C.2.1 C.2.2.2.2.2.1 hw.1 k0 t0 (by rw [ws_i hk0, hce]) ht hi hd (by rw [hf]; exact kk)
/-- a callee's words, room and links -/
theorem my_CallB {y : MethodName} {bytes : ByteArray} {mL index fr lo n : Nat} {ret : Option FieldType} (C : Cx E p s m args c cc nL own) (g1 : Cond.methodLink own index y ∈ BIG) (g4 : Cond.initialized y.cls ∈ BIG) (g5 : Cond.code y bytes mL ret ∈ BIG)
    (hy : y.cls ≠ "java/lang/invoke/MethodHandle" ∧ y.cls ≠ "java/lang/invoke/VarHandle" ∧ (parseMethodDescriptor y.desc).map (fun d => d.parameters.length) = some n) (hR : fr + 1 ≤ R.frames ∧ 8 + (mL + 11) + lo ≤ R.locals) : CallB R s args own index y bytes mL ret (wsM y bytes mL ret) (Rm fr lo) 0 0 n := by
  have hts := C.2.2.2.2.1
  refine ⟨rfl, rfl, hR.1, hR.2, fun x hx a' U hW => ?_, List.mem_cons_self, hts _ g5, hts _ g4, ⟨hy.1, hy.2.1⟩, fun sig h => ?_, hts _ g1⟩
  · rcases List.mem_cons.mp hx with rfl | h
    · exact word_at hW (big_good g5) (hts _ g5)
    · exact word_at hW (big_good h) (hts _ h)
  · have h2 := hy.2.2
    rw [h] at h2
    exact (Option.some.inj h2).symm
theorem my_CN {y : MethodName} {bytes : ByteArray} {mL index fr lo n : Nat} {ret : Option FieldType} {host : String} (C : Cx E p s m args c cc nL own) (g1 : Cond.methodLinkNest own index y host ∈ nestW) (g4 : Cond.initialized y.cls ∈ BIG) (g5 : Cond.code y bytes mL ret ∈ BIG)
    (hy : y.cls ≠ "java/lang/invoke/MethodHandle" ∧ y.cls ≠ "java/lang/invoke/VarHandle" ∧ (parseMethodDescriptor y.desc).map (fun d => d.parameters.length) = some n) (hR : fr + 1 ≤ R.frames ∧ 8 + (mL + 11) + lo ≤ R.locals) : va_CN R s args own index y host bytes mL ret (wsM y bytes mL ret) (Rm fr lo) 0 0 n := by
  have hts := C.2.2.2.2.1
  refine ⟨⟨rfl, rfl, hR.1, hR.2, fun x hx a' U hW => ?_, List.mem_cons_self⟩, hts _ g5, hts _ g4, ⟨hy.1, hy.2.1⟩, fun sig h => ?_, va_Nw.use rfl (C.2.2.2.2.2.2.1.1 _ g1)⟩
  · rcases List.mem_cons.mp hx with rfl | h
    · exact word_at hW (big_good g5) (hts _ g5)
    · exact word_at hW (big_good h) (hts _ h)
  · have h2 := hy.2.2
    rw [h] at h2
    exact (Option.some.inj h2).symm
theorem my_pre (C : Cx E p s m args c cc nL own) (hw : Wo E s w H locs) (av : List Value) : ∀ U : State, U.heap = H → s.WarmedH U.vm → Pr E w av H.size av.toArray U := by
  intro U hU hW
  refine ⟨rfl, by rw [hU], by rw [hU]; exact hw.1, va_K.moved hW.alike C.2.2.2.2.2.1, ?_⟩
  rw [hU]
  exact C.2.2.2.2.2.2.1.go hW hw.2.2.1 (AA_mono hw.2.1)
theorem my_recv {o ci : Nat} {Cn : String} {T : u_T} {N : Nat} {fs : List Value} (C : Cx E p s m args c cc nL own) (hw : Wo E s w H locs) (ho : o ∈ eL E) (hce : ce E w o = .inr (ci, fs)) (hcl : vwCl[ci]? = some (Cn, T, N)) : ∃ cell : Cell, H[eA E o]? = some cell ∧ cell.vm.isStatics = false ∧ s.vm.findClass Cn = some cell.cls := by
  obtain ⟨k0, hk0⟩ := List.getElem?_of_mem ho
  exact va_recv (q := (Cn, T, N)) C.2.2.2.2.2.1 hw.1 hcl (by rw [ws_i hk0, hce])
theorem my_runV {y : MethodName} {bytes : ByteArray} {mL index fr lo : Nat} {ret : Option FieldType} {As : List Value} {Cn : String} {T : u_T} {N : Nat} {fs : List Value} {Qx : Nat → Array Value → State → Outcome → State → Prop} (C : Cx E p s m args c cc nL own) (hw : Wo E s w H locs) (o ci : Nat) (ho : o ∈ eL E) (hce : ce E w o = .inr (ci, fs)) (hcl : vwCl[ci]? = some (Cn, T, N))
    (hM : MG l E y bytes mL ret fr lo (.ref (eA E o) :: As) w Qx) (g1 : Cond.methodLink own index y ∈ BIG) (g2 : Cond.instanceMethod y ∈ BIG) (g3 : Cond.selects Cn y y ∈ BIG) (g4 : Cond.initialized y.cls ∈ BIG) (g5 : Cond.code y bytes mL ret ∈ BIG)
    (hy : y.cls ≠ "java/lang/invoke/MethodHandle" ∧ y.cls ≠ "java/lang/invoke/VarHandle" ∧ (parseMethodDescriptor y.desc).map (fun d => d.parameters.length) = some As.length) (hR : fr + 1 ≤ R.frames ∧ 8 + (mL + 11) + lo ≤ R.locals) (hsz : ls.size = nL) (hst : st0 = As.reverse ++ .ref (eA E o) :: rest) (hc : (rest.map fun v => v.category).sum ≤ 8)
    (hd : decode cc pc = .ok (.invokevirtual index, 3)) (hf : cells ≤ R.cells ∧ slots ≤ R.slots) : va_Run p l e R s m args below meth c H locs cells slots 0 0 (F0 m pc ls st0) rest (Qx H.size (Value.ref (eA E o) :: As).toArray) (AA E H.size) := by
  obtain ⟨k0, hk0⟩ := List.getElem?_of_mem ho
  exact va_runV (As := As) (rest := rest) (C := Cn) (b := eA E o) ⟨C.1, C.2.1, C.2.2.1, C.2.2.2.1, C.2.2.2.2.1⟩ (hM H.size) ⟨my_CallB C g1 g4 g5 hy hR, C.2.2.2.2.1 _ g2, C.2.2.2.2.1 _ g3⟩
    ⟨Pr_blind _ _ _ _, my_recv C hw ho hce hcl, my_pre C hw _⟩ rfl rfl hsz hst (lv_room hc) hd hf
theorem my_runS {y : MethodName} {bytes : ByteArray} {mL index fr lo : Nat} {ret : Option FieldType} {As : List Value} {Qx : Nat → Array Value → State → Outcome → State → Prop} (C : Cx E p s m args c cc nL own) (hw : Wo E s w H locs)
    (hM : MG l E y bytes mL ret fr lo As w Qx) (g1 : Cond.methodLink own index y ∈ BIG) (g2 : Cond.static y ∈ BIG) (g4 : Cond.initialized y.cls ∈ BIG) (g5 : Cond.code y bytes mL ret ∈ BIG)
    (hy : y.cls ≠ "java/lang/invoke/MethodHandle" ∧ y.cls ≠ "java/lang/invoke/VarHandle" ∧ (parseMethodDescriptor y.desc).map (fun d => d.parameters.length) = some As.length) (hR : fr + 1 ≤ R.frames ∧ 8 + (mL + 11) + lo ≤ R.locals) (hsz : ls.size = nL) (hst : st0 = As.reverse ++ rest) (hc : (rest.map fun v => v.category).sum ≤ 8)
    (hd : decode cc pc = .ok (.invokestatic index, 3)) (hf : cells ≤ R.cells ∧ slots ≤ R.slots) : va_Run p l e R s m args below meth c H locs cells slots 0 0 (F0 m pc ls st0) rest (Qx H.size As.toArray) (AA E H.size) :=
  va_runS (As := As) (rest := rest) ⟨C.1, C.2.1, C.2.2.1, C.2.2.2.1, C.2.2.2.2.1⟩ (hM H.size) ⟨my_CallB C g1 g4 g5 hy hR, C.2.2.2.2.1 _ g2⟩ ⟨Pr_blind _ _ _ _, my_pre C hw _⟩ rfl rfl hsz hst (lv_room hc) hd hf
theorem my_runSN {y : MethodName} {bytes : ByteArray} {mL index fr lo : Nat} {ret : Option FieldType} {As : List Value} {host : String} {Qx : Nat → Array Value → State → Outcome → State → Prop} (C : Cx E p s m args c cc nL own) (hw : Wo E s w H locs)
    (hM : MG l E y bytes mL ret fr lo As w Qx) (g1 : Cond.methodLinkNest own index y host ∈ nestW) (g2 : Cond.static y ∈ BIG) (g4 : Cond.initialized y.cls ∈ BIG) (g5 : Cond.code y bytes mL ret ∈ BIG)
    (hy : y.cls ≠ "java/lang/invoke/MethodHandle" ∧ y.cls ≠ "java/lang/invoke/VarHandle" ∧ (parseMethodDescriptor y.desc).map (fun d => d.parameters.length) = some As.length) (hR : fr + 1 ≤ R.frames ∧ 8 + (mL + 11) + lo ≤ R.locals) (hsz : ls.size = nL) (hst : st0 = As.reverse ++ rest) (hc : (rest.map fun v => v.category).sum ≤ 8)
    (hd : decode cc pc = .ok (.invokestatic index, 3)) (hf : cells ≤ R.cells ∧ slots ≤ R.slots) : va_Run p l e R s m args below meth c H locs cells slots 0 0 (F0 m pc ls st0) rest (Qx H.size As.toArray) (AA E H.size) :=
  va_runSN (As := As) (rest := rest) ⟨C.1, C.2.1, C.2.2.1, C.2.2.2.1, C.2.2.2.2.1⟩ (hM H.size) ⟨my_CN C g1 g4 g5 hy hR, C.2.2.2.2.1 _ g2, trivial⟩ ⟨Pr_blind _ _ _ _, my_pre C hw _⟩ rfl rfl hsz hst (lv_room hc) hd hf
theorem done_i {Post : Int32 → Wd → Prop} {a : Array Value} (hw : Wo E s w H locs) (hr : va_Run p l e R s m args below meth c H locs cells slots 0 0 (F0 m pc ls st0) rest (va_Qi Post (PW E) (AA E H.size) a) (AA E H.size))
    (kk : ∀ (r : Int32) (w1 : Wd) (H1 : Heap) (locs1 : List Loc), Post r w1 → Wo E s w1 H1 locs1 → W p l e R s m args below meth c H1 locs1 cells slots Q (F0 m (pc + 3) ls (.int r :: rest))) : W p l e R s m args below meth c H locs cells slots Q (F0 m pc ls st0) :=
  va_calli hr hw.2 (fun q _ h => AA_mono hw.2.1 q h) (fun q h => AA_mono hw.2.1 q h) (fun r u t H1 locs1 ht _ hp hB _ _ hS => kk r u H1 locs1 hp ⟨ht ▸ hB, hS⟩)
theorem done_v {Post : Wd → Prop} {a : Array Value} (hw : Wo E s w H locs) (hr : va_Run p l e R s m args below meth c H locs cells slots 0 0 (F0 m pc ls st0) rest (va_Qv Post (PW E) (AA E H.size) a) (AA E H.size))
    (kk : ∀ (w1 : Wd) (H1 : Heap) (locs1 : List Loc), Post w1 → Wo E s w1 H1 locs1 → W p l e R s m args below meth c H1 locs1 cells slots Q (F0 m (pc + 3) ls rest)) : W p l e R s m args below meth c H locs cells slots Q (F0 m pc ls st0) :=
  va_callv hr hw.2 (fun q _ h => AA_mono hw.2.1 q h) (fun q h => AA_mono hw.2.1 q h) (fun u t H1 locs1 ht _ hp hB _ _ hS => kk u H1 locs1 hp ⟨ht ▸ hB, hS⟩)
theorem done_d {Post : UInt64 → Wd → Prop} {a : Array Value} (hw : Wo E s w H locs) (hr : va_Run p l e R s m args below meth c H locs cells slots 0 0 (F0 m pc ls st0) rest (va_Qd Post (PW E) (AA E H.size) a) (AA E H.size))
    (kk : ∀ (r : UInt64) (w1 : Wd) (H1 : Heap) (locs1 : List Loc), Post r w1 → Wo E s w1 H1 locs1 → W p l e R s m args below meth c H1 locs1 cells slots Q (F0 m (pc + 3) ls (.double r :: rest))) : W p l e R s m args below meth c H locs cells slots Q (F0 m pc ls st0) :=
  va_calld hr hw.2 (fun q _ h => AA_mono hw.2.1 q h) (fun q h => AA_mono hw.2.1 q h) (fun r u t H1 locs1 ht _ hp hB _ _ hS => kk r u H1 locs1 hp ⟨ht ▸ hB, hS⟩)
theorem done_r {Post : Nat → Wd → Prop} {a : Array Value} (hw : Wo E s w H locs) (hr : va_Run p l e R s m args below meth c H locs cells slots 0 0 (F0 m pc ls st0) rest (va_Qr (fun _ : Wd => True) (PR E Post) (AA E H.size) a) (AA E H.size))
    (kk : ∀ (k : Nat) (w1 : Wd) (H1 : Heap) (locs1 : List Loc), k < 6 → Post k w1 → Wo E s w1 H1 locs1 → W p l e R s m args below meth c H1 locs1 cells slots Q (F0 m (pc + 3) ls (.ref (eA E (41 + 2 * k)) :: rest))) : W p l e R s m args below meth c H locs cells slots Q (F0 m pc ls st0) :=
  va_callr hr hw.2 (fun q _ h => AA_mono hw.2.1 q h) (fun q h => AA_mono hw.2.1 q h) (fun u b t H1 locs1 ht _ hp hB _ _ hS => by
    obtain ⟨k, h6, rfl, hq, hB⟩ := hB
    exact kk k u H1 locs1 h6 hq ⟨ht ▸ hB, hS⟩)
end ROWS

/-! constructors: the world is a list X of cells in the making, and behind it what is made already -/
def EW (E : En) (ids : List Nat) (u : Nat → Nat) : En := (E.1, E.2.1, u, E.2.2.2.1, ids, fun _ => False, E.2.2.2.2.2.2)
def PC (E : En) (h0 : Nat) (e0 : va_E) (sz : Nat) : Array Value → State → Prop := va_Pc [.ref h0] (fun U => U.heap.size = sz ∧ va_P E.1 vwCl [(h0, e0)] U.heap ∧ va_K E.1 vwCl (tysE E) U ∧ EE E (va_A [(h0, e0)] sz) U U.heap)
def BC (E : En) (ids : List Nat) (A : Nat → Prop) : (Nat → Nat) × Wd → State → Prop := fun u t => va_P E.1 vwCl (wsE (EW E ids u.1) u.2) t.heap ∧ va_D A (wsE (EW E ids u.1) u.2)
def MC (l : Launch) (E : En) (y : MethodName) (cc : ByteArray) (n fr lo mc ms : Nat) (e0 : va_E) (hd : Nat) (ids : List Nat) (post : Wd → Prop) : Prop :=
  ∀ (h0 sz : Nat), Met l y (wsM y cc n none) (RmX fr lo mc ms) (PC E h0 e0 sz) (va_Qv (fun u : (Nat → Nat) × Wd => u.1 hd = h0 ∧ post u.2) (BC E ids (va_A [(h0, e0)] sz)) (va_A [(h0, e0)] sz)) mc ms (va_A [(h0, e0)] sz)
/-- what holds all through a constructor -/
def Cc (E : En) (A : Nat → Prop) (p : Program) (s : State) (m : MethodId) (args : Array Value) (c : Code) (cc : ByteArray) (nL : Nat) (own : String) : Prop :=
  p.tables.exec = Jvm.exec ∧ c.code = cc ∧ c.maxLocals = nL ∧ s.vm.findClass own = some m.cls ∧ (∀ w ∈ BIG, w.before args s = true) ∧ va_K E.1 vwCl (tysE E) s ∧ EE E A s s.heap ∧ ∀ q, s.heap.size ≤ q → A q
theorem PC_blind (E : En) (h0 : Nat) (e0 : va_E) (sz : Nat) : FrameBlind (PC E h0 e0 sz) := by
  intro a U g mk q
  obtain ⟨q0, q1, qP, qK, qE⟩ := q
  exact ⟨q0, q1, qP, va_K.moved (u := U) (U := U.calling g mk a) (Vm.Alike.refl U.vm) qK, qE.calling⟩
theorem MC.intro {l : Launch} {E : En} {y : MethodName} {cc : ByteArray} {n fr lo mc ms : Nat} {e0 : va_E} {hd : Nat} {ids : List Nat} {post : Wd → Prop} (hy : plainName y.cls = true) (hn : (lg_sl [Value.ref 0]).length ≤ n)
    (body : ∀ (h0 : Nat) (p : Program) (e : Env) (s : State) (m : MethodId) (args : Array Value) (below : List Frame) (meth : Method) (c : Code) (A : Nat → Prop) (Q : State → Prop), A = va_A [(h0, e0)] s.heap.size → Cc E A p s m args c cc n y.cls → meth.sig.returnType = none → meth.locks = false → meth.name = y.name → Q = MQ below (va_Qv (fun u : (Nat → Nat) × Wd => u.1 hd = h0 ∧ post u.2) (BC E ids A) A) args s mc ms A → va_P E.1 vwCl ([(h0, e0)] ++ []) s.heap → va_D A ([(h0, e0)] ++ []) → va_S A s.heap s.heap [] → ∀ ls : Array Slot, lv_has ls n [(0, .ref h0)] → W p l e (RmX fr lo mc ms) s m args below meth c s.heap [] 0 0 Q (F0 m 0 ls [])) : MC l E y cc n fr lo mc ms e0 hd ids post := by
  intro h0 sz
  refine Met.ofW (cc := cc) (maxL := n) (ret := none) hy rfl ?_
  intro p e s m args below meth c s₁ B hml hv
  obtain ⟨rfl, hsz, hP, hK, hE⟩ := hv
  subst hsz
  have hts := atoms_spec (ws := wsM y cc n none) B.pre
  have hl := lv_entry [Value.ref h0] (n := n) hn
  rw [lg_entry_eq]
  generalize (lg_sl [Value.ref h0] ++ List.replicate (n - (lg_sl [Value.ref h0]).length) Slot.unset).toArray = ls at hl ⊢
  have hD : va_D (va_A [(h0, e0)] s.heap.size) [(h0, e0)] := by
    refine ⟨fun i j p q hi hj _ => ?_, fun k q hk => va_A.in hk⟩
    have h1 := (List.getElem?_eq_some_iff.mp hi).1
    have h2 := (List.getElem?_eq_some_iff.mp hj).1
    simp at h1 h2
    omega
  exact body h0 p e s m _ below meth c _ _ rfl ⟨B.exec, B.bytes, hml, findClass_of_methodNamed B.named, fun w h => hts w (List.mem_cons_of_mem _ h), hK, hE, fun q h => Or.inr h⟩ B.returns B.notSynchronized (name_of_methodNamed B.named B.method).1 rfl hP hD va_S.rf ls hl
theorem ra_inj {U : State} {a b : ClassId} {ty : FieldType} (h1 : va_RA U a ty) (h2 : va_RA U b ty) : a = b := by
  cases ty with
  | object C =>
    obtain ⟨_, _, _, _, _, e1⟩ := h1
    obtain ⟨_, _, _, _, _, e2⟩ := h2
    exact Option.some.inj (e1.symm.trans e2)
  | _ => exact Option.some.inj (Eq.trans (Eq.symm h1) h2)
theorem va_S.mono {A B : Nat → Prop} {H0 H : Heap} {locs : List Loc} (h : va_S A H0 H locs) (hAB : ∀ q, A q → B q) : va_S B H0 H locs := ⟨h.1, fun q h1 h2 => h.2.1 q h1 (fun z => h2 (hAB q z)), fun q hq => hAB _ (h.2.2 q hq)⟩
section CT
variable {E : En} {p : Program} {l : Launch} {e : Env} {R : Room} {s : State} {m : MethodId} {args : Array Value} {below : List Frame} {meth : Method} {c : Code} {H : Heap} {locs : List Loc} {cells slots : Nat} {Q : State → Prop} {cc : ByteArray} {nL pc : Nat} {own : String} {ls : Array Slot} {rest st0 : List Value} {A : Nat → Prop} {X pl : va_W}
theorem ct_obj (C : Cc E A p s m args c cc nL own) {idx a : Nat} (g : Cond.methodLink own idx objectInit ∈ BIG) (hsz : ls.size = nL) (hd : decode cc pc = .ok (.invokespecial idx, 3)) (hR : 1 ≤ R.frames ∧ (rest.map fun v => v.category).sum + 12 ≤ R.locals)
    (kk : W p l e R s m args below meth c H locs cells slots Q (F0 m (pc + 3) ls rest)) : W p l e R s m args below meth c H locs cells slots Q (F0 m pc ls (.ref a :: rest)) := by
  have hts := C.2.2.2.2.1
  refine W.objInit C.1 C.2.1 C.2.2.2.1 (hts _ g) (hts _ K_i_o_Object__init__3) (hts _ K_c_o_Object__init__3) rfl (hsz.trans C.2.2.1.symm) rfl hd hR.1 ?_ kk
  show 2 * 0 + _ + 12 ≤ _
  have := hR.2
  omega
theorem ct_new (C : Cc E A p s m args c cc nL own) (hP : va_P E.1 vwCl (X ++ pl) H) (hD : va_D A (X ++ pl)) (hS : va_S A s.heap H locs) (ci : Nat) {Cn : String} {T : u_T} {N index : Nat} (ty : Nat → FieldType) (hty : ∀ k, k < N → parseFieldDescriptor (T k).2.2.1 = some (ty k)) (hcl : vwCl[ci]? = some (Cn, T, N)) (hin : ∀ x ∈ u_ws Cn T N, x ∈ BIG) (g1 : Cond.classLink own index Cn ∈ BIG) (g2 : Cond.instantiable Cn N ∈ BIG) (g3 : Cond.initialized Cn ∈ BIG) {fs : List Value} (hfs : ∀ j, j < N → defaultValue (ty j) = vp_V fs j) (hc : cells + 1 ≤ R.cells ∧ slots + N ≤ R.slots) (hd : decode cc pc = .ok (.new index, 3))
    (kk : ∀ (q : Nat) (H1 : Heap), va_P E.1 vwCl ((X ++ [(q, .inr (ci, fs))]) ++ pl) H1 → va_D A ((X ++ [(q, .inr (ci, fs))]) ++ pl) → va_S A s.heap H1 locs → W p l e R s m args below meth c H1 locs (cells + 1) (slots + N) Q (F0 m (pc + 3) ls (.ref q :: rest))) : W p l e R s m args below meth c H locs cells slots Q (F0 m pc ls rest) := by
  have hts := C.2.2.2.2.1
  exact va_new C.1 C.2.1 hts hin ty hty C.2.2.2.1 (hts _ g1) (hts _ g2) (hts _ g3) C.2.2.2.2.2.1 hP hD hS C.2.2.2.2.2.2.2 hcl hfs hc.1 hc.2 hd (fun q H1 hP hD hS => kk q H1 hP.swap hD.swap hS)
theorem ct_newa (C : Cc E A p s m args c cc nL own) (hP : va_P E.1 vwCl (X ++ pl) H) (hD : va_D A (X ++ pl)) (hS : va_S A s.heap H locs) (t0 : Nat) {cA0 : ClassId} {atype : ArrayType} {ty : FieldType} (hty : newarray.typeOf atype = ty) (g : Cond.arrayClass ty ∈ BIG) (ht : (tysE E)[t0]? = some (cA0, ty)) {n : Int32} {N : Nat} {a0 : vp_A} (ha : ∀ cA : ClassId, vp_cell cA a0 = arrV cA N (fun _ => defaultValue ty)) (hn : ¬ n < 0) (hN : n.toNatClampNeg = N) (hb4 : N * componentBytes ty ≤ 536870912) (hc : cells + 1 ≤ R.cells ∧ slots + N ≤ R.slots) (hd : decode cc pc = .ok (.newarray atype, 2))
    (kk : ∀ (q : Nat) (H1 : Heap), va_P E.1 vwCl ((X ++ [(q, .inl (cA0, a0))]) ++ pl) H1 → va_D A ((X ++ [(q, .inl (cA0, a0))]) ++ pl) → va_S A s.heap H1 locs → W p l e R s m args below meth c H1 locs (cells + 1) (slots + N) Q (F0 m (pc + 2) ls (.ref q :: rest))) : W p l e R s m args below meth c H locs cells slots Q (F0 m pc ls (.int n :: rest)) := by
  subst hty
  have hts := C.2.2.2.2.1
  refine va_newa C.1 C.2.1 (hts _ g) rfl C.2.2.2.2.2.1 hP hD hS C.2.2.2.2.2.2.2 ha hn hN hb4 hc.1 hc.2 hd (fun q cA H1 hK hP hD hS => ?_)
  have e1 : cA = cA0 := ra_inj (hK.2 (tysE E).length _ (by rw [List.getElem?_append_right (Nat.le_refl _), Nat.sub_self]; rfl)).2 (C.2.2.2.2.2.1.2 t0 _ ht).2
  subst e1
  exact kk q H1 hP.swap hD.swap hS
theorem ct_newq (C : Cc E A p s m args c cc nL own) (hP : va_P E.1 vwCl (X ++ pl) H) (hD : va_D A (X ++ pl)) (hS : va_S A s.heap H locs) (t0 : Nat) {cA0 : ClassId} {Cn : String} {index : Nat} (g : Cond.classLink own index Cn ∈ BIG) (hO : va_AO Cn s) (ht : (tysE E)[t0]? = some (cA0, .object Cn)) {n : Int32} {N : Nat} (hn : ¬ n < 0) (hN : n.toNatClampNeg = N) (hb4 : N * 4 ≤ 536870912) (hc : cells + 1 ≤ R.cells ∧ slots + N ≤ R.slots) (hd : decode cc pc = .ok (.anewarray index, 3))
    (kk : ∀ (q : Nat) (H1 : Heap), va_P E.1 vwCl ((X ++ [(q, .inl (cA0, N, .inr (.inr (.inr (.inr (fun _ => none))))))]) ++ pl) H1 → va_D A ((X ++ [(q, .inl (cA0, N, .inr (.inr (.inr (.inr (fun _ => none))))))]) ++ pl) → va_S A s.heap H1 locs → W p l e R s m args below meth c H1 locs (cells + 1) (slots + N) Q (F0 m (pc + 3) ls (.ref q :: rest))) : W p l e R s m args below meth c H locs cells slots Q (F0 m pc ls (.int n :: rest)) := by
  have hts := C.2.2.2.2.1
  refine va_newq C.1 C.2.1 C.2.2.2.1 (hts _ g) hO C.2.2.2.2.2.1 hP hD hS C.2.2.2.2.2.2.2 hn hN hb4 hc.1 hc.2 hd (fun q cA H1 hK hP hD hS => ?_)
  have e1 : cA = cA0 := ra_inj (hK.2 (tysE E).length _ (by rw [List.getElem?_append_right (Nat.le_refl _), Nat.sub_self]; rfl)).2 (C.2.2.2.2.2.1.2 t0 _ ht).2
  subst e1
  exact kk q H1 hP.swap hD.swap hS
/-- behind a constructor's call: what it made, and all else as it was -/
theorem ct_join {q : Nat} {e0 : va_E} {H1 : Heap} {w1 : va_W} (hA : ∀ x, s.heap.size ≤ x → A x) (hP : va_P E.1 vwCl ((X ++ [(q, e0)]) ++ pl) H) (hD : va_D A ((X ++ [(q, e0)]) ++ pl)) (hS : va_S A s.heap H locs) (hk : ∀ x : Nat, x < H.size → ¬ va_A [(q, e0)] H.size x → H1[x]? = H[x]?) (hP1 : va_P E.1 vwCl w1 H1) (hD1 : va_D (va_A [(q, e0)] H.size) w1) :
    va_P E.1 vwCl (X ++ (w1 ++ pl)) H1 ∧ va_D A (X ++ (w1 ++ pl)) := by
  have hP' : va_P E.1 vwCl ((X ++ pl) ++ [(q, e0)]) H := hP.swap
  have hD' : va_D A ((X ++ pl) ++ [(q, e0)]) := hD.swap
  have hXp : va_P E.1 vwCl (X ++ pl) H := fun k x hx => hP' k x (by rw [List.getElem?_append_left (List.getElem?_eq_some_iff.mp hx).1]; exact hx)
  have hXd : va_D A (X ++ pl) := hD'.by id (fun k x hx => by
    show ((X ++ pl) ++ [(q, e0)])[k]? = some x
    rw [List.getElem?_append_left (List.getElem?_eq_some_iff.mp hx).1]
    exact hx) (fun i j _ _ h => h)
  have hq : ((X ++ pl) ++ [(q, e0)])[(X ++ pl).length]? = some (q, e0) := by
    rw [List.getElem?_append_right (Nat.le_refl _), Nat.sub_self]
    rfl
  have apart : ∀ (k : Nat) (x : Nat × va_E), (X ++ pl)[k]? = some x → x.1 < H.size ∧ ¬ va_A [(q, e0)] H.size x.1 := by
    intro k x hx
    have hl := (hXp k x hx).lt
    refine ⟨hl, fun h => ?_⟩
    rcases h with ⟨j, y, h⟩ | h
    · have hj : j = 0 := by
        have := (List.getElem?_eq_some_iff.mp h).1
        simp at this
        omega
      subst hj
      have hxq : x.1 = q := by
        have := Option.some.inj h
        exact (congrArg Prod.fst this).symm
      have hlen := (List.getElem?_eq_some_iff.mp hx).1
      have := hD'.1 k (X ++ pl).length x (q, e0) (by rw [List.getElem?_append_left hlen]; exact hx) hq hxq
      omega
    · omega
  have hA1 : ∀ x, va_A [(q, e0)] H.size x → A x := by
    intro x h
    rcases h with ⟨j, y, h⟩ | h
    · have hj : j = 0 := by
        have := (List.getElem?_eq_some_iff.mp h).1
        simp at this
        omega
      subst hj
      have hxq : q = x := by
        have := Option.some.inj h
        exact congrArg Prod.fst this
      rw [← hxq]
      exact hD'.2 _ _ hq
    · exact hA x (Nat.le_trans hS.1 h)
  have g1 : va_P E.1 vwCl ((X ++ pl) ++ w1) H1 := (hXp.kept (fun k x hx => hk x.1 (apart k x hx).1 (apart k x hx).2)).app hP1
  have g2 : va_D A ((X ++ pl) ++ w1) := va_D.app hXd (hD1.weaken (fun _ x _ h => hA1 x.1 h)) (fun i j x y hx hy hxy => (apart i x hx).2 (by rw [hxy]; exact hD1.2 j y hy))
  rw [← List.append_assoc]
  exact ⟨g1.swap, g2.swap⟩
theorem ct_pre {q : Nat} {e0 : va_E} (C : Cc E A p s m args c cc nL own) (hP : va_P E.1 vwCl ((X ++ [(q, e0)]) ++ pl) H) (hD : va_D A ((X ++ [(q, e0)]) ++ pl)) (hS : va_S A s.heap H locs) : ∀ U : State, U.heap = H → s.WarmedH U.vm → PC E q e0 H.size [Value.ref q].toArray U := by
  intro U hU hW
  have hD' : va_D A ((X ++ pl) ++ [(q, e0)]) := hD.swap
  have hP' : va_P E.1 vwCl ((X ++ pl) ++ [(q, e0)]) H := hP.swap
  have hq : ((X ++ pl) ++ [(q, e0)])[(X ++ pl).length]? = some (q, e0) := by
    rw [List.getElem?_append_right (Nat.le_refl _), Nat.sub_self]
    rfl
  refine ⟨rfl, by rw [hU], ?_, va_K.moved hW.alike C.2.2.2.2.2.1, ?_⟩
  · rw [hU]
    intro k x hx
    have hk : k = 0 := by
      have := (List.getElem?_eq_some_iff.mp hx).1
      simp at this
      omega
    subst hk
    cases hx
    exact hP' _ _ hq
  · rw [hU]
    refine C.2.2.2.2.2.2.1.go hW hS.2.1 (fun x h => ?_)
    rcases h with ⟨j, y, h⟩ | h
    · have hj : j = 0 := by
        have := (List.getElem?_eq_some_iff.mp h).1
        simp at this
        omega
      subst hj
      cases h
      exact hD'.2 _ _ hq
    · exact C.2.2.2.2.2.2.2 x (Nat.le_trans hS.1 h)
theorem ct_init {y : MethodName} {bytes : ByteArray} {mL index fr lo mc ms hd : Nat} {e0 : va_E} {ids : List Nat} {post : Wd → Prop} {q : Nat} (C : Cc E A p s m args c cc nL own) (hP : va_P E.1 vwCl ((X ++ [(q, e0)]) ++ pl) H) (hD : va_D A ((X ++ [(q, e0)]) ++ pl)) (hS : va_S A s.heap H locs)
    (hM : MC l E y bytes mL fr lo mc ms e0 hd ids post) (g1 : Cond.methodLink own index y ∈ BIG) (g2 : Cond.instanceMethod y ∈ BIG) (g4 : Cond.initialized y.cls ∈ BIG) (g5 : Cond.code y bytes mL none ∈ BIG) (hi : y.name = "<init>")
    (hy : y.cls ≠ "java/lang/invoke/MethodHandle" ∧ y.cls ≠ "java/lang/invoke/VarHandle" ∧ (parseMethodDescriptor y.desc).map (fun d => d.parameters.length) = some 0) (hR : fr + 1 ≤ R.frames ∧ 8 + (mL + 11) + lo ≤ R.locals) (hsz : ls.size = nL) (hc : (rest.map fun v => v.category).sum ≤ 8)
    (hdg : decode cc pc = .ok (.invokespecial index, 3)) (hf : cells + mc ≤ R.cells ∧ slots + ms ≤ R.slots)
    (kk : ∀ (u : Nat → Nat) (w : Wd) (H1 : Heap) (locs1 : List Loc), u hd = q → post w → va_P E.1 vwCl (X ++ (wsE (EW E ids u) w ++ pl)) H1 → va_D A (X ++ (wsE (EW E ids u) w ++ pl)) → va_S A s.heap H1 locs1 → W p l e R s m args below meth c H1 locs1 (cells + mc) (slots + ms) Q (F0 m (pc + 3) ls rest)) : W p l e R s m args below meth c H locs cells slots Q (F0 m pc ls (.ref q :: rest)) := by
  have hts := C.2.2.2.2.1
  have hA1 : ∀ x, va_A [(q, e0)] H.size x → A x := by
    have hD' : va_D A ((X ++ pl) ++ [(q, e0)]) := hD.swap
    intro x h
    rcases h with ⟨j, y, h⟩ | h
    · have hj : j = 0 := by
        have := (List.getElem?_eq_some_iff.mp h).1
        simp at this
        omega
      subst hj
      cases h
      exact hD'.2 (X ++ pl).length (q, e0) (by rw [List.getElem?_append_right (Nat.le_refl _), Nat.sub_self]; rfl)
    · exact C.2.2.2.2.2.2.2 x (Nat.le_trans hS.1 h)
  refine va_callv (va_runI (As := []) (rest := rest) ⟨C.1, C.2.1, C.2.2.1, C.2.2.2.1, hts⟩ (hM q H.size) ⟨⟨rfl, rfl, hR.1, hR.2, fun x hx a' U hW => ?_, List.mem_cons_self, hts _ g5, hts _ g4, ⟨hy.1, hy.2.1⟩, fun sig h => ?_, hts _ g1⟩, hi, hts _ g2⟩ ⟨PC_blind _ _ _ _, ct_pre C hP hD hS⟩ rfl rfl hsz rfl (lv_room hc) hdg hf) hS (fun x _ h => hA1 x h) hA1 (fun u t H1 locs1 ht hvm hp hB hz1 hk1 hS1 => ?_)
  · rcases List.mem_cons.mp hx with rfl | h
    · exact word_at hW (big_good g5) (hts _ g5)
    · exact word_at hW (big_good h) (hts _ h)
  · have h2 := hy.2.2
    rw [h] at h2
    exact (Option.some.inj h2).symm
  · obtain ⟨hB1, hB2⟩ := hB
    rw [ht] at hB1
    obtain ⟨j1, j2⟩ := ct_join C.2.2.2.2.2.2.2 hP hD hS hk1 hB1 hB2
    exact kk u.1 u.2 H1 locs1 hp.1 hp.2 j1 j2 hS1
theorem ct_initN {y : MethodName} {bytes : ByteArray} {mL index fr lo mc ms hd : Nat} {e0 : va_E} {ids : List Nat} {post : Wd → Prop} {q : Nat} {host : String} (C : Cc E A p s m args c cc nL own) (hP : va_P E.1 vwCl ((X ++ [(q, e0)]) ++ pl) H) (hD : va_D A ((X ++ [(q, e0)]) ++ pl)) (hS : va_S A s.heap H locs)
    (hM : MC l E y bytes mL fr lo mc ms e0 hd ids post) (g1 : Cond.methodLinkNest own index y host ∈ nestW) (g2 : Cond.instanceMethod y ∈ BIG) (g4 : Cond.initialized y.cls ∈ BIG) (g5 : Cond.code y bytes mL none ∈ BIG) (hi : y.name = "<init>")
    (hy : y.cls ≠ "java/lang/invoke/MethodHandle" ∧ y.cls ≠ "java/lang/invoke/VarHandle" ∧ (parseMethodDescriptor y.desc).map (fun d => d.parameters.length) = some 0) (hR : fr + 1 ≤ R.frames ∧ 8 + (mL + 11) + lo ≤ R.locals) (hsz : ls.size = nL) (hc : (rest.map fun v => v.category).sum ≤ 8)
    (hdg : decode cc pc = .ok (.invokespecial index, 3)) (hf : cells + mc ≤ R.cells ∧ slots + ms ≤ R.slots)
    (kk : ∀ (u : Nat → Nat) (w : Wd) (H1 : Heap) (locs1 : List Loc), u hd = q → post w → va_P E.1 vwCl (X ++ (wsE (EW E ids u) w ++ pl)) H1 → va_D A (X ++ (wsE (EW E ids u) w ++ pl)) → va_S A s.heap H1 locs1 → W p l e R s m args below meth c H1 locs1 (cells + mc) (slots + ms) Q (F0 m (pc + 3) ls rest)) : W p l e R s m args below meth c H locs cells slots Q (F0 m pc ls (.ref q :: rest)) := by
  have hts := C.2.2.2.2.1
  have hA1 : ∀ x, va_A [(q, e0)] H.size x → A x := by
    have hD' : va_D A ((X ++ pl) ++ [(q, e0)]) := hD.swap
    intro x h
    rcases h with ⟨j, y, h⟩ | h
    · have hj : j = 0 := by
        have := (List.getElem?_eq_some_iff.mp h).1
        simp at this
        omega
      subst hj
      cases h
      exact hD'.2 (X ++ pl).length (q, e0) (by rw [List.getElem?_append_right (Nat.le_refl _), Nat.sub_self]; rfl)
    · exact C.2.2.2.2.2.2.2 x (Nat.le_trans hS.1 h)
  refine va_callv (va_runIN (As := []) (rest := rest) ⟨C.1, C.2.1, C.2.2.1, C.2.2.2.1, hts⟩ (hM q H.size) ⟨⟨⟨rfl, rfl, hR.1, hR.2, fun x hx a' U hW => ?_, List.mem_cons_self⟩, hts _ g5, hts _ g4, ⟨hy.1, hy.2.1⟩, fun sig h => ?_, va_Nw.use rfl (C.2.2.2.2.2.2.1.1 _ g1)⟩, hi, hts _ g2⟩ ⟨PC_blind _ _ _ _, ct_pre C hP hD hS⟩ rfl rfl hsz rfl (lv_room hc) hdg hf) hS (fun x _ h => hA1 x h) hA1 (fun u t H1 locs1 ht hvm hp hB hz1 hk1 hS1 => ?_)
  · rcases List.mem_cons.mp hx with rfl | h
    · exact word_at hW (big_good g5) (hts _ g5)
    · exact word_at hW (big_good h) (hts _ h)
  · have h2 := hy.2.2
    rw [h] at h2
    exact (Option.some.inj h2).symm
  · obtain ⟨hB1, hB2⟩ := hB
    rw [ht] at hB1
    obtain ⟨j1, j2⟩ := ct_join C.2.2.2.2.2.2.2 hP hD hS hk1 hB1 hB2
    exact kk u.1 u.2 H1 locs1 hp.1 hp.2 j1 j2 hS1
end CT

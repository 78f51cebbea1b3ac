/-! the StringBuilder: words, contracts that may make a new row, calls -/
theorem K_sup_SB : Cond.superclass "java/lang/StringBuilder" "java/lang/AbstractStringBuilder" ∈ BIG := tb_3 150 rfl rfl
theorem K_sm_J5_append_cf1ce : Cond.sameMethod yJ5_append_cf1ce.cls yJ5_append_cf1ce.cls yJ5_append_cf1ce.name yJ5_append_cf1ce.desc ∈ BIG := tb_5 49 rfl rfl
theorem K_sm_J5_append_c97b9 : Cond.sameMethod yJ5_append_c97b9.cls yJ5_append_c97b9.cls yJ5_append_c97b9.name yJ5_append_c97b9.desc ∈ BIG := tb_5 56 rfl rfl
theorem K_sm_J5_length_8abf5 : Cond.sameMethod yJ5_length_8abf5.cls yJ5_length_8abf5.cls yJ5_length_8abf5.name yJ5_length_8abf5.desc ∈ BIG := tb_5 57 rfl rfl
theorem K_sm_J5_charAt_5068e : Cond.sameMethod yJ5_charAt_5068e.cls yJ5_charAt_5068e.cls yJ5_charAt_5068e.name yJ5_charAt_5068e.desc ∈ BIG := tb_5 58 rfl rfl
theorem K_vl_SB : Cond.selects RJ4 yJ5_isLatin1_aae02 yJ5_isLatin1_aae02 ∈ BIG := tb_3 195 rfl rfl
theorem sel_priv {y z : MethodName} {Cn : String} {s : State} {args : Array Value} (hcl : y.cls = z.cls) (hy : y.cls ≠ "java/lang/invoke/MethodHandle" ∧ y.cls ≠ "java/lang/invoke/VarHandle") (h1 : (Cond.selects Cn z z).before args s = true) (hpriv : (Cond.privateMethod y).before args s = true) (hinst : (Cond.instanceMethod y).before args s = true) : (Cond.selects Cn y y).before args s = true := by
  obtain ⟨mk, methM, hnamed, hmethM, -, -⟩ := Cond.instanceMethod_spec hinst
  have hfound : s.methodFound? y.cls y.name y.desc = some mk := State.methodFound?_of_named hnamed hy
  have hsel : ∀ c, selectMethod {} s.vm c mk = .method mk := fun c => selectMethod_private hmethM (Cond.privateMethod_at hpriv mk methM hnamed hmethM)
  simp only [Cond.before, Cond.holds, Cond.value] at h1 ⊢
  cases hc : s.vm.findClass Cn with
  | none => simp [hc] at h1
  | some c =>
    cases hz : s.methodNamed? z with
    | none => cases hf : s.methodFound? z.cls z.name z.desc <;> simp [hc, hz, hf] at h1
    | some m2 =>
      cases hf : s.methodFound? z.cls z.name z.desc with
      | none => simp [hc, hz, hf] at h1
      | some r =>
        have e : mk.cls = m2.cls := Option.some.inj ((findClass_of_methodNamed hnamed).symm.trans (by rw [hcl]; exact findClass_of_methodNamed hz))
        simp only [hc, hz, hf] at h1
        simp only [hfound, hnamed, hsel, e]
        cases hs : selectMethod {} s.vm c r <;> simp [hs] at h1 ⊢
        exact h1.2
def ME (l : Launch) (E : En) (y : MethodName) (cc : ByteArray) (n : Nat) (ret : Option FieldType) (fr lo mc ms : Nat) (av : List Value) (w : Wd) (Qx : Nat → Array Value → State → Outcome → State → Prop) : Prop :=
  ∀ sz : Nat, Met l y (wsM y cc n ret) (RmX fr lo mc ms) (Pr E w av sz) (Qx sz) mc ms (AA E sz)
theorem MG.ME {l : Launch} {E : En} {y : MethodName} {cc : ByteArray} {n : Nat} {ret : Option FieldType} {fr lo : Nat} {av : List Value} {w : Wd} {Qx : Nat → Array Value → State → Outcome → State → Prop} (h : MG l E y cc n ret fr lo av w Qx) : ME l E y cc n ret fr lo 0 0 av w Qx := h
def PE (E : En) (sz : Nat) : Nat × Wd → State → Prop := fun u t => AA E sz u.1 ∧ Inj (eUp E u.1) ∧ va_P E.1 vwCl (wsE (eUp E u.1) u.2) t.heap
def QV (E : En) (Post : Wd → Prop) (sz : Nat) : Array Value → State → Outcome → State → Prop := va_Qv (fun u : Nat × Wd => Post u.2) (PE E sz) (AA E sz)
def QR (E : En) (Post : Wd → Prop) (sz : Nat) : Array Value → State → Outcome → State → Prop := va_Qr (fun u : Nat × Wd => Post u.2) (fun u ra t => ra = eA E 15 ∧ PE E sz u t) (AA E sz)
theorem ME.intro {l : Launch} {E : En} {y : MethodName} {cc : ByteArray} {n : Nat} {ret : Option FieldType} {fr lo mc ms : Nat} {av : List Value} {w : Wd} {Qx : Nat → Array Value → State → Outcome → State → Prop} (hI : Inj E) (hy : plainName y.cls = true) (hen : (lg_sl av).length ≤ n)
    (body : ∀ (p : Program) (e : Env) (s : State) (m : MethodId) (args : Array Value) (below : List Frame) (meth : Method) (c : Code) (Q : State → Prop), Cx E p s m args c cc n y.cls → meth.sig.returnType = ret → meth.locks = false → Q = MQ below (Qx s.heap.size) args s mc ms (AA E s.heap.size) → Wo E s w s.heap [] → ∀ ls : Array Slot, lv_has ls n (lv_args 0 av) → W p l e (RmX fr lo mc ms) s m args below meth c s.heap [] 0 0 Q (F0 m 0 ls [])) : ME l E y cc n ret fr lo mc ms av w Qx := by
  intro sz
  refine Met.ofW (cc := cc) (maxL := n) (ret := ret) hy rfl ?_
  intro p e s m args below meth c s₁ B hml hv
  obtain ⟨rfl, hsz, hP, hK, hE⟩ := hv
  subst hsz
  have hts := atoms_spec (ws := wsM y cc n ret) B.pre
  have hl := lv_entry av (n := n) hen
  rw [lg_entry_eq]
  generalize (lg_sl av ++ List.replicate (n - (lg_sl av).length) Slot.unset).toArray = ls at hl ⊢
  exact body p e s m _ below meth c _ ⟨B.exec, B.bytes, hml, findClass_of_methodNamed B.named, fun w h => hts w (List.mem_cons_of_mem _ h), hK, hE, hI⟩ B.returns B.notSynchronized rfl ⟨hP, va_S.rf⟩ ls hl
section SBC
variable {E : En} {p : Program} {l : Launch} {e : Env} {R : Room} {s : State} {m : MethodId} {args : Array Value} {below : List Frame} {meth : Method} {c : Code} {H : Heap} {locs : List Loc} {cells slots : Nat} {Q : State → Prop} {cc : ByteArray} {nL pc : Nat} {own : String} {ls : Array Slot} {rest st0 : List Value} {w : Wd}
theorem Cx.toC (C : Cx E p s m args c cc nL own) : Cc E (AA E s.heap.size) p s m args c cc nL own := ⟨C.1, C.2.1, C.2.2.1, C.2.2.2.1, C.2.2.2.2.1, C.2.2.2.2.2.1, C.2.2.2.2.2.2.1, AA_new⟩
theorem Cx.up {a : Nat} (C : Cx E p s m args c cc nL own) (h16 : 16 ∈ eL E) (ha : AA E s.heap.size a) (hI : Inj (eUp E a)) : Cx (eUp E a) p s m args c cc nL own :=
  ⟨C.1, C.2.1, C.2.2.1, C.2.2.2.1, C.2.2.2.2.1, C.2.2.2.2.2.1, C.2.2.2.2.2.2.1.less rfl (fun q h => (AA_up h16 ha q).mp h), hI⟩
theorem Wo.up {a : Nat} {w1 : Wd} (h16 : 16 ∈ eL E) (ha : AA E s.heap.size a) (hP : va_P E.1 vwCl (wsE (eUp E a) w1) H) (hS : va_S (AA E s.heap.size) s.heap H locs) : Wo (eUp E a) s w1 H locs :=
  ⟨hP, hS.mono (fun q h => (AA_up h16 ha q).mpr h)⟩
/-- a virtual call; the method that is selected is told -/
theorem my_runE {y : MethodName} {bytes : ByteArray} {mL index fr lo mc ms : Nat} {ret : Option FieldType} {As : List Value} {Cn : String} {T : u_T} {N : Nat} {fs : List Value} {Qx : Nat → Array Value → State → Outcome → State → Prop} (C : Cx E p s m args c cc nL own) (hw : Wo E s w H locs) (o ci : Nat) (ho : o ∈ eL E) (hce : ce E w o = .inr (ci, fs)) (hcl : vwCl[ci]? = some (Cn, T, N))
    (hM : ME l E y bytes mL ret fr lo mc ms (.ref (eA E o) :: As) w Qx) (g1 : Cond.methodLink own index y ∈ BIG) (g2 : Cond.instanceMethod y ∈ BIG) (g3 : (Cond.selects Cn y y).before args s = true) (g4 : Cond.initialized y.cls ∈ BIG) (g5 : Cond.code y bytes mL ret ∈ BIG)
    (hy : y.cls ≠ "java/lang/invoke/MethodHandle" ∧ y.cls ≠ "java/lang/invoke/VarHandle" ∧ (parseMethodDescriptor y.desc).map (fun d => d.parameters.length) = some As.length) (hR : fr + 1 ≤ R.frames ∧ 8 + (mL + 11) + lo ≤ R.locals) (hsz : ls.size = nL) (hst : st0 = As.reverse ++ .ref (eA E o) :: rest) (hc : (rest.map fun v => v.category).sum ≤ 8)
    (hd : decode cc pc = .ok (.invokevirtual index, 3)) (hf : cells + mc ≤ R.cells ∧ slots + ms ≤ R.slots) : va_Run p l e R s m args below meth c H locs cells slots mc ms (F0 m pc ls st0) rest (Qx H.size (Value.ref (eA E o) :: As).toArray) (AA E H.size) :=
  va_runV (As := As) (rest := rest) (C := Cn) (b := eA E o) ⟨C.1, C.2.1, C.2.2.1, C.2.2.2.1, C.2.2.2.2.1⟩ (hM H.size) ⟨my_CallX C g1 g4 g5 hy hR, C.2.2.2.2.1 _ g2, g3⟩
    ⟨Pr_blind _ _ _ _, my_recv C hw ho hce hcl, my_pre C hw _⟩ rfl rfl hsz hst (lv_room hc) hd hf
/-- a call of the superclass's own method -/
theorem my_runSU {y : MethodName} {bytes : ByteArray} {mL index fr lo mc ms : Nat} {ret : Option FieldType} {As : List Value} {Cn : String} {T : u_T} {N : Nat} {fs : List Value} {Qx : Nat → Array Value → State → Outcome → State → Prop} (C : Cx E p s m args c cc nL own) (hw : Wo E s w H locs) (o ci : Nat) (ho : o ∈ eL E) (hce : ce E w o = .inr (ci, fs)) (hcl : vwCl[ci]? = some (Cn, T, N))
    (hM : ME l E y bytes mL ret fr lo mc ms (.ref (eA E o) :: As) w Qx) (g1 : Cond.methodLink own index y ∈ BIG) (g2 : Cond.instanceMethod y ∈ BIG) (g3 : Cond.sameMethod y.cls y.cls y.name y.desc ∈ BIG) (g6 : Cond.superclass own y.cls ∈ BIG) (g4 : Cond.initialized y.cls ∈ BIG) (g5 : Cond.code y bytes mL ret ∈ BIG) (hno : y.name ≠ "<init>")
    (hy : y.cls ≠ "java/lang/invoke/MethodHandle" ∧ y.cls ≠ "java/lang/invoke/VarHandle" ∧ (parseMethodDescriptor y.desc).map (fun d => d.parameters.length) = some As.length) (hR : fr + 1 ≤ R.frames ∧ 8 + (mL + 11) + lo ≤ R.locals) (hsz : ls.size = nL) (hst : st0 = As.reverse ++ .ref (eA E o) :: rest) (hc : (rest.map fun v => v.category).sum ≤ 8)
    (hd : decode cc pc = .ok (.invokespecial index, 3)) (hf : cells + mc ≤ R.cells ∧ slots + ms ≤ R.slots) : va_Run p l e R s m args below meth c H locs cells slots mc ms (F0 m pc ls st0) rest (Qx H.size (Value.ref (eA E o) :: As).toArray) (AA E H.size) := by
  have hts := C.2.2.2.2.1
  obtain ⟨hS0, hfc, kC, hkC, hkind⟩ := C.2.2.2.2.2.1.1 ci _ hcl
  refine va_runSU (As := As) (rest := rest) (C := Cn) (b := eA E o) ⟨hfc, kC, hkC, hkind⟩ ⟨C.1, C.2.1, C.2.2.1, C.2.2.2.1, C.2.2.2.2.1⟩ (hM H.size) ⟨⟨rfl, rfl, hR.1, hR.2, fun x hx a' U hW => ?_, List.mem_cons_self⟩, hts _ g1, hts _ g3, hts _ g6, hts _ g2, hts _ g4, hts _ g5, hno, fun sig h => ?_⟩
    ⟨Pr_blind _ _ _ _, my_recv C hw ho hce hcl, my_pre C hw _⟩ rfl rfl hsz hst (lv_room hc) hd hf
  · rcases List.mem_cons.mp hx with rfl | h
    · exact word_at hW (big_good g5) (hts _ g5)
    · exact word_at hW (big_good h) (hts _ h)
  · have h2 := hy.2.2
    rw [h] at h2
    exact (Option.some.inj h2).symm
theorem my_runSE {y : MethodName} {bytes : ByteArray} {mL index fr lo mc ms : Nat} {ret : Option FieldType} {As : List Value} {Qx : Nat → Array Value → State → Outcome → State → Prop} (C : Cx E p s m args c cc nL own) (hw : Wo E s w H locs)
    (hM : ME l E y bytes mL ret fr lo mc ms As w Qx) (g1 : Cond.methodLink own index y ∈ BIG) (g2 : Cond.static y ∈ BIG) (g4 : Cond.initialized y.cls ∈ BIG) (g5 : Cond.code y bytes mL ret ∈ BIG)
    (hy : y.cls ≠ "java/lang/invoke/MethodHandle" ∧ y.cls ≠ "java/lang/invoke/VarHandle" ∧ (parseMethodDescriptor y.desc).map (fun d => d.parameters.length) = some As.length) (hR : fr + 1 ≤ R.frames ∧ 8 + (mL + 11) + lo ≤ R.locals) (hsz : ls.size = nL) (hst : st0 = As.reverse ++ rest) (hc : (rest.map fun v => v.category).sum ≤ 8)
    (hd : decode cc pc = .ok (.invokestatic index, 3)) (hf : cells + mc ≤ R.cells ∧ slots + ms ≤ R.slots) : va_Run p l e R s m args below meth c H locs cells slots mc ms (F0 m pc ls st0) rest (Qx H.size As.toArray) (AA E H.size) :=
  va_runS (As := As) (rest := rest) ⟨C.1, C.2.1, C.2.2.1, C.2.2.2.1, C.2.2.2.2.1⟩ (hM H.size) ⟨my_CallX C g1 g4 g5 hy hR, C.2.2.2.2.1 _ g2⟩ ⟨Pr_blind _ _ _ _, my_pre C hw _⟩ rfl rfl hsz hst (lv_room hc) hd hf
/-- behind a call that may have moved the row -/
theorem done_ev {Post : Wd → Prop} {a : Array Value} {mc ms : Nat} (C : Cx E p s m args c cc nL own) (hw : Wo E s w H locs) (h16 : 16 ∈ eL E) (hr : va_Run p l e R s m args below meth c H locs cells slots mc ms (F0 m pc ls st0) rest (QV E Post H.size a) (AA E H.size))
    (kk : ∀ (a : Nat) (w1 : Wd) (H1 : Heap) (locs1 : List Loc), AA E s.heap.size a → Post w1 → Cx (eUp E a) p s m args c cc nL own → Wo (eUp E a) s w1 H1 locs1 → W p l e R s m args below meth c H1 locs1 (cells + mc) (slots + ms) Q (F0 m (pc + 3) ls rest)) : W p l e R s m args below meth c H locs cells slots Q (F0 m pc ls st0) :=
  va_callv hr hw.2 (fun q _ h => AA_mono hw.2.1 q h) (fun q h => AA_mono hw.2.1 q h) (fun u t H1 locs1 ht _ hp hB _ _ hS => by
    have ha : AA E s.heap.size u.1 := AA_mono hw.2.1 _ hB.1
    exact kk u.1 u.2 H1 locs1 ha hp (C.up h16 ha hB.2.1) (Wo.up h16 ha (ht ▸ hB.2.2) hS))
theorem done_er {Post : Wd → Prop} {a : Array Value} {mc ms : Nat} (C : Cx E p s m args c cc nL own) (hw : Wo E s w H locs) (h16 : 16 ∈ eL E) (hr : va_Run p l e R s m args below meth c H locs cells slots mc ms (F0 m pc ls st0) rest (QR E Post H.size a) (AA E H.size))
    (kk : ∀ (a : Nat) (w1 : Wd) (H1 : Heap) (locs1 : List Loc), AA E s.heap.size a → Post w1 → Cx (eUp E a) p s m args c cc nL own → Wo (eUp E a) s w1 H1 locs1 → W p l e R s m args below meth c H1 locs1 (cells + mc) (slots + ms) Q (F0 m (pc + 3) ls (.ref (eA (eUp E a) 15) :: rest))) : W p l e R s m args below meth c H locs cells slots Q (F0 m pc ls st0) :=
  va_callr hr hw.2 (fun q _ h => AA_mono hw.2.1 q h) (fun q h => AA_mono hw.2.1 q h) (fun u ra t H1 locs1 ht _ hp hB _ _ hS => by
    obtain ⟨hra, hB⟩ := hB
    subst hra
    have ha : AA E s.heap.size u.1 := AA_mono hw.2.1 _ hB.1
    have h := kk u.1 u.2 H1 locs1 ha hp (C.up h16 ha hB.2.1) (Wo.up h16 ha (ht ▸ hB.2.2) hS)
    rw [eUp_A E u.1 (by decide)] at h
    exact h)
/-- the end of such a method -/
theorem ret_ev {Post : Wd → Prop} {a mc ms : Nat} (C : Cx E p s m args c cc nL own) (hr : meth.sig.returnType = none) (hk : meth.locks = false) (h16 : 16 ∈ eL E) (ha : AA E s.heap.size a) (hI : Inj (eUp E a)) (hw : Wo (eUp E a) s w H locs) (hp : Post w) (hm : cells ≤ mc ∧ slots ≤ ms) (hd : decode cc pc = .ok (.return_, 1)) : W p l e R s m args below meth c H locs cells slots (MQ below (QV E Post s.heap.size) args s mc ms (AA E s.heap.size)) (F0 m pc ls []) := by
  have hS : va_S (AA E s.heap.size) s.heap H locs := hw.2.mono (fun q h => (AA_up h16 ha q).mp h)
  exact W.widen hm.1 hm.2 (W.vret C.1 C.2.1 hr (fun t ht hW => ⟨⟨(a, w), rfl, hp, ha, hI, show va_P _ _ _ t.heap from ht ▸ hw.1⟩, hS.F ht⟩) hS.2.2 hd hk)
theorem ret_er {Post : Wd → Prop} {a mc ms : Nat} {nm : String} (C : Cx E p s m args c cc nL own) (hr : meth.sig.returnType = some (.object nm)) (hk : meth.locks = false) (h16 : 16 ∈ eL E) (ha : AA E s.heap.size a) (hI : Inj (eUp E a)) (hw : Wo (eUp E a) s w H locs) (hp : Post w) (hm : cells ≤ mc ∧ slots ≤ ms) (hd : decode cc pc = .ok (.areturn, 1)) : W p l e R s m args below meth c H locs cells slots (MQ below (QR E Post s.heap.size) args s mc ms (AA E s.heap.size)) (F0 m pc ls [.ref (eA (eUp E a) 15)]) := by
  have hS : va_S (AA E s.heap.size) s.heap H locs := hw.2.mono (fun q h => (AA_up h16 ha q).mp h)
  rw [eUp_A E a (by decide)]
  exact W.widen hm.1 hm.2 (W.aret C.1 C.2.1 hr (Or.inl ⟨_, rfl⟩) (Or.inr ⟨_, rfl⟩) (fun t ht hW => ⟨⟨(a, w), _, rfl, hp, rfl, ha, hI, show va_P _ _ _ t.heap from ht ▸ hw.1⟩, hS.F ht⟩) hS.2.2 hd hk)
/-- the head's fields -/
theorem g9_0 (C : Cx E p s m args c cc nL own) (hw : Wo E s w H locs) (ho : 15 ∈ eL E) {index : Nat} (hl : Cond.fieldLink own index RJ5 "value" "[B" ∈ BIG) (hd : decode cc pc = .ok (.getfield index, 3)) (kk : W p l e R s m args below meth c H locs cells slots Q (F0 m (pc + 3) ls (.ref (eA E 16) :: rest))) : W p l e R s m args below meth c H locs cells slots Q (F0 m pc ls (.ref (eA E 15) :: rest)) := r_get C hw 15 9 0 ho rfl rfl inB9 (by decide) hl rfl hd kk
theorem g9_1 (C : Cx E p s m args c cc nL own) (hw : Wo E s w H locs) (ho : 15 ∈ eL E) {index : Nat} (hl : Cond.fieldLink own index RJ5 "coder" "B" ∈ BIG) (hd : decode cc pc = .ok (.getfield index, 3)) (kk : W p l e R s m args below meth c H locs cells slots Q (F0 m (pc + 3) ls (.int (gI w 15 1) :: rest))) : W p l e R s m args below meth c H locs cells slots Q (F0 m pc ls (.ref (eA E 15) :: rest)) := r_get C hw 15 9 1 ho rfl rfl inB9 (by decide) hl rfl hd kk
theorem g9_3 (C : Cx E p s m args c cc nL own) (hw : Wo E s w H locs) (ho : 15 ∈ eL E) {index : Nat} (hl : Cond.fieldLink own index RJ5 "count" "I" ∈ BIG) (hd : decode cc pc = .ok (.getfield index, 3)) (kk : W p l e R s m args below meth c H locs cells slots Q (F0 m (pc + 3) ls (.int (gI w 15 3) :: rest))) : W p l e R s m args below meth c H locs cells slots Q (F0 m pc ls (.ref (eA E 15) :: rest)) := r_get C hw 15 9 3 ho rfl rfl inB9 (by decide) hl rfl hd kk
theorem p9_3 (C : Cx E p s m args c cc nL own) (hw : Wo E s w H locs) (ho : 15 ∈ eL E) {index : Nat} {x : Int32} (hl : Cond.fieldLink own index RJ5 "count" "I" ∈ BIG) (hd : decode cc pc = .ok (.putfield index, 3)) (kk : ∀ (H1 : Heap) (locs1 : List Loc), Wo E s (sI w 15 3 x) H1 locs1 → W p l e R s m args below meth c H1 locs1 cells slots Q (F0 m (pc + 3) ls rest)) : W p l e R s m args below meth c H locs cells slots Q (F0 m pc ls (.int x :: .ref (eA E 15) :: rest)) := r_put C hw 15 9 3 tyJ4 tyJ4_ok nmJ4 ho rfl rfl inB9 (by decide) hl rfl (ty := .int) rfl rfl rfl (Nat.le_of_ble_eq_true rfl) (by unfold ce; rw [I_self]; rfl) hd kk
/-- the row -/
theorem r_rald (C : Cx E p s m args c cc nL own) (hw : Wo E s w H locs) (ho : 16 ∈ eL E) {i : Int32} (hi : vp_in i (gI w 16 0).toNatClampNeg) (hd : decode cc pc = .ok (.baload, 1))
    (kk : W p l e R s m args below meth c H locs cells slots Q (F0 m (pc + 1) ls (.int (gA w 16 i.toNatClampNeg) :: rest))) : W p l e R s m args below meth c H locs cells slots Q (F0 m pc ls (.int i :: .ref (eA E 16) :: rest)) := r_bald C hw 16 _ ho rfl hi hd kk
theorem r_ralen (C : Cx E p s m args c cc nL own) (hw : Wo E s w H locs) (ho : 16 ∈ eL E) (hd : decode cc pc = .ok (.arraylength, 1))
    (kk : W p l e R s m args below meth c H locs cells slots Q (F0 m (pc + 1) ls (.int (nI (gI w 16 0).toNatClampNeg) :: rest))) : W p l e R s m args below meth c H locs cells slots Q (F0 m pc ls (.ref (eA E 16) :: rest)) := r_alen C hw 16 1 ho rfl rfl rfl hd kk
theorem r_rast (C : Cx E p s m args c cc nL own) (hw : Wo E s w H locs) (ho : 16 ∈ eL E) {i x : Int32} (hi : vp_in i (gI w 16 0).toNatClampNeg) (hd : decode cc pc = .ok (.bastore, 1))
    (kk : ∀ (H1 : Heap) (locs1 : List Loc), Wo E s (sA w 16 i.toNatClampNeg (vp_nar .byte x)) H1 locs1 → W p l e R s m args below meth c H1 locs1 cells slots Q (F0 m (pc + 1) ls rest)) : W p l e R s m args below meth c H locs cells slots Q (F0 m pc ls (.int x :: .int i :: .ref (eA E 16) :: rest)) := by
  obtain ⟨k0, hk0⟩ := List.getElem?_of_mem ho
  exact va_bast (D := E.1) (ws := wsE E w) (A := AA E s.heap.size) C.1 C.2.1 C.2.2.2.2.2.1 hw.1 (ws_D C.2.2.2.2.2.2.2) hw.2 k0 1 (by rw [ws_i hk0]; rfl) rfl hi hd
    (fun H1 locs1 hP hD hS => kk H1 locs1 ⟨by unfold sA; rw [← ws_sF C.2.2.2.2.2.2.2 hk0 rfl]; exact hP, hS⟩)
theorem str_fit : ∀ i, i < 18 → ∀ b ∈ strBy.getD i [], fits .byte (.int b) = true := by decide +kernel
theorem r_copyt (C : Cx E p s m args c cc nL own) (hw : Wo E s w H locs) (hsz : ls.size = nL) (i : Nat) (hi : i < 18) {index : Nat} (g1 : Cond.methodLink own index arraycopyName ∈ BIG) (h16 : 16 ∈ eL E) {dp n : Int32} (hn : n = nI (strLen.getD i 0)) (h2 : ¬ dp < 0) (h5 : dp.toNatClampNeg + strLen.getD i 0 ≤ (gI w 16 0).toNatClampNeg) (hR : 1 ≤ R.frames ∧ (rest.map fun v => v.category).sum + 18 ≤ R.locals) (hd : decode cc pc = .ok (.invokestatic index, 3))
    (kk : ∀ (H1 : Heap) (locs1 : List Loc), Wo E s (sF w 16 (va_cpy (fun j => (strBy.getD i []).getD j 0) (gA w 16) 0 dp.toNatClampNeg (strLen.getD i 0))) H1 locs1 → W p l e R s m args below meth c H1 locs1 cells slots Q (F0 m (pc + 3) ls rest)) : W p l e R s m args below meth c H locs cells slots Q (F0 m pc ls (.int n :: .int dp :: .ref (eA E 16) :: .int 0 :: .ref (eT E (101 + i)) :: rest)) := by
  subst hn
  obtain ⟨k1, hk1⟩ := List.getElem?_of_mem h16
  have hlen : strLen.getD i 0 < 2 ^ 31 := by rw [(str_ok i hi).1]; exact (str_ok i hi).2.1
  have hc : (nI (strLen.getD i 0)).toNatClampNeg = strLen.getD i 0 := nI_clamp hlen
  refine vk_copyt (D := E.1) (ws := wsE E w) (A := AA E s.heap.size) C.1 C.2.1 (C.2.2.1.trans hsz.symm) C.2.2.2.1 (C.2.2.2.2.1 _ g1) (C.2.2.2.2.1 _ K_x_o_System_arraycopy_42) (C.2.2.2.2.1 _ K_s_o_System_arraycopy_42) (C.2.2.2.2.1 _ K_n_J10)
    C.2.2.2.2.2.1 hw.1 (ws_D C.2.2.2.2.2.2.2) hw.2 ((c_vkS C).1 i hi).2.2.2 k1 1 (c1 := eC E 1) (n1 := (gI w 16 0).toNatClampNeg) (g := gA w 16) (by rw [ws_i hk1]; rfl) rfl (by decide) h2 (nI_pos hlen) (by rw [hc, show (0 : Int32).toNatClampNeg = 0 from rfl]; omega) (by rw [hc]; exact h5) (fun j hj => ?_) hR.1 hR.2 hd
    (fun H1 locs1 hP hD hS => kk H1 locs1 ⟨?_, hS⟩)
  · rw [hc] at hj
    rw [show (0 : Int32).toNatClampNeg = 0 from rfl, Nat.zero_add]
    rw [(str_ok i hi).1] at hj
    refine str_fit i hi _ ?_
    rw [show (strBy.getD i []).getD j 0 = (strBy.getD i [])[j] from by rw [List.getD_eq_getElem?_getD (l := strBy.getD i []), List.getElem?_eq_getElem hj]; rfl]
    exact List.getElem_mem hj
  · rw [hc, show (0 : Int32).toNatClampNeg = 0 from rfl] at hP
    rw [← ws_sF C.2.2.2.2.2.2.2 hk1 rfl]
    exact hP
theorem r_gdig (C : Cx E p s m args c cc nL "java/lang/Integer") (hw : Wo E s w H locs) (hd : decode cc pc = .ok (.getstatic 83, 3))
    (kk : W p l e R s m args below meth c H locs cells slots Q (F0 m (pc + 3) ls (.ref (eT E 301) :: rest))) : W p l e R s m args below meth c H locs cells slots Q (F0 m pc ls rest) :=
  va_gets C.1 C.2.1 C.2.2.2.2.2.2.1.2.2.2.2.2.2.2.2.2.2.2.2.1 hw.2 C.2.2.2.1 (C.2.2.2.2.1 _ K_f_J6_83) (fun _ h => h) hd kk
theorem r_tdig (C : Cx E p s m args c cc nL own) (hw : Wo E s w H locs) {i : Int32} (hi : vp_in i 100) (hd : decode cc pc = .ok (.baload, 1))
    (kk : W p l e R s m args below meth c H locs cells slots Q (F0 m (pc + 1) ls (.int (digTab i.toNatClampNeg) :: rest))) : W p l e R s m args below meth c H locs cells slots Q (F0 m pc ls (.int i :: .ref (eT E 301) :: rest)) :=
  va_tb C.1 C.2.1 C.2.2.2.2.2.2.1.2.2.2.2.2.2.2.2.2.2.2.2.2.1 hw.2 hi rfl hd kk
/-- the script -/
theorem r_sld (C : Cx E p s m args c cc nL own) (hw : Wo E s w H locs) {i : Int32} (hi : vp_in i (eN E)) (hd : decode cc pc = .ok (.iaload, 1))
    (kk : W p l e R s m args below meth c H locs cells slots Q (F0 m (pc + 1) ls (.int (eX E i.toNatClampNeg) :: rest))) : W p l e R s m args below meth c H locs cells slots Q (F0 m pc ls (.int i :: .ref (eT E 300) :: rest)) := by
  obtain ⟨h1, h2⟩ := C.2.2.2.2.2.2.1.2.2.2.2.2.2.2.2.2.2.2.2.2.2
  exact va_sld C.1 C.2.1 h2 (vaX_lt h2) h1 hw.2 hi hd kk
theorem r_slen (C : Cx E p s m args c cc nL own) (hw : Wo E s w H locs) (hd : decode cc pc = .ok (.arraylength, 1))
    (kk : W p l e R s m args below meth c H locs cells slots Q (F0 m (pc + 1) ls (.int (nI (eN E)) :: rest))) : W p l e R s m args below meth c H locs cells slots Q (F0 m pc ls (.ref (eT E 300) :: rest)) := by
  obtain ⟨h1, h2⟩ := C.2.2.2.2.2.2.1.2.2.2.2.2.2.2.2.2.2.2.2.2.2
  exact va_slen C.1 C.2.1 h2 (vaX_lt h2) h1 hw.2 hd kk
end SBC

/-! methods that return or throw one of three exceptions -/
def exN : Nat → String
  | 0 => "java/lang/IllegalArgumentException"
  | 1 => "java/lang/IndexOutOfBoundsException"
  | _ => "java/lang/IllegalStateException"
abbrev exNm : List String := ["java/lang/RuntimeException", "java/lang/Exception"]
def exIc : Nat → Nat
  | 0 => 42
  | 1 => 128
  | _ => 245
def RmX (fr lo mc ms : Nat) : Room := { frames := fr, cells := mc, slots := ms, locals := lo }
def BX (E : En) (Ex : Nat → Wd → Prop) : String → Wd → State → Prop := fun nm w t => ∃ k : Nat, k < 3 ∧ nm = exN k ∧ Ex k w ∧ PW E w t
def XE (E : En) (Ex : Nat → Wd → Prop) (sz : Nat) : String → State → State → Prop := vx_X (fun _ : Wd => True) (BX E Ex) (AA E sz)
def MX (l : Launch) (E : En) (y : MethodName) (cc : ByteArray) (n : Nat) (ret : Option FieldType) (fr lo mc ms : Nat) (av : List Value) (w : Wd) (Qx : Nat → Array Value → State → Outcome → State → Prop) (Ex : Nat → Wd → Prop) : Prop :=
  ∀ sz : Nat, vx_Met l y (wsM y cc n ret) (RmX fr lo mc ms) (Pr E w av sz) (Qx sz) (XE E Ex sz) mc ms (AA E sz)
abbrev MXI (l : Launch) (E : En) (y : MethodName) (cc : ByteArray) (n : Nat) (ret : Option FieldType) (fr lo mc ms : Nat) (av : List Value) (w : Wd) (Post : Int32 → Wd → Prop) (Ex : Nat → Wd → Prop) : Prop := MX l E y cc n ret fr lo mc ms av w (fun sz => va_Qi Post (PW E) (AA E sz)) Ex
abbrev MXV (l : Launch) (E : En) (y : MethodName) (cc : ByteArray) (n : Nat) (ret : Option FieldType) (fr lo mc ms : Nat) (av : List Value) (w : Wd) (Post : Wd → Prop) (Ex : Nat → Wd → Prop) : Prop := MX l E y cc n ret fr lo mc ms av w (fun sz => va_Qv Post (PW E) (AA E sz)) Ex
abbrev MXD (l : Launch) (E : En) (y : MethodName) (cc : ByteArray) (n : Nat) (ret : Option FieldType) (fr lo mc ms : Nat) (av : List Value) (w : Wd) (Post : UInt64 → Wd → Prop) (Ex : Nat → Wd → Prop) : Prop := MX l E y cc n ret fr lo mc ms av w (fun sz => va_Qd Post (PW E) (AA E sz)) Ex
theorem MX.intro {l : Launch} {E : En} {y : MethodName} {cc : ByteArray} {n : Nat} {ret : Option FieldType} {fr lo mc ms : Nat} {av : List Value} {w : Wd} {Qx : Nat → Array Value → State → Outcome → State → Prop} {Ex : Nat → Wd → Prop} (hI : Inj E) (hy : plainName y.cls = true) (hen : (lg_sl av).length ≤ n)
    (body : ∀ (p : Program) (e : Env) (s : State) (m : MethodId) (args : Array Value) (below : List Frame) (meth : Method) (c : Code) (Q : State → Prop), Cx E p s m args c cc n y.cls → meth.sig.returnType = ret → meth.locks = false → (∀ x ∈ c.exceptionTable.toList, False) → Q = vx_MQ below (Qx s.heap.size) (XE E Ex s.heap.size) args s mc ms (AA E s.heap.size) → Wo E s w s.heap [] → ∀ ls : Array Slot, lv_has ls n (lv_args 0 av) → W p l e (RmX fr lo mc ms) s m args below meth c s.heap [] 0 0 Q (F0 m 0 ls [])) : MX l E y cc n ret fr lo mc ms av w Qx Ex := by
  intro sz
  refine vx_ofW (cc := cc) (maxL := n) (ret := ret) hy rfl ?_
  intro p e s m args below meth c s₁ B hml hno hv
  obtain ⟨rfl, hsz, hP, hK, hE⟩ := hv
  subst hsz
  have hts := atoms_spec (ws := wsM y cc n ret) B.pre
  have hl := lv_entry av (n := n) hen
  rw [lg_entry_eq]
  generalize (lg_sl av ++ List.replicate (n - (lg_sl av).length) Slot.unset).toArray = ls at hl ⊢
  exact body p e s m _ below meth c _ ⟨B.exec, B.bytes, hml, findClass_of_methodNamed B.named, fun w h => hts w (List.mem_cons_of_mem _ h), hK, hE, hI⟩ B.returns B.notSynchronized hno rfl ⟨hP, va_S.rf⟩ ls hl
theorem at_in : ∀ k, k < 3 → ∀ w ∈ (vx_atS "CoinLadders" (exIc k) (exN k) exNm).filter goodWord, w ∈ BIG := by
  have h : ∀ k, k < 3 → ∀ w ∈ (vx_atS "CoinLadders" (exIc k) (exN k) exNm).filter goodWord, w ∈ lw_tbl := by decide +kernel
  exact fun k hk w hw => big_of (h k hk w hw) (List.mem_filter.mp hw).2
theorem at_no : ∀ k, k < 3 → ∀ w ∈ (vx_atS "CoinLadders" (exIc k) (exN k) exNm).filter (fun w => !goodWord w), w ∈ [Cond.castable (exN k) (exN k), .declares ⟨"java/lang/RuntimeException", "<init>", "(Ljava/lang/String;)V"⟩, .declares ⟨"java/lang/Exception", "<init>", "(Ljava/lang/String;)V"⟩, .declares ⟨"java/lang/Throwable", "<init>", "(Ljava/lang/String;)V"⟩] := by decide +kernel
theorem no_nest : ∀ k, k < 3 → ∀ w ∈ [Cond.castable (exN k) (exN k), .declares ⟨"java/lang/RuntimeException", "<init>", "(Ljava/lang/String;)V"⟩, .declares ⟨"java/lang/Exception", "<init>", "(Ljava/lang/String;)V"⟩, .declares ⟨"java/lang/Throwable", "<init>", "(Ljava/lang/String;)V"⟩], w ∈ nestW ∧ w.onTables = true := by decide +kernel
theorem cast_in : ∀ k, k < 3 → Cond.castable (exN k) (exN k) ∈ nestW := by decide +kernel
theorem at_fit : ∀ k, k < 3 → Bundle.fit (exN k) = true := by decide +kernel
theorem at_nms : ∀ n ∈ exNm, Bundle.fit n = true := by decide +kernel
theorem at_ot : ∀ k, k < 3 → ∀ w ∈ vx_atS "CoinLadders" (exIc k) (exN k) exNm, vx_ot w = true := by decide +kernel
section EXC
variable {E : En} {p : Program} {l : Launch} {e : Env} {R : Room} {s : State} {m : MethodId} {args : Array Value} {below : List Frame} {meth : Method} {c : Code} {H : Heap} {locs : List Loc} {cells slots : Nat} {Q : State → Prop} {cc : ByteArray} {nL pc : Nat} {own : String} {ls : Array Slot} {rest st0 : List Value} {w : Wd}
theorem XE_of {t : State} {k : Nat} {Ex : Nat → Wd → Prop} (hw : Wo E s w H locs) (hk : k < 3) (h : Ex k w) (h1 : H.size ≤ t.heap.size) (h2 : ∀ q : Nat, q < H.size → t.heap[q]? = H[q]?) : XE E Ex s.heap.size (exN k) s t :=
  ⟨w, trivial, ⟨k, hk, rfl, h, hw.1.kept (fun j q hq => h2 q.1 (hw.1 j q hq).lt)⟩, ⟨Nat.le_trans hw.2.1 h1, fun q g1 g2 => (h2 q (Nat.lt_of_lt_of_le g1 hw.2.1)).trans (hw.2.2.1 q g1 g2)⟩⟩
theorem r_throw {Qc : Array Value → State → Outcome → State → Prop} {Ex : Nat → Wd → Prop} {mc ms ik is i : Nat} (k : Nat) (hk3 : k < 3) (C : Cx E p s m args c cc nL "CoinLadders") (hT : l.stackTraces = false) (hlk : meth.locks = false) (hno : ∀ x ∈ c.exceptionTable.toList, False) (hw : Wo E s w H locs) (hsz : ls.size = nL) (h : Ex k w)
    (g1 : Cond.classLink "CoinLadders" ik (exN k) ∈ BIG) (g2 : Cond.initialized (exN k) ∈ BIG) (hq : ("CoinLadders", is, i) ∈ strK)
    (d0 : decode cc pc = .ok (.new ik, 3)) (d3 : decode cc (pc + 3) = .ok (.dup, 1)) (d4 : decode cc (pc + 4) = .ok (.ldc is, 2)) (d6 : decode cc (pc + 6) = .ok (.invokespecial (exIc k), 3)) (d9 : decode cc (pc + 9) = .ok (.athrow, 1))
    (hR : 5 < R.frames ∧ (rest.map fun v => v.category).sum + 82 ≤ R.locals ∧ cells + 1 ≤ R.cells ∧ slots + 6 ≤ R.slots) (hc : cells + 1 ≤ mc ∧ slots + 6 ≤ ms) : W p l e R s m args below meth c H locs cells slots (vx_MQ below Qc (XE E Ex s.heap.size) args s mc ms (AA E s.heap.size)) (F0 m pc ls rest) := by
  have hts := C.2.2.2.2.1
  refine vx_throwS (own := "CoinLadders") (cls := exN k) (text := strTx.getD i "") (names := exNm) (ik := ik) (is := is) (ic := exIc k) (sa := eT E (1 + i)) (A := AA E s.heap.size) C.1 C.2.1 hT C.2.2.2.1 (at_fit k hk3) at_nms (hts _ g1) (hts _ g2) (c_vkR C _ hq) ?_ ?_ C.2.2.2.2.2.2.1.2.2.2.1 C.2.2.2.2.2.2.1.2.2.2.2.1 hw.2 (hsz.trans C.2.2.1.symm) d0 d3 d4 d6 d9 (fun x hx => (hno x hx).elim) hR.1 hR.2.1 hR.2.2.1 hR.2.2.2 hlk (fun t _ h1 h2 => XE_of hw hk3 h h1 h2) hw.2.2.2 hc.1 hc.2
  · exact vx_hat (fun x hx => hts _ (at_in k hk3 x hx)) (at_no k hk3) (fun x hx => by
      obtain ⟨h1, h2⟩ := no_nest k hk3 x hx
      exact va_Nw.use h2 (C.2.2.2.2.2.2.1.1 _ h1))
  · intro x hx
    rcases List.mem_cons.mp hx with rfl | hx
    · rfl
    · rcases List.mem_cons.mp hx with rfl | hx
      · rfl
      · exact at_ot k hk3 x hx
theorem r_out {Qc : Array Value → State → Outcome → State → Prop} {Ex : Nat → Wd → Prop} {mc ms k : Nat} {ce1 : Cell} {q : Addr} (hlk : meth.locks = false) (hno : ∀ x ∈ c.exceptionTable.toList, False) (hw : Wo E s w H locs) (hk : k < 3) (h : Ex k w) (hq : H[q]? = some ce1) (hv : ce1.vm = .none) (hcl : s.vm.findClass (exN k) = some ce1.cls) (hc : cells ≤ mc ∧ slots ≤ ms) :
    vx_W p l e R s m args below meth c H locs cells slots (vx_MQ below Qc (XE E Ex s.heap.size) args s mc ms (AA E s.heap.size)) (F0 m pc ls rest) q :=
  vx_out (E := exN k) (fun x hx => (hno x hx).elim) hlk hq hv hcl (fun t ht _ => XE_of hw hk h (by rw [ht]; exact Nat.le_refl _) (fun _ _ => by rw [ht])) hw.2.2.2 hc.1 hc.2
theorem my_CallX {y : MethodName} {bytes : ByteArray} {mL index fr lo mc ms n : Nat} {ret : Option FieldType} (C : Cx E p s m args c cc nL own) (g1 : Cond.methodLink own index y ∈ BIG) (g4 : Cond.initialized y.cls ∈ BIG) (g5 : Cond.code y bytes mL ret ∈ BIG)
    (hy : y.cls ≠ "java/lang/invoke/MethodHandle" ∧ y.cls ≠ "java/lang/invoke/VarHandle" ∧ (parseMethodDescriptor y.desc).map (fun d => d.parameters.length) = some n) (hR : fr + 1 ≤ R.frames ∧ 8 + (mL + 11) + lo ≤ R.locals) : CallB R s args own index y bytes mL ret (wsM y bytes mL ret) (RmX fr lo mc ms) mc ms n := by
  have hts := C.2.2.2.2.1
  refine ⟨rfl, rfl, hR.1, hR.2, fun x hx a' U hW => ?_, List.mem_cons_self, hts _ g5, hts _ g4, ⟨hy.1, hy.2.1⟩, fun sig h => ?_, hts _ g1⟩
  · rcases List.mem_cons.mp hx with rfl | h
    · exact word_at hW (big_good g5) (hts _ g5)
    · exact word_at hW (big_good h) (hts _ h)
  · have h2 := hy.2.2
    rw [h] at h2
    exact (Option.some.inj h2).symm
theorem my_runVX {y : MethodName} {bytes : ByteArray} {mL index fr lo mc ms : Nat} {ret : Option FieldType} {As : List Value} {Cn : String} {T : u_T} {N : Nat} {fs : List Value} {Qx : Nat → Array Value → State → Outcome → State → Prop} {Ex : Nat → Wd → Prop} (C : Cx E p s m args c cc nL own) (hw : Wo E s w H locs) (o ci : Nat) (ho : o ∈ eL E) (hce : ce E w o = .inr (ci, fs)) (hcl : vwCl[ci]? = some (Cn, T, N))
    (hM : MX l E y bytes mL ret fr lo mc ms (.ref (eA E o) :: As) w Qx Ex) (g1 : Cond.methodLink own index y ∈ BIG) (g2 : Cond.instanceMethod y ∈ BIG) (g3 : Cond.selects Cn y y ∈ BIG) (g4 : Cond.initialized y.cls ∈ BIG) (g5 : Cond.code y bytes mL ret ∈ BIG)
    (hy : y.cls ≠ "java/lang/invoke/MethodHandle" ∧ y.cls ≠ "java/lang/invoke/VarHandle" ∧ (parseMethodDescriptor y.desc).map (fun d => d.parameters.length) = some As.length) (hR : fr + 1 ≤ R.frames ∧ 8 + (mL + 11) + lo ≤ R.locals) (hsz : ls.size = nL) (hst : st0 = As.reverse ++ .ref (eA E o) :: rest) (hc : (rest.map fun v => v.category).sum ≤ 8)
    (hd : decode cc pc = .ok (.invokevirtual index, 3)) (hf : cells + mc ≤ R.cells ∧ slots + ms ≤ R.slots) : vx_Run p l e R s m args below meth c H locs cells slots mc ms (F0 m pc ls st0) rest (Qx H.size (Value.ref (eA E o) :: As).toArray) (XE E Ex H.size) (AA E H.size) :=
  vx_runV (As := As) (rest := rest) (C := Cn) (b := eA E o) ⟨C.1, C.2.1, C.2.2.1, C.2.2.2.1, C.2.2.2.2.1⟩ (hM H.size) ⟨my_CallX C g1 g4 g5 hy hR, C.2.2.2.2.1 _ g2, C.2.2.2.2.1 _ g3⟩
    ⟨Pr_blind _ _ _ _, my_recv C hw ho hce hcl, my_pre C hw _⟩ rfl rfl hsz hst (lv_room hc) hd hf
theorem my_runSX {y : MethodName} {bytes : ByteArray} {mL index fr lo mc ms : Nat} {ret : Option FieldType} {As : List Value} {Qx : Nat → Array Value → State → Outcome → State → Prop} {Ex : Nat → Wd → Prop} (C : Cx E p s m args c cc nL own) (hw : Wo E s w H locs)
    (hM : MX l E y bytes mL ret fr lo mc ms As w Qx Ex) (g1 : Cond.methodLink own index y ∈ BIG) (g2 : Cond.static y ∈ BIG) (g4 : Cond.initialized y.cls ∈ BIG) (g5 : Cond.code y bytes mL ret ∈ BIG)
    (hy : y.cls ≠ "java/lang/invoke/MethodHandle" ∧ y.cls ≠ "java/lang/invoke/VarHandle" ∧ (parseMethodDescriptor y.desc).map (fun d => d.parameters.length) = some As.length) (hR : fr + 1 ≤ R.frames ∧ 8 + (mL + 11) + lo ≤ R.locals) (hsz : ls.size = nL) (hst : st0 = As.reverse ++ rest) (hc : (rest.map fun v => v.category).sum ≤ 8)
    (hd : decode cc pc = .ok (.invokestatic index, 3)) (hf : cells + mc ≤ R.cells ∧ slots + ms ≤ R.slots) : vx_Run p l e R s m args below meth c H locs cells slots mc ms (F0 m pc ls st0) rest (Qx H.size As.toArray) (XE E Ex H.size) (AA E H.size) :=
  vx_runS (As := As) (rest := rest) ⟨C.1, C.2.1, C.2.2.1, C.2.2.2.1, C.2.2.2.2.1⟩ (hM H.size) ⟨my_CallX C g1 g4 g5 hy hR, C.2.2.2.2.1 _ g2⟩ ⟨Pr_blind _ _ _ _, my_pre C hw _⟩ rfl rfl hsz hst (lv_room hc) hd hf
theorem done_xi {Post : Int32 → Wd → Prop} {Ex : Nat → Wd → Prop} {a : Array Value} {mc ms : Nat} (hw : Wo E s w H locs) (hr : vx_Run p l e R s m args below meth c H locs cells slots mc ms (F0 m pc ls st0) rest (va_Qi Post (PW E) (AA E H.size) a) (XE E Ex H.size) (AA E H.size))
    (kx : ∀ (k : Nat) (q : Addr) (ce1 : Cell) (w1 : Wd) (H1 : Heap) (locs1 : List Loc), k < 3 → Ex k w1 → Wo E s w1 H1 locs1 → H1[q]? = some ce1 → ce1.vm = .none → s.vm.findClass (exN k) = some ce1.cls → vx_W p l e R s m args below meth c H1 locs1 (cells + mc) (slots + ms) Q (F0 m pc ls rest) q)
    (kk : ∀ (r : Int32) (w1 : Wd) (H1 : Heap) (locs1 : List Loc), Post r w1 → Wo E s w1 H1 locs1 → W p l e R s m args below meth c H1 locs1 (cells + mc) (slots + ms) Q (F0 m (pc + 3) ls (.int r :: rest))) : W p l e R s m args below meth c H locs cells slots Q (F0 m pc ls st0) :=
  vx_calli hr hw.2 (fun q _ h => AA_mono hw.2.1 q h) (fun q h => AA_mono hw.2.1 q h) (fun q _ h => AA_mono hw.2.1 q h)
    (fun nm ce1 q9 u t H1 locs1 ht _ _ hB _ _ hS g1 g2 g3 => by
      obtain ⟨k, hk, rfl, hex, hp⟩ := hB
      exact kx k q9 ce1 u H1 locs1 hk hex ⟨ht ▸ hp, hS⟩ g1 g2 g3)
    (fun r u t H1 locs1 ht _ hp hB _ _ hS => kk r u H1 locs1 hp ⟨ht ▸ hB, hS⟩)
theorem done_xv {Post : Wd → Prop} {Ex : Nat → Wd → Prop} {a : Array Value} {mc ms : Nat} (hw : Wo E s w H locs) (hr : vx_Run p l e R s m args below meth c H locs cells slots mc ms (F0 m pc ls st0) rest (va_Qv Post (PW E) (AA E H.size) a) (XE E Ex H.size) (AA E H.size))
    (kx : ∀ (k : Nat) (q : Addr) (ce1 : Cell) (w1 : Wd) (H1 : Heap) (locs1 : List Loc), k < 3 → Ex k w1 → Wo E s w1 H1 locs1 → H1[q]? = some ce1 → ce1.vm = .none → s.vm.findClass (exN k) = some ce1.cls → vx_W p l e R s m args below meth c H1 locs1 (cells + mc) (slots + ms) Q (F0 m pc ls rest) q)
    (kk : ∀ (w1 : Wd) (H1 : Heap) (locs1 : List Loc), Post w1 → Wo E s w1 H1 locs1 → W p l e R s m args below meth c H1 locs1 (cells + mc) (slots + ms) Q (F0 m (pc + 3) ls rest)) : W p l e R s m args below meth c H locs cells slots Q (F0 m pc ls st0) :=
  vx_callv hr hw.2 (fun q _ h => AA_mono hw.2.1 q h) (fun q h => AA_mono hw.2.1 q h) (fun q _ h => AA_mono hw.2.1 q h)
    (fun nm ce1 q9 u t H1 locs1 ht _ _ hB _ _ hS g1 g2 g3 => by
      obtain ⟨k, hk, rfl, hex, hp⟩ := hB
      exact kx k q9 ce1 u H1 locs1 hk hex ⟨ht ▸ hp, hS⟩ g1 g2 g3)
    (fun u t H1 locs1 ht _ hp hB _ _ hS => kk u H1 locs1 hp ⟨ht ▸ hB, hS⟩)
theorem done_xd {Post : UInt64 → Wd → Prop} {Ex : Nat → Wd → Prop} {a : Array Value} {mc ms : Nat} (hw : Wo E s w H locs) (hr : vx_Run p l e R s m args below meth c H locs cells slots mc ms (F0 m pc ls st0) rest (va_Qd Post (PW E) (AA E H.size) a) (XE E Ex H.size) (AA E H.size))
    (kx : ∀ (k : Nat) (q : Addr) (ce1 : Cell) (w1 : Wd) (H1 : Heap) (locs1 : List Loc), k < 3 → Ex k w1 → Wo E s w1 H1 locs1 → H1[q]? = some ce1 → ce1.vm = .none → s.vm.findClass (exN k) = some ce1.cls → vx_W p l e R s m args below meth c H1 locs1 (cells + mc) (slots + ms) Q (F0 m pc ls rest) q)
    (kk : ∀ (r : UInt64) (w1 : Wd) (H1 : Heap) (locs1 : List Loc), Post r w1 → Wo E s w1 H1 locs1 → W p l e R s m args below meth c H1 locs1 (cells + mc) (slots + ms) Q (F0 m (pc + 3) ls (.double r :: rest))) : W p l e R s m args below meth c H locs cells slots Q (F0 m pc ls st0) :=
  vx_calld hr hw.2 (fun q _ h => AA_mono hw.2.1 q h) (fun q h => AA_mono hw.2.1 q h) (fun q _ h => AA_mono hw.2.1 q h)
    (fun nm ce1 q9 u t H1 locs1 ht _ _ hB _ _ hS g1 g2 g3 => by
      obtain ⟨k, hk, rfl, hex, hp⟩ := hB
      exact kx k q9 ce1 u H1 locs1 hk hex ⟨ht ▸ hp, hS⟩ g1 g2 g3)
    (fun r u t H1 locs1 ht _ hp hB _ _ hS => kk r u H1 locs1 hp ⟨ht ▸ hB, hS⟩)
end EXC
/-- behind a switch of two cases -/
theorem lk_out {x : Int32} (h0 : ¬ x = nI 0) (h1 : ¬ x = nI 1) : Op.lookupswitch.offset [(0, 25), (1, 38)] 51 x.toInt = 51 := by
  have e0 : x.toInt ≠ 0 := fun h => h0 (Int32.toInt_inj.mp (h.trans rfl))
  have e1 : x.toInt ≠ 1 := fun h => h1 (Int32.toInt_inj.mp (h.trans rfl))
  simp [Op.lookupswitch.offset, e0, e1, Ne.symm e0, Ne.symm e1]

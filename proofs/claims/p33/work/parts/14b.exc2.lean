section EXC2
variable {E : En} {p : Program} {l : Launch} {e : Env} {R : Room} {s : State} {m : MethodId} {args : Array Value} {below : List Frame} {meth : Method} {c : Code} {H : Heap} {locs : List Loc} {cells slots : Nat} {Q : State → Prop} {cc : ByteArray} {nL pc : Nat} {own : String} {ls : Array Slot} {rest st0 : List Value} {w : Wd}
theorem r_throwW {Qc : Array Value → State → Outcome → State → Prop} {Ex : Nat → Wd → Prop} {mc ms ik is i : Nat} (k : Nat) (hk3 : k < 3) (C : Cx E p s m args c cc nL "CoinLadders") (hT : l.stackTraces = false) (hlk : meth.locks = false) (hno : ∀ x ∈ c.exceptionTable.toList, False) (hw : Wo E s w H locs) (hsz : ls.size = nL) (h : Ex k w)
    (g1 : Cond.classLink "CoinLadders" ik (exN k) ∈ BIG) (g2 : Cond.initialized (exN k) ∈ BIG) (hq : ("CoinLadders", is, i) ∈ strK)
    (d0 : decode cc pc = .ok (.new ik, 3)) (d3 : decode cc (pc + 3) = .ok (.dup, 1)) (d4 : decode cc (pc + 4) = .ok (.ldc_w is, 3)) (d7 : decode cc (pc + 7) = .ok (.invokespecial (exIc k), 3)) (d10 : decode cc (pc + 10) = .ok (.athrow, 1))
    (hR : 5 < R.frames ∧ (rest.map fun v => v.category).sum + 82 ≤ R.locals ∧ cells + 1 ≤ R.cells ∧ slots + 6 ≤ R.slots) (hc : cells + 1 ≤ mc ∧ slots + 6 ≤ ms) : W p l e R s m args below meth c H locs cells slots (vx_MQ below Qc (XE E Ex s.heap.size) args s mc ms (AA E s.heap.size)) (F0 m pc ls rest) := by
  have hts := C.2.2.2.2.1
  refine vx_throwSW (own := "CoinLadders") (cls := exN k) (text := strTx.getD i "") (names := exNm) (ik := ik) (is := is) (ic := exIc k) (sa := eT E (1 + i)) (A := AA E s.heap.size) C.1 C.2.1 hT C.2.2.2.1 (at_fit k hk3) at_nms (hts _ g1) (hts _ g2) (c_vkR C _ hq) ?_ ?_ C.2.2.2.2.2.2.1.2.2.2.1 C.2.2.2.2.2.2.1.2.2.2.2.1 hw.2 (hsz.trans C.2.2.1.symm) d0 d3 d4 d7 d10 (fun x hx => (hno x hx).elim) hR.1 hR.2.1 hR.2.2.1 hR.2.2.2 hlk (fun t _ h1 h2 => XE_of hw hk3 h h1 h2) hw.2.2.2 hc.1 hc.2
  · exact vx_hat (fun x hx => hts _ (at_in k hk3 x hx)) (at_no k hk3) (fun x hx => by
      obtain ⟨h1, h2⟩ := no_nest k hk3 x hx
      exact va_Nw.use h2 (C.2.2.2.2.2.2.1.1 _ h1))
  · intro x hx
    rcases List.mem_cons.mp hx with rfl | hx
    · rfl
    · rcases List.mem_cons.mp hx with rfl | hx
      · rfl
      · exact at_ot k hk3 x hx
/-- a method of the law that catches what its callee throws -/
def MW (l : Launch) (E : En) (y : MethodName) (cc : ByteArray) (n : Nat) (ret : Option FieldType) (hh : List (Nat × Nat × Nat × Nat)) (fr lo mc ms : Nat) (av : List Value) (w : Wd) (Post : Int32 → Wd → Prop) : Prop :=
  ∀ sz : Nat, vx_Met l y (.codeWith y cc n ret hh :: BIG) (RmX fr lo mc ms) (Pr E w av sz) (va_Qi Post (PW E) (AA E sz)) (XE E (fun _ _ => False) sz) mc ms (AA E sz)
theorem MW.intro {l : Launch} {E : En} {y : MethodName} {cc : ByteArray} {n : Nat} {ret : Option FieldType} {hh : List (Nat × Nat × Nat × Nat)} {fr lo mc ms : Nat} {av : List Value} {w : Wd} {Post : Int32 → Wd → Prop} (hI : Inj E) (hy : plainName y.cls = true) (hen : (lg_sl av).length ≤ n)
    (body : ∀ (p : Program) (e : Env) (s : State) (m : MethodId) (args : Array Value) (below : List Frame) (meth : Method) (c : Code) (Q : State → Prop), Cx E p s m args c cc n y.cls → meth.sig.returnType = ret → meth.locks = false → c.exceptionTable.toList = tableOf hh → Q = vx_MQ below (va_Qi Post (PW E) (AA E s.heap.size)) (XE E (fun _ _ => False) s.heap.size) args s mc ms (AA E s.heap.size) → Wo E s w s.heap [] → ∀ ls : Array Slot, lv_has ls n (lv_args 0 av) → W p l e (RmX fr lo mc ms) s m args below meth c s.heap [] 0 0 Q (F0 m 0 ls [])) : MW l E y cc n ret hh fr lo mc ms av w Post := by
  intro sz
  refine vx_ofWH (cc := cc) (maxL := n) (ret := ret) (hh := hh) hy rfl ?_
  intro p e s m args below meth c s₁ B hml hv
  obtain ⟨rfl, hsz, hP, hK, hE⟩ := hv
  subst hsz
  have hts := atoms_spec (ws := .codeWith y cc n ret hh :: BIG) B.pre
  have htab := vx_table (x := y) B (hts _ List.mem_cons_self)
  have hl := lv_entry av (n := n) hen
  rw [lg_entry_eq]
  generalize (lg_sl av ++ List.replicate (n - (lg_sl av).length) Slot.unset).toArray = ls at hl ⊢
  exact body p e s m _ below meth c _ ⟨B.exec, B.bytes, hml, findClass_of_methodNamed B.named, fun w h => hts w (List.mem_cons_of_mem _ h), hK, hE, hI⟩ B.returns B.notSynchronized htab rfl ⟨hP, va_S.rf⟩ ls hl
theorem r_catch1 {k a b hp ct : Nat} {q : Addr} {ce1 : Cell} (j : Nat) (C : Cx E p s m args c cc nL own) (htab : c.exceptionTable.toList = tableOf [(a, b, hp, ct)]) (hk : k < 3) (he : k = j) (hcv : (decide (a ≤ pc) && decide (pc < b)) = true) (h0 : ct ≠ 0) (g : Cond.classLink own ct (exN j) ∈ BIG) (hq : H[q]? = some ce1) (hv : ce1.vm = .none) (hcl : s.vm.findClass (exN k) = some ce1.cls)
    (kk : W p l e R s m args below meth c H locs cells slots Q (F0 m hp ls [.ref q])) : vx_W p l e R s m args below meth c H locs cells slots Q (F0 m pc ls rest) q := by
  subst he
  exact vx_catch (E := exN k) (name := exN k) C.2.2.2.1 [] ⟨a, b, hp, ct⟩ [] htab (fun z hz => by cases hz) hcv h0 (C.2.2.2.2.1 _ g) (va_Nw.use rfl (C.2.2.2.2.2.2.1.1 _ (cast_in k hk))) hq hv hcl kk
end EXC2

/-! constructors with more arguments; those of the StringBuilder -/
def PCa (E : En) (As : List Value) (h0 : Nat) (e0 : va_E) (sz : Nat) : Array Value → State → Prop := va_Pc (.ref h0 :: As) (fun U => U.heap.size = sz ∧ va_P E.1 vwCl [(h0, e0)] U.heap ∧ va_K E.1 vwCl (tysE E) U ∧ EE E (va_A [(h0, e0)] sz) U U.heap)
def MCa (l : Launch) (E : En) (As : List Value) (y : MethodName) (cc : ByteArray) (n fr lo mc ms : Nat) (e0 : va_E) (hd : Nat) (ids : List Nat) (post : Wd → Prop) : Prop :=
  ∀ (h0 sz : Nat), Met l y (wsM y cc n none) (RmX fr lo mc ms) (PCa E As h0 e0 sz) (va_Qv (fun u : (Nat → Nat) × Wd => u.1 hd = h0 ∧ post u.2) (BC E ids (va_A [(h0, e0)] sz)) (va_A [(h0, e0)] sz)) mc ms (va_A [(h0, e0)] sz)
theorem PCa_blind (E : En) (As : List Value) (h0 : Nat) (e0 : va_E) (sz : Nat) : FrameBlind (PCa E As h0 e0 sz) := by
  intro a U g mk q
  obtain ⟨q0, q1, qP, qK, qE⟩ := q
  exact ⟨q0, q1, qP, va_K.moved (u := U) (U := U.calling g mk a) (Vm.Alike.refl U.vm) qK, qE.calling⟩
theorem MCa.intro {l : Launch} {E : En} {As : List Value} {y : MethodName} {cc : ByteArray} {n fr lo mc ms : Nat} {e0 : va_E} {hd : Nat} {ids : List Nat} {post : Wd → Prop} (hy : plainName y.cls = true) (hn : ∀ h0, (lg_sl (Value.ref h0 :: As)).length ≤ n)
    (body : ∀ (h0 : Nat) (p : Program) (e : Env) (s : State) (m : MethodId) (args : Array Value) (below : List Frame) (meth : Method) (c : Code) (A : Nat → Prop) (Q : State → Prop), A = va_A [(h0, e0)] s.heap.size → Cc E A p s m args c cc n y.cls → meth.sig.returnType = none → meth.locks = false → meth.name = y.name → Q = MQ below (va_Qv (fun u : (Nat → Nat) × Wd => u.1 hd = h0 ∧ post u.2) (BC E ids A) A) args s mc ms A → va_P E.1 vwCl ([(h0, e0)] ++ []) s.heap → va_D A ([(h0, e0)] ++ []) → va_S A s.heap s.heap [] → ∀ ls : Array Slot, lv_has ls n (lv_args 0 (Value.ref h0 :: As)) → W p l e (RmX fr lo mc ms) s m args below meth c s.heap [] 0 0 Q (F0 m 0 ls [])) : MCa l E As y cc n fr lo mc ms e0 hd ids post := by
  intro h0 sz
  refine Met.ofW (cc := cc) (maxL := n) (ret := none) hy rfl ?_
  intro p e s m args below meth c s₁ B hml hv
  obtain ⟨rfl, hsz, hP, hK, hE⟩ := hv
  subst hsz
  have hts := atoms_spec (ws := wsM y cc n none) B.pre
  have hl := lv_entry (Value.ref h0 :: As) (n := n) (hn h0)
  rw [lg_entry_eq]
  generalize (lg_sl (Value.ref h0 :: As) ++ List.replicate (n - (lg_sl (Value.ref h0 :: As)).length) Slot.unset).toArray = ls at hl ⊢
  have hD : va_D (va_A [(h0, e0)] s.heap.size) [(h0, e0)] := by
    refine ⟨fun i j p q hi hj _ => ?_, fun k q hk => va_A.in hk⟩
    have h1 := (List.getElem?_eq_some_iff.mp hi).1
    have h2 := (List.getElem?_eq_some_iff.mp hj).1
    simp at h1 h2
    omega
  exact body h0 p e s m _ below meth c _ _ rfl ⟨B.exec, B.bytes, hml, findClass_of_methodNamed B.named, fun w h => hts w (List.mem_cons_of_mem _ h), hK, hE, fun q h => Or.inr h⟩ B.returns B.notSynchronized (name_of_methodNamed B.named B.method).1 rfl hP hD va_S.rf ls hl
section CTA
variable {E : En} {p : Program} {l : Launch} {e : Env} {R : Room} {s : State} {m : MethodId} {args : Array Value} {below : List Frame} {meth : Method} {c : Code} {H : Heap} {locs : List Loc} {cells slots : Nat} {Q : State → Prop} {cc : ByteArray} {nL pc : Nat} {own : String} {ls : Array Slot} {rest st0 : List Value} {A : Nat → Prop} {X pl : va_W}
theorem ct_prea {As : List Value} {q : Nat} {e0 : va_E} (C : Cc E A p s m args c cc nL own) (hP : va_P E.1 vwCl ((X ++ [(q, e0)]) ++ pl) H) (hD : va_D A ((X ++ [(q, e0)]) ++ pl)) (hS : va_S A s.heap H locs) : ∀ U : State, U.heap = H → s.WarmedH U.vm → PCa E As q e0 H.size (Value.ref q :: As).toArray U := by
  intro U hU hW
  have hD' : va_D A ((X ++ pl) ++ [(q, e0)]) := hD.swap
  have hP' : va_P E.1 vwCl ((X ++ pl) ++ [(q, e0)]) H := hP.swap
  have hq : ((X ++ pl) ++ [(q, e0)])[(X ++ pl).length]? = some (q, e0) := by
    rw [List.getElem?_append_right (Nat.le_refl _), Nat.sub_self]
    rfl
  refine ⟨rfl, by rw [hU], ?_, va_K.moved hW.alike C.2.2.2.2.2.1, ?_⟩
  · rw [hU]
    intro k x hx
    have hk : k = 0 := by
      have := (List.getElem?_eq_some_iff.mp hx).1
      simp at this
      omega
    subst hk
    cases hx
    exact hP' _ _ hq
  · rw [hU]
    refine C.2.2.2.2.2.2.1.go hW hS.2.1 (fun x h => ?_)
    rcases h with ⟨j, y, h⟩ | h
    · have hj : j = 0 := by
        have := (List.getElem?_eq_some_iff.mp h).1
        simp at this
        omega
      subst hj
      cases h
      exact hD'.2 _ _ hq
    · exact C.2.2.2.2.2.2.2 x (Nat.le_trans hS.1 h)
theorem ct_inita {As : List Value} {y : MethodName} {bytes : ByteArray} {mL index fr lo mc ms hd : Nat} {e0 : va_E} {ids : List Nat} {post : Wd → Prop} {q : Nat} (C : Cc E A p s m args c cc nL own) (hP : va_P E.1 vwCl ((X ++ [(q, e0)]) ++ pl) H) (hD : va_D A ((X ++ [(q, e0)]) ++ pl)) (hS : va_S A s.heap H locs)
    (hM : MCa l E As y bytes mL fr lo mc ms e0 hd ids post) (g1 : Cond.methodLink own index y ∈ BIG) (g2 : Cond.instanceMethod y ∈ BIG) (g4 : Cond.initialized y.cls ∈ BIG) (g5 : Cond.code y bytes mL none ∈ BIG) (hi : y.name = "<init>")
    (hy : y.cls ≠ "java/lang/invoke/MethodHandle" ∧ y.cls ≠ "java/lang/invoke/VarHandle" ∧ (parseMethodDescriptor y.desc).map (fun d => d.parameters.length) = some As.length) (hR : fr + 1 ≤ R.frames ∧ 8 + (mL + 11) + lo ≤ R.locals) (hsz : ls.size = nL) (hst : st0 = As.reverse ++ .ref q :: rest) (hc : (rest.map fun v => v.category).sum ≤ 8)
    (hdg : decode cc pc = .ok (.invokespecial index, 3)) (hf : cells + mc ≤ R.cells ∧ slots + ms ≤ R.slots)
    (kk : ∀ (u : Nat → Nat) (w : Wd) (H1 : Heap) (locs1 : List Loc), u hd = q → post w → va_P E.1 vwCl (X ++ (wsE (EW E ids u) w ++ pl)) H1 → va_D A (X ++ (wsE (EW E ids u) w ++ pl)) → va_S A s.heap H1 locs1 → W p l e R s m args below meth c H1 locs1 (cells + mc) (slots + ms) Q (F0 m (pc + 3) ls rest)) : W p l e R s m args below meth c H locs cells slots Q (F0 m pc ls st0) := by
  have hts := C.2.2.2.2.1
  have hA1 : ∀ x, va_A [(q, e0)] H.size x → A x := by
    have hD' : va_D A ((X ++ pl) ++ [(q, e0)]) := hD.swap
    intro x h
    rcases h with ⟨j, y, h⟩ | h
    · have hj : j = 0 := by
        have := (List.getElem?_eq_some_iff.mp h).1
        simp at this
        omega
      subst hj
      cases h
      exact hD'.2 (X ++ pl).length (q, e0) (by rw [List.getElem?_append_right (Nat.le_refl _), Nat.sub_self]; rfl)
    · exact C.2.2.2.2.2.2.2 x (Nat.le_trans hS.1 h)
  refine va_callv (va_runI (As := As) (rest := rest) ⟨C.1, C.2.1, C.2.2.1, C.2.2.2.1, hts⟩ (hM q H.size) ⟨⟨rfl, rfl, hR.1, hR.2, fun x hx a' U hW => ?_, List.mem_cons_self, hts _ g5, hts _ g4, ⟨hy.1, hy.2.1⟩, fun sig h => ?_, hts _ g1⟩, hi, hts _ g2⟩ ⟨PCa_blind _ _ _ _ _, ct_prea C hP hD hS⟩ rfl rfl hsz hst (lv_room hc) hdg hf) hS (fun x _ h => hA1 x h) hA1 (fun u t H1 locs1 ht hvm hp hB hz1 hk1 hS1 => ?_)
  · rcases List.mem_cons.mp hx with rfl | h
    · exact word_at hW (big_good g5) (hts _ g5)
    · exact word_at hW (big_good h) (hts _ h)
  · have h2 := hy.2.2
    rw [h] at h2
    exact (Option.some.inj h2).symm
  · obtain ⟨hB1, hB2⟩ := hB
    rw [ht] at hB1
    obtain ⟨j1, j2⟩ := ct_join C.2.2.2.2.2.2.2 hP hD hS hk1 hB1 hB2
    exact kk u.1 u.2 H1 locs1 hp.1 hp.2 j1 j2 hS1
end CTA
theorem hy_J5_init_d00df : yJ5_init_d00df.cls ≠ "java/lang/invoke/MethodHandle" ∧ yJ5_init_d00df.cls ≠ "java/lang/invoke/VarHandle" ∧ (parseMethodDescriptor yJ5_init_d00df.desc).map (fun d => d.parameters.length) = some 1 := by decide +kernel
theorem hy_J4_init_da8c8 : yJ4_init_da8c8.cls ≠ "java/lang/invoke/MethodHandle" ∧ yJ4_init_da8c8.cls ≠ "java/lang/invoke/VarHandle" ∧ (parseMethodDescriptor yJ4_init_da8c8.desc).map (fun d => d.parameters.length) = some 0 := by decide +kernel
def ids_SB : List Nat := [15, 16]
def post_SB (w : Wd) : Prop := gI w 15 1 = 0 ∧ gI w 15 3 = 0 ∧ gI w 16 0 = 16 ∧ ∀ i, gA w 16 i = 0
def e0_SB : va_E := .inr (9, [.null, .int 0, .int 0, .int 0])
def w_SB : Wd := (fun o k => if o = 16 ∧ k = 0 then 16 else 0, fun _ _ => 0, fun _ _ => 0, fun _ _ => 0)
set_option maxHeartbeats 4000000 in
set_option maxRecDepth 100000 in
theorem mt_J5_init_d00df (l : Launch) (E : En) : MCa l E [.int 16] yJ5_init_d00df cJ5_init_d00df 2 1 16 1 16 e0_SB 15 ids_SB post_SB := by
  refine MCa.intro (by decide +kernel) (fun _ => Nat.le_of_ble_eq_true rfl) ?_
  intro h0 p e s m args below meth c A Q hA C hr hlk hnm hQ hP hD hS ls hl
  have hx := C.1
  have hb := C.2.1
  have hl : lv_has ls 2 [(0, .ref h0), (1, .int 16)] := hl
  have hP : va_P E.1 vwCl ([(h0, e0_SB)] ++ []) s.heap := hP
  refine lv_aload_n hx hb dJ5_init_d00df_0 rfl (lv_at hl 0 rfl) ?_
  refine ct_obj C K_m_J5_3 hl.1 dJ5_init_d00df_1 ⟨Nat.le_of_ble_eq_true rfl, Nat.le_of_ble_eq_true rfl⟩ ?_
  refine va_gets hx hb C.2.2.2.2.2.2.1.2.2.2.2.2.1 hS C.2.2.2.1 (C.2.2.2.2.1 _ K_f_J5_18) (fun _ h => h) dJ5_init_d00df_4 ?_
  refine lv_if_eq (tgt := 25) hx hb dJ5_init_d00df_7 (by decide) (fun c1 => absurd c1 (by decide)) (fun c1 => ?_)
  refine lv_aload_n hx hb dJ5_init_d00df_10 rfl (lv_at hl 0 rfl) ?_
  refine lv_iload_n hx hb dJ5_init_d00df_11 rfl (lv_at hl 1 rfl) ?_
  refine ct_newa (X := [(h0, e0_SB)]) (pl := []) C hP hD hS 1 (ty := .byte) (atype := .byte) rfl K_r_FieldType_byte rfl (N := 16) (a0 := (16, .inl (fun _ => 0))) (fun _ => rfl) (by decide) (by decide) (Nat.le_of_ble_eq_true rfl) ⟨Nat.le_of_ble_eq_true rfl, Nat.le_of_ble_eq_true rfl⟩ dJ5_init_d00df_12 (fun q1 H hP hD hS => ?_)
  have hP : va_P E.1 vwCl ([(h0, .inr (9, [.null, .int 0, .int 0, .int 0])), (q1, .inl (eC E 1, 16, .inl (fun _ => 0)))]) H := hP
  have hD : va_D A ([(h0, .inr (9, [.null, .int 0, .int 0, .int 0])), (q1, .inl (eC E 1, 16, .inl (fun _ => 0)))]) := hD
  refine va_put (D := E.1) (A := A) (C := RJ4) (T := TJ4) (N := 4) (ci := 9) hx hb C.2.2.2.2.1 inB9 tyJ4 tyJ4_ok nmJ4 C.2.2.2.1 C.2.2.2.2.2.1 hP hD hS 0 rfl rfl 0 (by decide) (C.2.2.2.2.1 _ K_f_J5_15) (fun _ h => h) rfl (ty := .array .byte) rfl rfl rfl (Nat.le_of_ble_eq_true rfl) dJ5_init_d00df_14 (fun H locs hP hD hS => ?_)
  refine lv_aload_n hx hb dJ5_init_d00df_17 rfl (lv_at hl 0 rfl) ?_
  refine lv_iconst (v := 0) hx hb dJ5_init_d00df_18 (by decide) ?_
  have hP : va_P E.1 vwCl ([(h0, .inr (9, [.ref q1, .int 0, .int 0, .int 0])), (q1, .inl (eC E 1, 16, .inl (fun _ => 0)))]) H := hP
  have hD : va_D A ([(h0, .inr (9, [.ref q1, .int 0, .int 0, .int 0])), (q1, .inl (eC E 1, 16, .inl (fun _ => 0)))]) := hD
  refine va_put (D := E.1) (A := A) (C := RJ4) (T := TJ4) (N := 4) (ci := 9) hx hb C.2.2.2.2.1 inB9 tyJ4 tyJ4_ok nmJ4 C.2.2.2.1 C.2.2.2.2.2.1 hP hD hS 0 rfl rfl 1 (by decide) (C.2.2.2.2.1 _ K_f_J5_22) (fun _ h => h) rfl (ty := .byte) rfl rfl rfl (Nat.le_of_ble_eq_true rfl) dJ5_init_d00df_19 (fun H locs hP hD hS => ?_)
  refine lv_goto (tgt := 38) hx hb dJ5_init_d00df_22 (by decide) ?_
  have hP2 : va_P E.1 vwCl (wsE (EW E ids_SB (fun o => if o = 16 then q1 else h0)) w_SB) H := hP
  have hD2 : va_D A (wsE (EW E ids_SB (fun o => if o = 16 then q1 else h0)) w_SB) := hD
  rw [hQ]
  exact ct_ret (hd := 15) (post := post_SB) C hr hlk hP2 hD2 hS rfl ⟨rfl, rfl, rfl, fun _ => rfl⟩ dJ5_init_d00df_38
set_option maxHeartbeats 4000000 in
set_option maxRecDepth 100000 in
theorem mt_J4_init_da8c8 (l : Launch) (E : En) : MC l E yJ4_init_da8c8 cJ4_init_da8c8 1 2 38 1 16 e0_SB 15 ids_SB post_SB := by
  refine MC.intro (by decide +kernel) (Nat.le_of_ble_eq_true rfl) ?_
  intro h0 p e s m args below meth c A Q hA C hr hlk hnm hQ hP hD hS ls hl
  have hx := C.1
  have hb := C.2.1
  refine lv_aload_n hx hb dJ4_init_da8c8_0 rfl (lv_at hl 0 rfl) ?_
  refine lv_bipush (v := 16) hx hb dJ4_init_da8c8_1 (by decide) ?_
  refine ct_inita (As := [.int 16]) (X := []) (pl := []) (rest := []) (q := h0) C hP hD hS (mt_J5_init_d00df l E) K_m_J4_1 K_i_J5_init_d00df K_n_J5 K_c_J5_init_d00df rfl hy_J5_init_d00df ⟨Nat.le_of_ble_eq_true rfl, Nat.le_of_ble_eq_true rfl⟩ hl.1 rfl (Nat.le_of_ble_eq_true rfl) dJ4_init_da8c8_3 ⟨Nat.le_of_ble_eq_true rfl, Nat.le_of_ble_eq_true rfl⟩ (fun u1 w1 H locs hu hp hPn hDn hS => ?_)
  rw [List.append_nil] at hPn hDn
  rw [hQ]
  exact ct_ret (hd := 15) (post := post_SB) C hr hlk hPn hDn hS hu hp dJ4_init_da8c8_6

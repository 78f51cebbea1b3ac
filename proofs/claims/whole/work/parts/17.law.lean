/-! the law's loop over the one world -/
/-- a part of the objects, by a predicate; a world out of two: of the part from w1, of the rest from w -/
def ER (E : En) (p : Nat → Bool) : En := (E.1, E.2.1, E.2.2.1, E.2.2.2.1, (List.range 157).filter p)
def pC : Nat → Bool := fun o => decide (o < 15) || decide (25 ≤ o)
def pM : Nat → Bool := fun o => decide (15 ≤ o) && decide (o < 25)
def mx (p : Nat → Bool) (w w1 : Wd) : Wd := (fun o => if p o = true then w1.1 o else w.1 o, fun o => if p o = true then w1.2.1 o else w.2.1 o, fun o => if p o = true then w1.2.2.1 o else w.2.2.1 o, fun o => if p o = true then w1.2.2.2 o else w.2.2.2 o)
theorem ER_mem (p : Nat → Bool) {E : En} {o : Nat} : o ∈ eL (ER E p) ↔ o < 157 ∧ p o = true := by
  show o ∈ (List.range 157).filter p ↔ _
  rw [List.mem_filter, List.mem_range]
theorem ER_in (p : Nat → Bool) {E : En} {o : Nat} (h : o < 157) (h2 : p o = true) : o ∈ eL (ER E p) := (ER_mem p).mpr ⟨h, h2⟩
theorem ER_FC (E : En) : ∀ o, (o < 15 ∨ 25 ≤ o ∧ o < 157) → o ∈ eL (ER E pC) := fun o h => ER_in pC (by omega) (by unfold pC; rw [Bool.or_eq_true, decide_eq_true_eq, decide_eq_true_eq]; omega)
theorem ER_FM (E : En) : ∀ o, (15 ≤ o ∧ o < 25) → o ∈ eL (ER E pM) := fun o h => ER_in pM (by omega) (by unfold pM; rw [Bool.and_eq_true, decide_eq_true_eq, decide_eq_true_eq]; omega)
section LAWR
variable {E : En} {p : Program} {l : Launch} {e : Env} {R : Room} {s : State} {m : MethodId} {args : Array Value} {below : List Frame} {meth : Method} {c : Code} {H : Heap} {locs : List Loc} {cells slots : Nat} {Q : State → Prop} {cc : ByteArray} {nL pc : Nat} {own : String} {ls : Array Slot} {rest st0 : List Value} {w : Wd}
theorem my_runSW {y : MethodName} {bytes : ByteArray} {mL index fr lo mc ms : Nat} {ret : Option FieldType} {hh : List (Nat × Nat × Nat × Nat)} {As : List Value} {Post : Int32 → Wd → Prop} (C : Cx E p s m args c cc nL own) (hw : Wo E s w H locs)
    (hM : MW l E y bytes mL ret hh fr lo mc ms As w Post) (g1 : Cond.methodLink own index y ∈ BIG) (g2 : Cond.static y ∈ BIG) (g4 : Cond.initialized y.cls ∈ BIG) (g5 : Cond.codeWith y bytes mL ret hh ∈ BIG)
    (hy : y.cls ≠ "java/lang/invoke/MethodHandle" ∧ y.cls ≠ "java/lang/invoke/VarHandle" ∧ (parseMethodDescriptor y.desc).map (fun d => d.parameters.length) = some As.length) (hR : fr + 1 ≤ R.frames ∧ 8 + (mL + 11) + lo ≤ R.locals) (hsz : ls.size = nL) (hst : st0 = As.reverse ++ rest) (hc : (rest.map fun v => v.category).sum ≤ 8)
    (hd : decode cc pc = .ok (.invokestatic index, 3)) (hf : cells + mc ≤ R.cells ∧ slots + ms ≤ R.slots) : vx_Run p l e R s m args below meth c H locs cells slots mc ms (F0 m pc ls st0) rest (va_Qi Post (PW E) (AA E H.size) As.toArray) (XE E (fun _ _ => False) H.size) (AA E H.size) := by
  have hts := C.2.2.2.2.1
  refine vx_runSX (As := As) (rest := rest) (hh := hh) ⟨C.1, C.2.1, C.2.2.1, C.2.2.2.1, C.2.2.2.2.1⟩ (hM H.size) ⟨⟨rfl, rfl, hR.1, hR.2, fun x hx a' U hW => ?_, List.mem_cons_self⟩, hts _ g5, hts _ g4, ⟨hy.1, hy.2.1⟩, fun sig h => ?_, hts _ g1, hts _ g2⟩ ⟨Pr_blind _ _ _ _, my_pre C hw _⟩ rfl rfl hsz hst (lv_room hc) hd hf
  · rcases List.mem_cons.mp hx with rfl | h
    · exact word_at hW (big_good g5) (hts _ g5)
    · exact word_at hW (big_good h) (hts _ h)
  · have h2 := hy.2.2
    rw [h] at h2
    exact (Option.some.inj h2).symm
theorem ER_Inj (q : Nat → Bool) (hI : Inj E) (hE : eL E = List.range 157) : Inj (ER E q) := by
  refine ⟨List.Nodup.sublist (List.filter_sublist (p := q)) List.nodup_range, fun i j hi hj h => hI.2 i j ?_ ?_ h⟩
  · rw [hE]; exact List.mem_range.mpr ((ER_mem q).mp hi).1
  · rw [hE]; exact List.mem_range.mpr ((ER_mem q).mp hj).1
theorem ER_AA (q : Nat → Bool) (hE : eL E = List.range 157) {sz : Nat} : ∀ x, AA (ER E q) sz x → AA E sz x := by
  intro x h
  rcases h with ⟨o, ho, h⟩ | h
  · exact Or.inl ⟨o, by rw [hE]; exact List.mem_range.mpr ((ER_mem q).mp ho).1, h⟩
  · exact Or.inr h
theorem ER_C (q : Nat → Bool) (C : Cx E p s m args c cc nL own) (hE : eL E = List.range 157) : Cx (ER E q) p s m args c cc nL own := by
  obtain ⟨h1, h2, h3, h4, h5, h6, h7, h8⟩ := C
  refine ⟨h1, h2, h3, h4, h5, h6, ?_, ER_Inj q h8 hE⟩
  obtain ⟨g1, g2, g3, g4, g5, g6, g7, g8, g9, g10, g11, g12⟩ := h7
  have n := ER_AA (E := E) q hE (sz := s.heap.size)
  exact ⟨g1, g2.narrow n, g3.narrow n, g4.narrow n, g5.narrow n, g6.narrow n, g7.narrow n, g8.narrow n, g9, g10, g11, g12⟩
theorem ER_W (q : Nat → Bool) (hw : Wo E s w H locs) (hlz : ∀ o, o ∈ eL E → s.heap.size ≤ eA E o) (hE : eL E = List.range 157) : Wo (ER E q) s w H locs := by
  refine ⟨fun k x hk => ?_, hw.2.1, fun x h1 h2 => hw.2.2.1 x h1 (fun h => h2 ?_), fun x hx => ?_⟩
  · obtain ⟨o, ho, rfl⟩ := ws_of hk
    have hm : o ∈ eL E := by rw [hE]; exact List.mem_range.mpr ((ER_mem q).mp (List.mem_of_getElem? ho)).1
    obtain ⟨k0, hk0⟩ := List.getElem?_of_mem hm
    exact hw.1 k0 _ (ws_i hk0)
  · rcases h with ⟨o, ho, h⟩ | h
    · exact Or.inr (by rw [h]; exact hlz o ho)
    · exact Or.inr h
  · rcases hw.2.2.2 x hx with ⟨o, ho, h⟩ | h
    · exact Or.inr (by rw [h]; exact hlz o ho)
    · exact Or.inr h
theorem ER_back (q : Nat → Bool) {w1 : Wd} {H1 : Heap} {locs1 : List Loc} (C : Cx E p s m args c cc nL own) (hw : Wo E s w H locs) (hE : eL E = List.range 157) (h1 : va_P E.1 vwCl (wsE (ER E q) w1) H1) (hk : ∀ x : Nat, x < H.size → ¬ AA (ER E q) H.size x → H1[x]? = H[x]?) (hS : va_S (AA E s.heap.size) s.heap H1 locs1) : Wo E s (mx q w w1) H1 locs1 := by
  refine ⟨fun k x hx => ?_, hS⟩
  obtain ⟨o, ho, rfl⟩ := ws_of hx
  have hm := List.mem_of_getElem? ho
  have ho157 : o < 157 := by rw [hE] at hm; exact List.mem_range.mp hm
  by_cases hq : q o = true
  · obtain ⟨k0, hk0⟩ := List.getElem?_of_mem (ER_in (E := E) q ho157 hq)
    have e : ce E (mx q w w1) o = ce (ER E q) w1 o := by
      unfold ce mx
      simp only [hq, if_true]
      rfl
    rw [e]
    exact h1 k0 _ (ws_i hk0)
  · have e : ce E (mx q w w1) o = ce E w o := by
      unfold ce mx
      simp only [hq]
      rfl
    have hold := hw.1 k _ (ws_i ho)
    rw [e]
    refine hold.kept (hk _ hold.lt (fun h => ?_))
    rcases h with ⟨o2, h2, h3⟩ | h
    · obtain ⟨h4, h5⟩ := (ER_mem q).mp h2
      have : o = o2 := C.2.2.2.2.2.2.2.2 o o2 hm (by rw [hE]; exact List.mem_range.mpr h4) h3
      rw [this] at hq
      exact hq h5
    · have := hold.lt
      exact absurd h (Nat.not_le.mpr this)
theorem lw_done_i (q : Nat → Bool) {Post : Int32 → Wd → Prop} {a : Array Value} (C : Cx E p s m args c cc nL own) (hw : Wo E s w H locs) (hlz : ∀ o, o ∈ eL E → s.heap.size ≤ eA E o) (hE : eL E = List.range 157) (hr : va_Run p l e R s m args below meth c H locs cells slots 0 0 (F0 m pc ls st0) rest (va_Qi Post (PW (ER E q)) (AA (ER E q) H.size) a) (AA (ER E q) H.size))
    (kk : ∀ (r : Int32) (w1 : Wd) (H1 : Heap) (locs1 : List Loc), Post r w1 → Wo E s (mx q w w1) H1 locs1 → W p l e R s m args below meth c H1 locs1 cells slots Q (F0 m (pc + 3) ls (.int r :: rest))) : W p l e R s m args below meth c H locs cells slots Q (F0 m pc ls st0) :=
  va_calli hr hw.2 (fun x _ h => AA_mono hw.2.1 x (ER_AA q hE x h)) (fun x h => AA_mono hw.2.1 x (ER_AA q hE x h)) (fun r u t H1 locs1 ht _ hp hB _ hk1 hS => kk r u H1 locs1 hp (ER_back q C hw hE (ht ▸ hB) hk1 hS))
theorem lw_done_d (q : Nat → Bool) {Post : UInt64 → Wd → Prop} {a : Array Value} (C : Cx E p s m args c cc nL own) (hw : Wo E s w H locs) (hlz : ∀ o, o ∈ eL E → s.heap.size ≤ eA E o) (hE : eL E = List.range 157) (hr : va_Run p l e R s m args below meth c H locs cells slots 0 0 (F0 m pc ls st0) rest (va_Qd Post (PW (ER E q)) (AA (ER E q) H.size) a) (AA (ER E q) H.size))
    (kk : ∀ (r : UInt64) (w1 : Wd) (H1 : Heap) (locs1 : List Loc), Post r w1 → Wo E s (mx q w w1) H1 locs1 → W p l e R s m args below meth c H1 locs1 cells slots Q (F0 m (pc + 3) ls (.double r :: rest))) : W p l e R s m args below meth c H locs cells slots Q (F0 m pc ls st0) :=
  va_calld hr hw.2 (fun x _ h => AA_mono hw.2.1 x (ER_AA q hE x h)) (fun x h => AA_mono hw.2.1 x (ER_AA q hE x h)) (fun r u t H1 locs1 ht _ hp hB _ hk1 hS => kk r u H1 locs1 hp (ER_back q C hw hE (ht ▸ hB) hk1 hS))
theorem lw_done_w (q : Nat → Bool) {Post : Int32 → Wd → Prop} {a : Array Value} {mc ms : Nat} (C : Cx E p s m args c cc nL own) (hw : Wo E s w H locs) (hlz : ∀ o, o ∈ eL E → s.heap.size ≤ eA E o) (hE : eL E = List.range 157) (hr : vx_Run p l e R s m args below meth c H locs cells slots mc ms (F0 m pc ls st0) rest (va_Qi Post (PW (ER E q)) (AA (ER E q) H.size) a) (XE (ER E q) (fun _ _ => False) H.size) (AA (ER E q) H.size))
    (kk : ∀ (r : Int32) (w1 : Wd) (H1 : Heap) (locs1 : List Loc), Post r w1 → Wo E s (mx q w w1) H1 locs1 → W p l e R s m args below meth c H1 locs1 (cells + mc) (slots + ms) Q (F0 m (pc + 3) ls (.int r :: rest))) : W p l e R s m args below meth c H locs cells slots Q (F0 m pc ls st0) :=
  vx_calli hr hw.2 (fun x _ h => AA_mono hw.2.1 x (ER_AA q hE x h)) (fun x h => AA_mono hw.2.1 x (ER_AA q hE x h)) (fun x _ h => AA_mono hw.2.1 x (ER_AA q hE x h))
    (fun nm ce1 q9 u t H1 locs1 ht _ _ hB _ _ hS g1 g2 g3 => by
      obtain ⟨k, hk, rfl, hex, hp⟩ := hB
      exact hex.elim)
    (fun r u t H1 locs1 ht _ hp hB _ hk1 hS => kk r u H1 locs1 hp (ER_back q C hw hE (ht ▸ hB) hk1 hS))
theorem done_w {Post : Int32 → Wd → Prop} {a : Array Value} {mc ms : Nat} (hw : Wo E s w H locs) (hr : vx_Run p l e R s m args below meth c H locs cells slots mc ms (F0 m pc ls st0) rest (va_Qi Post (PW E) (AA E H.size) a) (XE E (fun _ _ => False) H.size) (AA E H.size))
    (kk : ∀ (r : Int32) (w1 : Wd) (H1 : Heap) (locs1 : List Loc), Post r w1 → Wo E s w1 H1 locs1 → W p l e R s m args below meth c H1 locs1 (cells + mc) (slots + ms) Q (F0 m (pc + 3) ls (.int r :: rest))) : W p l e R s m args below meth c H locs cells slots Q (F0 m pc ls st0) :=
  done_xi hw hr (fun k q ce1 w1 H1 locs1 hk h => h.elim) kk
end LAWR
theorem law_nI (t : Nat) : nI (6 * t) + 6 = nI (6 * (t + 1)) := by
  rw [show (6 : Int32) = nI 6 from rfl, nI_add]
  congr 1
theorem law_le {L t : Nat} (hL : L ≤ 3072) (h : ¬ nI L - 6 < nI (6 * t)) (ht : t ≤ 512) : 6 * t + 6 ≤ L := by
  apply Decidable.byContradiction
  intro hn
  apply h
  rw [show (6 : Int32) = nI 6 from rfl, Int32.lt_iff_toInt_lt, pk_sub_toInt (by omega) (by omega), nI_toInt (by omega)]
  omega
theorem law_end {E : En} {p : Program} {l : Launch} {e : Env} {s : State} {m : MethodId} {args : Array Value} {below : List Frame} {meth : Method} {c : Code} {H : Heap} {locs : List Loc} {k n : Nat} {Q : State → Prop} {nL pc b : Nat} {own : String} {ls : Array Slot} {w : Wd} (hargs : args = #[Value.ref b]) (hQ : Q = lw_Z below args s) (C : Cx E p s m args c code nL own) (hr : meth.sig.returnType = ret) (hlk : meth.locks = false) (hw : Wo E s w H locs) (hlz : ∀ o, o ∈ eL E → s.heap.size ≤ eA E o) (hk : k ≤ 601024) (hn : n ≤ 7293033) (hd : decode code pc = .ok (.ireturn, 1)) : W p l e room_1 s m args below meth c H locs k n Q (F0 m pc ls [.int 1]) := by
  subst hargs
  subst hQ
  refine va_forget (fun q hq => ?_) ?_
  · rcases hw.2.2.2 q hq with ⟨o, ho, h⟩ | h
    · rw [h]; exact hlz o ho
    · exact h
  refine W.widen (k := 601024) (n := 7293033) hk hn ?_
  refine W.base ?_
  exact lw_ret (Drawn.sameBut.refl s.drawn lw_cs) C.1 C.2.1 hr hlk hd
def wp_law (xs : Nat → Int32) (L : Nat) (w : Wd) : Prop :=
  ∀ J28 : Int32 → Wd → Prop, (∀ (x5 : Int32) (w : Wd), ((((nI L) - 6) < x5 → (True)) ∧ (¬ ((nI L) - 6) < x5 → (vp_in x5 L ∧ ((((xs x5.toNatClampNeg) &&& 31) = nI 0 → (vp_in (x5 + 1) L ∧ (vp_in (x5 + 2) L ∧ (vp_in (x5 + 3) L ∧ (vp_in (x5 + 4) L ∧ (vp_in (x5 + 5) L ∧ (wp_X8_append w (xs (x5 + 1).toNatClampNeg) (xs (x5 + 2).toNatClampNeg) (xs (x5 + 3).toNatClampNeg) (xs (x5 + 4).toNatClampNeg) (xs (x5 + 5).toNatClampNeg) (fun r1 w1 => vp_in (x5 + 1) L ∧ (vp_in (x5 + 2) L ∧ (vp_in (x5 + 3) L ∧ (vp_in (x5 + 4) L ∧ (vp_in (x5 + 5) L ∧ (wp_X9_append (mx pC w w1) (xs (x5 + 1).toNatClampNeg) (xs (x5 + 2).toNatClampNeg) (xs (x5 + 3).toNatClampNeg) (xs (x5 + 4).toNatClampNeg) (xs (x5 + 5).toNatClampNeg) (fun r2 w2 => (r1 = r2 → (∀ y1 : Int32, y1 = x5 + 6 → (J28 y1 (mx pM (mx pC w w1) w2)))) ∧ (¬ r1 = r2 → (False)))))))))))))))) ∧ (¬ ((xs x5.toNatClampNeg) &&& 31) = nI 0 → ((((xs x5.toNatClampNeg) &&& 31) = nI 1 → (vp_in (x5 + 1) L ∧ (wp_L_parse w (xs (x5 + 1).toNatClampNeg) (fun r3 w3 => vp_in (x5 + 1) L ∧ (wp_X9_parse (mx pC w w3) (xs (x5 + 1).toNatClampNeg) (fun r4 w4 => wp_X9_thrown (mx pM (mx pC w w3) w4) (fun r5 w5 => (r5 = r3 → ((r3 = 0 → (((lg_cmp (gL (mx pM (mx pM (mx pC w w3) w4) w5) 25 0) r4.toInt64) = 0 → (∀ y3 : Int32, y3 = x5 + 6 → (J28 y3 (mx pM (mx pM (mx pC w w3) w4) w5)))) ∧ (¬ (lg_cmp (gL (mx pM (mx pM (mx pC w w3) w4) w5) 25 0) r4.toInt64) = 0 → (False)))) ∧ (¬ r3 = 0 → (∀ y2 : Int32, y2 = x5 + 6 → (J28 y2 (mx pM (mx pM (mx pC w w3) w4) w5)))))) ∧ (¬ r5 = r3 → (False))))))))) ∧ (¬ ((xs x5.toNatClampNeg) &&& 31) = nI 1 → ((((xs x5.toNatClampNeg) &&& 31) = nI 2 → (vp_in (x5 + 1) L ∧ (wp_L_size w (xs (x5 + 1).toNatClampNeg) (fun r6 w6 => vp_in (x5 + 1) L ∧ (wp_X9_size (mx pC w w6) (xs (x5 + 1).toNatClampNeg) (fun r7 w7 => wp_X9_thrown (mx pM (mx pC w w6) w7) (fun r8 w8 => (r8 = r6 → ((r6 = 0 → (((lg_cmp (gL (mx pM (mx pM (mx pC w w6) w7) w8) 25 0) r7.toInt64) = 0 → (∀ y5 : Int32, y5 = x5 + 6 → (J28 y5 (mx pM (mx pM (mx pC w w6) w7) w8)))) ∧ (¬ (lg_cmp (gL (mx pM (mx pM (mx pC w w6) w7) w8) 25 0) r7.toInt64) = 0 → (False)))) ∧ (¬ r6 = 0 → (∀ y4 : Int32, y4 = x5 + 6 → (J28 y4 (mx pM (mx pM (mx pC w w6) w7) w8)))))) ∧ (¬ r8 = r6 → (False))))))))) ∧ (¬ ((xs x5.toNatClampNeg) &&& 31) = nI 2 → ((((xs x5.toNatClampNeg) &&& 31) = nI 3 → (vp_in (x5 + 1) L ∧ (vp_in (x5 + 2) L ∧ (wp_L_ladder w (xs (x5 + 1).toNatClampNeg) (xs (x5 + 2).toNatClampNeg) (fun r9 w9 => vp_in (x5 + 1) L ∧ (vp_in (x5 + 2) L ∧ (wp_X9_ladder (mx pC w w9) (xs (x5 + 1).toNatClampNeg) (xs (x5 + 2).toNatClampNeg) (fun r10 w10 => wp_X9_thrown (mx pM (mx pC w w9) w10) (fun r11 w11 => (r11 = r9 → ((r9 = 0 → (((lg_cmp (gL (mx pM (mx pM (mx pC w w9) w10) w11) 25 0) r10.toInt64) = 0 → (∀ y7 : Int32, y7 = x5 + 6 → (J28 y7 (mx pM (mx pM (mx pC w w9) w10) w11)))) ∧ (¬ (lg_cmp (gL (mx pM (mx pM (mx pC w w9) w10) w11) 25 0) r10.toInt64) = 0 → (False)))) ∧ (¬ r9 = 0 → (∀ y6 : Int32, y6 = x5 + 6 → (J28 y6 (mx pM (mx pM (mx pC w w9) w10) w11)))))) ∧ (¬ r11 = r9 → (False))))))))))) ∧ (¬ ((xs x5.toNatClampNeg) &&& 31) = nI 3 → ((((xs x5.toNatClampNeg) &&& 31) = nI 4 → (vp_in (x5 + 1) L ∧ (vp_in (x5 + 2) L ∧ (wp_L_set w (xs (x5 + 1).toNatClampNeg) (xs (x5 + 2).toNatClampNeg) (fun r12 w12 => vp_in (x5 + 1) L ∧ (vp_in (x5 + 2) L ∧ (wp_X9_set (mx pC w w12) (xs (x5 + 1).toNatClampNeg) (xs (x5 + 2).toNatClampNeg) (fun r13 w13 => wp_X9_thrown (mx pM (mx pC w w12) w13) (fun r14 w14 => (r14 = r12 → ((r12 = 0 → (((lg_cmp (gL (mx pM (mx pM (mx pC w w12) w13) w14) 25 0) r13.toInt64) = 0 → (∀ y9 : Int32, y9 = x5 + 6 → (J28 y9 (mx pM (mx pM (mx pC w w12) w13) w14)))) ∧ (¬ (lg_cmp (gL (mx pM (mx pM (mx pC w w12) w13) w14) 25 0) r13.toInt64) = 0 → (False)))) ∧ (¬ r12 = 0 → (∀ y8 : Int32, y8 = x5 + 6 → (J28 y8 (mx pM (mx pM (mx pC w w12) w13) w14)))))) ∧ (¬ r14 = r12 → (False))))))))))) ∧ (¬ ((xs x5.toNatClampNeg) &&& 31) = nI 4 → ((((xs x5.toNatClampNeg) &&& 31) = nI 5 → (vp_in (x5 + 1) L ∧ (vp_in (x5 + 2) L ∧ (wp_L_player w (xs (x5 + 1).toNatClampNeg) (xs (x5 + 2).toNatClampNeg) (fun r15 w15 => vp_in (x5 + 1) L ∧ (vp_in (x5 + 2) L ∧ (wp_X9_player (mx pC w w15) (xs (x5 + 1).toNatClampNeg) (xs (x5 + 2).toNatClampNeg) (fun r16 w16 => wp_X9_thrown (mx pM (mx pC w w15) w16) (fun r17 w17 => (r17 = r15 → ((r15 = 0 → (((lg_cmp (gL (mx pM (mx pM (mx pC w w15) w16) w17) 25 0) r16.toInt64) = 0 → (∀ y11 : Int32, y11 = x5 + 6 → (J28 y11 (mx pM (mx pM (mx pC w w15) w16) w17)))) ∧ (¬ (lg_cmp (gL (mx pM (mx pM (mx pC w w15) w16) w17) 25 0) r16.toInt64) = 0 → (False)))) ∧ (¬ r15 = 0 → (∀ y10 : Int32, y10 = x5 + 6 → (J28 y10 (mx pM (mx pM (mx pC w w15) w16) w17)))))) ∧ (¬ r17 = r15 → (False))))))))))) ∧ (¬ ((xs x5.toNatClampNeg) &&& 31) = nI 5 → ((((xs x5.toNatClampNeg) &&& 31) = nI 6 → (vp_in (x5 + 1) L ∧ (vp_in (x5 + 2) L ∧ (wp_L_act w (xs (x5 + 1).toNatClampNeg) (xs (x5 + 2).toNatClampNeg) (fun r18 w18 => vp_in (x5 + 1) L ∧ (vp_in (x5 + 2) L ∧ (wp_X9_act (mx pC w w18) (xs (x5 + 1).toNatClampNeg) (xs (x5 + 2).toNatClampNeg) (fun r19 w19 => wp_X9_thrown (mx pM (mx pC w w18) w19) (fun r20 w20 => (r20 = r18 → ((r18 = 0 → (((lg_cmp (gL (mx pM (mx pM (mx pC w w18) w19) w20) 25 0) r19.toInt64) = 0 → (∀ y13 : Int32, y13 = x5 + 6 → (J28 y13 (mx pM (mx pM (mx pC w w18) w19) w20)))) ∧ (¬ (lg_cmp (gL (mx pM (mx pM (mx pC w w18) w19) w20) 25 0) r19.toInt64) = 0 → (False)))) ∧ (¬ r18 = 0 → (∀ y12 : Int32, y12 = x5 + 6 → (J28 y12 (mx pM (mx pM (mx pC w w18) w19) w20)))))) ∧ (¬ r20 = r18 → (False))))))))))) ∧ (¬ ((xs x5.toNatClampNeg) &&& 31) = nI 6 → ((((xs x5.toNatClampNeg) &&& 31) = nI 7 → (vp_in (x5 + 1) L ∧ (vp_in (x5 + 2) L ∧ (wp_L_valueOf w (xs (x5 + 1).toNatClampNeg) (xs (x5 + 2).toNatClampNeg) (fun r21 w21 => vp_in (x5 + 1) L ∧ (vp_in (x5 + 2) L ∧ (wp_X9_valueOf (mx pC w w21) (xs (x5 + 1).toNatClampNeg) (xs (x5 + 2).toNatClampNeg) (fun r22 w22 => wp_X9_thrown (mx pM (mx pC w w21) w22) (fun r23 w23 => (r23 = r21 → ((r21 = 0 → (((lg_cmp (gL (mx pM (mx pM (mx pC w w21) w22) w23) 25 0) r22.toInt64) = 0 → (∀ y15 : Int32, y15 = x5 + 6 → (J28 y15 (mx pM (mx pM (mx pC w w21) w22) w23)))) ∧ (¬ (lg_cmp (gL (mx pM (mx pM (mx pC w w21) w22) w23) 25 0) r22.toInt64) = 0 → (False)))) ∧ (¬ r21 = 0 → (∀ y14 : Int32, y14 = x5 + 6 → (J28 y14 (mx pM (mx pM (mx pC w w21) w22) w23)))))) ∧ (¬ r23 = r21 → (False))))))))))) ∧ (¬ ((xs x5.toNatClampNeg) &&& 31) = nI 7 → ((((xs x5.toNatClampNeg) &&& 31) = nI 8 → (wp_X8_sum w (fun r24 w24 => wp_X9_sum (mx pC w w24) (fun r25 w25 => (r24 = r25 → (∀ y16 : Int32, y16 = x5 + 6 → (J28 y16 (mx pM (mx pC w w24) w25)))) ∧ (¬ r24 = r25 → (False)))))) ∧ (¬ ((xs x5.toNatClampNeg) &&& 31) = nI 8 → ((((xs x5.toNatClampNeg) &&& 31) = nI 9 → (vp_in (x5 + 1) L ∧ (wp_L_stepsOn w (xs (x5 + 1).toNatClampNeg) (fun r26 w26 => vp_in (x5 + 1) L ∧ (wp_X9_stepsOn (mx pC w w26) (xs (x5 + 1).toNatClampNeg) (fun r27 w27 => wp_X9_thrown (mx pM (mx pC w w26) w27) (fun r28 w28 => (r28 = r26 → ((r26 = 0 → (((lg_cmp (gL (mx pM (mx pM (mx pC w w26) w27) w28) 25 0) r27.toInt64) = 0 → (∀ y18 : Int32, y18 = x5 + 6 → (J28 y18 (mx pM (mx pM (mx pC w w26) w27) w28)))) ∧ (¬ (lg_cmp (gL (mx pM (mx pM (mx pC w w26) w27) w28) 25 0) r27.toInt64) = 0 → (False)))) ∧ (¬ r26 = 0 → (∀ y17 : Int32, y17 = x5 + 6 → (J28 y17 (mx pM (mx pM (mx pC w w26) w27) w28)))))) ∧ (¬ r28 = r26 → (False))))))))) ∧ (¬ ((xs x5.toNatClampNeg) &&& 31) = nI 9 → ((((xs x5.toNatClampNeg) &&& 31) = nI 10 → (vp_in (x5 + 1) L ∧ (wp_L_longest w (xs (x5 + 1).toNatClampNeg) (fun r29 w29 => vp_in (x5 + 1) L ∧ (wp_X9_longest (mx pC w w29) (xs (x5 + 1).toNatClampNeg) (fun r30 w30 => wp_X9_thrown (mx pM (mx pC w w29) w30) (fun r31 w31 => (r31 = r29 → ((r29 = 0 → (((lg_cmp (gL (mx pM (mx pM (mx pC w w29) w30) w31) 25 0) r30.toInt64) = 0 → (∀ y20 : Int32, y20 = x5 + 6 → (J28 y20 (mx pM (mx pM (mx pC w w29) w30) w31)))) ∧ (¬ (lg_cmp (gL (mx pM (mx pM (mx pC w w29) w30) w31) 25 0) r30.toInt64) = 0 → (False)))) ∧ (¬ r29 = 0 → (∀ y19 : Int32, y19 = x5 + 6 → (J28 y19 (mx pM (mx pM (mx pC w w29) w30) w31)))))) ∧ (¬ r31 = r29 → (False))))))))) ∧ (¬ ((xs x5.toNatClampNeg) &&& 31) = nI 10 → ((((xs x5.toNatClampNeg) &&& 31) = nI 11 → (vp_in (x5 + 1) L ∧ (wp_L_positions w (xs (x5 + 1).toNatClampNeg) (fun r32 w32 => vp_in (x5 + 1) L ∧ (wp_X9_positions (mx pC w w32) (xs (x5 + 1).toNatClampNeg) (fun r33 w33 => wp_X9_thrown (mx pM (mx pC w w32) w33) (fun r34 w34 => (r34 = r32 → ((r32 = 0 → (((lg_cmp (gL (mx pM (mx pM (mx pC w w32) w33) w34) 25 0) r33.toInt64) = 0 → (∀ y22 : Int32, y22 = x5 + 6 → (J28 y22 (mx pM (mx pM (mx pC w w32) w33) w34)))) ∧ (¬ (lg_cmp (gL (mx pM (mx pM (mx pC w w32) w33) w34) 25 0) r33.toInt64) = 0 → (False)))) ∧ (¬ r32 = 0 → (∀ y21 : Int32, y21 = x5 + 6 → (J28 y21 (mx pM (mx pM (mx pC w w32) w33) w34)))))) ∧ (¬ r34 = r32 → (False))))))))) ∧ (¬ ((xs x5.toNatClampNeg) &&& 31) = nI 11 → ((((xs x5.toNatClampNeg) &&& 31) = nI 12 → (vp_in (x5 + 1) L ∧ (wp_L_meanValue w (xs (x5 + 1).toNatClampNeg) (fun r35 w35 => vp_in (x5 + 1) L ∧ (wp_X9_meanValue (mx pC w w35) (xs (x5 + 1).toNatClampNeg) (fun r36 w36 => wp_X9_thrown (mx pM (mx pC w w35) w36) (fun r37 w37 => (r37 = r35 → ((r35 = 0 → (((Op.cmpValue (FP.dcmp (gD (mx pM (mx pM (mx pC w w35) w36) w37) 26 0) r36) .l) = 0 → (∀ y24 : Int32, y24 = x5 + 6 → (J28 y24 (mx pM (mx pM (mx pC w w35) w36) w37)))) ∧ (¬ (Op.cmpValue (FP.dcmp (gD (mx pM (mx pM (mx pC w w35) w36) w37) 26 0) r36) .l) = 0 → (((Op.cmpValue (FP.dcmp (gD (mx pM (mx pM (mx pC w w35) w36) w37) 26 0) (gD (mx pM (mx pM (mx pC w w35) w36) w37) 26 0)) .l) = 0 → (False)) ∧ (¬ (Op.cmpValue (FP.dcmp (gD (mx pM (mx pM (mx pC w w35) w36) w37) 26 0) (gD (mx pM (mx pM (mx pC w w35) w36) w37) 26 0)) .l) = 0 → (((Op.cmpValue (FP.dcmp r36 r36) .l) = 0 → (False)) ∧ (¬ (Op.cmpValue (FP.dcmp r36 r36) .l) = 0 → (∀ y25 : Int32, y25 = x5 + 6 → (J28 y25 (mx pM (mx pM (mx pC w w35) w36) w37)))))))))) ∧ (¬ r35 = 0 → (∀ y23 : Int32, y23 = x5 + 6 → (J28 y23 (mx pM (mx pM (mx pC w w35) w36) w37)))))) ∧ (¬ r37 = r35 → (False))))))))) ∧ (¬ ((xs x5.toNatClampNeg) &&& 31) = nI 12 → ((((xs x5.toNatClampNeg) &&& 31) = nI 13 → (wp_X8_isRight w (fun r38 w38 => wp_X9_isRight (mx pC w w38) (fun r39 w39 => (r38 = r39 → (∀ y26 : Int32, y26 = x5 + 6 → (J28 y26 (mx pM (mx pC w w38) w39)))) ∧ (¬ r38 = r39 → (False)))))) ∧ (¬ ((xs x5.toNatClampNeg) &&& 31) = nI 13 → ((((xs x5.toNatClampNeg) &&& 31) = nI 14 → (wp_X8_allowed w (fun r40 w40 => wp_X9_allowed (mx pC w w40) (fun r41 w41 => (r40 = r41 → (∀ y27 : Int32, y27 = x5 + 6 → (J28 y27 (mx pM (mx pC w w40) w41)))) ∧ (¬ r40 = r41 → (False)))))) ∧ (¬ ((xs x5.toNatClampNeg) &&& 31) = nI 14 → ((((xs x5.toNatClampNeg) &&& 31) = nI 15 → (vp_in (x5 + 1) L ∧ (vp_in (x5 + 2) L ∧ (wp_L_choice w (xs (x5 + 1).toNatClampNeg) (xs (x5 + 2).toNatClampNeg) (fun r42 w42 => vp_in (x5 + 1) L ∧ (vp_in (x5 + 2) L ∧ (wp_X9_choice (mx pC w w42) (xs (x5 + 1).toNatClampNeg) (xs (x5 + 2).toNatClampNeg) (fun r43 w43 => wp_X9_thrown (mx pM (mx pC w w42) w43) (fun r44 w44 => (r44 = r42 → ((r42 = 0 → (((lg_cmp (gL (mx pM (mx pM (mx pC w w42) w43) w44) 25 0) r43.toInt64) = 0 → (∀ y29 : Int32, y29 = x5 + 6 → (J28 y29 (mx pM (mx pM (mx pC w w42) w43) w44)))) ∧ (¬ (lg_cmp (gL (mx pM (mx pM (mx pC w w42) w43) w44) 25 0) r43.toInt64) = 0 → (False)))) ∧ (¬ r42 = 0 → (∀ y28 : Int32, y28 = x5 + 6 → (J28 y28 (mx pM (mx pM (mx pC w w42) w43) w44)))))) ∧ (¬ r44 = r42 → (False))))))))))) ∧ (¬ ((xs x5.toNatClampNeg) &&& 31) = nI 15 → ((((xs x5.toNatClampNeg) &&& 31) = nI 16 → (wp_X8_best w (fun r45 w45 => wp_X9_best (mx pC w w45) (fun r46 w46 => (r45 = r46 → (∀ y30 : Int32, y30 = x5 + 6 → (J28 y30 (mx pM (mx pC w w45) w46)))) ∧ (¬ r45 = r46 → (False)))))) ∧ (¬ ((xs x5.toNatClampNeg) &&& 31) = nI 16 → ((((xs x5.toNatClampNeg) &&& 31) = nI 17 → (vp_in (x5 + 1) L ∧ (vp_in (x5 + 2) L ∧ (vp_in (x5 + 3) L ∧ (wp_X8_whyNotStep w (xs (x5 + 1).toNatClampNeg) (xs (x5 + 2).toNatClampNeg) (xs (x5 + 3).toNatClampNeg) (fun r47 w47 => vp_in (x5 + 1) L ∧ (vp_in (x5 + 2) L ∧ (vp_in (x5 + 3) L ∧ (wp_X9_whyNotStep (mx pC w w47) (xs (x5 + 1).toNatClampNeg) (xs (x5 + 2).toNatClampNeg) (xs (x5 + 3).toNatClampNeg) (fun r48 w48 => (r47 = r48 → (∀ y31 : Int32, y31 = x5 + 6 → (J28 y31 (mx pM (mx pC w w47) w48)))) ∧ (¬ r47 = r48 → (False)))))))))))) ∧ (¬ ((xs x5.toNatClampNeg) &&& 31) = nI 17 → ((((xs x5.toNatClampNeg) &&& 31) = nI 18 → (vp_in (x5 + 1) L ∧ (wp_X8_whyNotClaim w (xs (x5 + 1).toNatClampNeg) (fun r49 w49 => vp_in (x5 + 1) L ∧ (wp_X9_whyNotClaim (mx pC w w49) (xs (x5 + 1).toNatClampNeg) (fun r50 w50 => (r49 = r50 → (∀ y32 : Int32, y32 = x5 + 6 → (J28 y32 (mx pM (mx pC w w49) w50)))) ∧ (¬ r49 = r50 → (False)))))))) ∧ (¬ ((xs x5.toNatClampNeg) &&& 31) = nI 18 → ((((xs x5.toNatClampNeg) &&& 31) = nI 19 → (vp_in (x5 + 1) L ∧ (vp_in (x5 + 2) L ∧ (wp_X8_whyNotLock w (xs (x5 + 1).toNatClampNeg) (xs (x5 + 2).toNatClampNeg) (fun r51 w51 => vp_in (x5 + 1) L ∧ (vp_in (x5 + 2) L ∧ (wp_X9_whyNotLock (mx pC w w51) (xs (x5 + 1).toNatClampNeg) (xs (x5 + 2).toNatClampNeg) (fun r52 w52 => (r51 = r52 → (∀ y33 : Int32, y33 = x5 + 6 → (J28 y33 (mx pM (mx pC w w51) w52)))) ∧ (¬ r51 = r52 → (False)))))))))) ∧ (¬ ((xs x5.toNatClampNeg) &&& 31) = nI 19 → ((((xs x5.toNatClampNeg) &&& 31) = nI 20 → (wp_X8_whyNotBack w (fun r53 w53 => wp_X9_whyNotBack (mx pC w w53) (fun r54 w54 => (r53 = r54 → (∀ y34 : Int32, y34 = x5 + 6 → (J28 y34 (mx pM (mx pC w w53) w54)))) ∧ (¬ r53 = r54 → (False)))))) ∧ (¬ ((xs x5.toNatClampNeg) &&& 31) = nI 20 → ((((xs x5.toNatClampNeg) &&& 31) = nI 21 → (vp_in (x5 + 1) L ∧ (vp_in (x5 + 2) L ∧ (vp_in (x5 + 3) L ∧ (wp_L_step w (xs (x5 + 1).toNatClampNeg) (xs (x5 + 2).toNatClampNeg) (xs (x5 + 3).toNatClampNeg) (fun r55 w55 => vp_in (x5 + 1) L ∧ (vp_in (x5 + 2) L ∧ (vp_in (x5 + 3) L ∧ (wp_X9_step (mx pC w w55) (xs (x5 + 1).toNatClampNeg) (xs (x5 + 2).toNatClampNeg) (xs (x5 + 3).toNatClampNeg) (fun r56 w56 => wp_X9_thrown (mx pM (mx pC w w55) w56) (fun r57 w57 => (r57 = r55 → ((r55 = 0 → (((lg_cmp (gL (mx pM (mx pM (mx pC w w55) w56) w57) 25 0) r56.toInt64) = 0 → (∀ y36 : Int32, y36 = x5 + 6 → (J28 y36 (mx pM (mx pM (mx pC w w55) w56) w57)))) ∧ (¬ (lg_cmp (gL (mx pM (mx pM (mx pC w w55) w56) w57) 25 0) r56.toInt64) = 0 → (False)))) ∧ (¬ r55 = 0 → (∀ y35 : Int32, y35 = x5 + 6 → (J28 y35 (mx pM (mx pM (mx pC w w55) w56) w57)))))) ∧ (¬ r57 = r55 → (False))))))))))))) ∧ (¬ ((xs x5.toNatClampNeg) &&& 31) = nI 21 → ((((xs x5.toNatClampNeg) &&& 31) = nI 22 → (vp_in (x5 + 1) L ∧ (wp_L_claim w (xs (x5 + 1).toNatClampNeg) (fun r58 w58 => vp_in (x5 + 1) L ∧ (wp_X9_claim (mx pC w w58) (xs (x5 + 1).toNatClampNeg) (fun r59 w59 => wp_X9_thrown (mx pM (mx pC w w58) w59) (fun r60 w60 => (r60 = r58 → ((r58 = 0 → (((lg_cmp (gL (mx pM (mx pM (mx pC w w58) w59) w60) 25 0) r59.toInt64) = 0 → (∀ y38 : Int32, y38 = x5 + 6 → (J28 y38 (mx pM (mx pM (mx pC w w58) w59) w60)))) ∧ (¬ (lg_cmp (gL (mx pM (mx pM (mx pC w w58) w59) w60) 25 0) r59.toInt64) = 0 → (False)))) ∧ (¬ r58 = 0 → (∀ y37 : Int32, y37 = x5 + 6 → (J28 y37 (mx pM (mx pM (mx pC w w58) w59) w60)))))) ∧ (¬ r60 = r58 → (False))))))))) ∧ (¬ ((xs x5.toNatClampNeg) &&& 31) = nI 22 → ((((xs x5.toNatClampNeg) &&& 31) = nI 23 → (vp_in (x5 + 1) L ∧ (vp_in (x5 + 2) L ∧ (wp_L_lock w (xs (x5 + 1).toNatClampNeg) (xs (x5 + 2).toNatClampNeg) (fun r61 w61 => vp_in (x5 + 1) L ∧ (vp_in (x5 + 2) L ∧ (wp_X9_lock (mx pC w w61) (xs (x5 + 1).toNatClampNeg) (xs (x5 + 2).toNatClampNeg) (fun r62 w62 => wp_X9_thrown (mx pM (mx pC w w61) w62) (fun r63 w63 => (r63 = r61 → ((r61 = 0 → (((lg_cmp (gL (mx pM (mx pM (mx pC w w61) w62) w63) 25 0) r62.toInt64) = 0 → (∀ y40 : Int32, y40 = x5 + 6 → (J28 y40 (mx pM (mx pM (mx pC w w61) w62) w63)))) ∧ (¬ (lg_cmp (gL (mx pM (mx pM (mx pC w w61) w62) w63) 25 0) r62.toInt64) = 0 → (False)))) ∧ (¬ r61 = 0 → (∀ y39 : Int32, y39 = x5 + 6 → (J28 y39 (mx pM (mx pM (mx pC w w61) w62) w63)))))) ∧ (¬ r63 = r61 → (False))))))))))) ∧ (¬ ((xs x5.toNatClampNeg) &&& 31) = nI 23 → ((((xs x5.toNatClampNeg) &&& 31) = nI 24 → (wp_L_back w (fun r64 w64 => wp_X9_back (mx pC w w64) (fun r65 w65 => wp_X9_thrown (mx pM (mx pC w w64) w65) (fun r66 w66 => (r66 = r64 → ((r64 = 0 → (((lg_cmp (gL (mx pM (mx pM (mx pC w w64) w65) w66) 25 0) r65.toInt64) = 0 → (∀ y42 : Int32, y42 = x5 + 6 → (J28 y42 (mx pM (mx pM (mx pC w w64) w65) w66)))) ∧ (¬ (lg_cmp (gL (mx pM (mx pM (mx pC w w64) w65) w66) 25 0) r65.toInt64) = 0 → (False)))) ∧ (¬ r64 = 0 → (∀ y41 : Int32, y41 = x5 + 6 → (J28 y41 (mx pM (mx pM (mx pC w w64) w65) w66)))))) ∧ (¬ r66 = r64 → (False))))))) ∧ (¬ ((xs x5.toNatClampNeg) &&& 31) = nI 24 → ((((xs x5.toNatClampNeg) &&& 31) = nI 25 → (wp_L_pass w (fun r67 w67 => wp_X9_pass (mx pC w w67) (fun r68 w68 => wp_X9_thrown (mx pM (mx pC w w67) w68) (fun r69 w69 => (r69 = r67 → ((r67 = 0 → (((lg_cmp (gL (mx pM (mx pM (mx pC w w67) w68) w69) 25 0) r68.toInt64) = 0 → (∀ y44 : Int32, y44 = x5 + 6 → (J28 y44 (mx pM (mx pM (mx pC w w67) w68) w69)))) ∧ (¬ (lg_cmp (gL (mx pM (mx pM (mx pC w w67) w68) w69) 25 0) r68.toInt64) = 0 → (False)))) ∧ (¬ r67 = 0 → (∀ y43 : Int32, y43 = x5 + 6 → (J28 y43 (mx pM (mx pM (mx pC w w67) w68) w69)))))) ∧ (¬ r69 = r67 → (False))))))) ∧ (¬ ((xs x5.toNatClampNeg) &&& 31) = nI 25 → ((((xs x5.toNatClampNeg) &&& 31) = nI 26 → (vp_in (x5 + 1) L ∧ (wp_L_play w (xs (x5 + 1).toNatClampNeg) (fun r70 w70 => vp_in (x5 + 1) L ∧ (wp_X9_play (mx pC w w70) (xs (x5 + 1).toNatClampNeg) (fun r71 w71 => wp_X9_thrown (mx pM (mx pC w w70) w71) (fun r72 w72 => (r72 = r70 → ((r70 = 0 → (((lg_cmp (gL (mx pM (mx pM (mx pC w w70) w71) w72) 25 0) r71.toInt64) = 0 → (∀ y46 : Int32, y46 = x5 + 6 → (J28 y46 (mx pM (mx pM (mx pC w w70) w71) w72)))) ∧ (¬ (lg_cmp (gL (mx pM (mx pM (mx pC w w70) w71) w72) 25 0) r71.toInt64) = 0 → (False)))) ∧ (¬ r70 = 0 → (∀ y45 : Int32, y45 = x5 + 6 → (J28 y45 (mx pM (mx pM (mx pC w w70) w71) w72)))))) ∧ (¬ r72 = r70 → (False))))))))) ∧ (¬ ((xs x5.toNatClampNeg) &&& 31) = nI 26 → ((((xs x5.toNatClampNeg) &&& 31) = nI 27 → (wp_X8_undo w (fun r73 w73 => wp_X9_undo (mx pC w w73) (fun r74 w74 => (r73 = r74 → (∀ y47 : Int32, y47 = x5 + 6 → (J28 y47 (mx pM (mx pC w w73) w74)))) ∧ (¬ r73 = r74 → (False)))))) ∧ (¬ ((xs x5.toNatClampNeg) &&& 31) = nI 27 → ((((xs x5.toNatClampNeg) &&& 31) = nI 28 → (vp_in (x5 + 1) L ∧ (wp_X8_saveSnapshot w (xs (x5 + 1).toNatClampNeg) (fun r75 w75 => vp_in (x5 + 1) L ∧ (wp_X9_saveSnapshot (mx pC w w75) (xs (x5 + 1).toNatClampNeg) (fun r76 w76 => (r75 = r76 → (∀ y48 : Int32, y48 = x5 + 6 → (J28 y48 (mx pM (mx pC w w75) w76)))) ∧ (¬ r75 = r76 → (False)))))))) ∧ (¬ ((xs x5.toNatClampNeg) &&& 31) = nI 28 → ((((xs x5.toNatClampNeg) &&& 31) = nI 29 → (vp_in (x5 + 1) L ∧ (wp_X8_restoreSnapshot w (xs (x5 + 1).toNatClampNeg) (fun r77 w77 => vp_in (x5 + 1) L ∧ (wp_X9_restoreSnapshot (mx pC w w77) (xs (x5 + 1).toNatClampNeg) (fun r78 w78 => (r77 = r78 → (∀ y49 : Int32, y49 = x5 + 6 → (J28 y49 (mx pM (mx pC w w77) w78)))) ∧ (¬ r77 = r78 → (False)))))))) ∧ (¬ ((xs x5.toNatClampNeg) &&& 31) = nI 29 → (∀ y50 : Int32, y50 = x5 + 6 → (J28 y50 w))))))))))))))))))))))))))))))))))))))))))))))))))))))))))))))))) → J28 x5 w) →
  J28 0 w
set_option maxHeartbeats 40000000 in
set_option maxRecDepth 100000 in
theorem law_loop (l : Launch) (hT : l.stackTraces = false) {E : En} {p : Program} {e : Env} {s : State} {m : MethodId} {args : Array Value} {below : List Frame} {meth : Method} {c : Code} {Q : State → Prop} {b L : Nat} {xs : Nat → Int32} (hL : L ≤ 3072) (C : Cx E p s m args c code 9 "CoinLaddersLaw") (hr : meth.sig.returnType = ret) (hlk : meth.locks = false) (hargs : args = #[Value.ref b]) (hX : va_X b L xs s s.heap) (hbl : b < s.heap.size) (hbA : ¬ AA E s.heap.size b) (hE : eL E = List.range 157) (hlz : ∀ o, o ∈ eL E → s.heap.size ≤ eA E o) (hQ : Q = lw_Z below args s) (w : Wd) (h : wp_law xs L w) : ∀ (H : Heap) (locs : List Loc), Wo E s w H locs → ∀ ls : Array Slot, lv_has ls 9 [(0, .ref b), (1, .ref (eA E 0)), (2, .ref (eA E 15)), (3, .ref (eA E 25)), (4, .ref (eA E 26)), (5, .int 0)] → W p l e room_1 s m args below meth c H locs 157 31666 Q (F0 m 28 ls []) := by
  have hF : ∀ o, (o < 157) → o ∈ eL E := fun o h => by rw [hE]; exact List.mem_range.mpr h
  have hx := C.1
  have hb := C.2.1
  unfold wp_law at h
  have h := h (fun x5 w => ∀ t : Nat, x5 = nI (6 * t) → t ≤ 512 → ∀ k n : Nat, k ≤ 157 + 2 * t → n ≤ 31666 + 12 * t → ∀ (H : Heap) (locs : List Loc), Wo E s w H locs → ∀ ls : Array Slot, lv_has ls 9 [(0, .ref b), (1, .ref (eA E 0)), (2, .ref (eA E 15)), (3, .ref (eA E 25)), (4, .ref (eA E 26)), (5, .int x5)] → W p l e room_1 s m args below meth c H locs k n Q (F0 m 28 ls [])) ?_
  · intro H locs hw ls hl
    exact h 0 rfl (Nat.zero_le _) _ _ (by omega) (by omega) H locs hw ls hl
  clear h w
  intro x5 w h t ex5 ht k n hk hn H locs hw ls hl
  refine lv_iload hx hb dL_law_28 (lv_at hl 5 rfl) ?_
  refine lv_aload_n hx hb dL_law_30 rfl (lv_at hl 0 rfl) ?_
  refine va_slen hx hb hX hbl hbA hw.2 dL_law_31 ?_
  refine lv_bipush (v := 6) hx hb dL_law_32 (by decide) ?_
  refine lv_isub hx hb dL_law_34 ?_
  refine lv_icmp_gt (tgt := 1611) hx hb dL_law_35 (by decide) (fun c1 => ?_) (fun c1 => ?_)
  · have h := h.1 c1
    refine lv_iconst (v := 1) hx hb dL_law_1611 (by decide) ?_
    exact law_end hargs hQ C hr hlk hw hlz (by omega) (by omega) dL_law_1612
  · have h := h.2 c1
    have ht6 := law_le hL (by rw [← ex5]; exact c1) ht
    refine lv_aload_n hx hb dL_law_38 rfl (lv_at hl 0 rfl) ?_
    refine lv_iload hx hb dL_law_39 (lv_at hl 5 rfl) ?_
    obtain ⟨hi1, h⟩ := h
    refine va_sld hx hb hX hbl hbA hw.2 hi1 dL_law_41 ?_
    refine lv_bipush (v := 31) hx hb dL_law_42 (by decide) ?_
    refine lv_iand hx hb dL_law_44 ?_
    by_cases c2 : ((xs x5.toNatClampNeg) &&& 31) = nI 0
    · have h := h.1 c2
      obtain ⟨s1, s2, s3⟩ := sw_in (hi := 29) c2 (by decide) (by decide)
      refine lv_tableIn (tgt := 180) hx hb dL_law_45 s1 s2 (by rw [s3]; rfl) (by decide) ?_
      refine lv_aload_n hx hb dL_law_180 rfl (lv_at hl 1 rfl) ?_
      refine lv_aload_n hx hb dL_law_181 rfl (lv_at hl 0 rfl) ?_
      refine lv_iload hx hb dL_law_182 (lv_at hl 5 rfl) ?_
      refine lv_iconst (v := 1) hx hb dL_law_184 (by decide) ?_
      refine lv_iadd hx hb dL_law_185 ?_
      obtain ⟨hi2, h⟩ := h
      refine va_sld hx hb hX hbl hbA hw.2 hi2 dL_law_186 ?_
      refine lv_aload_n hx hb dL_law_187 rfl (lv_at hl 0 rfl) ?_
      refine lv_iload hx hb dL_law_188 (lv_at hl 5 rfl) ?_
      refine lv_iconst (v := 2) hx hb dL_law_190 (by decide) ?_
      refine lv_iadd hx hb dL_law_191 ?_
      obtain ⟨hi3, h⟩ := h
      refine va_sld hx hb hX hbl hbA hw.2 hi3 dL_law_192 ?_
      refine lv_aload_n hx hb dL_law_193 rfl (lv_at hl 0 rfl) ?_
      refine lv_iload hx hb dL_law_194 (lv_at hl 5 rfl) ?_
      refine lv_iconst (v := 3) hx hb dL_law_196 (by decide) ?_
      refine lv_iadd hx hb dL_law_197 ?_
      obtain ⟨hi4, h⟩ := h
      refine va_sld hx hb hX hbl hbA hw.2 hi4 dL_law_198 ?_
      refine lv_aload_n hx hb dL_law_199 rfl (lv_at hl 0 rfl) ?_
      refine lv_iload hx hb dL_law_200 (lv_at hl 5 rfl) ?_
      refine lv_iconst (v := 4) hx hb dL_law_202 (by decide) ?_
      refine lv_iadd hx hb dL_law_203 ?_
      obtain ⟨hi5, h⟩ := h
      refine va_sld hx hb hX hbl hbA hw.2 hi5 dL_law_204 ?_
      refine lv_aload_n hx hb dL_law_205 rfl (lv_at hl 0 rfl) ?_
      refine lv_iload hx hb dL_law_206 (lv_at hl 5 rfl) ?_
      refine lv_iconst (v := 5) hx hb dL_law_208 (by decide) ?_
      refine lv_iadd hx hb dL_law_209 ?_
      obtain ⟨hi6, h⟩ := h
      refine va_sld hx hb hX hbl hbA hw.2 hi6 dL_law_210 ?_
      refine lw_done_i pC C hw hlz hE (my_runV (As := [.int (xs (x5 + 1).toNatClampNeg), .int (xs (x5 + 2).toNatClampNeg), .int (xs (x5 + 3).toNatClampNeg), .int (xs (x5 + 4).toNatClampNeg), .int (xs (x5 + 5).toNatClampNeg)]) (rest := []) (ER_C pC C hE) (ER_W pC hw hlz hE) 0 8 (ER_in pC (by decide) (by decide)) rfl rfl (mt_X8_append l (ER_C pC C hE).2.2.2.2.2.2.2 (ER_FC E) _ _ _ _ _ _ h) K_m_L_78 K_i_X8_append K_v_X8_append K_n_X8 K_c_X8_append hy_X8_append ⟨Nat.le_of_ble_eq_true rfl, Nat.le_of_ble_eq_true rfl⟩ hl.1 rfl (Nat.le_of_ble_eq_true rfl) dL_law_211 ⟨by show _ ≤ (601024 : Nat); omega, by show _ ≤ (7293033 : Nat); omega⟩) (fun r1 w1 H locs h hw => ?_)
      refine lv_aload_n hx hb dL_law_214 rfl (lv_at hl 2 rfl) ?_
      refine lv_aload_n hx hb dL_law_215 rfl (lv_at hl 0 rfl) ?_
      refine lv_iload hx hb dL_law_216 (lv_at hl 5 rfl) ?_
      refine lv_iconst (v := 1) hx hb dL_law_218 (by decide) ?_
      refine lv_iadd hx hb dL_law_219 ?_
      obtain ⟨hi7, h⟩ := h
      refine va_sld hx hb hX hbl hbA hw.2 hi7 dL_law_220 ?_
      refine lv_aload_n hx hb dL_law_221 rfl (lv_at hl 0 rfl) ?_
      refine lv_iload hx hb dL_law_222 (lv_at hl 5 rfl) ?_
      refine lv_iconst (v := 2) hx hb dL_law_224 (by decide) ?_
      refine lv_iadd hx hb dL_law_225 ?_
      obtain ⟨hi8, h⟩ := h
      refine va_sld hx hb hX hbl hbA hw.2 hi8 dL_law_226 ?_
      refine lv_aload_n hx hb dL_law_227 rfl (lv_at hl 0 rfl) ?_
      refine lv_iload hx hb dL_law_228 (lv_at hl 5 rfl) ?_
      refine lv_iconst (v := 3) hx hb dL_law_230 (by decide) ?_
      refine lv_iadd hx hb dL_law_231 ?_
      obtain ⟨hi9, h⟩ := h
      refine va_sld hx hb hX hbl hbA hw.2 hi9 dL_law_232 ?_
      refine lv_aload_n hx hb dL_law_233 rfl (lv_at hl 0 rfl) ?_
      refine lv_iload hx hb dL_law_234 (lv_at hl 5 rfl) ?_
      refine lv_iconst (v := 4) hx hb dL_law_236 (by decide) ?_
      refine lv_iadd hx hb dL_law_237 ?_
      obtain ⟨hi10, h⟩ := h
      refine va_sld hx hb hX hbl hbA hw.2 hi10 dL_law_238 ?_
      refine lv_aload_n hx hb dL_law_239 rfl (lv_at hl 0 rfl) ?_
      refine lv_iload hx hb dL_law_240 (lv_at hl 5 rfl) ?_
      refine lv_iconst (v := 5) hx hb dL_law_242 (by decide) ?_
      refine lv_iadd hx hb dL_law_243 ?_
      obtain ⟨hi11, h⟩ := h
      refine va_sld hx hb hX hbl hbA hw.2 hi11 dL_law_244 ?_
      refine lw_done_i pM C hw hlz hE (my_runV (As := [.int (xs (x5 + 1).toNatClampNeg), .int (xs (x5 + 2).toNatClampNeg), .int (xs (x5 + 3).toNatClampNeg), .int (xs (x5 + 4).toNatClampNeg), .int (xs (x5 + 5).toNatClampNeg)]) (rest := [.int r1]) (ER_C pM C hE) (ER_W pM hw hlz hE) 15 9 (ER_in pM (by decide) (by decide)) rfl rfl (mt_X9_append l (ER_C pM C hE).2.2.2.2.2.2.2 (ER_FM E) _ _ _ _ _ _ h) K_m_L_82 K_i_X9_append K_v_X9_append K_n_X9 K_c_X9_append hy_X9_append ⟨Nat.le_of_ble_eq_true rfl, Nat.le_of_ble_eq_true rfl⟩ hl.1 rfl (Nat.le_of_ble_eq_true rfl) dL_law_245 ⟨by show _ ≤ (601024 : Nat); omega, by show _ ≤ (7293033 : Nat); omega⟩) (fun r2 w2 H locs h hw => ?_)
      refine lv_icmp_eq (tgt := 1605) hx hb dL_law_248 (by decide) (fun c3 => ?_) (fun c3 => ?_)
      · have h := h.1 c3
        obtain ⟨y1, ey1⟩ : ∃ y : Int32, y = x5 + 6 := ⟨_, rfl⟩
        have h := h y1 ey1
        refine lv_iinc (v := y1) (lv' := [(5, .int y1), (0, .ref b), (1, .ref (eA E 0)), (2, .ref (eA E 15)), (3, .ref (eA E 25)), (4, .ref (eA E 26))]) hx hb dL_law_1605 hl (k := 5) rfl (by rw [ey1]; first | rfl | decide) (by decide) rfl (fun ls hl => ?_)
        refine lv_goto (tgt := 28) hx hb dL_law_1608 (by decide) ?_
        exact h (t + 1) (by rw [ey1, ex5]; exact law_nI t) (by omega) _ _ (by omega) (by omega) _ _ hw _ (lv_sub hl [1, 2, 3, 4, 5, 0] rfl)
      · have h := h.2 c3
        refine lv_iconst (v := 0) hx hb dL_law_251 (by decide) ?_
        exact h.elim
    · have h := h.2 c2
      by_cases c4 : ((xs x5.toNatClampNeg) &&& 31) = nI 1
      · have h := h.1 c4
        obtain ⟨s1, s2, s3⟩ := sw_in (hi := 29) c4 (by decide) (by decide)
        refine lv_tableIn (tgt := 253) hx hb dL_law_45 s1 s2 (by rw [s3]; rfl) (by decide) ?_
        refine lv_aload_n hx hb dL_law_253 rfl (lv_at hl 1 rfl) ?_
        refine lv_aload_n hx hb dL_law_254 rfl (lv_at hl 0 rfl) ?_
        refine lv_iload hx hb dL_law_255 (lv_at hl 5 rfl) ?_
        refine lv_iconst (v := 1) hx hb dL_law_257 (by decide) ?_
        refine lv_iadd hx hb dL_law_258 ?_
        obtain ⟨hi12, h⟩ := h
        refine va_sld hx hb hX hbl hbA hw.2 hi12 dL_law_259 ?_
        refine lv_aload_n hx hb dL_law_260 rfl (lv_at hl 3 rfl) ?_
        refine lw_done_w pC C hw hlz hE (my_runSW (As := [.ref (eA E 0), .int (xs (x5 + 1).toNatClampNeg), .ref (eA E 25)]) (rest := []) (ER_C pC C hE) (ER_W pC hw hlz hE) (mt_L_parse l hT (ER_C pC C hE).2.2.2.2.2.2.2 (ER_FC E) _ _ h) K_m_L_83 K_s_L_parse K_n_L K_w_L_parse hy_L_parse ⟨Nat.le_of_ble_eq_true rfl, Nat.le_of_ble_eq_true rfl⟩ hl.1 rfl (Nat.le_of_ble_eq_true rfl) dL_law_261 ⟨by show _ ≤ (601024 : Nat); omega, by show _ ≤ (7293033 : Nat); omega⟩) (fun r3 w3 H locs h hw => ?_)
        refine lv_istore (lv' := [(6, .int r3), (0, .ref b), (1, .ref (eA E 0)), (2, .ref (eA E 15)), (3, .ref (eA E 25)), (4, .ref (eA E 26)), (5, .int x5)]) hx hb dL_law_264 hl (by decide) rfl (fun ls hl => ?_)
        refine lv_aload_n hx hb dL_law_266 rfl (lv_at hl 3 rfl) ?_
        refine lv_aload_n hx hb dL_law_267 rfl (lv_at hl 1 rfl) ?_
        refine lv_iload hx hb dL_law_268 (lv_at hl 6 rfl) ?_
        refine lv_iconst (v := 1) hx hb dL_law_270 (by decide) ?_
        refine lv_iadd hx hb dL_law_271 ?_
        obtain ⟨hi13, h⟩ := h
        refine va_sld hx hb hX hbl hbA hw.2 hi13 dL_law_272 ?_
        refine lw_done_i pM C hw hlz hE (my_runV (As := [.int (xs (x5 + 1).toNatClampNeg)]) (rest := []) (ER_C pM C hE) (ER_W pM hw hlz hE) 15 9 (ER_in pM (by decide) (by decide)) rfl rfl (mt_X9_parse l (ER_C pM C hE).2.2.2.2.2.2.2 (ER_FM E) _ _ h) K_m_L_88 K_i_X9_parse K_v_X9_parse K_n_X9 K_c_X9_parse hy_X9_parse ⟨Nat.le_of_ble_eq_true rfl, Nat.le_of_ble_eq_true rfl⟩ hl.1 rfl (Nat.le_of_ble_eq_true rfl) dL_law_273 ⟨by show _ ≤ (601024 : Nat); omega, by show _ ≤ (7293033 : Nat); omega⟩) (fun r4 w4 H locs h hw => ?_)
        refine lv_istore (lv' := [(7, .int r4), (6, .int r3), (0, .ref b), (1, .ref (eA E 0)), (2, .ref (eA E 15)), (3, .ref (eA E 25)), (4, .ref (eA E 26)), (5, .int x5)]) hx hb dL_law_276 hl (by decide) rfl (fun ls hl => ?_)
        refine lv_aload_n hx hb dL_law_278 rfl (lv_at hl 4 rfl) ?_
        refine lw_done_i pM C hw hlz hE (my_runV (As := []) (rest := []) (ER_C pM C hE) (ER_W pM hw hlz hE) 15 9 (ER_in pM (by decide) (by decide)) rfl rfl (mt_X9_thrown l (ER_C pM C hE).2.2.2.2.2.2.2 (ER_FM E) _ h) K_m_L_89 K_i_X9_thrown K_v_X9_thrown K_n_X9 K_c_X9_thrown hy_X9_thrown ⟨Nat.le_of_ble_eq_true rfl, Nat.le_of_ble_eq_true rfl⟩ hl.1 rfl (Nat.le_of_ble_eq_true rfl) dL_law_279 ⟨by show _ ≤ (601024 : Nat); omega, by show _ ≤ (7293033 : Nat); omega⟩) (fun r5 w5 H locs h hw => ?_)
        refine lv_iload hx hb dL_law_282 (lv_at hl 1 rfl) ?_
        refine lv_icmp_eq (tgt := 289) hx hb dL_law_284 (by decide) (fun c5 => ?_) (fun c5 => ?_)
        · have h := h.1 c5
          refine lv_iload hx hb dL_law_289 (lv_at hl 1 rfl) ?_
          refine lv_if_ne (tgt := 306) hx hb dL_law_291 (by decide) (fun c6 => ?_) (fun c6 => ?_)
          · have h := h.2 c6
            refine lv_goto (tgt := 1605) hx hb dL_law_306 (by decide) ?_
            obtain ⟨y2, ey2⟩ : ∃ y : Int32, y = x5 + 6 := ⟨_, rfl⟩
            have h := h y2 ey2
            refine lv_iinc (v := y2) (lv' := [(5, .int y2), (7, .int r4), (6, .int r3), (0, .ref b), (1, .ref (eA E 0)), (2, .ref (eA E 15)), (3, .ref (eA E 25)), (4, .ref (eA E 26))]) hx hb dL_law_1605 hl (k := 7) rfl (by rw [ey2]; first | rfl | decide) (by decide) rfl (fun ls hl => ?_)
            refine lv_goto (tgt := 28) hx hb dL_law_1608 (by decide) ?_
            exact h (t + 1) (by rw [ey2, ex5]; exact law_nI t) (by omega) _ _ (by omega) (by omega) _ _ hw _ (lv_sub hl [3, 4, 5, 6, 7, 0] rfl)
          · have h := h.1 c6
            refine lv_aload_n hx hb dL_law_294 rfl (lv_at hl 5 rfl) ?_
            refine lv_iconst (v := 0) hx hb dL_law_295 (by decide) ?_
            refine r_lald C hw 25 1 (hF 25 (by decide)) rfl (vp_lit (by decide)) dL_law_296 ?_
            refine lv_iload hx hb dL_law_297 (lv_at hl 0 rfl) ?_
            refine lv_i2l hx hb dL_law_299 rfl ?_
            refine W.lcmp hx hb dL_law_300 ?_
            refine lv_if_eq (tgt := 306) hx hb dL_law_301 (by decide) (fun c7 => ?_) (fun c7 => ?_)
            · have h := h.1 c7
              refine lv_goto (tgt := 1605) hx hb dL_law_306 (by decide) ?_
              obtain ⟨y3, ey3⟩ : ∃ y : Int32, y = x5 + 6 := ⟨_, rfl⟩
              have h := h y3 ey3
              refine lv_iinc (v := y3) (lv' := [(5, .int y3), (7, .int r4), (6, .int r3), (0, .ref b), (1, .ref (eA E 0)), (2, .ref (eA E 15)), (3, .ref (eA E 25)), (4, .ref (eA E 26))]) hx hb dL_law_1605 hl (k := 7) rfl (by rw [ey3]; first | rfl | decide) (by decide) rfl (fun ls hl => ?_)
              refine lv_goto (tgt := 28) hx hb dL_law_1608 (by decide) ?_
              exact h (t + 1) (by rw [ey3, ex5]; exact law_nI t) (by omega) _ _ (by omega) (by omega) _ _ hw _ (lv_sub hl [3, 4, 5, 6, 7, 0] rfl)
            · have h := h.2 c7
              refine lv_iconst (v := 0) hx hb dL_law_304 (by decide) ?_
              exact h.elim
        · have h := h.2 c5
          refine lv_iconst (v := 0) hx hb dL_law_287 (by decide) ?_
          exact h.elim
      · have h := h.2 c4
        by_cases c8 : ((xs x5.toNatClampNeg) &&& 31) = nI 2
        · have h := h.1 c8
          obtain ⟨s1, s2, s3⟩ := sw_in (hi := 29) c8 (by decide) (by decide)
          refine lv_tableIn (tgt := 309) hx hb dL_law_45 s1 s2 (by rw [s3]; rfl) (by decide) ?_
          refine lv_aload_n hx hb dL_law_309 rfl (lv_at hl 1 rfl) ?_
          refine lv_aload_n hx hb dL_law_310 rfl (lv_at hl 0 rfl) ?_
          refine lv_iload hx hb dL_law_311 (lv_at hl 5 rfl) ?_
          refine lv_iconst (v := 1) hx hb dL_law_313 (by decide) ?_
          refine lv_iadd hx hb dL_law_314 ?_
          obtain ⟨hi15, h⟩ := h
          refine va_sld hx hb hX hbl hbA hw.2 hi15 dL_law_315 ?_
          refine lv_aload_n hx hb dL_law_316 rfl (lv_at hl 3 rfl) ?_
          refine lw_done_w pC C hw hlz hE (my_runSW (As := [.ref (eA E 0), .int (xs (x5 + 1).toNatClampNeg), .ref (eA E 25)]) (rest := []) (ER_C pC C hE) (ER_W pC hw hlz hE) (mt_L_size l hT (ER_C pC C hE).2.2.2.2.2.2.2 (ER_FC E) _ _ h) K_m_L_92 K_s_L_size K_n_L K_w_L_size hy_L_size ⟨Nat.le_of_ble_eq_true rfl, Nat.le_of_ble_eq_true rfl⟩ hl.1 rfl (Nat.le_of_ble_eq_true rfl) dL_law_317 ⟨by show _ ≤ (601024 : Nat); omega, by show _ ≤ (7293033 : Nat); omega⟩) (fun r6 w6 H locs h hw => ?_)
          refine lv_istore (lv' := [(6, .int r6), (0, .ref b), (1, .ref (eA E 0)), (2, .ref (eA E 15)), (3, .ref (eA E 25)), (4, .ref (eA E 26)), (5, .int x5)]) hx hb dL_law_320 hl (by decide) rfl (fun ls hl => ?_)
          refine lv_aload_n hx hb dL_law_322 rfl (lv_at hl 3 rfl) ?_
          refine lv_aload_n hx hb dL_law_323 rfl (lv_at hl 1 rfl) ?_
          refine lv_iload hx hb dL_law_324 (lv_at hl 6 rfl) ?_
          refine lv_iconst (v := 1) hx hb dL_law_326 (by decide) ?_
          refine lv_iadd hx hb dL_law_327 ?_
          obtain ⟨hi16, h⟩ := h
          refine va_sld hx hb hX hbl hbA hw.2 hi16 dL_law_328 ?_
          refine lw_done_i pM C hw hlz hE (my_runV (As := [.int (xs (x5 + 1).toNatClampNeg)]) (rest := []) (ER_C pM C hE) (ER_W pM hw hlz hE) 15 9 (ER_in pM (by decide) (by decide)) rfl rfl (mt_X9_size l (ER_C pM C hE).2.2.2.2.2.2.2 (ER_FM E) _ _ h) K_m_L_94 K_i_X9_size K_v_X9_size K_n_X9 K_c_X9_size hy_X9_size ⟨Nat.le_of_ble_eq_true rfl, Nat.le_of_ble_eq_true rfl⟩ hl.1 rfl (Nat.le_of_ble_eq_true rfl) dL_law_329 ⟨by show _ ≤ (601024 : Nat); omega, by show _ ≤ (7293033 : Nat); omega⟩) (fun r7 w7 H locs h hw => ?_)
          refine lv_istore (lv' := [(7, .int r7), (6, .int r6), (0, .ref b), (1, .ref (eA E 0)), (2, .ref (eA E 15)), (3, .ref (eA E 25)), (4, .ref (eA E 26)), (5, .int x5)]) hx hb dL_law_332 hl (by decide) rfl (fun ls hl => ?_)
          refine lv_aload_n hx hb dL_law_334 rfl (lv_at hl 4 rfl) ?_
          refine lw_done_i pM C hw hlz hE (my_runV (As := []) (rest := []) (ER_C pM C hE) (ER_W pM hw hlz hE) 15 9 (ER_in pM (by decide) (by decide)) rfl rfl (mt_X9_thrown l (ER_C pM C hE).2.2.2.2.2.2.2 (ER_FM E) _ h) K_m_L_89 K_i_X9_thrown K_v_X9_thrown K_n_X9 K_c_X9_thrown hy_X9_thrown ⟨Nat.le_of_ble_eq_true rfl, Nat.le_of_ble_eq_true rfl⟩ hl.1 rfl (Nat.le_of_ble_eq_true rfl) dL_law_335 ⟨by show _ ≤ (601024 : Nat); omega, by show _ ≤ (7293033 : Nat); omega⟩) (fun r8 w8 H locs h hw => ?_)
          refine lv_iload hx hb dL_law_338 (lv_at hl 1 rfl) ?_
          refine lv_icmp_eq (tgt := 345) hx hb dL_law_340 (by decide) (fun c9 => ?_) (fun c9 => ?_)
          · have h := h.1 c9
            refine lv_iload hx hb dL_law_345 (lv_at hl 1 rfl) ?_
            refine lv_if_ne (tgt := 362) hx hb dL_law_347 (by decide) (fun c10 => ?_) (fun c10 => ?_)
            · have h := h.2 c10
              refine lv_goto (tgt := 1605) hx hb dL_law_362 (by decide) ?_
              obtain ⟨y4, ey4⟩ : ∃ y : Int32, y = x5 + 6 := ⟨_, rfl⟩
              have h := h y4 ey4
              refine lv_iinc (v := y4) (lv' := [(5, .int y4), (7, .int r7), (6, .int r6), (0, .ref b), (1, .ref (eA E 0)), (2, .ref (eA E 15)), (3, .ref (eA E 25)), (4, .ref (eA E 26))]) hx hb dL_law_1605 hl (k := 7) rfl (by rw [ey4]; first | rfl | decide) (by decide) rfl (fun ls hl => ?_)
              refine lv_goto (tgt := 28) hx hb dL_law_1608 (by decide) ?_
              exact h (t + 1) (by rw [ey4, ex5]; exact law_nI t) (by omega) _ _ (by omega) (by omega) _ _ hw _ (lv_sub hl [3, 4, 5, 6, 7, 0] rfl)
            · have h := h.1 c10
              refine lv_aload_n hx hb dL_law_350 rfl (lv_at hl 5 rfl) ?_
              refine lv_iconst (v := 0) hx hb dL_law_351 (by decide) ?_
              refine r_lald C hw 25 1 (hF 25 (by decide)) rfl (vp_lit (by decide)) dL_law_352 ?_
              refine lv_iload hx hb dL_law_353 (lv_at hl 0 rfl) ?_
              refine lv_i2l hx hb dL_law_355 rfl ?_
              refine W.lcmp hx hb dL_law_356 ?_
              refine lv_if_eq (tgt := 362) hx hb dL_law_357 (by decide) (fun c11 => ?_) (fun c11 => ?_)
              · have h := h.1 c11
                refine lv_goto (tgt := 1605) hx hb dL_law_362 (by decide) ?_
                obtain ⟨y5, ey5⟩ : ∃ y : Int32, y = x5 + 6 := ⟨_, rfl⟩
                have h := h y5 ey5
                refine lv_iinc (v := y5) (lv' := [(5, .int y5), (7, .int r7), (6, .int r6), (0, .ref b), (1, .ref (eA E 0)), (2, .ref (eA E 15)), (3, .ref (eA E 25)), (4, .ref (eA E 26))]) hx hb dL_law_1605 hl (k := 7) rfl (by rw [ey5]; first | rfl | decide) (by decide) rfl (fun ls hl => ?_)
                refine lv_goto (tgt := 28) hx hb dL_law_1608 (by decide) ?_
                exact h (t + 1) (by rw [ey5, ex5]; exact law_nI t) (by omega) _ _ (by omega) (by omega) _ _ hw _ (lv_sub hl [3, 4, 5, 6, 7, 0] rfl)
              · have h := h.2 c11
                refine lv_iconst (v := 0) hx hb dL_law_360 (by decide) ?_
                exact h.elim
          · have h := h.2 c9
            refine lv_iconst (v := 0) hx hb dL_law_343 (by decide) ?_
            exact h.elim
        · have h := h.2 c8
          by_cases c12 : ((xs x5.toNatClampNeg) &&& 31) = nI 3
          · have h := h.1 c12
            obtain ⟨s1, s2, s3⟩ := sw_in (hi := 29) c12 (by decide) (by decide)
            refine lv_tableIn (tgt := 365) hx hb dL_law_45 s1 s2 (by rw [s3]; rfl) (by decide) ?_
            refine lv_aload_n hx hb dL_law_365 rfl (lv_at hl 1 rfl) ?_
            refine lv_aload_n hx hb dL_law_366 rfl (lv_at hl 0 rfl) ?_
            refine lv_iload hx hb dL_law_367 (lv_at hl 5 rfl) ?_
            refine lv_iconst (v := 1) hx hb dL_law_369 (by decide) ?_
            refine lv_iadd hx hb dL_law_370 ?_
            obtain ⟨hi18, h⟩ := h
            refine va_sld hx hb hX hbl hbA hw.2 hi18 dL_law_371 ?_
            refine lv_aload_n hx hb dL_law_372 rfl (lv_at hl 0 rfl) ?_
            refine lv_iload hx hb dL_law_373 (lv_at hl 5 rfl) ?_
            refine lv_iconst (v := 2) hx hb dL_law_375 (by decide) ?_
            refine lv_iadd hx hb dL_law_376 ?_
            obtain ⟨hi19, h⟩ := h
            refine va_sld hx hb hX hbl hbA hw.2 hi19 dL_law_377 ?_
            refine lv_aload_n hx hb dL_law_378 rfl (lv_at hl 3 rfl) ?_
            refine lw_done_w pC C hw hlz hE (my_runSW (As := [.ref (eA E 0), .int (xs (x5 + 1).toNatClampNeg), .int (xs (x5 + 2).toNatClampNeg), .ref (eA E 25)]) (rest := []) (ER_C pC C hE) (ER_W pC hw hlz hE) (mt_L_ladder l hT (ER_C pC C hE).2.2.2.2.2.2.2 (ER_FC E) _ _ _ h) K_m_L_95 K_s_L_ladder K_n_L K_w_L_ladder hy_L_ladder ⟨Nat.le_of_ble_eq_true rfl, Nat.le_of_ble_eq_true rfl⟩ hl.1 rfl (Nat.le_of_ble_eq_true rfl) dL_law_379 ⟨by show _ ≤ (601024 : Nat); omega, by show _ ≤ (7293033 : Nat); omega⟩) (fun r9 w9 H locs h hw => ?_)
            refine lv_istore (lv' := [(6, .int r9), (0, .ref b), (1, .ref (eA E 0)), (2, .ref (eA E 15)), (3, .ref (eA E 25)), (4, .ref (eA E 26)), (5, .int x5)]) hx hb dL_law_382 hl (by decide) rfl (fun ls hl => ?_)
            refine lv_aload_n hx hb dL_law_384 rfl (lv_at hl 3 rfl) ?_
            refine lv_aload_n hx hb dL_law_385 rfl (lv_at hl 1 rfl) ?_
            refine lv_iload hx hb dL_law_386 (lv_at hl 6 rfl) ?_
            refine lv_iconst (v := 1) hx hb dL_law_388 (by decide) ?_
            refine lv_iadd hx hb dL_law_389 ?_
            obtain ⟨hi20, h⟩ := h
            refine va_sld hx hb hX hbl hbA hw.2 hi20 dL_law_390 ?_
            refine lv_aload_n hx hb dL_law_391 rfl (lv_at hl 1 rfl) ?_
            refine lv_iload hx hb dL_law_392 (lv_at hl 6 rfl) ?_
            refine lv_iconst (v := 2) hx hb dL_law_394 (by decide) ?_
            refine lv_iadd hx hb dL_law_395 ?_
            obtain ⟨hi21, h⟩ := h
            refine va_sld hx hb hX hbl hbA hw.2 hi21 dL_law_396 ?_
            refine lw_done_i pM C hw hlz hE (my_runV (As := [.int (xs (x5 + 1).toNatClampNeg), .int (xs (x5 + 2).toNatClampNeg)]) (rest := []) (ER_C pM C hE) (ER_W pM hw hlz hE) 15 9 (ER_in pM (by decide) (by decide)) rfl rfl (mt_X9_ladder l (ER_C pM C hE).2.2.2.2.2.2.2 (ER_FM E) _ _ _ h) K_m_L_98 K_i_X9_ladder K_v_X9_ladder K_n_X9 K_c_X9_ladder hy_X9_ladder ⟨Nat.le_of_ble_eq_true rfl, Nat.le_of_ble_eq_true rfl⟩ hl.1 rfl (Nat.le_of_ble_eq_true rfl) dL_law_397 ⟨by show _ ≤ (601024 : Nat); omega, by show _ ≤ (7293033 : Nat); omega⟩) (fun r10 w10 H locs h hw => ?_)
            refine lv_istore (lv' := [(7, .int r10), (6, .int r9), (0, .ref b), (1, .ref (eA E 0)), (2, .ref (eA E 15)), (3, .ref (eA E 25)), (4, .ref (eA E 26)), (5, .int x5)]) hx hb dL_law_400 hl (by decide) rfl (fun ls hl => ?_)
            refine lv_aload_n hx hb dL_law_402 rfl (lv_at hl 4 rfl) ?_
            refine lw_done_i pM C hw hlz hE (my_runV (As := []) (rest := []) (ER_C pM C hE) (ER_W pM hw hlz hE) 15 9 (ER_in pM (by decide) (by decide)) rfl rfl (mt_X9_thrown l (ER_C pM C hE).2.2.2.2.2.2.2 (ER_FM E) _ h) K_m_L_89 K_i_X9_thrown K_v_X9_thrown K_n_X9 K_c_X9_thrown hy_X9_thrown ⟨Nat.le_of_ble_eq_true rfl, Nat.le_of_ble_eq_true rfl⟩ hl.1 rfl (Nat.le_of_ble_eq_true rfl) dL_law_403 ⟨by show _ ≤ (601024 : Nat); omega, by show _ ≤ (7293033 : Nat); omega⟩) (fun r11 w11 H locs h hw => ?_)
            refine lv_iload hx hb dL_law_406 (lv_at hl 1 rfl) ?_
            refine lv_icmp_eq (tgt := 413) hx hb dL_law_408 (by decide) (fun c13 => ?_) (fun c13 => ?_)
            · have h := h.1 c13
              refine lv_iload hx hb dL_law_413 (lv_at hl 1 rfl) ?_
              refine lv_if_ne (tgt := 430) hx hb dL_law_415 (by decide) (fun c14 => ?_) (fun c14 => ?_)
              · have h := h.2 c14
                refine lv_goto (tgt := 1605) hx hb dL_law_430 (by decide) ?_
                obtain ⟨y6, ey6⟩ : ∃ y : Int32, y = x5 + 6 := ⟨_, rfl⟩
                have h := h y6 ey6
                refine lv_iinc (v := y6) (lv' := [(5, .int y6), (7, .int r10), (6, .int r9), (0, .ref b), (1, .ref (eA E 0)), (2, .ref (eA E 15)), (3, .ref (eA E 25)), (4, .ref (eA E 26))]) hx hb dL_law_1605 hl (k := 7) rfl (by rw [ey6]; first | rfl | decide) (by decide) rfl (fun ls hl => ?_)
                refine lv_goto (tgt := 28) hx hb dL_law_1608 (by decide) ?_
                exact h (t + 1) (by rw [ey6, ex5]; exact law_nI t) (by omega) _ _ (by omega) (by omega) _ _ hw _ (lv_sub hl [3, 4, 5, 6, 7, 0] rfl)
              · have h := h.1 c14
                refine lv_aload_n hx hb dL_law_418 rfl (lv_at hl 5 rfl) ?_
                refine lv_iconst (v := 0) hx hb dL_law_419 (by decide) ?_
                refine r_lald C hw 25 1 (hF 25 (by decide)) rfl (vp_lit (by decide)) dL_law_420 ?_
                refine lv_iload hx hb dL_law_421 (lv_at hl 0 rfl) ?_
                refine lv_i2l hx hb dL_law_423 rfl ?_
                refine W.lcmp hx hb dL_law_424 ?_
                refine lv_if_eq (tgt := 430) hx hb dL_law_425 (by decide) (fun c15 => ?_) (fun c15 => ?_)
                · have h := h.1 c15
                  refine lv_goto (tgt := 1605) hx hb dL_law_430 (by decide) ?_
                  obtain ⟨y7, ey7⟩ : ∃ y : Int32, y = x5 + 6 := ⟨_, rfl⟩
                  have h := h y7 ey7
                  refine lv_iinc (v := y7) (lv' := [(5, .int y7), (7, .int r10), (6, .int r9), (0, .ref b), (1, .ref (eA E 0)), (2, .ref (eA E 15)), (3, .ref (eA E 25)), (4, .ref (eA E 26))]) hx hb dL_law_1605 hl (k := 7) rfl (by rw [ey7]; first | rfl | decide) (by decide) rfl (fun ls hl => ?_)
                  refine lv_goto (tgt := 28) hx hb dL_law_1608 (by decide) ?_
                  exact h (t + 1) (by rw [ey7, ex5]; exact law_nI t) (by omega) _ _ (by omega) (by omega) _ _ hw _ (lv_sub hl [3, 4, 5, 6, 7, 0] rfl)
                · have h := h.2 c15
                  refine lv_iconst (v := 0) hx hb dL_law_428 (by decide) ?_
                  exact h.elim
            · have h := h.2 c13
              refine lv_iconst (v := 0) hx hb dL_law_411 (by decide) ?_
              exact h.elim
          · have h := h.2 c12
            by_cases c16 : ((xs x5.toNatClampNeg) &&& 31) = nI 4
            · have h := h.1 c16
              obtain ⟨s1, s2, s3⟩ := sw_in (hi := 29) c16 (by decide) (by decide)
              refine lv_tableIn (tgt := 433) hx hb dL_law_45 s1 s2 (by rw [s3]; rfl) (by decide) ?_
              refine lv_aload_n hx hb dL_law_433 rfl (lv_at hl 1 rfl) ?_
              refine lv_aload_n hx hb dL_law_434 rfl (lv_at hl 0 rfl) ?_
              refine lv_iload hx hb dL_law_435 (lv_at hl 5 rfl) ?_
              refine lv_iconst (v := 1) hx hb dL_law_437 (by decide) ?_
              refine lv_iadd hx hb dL_law_438 ?_
              obtain ⟨hi23, h⟩ := h
              refine va_sld hx hb hX hbl hbA hw.2 hi23 dL_law_439 ?_
              refine lv_aload_n hx hb dL_law_440 rfl (lv_at hl 0 rfl) ?_
              refine lv_iload hx hb dL_law_441 (lv_at hl 5 rfl) ?_
              refine lv_iconst (v := 2) hx hb dL_law_443 (by decide) ?_
              refine lv_iadd hx hb dL_law_444 ?_
              obtain ⟨hi24, h⟩ := h
              refine va_sld hx hb hX hbl hbA hw.2 hi24 dL_law_445 ?_
              refine lv_aload_n hx hb dL_law_446 rfl (lv_at hl 3 rfl) ?_
              refine lw_done_w pC C hw hlz hE (my_runSW (As := [.ref (eA E 0), .int (xs (x5 + 1).toNatClampNeg), .int (xs (x5 + 2).toNatClampNeg), .ref (eA E 25)]) (rest := []) (ER_C pC C hE) (ER_W pC hw hlz hE) (mt_L_set l hT (ER_C pC C hE).2.2.2.2.2.2.2 (ER_FC E) _ _ _ h) K_m_L_99 K_s_L_set K_n_L K_w_L_set hy_L_set ⟨Nat.le_of_ble_eq_true rfl, Nat.le_of_ble_eq_true rfl⟩ hl.1 rfl (Nat.le_of_ble_eq_true rfl) dL_law_447 ⟨by show _ ≤ (601024 : Nat); omega, by show _ ≤ (7293033 : Nat); omega⟩) (fun r12 w12 H locs h hw => ?_)
              refine lv_istore (lv' := [(6, .int r12), (0, .ref b), (1, .ref (eA E 0)), (2, .ref (eA E 15)), (3, .ref (eA E 25)), (4, .ref (eA E 26)), (5, .int x5)]) hx hb dL_law_450 hl (by decide) rfl (fun ls hl => ?_)
              refine lv_aload_n hx hb dL_law_452 rfl (lv_at hl 3 rfl) ?_
              refine lv_aload_n hx hb dL_law_453 rfl (lv_at hl 1 rfl) ?_
              refine lv_iload hx hb dL_law_454 (lv_at hl 6 rfl) ?_
              refine lv_iconst (v := 1) hx hb dL_law_456 (by decide) ?_
              refine lv_iadd hx hb dL_law_457 ?_
              obtain ⟨hi25, h⟩ := h
              refine va_sld hx hb hX hbl hbA hw.2 hi25 dL_law_458 ?_
              refine lv_aload_n hx hb dL_law_459 rfl (lv_at hl 1 rfl) ?_
              refine lv_iload hx hb dL_law_460 (lv_at hl 6 rfl) ?_
              refine lv_iconst (v := 2) hx hb dL_law_462 (by decide) ?_
              refine lv_iadd hx hb dL_law_463 ?_
              obtain ⟨hi26, h⟩ := h
              refine va_sld hx hb hX hbl hbA hw.2 hi26 dL_law_464 ?_
              refine lw_done_i pM C hw hlz hE (my_runV (As := [.int (xs (x5 + 1).toNatClampNeg), .int (xs (x5 + 2).toNatClampNeg)]) (rest := []) (ER_C pM C hE) (ER_W pM hw hlz hE) 15 9 (ER_in pM (by decide) (by decide)) rfl rfl (mt_X9_set l (ER_C pM C hE).2.2.2.2.2.2.2 (ER_FM E) _ _ _ h) K_m_L_101 K_i_X9_set K_v_X9_set K_n_X9 K_c_X9_set hy_X9_set ⟨Nat.le_of_ble_eq_true rfl, Nat.le_of_ble_eq_true rfl⟩ hl.1 rfl (Nat.le_of_ble_eq_true rfl) dL_law_465 ⟨by show _ ≤ (601024 : Nat); omega, by show _ ≤ (7293033 : Nat); omega⟩) (fun r13 w13 H locs h hw => ?_)
              refine lv_istore (lv' := [(7, .int r13), (6, .int r12), (0, .ref b), (1, .ref (eA E 0)), (2, .ref (eA E 15)), (3, .ref (eA E 25)), (4, .ref (eA E 26)), (5, .int x5)]) hx hb dL_law_468 hl (by decide) rfl (fun ls hl => ?_)
              refine lv_aload_n hx hb dL_law_470 rfl (lv_at hl 4 rfl) ?_
              refine lw_done_i pM C hw hlz hE (my_runV (As := []) (rest := []) (ER_C pM C hE) (ER_W pM hw hlz hE) 15 9 (ER_in pM (by decide) (by decide)) rfl rfl (mt_X9_thrown l (ER_C pM C hE).2.2.2.2.2.2.2 (ER_FM E) _ h) K_m_L_89 K_i_X9_thrown K_v_X9_thrown K_n_X9 K_c_X9_thrown hy_X9_thrown ⟨Nat.le_of_ble_eq_true rfl, Nat.le_of_ble_eq_true rfl⟩ hl.1 rfl (Nat.le_of_ble_eq_true rfl) dL_law_471 ⟨by show _ ≤ (601024 : Nat); omega, by show _ ≤ (7293033 : Nat); omega⟩) (fun r14 w14 H locs h hw => ?_)
              refine lv_iload hx hb dL_law_474 (lv_at hl 1 rfl) ?_
              refine lv_icmp_eq (tgt := 481) hx hb dL_law_476 (by decide) (fun c17 => ?_) (fun c17 => ?_)
              · have h := h.1 c17
                refine lv_iload hx hb dL_law_481 (lv_at hl 1 rfl) ?_
                refine lv_if_ne (tgt := 498) hx hb dL_law_483 (by decide) (fun c18 => ?_) (fun c18 => ?_)
                · have h := h.2 c18
                  refine lv_goto (tgt := 1605) hx hb dL_law_498 (by decide) ?_
                  obtain ⟨y8, ey8⟩ : ∃ y : Int32, y = x5 + 6 := ⟨_, rfl⟩
                  have h := h y8 ey8
                  refine lv_iinc (v := y8) (lv' := [(5, .int y8), (7, .int r13), (6, .int r12), (0, .ref b), (1, .ref (eA E 0)), (2, .ref (eA E 15)), (3, .ref (eA E 25)), (4, .ref (eA E 26))]) hx hb dL_law_1605 hl (k := 7) rfl (by rw [ey8]; first | rfl | decide) (by decide) rfl (fun ls hl => ?_)
                  refine lv_goto (tgt := 28) hx hb dL_law_1608 (by decide) ?_
                  exact h (t + 1) (by rw [ey8, ex5]; exact law_nI t) (by omega) _ _ (by omega) (by omega) _ _ hw _ (lv_sub hl [3, 4, 5, 6, 7, 0] rfl)
                · have h := h.1 c18
                  refine lv_aload_n hx hb dL_law_486 rfl (lv_at hl 5 rfl) ?_
                  refine lv_iconst (v := 0) hx hb dL_law_487 (by decide) ?_
                  refine r_lald C hw 25 1 (hF 25 (by decide)) rfl (vp_lit (by decide)) dL_law_488 ?_
                  refine lv_iload hx hb dL_law_489 (lv_at hl 0 rfl) ?_
                  refine lv_i2l hx hb dL_law_491 rfl ?_
                  refine W.lcmp hx hb dL_law_492 ?_
                  refine lv_if_eq (tgt := 498) hx hb dL_law_493 (by decide) (fun c19 => ?_) (fun c19 => ?_)
                  · have h := h.1 c19
                    refine lv_goto (tgt := 1605) hx hb dL_law_498 (by decide) ?_
                    obtain ⟨y9, ey9⟩ : ∃ y : Int32, y = x5 + 6 := ⟨_, rfl⟩
                    have h := h y9 ey9
                    refine lv_iinc (v := y9) (lv' := [(5, .int y9), (7, .int r13), (6, .int r12), (0, .ref b), (1, .ref (eA E 0)), (2, .ref (eA E 15)), (3, .ref (eA E 25)), (4, .ref (eA E 26))]) hx hb dL_law_1605 hl (k := 7) rfl (by rw [ey9]; first | rfl | decide) (by decide) rfl (fun ls hl => ?_)
                    refine lv_goto (tgt := 28) hx hb dL_law_1608 (by decide) ?_
                    exact h (t + 1) (by rw [ey9, ex5]; exact law_nI t) (by omega) _ _ (by omega) (by omega) _ _ hw _ (lv_sub hl [3, 4, 5, 6, 7, 0] rfl)
                  · have h := h.2 c19
                    refine lv_iconst (v := 0) hx hb dL_law_496 (by decide) ?_
                    exact h.elim
              · have h := h.2 c17
                refine lv_iconst (v := 0) hx hb dL_law_479 (by decide) ?_
                exact h.elim
            · have h := h.2 c16
              by_cases c20 : ((xs x5.toNatClampNeg) &&& 31) = nI 5
              · have h := h.1 c20
                obtain ⟨s1, s2, s3⟩ := sw_in (hi := 29) c20 (by decide) (by decide)
                refine lv_tableIn (tgt := 501) hx hb dL_law_45 s1 s2 (by rw [s3]; rfl) (by decide) ?_
                refine lv_aload_n hx hb dL_law_501 rfl (lv_at hl 1 rfl) ?_
                refine lv_aload_n hx hb dL_law_502 rfl (lv_at hl 0 rfl) ?_
                refine lv_iload hx hb dL_law_503 (lv_at hl 5 rfl) ?_
                refine lv_iconst (v := 1) hx hb dL_law_505 (by decide) ?_
                refine lv_iadd hx hb dL_law_506 ?_
                obtain ⟨hi28, h⟩ := h
                refine va_sld hx hb hX hbl hbA hw.2 hi28 dL_law_507 ?_
                refine lv_aload_n hx hb dL_law_508 rfl (lv_at hl 0 rfl) ?_
                refine lv_iload hx hb dL_law_509 (lv_at hl 5 rfl) ?_
                refine lv_iconst (v := 2) hx hb dL_law_511 (by decide) ?_
                refine lv_iadd hx hb dL_law_512 ?_
                obtain ⟨hi29, h⟩ := h
                refine va_sld hx hb hX hbl hbA hw.2 hi29 dL_law_513 ?_
                refine lv_aload_n hx hb dL_law_514 rfl (lv_at hl 3 rfl) ?_
                refine lw_done_w pC C hw hlz hE (my_runSW (As := [.ref (eA E 0), .int (xs (x5 + 1).toNatClampNeg), .int (xs (x5 + 2).toNatClampNeg), .ref (eA E 25)]) (rest := []) (ER_C pC C hE) (ER_W pC hw hlz hE) (mt_L_player l hT (ER_C pC C hE).2.2.2.2.2.2.2 (ER_FC E) _ _ _ h) K_m_L_102 K_s_L_player K_n_L K_w_L_player hy_L_player ⟨Nat.le_of_ble_eq_true rfl, Nat.le_of_ble_eq_true rfl⟩ hl.1 rfl (Nat.le_of_ble_eq_true rfl) dL_law_515 ⟨by show _ ≤ (601024 : Nat); omega, by show _ ≤ (7293033 : Nat); omega⟩) (fun r15 w15 H locs h hw => ?_)
                refine lv_istore (lv' := [(6, .int r15), (0, .ref b), (1, .ref (eA E 0)), (2, .ref (eA E 15)), (3, .ref (eA E 25)), (4, .ref (eA E 26)), (5, .int x5)]) hx hb dL_law_518 hl (by decide) rfl (fun ls hl => ?_)
                refine lv_aload_n hx hb dL_law_520 rfl (lv_at hl 3 rfl) ?_
                refine lv_aload_n hx hb dL_law_521 rfl (lv_at hl 1 rfl) ?_
                refine lv_iload hx hb dL_law_522 (lv_at hl 6 rfl) ?_
                refine lv_iconst (v := 1) hx hb dL_law_524 (by decide) ?_
                refine lv_iadd hx hb dL_law_525 ?_
                obtain ⟨hi30, h⟩ := h
                refine va_sld hx hb hX hbl hbA hw.2 hi30 dL_law_526 ?_
                refine lv_aload_n hx hb dL_law_527 rfl (lv_at hl 1 rfl) ?_
                refine lv_iload hx hb dL_law_528 (lv_at hl 6 rfl) ?_
                refine lv_iconst (v := 2) hx hb dL_law_530 (by decide) ?_
                refine lv_iadd hx hb dL_law_531 ?_
                obtain ⟨hi31, h⟩ := h
                refine va_sld hx hb hX hbl hbA hw.2 hi31 dL_law_532 ?_
                refine lw_done_i pM C hw hlz hE (my_runV (As := [.int (xs (x5 + 1).toNatClampNeg), .int (xs (x5 + 2).toNatClampNeg)]) (rest := []) (ER_C pM C hE) (ER_W pM hw hlz hE) 15 9 (ER_in pM (by decide) (by decide)) rfl rfl (mt_X9_player l (ER_C pM C hE).2.2.2.2.2.2.2 (ER_FM E) _ _ _ h) K_m_L_104 K_i_X9_player K_v_X9_player K_n_X9 K_c_X9_player hy_X9_player ⟨Nat.le_of_ble_eq_true rfl, Nat.le_of_ble_eq_true rfl⟩ hl.1 rfl (Nat.le_of_ble_eq_true rfl) dL_law_533 ⟨by show _ ≤ (601024 : Nat); omega, by show _ ≤ (7293033 : Nat); omega⟩) (fun r16 w16 H locs h hw => ?_)
                refine lv_istore (lv' := [(7, .int r16), (6, .int r15), (0, .ref b), (1, .ref (eA E 0)), (2, .ref (eA E 15)), (3, .ref (eA E 25)), (4, .ref (eA E 26)), (5, .int x5)]) hx hb dL_law_536 hl (by decide) rfl (fun ls hl => ?_)
                refine lv_aload_n hx hb dL_law_538 rfl (lv_at hl 4 rfl) ?_
                refine lw_done_i pM C hw hlz hE (my_runV (As := []) (rest := []) (ER_C pM C hE) (ER_W pM hw hlz hE) 15 9 (ER_in pM (by decide) (by decide)) rfl rfl (mt_X9_thrown l (ER_C pM C hE).2.2.2.2.2.2.2 (ER_FM E) _ h) K_m_L_89 K_i_X9_thrown K_v_X9_thrown K_n_X9 K_c_X9_thrown hy_X9_thrown ⟨Nat.le_of_ble_eq_true rfl, Nat.le_of_ble_eq_true rfl⟩ hl.1 rfl (Nat.le_of_ble_eq_true rfl) dL_law_539 ⟨by show _ ≤ (601024 : Nat); omega, by show _ ≤ (7293033 : Nat); omega⟩) (fun r17 w17 H locs h hw => ?_)
                refine lv_iload hx hb dL_law_542 (lv_at hl 1 rfl) ?_
                refine lv_icmp_eq (tgt := 549) hx hb dL_law_544 (by decide) (fun c21 => ?_) (fun c21 => ?_)
                · have h := h.1 c21
                  refine lv_iload hx hb dL_law_549 (lv_at hl 1 rfl) ?_
                  refine lv_if_ne (tgt := 566) hx hb dL_law_551 (by decide) (fun c22 => ?_) (fun c22 => ?_)
                  · have h := h.2 c22
                    refine lv_goto (tgt := 1605) hx hb dL_law_566 (by decide) ?_
                    obtain ⟨y10, ey10⟩ : ∃ y : Int32, y = x5 + 6 := ⟨_, rfl⟩
                    have h := h y10 ey10
                    refine lv_iinc (v := y10) (lv' := [(5, .int y10), (7, .int r16), (6, .int r15), (0, .ref b), (1, .ref (eA E 0)), (2, .ref (eA E 15)), (3, .ref (eA E 25)), (4, .ref (eA E 26))]) hx hb dL_law_1605 hl (k := 7) rfl (by rw [ey10]; first | rfl | decide) (by decide) rfl (fun ls hl => ?_)
                    refine lv_goto (tgt := 28) hx hb dL_law_1608 (by decide) ?_
                    exact h (t + 1) (by rw [ey10, ex5]; exact law_nI t) (by omega) _ _ (by omega) (by omega) _ _ hw _ (lv_sub hl [3, 4, 5, 6, 7, 0] rfl)
                  · have h := h.1 c22
                    refine lv_aload_n hx hb dL_law_554 rfl (lv_at hl 5 rfl) ?_
                    refine lv_iconst (v := 0) hx hb dL_law_555 (by decide) ?_
                    refine r_lald C hw 25 1 (hF 25 (by decide)) rfl (vp_lit (by decide)) dL_law_556 ?_
                    refine lv_iload hx hb dL_law_557 (lv_at hl 0 rfl) ?_
                    refine lv_i2l hx hb dL_law_559 rfl ?_
                    refine W.lcmp hx hb dL_law_560 ?_
                    refine lv_if_eq (tgt := 566) hx hb dL_law_561 (by decide) (fun c23 => ?_) (fun c23 => ?_)
                    · have h := h.1 c23
                      refine lv_goto (tgt := 1605) hx hb dL_law_566 (by decide) ?_
                      obtain ⟨y11, ey11⟩ : ∃ y : Int32, y = x5 + 6 := ⟨_, rfl⟩
                      have h := h y11 ey11
                      refine lv_iinc (v := y11) (lv' := [(5, .int y11), (7, .int r16), (6, .int r15), (0, .ref b), (1, .ref (eA E 0)), (2, .ref (eA E 15)), (3, .ref (eA E 25)), (4, .ref (eA E 26))]) hx hb dL_law_1605 hl (k := 7) rfl (by rw [ey11]; first | rfl | decide) (by decide) rfl (fun ls hl => ?_)
                      refine lv_goto (tgt := 28) hx hb dL_law_1608 (by decide) ?_
                      exact h (t + 1) (by rw [ey11, ex5]; exact law_nI t) (by omega) _ _ (by omega) (by omega) _ _ hw _ (lv_sub hl [3, 4, 5, 6, 7, 0] rfl)
                    · have h := h.2 c23
                      refine lv_iconst (v := 0) hx hb dL_law_564 (by decide) ?_
                      exact h.elim
                · have h := h.2 c21
                  refine lv_iconst (v := 0) hx hb dL_law_547 (by decide) ?_
                  exact h.elim
              · have h := h.2 c20
                by_cases c24 : ((xs x5.toNatClampNeg) &&& 31) = nI 6
                · have h := h.1 c24
                  obtain ⟨s1, s2, s3⟩ := sw_in (hi := 29) c24 (by decide) (by decide)
                  refine lv_tableIn (tgt := 569) hx hb dL_law_45 s1 s2 (by rw [s3]; rfl) (by decide) ?_
                  refine lv_aload_n hx hb dL_law_569 rfl (lv_at hl 1 rfl) ?_
                  refine lv_aload_n hx hb dL_law_570 rfl (lv_at hl 0 rfl) ?_
                  refine lv_iload hx hb dL_law_571 (lv_at hl 5 rfl) ?_
                  refine lv_iconst (v := 1) hx hb dL_law_573 (by decide) ?_
                  refine lv_iadd hx hb dL_law_574 ?_
                  obtain ⟨hi33, h⟩ := h
                  refine va_sld hx hb hX hbl hbA hw.2 hi33 dL_law_575 ?_
                  refine lv_aload_n hx hb dL_law_576 rfl (lv_at hl 0 rfl) ?_
                  refine lv_iload hx hb dL_law_577 (lv_at hl 5 rfl) ?_
                  refine lv_iconst (v := 2) hx hb dL_law_579 (by decide) ?_
                  refine lv_iadd hx hb dL_law_580 ?_
                  obtain ⟨hi34, h⟩ := h
                  refine va_sld hx hb hX hbl hbA hw.2 hi34 dL_law_581 ?_
                  refine lv_aload_n hx hb dL_law_582 rfl (lv_at hl 3 rfl) ?_
                  refine lw_done_w pC C hw hlz hE (my_runSW (As := [.ref (eA E 0), .int (xs (x5 + 1).toNatClampNeg), .int (xs (x5 + 2).toNatClampNeg), .ref (eA E 25)]) (rest := []) (ER_C pC C hE) (ER_W pC hw hlz hE) (mt_L_act l hT (ER_C pC C hE).2.2.2.2.2.2.2 (ER_FC E) _ _ _ h) K_m_L_105 K_s_L_act K_n_L K_w_L_act hy_L_act ⟨Nat.le_of_ble_eq_true rfl, Nat.le_of_ble_eq_true rfl⟩ hl.1 rfl (Nat.le_of_ble_eq_true rfl) dL_law_583 ⟨by show _ ≤ (601024 : Nat); omega, by show _ ≤ (7293033 : Nat); omega⟩) (fun r18 w18 H locs h hw => ?_)
                  refine lv_istore (lv' := [(6, .int r18), (0, .ref b), (1, .ref (eA E 0)), (2, .ref (eA E 15)), (3, .ref (eA E 25)), (4, .ref (eA E 26)), (5, .int x5)]) hx hb dL_law_586 hl (by decide) rfl (fun ls hl => ?_)
                  refine lv_aload_n hx hb dL_law_588 rfl (lv_at hl 3 rfl) ?_
                  refine lv_aload_n hx hb dL_law_589 rfl (lv_at hl 1 rfl) ?_
                  refine lv_iload hx hb dL_law_590 (lv_at hl 6 rfl) ?_
                  refine lv_iconst (v := 1) hx hb dL_law_592 (by decide) ?_
                  refine lv_iadd hx hb dL_law_593 ?_
                  obtain ⟨hi35, h⟩ := h
                  refine va_sld hx hb hX hbl hbA hw.2 hi35 dL_law_594 ?_
                  refine lv_aload_n hx hb dL_law_595 rfl (lv_at hl 1 rfl) ?_
                  refine lv_iload hx hb dL_law_596 (lv_at hl 6 rfl) ?_
                  refine lv_iconst (v := 2) hx hb dL_law_598 (by decide) ?_
                  refine lv_iadd hx hb dL_law_599 ?_
                  obtain ⟨hi36, h⟩ := h
                  refine va_sld hx hb hX hbl hbA hw.2 hi36 dL_law_600 ?_
                  refine lw_done_i pM C hw hlz hE (my_runV (As := [.int (xs (x5 + 1).toNatClampNeg), .int (xs (x5 + 2).toNatClampNeg)]) (rest := []) (ER_C pM C hE) (ER_W pM hw hlz hE) 15 9 (ER_in pM (by decide) (by decide)) rfl rfl (mt_X9_act l (ER_C pM C hE).2.2.2.2.2.2.2 (ER_FM E) _ _ _ h) K_m_L_107 K_i_X9_act K_v_X9_act K_n_X9 K_c_X9_act hy_X9_act ⟨Nat.le_of_ble_eq_true rfl, Nat.le_of_ble_eq_true rfl⟩ hl.1 rfl (Nat.le_of_ble_eq_true rfl) dL_law_601 ⟨by show _ ≤ (601024 : Nat); omega, by show _ ≤ (7293033 : Nat); omega⟩) (fun r19 w19 H locs h hw => ?_)
                  refine lv_istore (lv' := [(7, .int r19), (6, .int r18), (0, .ref b), (1, .ref (eA E 0)), (2, .ref (eA E 15)), (3, .ref (eA E 25)), (4, .ref (eA E 26)), (5, .int x5)]) hx hb dL_law_604 hl (by decide) rfl (fun ls hl => ?_)
                  refine lv_aload_n hx hb dL_law_606 rfl (lv_at hl 4 rfl) ?_
                  refine lw_done_i pM C hw hlz hE (my_runV (As := []) (rest := []) (ER_C pM C hE) (ER_W pM hw hlz hE) 15 9 (ER_in pM (by decide) (by decide)) rfl rfl (mt_X9_thrown l (ER_C pM C hE).2.2.2.2.2.2.2 (ER_FM E) _ h) K_m_L_89 K_i_X9_thrown K_v_X9_thrown K_n_X9 K_c_X9_thrown hy_X9_thrown ⟨Nat.le_of_ble_eq_true rfl, Nat.le_of_ble_eq_true rfl⟩ hl.1 rfl (Nat.le_of_ble_eq_true rfl) dL_law_607 ⟨by show _ ≤ (601024 : Nat); omega, by show _ ≤ (7293033 : Nat); omega⟩) (fun r20 w20 H locs h hw => ?_)
                  refine lv_iload hx hb dL_law_610 (lv_at hl 1 rfl) ?_
                  refine lv_icmp_eq (tgt := 617) hx hb dL_law_612 (by decide) (fun c25 => ?_) (fun c25 => ?_)
                  · have h := h.1 c25
                    refine lv_iload hx hb dL_law_617 (lv_at hl 1 rfl) ?_
                    refine lv_if_ne (tgt := 634) hx hb dL_law_619 (by decide) (fun c26 => ?_) (fun c26 => ?_)
                    · have h := h.2 c26
                      refine lv_goto (tgt := 1605) hx hb dL_law_634 (by decide) ?_
                      obtain ⟨y12, ey12⟩ : ∃ y : Int32, y = x5 + 6 := ⟨_, rfl⟩
                      have h := h y12 ey12
                      refine lv_iinc (v := y12) (lv' := [(5, .int y12), (7, .int r19), (6, .int r18), (0, .ref b), (1, .ref (eA E 0)), (2, .ref (eA E 15)), (3, .ref (eA E 25)), (4, .ref (eA E 26))]) hx hb dL_law_1605 hl (k := 7) rfl (by rw [ey12]; first | rfl | decide) (by decide) rfl (fun ls hl => ?_)
                      refine lv_goto (tgt := 28) hx hb dL_law_1608 (by decide) ?_
                      exact h (t + 1) (by rw [ey12, ex5]; exact law_nI t) (by omega) _ _ (by omega) (by omega) _ _ hw _ (lv_sub hl [3, 4, 5, 6, 7, 0] rfl)
                    · have h := h.1 c26
                      refine lv_aload_n hx hb dL_law_622 rfl (lv_at hl 5 rfl) ?_
                      refine lv_iconst (v := 0) hx hb dL_law_623 (by decide) ?_
                      refine r_lald C hw 25 1 (hF 25 (by decide)) rfl (vp_lit (by decide)) dL_law_624 ?_
                      refine lv_iload hx hb dL_law_625 (lv_at hl 0 rfl) ?_
                      refine lv_i2l hx hb dL_law_627 rfl ?_
                      refine W.lcmp hx hb dL_law_628 ?_
                      refine lv_if_eq (tgt := 634) hx hb dL_law_629 (by decide) (fun c27 => ?_) (fun c27 => ?_)
                      · have h := h.1 c27
                        refine lv_goto (tgt := 1605) hx hb dL_law_634 (by decide) ?_
                        obtain ⟨y13, ey13⟩ : ∃ y : Int32, y = x5 + 6 := ⟨_, rfl⟩
                        have h := h y13 ey13
                        refine lv_iinc (v := y13) (lv' := [(5, .int y13), (7, .int r19), (6, .int r18), (0, .ref b), (1, .ref (eA E 0)), (2, .ref (eA E 15)), (3, .ref (eA E 25)), (4, .ref (eA E 26))]) hx hb dL_law_1605 hl (k := 7) rfl (by rw [ey13]; first | rfl | decide) (by decide) rfl (fun ls hl => ?_)
                        refine lv_goto (tgt := 28) hx hb dL_law_1608 (by decide) ?_
                        exact h (t + 1) (by rw [ey13, ex5]; exact law_nI t) (by omega) _ _ (by omega) (by omega) _ _ hw _ (lv_sub hl [3, 4, 5, 6, 7, 0] rfl)
                      · have h := h.2 c27
                        refine lv_iconst (v := 0) hx hb dL_law_632 (by decide) ?_
                        exact h.elim
                  · have h := h.2 c25
                    refine lv_iconst (v := 0) hx hb dL_law_615 (by decide) ?_
                    exact h.elim
                · have h := h.2 c24
                  by_cases c28 : ((xs x5.toNatClampNeg) &&& 31) = nI 7
                  · have h := h.1 c28
                    obtain ⟨s1, s2, s3⟩ := sw_in (hi := 29) c28 (by decide) (by decide)
                    refine lv_tableIn (tgt := 637) hx hb dL_law_45 s1 s2 (by rw [s3]; rfl) (by decide) ?_
                    refine lv_aload_n hx hb dL_law_637 rfl (lv_at hl 1 rfl) ?_
                    refine lv_aload_n hx hb dL_law_638 rfl (lv_at hl 0 rfl) ?_
                    refine lv_iload hx hb dL_law_639 (lv_at hl 5 rfl) ?_
                    refine lv_iconst (v := 1) hx hb dL_law_641 (by decide) ?_
                    refine lv_iadd hx hb dL_law_642 ?_
                    obtain ⟨hi38, h⟩ := h
                    refine va_sld hx hb hX hbl hbA hw.2 hi38 dL_law_643 ?_
                    refine lv_aload_n hx hb dL_law_644 rfl (lv_at hl 0 rfl) ?_
                    refine lv_iload hx hb dL_law_645 (lv_at hl 5 rfl) ?_
                    refine lv_iconst (v := 2) hx hb dL_law_647 (by decide) ?_
                    refine lv_iadd hx hb dL_law_648 ?_
                    obtain ⟨hi39, h⟩ := h
                    refine va_sld hx hb hX hbl hbA hw.2 hi39 dL_law_649 ?_
                    refine lv_aload_n hx hb dL_law_650 rfl (lv_at hl 3 rfl) ?_
                    refine lw_done_w pC C hw hlz hE (my_runSW (As := [.ref (eA E 0), .int (xs (x5 + 1).toNatClampNeg), .int (xs (x5 + 2).toNatClampNeg), .ref (eA E 25)]) (rest := []) (ER_C pC C hE) (ER_W pC hw hlz hE) (mt_L_valueOf l hT (ER_C pC C hE).2.2.2.2.2.2.2 (ER_FC E) _ _ _ h) K_m_L_108 K_s_L_valueOf K_n_L K_w_L_valueOf hy_L_valueOf ⟨Nat.le_of_ble_eq_true rfl, Nat.le_of_ble_eq_true rfl⟩ hl.1 rfl (Nat.le_of_ble_eq_true rfl) dL_law_651 ⟨by show _ ≤ (601024 : Nat); omega, by show _ ≤ (7293033 : Nat); omega⟩) (fun r21 w21 H locs h hw => ?_)
                    refine lv_istore (lv' := [(6, .int r21), (0, .ref b), (1, .ref (eA E 0)), (2, .ref (eA E 15)), (3, .ref (eA E 25)), (4, .ref (eA E 26)), (5, .int x5)]) hx hb dL_law_654 hl (by decide) rfl (fun ls hl => ?_)
                    refine lv_aload_n hx hb dL_law_656 rfl (lv_at hl 3 rfl) ?_
                    refine lv_aload_n hx hb dL_law_657 rfl (lv_at hl 1 rfl) ?_
                    refine lv_iload hx hb dL_law_658 (lv_at hl 6 rfl) ?_
                    refine lv_iconst (v := 1) hx hb dL_law_660 (by decide) ?_
                    refine lv_iadd hx hb dL_law_661 ?_
                    obtain ⟨hi40, h⟩ := h
                    refine va_sld hx hb hX hbl hbA hw.2 hi40 dL_law_662 ?_
                    refine lv_aload_n hx hb dL_law_663 rfl (lv_at hl 1 rfl) ?_
                    refine lv_iload hx hb dL_law_664 (lv_at hl 6 rfl) ?_
                    refine lv_iconst (v := 2) hx hb dL_law_666 (by decide) ?_
                    refine lv_iadd hx hb dL_law_667 ?_
                    obtain ⟨hi41, h⟩ := h
                    refine va_sld hx hb hX hbl hbA hw.2 hi41 dL_law_668 ?_
                    refine lw_done_i pM C hw hlz hE (my_runV (As := [.int (xs (x5 + 1).toNatClampNeg), .int (xs (x5 + 2).toNatClampNeg)]) (rest := []) (ER_C pM C hE) (ER_W pM hw hlz hE) 15 9 (ER_in pM (by decide) (by decide)) rfl rfl (mt_X9_valueOf l (ER_C pM C hE).2.2.2.2.2.2.2 (ER_FM E) _ _ _ h) K_m_L_110 K_i_X9_valueOf K_v_X9_valueOf K_n_X9 K_c_X9_valueOf hy_X9_valueOf ⟨Nat.le_of_ble_eq_true rfl, Nat.le_of_ble_eq_true rfl⟩ hl.1 rfl (Nat.le_of_ble_eq_true rfl) dL_law_669 ⟨by show _ ≤ (601024 : Nat); omega, by show _ ≤ (7293033 : Nat); omega⟩) (fun r22 w22 H locs h hw => ?_)
                    refine lv_istore (lv' := [(7, .int r22), (6, .int r21), (0, .ref b), (1, .ref (eA E 0)), (2, .ref (eA E 15)), (3, .ref (eA E 25)), (4, .ref (eA E 26)), (5, .int x5)]) hx hb dL_law_672 hl (by decide) rfl (fun ls hl => ?_)
                    refine lv_aload_n hx hb dL_law_674 rfl (lv_at hl 4 rfl) ?_
                    refine lw_done_i pM C hw hlz hE (my_runV (As := []) (rest := []) (ER_C pM C hE) (ER_W pM hw hlz hE) 15 9 (ER_in pM (by decide) (by decide)) rfl rfl (mt_X9_thrown l (ER_C pM C hE).2.2.2.2.2.2.2 (ER_FM E) _ h) K_m_L_89 K_i_X9_thrown K_v_X9_thrown K_n_X9 K_c_X9_thrown hy_X9_thrown ⟨Nat.le_of_ble_eq_true rfl, Nat.le_of_ble_eq_true rfl⟩ hl.1 rfl (Nat.le_of_ble_eq_true rfl) dL_law_675 ⟨by show _ ≤ (601024 : Nat); omega, by show _ ≤ (7293033 : Nat); omega⟩) (fun r23 w23 H locs h hw => ?_)
                    refine lv_iload hx hb dL_law_678 (lv_at hl 1 rfl) ?_
                    refine lv_icmp_eq (tgt := 685) hx hb dL_law_680 (by decide) (fun c29 => ?_) (fun c29 => ?_)
                    · have h := h.1 c29
                      refine lv_iload hx hb dL_law_685 (lv_at hl 1 rfl) ?_
                      refine lv_if_ne (tgt := 702) hx hb dL_law_687 (by decide) (fun c30 => ?_) (fun c30 => ?_)
                      · have h := h.2 c30
                        refine lv_goto (tgt := 1605) hx hb dL_law_702 (by decide) ?_
                        obtain ⟨y14, ey14⟩ : ∃ y : Int32, y = x5 + 6 := ⟨_, rfl⟩
                        have h := h y14 ey14
                        refine lv_iinc (v := y14) (lv' := [(5, .int y14), (7, .int r22), (6, .int r21), (0, .ref b), (1, .ref (eA E 0)), (2, .ref (eA E 15)), (3, .ref (eA E 25)), (4, .ref (eA E 26))]) hx hb dL_law_1605 hl (k := 7) rfl (by rw [ey14]; first | rfl | decide) (by decide) rfl (fun ls hl => ?_)
                        refine lv_goto (tgt := 28) hx hb dL_law_1608 (by decide) ?_
                        exact h (t + 1) (by rw [ey14, ex5]; exact law_nI t) (by omega) _ _ (by omega) (by omega) _ _ hw _ (lv_sub hl [3, 4, 5, 6, 7, 0] rfl)
                      · have h := h.1 c30
                        refine lv_aload_n hx hb dL_law_690 rfl (lv_at hl 5 rfl) ?_
                        refine lv_iconst (v := 0) hx hb dL_law_691 (by decide) ?_
                        refine r_lald C hw 25 1 (hF 25 (by decide)) rfl (vp_lit (by decide)) dL_law_692 ?_
                        refine lv_iload hx hb dL_law_693 (lv_at hl 0 rfl) ?_
                        refine lv_i2l hx hb dL_law_695 rfl ?_
                        refine W.lcmp hx hb dL_law_696 ?_
                        refine lv_if_eq (tgt := 702) hx hb dL_law_697 (by decide) (fun c31 => ?_) (fun c31 => ?_)
                        · have h := h.1 c31
                          refine lv_goto (tgt := 1605) hx hb dL_law_702 (by decide) ?_
                          obtain ⟨y15, ey15⟩ : ∃ y : Int32, y = x5 + 6 := ⟨_, rfl⟩
                          have h := h y15 ey15
                          refine lv_iinc (v := y15) (lv' := [(5, .int y15), (7, .int r22), (6, .int r21), (0, .ref b), (1, .ref (eA E 0)), (2, .ref (eA E 15)), (3, .ref (eA E 25)), (4, .ref (eA E 26))]) hx hb dL_law_1605 hl (k := 7) rfl (by rw [ey15]; first | rfl | decide) (by decide) rfl (fun ls hl => ?_)
                          refine lv_goto (tgt := 28) hx hb dL_law_1608 (by decide) ?_
                          exact h (t + 1) (by rw [ey15, ex5]; exact law_nI t) (by omega) _ _ (by omega) (by omega) _ _ hw _ (lv_sub hl [3, 4, 5, 6, 7, 0] rfl)
                        · have h := h.2 c31
                          refine lv_iconst (v := 0) hx hb dL_law_700 (by decide) ?_
                          exact h.elim
                    · have h := h.2 c29
                      refine lv_iconst (v := 0) hx hb dL_law_683 (by decide) ?_
                      exact h.elim
                  · have h := h.2 c28
                    by_cases c32 : ((xs x5.toNatClampNeg) &&& 31) = nI 8
                    · have h := h.1 c32
                      obtain ⟨s1, s2, s3⟩ := sw_in (hi := 29) c32 (by decide) (by decide)
                      refine lv_tableIn (tgt := 705) hx hb dL_law_45 s1 s2 (by rw [s3]; rfl) (by decide) ?_
                      refine lv_aload_n hx hb dL_law_705 rfl (lv_at hl 1 rfl) ?_
                      refine lw_done_i pC C hw hlz hE (my_runV (As := []) (rest := []) (ER_C pC C hE) (ER_W pC hw hlz hE) 0 8 (ER_in pC (by decide) (by decide)) rfl rfl (mt_X8_sum l (ER_C pC C hE).2.2.2.2.2.2.2 (ER_FC E) _ h) K_m_L_111 K_i_X8_sum K_v_X8_sum K_n_X8 K_c_X8_sum hy_X8_sum ⟨Nat.le_of_ble_eq_true rfl, Nat.le_of_ble_eq_true rfl⟩ hl.1 rfl (Nat.le_of_ble_eq_true rfl) dL_law_706 ⟨by show _ ≤ (601024 : Nat); omega, by show _ ≤ (7293033 : Nat); omega⟩) (fun r24 w24 H locs h hw => ?_)
                      refine lv_aload_n hx hb dL_law_709 rfl (lv_at hl 2 rfl) ?_
                      refine lw_done_i pM C hw hlz hE (my_runV (As := []) (rest := [.int r24]) (ER_C pM C hE) (ER_W pM hw hlz hE) 15 9 (ER_in pM (by decide) (by decide)) rfl rfl (mt_X9_sum l (ER_C pM C hE).2.2.2.2.2.2.2 (ER_FM E) _ h) K_m_L_114 K_i_X9_sum K_v_X9_sum K_n_X9 K_c_X9_sum hy_X9_sum ⟨Nat.le_of_ble_eq_true rfl, Nat.le_of_ble_eq_true rfl⟩ hl.1 rfl (Nat.le_of_ble_eq_true rfl) dL_law_710 ⟨by show _ ≤ (601024 : Nat); omega, by show _ ≤ (7293033 : Nat); omega⟩) (fun r25 w25 H locs h hw => ?_)
                      refine lv_icmp_eq (tgt := 1605) hx hb dL_law_713 (by decide) (fun c33 => ?_) (fun c33 => ?_)
                      · have h := h.1 c33
                        obtain ⟨y16, ey16⟩ : ∃ y : Int32, y = x5 + 6 := ⟨_, rfl⟩
                        have h := h y16 ey16
                        refine lv_iinc (v := y16) (lv' := [(5, .int y16), (0, .ref b), (1, .ref (eA E 0)), (2, .ref (eA E 15)), (3, .ref (eA E 25)), (4, .ref (eA E 26))]) hx hb dL_law_1605 hl (k := 5) rfl (by rw [ey16]; first | rfl | decide) (by decide) rfl (fun ls hl => ?_)
                        refine lv_goto (tgt := 28) hx hb dL_law_1608 (by decide) ?_
                        exact h (t + 1) (by rw [ey16, ex5]; exact law_nI t) (by omega) _ _ (by omega) (by omega) _ _ hw _ (lv_sub hl [1, 2, 3, 4, 5, 0] rfl)
                      · have h := h.2 c33
                        refine lv_iconst (v := 0) hx hb dL_law_716 (by decide) ?_
                        exact h.elim
                    · have h := h.2 c32
                      by_cases c34 : ((xs x5.toNatClampNeg) &&& 31) = nI 9
                      · have h := h.1 c34
                        obtain ⟨s1, s2, s3⟩ := sw_in (hi := 29) c34 (by decide) (by decide)
                        refine lv_tableIn (tgt := 718) hx hb dL_law_45 s1 s2 (by rw [s3]; rfl) (by decide) ?_
                        refine lv_aload_n hx hb dL_law_718 rfl (lv_at hl 1 rfl) ?_
                        refine lv_aload_n hx hb dL_law_719 rfl (lv_at hl 0 rfl) ?_
                        refine lv_iload hx hb dL_law_720 (lv_at hl 5 rfl) ?_
                        refine lv_iconst (v := 1) hx hb dL_law_722 (by decide) ?_
                        refine lv_iadd hx hb dL_law_723 ?_
                        obtain ⟨hi43, h⟩ := h
                        refine va_sld hx hb hX hbl hbA hw.2 hi43 dL_law_724 ?_
                        refine lv_aload_n hx hb dL_law_725 rfl (lv_at hl 3 rfl) ?_
                        refine lw_done_w pC C hw hlz hE (my_runSW (As := [.ref (eA E 0), .int (xs (x5 + 1).toNatClampNeg), .ref (eA E 25)]) (rest := []) (ER_C pC C hE) (ER_W pC hw hlz hE) (mt_L_stepsOn l hT (ER_C pC C hE).2.2.2.2.2.2.2 (ER_FC E) _ _ h) K_m_L_115 K_s_L_stepsOn K_n_L K_w_L_stepsOn hy_L_stepsOn ⟨Nat.le_of_ble_eq_true rfl, Nat.le_of_ble_eq_true rfl⟩ hl.1 rfl (Nat.le_of_ble_eq_true rfl) dL_law_726 ⟨by show _ ≤ (601024 : Nat); omega, by show _ ≤ (7293033 : Nat); omega⟩) (fun r26 w26 H locs h hw => ?_)
                        refine lv_istore (lv' := [(6, .int r26), (0, .ref b), (1, .ref (eA E 0)), (2, .ref (eA E 15)), (3, .ref (eA E 25)), (4, .ref (eA E 26)), (5, .int x5)]) hx hb dL_law_729 hl (by decide) rfl (fun ls hl => ?_)
                        refine lv_aload_n hx hb dL_law_731 rfl (lv_at hl 3 rfl) ?_
                        refine lv_aload_n hx hb dL_law_732 rfl (lv_at hl 1 rfl) ?_
                        refine lv_iload hx hb dL_law_733 (lv_at hl 6 rfl) ?_
                        refine lv_iconst (v := 1) hx hb dL_law_735 (by decide) ?_
                        refine lv_iadd hx hb dL_law_736 ?_
                        obtain ⟨hi44, h⟩ := h
                        refine va_sld hx hb hX hbl hbA hw.2 hi44 dL_law_737 ?_
                        refine lw_done_i pM C hw hlz hE (my_runV (As := [.int (xs (x5 + 1).toNatClampNeg)]) (rest := []) (ER_C pM C hE) (ER_W pM hw hlz hE) 15 9 (ER_in pM (by decide) (by decide)) rfl rfl (mt_X9_stepsOn l (ER_C pM C hE).2.2.2.2.2.2.2 (ER_FM E) _ _ h) K_m_L_117 K_i_X9_stepsOn K_v_X9_stepsOn K_n_X9 K_c_X9_stepsOn hy_X9_stepsOn ⟨Nat.le_of_ble_eq_true rfl, Nat.le_of_ble_eq_true rfl⟩ hl.1 rfl (Nat.le_of_ble_eq_true rfl) dL_law_738 ⟨by show _ ≤ (601024 : Nat); omega, by show _ ≤ (7293033 : Nat); omega⟩) (fun r27 w27 H locs h hw => ?_)
                        refine lv_istore (lv' := [(7, .int r27), (6, .int r26), (0, .ref b), (1, .ref (eA E 0)), (2, .ref (eA E 15)), (3, .ref (eA E 25)), (4, .ref (eA E 26)), (5, .int x5)]) hx hb dL_law_741 hl (by decide) rfl (fun ls hl => ?_)
                        refine lv_aload_n hx hb dL_law_743 rfl (lv_at hl 4 rfl) ?_
                        refine lw_done_i pM C hw hlz hE (my_runV (As := []) (rest := []) (ER_C pM C hE) (ER_W pM hw hlz hE) 15 9 (ER_in pM (by decide) (by decide)) rfl rfl (mt_X9_thrown l (ER_C pM C hE).2.2.2.2.2.2.2 (ER_FM E) _ h) K_m_L_89 K_i_X9_thrown K_v_X9_thrown K_n_X9 K_c_X9_thrown hy_X9_thrown ⟨Nat.le_of_ble_eq_true rfl, Nat.le_of_ble_eq_true rfl⟩ hl.1 rfl (Nat.le_of_ble_eq_true rfl) dL_law_744 ⟨by show _ ≤ (601024 : Nat); omega, by show _ ≤ (7293033 : Nat); omega⟩) (fun r28 w28 H locs h hw => ?_)
                        refine lv_iload hx hb dL_law_747 (lv_at hl 1 rfl) ?_
                        refine lv_icmp_eq (tgt := 754) hx hb dL_law_749 (by decide) (fun c35 => ?_) (fun c35 => ?_)
                        · have h := h.1 c35
                          refine lv_iload hx hb dL_law_754 (lv_at hl 1 rfl) ?_
                          refine lv_if_ne (tgt := 771) hx hb dL_law_756 (by decide) (fun c36 => ?_) (fun c36 => ?_)
                          · have h := h.2 c36
                            refine lv_goto (tgt := 1605) hx hb dL_law_771 (by decide) ?_
                            obtain ⟨y17, ey17⟩ : ∃ y : Int32, y = x5 + 6 := ⟨_, rfl⟩
                            have h := h y17 ey17
                            refine lv_iinc (v := y17) (lv' := [(5, .int y17), (7, .int r27), (6, .int r26), (0, .ref b), (1, .ref (eA E 0)), (2, .ref (eA E 15)), (3, .ref (eA E 25)), (4, .ref (eA E 26))]) hx hb dL_law_1605 hl (k := 7) rfl (by rw [ey17]; first | rfl | decide) (by decide) rfl (fun ls hl => ?_)
                            refine lv_goto (tgt := 28) hx hb dL_law_1608 (by decide) ?_
                            exact h (t + 1) (by rw [ey17, ex5]; exact law_nI t) (by omega) _ _ (by omega) (by omega) _ _ hw _ (lv_sub hl [3, 4, 5, 6, 7, 0] rfl)
                          · have h := h.1 c36
                            refine lv_aload_n hx hb dL_law_759 rfl (lv_at hl 5 rfl) ?_
                            refine lv_iconst (v := 0) hx hb dL_law_760 (by decide) ?_
                            refine r_lald C hw 25 1 (hF 25 (by decide)) rfl (vp_lit (by decide)) dL_law_761 ?_
                            refine lv_iload hx hb dL_law_762 (lv_at hl 0 rfl) ?_
                            refine lv_i2l hx hb dL_law_764 rfl ?_
                            refine W.lcmp hx hb dL_law_765 ?_
                            refine lv_if_eq (tgt := 771) hx hb dL_law_766 (by decide) (fun c37 => ?_) (fun c37 => ?_)
                            · have h := h.1 c37
                              refine lv_goto (tgt := 1605) hx hb dL_law_771 (by decide) ?_
                              obtain ⟨y18, ey18⟩ : ∃ y : Int32, y = x5 + 6 := ⟨_, rfl⟩
                              have h := h y18 ey18
                              refine lv_iinc (v := y18) (lv' := [(5, .int y18), (7, .int r27), (6, .int r26), (0, .ref b), (1, .ref (eA E 0)), (2, .ref (eA E 15)), (3, .ref (eA E 25)), (4, .ref (eA E 26))]) hx hb dL_law_1605 hl (k := 7) rfl (by rw [ey18]; first | rfl | decide) (by decide) rfl (fun ls hl => ?_)
                              refine lv_goto (tgt := 28) hx hb dL_law_1608 (by decide) ?_
                              exact h (t + 1) (by rw [ey18, ex5]; exact law_nI t) (by omega) _ _ (by omega) (by omega) _ _ hw _ (lv_sub hl [3, 4, 5, 6, 7, 0] rfl)
                            · have h := h.2 c37
                              refine lv_iconst (v := 0) hx hb dL_law_769 (by decide) ?_
                              exact h.elim
                        · have h := h.2 c35
                          refine lv_iconst (v := 0) hx hb dL_law_752 (by decide) ?_
                          exact h.elim
                      · have h := h.2 c34
                        by_cases c38 : ((xs x5.toNatClampNeg) &&& 31) = nI 10
                        · have h := h.1 c38
                          obtain ⟨s1, s2, s3⟩ := sw_in (hi := 29) c38 (by decide) (by decide)
                          refine lv_tableIn (tgt := 774) hx hb dL_law_45 s1 s2 (by rw [s3]; rfl) (by decide) ?_
                          refine lv_aload_n hx hb dL_law_774 rfl (lv_at hl 1 rfl) ?_
                          refine lv_aload_n hx hb dL_law_775 rfl (lv_at hl 0 rfl) ?_
                          refine lv_iload hx hb dL_law_776 (lv_at hl 5 rfl) ?_
                          refine lv_iconst (v := 1) hx hb dL_law_778 (by decide) ?_
                          refine lv_iadd hx hb dL_law_779 ?_
                          obtain ⟨hi46, h⟩ := h
                          refine va_sld hx hb hX hbl hbA hw.2 hi46 dL_law_780 ?_
                          refine lv_aload_n hx hb dL_law_781 rfl (lv_at hl 3 rfl) ?_
                          refine lw_done_w pC C hw hlz hE (my_runSW (As := [.ref (eA E 0), .int (xs (x5 + 1).toNatClampNeg), .ref (eA E 25)]) (rest := []) (ER_C pC C hE) (ER_W pC hw hlz hE) (mt_L_longest l hT (ER_C pC C hE).2.2.2.2.2.2.2 (ER_FC E) _ _ h) K_m_L_118 K_s_L_longest K_n_L K_w_L_longest hy_L_longest ⟨Nat.le_of_ble_eq_true rfl, Nat.le_of_ble_eq_true rfl⟩ hl.1 rfl (Nat.le_of_ble_eq_true rfl) dL_law_782 ⟨by show _ ≤ (601024 : Nat); omega, by show _ ≤ (7293033 : Nat); omega⟩) (fun r29 w29 H locs h hw => ?_)
                          refine lv_istore (lv' := [(6, .int r29), (0, .ref b), (1, .ref (eA E 0)), (2, .ref (eA E 15)), (3, .ref (eA E 25)), (4, .ref (eA E 26)), (5, .int x5)]) hx hb dL_law_785 hl (by decide) rfl (fun ls hl => ?_)
                          refine lv_aload_n hx hb dL_law_787 rfl (lv_at hl 3 rfl) ?_
                          refine lv_aload_n hx hb dL_law_788 rfl (lv_at hl 1 rfl) ?_
                          refine lv_iload hx hb dL_law_789 (lv_at hl 6 rfl) ?_
                          refine lv_iconst (v := 1) hx hb dL_law_791 (by decide) ?_
                          refine lv_iadd hx hb dL_law_792 ?_
                          obtain ⟨hi47, h⟩ := h
                          refine va_sld hx hb hX hbl hbA hw.2 hi47 dL_law_793 ?_
                          refine lw_done_i pM C hw hlz hE (my_runV (As := [.int (xs (x5 + 1).toNatClampNeg)]) (rest := []) (ER_C pM C hE) (ER_W pM hw hlz hE) 15 9 (ER_in pM (by decide) (by decide)) rfl rfl (mt_X9_longest l (ER_C pM C hE).2.2.2.2.2.2.2 (ER_FM E) _ _ h) K_m_L_120 K_i_X9_longest K_v_X9_longest K_n_X9 K_c_X9_longest hy_X9_longest ⟨Nat.le_of_ble_eq_true rfl, Nat.le_of_ble_eq_true rfl⟩ hl.1 rfl (Nat.le_of_ble_eq_true rfl) dL_law_794 ⟨by show _ ≤ (601024 : Nat); omega, by show _ ≤ (7293033 : Nat); omega⟩) (fun r30 w30 H locs h hw => ?_)
                          refine lv_istore (lv' := [(7, .int r30), (6, .int r29), (0, .ref b), (1, .ref (eA E 0)), (2, .ref (eA E 15)), (3, .ref (eA E 25)), (4, .ref (eA E 26)), (5, .int x5)]) hx hb dL_law_797 hl (by decide) rfl (fun ls hl => ?_)
                          refine lv_aload_n hx hb dL_law_799 rfl (lv_at hl 4 rfl) ?_
                          refine lw_done_i pM C hw hlz hE (my_runV (As := []) (rest := []) (ER_C pM C hE) (ER_W pM hw hlz hE) 15 9 (ER_in pM (by decide) (by decide)) rfl rfl (mt_X9_thrown l (ER_C pM C hE).2.2.2.2.2.2.2 (ER_FM E) _ h) K_m_L_89 K_i_X9_thrown K_v_X9_thrown K_n_X9 K_c_X9_thrown hy_X9_thrown ⟨Nat.le_of_ble_eq_true rfl, Nat.le_of_ble_eq_true rfl⟩ hl.1 rfl (Nat.le_of_ble_eq_true rfl) dL_law_800 ⟨by show _ ≤ (601024 : Nat); omega, by show _ ≤ (7293033 : Nat); omega⟩) (fun r31 w31 H locs h hw => ?_)
                          refine lv_iload hx hb dL_law_803 (lv_at hl 1 rfl) ?_
                          refine lv_icmp_eq (tgt := 810) hx hb dL_law_805 (by decide) (fun c39 => ?_) (fun c39 => ?_)
                          · have h := h.1 c39
                            refine lv_iload hx hb dL_law_810 (lv_at hl 1 rfl) ?_
                            refine lv_if_ne (tgt := 827) hx hb dL_law_812 (by decide) (fun c40 => ?_) (fun c40 => ?_)
                            · have h := h.2 c40
                              refine lv_goto (tgt := 1605) hx hb dL_law_827 (by decide) ?_
                              obtain ⟨y19, ey19⟩ : ∃ y : Int32, y = x5 + 6 := ⟨_, rfl⟩
                              have h := h y19 ey19
                              refine lv_iinc (v := y19) (lv' := [(5, .int y19), (7, .int r30), (6, .int r29), (0, .ref b), (1, .ref (eA E 0)), (2, .ref (eA E 15)), (3, .ref (eA E 25)), (4, .ref (eA E 26))]) hx hb dL_law_1605 hl (k := 7) rfl (by rw [ey19]; first | rfl | decide) (by decide) rfl (fun ls hl => ?_)
                              refine lv_goto (tgt := 28) hx hb dL_law_1608 (by decide) ?_
                              exact h (t + 1) (by rw [ey19, ex5]; exact law_nI t) (by omega) _ _ (by omega) (by omega) _ _ hw _ (lv_sub hl [3, 4, 5, 6, 7, 0] rfl)
                            · have h := h.1 c40
                              refine lv_aload_n hx hb dL_law_815 rfl (lv_at hl 5 rfl) ?_
                              refine lv_iconst (v := 0) hx hb dL_law_816 (by decide) ?_
                              refine r_lald C hw 25 1 (hF 25 (by decide)) rfl (vp_lit (by decide)) dL_law_817 ?_
                              refine lv_iload hx hb dL_law_818 (lv_at hl 0 rfl) ?_
                              refine lv_i2l hx hb dL_law_820 rfl ?_
                              refine W.lcmp hx hb dL_law_821 ?_
                              refine lv_if_eq (tgt := 827) hx hb dL_law_822 (by decide) (fun c41 => ?_) (fun c41 => ?_)
                              · have h := h.1 c41
                                refine lv_goto (tgt := 1605) hx hb dL_law_827 (by decide) ?_
                                obtain ⟨y20, ey20⟩ : ∃ y : Int32, y = x5 + 6 := ⟨_, rfl⟩
                                have h := h y20 ey20
                                refine lv_iinc (v := y20) (lv' := [(5, .int y20), (7, .int r30), (6, .int r29), (0, .ref b), (1, .ref (eA E 0)), (2, .ref (eA E 15)), (3, .ref (eA E 25)), (4, .ref (eA E 26))]) hx hb dL_law_1605 hl (k := 7) rfl (by rw [ey20]; first | rfl | decide) (by decide) rfl (fun ls hl => ?_)
                                refine lv_goto (tgt := 28) hx hb dL_law_1608 (by decide) ?_
                                exact h (t + 1) (by rw [ey20, ex5]; exact law_nI t) (by omega) _ _ (by omega) (by omega) _ _ hw _ (lv_sub hl [3, 4, 5, 6, 7, 0] rfl)
                              · have h := h.2 c41
                                refine lv_iconst (v := 0) hx hb dL_law_825 (by decide) ?_
                                exact h.elim
                          · have h := h.2 c39
                            refine lv_iconst (v := 0) hx hb dL_law_808 (by decide) ?_
                            exact h.elim
                        · have h := h.2 c38
                          by_cases c42 : ((xs x5.toNatClampNeg) &&& 31) = nI 11
                          · have h := h.1 c42
                            obtain ⟨s1, s2, s3⟩ := sw_in (hi := 29) c42 (by decide) (by decide)
                            refine lv_tableIn (tgt := 830) hx hb dL_law_45 s1 s2 (by rw [s3]; rfl) (by decide) ?_
                            refine lv_aload_n hx hb dL_law_830 rfl (lv_at hl 1 rfl) ?_
                            refine lv_aload_n hx hb dL_law_831 rfl (lv_at hl 0 rfl) ?_
                            refine lv_iload hx hb dL_law_832 (lv_at hl 5 rfl) ?_
                            refine lv_iconst (v := 1) hx hb dL_law_834 (by decide) ?_
                            refine lv_iadd hx hb dL_law_835 ?_
                            obtain ⟨hi49, h⟩ := h
                            refine va_sld hx hb hX hbl hbA hw.2 hi49 dL_law_836 ?_
                            refine lv_aload_n hx hb dL_law_837 rfl (lv_at hl 3 rfl) ?_
                            refine lw_done_w pC C hw hlz hE (my_runSW (As := [.ref (eA E 0), .int (xs (x5 + 1).toNatClampNeg), .ref (eA E 25)]) (rest := []) (ER_C pC C hE) (ER_W pC hw hlz hE) (mt_L_positions l hT (ER_C pC C hE).2.2.2.2.2.2.2 (ER_FC E) _ _ h) K_m_L_121 K_s_L_positions K_n_L K_w_L_positions hy_L_positions ⟨Nat.le_of_ble_eq_true rfl, Nat.le_of_ble_eq_true rfl⟩ hl.1 rfl (Nat.le_of_ble_eq_true rfl) dL_law_838 ⟨by show _ ≤ (601024 : Nat); omega, by show _ ≤ (7293033 : Nat); omega⟩) (fun r32 w32 H locs h hw => ?_)
                            refine lv_istore (lv' := [(6, .int r32), (0, .ref b), (1, .ref (eA E 0)), (2, .ref (eA E 15)), (3, .ref (eA E 25)), (4, .ref (eA E 26)), (5, .int x5)]) hx hb dL_law_841 hl (by decide) rfl (fun ls hl => ?_)
                            refine lv_aload_n hx hb dL_law_843 rfl (lv_at hl 3 rfl) ?_
                            refine lv_aload_n hx hb dL_law_844 rfl (lv_at hl 1 rfl) ?_
                            refine lv_iload hx hb dL_law_845 (lv_at hl 6 rfl) ?_
                            refine lv_iconst (v := 1) hx hb dL_law_847 (by decide) ?_
                            refine lv_iadd hx hb dL_law_848 ?_
                            obtain ⟨hi50, h⟩ := h
                            refine va_sld hx hb hX hbl hbA hw.2 hi50 dL_law_849 ?_
                            refine lw_done_i pM C hw hlz hE (my_runV (As := [.int (xs (x5 + 1).toNatClampNeg)]) (rest := []) (ER_C pM C hE) (ER_W pM hw hlz hE) 15 9 (ER_in pM (by decide) (by decide)) rfl rfl (mt_X9_positions l (ER_C pM C hE).2.2.2.2.2.2.2 (ER_FM E) _ _ h) K_m_L_123 K_i_X9_positions K_v_X9_positions K_n_X9 K_c_X9_positions hy_X9_positions ⟨Nat.le_of_ble_eq_true rfl, Nat.le_of_ble_eq_true rfl⟩ hl.1 rfl (Nat.le_of_ble_eq_true rfl) dL_law_850 ⟨by show _ ≤ (601024 : Nat); omega, by show _ ≤ (7293033 : Nat); omega⟩) (fun r33 w33 H locs h hw => ?_)
                            refine lv_istore (lv' := [(7, .int r33), (6, .int r32), (0, .ref b), (1, .ref (eA E 0)), (2, .ref (eA E 15)), (3, .ref (eA E 25)), (4, .ref (eA E 26)), (5, .int x5)]) hx hb dL_law_853 hl (by decide) rfl (fun ls hl => ?_)
                            refine lv_aload_n hx hb dL_law_855 rfl (lv_at hl 4 rfl) ?_
                            refine lw_done_i pM C hw hlz hE (my_runV (As := []) (rest := []) (ER_C pM C hE) (ER_W pM hw hlz hE) 15 9 (ER_in pM (by decide) (by decide)) rfl rfl (mt_X9_thrown l (ER_C pM C hE).2.2.2.2.2.2.2 (ER_FM E) _ h) K_m_L_89 K_i_X9_thrown K_v_X9_thrown K_n_X9 K_c_X9_thrown hy_X9_thrown ⟨Nat.le_of_ble_eq_true rfl, Nat.le_of_ble_eq_true rfl⟩ hl.1 rfl (Nat.le_of_ble_eq_true rfl) dL_law_856 ⟨by show _ ≤ (601024 : Nat); omega, by show _ ≤ (7293033 : Nat); omega⟩) (fun r34 w34 H locs h hw => ?_)
                            refine lv_iload hx hb dL_law_859 (lv_at hl 1 rfl) ?_
                            refine lv_icmp_eq (tgt := 866) hx hb dL_law_861 (by decide) (fun c43 => ?_) (fun c43 => ?_)
                            · have h := h.1 c43
                              refine lv_iload hx hb dL_law_866 (lv_at hl 1 rfl) ?_
                              refine lv_if_ne (tgt := 883) hx hb dL_law_868 (by decide) (fun c44 => ?_) (fun c44 => ?_)
                              · have h := h.2 c44
                                refine lv_goto (tgt := 1605) hx hb dL_law_883 (by decide) ?_
                                obtain ⟨y21, ey21⟩ : ∃ y : Int32, y = x5 + 6 := ⟨_, rfl⟩
                                have h := h y21 ey21
                                refine lv_iinc (v := y21) (lv' := [(5, .int y21), (7, .int r33), (6, .int r32), (0, .ref b), (1, .ref (eA E 0)), (2, .ref (eA E 15)), (3, .ref (eA E 25)), (4, .ref (eA E 26))]) hx hb dL_law_1605 hl (k := 7) rfl (by rw [ey21]; first | rfl | decide) (by decide) rfl (fun ls hl => ?_)
                                refine lv_goto (tgt := 28) hx hb dL_law_1608 (by decide) ?_
                                exact h (t + 1) (by rw [ey21, ex5]; exact law_nI t) (by omega) _ _ (by omega) (by omega) _ _ hw _ (lv_sub hl [3, 4, 5, 6, 7, 0] rfl)
                              · have h := h.1 c44
                                refine lv_aload_n hx hb dL_law_871 rfl (lv_at hl 5 rfl) ?_
                                refine lv_iconst (v := 0) hx hb dL_law_872 (by decide) ?_
                                refine r_lald C hw 25 1 (hF 25 (by decide)) rfl (vp_lit (by decide)) dL_law_873 ?_
                                refine lv_iload hx hb dL_law_874 (lv_at hl 0 rfl) ?_
                                refine lv_i2l hx hb dL_law_876 rfl ?_
                                refine W.lcmp hx hb dL_law_877 ?_
                                refine lv_if_eq (tgt := 883) hx hb dL_law_878 (by decide) (fun c45 => ?_) (fun c45 => ?_)
                                · have h := h.1 c45
                                  refine lv_goto (tgt := 1605) hx hb dL_law_883 (by decide) ?_
                                  obtain ⟨y22, ey22⟩ : ∃ y : Int32, y = x5 + 6 := ⟨_, rfl⟩
                                  have h := h y22 ey22
                                  refine lv_iinc (v := y22) (lv' := [(5, .int y22), (7, .int r33), (6, .int r32), (0, .ref b), (1, .ref (eA E 0)), (2, .ref (eA E 15)), (3, .ref (eA E 25)), (4, .ref (eA E 26))]) hx hb dL_law_1605 hl (k := 7) rfl (by rw [ey22]; first | rfl | decide) (by decide) rfl (fun ls hl => ?_)
                                  refine lv_goto (tgt := 28) hx hb dL_law_1608 (by decide) ?_
                                  exact h (t + 1) (by rw [ey22, ex5]; exact law_nI t) (by omega) _ _ (by omega) (by omega) _ _ hw _ (lv_sub hl [3, 4, 5, 6, 7, 0] rfl)
                                · have h := h.2 c45
                                  refine lv_iconst (v := 0) hx hb dL_law_881 (by decide) ?_
                                  exact h.elim
                            · have h := h.2 c43
                              refine lv_iconst (v := 0) hx hb dL_law_864 (by decide) ?_
                              exact h.elim
                          · have h := h.2 c42
                            by_cases c46 : ((xs x5.toNatClampNeg) &&& 31) = nI 12
                            · have h := h.1 c46
                              obtain ⟨s1, s2, s3⟩ := sw_in (hi := 29) c46 (by decide) (by decide)
                              refine lv_tableIn (tgt := 886) hx hb dL_law_45 s1 s2 (by rw [s3]; rfl) (by decide) ?_
                              refine lv_aload_n hx hb dL_law_886 rfl (lv_at hl 1 rfl) ?_
                              refine lv_aload_n hx hb dL_law_887 rfl (lv_at hl 0 rfl) ?_
                              refine lv_iload hx hb dL_law_888 (lv_at hl 5 rfl) ?_
                              refine lv_iconst (v := 1) hx hb dL_law_890 (by decide) ?_
                              refine lv_iadd hx hb dL_law_891 ?_
                              obtain ⟨hi52, h⟩ := h
                              refine va_sld hx hb hX hbl hbA hw.2 hi52 dL_law_892 ?_
                              refine lv_aload hx hb dL_law_893 (lv_at hl 4 rfl) ?_
                              refine lw_done_w pC C hw hlz hE (my_runSW (As := [.ref (eA E 0), .int (xs (x5 + 1).toNatClampNeg), .ref (eA E 26)]) (rest := []) (ER_C pC C hE) (ER_W pC hw hlz hE) (mt_L_meanValue l hT (ER_C pC C hE).2.2.2.2.2.2.2 (ER_FC E) _ _ h) K_m_L_124 K_s_L_meanValue K_n_L K_w_L_meanValue hy_L_meanValue ⟨Nat.le_of_ble_eq_true rfl, Nat.le_of_ble_eq_true rfl⟩ hl.1 rfl (Nat.le_of_ble_eq_true rfl) dL_law_895 ⟨by show _ ≤ (601024 : Nat); omega, by show _ ≤ (7293033 : Nat); omega⟩) (fun r35 w35 H locs h hw => ?_)
                              refine lv_istore (lv' := [(6, .int r35), (0, .ref b), (1, .ref (eA E 0)), (2, .ref (eA E 15)), (3, .ref (eA E 25)), (4, .ref (eA E 26)), (5, .int x5)]) hx hb dL_law_898 hl (by decide) rfl (fun ls hl => ?_)
                              refine lv_aload_n hx hb dL_law_900 rfl (lv_at hl 3 rfl) ?_
                              refine lv_aload_n hx hb dL_law_901 rfl (lv_at hl 1 rfl) ?_
                              refine lv_iload hx hb dL_law_902 (lv_at hl 6 rfl) ?_
                              refine lv_iconst (v := 1) hx hb dL_law_904 (by decide) ?_
                              refine lv_iadd hx hb dL_law_905 ?_
                              obtain ⟨hi53, h⟩ := h
                              refine va_sld hx hb hX hbl hbA hw.2 hi53 dL_law_906 ?_
                              refine lw_done_d pM C hw hlz hE (my_runV (As := [.int (xs (x5 + 1).toNatClampNeg)]) (rest := []) (ER_C pM C hE) (ER_W pM hw hlz hE) 15 9 (ER_in pM (by decide) (by decide)) rfl rfl (mt_X9_meanValue l (ER_C pM C hE).2.2.2.2.2.2.2 (ER_FM E) _ _ h) K_m_L_127 K_i_X9_meanValue K_v_X9_meanValue K_n_X9 K_c_X9_meanValue hy_X9_meanValue ⟨Nat.le_of_ble_eq_true rfl, Nat.le_of_ble_eq_true rfl⟩ hl.1 rfl (Nat.le_of_ble_eq_true rfl) dL_law_907 ⟨by show _ ≤ (601024 : Nat); omega, by show _ ≤ (7293033 : Nat); omega⟩) (fun r36 w36 H locs h hw => ?_)
                              refine lv_dstore (lv' := [(7, .double r36), (6, .int r35), (0, .ref b), (1, .ref (eA E 0)), (2, .ref (eA E 15)), (3, .ref (eA E 25)), (4, .ref (eA E 26)), (5, .int x5)]) hx hb dL_law_910 hl (by decide) rfl (fun ls hl => ?_)
                              refine lv_aload_n hx hb dL_law_912 rfl (lv_at hl 4 rfl) ?_
                              refine lw_done_i pM C hw hlz hE (my_runV (As := []) (rest := []) (ER_C pM C hE) (ER_W pM hw hlz hE) 15 9 (ER_in pM (by decide) (by decide)) rfl rfl (mt_X9_thrown l (ER_C pM C hE).2.2.2.2.2.2.2 (ER_FM E) _ h) K_m_L_89 K_i_X9_thrown K_v_X9_thrown K_n_X9 K_c_X9_thrown hy_X9_thrown ⟨Nat.le_of_ble_eq_true rfl, Nat.le_of_ble_eq_true rfl⟩ hl.1 rfl (Nat.le_of_ble_eq_true rfl) dL_law_913 ⟨by show _ ≤ (601024 : Nat); omega, by show _ ≤ (7293033 : Nat); omega⟩) (fun r37 w37 H locs h hw => ?_)
                              refine lv_iload hx hb dL_law_916 (lv_at hl 1 rfl) ?_
                              refine lv_icmp_eq (tgt := 923) hx hb dL_law_918 (by decide) (fun c47 => ?_) (fun c47 => ?_)
                              · have h := h.1 c47
                                refine lv_iload hx hb dL_law_923 (lv_at hl 1 rfl) ?_
                                refine lv_if_ne (tgt := 960) hx hb dL_law_925 (by decide) (fun c48 => ?_) (fun c48 => ?_)
                                · have h := h.2 c48
                                  refine lv_goto (tgt := 1605) hx hb dL_law_960 (by decide) ?_
                                  obtain ⟨y23, ey23⟩ : ∃ y : Int32, y = x5 + 6 := ⟨_, rfl⟩
                                  have h := h y23 ey23
                                  refine lv_iinc (v := y23) (lv' := [(5, .int y23), (7, .double r36), (6, .int r35), (0, .ref b), (1, .ref (eA E 0)), (2, .ref (eA E 15)), (3, .ref (eA E 25)), (4, .ref (eA E 26))]) hx hb dL_law_1605 hl (k := 7) rfl (by rw [ey23]; first | rfl | decide) (by decide) rfl (fun ls hl => ?_)
                                  refine lv_goto (tgt := 28) hx hb dL_law_1608 (by decide) ?_
                                  exact h (t + 1) (by rw [ey23, ex5]; exact law_nI t) (by omega) _ _ (by omega) (by omega) _ _ hw _ (lv_sub hl [3, 4, 5, 6, 7, 0] rfl)
                                · have h := h.1 c48
                                  refine lv_aload hx hb dL_law_928 (lv_at hl 6 rfl) ?_
                                  refine lv_iconst (v := 0) hx hb dL_law_930 (by decide) ?_
                                  refine r_dald C hw 26 1 (hF 26 (by decide)) rfl (vp_lit (by decide)) dL_law_931 ?_
                                  refine lv_dload hx hb dL_law_932 (lv_at hl 0 rfl) ?_
                                  refine lv_dcmp hx hb dL_law_934 ?_
                                  refine lv_if_eq (tgt := 960) hx hb dL_law_935 (by decide) (fun c49 => ?_) (fun c49 => ?_)
                                  · have h := h.1 c49
                                    refine lv_goto (tgt := 1605) hx hb dL_law_960 (by decide) ?_
                                    obtain ⟨y24, ey24⟩ : ∃ y : Int32, y = x5 + 6 := ⟨_, rfl⟩
                                    have h := h y24 ey24
                                    refine lv_iinc (v := y24) (lv' := [(5, .int y24), (7, .double r36), (6, .int r35), (0, .ref b), (1, .ref (eA E 0)), (2, .ref (eA E 15)), (3, .ref (eA E 25)), (4, .ref (eA E 26))]) hx hb dL_law_1605 hl (k := 7) rfl (by rw [ey24]; first | rfl | decide) (by decide) rfl (fun ls hl => ?_)
                                    refine lv_goto (tgt := 28) hx hb dL_law_1608 (by decide) ?_
                                    exact h (t + 1) (by rw [ey24, ex5]; exact law_nI t) (by omega) _ _ (by omega) (by omega) _ _ hw _ (lv_sub hl [3, 4, 5, 6, 7, 0] rfl)
                                  · have h := h.2 c49
                                    refine lv_aload hx hb dL_law_938 (lv_at hl 6 rfl) ?_
                                    refine lv_iconst (v := 0) hx hb dL_law_940 (by decide) ?_
                                    refine r_dald C hw 26 1 (hF 26 (by decide)) rfl (vp_lit (by decide)) dL_law_941 ?_
                                    refine lv_aload hx hb dL_law_942 (lv_at hl 6 rfl) ?_
                                    refine lv_iconst (v := 0) hx hb dL_law_944 (by decide) ?_
                                    refine r_dald C hw 26 1 (hF 26 (by decide)) rfl (vp_lit (by decide)) dL_law_945 ?_
                                    refine lv_dcmp hx hb dL_law_946 ?_
                                    refine lv_if_eq (tgt := 958) hx hb dL_law_947 (by decide) (fun c50 => ?_) (fun c50 => ?_)
                                    · have h := h.1 c50
                                      refine lv_iconst (v := 0) hx hb dL_law_958 (by decide) ?_
                                      exact h.elim
                                    · have h := h.2 c50
                                      refine lv_dload hx hb dL_law_950 (lv_at hl 0 rfl) ?_
                                      refine lv_dload hx hb dL_law_952 (lv_at hl 0 rfl) ?_
                                      refine lv_dcmp hx hb dL_law_954 ?_
                                      refine lv_if_ne (tgt := 960) hx hb dL_law_955 (by decide) (fun c51 => ?_) (fun c51 => ?_)
                                      · have h := h.2 c51
                                        refine lv_goto (tgt := 1605) hx hb dL_law_960 (by decide) ?_
                                        obtain ⟨y25, ey25⟩ : ∃ y : Int32, y = x5 + 6 := ⟨_, rfl⟩
                                        have h := h y25 ey25
                                        refine lv_iinc (v := y25) (lv' := [(5, .int y25), (7, .double r36), (6, .int r35), (0, .ref b), (1, .ref (eA E 0)), (2, .ref (eA E 15)), (3, .ref (eA E 25)), (4, .ref (eA E 26))]) hx hb dL_law_1605 hl (k := 7) rfl (by rw [ey25]; first | rfl | decide) (by decide) rfl (fun ls hl => ?_)
                                        refine lv_goto (tgt := 28) hx hb dL_law_1608 (by decide) ?_
                                        exact h (t + 1) (by rw [ey25, ex5]; exact law_nI t) (by omega) _ _ (by omega) (by omega) _ _ hw _ (lv_sub hl [3, 4, 5, 6, 7, 0] rfl)
                                      · have h := h.1 c51
                                        refine lv_iconst (v := 0) hx hb dL_law_958 (by decide) ?_
                                        exact h.elim
                              · have h := h.2 c47
                                refine lv_iconst (v := 0) hx hb dL_law_921 (by decide) ?_
                                exact h.elim
                            · have h := h.2 c46
                              by_cases c52 : ((xs x5.toNatClampNeg) &&& 31) = nI 13
                              · have h := h.1 c52
                                obtain ⟨s1, s2, s3⟩ := sw_in (hi := 29) c52 (by decide) (by decide)
                                refine lv_tableIn (tgt := 963) hx hb dL_law_45 s1 s2 (by rw [s3]; rfl) (by decide) ?_
                                refine lv_aload_n hx hb dL_law_963 rfl (lv_at hl 1 rfl) ?_
                                refine lw_done_i pC C hw hlz hE (my_runV (As := []) (rest := []) (ER_C pC C hE) (ER_W pC hw hlz hE) 0 8 (ER_in pC (by decide) (by decide)) rfl rfl (mt_X8_isRight l (ER_C pC C hE).2.2.2.2.2.2.2 (ER_FC E) _ h) K_m_L_128 K_i_X8_isRight K_v_X8_isRight K_n_X8 K_c_X8_isRight hy_X8_isRight ⟨Nat.le_of_ble_eq_true rfl, Nat.le_of_ble_eq_true rfl⟩ hl.1 rfl (Nat.le_of_ble_eq_true rfl) dL_law_964 ⟨by show _ ≤ (601024 : Nat); omega, by show _ ≤ (7293033 : Nat); omega⟩) (fun r38 w38 H locs h hw => ?_)
                                refine lv_aload_n hx hb dL_law_967 rfl (lv_at hl 2 rfl) ?_
                                refine lw_done_i pM C hw hlz hE (my_runV (As := []) (rest := [.int r38]) (ER_C pM C hE) (ER_W pM hw hlz hE) 15 9 (ER_in pM (by decide) (by decide)) rfl rfl (mt_X9_isRight l (ER_C pM C hE).2.2.2.2.2.2.2 (ER_FM E) _ h) K_m_L_132 K_i_X9_isRight K_v_X9_isRight K_n_X9 K_c_X9_isRight hy_X9_isRight ⟨Nat.le_of_ble_eq_true rfl, Nat.le_of_ble_eq_true rfl⟩ hl.1 rfl (Nat.le_of_ble_eq_true rfl) dL_law_968 ⟨by show _ ≤ (601024 : Nat); omega, by show _ ≤ (7293033 : Nat); omega⟩) (fun r39 w39 H locs h hw => ?_)
                                refine lv_icmp_eq (tgt := 1605) hx hb dL_law_971 (by decide) (fun c53 => ?_) (fun c53 => ?_)
                                · have h := h.1 c53
                                  obtain ⟨y26, ey26⟩ : ∃ y : Int32, y = x5 + 6 := ⟨_, rfl⟩
                                  have h := h y26 ey26
                                  refine lv_iinc (v := y26) (lv' := [(5, .int y26), (0, .ref b), (1, .ref (eA E 0)), (2, .ref (eA E 15)), (3, .ref (eA E 25)), (4, .ref (eA E 26))]) hx hb dL_law_1605 hl (k := 5) rfl (by rw [ey26]; first | rfl | decide) (by decide) rfl (fun ls hl => ?_)
                                  refine lv_goto (tgt := 28) hx hb dL_law_1608 (by decide) ?_
                                  exact h (t + 1) (by rw [ey26, ex5]; exact law_nI t) (by omega) _ _ (by omega) (by omega) _ _ hw _ (lv_sub hl [1, 2, 3, 4, 5, 0] rfl)
                                · have h := h.2 c53
                                  refine lv_iconst (v := 0) hx hb dL_law_974 (by decide) ?_
                                  exact h.elim
                              · have h := h.2 c52
                                by_cases c54 : ((xs x5.toNatClampNeg) &&& 31) = nI 14
                                · have h := h.1 c54
                                  obtain ⟨s1, s2, s3⟩ := sw_in (hi := 29) c54 (by decide) (by decide)
                                  refine lv_tableIn (tgt := 976) hx hb dL_law_45 s1 s2 (by rw [s3]; rfl) (by decide) ?_
                                  refine lv_aload_n hx hb dL_law_976 rfl (lv_at hl 1 rfl) ?_
                                  refine lw_done_i pC C hw hlz hE (my_runV (As := []) (rest := []) (ER_C pC C hE) (ER_W pC hw hlz hE) 0 8 (ER_in pC (by decide) (by decide)) rfl rfl (mt_X8_allowed l (ER_C pC C hE).2.2.2.2.2.2.2 (ER_FC E) _ h) K_m_L_133 K_i_X8_allowed K_v_X8_allowed K_n_X8 K_c_X8_allowed hy_X8_allowed ⟨Nat.le_of_ble_eq_true rfl, Nat.le_of_ble_eq_true rfl⟩ hl.1 rfl (Nat.le_of_ble_eq_true rfl) dL_law_977 ⟨by show _ ≤ (601024 : Nat); omega, by show _ ≤ (7293033 : Nat); omega⟩) (fun r40 w40 H locs h hw => ?_)
                                  refine lv_aload_n hx hb dL_law_980 rfl (lv_at hl 2 rfl) ?_
                                  refine lw_done_i pM C hw hlz hE (my_runV (As := []) (rest := [.int r40]) (ER_C pM C hE) (ER_W pM hw hlz hE) 15 9 (ER_in pM (by decide) (by decide)) rfl rfl (mt_X9_allowed l (ER_C pM C hE).2.2.2.2.2.2.2 (ER_FM E) _ h) K_m_L_136 K_i_X9_allowed K_v_X9_allowed K_n_X9 K_c_X9_allowed hy_X9_allowed ⟨Nat.le_of_ble_eq_true rfl, Nat.le_of_ble_eq_true rfl⟩ hl.1 rfl (Nat.le_of_ble_eq_true rfl) dL_law_981 ⟨by show _ ≤ (601024 : Nat); omega, by show _ ≤ (7293033 : Nat); omega⟩) (fun r41 w41 H locs h hw => ?_)
                                  refine lv_icmp_eq (tgt := 1605) hx hb dL_law_984 (by decide) (fun c55 => ?_) (fun c55 => ?_)
                                  · have h := h.1 c55
                                    obtain ⟨y27, ey27⟩ : ∃ y : Int32, y = x5 + 6 := ⟨_, rfl⟩
                                    have h := h y27 ey27
                                    refine lv_iinc (v := y27) (lv' := [(5, .int y27), (0, .ref b), (1, .ref (eA E 0)), (2, .ref (eA E 15)), (3, .ref (eA E 25)), (4, .ref (eA E 26))]) hx hb dL_law_1605 hl (k := 5) rfl (by rw [ey27]; first | rfl | decide) (by decide) rfl (fun ls hl => ?_)
                                    refine lv_goto (tgt := 28) hx hb dL_law_1608 (by decide) ?_
                                    exact h (t + 1) (by rw [ey27, ex5]; exact law_nI t) (by omega) _ _ (by omega) (by omega) _ _ hw _ (lv_sub hl [1, 2, 3, 4, 5, 0] rfl)
                                  · have h := h.2 c55
                                    refine lv_iconst (v := 0) hx hb dL_law_987 (by decide) ?_
                                    exact h.elim
                                · have h := h.2 c54
                                  by_cases c56 : ((xs x5.toNatClampNeg) &&& 31) = nI 15
                                  · have h := h.1 c56
                                    obtain ⟨s1, s2, s3⟩ := sw_in (hi := 29) c56 (by decide) (by decide)
                                    refine lv_tableIn (tgt := 989) hx hb dL_law_45 s1 s2 (by rw [s3]; rfl) (by decide) ?_
                                    refine lv_aload_n hx hb dL_law_989 rfl (lv_at hl 1 rfl) ?_
                                    refine lv_aload_n hx hb dL_law_990 rfl (lv_at hl 0 rfl) ?_
                                    refine lv_iload hx hb dL_law_991 (lv_at hl 5 rfl) ?_
                                    refine lv_iconst (v := 1) hx hb dL_law_993 (by decide) ?_
                                    refine lv_iadd hx hb dL_law_994 ?_
                                    obtain ⟨hi57, h⟩ := h
                                    refine va_sld hx hb hX hbl hbA hw.2 hi57 dL_law_995 ?_
                                    refine lv_aload_n hx hb dL_law_996 rfl (lv_at hl 0 rfl) ?_
                                    refine lv_iload hx hb dL_law_997 (lv_at hl 5 rfl) ?_
                                    refine lv_iconst (v := 2) hx hb dL_law_999 (by decide) ?_
                                    refine lv_iadd hx hb dL_law_1000 ?_
                                    obtain ⟨hi58, h⟩ := h
                                    refine va_sld hx hb hX hbl hbA hw.2 hi58 dL_law_1001 ?_
                                    refine lv_aload_n hx hb dL_law_1002 rfl (lv_at hl 3 rfl) ?_
                                    refine lw_done_w pC C hw hlz hE (my_runSW (As := [.ref (eA E 0), .int (xs (x5 + 1).toNatClampNeg), .int (xs (x5 + 2).toNatClampNeg), .ref (eA E 25)]) (rest := []) (ER_C pC C hE) (ER_W pC hw hlz hE) (mt_L_choice l hT (ER_C pC C hE).2.2.2.2.2.2.2 (ER_FC E) _ _ _ h) K_m_L_137 K_s_L_choice K_n_L K_w_L_choice hy_L_choice ⟨Nat.le_of_ble_eq_true rfl, Nat.le_of_ble_eq_true rfl⟩ hl.1 rfl (Nat.le_of_ble_eq_true rfl) dL_law_1003 ⟨by show _ ≤ (601024 : Nat); omega, by show _ ≤ (7293033 : Nat); omega⟩) (fun r42 w42 H locs h hw => ?_)
                                    refine lv_istore (lv' := [(6, .int r42), (0, .ref b), (1, .ref (eA E 0)), (2, .ref (eA E 15)), (3, .ref (eA E 25)), (4, .ref (eA E 26)), (5, .int x5)]) hx hb dL_law_1006 hl (by decide) rfl (fun ls hl => ?_)
                                    refine lv_aload_n hx hb dL_law_1008 rfl (lv_at hl 3 rfl) ?_
                                    refine lv_aload_n hx hb dL_law_1009 rfl (lv_at hl 1 rfl) ?_
                                    refine lv_iload hx hb dL_law_1010 (lv_at hl 6 rfl) ?_
                                    refine lv_iconst (v := 1) hx hb dL_law_1012 (by decide) ?_
                                    refine lv_iadd hx hb dL_law_1013 ?_
                                    obtain ⟨hi59, h⟩ := h
                                    refine va_sld hx hb hX hbl hbA hw.2 hi59 dL_law_1014 ?_
                                    refine lv_aload_n hx hb dL_law_1015 rfl (lv_at hl 1 rfl) ?_
                                    refine lv_iload hx hb dL_law_1016 (lv_at hl 6 rfl) ?_
                                    refine lv_iconst (v := 2) hx hb dL_law_1018 (by decide) ?_
                                    refine lv_iadd hx hb dL_law_1019 ?_
                                    obtain ⟨hi60, h⟩ := h
                                    refine va_sld hx hb hX hbl hbA hw.2 hi60 dL_law_1020 ?_
                                    refine lw_done_i pM C hw hlz hE (my_runV (As := [.int (xs (x5 + 1).toNatClampNeg), .int (xs (x5 + 2).toNatClampNeg)]) (rest := []) (ER_C pM C hE) (ER_W pM hw hlz hE) 15 9 (ER_in pM (by decide) (by decide)) rfl rfl (mt_X9_choice l (ER_C pM C hE).2.2.2.2.2.2.2 (ER_FM E) _ _ _ h) K_m_L_139 K_i_X9_choice K_v_X9_choice K_n_X9 K_c_X9_choice hy_X9_choice ⟨Nat.le_of_ble_eq_true rfl, Nat.le_of_ble_eq_true rfl⟩ hl.1 rfl (Nat.le_of_ble_eq_true rfl) dL_law_1021 ⟨by show _ ≤ (601024 : Nat); omega, by show _ ≤ (7293033 : Nat); omega⟩) (fun r43 w43 H locs h hw => ?_)
                                    refine lv_istore (lv' := [(7, .int r43), (6, .int r42), (0, .ref b), (1, .ref (eA E 0)), (2, .ref (eA E 15)), (3, .ref (eA E 25)), (4, .ref (eA E 26)), (5, .int x5)]) hx hb dL_law_1024 hl (by decide) rfl (fun ls hl => ?_)
                                    refine lv_aload_n hx hb dL_law_1026 rfl (lv_at hl 4 rfl) ?_
                                    refine lw_done_i pM C hw hlz hE (my_runV (As := []) (rest := []) (ER_C pM C hE) (ER_W pM hw hlz hE) 15 9 (ER_in pM (by decide) (by decide)) rfl rfl (mt_X9_thrown l (ER_C pM C hE).2.2.2.2.2.2.2 (ER_FM E) _ h) K_m_L_89 K_i_X9_thrown K_v_X9_thrown K_n_X9 K_c_X9_thrown hy_X9_thrown ⟨Nat.le_of_ble_eq_true rfl, Nat.le_of_ble_eq_true rfl⟩ hl.1 rfl (Nat.le_of_ble_eq_true rfl) dL_law_1027 ⟨by show _ ≤ (601024 : Nat); omega, by show _ ≤ (7293033 : Nat); omega⟩) (fun r44 w44 H locs h hw => ?_)
                                    refine lv_iload hx hb dL_law_1030 (lv_at hl 1 rfl) ?_
                                    refine lv_icmp_eq (tgt := 1037) hx hb dL_law_1032 (by decide) (fun c57 => ?_) (fun c57 => ?_)
                                    · have h := h.1 c57
                                      refine lv_iload hx hb dL_law_1037 (lv_at hl 1 rfl) ?_
                                      refine lv_if_ne (tgt := 1054) hx hb dL_law_1039 (by decide) (fun c58 => ?_) (fun c58 => ?_)
                                      · have h := h.2 c58
                                        refine lv_goto (tgt := 1605) hx hb dL_law_1054 (by decide) ?_
                                        obtain ⟨y28, ey28⟩ : ∃ y : Int32, y = x5 + 6 := ⟨_, rfl⟩
                                        have h := h y28 ey28
                                        refine lv_iinc (v := y28) (lv' := [(5, .int y28), (7, .int r43), (6, .int r42), (0, .ref b), (1, .ref (eA E 0)), (2, .ref (eA E 15)), (3, .ref (eA E 25)), (4, .ref (eA E 26))]) hx hb dL_law_1605 hl (k := 7) rfl (by rw [ey28]; first | rfl | decide) (by decide) rfl (fun ls hl => ?_)
                                        refine lv_goto (tgt := 28) hx hb dL_law_1608 (by decide) ?_
                                        exact h (t + 1) (by rw [ey28, ex5]; exact law_nI t) (by omega) _ _ (by omega) (by omega) _ _ hw _ (lv_sub hl [3, 4, 5, 6, 7, 0] rfl)
                                      · have h := h.1 c58
                                        refine lv_aload_n hx hb dL_law_1042 rfl (lv_at hl 5 rfl) ?_
                                        refine lv_iconst (v := 0) hx hb dL_law_1043 (by decide) ?_
                                        refine r_lald C hw 25 1 (hF 25 (by decide)) rfl (vp_lit (by decide)) dL_law_1044 ?_
                                        refine lv_iload hx hb dL_law_1045 (lv_at hl 0 rfl) ?_
                                        refine lv_i2l hx hb dL_law_1047 rfl ?_
                                        refine W.lcmp hx hb dL_law_1048 ?_
                                        refine lv_if_eq (tgt := 1054) hx hb dL_law_1049 (by decide) (fun c59 => ?_) (fun c59 => ?_)
                                        · have h := h.1 c59
                                          refine lv_goto (tgt := 1605) hx hb dL_law_1054 (by decide) ?_
                                          obtain ⟨y29, ey29⟩ : ∃ y : Int32, y = x5 + 6 := ⟨_, rfl⟩
                                          have h := h y29 ey29
                                          refine lv_iinc (v := y29) (lv' := [(5, .int y29), (7, .int r43), (6, .int r42), (0, .ref b), (1, .ref (eA E 0)), (2, .ref (eA E 15)), (3, .ref (eA E 25)), (4, .ref (eA E 26))]) hx hb dL_law_1605 hl (k := 7) rfl (by rw [ey29]; first | rfl | decide) (by decide) rfl (fun ls hl => ?_)
                                          refine lv_goto (tgt := 28) hx hb dL_law_1608 (by decide) ?_
                                          exact h (t + 1) (by rw [ey29, ex5]; exact law_nI t) (by omega) _ _ (by omega) (by omega) _ _ hw _ (lv_sub hl [3, 4, 5, 6, 7, 0] rfl)
                                        · have h := h.2 c59
                                          refine lv_iconst (v := 0) hx hb dL_law_1052 (by decide) ?_
                                          exact h.elim
                                    · have h := h.2 c57
                                      refine lv_iconst (v := 0) hx hb dL_law_1035 (by decide) ?_
                                      exact h.elim
                                  · have h := h.2 c56
                                    by_cases c60 : ((xs x5.toNatClampNeg) &&& 31) = nI 16
                                    · have h := h.1 c60
                                      obtain ⟨s1, s2, s3⟩ := sw_in (hi := 29) c60 (by decide) (by decide)
                                      refine lv_tableIn (tgt := 1057) hx hb dL_law_45 s1 s2 (by rw [s3]; rfl) (by decide) ?_
                                      refine lv_aload_n hx hb dL_law_1057 rfl (lv_at hl 1 rfl) ?_
                                      refine lw_done_i pC C hw hlz hE (my_runV (As := []) (rest := []) (ER_C pC C hE) (ER_W pC hw hlz hE) 0 8 (ER_in pC (by decide) (by decide)) rfl rfl (mt_X8_best l (ER_C pC C hE).2.2.2.2.2.2.2 (ER_FC E) _ h) K_m_L_140 K_i_X8_best K_v_X8_best K_n_X8 K_c_X8_best hy_X8_best ⟨Nat.le_of_ble_eq_true rfl, Nat.le_of_ble_eq_true rfl⟩ hl.1 rfl (Nat.le_of_ble_eq_true rfl) dL_law_1058 ⟨by show _ ≤ (601024 : Nat); omega, by show _ ≤ (7293033 : Nat); omega⟩) (fun r45 w45 H locs h hw => ?_)
                                      refine lv_aload_n hx hb dL_law_1061 rfl (lv_at hl 2 rfl) ?_
                                      refine lw_done_i pM C hw hlz hE (my_runV (As := []) (rest := [.int r45]) (ER_C pM C hE) (ER_W pM hw hlz hE) 15 9 (ER_in pM (by decide) (by decide)) rfl rfl (mt_X9_best l (ER_C pM C hE).2.2.2.2.2.2.2 (ER_FM E) _ h) K_m_L_143 K_i_X9_best K_v_X9_best K_n_X9 K_c_X9_best hy_X9_best ⟨Nat.le_of_ble_eq_true rfl, Nat.le_of_ble_eq_true rfl⟩ hl.1 rfl (Nat.le_of_ble_eq_true rfl) dL_law_1062 ⟨by show _ ≤ (601024 : Nat); omega, by show _ ≤ (7293033 : Nat); omega⟩) (fun r46 w46 H locs h hw => ?_)
                                      refine lv_icmp_eq (tgt := 1605) hx hb dL_law_1065 (by decide) (fun c61 => ?_) (fun c61 => ?_)
                                      · have h := h.1 c61
                                        obtain ⟨y30, ey30⟩ : ∃ y : Int32, y = x5 + 6 := ⟨_, rfl⟩
                                        have h := h y30 ey30
                                        refine lv_iinc (v := y30) (lv' := [(5, .int y30), (0, .ref b), (1, .ref (eA E 0)), (2, .ref (eA E 15)), (3, .ref (eA E 25)), (4, .ref (eA E 26))]) hx hb dL_law_1605 hl (k := 5) rfl (by rw [ey30]; first | rfl | decide) (by decide) rfl (fun ls hl => ?_)
                                        refine lv_goto (tgt := 28) hx hb dL_law_1608 (by decide) ?_
                                        exact h (t + 1) (by rw [ey30, ex5]; exact law_nI t) (by omega) _ _ (by omega) (by omega) _ _ hw _ (lv_sub hl [1, 2, 3, 4, 5, 0] rfl)
                                      · have h := h.2 c61
                                        refine lv_iconst (v := 0) hx hb dL_law_1068 (by decide) ?_
                                        exact h.elim
                                    · have h := h.2 c60
                                      by_cases c62 : ((xs x5.toNatClampNeg) &&& 31) = nI 17
                                      · have h := h.1 c62
                                        obtain ⟨s1, s2, s3⟩ := sw_in (hi := 29) c62 (by decide) (by decide)
                                        refine lv_tableIn (tgt := 1070) hx hb dL_law_45 s1 s2 (by rw [s3]; rfl) (by decide) ?_
                                        refine lv_aload_n hx hb dL_law_1070 rfl (lv_at hl 1 rfl) ?_
                                        refine lv_aload_n hx hb dL_law_1071 rfl (lv_at hl 0 rfl) ?_
                                        refine lv_iload hx hb dL_law_1072 (lv_at hl 5 rfl) ?_
                                        refine lv_iconst (v := 1) hx hb dL_law_1074 (by decide) ?_
                                        refine lv_iadd hx hb dL_law_1075 ?_
                                        obtain ⟨hi62, h⟩ := h
                                        refine va_sld hx hb hX hbl hbA hw.2 hi62 dL_law_1076 ?_
                                        refine lv_aload_n hx hb dL_law_1077 rfl (lv_at hl 0 rfl) ?_
                                        refine lv_iload hx hb dL_law_1078 (lv_at hl 5 rfl) ?_
                                        refine lv_iconst (v := 2) hx hb dL_law_1080 (by decide) ?_
                                        refine lv_iadd hx hb dL_law_1081 ?_
                                        obtain ⟨hi63, h⟩ := h
                                        refine va_sld hx hb hX hbl hbA hw.2 hi63 dL_law_1082 ?_
                                        refine lv_aload_n hx hb dL_law_1083 rfl (lv_at hl 0 rfl) ?_
                                        refine lv_iload hx hb dL_law_1084 (lv_at hl 5 rfl) ?_
                                        refine lv_iconst (v := 3) hx hb dL_law_1086 (by decide) ?_
                                        refine lv_iadd hx hb dL_law_1087 ?_
                                        obtain ⟨hi64, h⟩ := h
                                        refine va_sld hx hb hX hbl hbA hw.2 hi64 dL_law_1088 ?_
                                        refine lw_done_i pC C hw hlz hE (my_runV (As := [.int (xs (x5 + 1).toNatClampNeg), .int (xs (x5 + 2).toNatClampNeg), .int (xs (x5 + 3).toNatClampNeg)]) (rest := []) (ER_C pC C hE) (ER_W pC hw hlz hE) 0 8 (ER_in pC (by decide) (by decide)) rfl rfl (mt_X8_whyNotStep l (ER_C pC C hE).2.2.2.2.2.2.2 (ER_FC E) _ _ _ _ h) K_m_L_144 K_i_X8_whyNotStep K_v_X8_whyNotStep K_n_X8 K_c_X8_whyNotStep hy_X8_whyNotStep ⟨Nat.le_of_ble_eq_true rfl, Nat.le_of_ble_eq_true rfl⟩ hl.1 rfl (Nat.le_of_ble_eq_true rfl) dL_law_1089 ⟨by show _ ≤ (601024 : Nat); omega, by show _ ≤ (7293033 : Nat); omega⟩) (fun r47 w47 H locs h hw => ?_)
                                        refine lv_aload_n hx hb dL_law_1092 rfl (lv_at hl 2 rfl) ?_
                                        refine lv_aload_n hx hb dL_law_1093 rfl (lv_at hl 0 rfl) ?_
                                        refine lv_iload hx hb dL_law_1094 (lv_at hl 5 rfl) ?_
                                        refine lv_iconst (v := 1) hx hb dL_law_1096 (by decide) ?_
                                        refine lv_iadd hx hb dL_law_1097 ?_
                                        obtain ⟨hi65, h⟩ := h
                                        refine va_sld hx hb hX hbl hbA hw.2 hi65 dL_law_1098 ?_
                                        refine lv_aload_n hx hb dL_law_1099 rfl (lv_at hl 0 rfl) ?_
                                        refine lv_iload hx hb dL_law_1100 (lv_at hl 5 rfl) ?_
                                        refine lv_iconst (v := 2) hx hb dL_law_1102 (by decide) ?_
                                        refine lv_iadd hx hb dL_law_1103 ?_
                                        obtain ⟨hi66, h⟩ := h
                                        refine va_sld hx hb hX hbl hbA hw.2 hi66 dL_law_1104 ?_
                                        refine lv_aload_n hx hb dL_law_1105 rfl (lv_at hl 0 rfl) ?_
                                        refine lv_iload hx hb dL_law_1106 (lv_at hl 5 rfl) ?_
                                        refine lv_iconst (v := 3) hx hb dL_law_1108 (by decide) ?_
                                        refine lv_iadd hx hb dL_law_1109 ?_
                                        obtain ⟨hi67, h⟩ := h
                                        refine va_sld hx hb hX hbl hbA hw.2 hi67 dL_law_1110 ?_
                                        refine lw_done_i pM C hw hlz hE (my_runV (As := [.int (xs (x5 + 1).toNatClampNeg), .int (xs (x5 + 2).toNatClampNeg), .int (xs (x5 + 3).toNatClampNeg)]) (rest := [.int r47]) (ER_C pM C hE) (ER_W pM hw hlz hE) 15 9 (ER_in pM (by decide) (by decide)) rfl rfl (mt_X9_whyNotStep l (ER_C pM C hE).2.2.2.2.2.2.2 (ER_FM E) _ _ _ _ h) K_m_L_147 K_i_X9_whyNotStep K_v_X9_whyNotStep K_n_X9 K_c_X9_whyNotStep hy_X9_whyNotStep ⟨Nat.le_of_ble_eq_true rfl, Nat.le_of_ble_eq_true rfl⟩ hl.1 rfl (Nat.le_of_ble_eq_true rfl) dL_law_1111 ⟨by show _ ≤ (601024 : Nat); omega, by show _ ≤ (7293033 : Nat); omega⟩) (fun r48 w48 H locs h hw => ?_)
                                        refine lv_icmp_eq (tgt := 1605) hx hb dL_law_1114 (by decide) (fun c63 => ?_) (fun c63 => ?_)
                                        · have h := h.1 c63
                                          obtain ⟨y31, ey31⟩ : ∃ y : Int32, y = x5 + 6 := ⟨_, rfl⟩
                                          have h := h y31 ey31
                                          refine lv_iinc (v := y31) (lv' := [(5, .int y31), (0, .ref b), (1, .ref (eA E 0)), (2, .ref (eA E 15)), (3, .ref (eA E 25)), (4, .ref (eA E 26))]) hx hb dL_law_1605 hl (k := 5) rfl (by rw [ey31]; first | rfl | decide) (by decide) rfl (fun ls hl => ?_)
                                          refine lv_goto (tgt := 28) hx hb dL_law_1608 (by decide) ?_
                                          exact h (t + 1) (by rw [ey31, ex5]; exact law_nI t) (by omega) _ _ (by omega) (by omega) _ _ hw _ (lv_sub hl [1, 2, 3, 4, 5, 0] rfl)
                                        · have h := h.2 c63
                                          refine lv_iconst (v := 0) hx hb dL_law_1117 (by decide) ?_
                                          exact h.elim
                                      · have h := h.2 c62
                                        by_cases c64 : ((xs x5.toNatClampNeg) &&& 31) = nI 18
                                        · have h := h.1 c64
                                          obtain ⟨s1, s2, s3⟩ := sw_in (hi := 29) c64 (by decide) (by decide)
                                          refine lv_tableIn (tgt := 1119) hx hb dL_law_45 s1 s2 (by rw [s3]; rfl) (by decide) ?_
                                          refine lv_aload_n hx hb dL_law_1119 rfl (lv_at hl 1 rfl) ?_
                                          refine lv_aload_n hx hb dL_law_1120 rfl (lv_at hl 0 rfl) ?_
                                          refine lv_iload hx hb dL_law_1121 (lv_at hl 5 rfl) ?_
                                          refine lv_iconst (v := 1) hx hb dL_law_1123 (by decide) ?_
                                          refine lv_iadd hx hb dL_law_1124 ?_
                                          obtain ⟨hi68, h⟩ := h
                                          refine va_sld hx hb hX hbl hbA hw.2 hi68 dL_law_1125 ?_
                                          refine lw_done_i pC C hw hlz hE (my_runV (As := [.int (xs (x5 + 1).toNatClampNeg)]) (rest := []) (ER_C pC C hE) (ER_W pC hw hlz hE) 0 8 (ER_in pC (by decide) (by decide)) rfl rfl (mt_X8_whyNotClaim l (ER_C pC C hE).2.2.2.2.2.2.2 (ER_FC E) _ _ h) K_m_L_148 K_i_X8_whyNotClaim K_v_X8_whyNotClaim K_n_X8 K_c_X8_whyNotClaim hy_X8_whyNotClaim ⟨Nat.le_of_ble_eq_true rfl, Nat.le_of_ble_eq_true rfl⟩ hl.1 rfl (Nat.le_of_ble_eq_true rfl) dL_law_1126 ⟨by show _ ≤ (601024 : Nat); omega, by show _ ≤ (7293033 : Nat); omega⟩) (fun r49 w49 H locs h hw => ?_)
                                          refine lv_aload_n hx hb dL_law_1129 rfl (lv_at hl 2 rfl) ?_
                                          refine lv_aload_n hx hb dL_law_1130 rfl (lv_at hl 0 rfl) ?_
                                          refine lv_iload hx hb dL_law_1131 (lv_at hl 5 rfl) ?_
                                          refine lv_iconst (v := 1) hx hb dL_law_1133 (by decide) ?_
                                          refine lv_iadd hx hb dL_law_1134 ?_
                                          obtain ⟨hi69, h⟩ := h
                                          refine va_sld hx hb hX hbl hbA hw.2 hi69 dL_law_1135 ?_
                                          refine lw_done_i pM C hw hlz hE (my_runV (As := [.int (xs (x5 + 1).toNatClampNeg)]) (rest := [.int r49]) (ER_C pM C hE) (ER_W pM hw hlz hE) 15 9 (ER_in pM (by decide) (by decide)) rfl rfl (mt_X9_whyNotClaim l (ER_C pM C hE).2.2.2.2.2.2.2 (ER_FM E) _ _ h) K_m_L_151 K_i_X9_whyNotClaim K_v_X9_whyNotClaim K_n_X9 K_c_X9_whyNotClaim hy_X9_whyNotClaim ⟨Nat.le_of_ble_eq_true rfl, Nat.le_of_ble_eq_true rfl⟩ hl.1 rfl (Nat.le_of_ble_eq_true rfl) dL_law_1136 ⟨by show _ ≤ (601024 : Nat); omega, by show _ ≤ (7293033 : Nat); omega⟩) (fun r50 w50 H locs h hw => ?_)
                                          refine lv_icmp_eq (tgt := 1605) hx hb dL_law_1139 (by decide) (fun c65 => ?_) (fun c65 => ?_)
                                          · have h := h.1 c65
                                            obtain ⟨y32, ey32⟩ : ∃ y : Int32, y = x5 + 6 := ⟨_, rfl⟩
                                            have h := h y32 ey32
                                            refine lv_iinc (v := y32) (lv' := [(5, .int y32), (0, .ref b), (1, .ref (eA E 0)), (2, .ref (eA E 15)), (3, .ref (eA E 25)), (4, .ref (eA E 26))]) hx hb dL_law_1605 hl (k := 5) rfl (by rw [ey32]; first | rfl | decide) (by decide) rfl (fun ls hl => ?_)
                                            refine lv_goto (tgt := 28) hx hb dL_law_1608 (by decide) ?_
                                            exact h (t + 1) (by rw [ey32, ex5]; exact law_nI t) (by omega) _ _ (by omega) (by omega) _ _ hw _ (lv_sub hl [1, 2, 3, 4, 5, 0] rfl)
                                          · have h := h.2 c65
                                            refine lv_iconst (v := 0) hx hb dL_law_1142 (by decide) ?_
                                            exact h.elim
                                        · have h := h.2 c64
                                          by_cases c66 : ((xs x5.toNatClampNeg) &&& 31) = nI 19
                                          · have h := h.1 c66
                                            obtain ⟨s1, s2, s3⟩ := sw_in (hi := 29) c66 (by decide) (by decide)
                                            refine lv_tableIn (tgt := 1144) hx hb dL_law_45 s1 s2 (by rw [s3]; rfl) (by decide) ?_
                                            refine lv_aload_n hx hb dL_law_1144 rfl (lv_at hl 1 rfl) ?_
                                            refine lv_aload_n hx hb dL_law_1145 rfl (lv_at hl 0 rfl) ?_
                                            refine lv_iload hx hb dL_law_1146 (lv_at hl 5 rfl) ?_
                                            refine lv_iconst (v := 1) hx hb dL_law_1148 (by decide) ?_
                                            refine lv_iadd hx hb dL_law_1149 ?_
                                            obtain ⟨hi70, h⟩ := h
                                            refine va_sld hx hb hX hbl hbA hw.2 hi70 dL_law_1150 ?_
                                            refine lv_aload_n hx hb dL_law_1151 rfl (lv_at hl 0 rfl) ?_
                                            refine lv_iload hx hb dL_law_1152 (lv_at hl 5 rfl) ?_
                                            refine lv_iconst (v := 2) hx hb dL_law_1154 (by decide) ?_
                                            refine lv_iadd hx hb dL_law_1155 ?_
                                            obtain ⟨hi71, h⟩ := h
                                            refine va_sld hx hb hX hbl hbA hw.2 hi71 dL_law_1156 ?_
                                            refine lw_done_i pC C hw hlz hE (my_runV (As := [.int (xs (x5 + 1).toNatClampNeg), .int (xs (x5 + 2).toNatClampNeg)]) (rest := []) (ER_C pC C hE) (ER_W pC hw hlz hE) 0 8 (ER_in pC (by decide) (by decide)) rfl rfl (mt_X8_whyNotLock l (ER_C pC C hE).2.2.2.2.2.2.2 (ER_FC E) _ _ _ h) K_m_L_152 K_i_X8_whyNotLock K_v_X8_whyNotLock K_n_X8 K_c_X8_whyNotLock hy_X8_whyNotLock ⟨Nat.le_of_ble_eq_true rfl, Nat.le_of_ble_eq_true rfl⟩ hl.1 rfl (Nat.le_of_ble_eq_true rfl) dL_law_1157 ⟨by show _ ≤ (601024 : Nat); omega, by show _ ≤ (7293033 : Nat); omega⟩) (fun r51 w51 H locs h hw => ?_)
                                            refine lv_aload_n hx hb dL_law_1160 rfl (lv_at hl 2 rfl) ?_
                                            refine lv_aload_n hx hb dL_law_1161 rfl (lv_at hl 0 rfl) ?_
                                            refine lv_iload hx hb dL_law_1162 (lv_at hl 5 rfl) ?_
                                            refine lv_iconst (v := 1) hx hb dL_law_1164 (by decide) ?_
                                            refine lv_iadd hx hb dL_law_1165 ?_
                                            obtain ⟨hi72, h⟩ := h
                                            refine va_sld hx hb hX hbl hbA hw.2 hi72 dL_law_1166 ?_
                                            refine lv_aload_n hx hb dL_law_1167 rfl (lv_at hl 0 rfl) ?_
                                            refine lv_iload hx hb dL_law_1168 (lv_at hl 5 rfl) ?_
                                            refine lv_iconst (v := 2) hx hb dL_law_1170 (by decide) ?_
                                            refine lv_iadd hx hb dL_law_1171 ?_
                                            obtain ⟨hi73, h⟩ := h
                                            refine va_sld hx hb hX hbl hbA hw.2 hi73 dL_law_1172 ?_
                                            refine lw_done_i pM C hw hlz hE (my_runV (As := [.int (xs (x5 + 1).toNatClampNeg), .int (xs (x5 + 2).toNatClampNeg)]) (rest := [.int r51]) (ER_C pM C hE) (ER_W pM hw hlz hE) 15 9 (ER_in pM (by decide) (by decide)) rfl rfl (mt_X9_whyNotLock l (ER_C pM C hE).2.2.2.2.2.2.2 (ER_FM E) _ _ _ h) K_m_L_155 K_i_X9_whyNotLock K_v_X9_whyNotLock K_n_X9 K_c_X9_whyNotLock hy_X9_whyNotLock ⟨Nat.le_of_ble_eq_true rfl, Nat.le_of_ble_eq_true rfl⟩ hl.1 rfl (Nat.le_of_ble_eq_true rfl) dL_law_1173 ⟨by show _ ≤ (601024 : Nat); omega, by show _ ≤ (7293033 : Nat); omega⟩) (fun r52 w52 H locs h hw => ?_)
                                            refine lv_icmp_eq (tgt := 1605) hx hb dL_law_1176 (by decide) (fun c67 => ?_) (fun c67 => ?_)
                                            · have h := h.1 c67
                                              obtain ⟨y33, ey33⟩ : ∃ y : Int32, y = x5 + 6 := ⟨_, rfl⟩
                                              have h := h y33 ey33
                                              refine lv_iinc (v := y33) (lv' := [(5, .int y33), (0, .ref b), (1, .ref (eA E 0)), (2, .ref (eA E 15)), (3, .ref (eA E 25)), (4, .ref (eA E 26))]) hx hb dL_law_1605 hl (k := 5) rfl (by rw [ey33]; first | rfl | decide) (by decide) rfl (fun ls hl => ?_)
                                              refine lv_goto (tgt := 28) hx hb dL_law_1608 (by decide) ?_
                                              exact h (t + 1) (by rw [ey33, ex5]; exact law_nI t) (by omega) _ _ (by omega) (by omega) _ _ hw _ (lv_sub hl [1, 2, 3, 4, 5, 0] rfl)
                                            · have h := h.2 c67
                                              refine lv_iconst (v := 0) hx hb dL_law_1179 (by decide) ?_
                                              exact h.elim
                                          · have h := h.2 c66
                                            by_cases c68 : ((xs x5.toNatClampNeg) &&& 31) = nI 20
                                            · have h := h.1 c68
                                              obtain ⟨s1, s2, s3⟩ := sw_in (hi := 29) c68 (by decide) (by decide)
                                              refine lv_tableIn (tgt := 1181) hx hb dL_law_45 s1 s2 (by rw [s3]; rfl) (by decide) ?_
                                              refine lv_aload_n hx hb dL_law_1181 rfl (lv_at hl 1 rfl) ?_
                                              refine lw_done_i pC C hw hlz hE (my_runV (As := []) (rest := []) (ER_C pC C hE) (ER_W pC hw hlz hE) 0 8 (ER_in pC (by decide) (by decide)) rfl rfl (mt_X8_whyNotBack l (ER_C pC C hE).2.2.2.2.2.2.2 (ER_FC E) _ h) K_m_L_156 K_i_X8_whyNotBack K_v_X8_whyNotBack K_n_X8 K_c_X8_whyNotBack hy_X8_whyNotBack ⟨Nat.le_of_ble_eq_true rfl, Nat.le_of_ble_eq_true rfl⟩ hl.1 rfl (Nat.le_of_ble_eq_true rfl) dL_law_1182 ⟨by show _ ≤ (601024 : Nat); omega, by show _ ≤ (7293033 : Nat); omega⟩) (fun r53 w53 H locs h hw => ?_)
                                              refine lv_aload_n hx hb dL_law_1185 rfl (lv_at hl 2 rfl) ?_
                                              refine lw_done_i pM C hw hlz hE (my_runV (As := []) (rest := [.int r53]) (ER_C pM C hE) (ER_W pM hw hlz hE) 15 9 (ER_in pM (by decide) (by decide)) rfl rfl (mt_X9_whyNotBack l (ER_C pM C hE).2.2.2.2.2.2.2 (ER_FM E) _ h) K_m_L_159 K_i_X9_whyNotBack K_v_X9_whyNotBack K_n_X9 K_c_X9_whyNotBack hy_X9_whyNotBack ⟨Nat.le_of_ble_eq_true rfl, Nat.le_of_ble_eq_true rfl⟩ hl.1 rfl (Nat.le_of_ble_eq_true rfl) dL_law_1186 ⟨by show _ ≤ (601024 : Nat); omega, by show _ ≤ (7293033 : Nat); omega⟩) (fun r54 w54 H locs h hw => ?_)
                                              refine lv_icmp_eq (tgt := 1605) hx hb dL_law_1189 (by decide) (fun c69 => ?_) (fun c69 => ?_)
                                              · have h := h.1 c69
                                                obtain ⟨y34, ey34⟩ : ∃ y : Int32, y = x5 + 6 := ⟨_, rfl⟩
                                                have h := h y34 ey34
                                                refine lv_iinc (v := y34) (lv' := [(5, .int y34), (0, .ref b), (1, .ref (eA E 0)), (2, .ref (eA E 15)), (3, .ref (eA E 25)), (4, .ref (eA E 26))]) hx hb dL_law_1605 hl (k := 5) rfl (by rw [ey34]; first | rfl | decide) (by decide) rfl (fun ls hl => ?_)
                                                refine lv_goto (tgt := 28) hx hb dL_law_1608 (by decide) ?_
                                                exact h (t + 1) (by rw [ey34, ex5]; exact law_nI t) (by omega) _ _ (by omega) (by omega) _ _ hw _ (lv_sub hl [1, 2, 3, 4, 5, 0] rfl)
                                              · have h := h.2 c69
                                                refine lv_iconst (v := 0) hx hb dL_law_1192 (by decide) ?_
                                                exact h.elim
                                            · have h := h.2 c68
                                              by_cases c70 : ((xs x5.toNatClampNeg) &&& 31) = nI 21
                                              · have h := h.1 c70
                                                obtain ⟨s1, s2, s3⟩ := sw_in (hi := 29) c70 (by decide) (by decide)
                                                refine lv_tableIn (tgt := 1194) hx hb dL_law_45 s1 s2 (by rw [s3]; rfl) (by decide) ?_
                                                refine lv_aload_n hx hb dL_law_1194 rfl (lv_at hl 1 rfl) ?_
                                                refine lv_aload_n hx hb dL_law_1195 rfl (lv_at hl 0 rfl) ?_
                                                refine lv_iload hx hb dL_law_1196 (lv_at hl 5 rfl) ?_
                                                refine lv_iconst (v := 1) hx hb dL_law_1198 (by decide) ?_
                                                refine lv_iadd hx hb dL_law_1199 ?_
                                                obtain ⟨hi74, h⟩ := h
                                                refine va_sld hx hb hX hbl hbA hw.2 hi74 dL_law_1200 ?_
                                                refine lv_aload_n hx hb dL_law_1201 rfl (lv_at hl 0 rfl) ?_
                                                refine lv_iload hx hb dL_law_1202 (lv_at hl 5 rfl) ?_
                                                refine lv_iconst (v := 2) hx hb dL_law_1204 (by decide) ?_
                                                refine lv_iadd hx hb dL_law_1205 ?_
                                                obtain ⟨hi75, h⟩ := h
                                                refine va_sld hx hb hX hbl hbA hw.2 hi75 dL_law_1206 ?_
                                                refine lv_aload_n hx hb dL_law_1207 rfl (lv_at hl 0 rfl) ?_
                                                refine lv_iload hx hb dL_law_1208 (lv_at hl 5 rfl) ?_
                                                refine lv_iconst (v := 3) hx hb dL_law_1210 (by decide) ?_
                                                refine lv_iadd hx hb dL_law_1211 ?_
                                                obtain ⟨hi76, h⟩ := h
                                                refine va_sld hx hb hX hbl hbA hw.2 hi76 dL_law_1212 ?_
                                                refine lv_aload_n hx hb dL_law_1213 rfl (lv_at hl 3 rfl) ?_
                                                refine lw_done_w pC C hw hlz hE (my_runSW (As := [.ref (eA E 0), .int (xs (x5 + 1).toNatClampNeg), .int (xs (x5 + 2).toNatClampNeg), .int (xs (x5 + 3).toNatClampNeg), .ref (eA E 25)]) (rest := []) (ER_C pC C hE) (ER_W pC hw hlz hE) (mt_L_step l hT (ER_C pC C hE).2.2.2.2.2.2.2 (ER_FC E) _ _ _ _ h) K_m_L_160 K_s_L_step K_n_L K_w_L_step hy_L_step ⟨Nat.le_of_ble_eq_true rfl, Nat.le_of_ble_eq_true rfl⟩ hl.1 rfl (Nat.le_of_ble_eq_true rfl) dL_law_1214 ⟨by show _ ≤ (601024 : Nat); omega, by show _ ≤ (7293033 : Nat); omega⟩) (fun r55 w55 H locs h hw => ?_)
                                                refine lv_istore (lv' := [(6, .int r55), (0, .ref b), (1, .ref (eA E 0)), (2, .ref (eA E 15)), (3, .ref (eA E 25)), (4, .ref (eA E 26)), (5, .int x5)]) hx hb dL_law_1217 hl (by decide) rfl (fun ls hl => ?_)
                                                refine lv_aload_n hx hb dL_law_1219 rfl (lv_at hl 3 rfl) ?_
                                                refine lv_aload_n hx hb dL_law_1220 rfl (lv_at hl 1 rfl) ?_
                                                refine lv_iload hx hb dL_law_1221 (lv_at hl 6 rfl) ?_
                                                refine lv_iconst (v := 1) hx hb dL_law_1223 (by decide) ?_
                                                refine lv_iadd hx hb dL_law_1224 ?_
                                                obtain ⟨hi77, h⟩ := h
                                                refine va_sld hx hb hX hbl hbA hw.2 hi77 dL_law_1225 ?_
                                                refine lv_aload_n hx hb dL_law_1226 rfl (lv_at hl 1 rfl) ?_
                                                refine lv_iload hx hb dL_law_1227 (lv_at hl 6 rfl) ?_
                                                refine lv_iconst (v := 2) hx hb dL_law_1229 (by decide) ?_
                                                refine lv_iadd hx hb dL_law_1230 ?_
                                                obtain ⟨hi78, h⟩ := h
                                                refine va_sld hx hb hX hbl hbA hw.2 hi78 dL_law_1231 ?_
                                                refine lv_aload_n hx hb dL_law_1232 rfl (lv_at hl 1 rfl) ?_
                                                refine lv_iload hx hb dL_law_1233 (lv_at hl 6 rfl) ?_
                                                refine lv_iconst (v := 3) hx hb dL_law_1235 (by decide) ?_
                                                refine lv_iadd hx hb dL_law_1236 ?_
                                                obtain ⟨hi79, h⟩ := h
                                                refine va_sld hx hb hX hbl hbA hw.2 hi79 dL_law_1237 ?_
                                                refine lw_done_i pM C hw hlz hE (my_runV (As := [.int (xs (x5 + 1).toNatClampNeg), .int (xs (x5 + 2).toNatClampNeg), .int (xs (x5 + 3).toNatClampNeg)]) (rest := []) (ER_C pM C hE) (ER_W pM hw hlz hE) 15 9 (ER_in pM (by decide) (by decide)) rfl rfl (mt_X9_step l (ER_C pM C hE).2.2.2.2.2.2.2 (ER_FM E) _ _ _ _ h) K_m_L_163 K_i_X9_step K_v_X9_step K_n_X9 K_c_X9_step hy_X9_step ⟨Nat.le_of_ble_eq_true rfl, Nat.le_of_ble_eq_true rfl⟩ hl.1 rfl (Nat.le_of_ble_eq_true rfl) dL_law_1238 ⟨by show _ ≤ (601024 : Nat); omega, by show _ ≤ (7293033 : Nat); omega⟩) (fun r56 w56 H locs h hw => ?_)
                                                refine lv_istore (lv' := [(7, .int r56), (6, .int r55), (0, .ref b), (1, .ref (eA E 0)), (2, .ref (eA E 15)), (3, .ref (eA E 25)), (4, .ref (eA E 26)), (5, .int x5)]) hx hb dL_law_1241 hl (by decide) rfl (fun ls hl => ?_)
                                                refine lv_aload_n hx hb dL_law_1243 rfl (lv_at hl 4 rfl) ?_
                                                refine lw_done_i pM C hw hlz hE (my_runV (As := []) (rest := []) (ER_C pM C hE) (ER_W pM hw hlz hE) 15 9 (ER_in pM (by decide) (by decide)) rfl rfl (mt_X9_thrown l (ER_C pM C hE).2.2.2.2.2.2.2 (ER_FM E) _ h) K_m_L_89 K_i_X9_thrown K_v_X9_thrown K_n_X9 K_c_X9_thrown hy_X9_thrown ⟨Nat.le_of_ble_eq_true rfl, Nat.le_of_ble_eq_true rfl⟩ hl.1 rfl (Nat.le_of_ble_eq_true rfl) dL_law_1244 ⟨by show _ ≤ (601024 : Nat); omega, by show _ ≤ (7293033 : Nat); omega⟩) (fun r57 w57 H locs h hw => ?_)
                                                refine lv_iload hx hb dL_law_1247 (lv_at hl 1 rfl) ?_
                                                refine lv_icmp_eq (tgt := 1254) hx hb dL_law_1249 (by decide) (fun c71 => ?_) (fun c71 => ?_)
                                                · have h := h.1 c71
                                                  refine lv_iload hx hb dL_law_1254 (lv_at hl 1 rfl) ?_
                                                  refine lv_if_ne (tgt := 1271) hx hb dL_law_1256 (by decide) (fun c72 => ?_) (fun c72 => ?_)
                                                  · have h := h.2 c72
                                                    refine lv_goto (tgt := 1605) hx hb dL_law_1271 (by decide) ?_
                                                    obtain ⟨y35, ey35⟩ : ∃ y : Int32, y = x5 + 6 := ⟨_, rfl⟩
                                                    have h := h y35 ey35
                                                    refine lv_iinc (v := y35) (lv' := [(5, .int y35), (7, .int r56), (6, .int r55), (0, .ref b), (1, .ref (eA E 0)), (2, .ref (eA E 15)), (3, .ref (eA E 25)), (4, .ref (eA E 26))]) hx hb dL_law_1605 hl (k := 7) rfl (by rw [ey35]; first | rfl | decide) (by decide) rfl (fun ls hl => ?_)
                                                    refine lv_goto (tgt := 28) hx hb dL_law_1608 (by decide) ?_
                                                    exact h (t + 1) (by rw [ey35, ex5]; exact law_nI t) (by omega) _ _ (by omega) (by omega) _ _ hw _ (lv_sub hl [3, 4, 5, 6, 7, 0] rfl)
                                                  · have h := h.1 c72
                                                    refine lv_aload_n hx hb dL_law_1259 rfl (lv_at hl 5 rfl) ?_
                                                    refine lv_iconst (v := 0) hx hb dL_law_1260 (by decide) ?_
                                                    refine r_lald C hw 25 1 (hF 25 (by decide)) rfl (vp_lit (by decide)) dL_law_1261 ?_
                                                    refine lv_iload hx hb dL_law_1262 (lv_at hl 0 rfl) ?_
                                                    refine lv_i2l hx hb dL_law_1264 rfl ?_
                                                    refine W.lcmp hx hb dL_law_1265 ?_
                                                    refine lv_if_eq (tgt := 1271) hx hb dL_law_1266 (by decide) (fun c73 => ?_) (fun c73 => ?_)
                                                    · have h := h.1 c73
                                                      refine lv_goto (tgt := 1605) hx hb dL_law_1271 (by decide) ?_
                                                      obtain ⟨y36, ey36⟩ : ∃ y : Int32, y = x5 + 6 := ⟨_, rfl⟩
                                                      have h := h y36 ey36
                                                      refine lv_iinc (v := y36) (lv' := [(5, .int y36), (7, .int r56), (6, .int r55), (0, .ref b), (1, .ref (eA E 0)), (2, .ref (eA E 15)), (3, .ref (eA E 25)), (4, .ref (eA E 26))]) hx hb dL_law_1605 hl (k := 7) rfl (by rw [ey36]; first | rfl | decide) (by decide) rfl (fun ls hl => ?_)
                                                      refine lv_goto (tgt := 28) hx hb dL_law_1608 (by decide) ?_
                                                      exact h (t + 1) (by rw [ey36, ex5]; exact law_nI t) (by omega) _ _ (by omega) (by omega) _ _ hw _ (lv_sub hl [3, 4, 5, 6, 7, 0] rfl)
                                                    · have h := h.2 c73
                                                      refine lv_iconst (v := 0) hx hb dL_law_1269 (by decide) ?_
                                                      exact h.elim
                                                · have h := h.2 c71
                                                  refine lv_iconst (v := 0) hx hb dL_law_1252 (by decide) ?_
                                                  exact h.elim
                                              · have h := h.2 c70
                                                by_cases c74 : ((xs x5.toNatClampNeg) &&& 31) = nI 22
                                                · have h := h.1 c74
                                                  obtain ⟨s1, s2, s3⟩ := sw_in (hi := 29) c74 (by decide) (by decide)
                                                  refine lv_tableIn (tgt := 1274) hx hb dL_law_45 s1 s2 (by rw [s3]; rfl) (by decide) ?_
                                                  refine lv_aload_n hx hb dL_law_1274 rfl (lv_at hl 1 rfl) ?_
                                                  refine lv_aload_n hx hb dL_law_1275 rfl (lv_at hl 0 rfl) ?_
                                                  refine lv_iload hx hb dL_law_1276 (lv_at hl 5 rfl) ?_
                                                  refine lv_iconst (v := 1) hx hb dL_law_1278 (by decide) ?_
                                                  refine lv_iadd hx hb dL_law_1279 ?_
                                                  obtain ⟨hi81, h⟩ := h
                                                  refine va_sld hx hb hX hbl hbA hw.2 hi81 dL_law_1280 ?_
                                                  refine lv_aload_n hx hb dL_law_1281 rfl (lv_at hl 3 rfl) ?_
                                                  refine lw_done_w pC C hw hlz hE (my_runSW (As := [.ref (eA E 0), .int (xs (x5 + 1).toNatClampNeg), .ref (eA E 25)]) (rest := []) (ER_C pC C hE) (ER_W pC hw hlz hE) (mt_L_claim l hT (ER_C pC C hE).2.2.2.2.2.2.2 (ER_FC E) _ _ h) K_m_L_164 K_s_L_claim K_n_L K_w_L_claim hy_L_claim ⟨Nat.le_of_ble_eq_true rfl, Nat.le_of_ble_eq_true rfl⟩ hl.1 rfl (Nat.le_of_ble_eq_true rfl) dL_law_1282 ⟨by show _ ≤ (601024 : Nat); omega, by show _ ≤ (7293033 : Nat); omega⟩) (fun r58 w58 H locs h hw => ?_)
                                                  refine lv_istore (lv' := [(6, .int r58), (0, .ref b), (1, .ref (eA E 0)), (2, .ref (eA E 15)), (3, .ref (eA E 25)), (4, .ref (eA E 26)), (5, .int x5)]) hx hb dL_law_1285 hl (by decide) rfl (fun ls hl => ?_)
                                                  refine lv_aload_n hx hb dL_law_1287 rfl (lv_at hl 3 rfl) ?_
                                                  refine lv_aload_n hx hb dL_law_1288 rfl (lv_at hl 1 rfl) ?_
                                                  refine lv_iload hx hb dL_law_1289 (lv_at hl 6 rfl) ?_
                                                  refine lv_iconst (v := 1) hx hb dL_law_1291 (by decide) ?_
                                                  refine lv_iadd hx hb dL_law_1292 ?_
                                                  obtain ⟨hi82, h⟩ := h
                                                  refine va_sld hx hb hX hbl hbA hw.2 hi82 dL_law_1293 ?_
                                                  refine lw_done_i pM C hw hlz hE (my_runV (As := [.int (xs (x5 + 1).toNatClampNeg)]) (rest := []) (ER_C pM C hE) (ER_W pM hw hlz hE) 15 9 (ER_in pM (by decide) (by decide)) rfl rfl (mt_X9_claim l (ER_C pM C hE).2.2.2.2.2.2.2 (ER_FM E) _ _ h) K_m_L_166 K_i_X9_claim K_v_X9_claim K_n_X9 K_c_X9_claim hy_X9_claim ⟨Nat.le_of_ble_eq_true rfl, Nat.le_of_ble_eq_true rfl⟩ hl.1 rfl (Nat.le_of_ble_eq_true rfl) dL_law_1294 ⟨by show _ ≤ (601024 : Nat); omega, by show _ ≤ (7293033 : Nat); omega⟩) (fun r59 w59 H locs h hw => ?_)
                                                  refine lv_istore (lv' := [(7, .int r59), (6, .int r58), (0, .ref b), (1, .ref (eA E 0)), (2, .ref (eA E 15)), (3, .ref (eA E 25)), (4, .ref (eA E 26)), (5, .int x5)]) hx hb dL_law_1297 hl (by decide) rfl (fun ls hl => ?_)
                                                  refine lv_aload_n hx hb dL_law_1299 rfl (lv_at hl 4 rfl) ?_
                                                  refine lw_done_i pM C hw hlz hE (my_runV (As := []) (rest := []) (ER_C pM C hE) (ER_W pM hw hlz hE) 15 9 (ER_in pM (by decide) (by decide)) rfl rfl (mt_X9_thrown l (ER_C pM C hE).2.2.2.2.2.2.2 (ER_FM E) _ h) K_m_L_89 K_i_X9_thrown K_v_X9_thrown K_n_X9 K_c_X9_thrown hy_X9_thrown ⟨Nat.le_of_ble_eq_true rfl, Nat.le_of_ble_eq_true rfl⟩ hl.1 rfl (Nat.le_of_ble_eq_true rfl) dL_law_1300 ⟨by show _ ≤ (601024 : Nat); omega, by show _ ≤ (7293033 : Nat); omega⟩) (fun r60 w60 H locs h hw => ?_)
                                                  refine lv_iload hx hb dL_law_1303 (lv_at hl 1 rfl) ?_
                                                  refine lv_icmp_eq (tgt := 1310) hx hb dL_law_1305 (by decide) (fun c75 => ?_) (fun c75 => ?_)
                                                  · have h := h.1 c75
                                                    refine lv_iload hx hb dL_law_1310 (lv_at hl 1 rfl) ?_
                                                    refine lv_if_ne (tgt := 1327) hx hb dL_law_1312 (by decide) (fun c76 => ?_) (fun c76 => ?_)
                                                    · have h := h.2 c76
                                                      refine lv_goto (tgt := 1605) hx hb dL_law_1327 (by decide) ?_
                                                      obtain ⟨y37, ey37⟩ : ∃ y : Int32, y = x5 + 6 := ⟨_, rfl⟩
                                                      have h := h y37 ey37
                                                      refine lv_iinc (v := y37) (lv' := [(5, .int y37), (7, .int r59), (6, .int r58), (0, .ref b), (1, .ref (eA E 0)), (2, .ref (eA E 15)), (3, .ref (eA E 25)), (4, .ref (eA E 26))]) hx hb dL_law_1605 hl (k := 7) rfl (by rw [ey37]; first | rfl | decide) (by decide) rfl (fun ls hl => ?_)
                                                      refine lv_goto (tgt := 28) hx hb dL_law_1608 (by decide) ?_
                                                      exact h (t + 1) (by rw [ey37, ex5]; exact law_nI t) (by omega) _ _ (by omega) (by omega) _ _ hw _ (lv_sub hl [3, 4, 5, 6, 7, 0] rfl)
                                                    · have h := h.1 c76
                                                      refine lv_aload_n hx hb dL_law_1315 rfl (lv_at hl 5 rfl) ?_
                                                      refine lv_iconst (v := 0) hx hb dL_law_1316 (by decide) ?_
                                                      refine r_lald C hw 25 1 (hF 25 (by decide)) rfl (vp_lit (by decide)) dL_law_1317 ?_
                                                      refine lv_iload hx hb dL_law_1318 (lv_at hl 0 rfl) ?_
                                                      refine lv_i2l hx hb dL_law_1320 rfl ?_
                                                      refine W.lcmp hx hb dL_law_1321 ?_
                                                      refine lv_if_eq (tgt := 1327) hx hb dL_law_1322 (by decide) (fun c77 => ?_) (fun c77 => ?_)
                                                      · have h := h.1 c77
                                                        refine lv_goto (tgt := 1605) hx hb dL_law_1327 (by decide) ?_
                                                        obtain ⟨y38, ey38⟩ : ∃ y : Int32, y = x5 + 6 := ⟨_, rfl⟩
                                                        have h := h y38 ey38
                                                        refine lv_iinc (v := y38) (lv' := [(5, .int y38), (7, .int r59), (6, .int r58), (0, .ref b), (1, .ref (eA E 0)), (2, .ref (eA E 15)), (3, .ref (eA E 25)), (4, .ref (eA E 26))]) hx hb dL_law_1605 hl (k := 7) rfl (by rw [ey38]; first | rfl | decide) (by decide) rfl (fun ls hl => ?_)
                                                        refine lv_goto (tgt := 28) hx hb dL_law_1608 (by decide) ?_
                                                        exact h (t + 1) (by rw [ey38, ex5]; exact law_nI t) (by omega) _ _ (by omega) (by omega) _ _ hw _ (lv_sub hl [3, 4, 5, 6, 7, 0] rfl)
                                                      · have h := h.2 c77
                                                        refine lv_iconst (v := 0) hx hb dL_law_1325 (by decide) ?_
                                                        exact h.elim
                                                  · have h := h.2 c75
                                                    refine lv_iconst (v := 0) hx hb dL_law_1308 (by decide) ?_
                                                    exact h.elim
                                                · have h := h.2 c74
                                                  by_cases c78 : ((xs x5.toNatClampNeg) &&& 31) = nI 23
                                                  · have h := h.1 c78
                                                    obtain ⟨s1, s2, s3⟩ := sw_in (hi := 29) c78 (by decide) (by decide)
                                                    refine lv_tableIn (tgt := 1330) hx hb dL_law_45 s1 s2 (by rw [s3]; rfl) (by decide) ?_
                                                    refine lv_aload_n hx hb dL_law_1330 rfl (lv_at hl 1 rfl) ?_
                                                    refine lv_aload_n hx hb dL_law_1331 rfl (lv_at hl 0 rfl) ?_
                                                    refine lv_iload hx hb dL_law_1332 (lv_at hl 5 rfl) ?_
                                                    refine lv_iconst (v := 1) hx hb dL_law_1334 (by decide) ?_
                                                    refine lv_iadd hx hb dL_law_1335 ?_
                                                    obtain ⟨hi84, h⟩ := h
                                                    refine va_sld hx hb hX hbl hbA hw.2 hi84 dL_law_1336 ?_
                                                    refine lv_aload_n hx hb dL_law_1337 rfl (lv_at hl 0 rfl) ?_
                                                    refine lv_iload hx hb dL_law_1338 (lv_at hl 5 rfl) ?_
                                                    refine lv_iconst (v := 2) hx hb dL_law_1340 (by decide) ?_
                                                    refine lv_iadd hx hb dL_law_1341 ?_
                                                    obtain ⟨hi85, h⟩ := h
                                                    refine va_sld hx hb hX hbl hbA hw.2 hi85 dL_law_1342 ?_
                                                    refine lv_aload_n hx hb dL_law_1343 rfl (lv_at hl 3 rfl) ?_
                                                    refine lw_done_w pC C hw hlz hE (my_runSW (As := [.ref (eA E 0), .int (xs (x5 + 1).toNatClampNeg), .int (xs (x5 + 2).toNatClampNeg), .ref (eA E 25)]) (rest := []) (ER_C pC C hE) (ER_W pC hw hlz hE) (mt_L_lock l hT (ER_C pC C hE).2.2.2.2.2.2.2 (ER_FC E) _ _ _ h) K_m_L_167 K_s_L_lock K_n_L K_w_L_lock hy_L_lock ⟨Nat.le_of_ble_eq_true rfl, Nat.le_of_ble_eq_true rfl⟩ hl.1 rfl (Nat.le_of_ble_eq_true rfl) dL_law_1344 ⟨by show _ ≤ (601024 : Nat); omega, by show _ ≤ (7293033 : Nat); omega⟩) (fun r61 w61 H locs h hw => ?_)
                                                    refine lv_istore (lv' := [(6, .int r61), (0, .ref b), (1, .ref (eA E 0)), (2, .ref (eA E 15)), (3, .ref (eA E 25)), (4, .ref (eA E 26)), (5, .int x5)]) hx hb dL_law_1347 hl (by decide) rfl (fun ls hl => ?_)
                                                    refine lv_aload_n hx hb dL_law_1349 rfl (lv_at hl 3 rfl) ?_
                                                    refine lv_aload_n hx hb dL_law_1350 rfl (lv_at hl 1 rfl) ?_
                                                    refine lv_iload hx hb dL_law_1351 (lv_at hl 6 rfl) ?_
                                                    refine lv_iconst (v := 1) hx hb dL_law_1353 (by decide) ?_
                                                    refine lv_iadd hx hb dL_law_1354 ?_
                                                    obtain ⟨hi86, h⟩ := h
                                                    refine va_sld hx hb hX hbl hbA hw.2 hi86 dL_law_1355 ?_
                                                    refine lv_aload_n hx hb dL_law_1356 rfl (lv_at hl 1 rfl) ?_
                                                    refine lv_iload hx hb dL_law_1357 (lv_at hl 6 rfl) ?_
                                                    refine lv_iconst (v := 2) hx hb dL_law_1359 (by decide) ?_
                                                    refine lv_iadd hx hb dL_law_1360 ?_
                                                    obtain ⟨hi87, h⟩ := h
                                                    refine va_sld hx hb hX hbl hbA hw.2 hi87 dL_law_1361 ?_
                                                    refine lw_done_i pM C hw hlz hE (my_runV (As := [.int (xs (x5 + 1).toNatClampNeg), .int (xs (x5 + 2).toNatClampNeg)]) (rest := []) (ER_C pM C hE) (ER_W pM hw hlz hE) 15 9 (ER_in pM (by decide) (by decide)) rfl rfl (mt_X9_lock l (ER_C pM C hE).2.2.2.2.2.2.2 (ER_FM E) _ _ _ h) K_m_L_169 K_i_X9_lock K_v_X9_lock K_n_X9 K_c_X9_lock hy_X9_lock ⟨Nat.le_of_ble_eq_true rfl, Nat.le_of_ble_eq_true rfl⟩ hl.1 rfl (Nat.le_of_ble_eq_true rfl) dL_law_1362 ⟨by show _ ≤ (601024 : Nat); omega, by show _ ≤ (7293033 : Nat); omega⟩) (fun r62 w62 H locs h hw => ?_)
                                                    refine lv_istore (lv' := [(7, .int r62), (6, .int r61), (0, .ref b), (1, .ref (eA E 0)), (2, .ref (eA E 15)), (3, .ref (eA E 25)), (4, .ref (eA E 26)), (5, .int x5)]) hx hb dL_law_1365 hl (by decide) rfl (fun ls hl => ?_)
                                                    refine lv_aload_n hx hb dL_law_1367 rfl (lv_at hl 4 rfl) ?_
                                                    refine lw_done_i pM C hw hlz hE (my_runV (As := []) (rest := []) (ER_C pM C hE) (ER_W pM hw hlz hE) 15 9 (ER_in pM (by decide) (by decide)) rfl rfl (mt_X9_thrown l (ER_C pM C hE).2.2.2.2.2.2.2 (ER_FM E) _ h) K_m_L_89 K_i_X9_thrown K_v_X9_thrown K_n_X9 K_c_X9_thrown hy_X9_thrown ⟨Nat.le_of_ble_eq_true rfl, Nat.le_of_ble_eq_true rfl⟩ hl.1 rfl (Nat.le_of_ble_eq_true rfl) dL_law_1368 ⟨by show _ ≤ (601024 : Nat); omega, by show _ ≤ (7293033 : Nat); omega⟩) (fun r63 w63 H locs h hw => ?_)
                                                    refine lv_iload hx hb dL_law_1371 (lv_at hl 1 rfl) ?_
                                                    refine lv_icmp_eq (tgt := 1378) hx hb dL_law_1373 (by decide) (fun c79 => ?_) (fun c79 => ?_)
                                                    · have h := h.1 c79
                                                      refine lv_iload hx hb dL_law_1378 (lv_at hl 1 rfl) ?_
                                                      refine lv_if_ne (tgt := 1395) hx hb dL_law_1380 (by decide) (fun c80 => ?_) (fun c80 => ?_)
                                                      · have h := h.2 c80
                                                        refine lv_goto (tgt := 1605) hx hb dL_law_1395 (by decide) ?_
                                                        obtain ⟨y39, ey39⟩ : ∃ y : Int32, y = x5 + 6 := ⟨_, rfl⟩
                                                        have h := h y39 ey39
                                                        refine lv_iinc (v := y39) (lv' := [(5, .int y39), (7, .int r62), (6, .int r61), (0, .ref b), (1, .ref (eA E 0)), (2, .ref (eA E 15)), (3, .ref (eA E 25)), (4, .ref (eA E 26))]) hx hb dL_law_1605 hl (k := 7) rfl (by rw [ey39]; first | rfl | decide) (by decide) rfl (fun ls hl => ?_)
                                                        refine lv_goto (tgt := 28) hx hb dL_law_1608 (by decide) ?_
                                                        exact h (t + 1) (by rw [ey39, ex5]; exact law_nI t) (by omega) _ _ (by omega) (by omega) _ _ hw _ (lv_sub hl [3, 4, 5, 6, 7, 0] rfl)
                                                      · have h := h.1 c80
                                                        refine lv_aload_n hx hb dL_law_1383 rfl (lv_at hl 5 rfl) ?_
                                                        refine lv_iconst (v := 0) hx hb dL_law_1384 (by decide) ?_
                                                        refine r_lald C hw 25 1 (hF 25 (by decide)) rfl (vp_lit (by decide)) dL_law_1385 ?_
                                                        refine lv_iload hx hb dL_law_1386 (lv_at hl 0 rfl) ?_
                                                        refine lv_i2l hx hb dL_law_1388 rfl ?_
                                                        refine W.lcmp hx hb dL_law_1389 ?_
                                                        refine lv_if_eq (tgt := 1395) hx hb dL_law_1390 (by decide) (fun c81 => ?_) (fun c81 => ?_)
                                                        · have h := h.1 c81
                                                          refine lv_goto (tgt := 1605) hx hb dL_law_1395 (by decide) ?_
                                                          obtain ⟨y40, ey40⟩ : ∃ y : Int32, y = x5 + 6 := ⟨_, rfl⟩
                                                          have h := h y40 ey40
                                                          refine lv_iinc (v := y40) (lv' := [(5, .int y40), (7, .int r62), (6, .int r61), (0, .ref b), (1, .ref (eA E 0)), (2, .ref (eA E 15)), (3, .ref (eA E 25)), (4, .ref (eA E 26))]) hx hb dL_law_1605 hl (k := 7) rfl (by rw [ey40]; first | rfl | decide) (by decide) rfl (fun ls hl => ?_)
                                                          refine lv_goto (tgt := 28) hx hb dL_law_1608 (by decide) ?_
                                                          exact h (t + 1) (by rw [ey40, ex5]; exact law_nI t) (by omega) _ _ (by omega) (by omega) _ _ hw _ (lv_sub hl [3, 4, 5, 6, 7, 0] rfl)
                                                        · have h := h.2 c81
                                                          refine lv_iconst (v := 0) hx hb dL_law_1393 (by decide) ?_
                                                          exact h.elim
                                                    · have h := h.2 c79
                                                      refine lv_iconst (v := 0) hx hb dL_law_1376 (by decide) ?_
                                                      exact h.elim
                                                  · have h := h.2 c78
                                                    by_cases c82 : ((xs x5.toNatClampNeg) &&& 31) = nI 24
                                                    · have h := h.1 c82
                                                      obtain ⟨s1, s2, s3⟩ := sw_in (hi := 29) c82 (by decide) (by decide)
                                                      refine lv_tableIn (tgt := 1398) hx hb dL_law_45 s1 s2 (by rw [s3]; rfl) (by decide) ?_
                                                      refine lv_aload_n hx hb dL_law_1398 rfl (lv_at hl 1 rfl) ?_
                                                      refine lv_aload_n hx hb dL_law_1399 rfl (lv_at hl 3 rfl) ?_
                                                      refine lw_done_w pC C hw hlz hE (my_runSW (As := [.ref (eA E 0), .ref (eA E 25)]) (rest := []) (ER_C pC C hE) (ER_W pC hw hlz hE) (mt_L_back l hT (ER_C pC C hE).2.2.2.2.2.2.2 (ER_FC E) _ h) K_m_L_170 K_s_L_back K_n_L K_w_L_back hy_L_back ⟨Nat.le_of_ble_eq_true rfl, Nat.le_of_ble_eq_true rfl⟩ hl.1 rfl (Nat.le_of_ble_eq_true rfl) dL_law_1400 ⟨by show _ ≤ (601024 : Nat); omega, by show _ ≤ (7293033 : Nat); omega⟩) (fun r64 w64 H locs h hw => ?_)
                                                      refine lv_istore (lv' := [(6, .int r64), (0, .ref b), (1, .ref (eA E 0)), (2, .ref (eA E 15)), (3, .ref (eA E 25)), (4, .ref (eA E 26)), (5, .int x5)]) hx hb dL_law_1403 hl (by decide) rfl (fun ls hl => ?_)
                                                      refine lv_aload_n hx hb dL_law_1405 rfl (lv_at hl 3 rfl) ?_
                                                      refine lw_done_i pM C hw hlz hE (my_runV (As := []) (rest := []) (ER_C pM C hE) (ER_W pM hw hlz hE) 15 9 (ER_in pM (by decide) (by decide)) rfl rfl (mt_X9_back l (ER_C pM C hE).2.2.2.2.2.2.2 (ER_FM E) _ h) K_m_L_173 K_i_X9_back K_v_X9_back K_n_X9 K_c_X9_back hy_X9_back ⟨Nat.le_of_ble_eq_true rfl, Nat.le_of_ble_eq_true rfl⟩ hl.1 rfl (Nat.le_of_ble_eq_true rfl) dL_law_1406 ⟨by show _ ≤ (601024 : Nat); omega, by show _ ≤ (7293033 : Nat); omega⟩) (fun r65 w65 H locs h hw => ?_)
                                                      refine lv_istore (lv' := [(7, .int r65), (6, .int r64), (0, .ref b), (1, .ref (eA E 0)), (2, .ref (eA E 15)), (3, .ref (eA E 25)), (4, .ref (eA E 26)), (5, .int x5)]) hx hb dL_law_1409 hl (by decide) rfl (fun ls hl => ?_)
                                                      refine lv_aload_n hx hb dL_law_1411 rfl (lv_at hl 4 rfl) ?_
                                                      refine lw_done_i pM C hw hlz hE (my_runV (As := []) (rest := []) (ER_C pM C hE) (ER_W pM hw hlz hE) 15 9 (ER_in pM (by decide) (by decide)) rfl rfl (mt_X9_thrown l (ER_C pM C hE).2.2.2.2.2.2.2 (ER_FM E) _ h) K_m_L_89 K_i_X9_thrown K_v_X9_thrown K_n_X9 K_c_X9_thrown hy_X9_thrown ⟨Nat.le_of_ble_eq_true rfl, Nat.le_of_ble_eq_true rfl⟩ hl.1 rfl (Nat.le_of_ble_eq_true rfl) dL_law_1412 ⟨by show _ ≤ (601024 : Nat); omega, by show _ ≤ (7293033 : Nat); omega⟩) (fun r66 w66 H locs h hw => ?_)
                                                      refine lv_iload hx hb dL_law_1415 (lv_at hl 1 rfl) ?_
                                                      refine lv_icmp_eq (tgt := 1422) hx hb dL_law_1417 (by decide) (fun c83 => ?_) (fun c83 => ?_)
                                                      · have h := h.1 c83
                                                        refine lv_iload hx hb dL_law_1422 (lv_at hl 1 rfl) ?_
                                                        refine lv_if_ne (tgt := 1439) hx hb dL_law_1424 (by decide) (fun c84 => ?_) (fun c84 => ?_)
                                                        · have h := h.2 c84
                                                          refine lv_goto (tgt := 1605) hx hb dL_law_1439 (by decide) ?_
                                                          obtain ⟨y41, ey41⟩ : ∃ y : Int32, y = x5 + 6 := ⟨_, rfl⟩
                                                          have h := h y41 ey41
                                                          refine lv_iinc (v := y41) (lv' := [(5, .int y41), (7, .int r65), (6, .int r64), (0, .ref b), (1, .ref (eA E 0)), (2, .ref (eA E 15)), (3, .ref (eA E 25)), (4, .ref (eA E 26))]) hx hb dL_law_1605 hl (k := 7) rfl (by rw [ey41]; first | rfl | decide) (by decide) rfl (fun ls hl => ?_)
                                                          refine lv_goto (tgt := 28) hx hb dL_law_1608 (by decide) ?_
                                                          exact h (t + 1) (by rw [ey41, ex5]; exact law_nI t) (by omega) _ _ (by omega) (by omega) _ _ hw _ (lv_sub hl [3, 4, 5, 6, 7, 0] rfl)
                                                        · have h := h.1 c84
                                                          refine lv_aload_n hx hb dL_law_1427 rfl (lv_at hl 5 rfl) ?_
                                                          refine lv_iconst (v := 0) hx hb dL_law_1428 (by decide) ?_
                                                          refine r_lald C hw 25 1 (hF 25 (by decide)) rfl (vp_lit (by decide)) dL_law_1429 ?_
                                                          refine lv_iload hx hb dL_law_1430 (lv_at hl 0 rfl) ?_
                                                          refine lv_i2l hx hb dL_law_1432 rfl ?_
                                                          refine W.lcmp hx hb dL_law_1433 ?_
                                                          refine lv_if_eq (tgt := 1439) hx hb dL_law_1434 (by decide) (fun c85 => ?_) (fun c85 => ?_)
                                                          · have h := h.1 c85
                                                            refine lv_goto (tgt := 1605) hx hb dL_law_1439 (by decide) ?_
                                                            obtain ⟨y42, ey42⟩ : ∃ y : Int32, y = x5 + 6 := ⟨_, rfl⟩
                                                            have h := h y42 ey42
                                                            refine lv_iinc (v := y42) (lv' := [(5, .int y42), (7, .int r65), (6, .int r64), (0, .ref b), (1, .ref (eA E 0)), (2, .ref (eA E 15)), (3, .ref (eA E 25)), (4, .ref (eA E 26))]) hx hb dL_law_1605 hl (k := 7) rfl (by rw [ey42]; first | rfl | decide) (by decide) rfl (fun ls hl => ?_)
                                                            refine lv_goto (tgt := 28) hx hb dL_law_1608 (by decide) ?_
                                                            exact h (t + 1) (by rw [ey42, ex5]; exact law_nI t) (by omega) _ _ (by omega) (by omega) _ _ hw _ (lv_sub hl [3, 4, 5, 6, 7, 0] rfl)
                                                          · have h := h.2 c85
                                                            refine lv_iconst (v := 0) hx hb dL_law_1437 (by decide) ?_
                                                            exact h.elim
                                                      · have h := h.2 c83
                                                        refine lv_iconst (v := 0) hx hb dL_law_1420 (by decide) ?_
                                                        exact h.elim
                                                    · have h := h.2 c82
                                                      by_cases c86 : ((xs x5.toNatClampNeg) &&& 31) = nI 25
                                                      · have h := h.1 c86
                                                        obtain ⟨s1, s2, s3⟩ := sw_in (hi := 29) c86 (by decide) (by decide)
                                                        refine lv_tableIn (tgt := 1442) hx hb dL_law_45 s1 s2 (by rw [s3]; rfl) (by decide) ?_
                                                        refine lv_aload_n hx hb dL_law_1442 rfl (lv_at hl 1 rfl) ?_
                                                        refine lv_aload_n hx hb dL_law_1443 rfl (lv_at hl 3 rfl) ?_
                                                        refine lw_done_w pC C hw hlz hE (my_runSW (As := [.ref (eA E 0), .ref (eA E 25)]) (rest := []) (ER_C pC C hE) (ER_W pC hw hlz hE) (mt_L_pass l hT (ER_C pC C hE).2.2.2.2.2.2.2 (ER_FC E) _ h) K_m_L_174 K_s_L_pass K_n_L K_w_L_pass hy_L_pass ⟨Nat.le_of_ble_eq_true rfl, Nat.le_of_ble_eq_true rfl⟩ hl.1 rfl (Nat.le_of_ble_eq_true rfl) dL_law_1444 ⟨by show _ ≤ (601024 : Nat); omega, by show _ ≤ (7293033 : Nat); omega⟩) (fun r67 w67 H locs h hw => ?_)
                                                        refine lv_istore (lv' := [(6, .int r67), (0, .ref b), (1, .ref (eA E 0)), (2, .ref (eA E 15)), (3, .ref (eA E 25)), (4, .ref (eA E 26)), (5, .int x5)]) hx hb dL_law_1447 hl (by decide) rfl (fun ls hl => ?_)
                                                        refine lv_aload_n hx hb dL_law_1449 rfl (lv_at hl 3 rfl) ?_
                                                        refine lw_done_i pM C hw hlz hE (my_runV (As := []) (rest := []) (ER_C pM C hE) (ER_W pM hw hlz hE) 15 9 (ER_in pM (by decide) (by decide)) rfl rfl (mt_X9_pass l (ER_C pM C hE).2.2.2.2.2.2.2 (ER_FM E) _ h) K_m_L_176 K_i_X9_pass K_v_X9_pass K_n_X9 K_c_X9_pass hy_X9_pass ⟨Nat.le_of_ble_eq_true rfl, Nat.le_of_ble_eq_true rfl⟩ hl.1 rfl (Nat.le_of_ble_eq_true rfl) dL_law_1450 ⟨by show _ ≤ (601024 : Nat); omega, by show _ ≤ (7293033 : Nat); omega⟩) (fun r68 w68 H locs h hw => ?_)
                                                        refine lv_istore (lv' := [(7, .int r68), (6, .int r67), (0, .ref b), (1, .ref (eA E 0)), (2, .ref (eA E 15)), (3, .ref (eA E 25)), (4, .ref (eA E 26)), (5, .int x5)]) hx hb dL_law_1453 hl (by decide) rfl (fun ls hl => ?_)
                                                        refine lv_aload_n hx hb dL_law_1455 rfl (lv_at hl 4 rfl) ?_
                                                        refine lw_done_i pM C hw hlz hE (my_runV (As := []) (rest := []) (ER_C pM C hE) (ER_W pM hw hlz hE) 15 9 (ER_in pM (by decide) (by decide)) rfl rfl (mt_X9_thrown l (ER_C pM C hE).2.2.2.2.2.2.2 (ER_FM E) _ h) K_m_L_89 K_i_X9_thrown K_v_X9_thrown K_n_X9 K_c_X9_thrown hy_X9_thrown ⟨Nat.le_of_ble_eq_true rfl, Nat.le_of_ble_eq_true rfl⟩ hl.1 rfl (Nat.le_of_ble_eq_true rfl) dL_law_1456 ⟨by show _ ≤ (601024 : Nat); omega, by show _ ≤ (7293033 : Nat); omega⟩) (fun r69 w69 H locs h hw => ?_)
                                                        refine lv_iload hx hb dL_law_1459 (lv_at hl 1 rfl) ?_
                                                        refine lv_icmp_eq (tgt := 1466) hx hb dL_law_1461 (by decide) (fun c87 => ?_) (fun c87 => ?_)
                                                        · have h := h.1 c87
                                                          refine lv_iload hx hb dL_law_1466 (lv_at hl 1 rfl) ?_
                                                          refine lv_if_ne (tgt := 1483) hx hb dL_law_1468 (by decide) (fun c88 => ?_) (fun c88 => ?_)
                                                          · have h := h.2 c88
                                                            refine lv_goto (tgt := 1605) hx hb dL_law_1483 (by decide) ?_
                                                            obtain ⟨y43, ey43⟩ : ∃ y : Int32, y = x5 + 6 := ⟨_, rfl⟩
                                                            have h := h y43 ey43
                                                            refine lv_iinc (v := y43) (lv' := [(5, .int y43), (7, .int r68), (6, .int r67), (0, .ref b), (1, .ref (eA E 0)), (2, .ref (eA E 15)), (3, .ref (eA E 25)), (4, .ref (eA E 26))]) hx hb dL_law_1605 hl (k := 7) rfl (by rw [ey43]; first | rfl | decide) (by decide) rfl (fun ls hl => ?_)
                                                            refine lv_goto (tgt := 28) hx hb dL_law_1608 (by decide) ?_
                                                            exact h (t + 1) (by rw [ey43, ex5]; exact law_nI t) (by omega) _ _ (by omega) (by omega) _ _ hw _ (lv_sub hl [3, 4, 5, 6, 7, 0] rfl)
                                                          · have h := h.1 c88
                                                            refine lv_aload_n hx hb dL_law_1471 rfl (lv_at hl 5 rfl) ?_
                                                            refine lv_iconst (v := 0) hx hb dL_law_1472 (by decide) ?_
                                                            refine r_lald C hw 25 1 (hF 25 (by decide)) rfl (vp_lit (by decide)) dL_law_1473 ?_
                                                            refine lv_iload hx hb dL_law_1474 (lv_at hl 0 rfl) ?_
                                                            refine lv_i2l hx hb dL_law_1476 rfl ?_
                                                            refine W.lcmp hx hb dL_law_1477 ?_
                                                            refine lv_if_eq (tgt := 1483) hx hb dL_law_1478 (by decide) (fun c89 => ?_) (fun c89 => ?_)
                                                            · have h := h.1 c89
                                                              refine lv_goto (tgt := 1605) hx hb dL_law_1483 (by decide) ?_
                                                              obtain ⟨y44, ey44⟩ : ∃ y : Int32, y = x5 + 6 := ⟨_, rfl⟩
                                                              have h := h y44 ey44
                                                              refine lv_iinc (v := y44) (lv' := [(5, .int y44), (7, .int r68), (6, .int r67), (0, .ref b), (1, .ref (eA E 0)), (2, .ref (eA E 15)), (3, .ref (eA E 25)), (4, .ref (eA E 26))]) hx hb dL_law_1605 hl (k := 7) rfl (by rw [ey44]; first | rfl | decide) (by decide) rfl (fun ls hl => ?_)
                                                              refine lv_goto (tgt := 28) hx hb dL_law_1608 (by decide) ?_
                                                              exact h (t + 1) (by rw [ey44, ex5]; exact law_nI t) (by omega) _ _ (by omega) (by omega) _ _ hw _ (lv_sub hl [3, 4, 5, 6, 7, 0] rfl)
                                                            · have h := h.2 c89
                                                              refine lv_iconst (v := 0) hx hb dL_law_1481 (by decide) ?_
                                                              exact h.elim
                                                        · have h := h.2 c87
                                                          refine lv_iconst (v := 0) hx hb dL_law_1464 (by decide) ?_
                                                          exact h.elim
                                                      · have h := h.2 c86
                                                        by_cases c90 : ((xs x5.toNatClampNeg) &&& 31) = nI 26
                                                        · have h := h.1 c90
                                                          obtain ⟨s1, s2, s3⟩ := sw_in (hi := 29) c90 (by decide) (by decide)
                                                          refine lv_tableIn (tgt := 1486) hx hb dL_law_45 s1 s2 (by rw [s3]; rfl) (by decide) ?_
                                                          refine lv_aload_n hx hb dL_law_1486 rfl (lv_at hl 1 rfl) ?_
                                                          refine lv_aload_n hx hb dL_law_1487 rfl (lv_at hl 0 rfl) ?_
                                                          refine lv_iload hx hb dL_law_1488 (lv_at hl 5 rfl) ?_
                                                          refine lv_iconst (v := 1) hx hb dL_law_1490 (by decide) ?_
                                                          refine lv_iadd hx hb dL_law_1491 ?_
                                                          obtain ⟨hi91, h⟩ := h
                                                          refine va_sld hx hb hX hbl hbA hw.2 hi91 dL_law_1492 ?_
                                                          refine lv_aload_n hx hb dL_law_1493 rfl (lv_at hl 3 rfl) ?_
                                                          refine lw_done_w pC C hw hlz hE (my_runSW (As := [.ref (eA E 0), .int (xs (x5 + 1).toNatClampNeg), .ref (eA E 25)]) (rest := []) (ER_C pC C hE) (ER_W pC hw hlz hE) (mt_L_play l hT (ER_C pC C hE).2.2.2.2.2.2.2 (ER_FC E) _ _ h) K_m_L_177 K_s_L_play K_n_L K_w_L_play hy_L_play ⟨Nat.le_of_ble_eq_true rfl, Nat.le_of_ble_eq_true rfl⟩ hl.1 rfl (Nat.le_of_ble_eq_true rfl) dL_law_1494 ⟨by show _ ≤ (601024 : Nat); omega, by show _ ≤ (7293033 : Nat); omega⟩) (fun r70 w70 H locs h hw => ?_)
                                                          refine lv_istore (lv' := [(6, .int r70), (0, .ref b), (1, .ref (eA E 0)), (2, .ref (eA E 15)), (3, .ref (eA E 25)), (4, .ref (eA E 26)), (5, .int x5)]) hx hb dL_law_1497 hl (by decide) rfl (fun ls hl => ?_)
                                                          refine lv_aload_n hx hb dL_law_1499 rfl (lv_at hl 3 rfl) ?_
                                                          refine lv_aload_n hx hb dL_law_1500 rfl (lv_at hl 1 rfl) ?_
                                                          refine lv_iload hx hb dL_law_1501 (lv_at hl 6 rfl) ?_
                                                          refine lv_iconst (v := 1) hx hb dL_law_1503 (by decide) ?_
                                                          refine lv_iadd hx hb dL_law_1504 ?_
                                                          obtain ⟨hi92, h⟩ := h
                                                          refine va_sld hx hb hX hbl hbA hw.2 hi92 dL_law_1505 ?_
                                                          refine lw_done_i pM C hw hlz hE (my_runV (As := [.int (xs (x5 + 1).toNatClampNeg)]) (rest := []) (ER_C pM C hE) (ER_W pM hw hlz hE) 15 9 (ER_in pM (by decide) (by decide)) rfl rfl (mt_X9_play l (ER_C pM C hE).2.2.2.2.2.2.2 (ER_FM E) _ _ h) K_m_L_179 K_i_X9_play K_v_X9_play K_n_X9 K_c_X9_play hy_X9_play ⟨Nat.le_of_ble_eq_true rfl, Nat.le_of_ble_eq_true rfl⟩ hl.1 rfl (Nat.le_of_ble_eq_true rfl) dL_law_1506 ⟨by show _ ≤ (601024 : Nat); omega, by show _ ≤ (7293033 : Nat); omega⟩) (fun r71 w71 H locs h hw => ?_)
                                                          refine lv_istore (lv' := [(7, .int r71), (6, .int r70), (0, .ref b), (1, .ref (eA E 0)), (2, .ref (eA E 15)), (3, .ref (eA E 25)), (4, .ref (eA E 26)), (5, .int x5)]) hx hb dL_law_1509 hl (by decide) rfl (fun ls hl => ?_)
                                                          refine lv_aload_n hx hb dL_law_1511 rfl (lv_at hl 4 rfl) ?_
                                                          refine lw_done_i pM C hw hlz hE (my_runV (As := []) (rest := []) (ER_C pM C hE) (ER_W pM hw hlz hE) 15 9 (ER_in pM (by decide) (by decide)) rfl rfl (mt_X9_thrown l (ER_C pM C hE).2.2.2.2.2.2.2 (ER_FM E) _ h) K_m_L_89 K_i_X9_thrown K_v_X9_thrown K_n_X9 K_c_X9_thrown hy_X9_thrown ⟨Nat.le_of_ble_eq_true rfl, Nat.le_of_ble_eq_true rfl⟩ hl.1 rfl (Nat.le_of_ble_eq_true rfl) dL_law_1512 ⟨by show _ ≤ (601024 : Nat); omega, by show _ ≤ (7293033 : Nat); omega⟩) (fun r72 w72 H locs h hw => ?_)
                                                          refine lv_iload hx hb dL_law_1515 (lv_at hl 1 rfl) ?_
                                                          refine lv_icmp_eq (tgt := 1522) hx hb dL_law_1517 (by decide) (fun c91 => ?_) (fun c91 => ?_)
                                                          · have h := h.1 c91
                                                            refine lv_iload hx hb dL_law_1522 (lv_at hl 1 rfl) ?_
                                                            refine lv_if_ne (tgt := 1539) hx hb dL_law_1524 (by decide) (fun c92 => ?_) (fun c92 => ?_)
                                                            · have h := h.2 c92
                                                              refine lv_goto (tgt := 1605) hx hb dL_law_1539 (by decide) ?_
                                                              obtain ⟨y45, ey45⟩ : ∃ y : Int32, y = x5 + 6 := ⟨_, rfl⟩
                                                              have h := h y45 ey45
                                                              refine lv_iinc (v := y45) (lv' := [(5, .int y45), (7, .int r71), (6, .int r70), (0, .ref b), (1, .ref (eA E 0)), (2, .ref (eA E 15)), (3, .ref (eA E 25)), (4, .ref (eA E 26))]) hx hb dL_law_1605 hl (k := 7) rfl (by rw [ey45]; first | rfl | decide) (by decide) rfl (fun ls hl => ?_)
                                                              refine lv_goto (tgt := 28) hx hb dL_law_1608 (by decide) ?_
                                                              exact h (t + 1) (by rw [ey45, ex5]; exact law_nI t) (by omega) _ _ (by omega) (by omega) _ _ hw _ (lv_sub hl [3, 4, 5, 6, 7, 0] rfl)
                                                            · have h := h.1 c92
                                                              refine lv_aload_n hx hb dL_law_1527 rfl (lv_at hl 5 rfl) ?_
                                                              refine lv_iconst (v := 0) hx hb dL_law_1528 (by decide) ?_
                                                              refine r_lald C hw 25 1 (hF 25 (by decide)) rfl (vp_lit (by decide)) dL_law_1529 ?_
                                                              refine lv_iload hx hb dL_law_1530 (lv_at hl 0 rfl) ?_
                                                              refine lv_i2l hx hb dL_law_1532 rfl ?_
                                                              refine W.lcmp hx hb dL_law_1533 ?_
                                                              refine lv_if_eq (tgt := 1539) hx hb dL_law_1534 (by decide) (fun c93 => ?_) (fun c93 => ?_)
                                                              · have h := h.1 c93
                                                                refine lv_goto (tgt := 1605) hx hb dL_law_1539 (by decide) ?_
                                                                obtain ⟨y46, ey46⟩ : ∃ y : Int32, y = x5 + 6 := ⟨_, rfl⟩
                                                                have h := h y46 ey46
                                                                refine lv_iinc (v := y46) (lv' := [(5, .int y46), (7, .int r71), (6, .int r70), (0, .ref b), (1, .ref (eA E 0)), (2, .ref (eA E 15)), (3, .ref (eA E 25)), (4, .ref (eA E 26))]) hx hb dL_law_1605 hl (k := 7) rfl (by rw [ey46]; first | rfl | decide) (by decide) rfl (fun ls hl => ?_)
                                                                refine lv_goto (tgt := 28) hx hb dL_law_1608 (by decide) ?_
                                                                exact h (t + 1) (by rw [ey46, ex5]; exact law_nI t) (by omega) _ _ (by omega) (by omega) _ _ hw _ (lv_sub hl [3, 4, 5, 6, 7, 0] rfl)
                                                              · have h := h.2 c93
                                                                refine lv_iconst (v := 0) hx hb dL_law_1537 (by decide) ?_
                                                                exact h.elim
                                                          · have h := h.2 c91
                                                            refine lv_iconst (v := 0) hx hb dL_law_1520 (by decide) ?_
                                                            exact h.elim
                                                        · have h := h.2 c90
                                                          by_cases c94 : ((xs x5.toNatClampNeg) &&& 31) = nI 27
                                                          · have h := h.1 c94
                                                            obtain ⟨s1, s2, s3⟩ := sw_in (hi := 29) c94 (by decide) (by decide)
                                                            refine lv_tableIn (tgt := 1542) hx hb dL_law_45 s1 s2 (by rw [s3]; rfl) (by decide) ?_
                                                            refine lv_aload_n hx hb dL_law_1542 rfl (lv_at hl 1 rfl) ?_
                                                            refine lw_done_i pC C hw hlz hE (my_runV (As := []) (rest := []) (ER_C pC C hE) (ER_W pC hw hlz hE) 0 8 (ER_in pC (by decide) (by decide)) rfl rfl (mt_X8_undo l (ER_C pC C hE).2.2.2.2.2.2.2 (ER_FC E) _ h) K_m_L_180 K_i_X8_undo K_v_X8_undo K_n_X8 K_c_X8_undo hy_X8_undo ⟨Nat.le_of_ble_eq_true rfl, Nat.le_of_ble_eq_true rfl⟩ hl.1 rfl (Nat.le_of_ble_eq_true rfl) dL_law_1543 ⟨by show _ ≤ (601024 : Nat); omega, by show _ ≤ (7293033 : Nat); omega⟩) (fun r73 w73 H locs h hw => ?_)
                                                            refine lv_aload_n hx hb dL_law_1546 rfl (lv_at hl 2 rfl) ?_
                                                            refine lw_done_i pM C hw hlz hE (my_runV (As := []) (rest := [.int r73]) (ER_C pM C hE) (ER_W pM hw hlz hE) 15 9 (ER_in pM (by decide) (by decide)) rfl rfl (mt_X9_undo l (ER_C pM C hE).2.2.2.2.2.2.2 (ER_FM E) _ h) K_m_L_183 K_i_X9_undo K_v_X9_undo K_n_X9 K_c_X9_undo hy_X9_undo ⟨Nat.le_of_ble_eq_true rfl, Nat.le_of_ble_eq_true rfl⟩ hl.1 rfl (Nat.le_of_ble_eq_true rfl) dL_law_1547 ⟨by show _ ≤ (601024 : Nat); omega, by show _ ≤ (7293033 : Nat); omega⟩) (fun r74 w74 H locs h hw => ?_)
                                                            refine lv_icmp_eq (tgt := 1605) hx hb dL_law_1550 (by decide) (fun c95 => ?_) (fun c95 => ?_)
                                                            · have h := h.1 c95
                                                              obtain ⟨y47, ey47⟩ : ∃ y : Int32, y = x5 + 6 := ⟨_, rfl⟩
                                                              have h := h y47 ey47
                                                              refine lv_iinc (v := y47) (lv' := [(5, .int y47), (0, .ref b), (1, .ref (eA E 0)), (2, .ref (eA E 15)), (3, .ref (eA E 25)), (4, .ref (eA E 26))]) hx hb dL_law_1605 hl (k := 5) rfl (by rw [ey47]; first | rfl | decide) (by decide) rfl (fun ls hl => ?_)
                                                              refine lv_goto (tgt := 28) hx hb dL_law_1608 (by decide) ?_
                                                              exact h (t + 1) (by rw [ey47, ex5]; exact law_nI t) (by omega) _ _ (by omega) (by omega) _ _ hw _ (lv_sub hl [1, 2, 3, 4, 5, 0] rfl)
                                                            · have h := h.2 c95
                                                              refine lv_iconst (v := 0) hx hb dL_law_1553 (by decide) ?_
                                                              exact h.elim
                                                          · have h := h.2 c94
                                                            by_cases c96 : ((xs x5.toNatClampNeg) &&& 31) = nI 28
                                                            · have h := h.1 c96
                                                              obtain ⟨s1, s2, s3⟩ := sw_in (hi := 29) c96 (by decide) (by decide)
                                                              refine lv_tableIn (tgt := 1555) hx hb dL_law_45 s1 s2 (by rw [s3]; rfl) (by decide) ?_
                                                              refine lv_aload_n hx hb dL_law_1555 rfl (lv_at hl 1 rfl) ?_
                                                              refine lv_aload_n hx hb dL_law_1556 rfl (lv_at hl 0 rfl) ?_
                                                              refine lv_iload hx hb dL_law_1557 (lv_at hl 5 rfl) ?_
                                                              refine lv_iconst (v := 1) hx hb dL_law_1559 (by decide) ?_
                                                              refine lv_iadd hx hb dL_law_1560 ?_
                                                              obtain ⟨hi94, h⟩ := h
                                                              refine va_sld hx hb hX hbl hbA hw.2 hi94 dL_law_1561 ?_
                                                              refine lw_done_i pC C hw hlz hE (my_runV (As := [.int (xs (x5 + 1).toNatClampNeg)]) (rest := []) (ER_C pC C hE) (ER_W pC hw hlz hE) 0 8 (ER_in pC (by decide) (by decide)) rfl rfl (mt_X8_saveSnapshot l (ER_C pC C hE).2.2.2.2.2.2.2 (ER_FC E) _ _ h) K_m_L_184 K_i_X8_saveSnapshot K_v_X8_saveSnapshot K_n_X8 K_c_X8_saveSnapshot hy_X8_saveSnapshot ⟨Nat.le_of_ble_eq_true rfl, Nat.le_of_ble_eq_true rfl⟩ hl.1 rfl (Nat.le_of_ble_eq_true rfl) dL_law_1562 ⟨by show _ ≤ (601024 : Nat); omega, by show _ ≤ (7293033 : Nat); omega⟩) (fun r75 w75 H locs h hw => ?_)
                                                              refine lv_aload_n hx hb dL_law_1565 rfl (lv_at hl 2 rfl) ?_
                                                              refine lv_aload_n hx hb dL_law_1566 rfl (lv_at hl 0 rfl) ?_
                                                              refine lv_iload hx hb dL_law_1567 (lv_at hl 5 rfl) ?_
                                                              refine lv_iconst (v := 1) hx hb dL_law_1569 (by decide) ?_
                                                              refine lv_iadd hx hb dL_law_1570 ?_
                                                              obtain ⟨hi95, h⟩ := h
                                                              refine va_sld hx hb hX hbl hbA hw.2 hi95 dL_law_1571 ?_
                                                              refine lw_done_i pM C hw hlz hE (my_runV (As := [.int (xs (x5 + 1).toNatClampNeg)]) (rest := [.int r75]) (ER_C pM C hE) (ER_W pM hw hlz hE) 15 9 (ER_in pM (by decide) (by decide)) rfl rfl (mt_X9_saveSnapshot l (ER_C pM C hE).2.2.2.2.2.2.2 (ER_FM E) _ _ h) K_m_L_188 K_i_X9_saveSnapshot K_v_X9_saveSnapshot K_n_X9 K_c_X9_saveSnapshot hy_X9_saveSnapshot ⟨Nat.le_of_ble_eq_true rfl, Nat.le_of_ble_eq_true rfl⟩ hl.1 rfl (Nat.le_of_ble_eq_true rfl) dL_law_1572 ⟨by show _ ≤ (601024 : Nat); omega, by show _ ≤ (7293033 : Nat); omega⟩) (fun r76 w76 H locs h hw => ?_)
                                                              refine lv_icmp_eq (tgt := 1605) hx hb dL_law_1575 (by decide) (fun c97 => ?_) (fun c97 => ?_)
                                                              · have h := h.1 c97
                                                                obtain ⟨y48, ey48⟩ : ∃ y : Int32, y = x5 + 6 := ⟨_, rfl⟩
                                                                have h := h y48 ey48
                                                                refine lv_iinc (v := y48) (lv' := [(5, .int y48), (0, .ref b), (1, .ref (eA E 0)), (2, .ref (eA E 15)), (3, .ref (eA E 25)), (4, .ref (eA E 26))]) hx hb dL_law_1605 hl (k := 5) rfl (by rw [ey48]; first | rfl | decide) (by decide) rfl (fun ls hl => ?_)
                                                                refine lv_goto (tgt := 28) hx hb dL_law_1608 (by decide) ?_
                                                                exact h (t + 1) (by rw [ey48, ex5]; exact law_nI t) (by omega) _ _ (by omega) (by omega) _ _ hw _ (lv_sub hl [1, 2, 3, 4, 5, 0] rfl)
                                                              · have h := h.2 c97
                                                                refine lv_iconst (v := 0) hx hb dL_law_1578 (by decide) ?_
                                                                exact h.elim
                                                            · have h := h.2 c96
                                                              by_cases c98 : ((xs x5.toNatClampNeg) &&& 31) = nI 29
                                                              · have h := h.1 c98
                                                                obtain ⟨s1, s2, s3⟩ := sw_in (hi := 29) c98 (by decide) (by decide)
                                                                refine lv_tableIn (tgt := 1580) hx hb dL_law_45 s1 s2 (by rw [s3]; rfl) (by decide) ?_
                                                                refine lv_aload_n hx hb dL_law_1580 rfl (lv_at hl 1 rfl) ?_
                                                                refine lv_aload_n hx hb dL_law_1581 rfl (lv_at hl 0 rfl) ?_
                                                                refine lv_iload hx hb dL_law_1582 (lv_at hl 5 rfl) ?_
                                                                refine lv_iconst (v := 1) hx hb dL_law_1584 (by decide) ?_
                                                                refine lv_iadd hx hb dL_law_1585 ?_
                                                                obtain ⟨hi96, h⟩ := h
                                                                refine va_sld hx hb hX hbl hbA hw.2 hi96 dL_law_1586 ?_
                                                                refine lw_done_i pC C hw hlz hE (my_runV (As := [.int (xs (x5 + 1).toNatClampNeg)]) (rest := []) (ER_C pC C hE) (ER_W pC hw hlz hE) 0 8 (ER_in pC (by decide) (by decide)) rfl rfl (mt_X8_restoreSnapshot l (ER_C pC C hE).2.2.2.2.2.2.2 (ER_FC E) _ _ h) K_m_L_189 K_i_X8_restoreSnapshot K_v_X8_restoreSnapshot K_n_X8 K_c_X8_restoreSnapshot hy_X8_restoreSnapshot ⟨Nat.le_of_ble_eq_true rfl, Nat.le_of_ble_eq_true rfl⟩ hl.1 rfl (Nat.le_of_ble_eq_true rfl) dL_law_1587 ⟨by show _ ≤ (601024 : Nat); omega, by show _ ≤ (7293033 : Nat); omega⟩) (fun r77 w77 H locs h hw => ?_)
                                                                refine lv_aload_n hx hb dL_law_1590 rfl (lv_at hl 2 rfl) ?_
                                                                refine lv_aload_n hx hb dL_law_1591 rfl (lv_at hl 0 rfl) ?_
                                                                refine lv_iload hx hb dL_law_1592 (lv_at hl 5 rfl) ?_
                                                                refine lv_iconst (v := 1) hx hb dL_law_1594 (by decide) ?_
                                                                refine lv_iadd hx hb dL_law_1595 ?_
                                                                obtain ⟨hi97, h⟩ := h
                                                                refine va_sld hx hb hX hbl hbA hw.2 hi97 dL_law_1596 ?_
                                                                refine lw_done_i pM C hw hlz hE (my_runV (As := [.int (xs (x5 + 1).toNatClampNeg)]) (rest := [.int r77]) (ER_C pM C hE) (ER_W pM hw hlz hE) 15 9 (ER_in pM (by decide) (by decide)) rfl rfl (mt_X9_restoreSnapshot l (ER_C pM C hE).2.2.2.2.2.2.2 (ER_FM E) _ _ h) K_m_L_192 K_i_X9_restoreSnapshot K_v_X9_restoreSnapshot K_n_X9 K_c_X9_restoreSnapshot hy_X9_restoreSnapshot ⟨Nat.le_of_ble_eq_true rfl, Nat.le_of_ble_eq_true rfl⟩ hl.1 rfl (Nat.le_of_ble_eq_true rfl) dL_law_1597 ⟨by show _ ≤ (601024 : Nat); omega, by show _ ≤ (7293033 : Nat); omega⟩) (fun r78 w78 H locs h hw => ?_)
                                                                refine lv_icmp_eq (tgt := 1605) hx hb dL_law_1600 (by decide) (fun c99 => ?_) (fun c99 => ?_)
                                                                · have h := h.1 c99
                                                                  obtain ⟨y49, ey49⟩ : ∃ y : Int32, y = x5 + 6 := ⟨_, rfl⟩
                                                                  have h := h y49 ey49
                                                                  refine lv_iinc (v := y49) (lv' := [(5, .int y49), (0, .ref b), (1, .ref (eA E 0)), (2, .ref (eA E 15)), (3, .ref (eA E 25)), (4, .ref (eA E 26))]) hx hb dL_law_1605 hl (k := 5) rfl (by rw [ey49]; first | rfl | decide) (by decide) rfl (fun ls hl => ?_)
                                                                  refine lv_goto (tgt := 28) hx hb dL_law_1608 (by decide) ?_
                                                                  exact h (t + 1) (by rw [ey49, ex5]; exact law_nI t) (by omega) _ _ (by omega) (by omega) _ _ hw _ (lv_sub hl [1, 2, 3, 4, 5, 0] rfl)
                                                                · have h := h.2 c99
                                                                  refine lv_iconst (v := 0) hx hb dL_law_1603 (by decide) ?_
                                                                  exact h.elim
                                                              · have h := h.2 c98
                                                                refine lv_tableOut (tgt := 1605) hx hb dL_law_45 (sw_out (n := 30) (by decide) (fun j hj => by rcases (show j = 0 ∨ j = 1 ∨ j = 2 ∨ j = 3 ∨ j = 4 ∨ j = 5 ∨ j = 6 ∨ j = 7 ∨ j = 8 ∨ j = 9 ∨ j = 10 ∨ j = 11 ∨ j = 12 ∨ j = 13 ∨ j = 14 ∨ j = 15 ∨ j = 16 ∨ j = 17 ∨ j = 18 ∨ j = 19 ∨ j = 20 ∨ j = 21 ∨ j = 22 ∨ j = 23 ∨ j = 24 ∨ j = 25 ∨ j = 26 ∨ j = 27 ∨ j = 28 ∨ j = 29 by omega) with rfl | rfl | rfl | rfl | rfl | rfl | rfl | rfl | rfl | rfl | rfl | rfl | rfl | rfl | rfl | rfl | rfl | rfl | rfl | rfl | rfl | rfl | rfl | rfl | rfl | rfl | rfl | rfl | rfl | rfl <;> assumption) (by decide)) (by decide) ?_
                                                                obtain ⟨y50, ey50⟩ : ∃ y : Int32, y = x5 + 6 := ⟨_, rfl⟩
                                                                have h := h y50 ey50
                                                                refine lv_iinc (v := y50) (lv' := [(5, .int y50), (0, .ref b), (1, .ref (eA E 0)), (2, .ref (eA E 15)), (3, .ref (eA E 25)), (4, .ref (eA E 26))]) hx hb dL_law_1605 hl (k := 5) rfl (by rw [ey50]; first | rfl | decide) (by decide) rfl (fun ls hl => ?_)
                                                                refine lv_goto (tgt := 28) hx hb dL_law_1608 (by decide) ?_
                                                                exact h (t + 1) (by rw [ey50, ex5]; exact law_nI t) (by omega) _ _ (by omega) (by omega) _ _ hw _ (lv_sub hl [1, 2, 3, 4, 5, 0] rfl)

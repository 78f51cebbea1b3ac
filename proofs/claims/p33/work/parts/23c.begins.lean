/-! the law's text is made -/
theorem mt_L_pickB (l : Launch) {E : En} (hI : Inj E) {N : Nat} {X : Nat → Int32} (hx : eN E = N ∧ eX E = X) (hE : N < 2 ^ 30) (w : Wd) (a b : Int32) {Post : Int32 → Wd → Prop} (h : wp_L_pick N X w a b Post) : MI l E yL_pick cL_pick 3 (some .int) 1 21 [.ref (eT E 300), .int a, .int b] w Post := by
  obtain ⟨rfl, rfl⟩ := hx
  exact mt_L_pick l hI hE w a b h
def pS : Nat → Bool := fun o => decide (o = 15) || decide (o = 16)
def eSB (E : En) (u : Nat → Nat) : En := (E.1, E.2.1, va_up (va_up E.2.2.1 15 (u 15)) 16 (u 16), E.2.2.2.1, 15 :: 16 :: eL E, E.2.2.2.2.2.1, E.2.2.2.2.2.2)
section LBS
variable {E E1 : En} {ex : List Nat} {p : Program} {l : Launch} {e : Env} {R : Room} {s : State} {m : MethodId} {args : Array Value} {below : List Frame} {meth : Method} {c : Code} {H : Heap} {locs : List Loc} {cells slots : Nat} {Q : State → Prop} {cc : ByteArray} {nL pc : Nat} {own : String} {ls : Array Slot} {rest st0 : List Value} {w : Wd}
theorem Bg.mxL {w1 : Wd} {x : Int64} (hB : Bg E E1 s.heap.size ex) (hex : ∀ o, o ∈ ex → o = 20) (hw : Wo E1 s (mx pC w w1) H locs) : Wo E1 s (mx pC w (sL w1 25 0 x)) H locs := by
  refine ⟨?_, hw.2⟩
  rw [ws_off (E := E1) (w := mx pC w w1) (w' := mx pC w (sL w1 25 0 x)) (fun o ho => ?_)]
  · exact hw.1
  · have h25 : o ≠ 25 := by
      rcases hB.of o ho with h | h
      · have := ids_L_N o h
        omega
      · rcases List.mem_append.mp h with h | h
        · have := hex o h
          omega
        · simp at h
          omega
    have e : (sL w1 25 0 x).2.2.1 o = w1.2.2.1 o := va_up_ne _ _ h25
    unfold ce mx
    simp only [e]
    rfl
theorem eSB_A (E : En) (u : Nat → Nat) {o : Nat} (h : o ≠ 15) (h2 : o ≠ 16) : eA (eSB E u) o = eA E o := (va_up_ne _ _ h2).trans (va_up_ne _ _ h)
theorem bg_start {u : Nat → Nat} {w2 : Wd} (hL : eL E = ids_L) (hJ : ∀ q, ¬ eJ E q) (C : Cx E p s m args c cc nL own) (hP : va_P E.1 vwCl (wsE E w ++ (wsE (EW E ids_SB u) w2 ++ [])) H) (hD : va_D (AA E s.heap.size) (wsE E w ++ (wsE (EW E ids_SB u) w2 ++ []))) (hS : va_S (AA E s.heap.size) s.heap H locs) (_hp : post_SB w2) :
    Bg E (eSB E u) s.heap.size [] ∧ Cx (eSB E u) p s m args c cc nL own ∧ Wo (eSB E u) s (mx pS w w2) H locs := by
  rw [List.append_nil] at hP hD
  have hI := C.2.2.2.2.2.2.2
  have hlen : (wsE E w).length = (eL E).length := by simp [wsE]
  have l15 : (wsE E w ++ wsE (EW E ids_SB u) w2)[(wsE E w).length]? = some (u 15, ce (EW E ids_SB u) w2 15) := by
    rw [List.getElem?_append_right (Nat.le_refl _), Nat.sub_self]
    rfl
  have l16 : (wsE E w ++ wsE (EW E ids_SB u) w2)[(wsE E w).length + 1]? = some (u 16, ce (EW E ids_SB u) w2 16) := by
    rw [List.getElem?_append_right (by omega), show (wsE E w).length + 1 - (wsE E w).length = 1 by omega]
    rfl
  have hold : ∀ {k o : Nat}, (eL E)[k]? = some o → (wsE E w ++ wsE (EW E ids_SB u) w2)[k]? = some (eA E o, ce E w o) := by
    intro k o h
    have : k < (wsE E w).length := by rw [hlen]; exact (List.getElem?_eq_some_iff.mp h).1
    rw [List.getElem?_append_left this]
    exact ws_i h
  have hne15 : ∀ o, o ∈ eL E → eA E o ≠ u 15 := by
    intro o ho e
    obtain ⟨k, hk⟩ := List.getElem?_of_mem ho
    have h1 := hD.1 k (wsE E w).length _ _ (hold hk) l15 e
    have h2 := (List.getElem?_eq_some_iff.mp hk).1
    omega
  have hne16 : ∀ o, o ∈ eL E → eA E o ≠ u 16 := by
    intro o ho e
    obtain ⟨k, hk⟩ := List.getElem?_of_mem ho
    have h1 := hD.1 k ((wsE E w).length + 1) _ _ (hold hk) l16 e
    have h2 := (List.getElem?_eq_some_iff.mp hk).1
    omega
  have hne : u 15 ≠ u 16 := by
    intro e
    have h1 := hD.1 (wsE E w).length ((wsE E w).length + 1) _ _ l15 l16 e
    omega
  have z15 : s.heap.size ≤ u 15 := by
    rcases hD.2 _ _ l15 with ⟨o, ho, e⟩ | e | e
    · exact absurd e.symm (hne15 o ho)
    · exact (hJ _ e).elim
    · exact e
  have z16 : s.heap.size ≤ u 16 := by
    rcases hD.2 _ _ l16 with ⟨o, ho, e⟩ | e | e
    · exact absurd e.symm (hne16 o ho)
    · exact (hJ _ e).elim
    · exact e
  have a15 : eA (eSB E u) 15 = u 15 := by
    show va_up (va_up E.2.2.1 15 (u 15)) 16 (u 16) 15 = u 15
    rw [va_up_ne _ _ (show (15 : Nat) ≠ 16 by decide), va_up_self]
  have a16 : eA (eSB E u) 16 = u 16 := va_up_self (va_up E.2.2.1 15 (u 15)) 16 (u 16)
  have n15 : ∀ o, o ∈ eL E → o ≠ 15 ∧ o ≠ 16 ∧ o ≠ 20 := by
    intro o h
    rw [hL] at h
    have := ids_L_N o h
    omega
  have hAA : ∀ x, AA (eSB E u) s.heap.size x ↔ AA E s.heap.size x := by
    intro x
    constructor
    · rintro (⟨o, ho, e⟩ | e | e)
      · rcases List.mem_cons.mp (show o ∈ 15 :: 16 :: eL E from ho) with rfl | ho
        · rw [a15] at e
          exact Or.inr (Or.inr (by omega))
        · rcases List.mem_cons.mp ho with rfl | ho
          · rw [a16] at e
            exact Or.inr (Or.inr (by omega))
          · exact Or.inl ⟨o, ho, by rw [e]; exact eSB_A E u (n15 o ho).1 (n15 o ho).2.1⟩
      · exact Or.inr (Or.inl e)
      · exact Or.inr (Or.inr e)
    · rintro (⟨o, ho, e⟩ | e | e)
      · exact Or.inl ⟨o, List.mem_cons_of_mem _ (List.mem_cons_of_mem _ ho), by rw [e]; exact (eSB_A E u (n15 o ho).1 (n15 o ho).2.1).symm⟩
      · exact Or.inr (Or.inl e)
      · exact Or.inr (Or.inr e)
  have hnd : (15 :: 16 :: eL E).Nodup := by rw [hL]; decide +kernel
  have hI2 : Inj (eSB E u) := by
    refine ⟨hnd, fun i j hi hj h => ?_⟩
    rcases List.mem_cons.mp (show i ∈ 15 :: 16 :: eL E from hi) with ei | hi
    · rcases List.mem_cons.mp (show j ∈ 15 :: 16 :: eL E from hj) with ej | hj
      · rw [ei, ej]
      · rcases List.mem_cons.mp hj with ej | hj
        · rw [ei, ej, a15, a16] at h
          exact absurd h hne
        · rw [ei, a15, eSB_A E u (n15 j hj).1 (n15 j hj).2.1] at h
          exact absurd h.symm (hne15 j hj)
    · rcases List.mem_cons.mp hi with ei | hi
      · rcases List.mem_cons.mp (show j ∈ 15 :: 16 :: eL E from hj) with ej | hj
        · rw [ei, ej, a15, a16] at h
          exact absurd h.symm hne
        · rcases List.mem_cons.mp hj with ej | hj
          · rw [ei, ej]
          · rw [ei, a16, eSB_A E u (n15 j hj).1 (n15 j hj).2.1] at h
            exact absurd h.symm (hne16 j hj)
      · rcases List.mem_cons.mp (show j ∈ 15 :: 16 :: eL E from hj) with ej | hj
        · rw [ej, a15, eSB_A E u (n15 i hi).1 (n15 i hi).2.1] at h
          exact absurd h (hne15 i hi)
        · rcases List.mem_cons.mp hj with ej | hj
          · rw [ej, a16, eSB_A E u (n15 i hi).1 (n15 i hi).2.1] at h
            exact absurd h (hne16 i hi)
          · rw [eSB_A E u (n15 i hi).1 (n15 i hi).2.1, eSB_A E u (n15 j hj).1 (n15 j hj).2.1] at h
            exact hI.2 i j hi hj h
  refine ⟨⟨⟨rfl, rfl, rfl, rfl⟩, by show 15 :: 16 :: eL E = _; rw [hL]; rfl, fun o h1 h2 _ => eSB_A E u h1 h2, fun o ho => ?_, fun q hq => (hJ q hq).elim⟩, ⟨C.1, C.2.1, C.2.2.1, C.2.2.2.1, C.2.2.2.2.1, C.2.2.2.2.2.1, C.2.2.2.2.2.2.1.less rfl (fun x h => (hAA x).mp h), hI2⟩, fun k x hx => ?_, hS.mono (fun x h => (hAA x).mpr h)⟩
  · rcases List.mem_cons.mp (show o ∈ [15, 16] from ho) with rfl | ho
    · rw [a15]
      exact z15
    · rcases List.mem_cons.mp ho with rfl | ho
      · rw [a16]
        exact z16
      · cases ho
  · obtain ⟨o, ho, rfl⟩ := ws_of hx
    cases k with
    | zero =>
      have : o = 15 := (Option.some.inj (show some 15 = some o from ho)).symm
      subst this
      have e2 : ce (eSB E u) (mx pS w w2) 15 = ce (EW E ids_SB u) w2 15 := by
        show Sum.inr (9, [Value.ref (eA (eSB E u) 16), _, _, _]) = Sum.inr (9, [Value.ref (u 16), _, _, _])
        rw [a16]
        rfl
      rw [a15, e2]
      exact hP _ _ l15
    | succ k =>
      cases k with
      | zero =>
        have : o = 16 := (Option.some.inj (show some 16 = some o from ho)).symm
        subst this
        rw [a16, show ce (eSB E u) (mx pS w w2) 16 = ce (EW E ids_SB u) w2 16 from rfl]
        exact hP _ _ l16
      | succ k =>
        have ho : (eL E)[k]? = some o := ho
        have n := n15 o (List.mem_of_getElem? ho)
        have e3 : ce (eSB E u) (mx pS w w2) o = ce E w o := by
          rw [ce_cong (E := E) (E' := eSB E u) rfl (fun j h1 h2 _ => eSB_A E u h1 h2) n.1]
          have hp : pS o = false := by
            unfold pS
            simp [n.1, n.2.1]
          unfold ce mx
          simp only [hp]
          rfl
        rw [eSB_A E u n.1 n.2.1, e3]
        exact hP k _ (hold ho)
end LBS
theorem hy_L_begins : yL_begins.cls ≠ "java/lang/invoke/MethodHandle" ∧ yL_begins.cls ≠ "java/lang/invoke/VarHandle" ∧ (parseMethodDescriptor yL_begins.desc).map (fun d => d.parameters.length) = some 2 := by decide +kernel
def wp_L_begins (N : Nat) (X : Nat → Int32) (w : Wd) (Post : Int32 → Wd → Prop) : Prop :=
  ∀ J20 : Nat → Int32 → Int32 → Wd → Prop, ∀ J190 : Nat → Int32 → Int32 → Wd → Prop, ∀ J69 : Nat → Int32 → Int32 → Int32 → Int32 → Int32 → Wd → Prop, ∀ J311 : Nat → Int32 → Int32 → Int32 → Wd → Prop, ∀ J174 : Nat → Int32 → Int32 → Wd → Prop, ∀ J326 : Nat → Int32 → Int32 → Int32 → Int32 → Wd → Prop, (∀ (t : Nat) (x2 : Int32) (x4 : Int32) (w : Wd), t + 2 ≤ 120 ∧ ((x2 ≤ x4 → (J190 t x2 0 w)) ∧ (¬ x2 ≤ x4 → (wp_L_pick N X w (1 + x4) 7 (fun r2 w2 => ∀ y2 : Int32, y2 = 3 + r2 → (wp_L_pick N X w2 (5 + x4) y2 (fun r3 w3 => ∀ y3 : Int32, y3 = 1 + r3 → (wp_J4_append_15ec4 9 w3 (fun w4 => wp_J4_append_bf812 w4 y2 (fun w5 => J69 (t + 2) x2 x4 y2 y3 0 w5))))))))) → J20 t x2 x4 w) →
  (∀ (t : Nat) (x2 : Int32) (x4 : Int32) (w : Wd), t + 9 ≤ 120 ∧ (wp_L_pick N X w 30 3 (fun r4 w6 => (r4 ≤ x4 → (wp_J4_append_15ec4 14 w6 (fun w7 => wp_L_pick N X w7 33 4 (fun r5 w8 => wp_J4_append_bf812 w8 r5 (fun w9 => wp_J4_append_15ec4 10 w9 (fun w10 => wp_L_pick N X w10 34 4 (fun r6 w11 => wp_J4_append_bf812 w11 r6 (fun w12 => wp_J4_append_15ec4 10 w12 (fun w13 => wp_L_pick N X w13 35 4 (fun r7 w14 => wp_J4_append_bf812 w14 r7 (fun w15 => wp_J4_append_15ec4 15 w15 (fun w16 => wp_L_pick N X w16 36 2 (fun r8 w17 => wp_J4_append_bf812 w17 r8 (fun w18 => wp_J4_append_15ec4 12 w18 (fun w19 => wp_J4_length_8abf5 w19 (fun r9 w20 => J311 (t + 9) x2 r9 0 w20)))))))))))))))) ∧ (¬ r4 ≤ x4 → (wp_J4_append_15ec4 13 w6 (fun w21 => wp_L_pick N X w21 31 2 (fun r10 w22 => wp_J4_append_bf812 w22 ((1 + x4) + r10) (fun w23 => wp_J4_append_15ec4 12 w23 (fun w24 => ∀ y4 : Int32, y4 = x4 + 1 → (J190 (t + 3) x2 y4 w24))))))))) → J190 t x2 x4 w) →
  (∀ (t : Nat) (x2 : Int32) (x4 : Int32) (x5 : Int32) (x6 : Int32) (x7 : Int32) (w : Wd), t + 4 ≤ 120 ∧ (wp_L_pick N X w (10 + x4) 3 (fun r11 w25 => (r11 < x7 → (wp_L_pick N X w25 (15 + x4) 3 (fun r12 w26 => ∀ y5 : Int32, y5 = 1 + r12 → (wp_L_pick N X w26 (20 + x4) 2 (fun r13 w27 => (r13 = 0 → (wp_J4_append_15ec4 11 w27 (fun w28 => wp_J4_append_bf812 w28 y5 (fun w29 => wp_J4_append_15ec4 10 w29 (fun w30 => wp_L_pick N X w30 (25 + x4) 2 (fun r14 w31 => wp_J4_append_bf812 w31 ((y5 + 1) + r14) (fun w32 => J174 (t + 4) x2 x4 w32))))))) ∧ (¬ r13 = 0 → (J174 t x2 x4 w27))))))) ∧ (¬ r11 < x7 → (wp_J4_append_15ec4 10 w25 (fun w33 => ¬ x5 = 0 ∧ (wp_J4_append_bf812 w33 ((((x6 + x7) - 1) - ((x6 + x7) - 1) / x5 * x5) + 1) (fun w34 => ∀ y6 : Int32, y6 = x7 + 1 → (J69 (t + 2) x2 x4 x5 x6 y6 w34)))))))) → J69 t x2 x4 x5 x6 x7 w) →
  (∀ (t : Nat) (x2 : Int32) (x4 : Int32) (x5 : Int32) (w : Wd), t + 1 ≤ 120 ∧ ((x4 ≤ x5 → (wp_L_parse w x4 (fun cx1 w35 => cx1 = 0 ∧ ((((gL w35 25 0).toInt32) = x2 → (Post 1 (mx pC w w35))) ∧ (¬ ((gL w35 25 0).toInt32) = x2 → (Post 0 (mx pC w w35))))))) ∧ (¬ x4 ≤ x5 → (J326 (t + 1) x2 x4 x5 0 (sF w 20 (fun _ => 0))))) → J311 t x2 x4 x5 w) →
  (∀ (t : Nat) (x2 : Int32) (x4 : Int32) (w : Wd), t + 1 ≤ 120 ∧ (wp_J4_append_15ec4 12 w (fun w36 => ∀ y7 : Int32, y7 = x4 + 1 → (J20 (t + 1) x2 y7 w36))) → J174 t x2 x4 w) →
  (∀ (t : Nat) (x2 : Int32) (x4 : Int32) (x5 : Int32) (x7 : Int32) (w : Wd), t + 0 ≤ 120 ∧ ((20 ≤ x7 → (wp_X8_append w (gA w 20 0) (gA w 20 1) (gA w 20 2) (gA w 20 3) (gA w 20 4) (fun r16 w37 => ∀ y8 : Int32, y8 = x5 + 20 → (J311 t x2 x4 y8 (mx pC w w37))))) ∧ (¬ 20 ≤ x7 → (vp_in (x7 / 4) 5 ∧ ((x4 ≤ (x5 + x7) → (∀ y9 : Int32, y9 = ((gA w 20 ((x7 / 4).toNatClampNeg)) <<< (8 &&& 31)) ||| 32 → (vp_in (x7 / 4) 5 ∧ (∀ y10 : Int32, y10 = x7 + 1 → (J326 t x2 x4 x5 y10 (sA w 20 ((x7 / 4).toNatClampNeg) y9)))))) ∧ (¬ x4 ≤ (x5 + x7) → (wp_J4_charAt_5068e w (x5 + x7) (fun r17 w38 => ∀ y11 : Int32, y11 = ((gA w 20 ((x7 / 4).toNatClampNeg)) <<< (8 &&& 31)) ||| r17 → (vp_in (x7 / 4) 5 ∧ (∀ y12 : Int32, y12 = x7 + 1 → (J326 t x2 x4 x5 y12 (sA w38 20 ((x7 / 4).toNatClampNeg) y11))))))))))) → J326 t x2 x4 x5 x7 w) →
  wp_L_pick N X w 0 3 (fun r1 w1 => ∀ y1 : Int32, y1 = 1 + r1 → (∀ w2, post_SB w2 → (J20 (0 + 2) y1 0 (mx pS w1 w2))))
set_option maxHeartbeats 40000000 in
set_option maxRecDepth 100000 in
theorem mt_L_begins (l : Launch) (hT : l.stackTraces = false) {E : En} (hI : Inj E) (hE : eN E < 2 ^ 30) (hL : eL E = ids_L) (hJ : ∀ q, ¬ eJ E q) (w : Wd) {Post : Int32 → Wd → Prop} (h : wp_L_begins (eN E) (eX E) w Post) : ME l E yL_begins cL_begins 8 (some .boolean) 9 196 260 133120 [.ref (eA E 0), .ref (eT E 300)] w (fun sz => va_Qi Post (PW E) (AA E sz)) := by
  refine ME.intro hI (by decide +kernel) (Nat.le_of_ble_eq_true rfl) ?_
  intro p e s m args below meth c Q C hr hlk hQ hw ls hl
  have hx := C.1
  have hb := C.2.1
  have hl : lv_has ls 8 [(0, .ref (eA E 0)), (1, .ref (eT E 300))] := hl
  unfold wp_L_begins at h
  have h := h (fun (t : Nat) (x2 : Int32) (x4 : Int32) (w : Wd) => ∀ E1 : En, Bg E E1 s.heap.size [] → Cx E1 p s m args c cL_begins 8 yL_begins.cls → ∀ k n : Nat, k ≤ 2 * t → n ≤ 1024 * t → ∀ (H : Heap) (locs : List Loc), Wo E1 s w H locs → ∀ ls : Array Slot, lv_has ls 8 [(0, .ref (eA E1 0)), (1, .ref (eT E1 300)), (2, .int x2), (3, .ref (eA E1 15)), (4, .int x4)] → W p l e (RmX 9 196 260 133120) s m args below meth c H locs k n Q (F0 m 20 ls []))
  have h := h (fun (t : Nat) (x2 : Int32) (x4 : Int32) (w : Wd) => ∀ E1 : En, Bg E E1 s.heap.size [] → Cx E1 p s m args c cL_begins 8 yL_begins.cls → ∀ k n : Nat, k ≤ 2 * t → n ≤ 1024 * t → ∀ (H : Heap) (locs : List Loc), Wo E1 s w H locs → ∀ ls : Array Slot, lv_has ls 8 [(0, .ref (eA E1 0)), (1, .ref (eT E1 300)), (2, .int x2), (3, .ref (eA E1 15)), (4, .int x4)] → W p l e (RmX 9 196 260 133120) s m args below meth c H locs k n Q (F0 m 190 ls []))
  have h := h (fun (t : Nat) (x2 : Int32) (x4 : Int32) (x5 : Int32) (x6 : Int32) (x7 : Int32) (w : Wd) => ∀ E1 : En, Bg E E1 s.heap.size [] → Cx E1 p s m args c cL_begins 8 yL_begins.cls → ∀ k n : Nat, k ≤ 2 * t → n ≤ 1024 * t → ∀ (H : Heap) (locs : List Loc), Wo E1 s w H locs → ∀ ls : Array Slot, lv_has ls 8 [(0, .ref (eA E1 0)), (1, .ref (eT E1 300)), (2, .int x2), (3, .ref (eA E1 15)), (4, .int x4), (5, .int x5), (6, .int x6), (7, .int x7)] → W p l e (RmX 9 196 260 133120) s m args below meth c H locs k n Q (F0 m 69 ls []))
  have h := h (fun (t : Nat) (x2 : Int32) (x4 : Int32) (x5 : Int32) (w : Wd) => ∀ E1 : En, Bg E E1 s.heap.size [] → Cx E1 p s m args c cL_begins 8 yL_begins.cls → ∀ k n : Nat, k ≤ 2 * t → n ≤ 1024 * t → ∀ (H : Heap) (locs : List Loc), Wo E1 s w H locs → ∀ ls : Array Slot, lv_has ls 8 [(0, .ref (eA E1 0)), (2, .int x2), (3, .ref (eA E1 15)), (4, .int x4), (5, .int x5)] → W p l e (RmX 9 196 260 133120) s m args below meth c H locs k n Q (F0 m 311 ls []))
  have h := h (fun (t : Nat) (x2 : Int32) (x4 : Int32) (w : Wd) => ∀ E1 : En, Bg E E1 s.heap.size [] → Cx E1 p s m args c cL_begins 8 yL_begins.cls → ∀ k n : Nat, k ≤ 2 * t → n ≤ 1024 * t → ∀ (H : Heap) (locs : List Loc), Wo E1 s w H locs → ∀ ls : Array Slot, lv_has ls 8 [(0, .ref (eA E1 0)), (1, .ref (eT E1 300)), (2, .int x2), (3, .ref (eA E1 15)), (4, .int x4)] → W p l e (RmX 9 196 260 133120) s m args below meth c H locs k n Q (F0 m 174 ls []))
  have h := h (fun (t : Nat) (x2 : Int32) (x4 : Int32) (x5 : Int32) (x7 : Int32) (w : Wd) => ∀ E1 : En, Bg E E1 s.heap.size [20] → Cx E1 p s m args c cL_begins 8 yL_begins.cls → ∀ k n : Nat, k ≤ 2 * t → n ≤ 1024 * t → ∀ (H : Heap) (locs : List Loc), Wo E1 s w H locs → ∀ ls : Array Slot, lv_has ls 8 [(0, .ref (eA E1 0)), (2, .int x2), (3, .ref (eA E1 15)), (4, .int x4), (5, .int x5), (6, .ref (eA E1 20)), (7, .int x7)] → W p l e (RmX 9 196 260 133120) s m args below meth c H locs k n Q (F0 m 326 ls []))
  have h := h ?_
  rotate_left
  · intro t x2 x4 w h E1 hB C k n hk hn H locs hw ls hl
    obtain ⟨ht, h⟩ := h
    have hF := hB.F
    refine lv_iload hx hb dL_begins_20 (lv_at hl 4 rfl) ?_
    refine lv_iload_n hx hb dL_begins_22 rfl (lv_at hl 2 rfl) ?_
    refine lv_icmp_ge (tgt := 187) hx hb dL_begins_23 (by decide) (fun c1 => ?_) (fun c1 => ?_)
    · have h := h.1 c1
      refine lv_iconst (v := 0) hx hb dL_begins_187 (by decide) ?_
      refine lv_istore (lv' := [(4, .int 0), (0, .ref (eA E1 0)), (1, .ref (eT E1 300)), (2, .int x2), (3, .ref (eA E1 15))]) hx hb dL_begins_188 hl (by decide) rfl (fun ls hl => ?_)
      exact h _ hB C _ _ (by omega) (by omega) _ _ hw _ (lv_sub hl [1, 2, 3, 4, 0] rfl)
    · have h := h.2 c1
      refine lv_iconst (v := 3) hx hb dL_begins_26 (by decide) ?_
      refine lv_aload_n hx hb dL_begins_27 rfl (lv_at hl 1 rfl) ?_
      refine lv_iconst (v := 1) hx hb dL_begins_28 (by decide) ?_
      refine lv_iload hx hb dL_begins_29 (lv_at hl 4 rfl) ?_
      refine lv_iadd hx hb dL_begins_31 ?_
      refine lv_bipush (v := 7) hx hb dL_begins_32 (by decide) ?_
      refine done_i hw (my_runS (As := [.ref (eT E1 300), .int (1 + x4), .int 7]) (rest := [.int 3]) C hw (mt_L_pickB l C.2.2.2.2.2.2.2 hB.x hE _ _ _ h) K_m_L_15 K_s_L_pick K_n_L K_c_L_pick hy_L_pick ⟨Nat.le_of_ble_eq_true rfl, Nat.le_of_ble_eq_true rfl⟩ hl.1 rfl (Nat.le_of_ble_eq_true rfl) dL_begins_34 ⟨by show _ ≤ (260 : Nat); omega, by show _ ≤ (133120 : Nat); omega⟩) (fun r2 w2 H locs h hw => ?_)
      refine lv_iadd hx hb dL_begins_37 ?_
      refine lv_topi (fun y2 ey2 => ?_)
      have h := h y2 ey2
      refine lv_istore (lv' := [(5, .int y2), (0, .ref (eA E1 0)), (1, .ref (eT E1 300)), (2, .int x2), (3, .ref (eA E1 15)), (4, .int x4)]) hx hb dL_begins_38 hl (by decide) rfl (fun ls hl => ?_)
      refine lv_iconst (v := 1) hx hb dL_begins_40 (by decide) ?_
      refine lv_aload_n hx hb dL_begins_41 rfl (lv_at hl 2 rfl) ?_
      refine lv_iconst (v := 5) hx hb dL_begins_42 (by decide) ?_
      refine lv_iload hx hb dL_begins_43 (lv_at hl 5 rfl) ?_
      refine lv_iadd hx hb dL_begins_45 ?_
      refine lv_iload hx hb dL_begins_46 (lv_at hl 0 rfl) ?_
      refine done_i hw (my_runS (As := [.ref (eT E1 300), .int (5 + x4), .int y2]) (rest := [.int 1]) C hw (mt_L_pickB l C.2.2.2.2.2.2.2 hB.x hE _ _ _ h) K_m_L_15 K_s_L_pick K_n_L K_c_L_pick hy_L_pick ⟨Nat.le_of_ble_eq_true rfl, Nat.le_of_ble_eq_true rfl⟩ hl.1 rfl (Nat.le_of_ble_eq_true rfl) dL_begins_48 ⟨by show _ ≤ (260 : Nat); omega, by show _ ≤ (133120 : Nat); omega⟩) (fun r3 w3 H locs h hw => ?_)
      refine lv_iadd hx hb dL_begins_51 ?_
      refine lv_topi (fun y3 ey3 => ?_)
      have h := h y3 ey3
      refine lv_istore (lv' := [(6, .int y3), (5, .int y2), (0, .ref (eA E1 0)), (1, .ref (eT E1 300)), (2, .int x2), (3, .ref (eA E1 15)), (4, .int x4)]) hx hb dL_begins_52 hl (by decide) rfl (fun ls hl => ?_)
      refine lv_aload_n hx hb dL_begins_54 rfl (lv_at hl 5 rfl) ?_
      refine r_ldcS C 9 (by decide +kernel) dL_begins_55 ?_
      refine done_er C hw (hF 16 (by decide)) (my_runE (As := [.ref (eT E1 (1 + 9))]) (rest := []) C hw 15 9 (hF 15 (by decide)) rfl rfl (mt_J4_append_15ec4 l C.2.2.2.2.2.2.2 (fun o a => hF o (by omega)) 9 (show 9 < 18 by decide) _ h) K_m_L_24 K_i_J4_append_15ec4 (C.2.2.2.2.1 _ K_v_J4_append_15ec4) K_n_J4 K_c_J4_append_15ec4 hy_J4_append_15ec4 ⟨Nat.le_of_ble_eq_true rfl, Nat.le_of_ble_eq_true rfl⟩ hl.1 rfl (Nat.le_of_ble_eq_true rfl) dL_begins_57 ⟨by show _ ≤ (260 : Nat); omega, by show _ ≤ (133120 : Nat); omega⟩) (fun a1 w4 H locs ha h C1 hw => ?_)
      have hB := hB.up ha C1.2.2.2.2.2.2.2 (by intro o h; cases h)
      have C := C1
      have hF := hB.F
      have hl : lv_has ls 8 [(6, .int y3), (5, .int y2), (0, .ref (eA (eUp E1 a1) 0)), (1, .ref (eT (eUp E1 a1) 300)), (2, .int x2), (3, .ref (eA (eUp E1 a1) 15)), (4, .int x4)] := hl
      refine lv_iload hx hb dL_begins_60 (lv_at hl 1 rfl) ?_
      refine done_er C hw (hF 16 (by decide)) (my_runE (As := [.int y2]) (rest := []) C hw 15 9 (hF 15 (by decide)) rfl rfl (mt_J4_append_bf812 l C.2.2.2.2.2.2.2 (fun o a => hF o (by omega)) _ _ h) K_m_L_28 K_i_J4_append_bf812 (C.2.2.2.2.1 _ K_v_J4_append_bf812) K_n_J4 K_c_J4_append_bf812 hy_J4_append_bf812 ⟨Nat.le_of_ble_eq_true rfl, Nat.le_of_ble_eq_true rfl⟩ hl.1 rfl (Nat.le_of_ble_eq_true rfl) dL_begins_62 ⟨by show _ ≤ (260 : Nat); omega, by show _ ≤ (133120 : Nat); omega⟩) (fun a2 w5 H locs ha h C1 hw => ?_)
      have hB := hB.up ha C1.2.2.2.2.2.2.2 (by intro o h; cases h)
      have C := C1
      have hF := hB.F
      have hl : lv_has ls 8 [(6, .int y3), (5, .int y2), (0, .ref (eA (eUp (eUp E1 a1) a2) 0)), (1, .ref (eT (eUp (eUp E1 a1) a2) 300)), (2, .int x2), (3, .ref (eA (eUp (eUp E1 a1) a2) 15)), (4, .int x4)] := hl
      refine lv_pop hx hb dL_begins_65 rfl ?_
      refine lv_iconst (v := 0) hx hb dL_begins_66 (by decide) ?_
      refine lv_istore (lv' := [(7, .int 0), (6, .int y3), (5, .int y2), (0, .ref (eA (eUp (eUp E1 a1) a2) 0)), (1, .ref (eT (eUp (eUp E1 a1) a2) 300)), (2, .int x2), (3, .ref (eA (eUp (eUp E1 a1) a2) 15)), (4, .int x4)]) hx hb dL_begins_67 hl (by decide) rfl (fun ls hl => ?_)
      exact h _ hB C _ _ (by omega) (by omega) _ _ hw _ (lv_sub hl [3, 4, 5, 6, 7, 2, 1, 0] rfl)
  have h := h ?_
  rotate_left
  · intro t x2 x4 w h E1 hB C k n hk hn H locs hw ls hl
    obtain ⟨ht, h⟩ := h
    have hF := hB.F
    refine lv_iload hx hb dL_begins_190 (lv_at hl 4 rfl) ?_
    refine lv_aload_n hx hb dL_begins_192 rfl (lv_at hl 1 rfl) ?_
    refine lv_bipush (v := 30) hx hb dL_begins_193 (by decide) ?_
    refine lv_iconst (v := 3) hx hb dL_begins_195 (by decide) ?_
    refine done_i hw (my_runS (As := [.ref (eT E1 300), .int 30, .int 3]) (rest := [.int x4]) C hw (mt_L_pickB l C.2.2.2.2.2.2.2 hB.x hE _ _ _ h) K_m_L_15 K_s_L_pick K_n_L K_c_L_pick hy_L_pick ⟨Nat.le_of_ble_eq_true rfl, Nat.le_of_ble_eq_true rfl⟩ hl.1 rfl (Nat.le_of_ble_eq_true rfl) dL_begins_196 ⟨by show _ ≤ (260 : Nat); omega, by show _ ≤ (133120 : Nat); omega⟩) (fun r4 w6 H locs h hw => ?_)
    refine lv_icmp_ge (tgt := 235) hx hb dL_begins_199 (by decide) (fun c2 => ?_) (fun c2 => ?_)
    · have h := h.1 c2
      refine lv_aload_n hx hb dL_begins_235 rfl (lv_at hl 3 rfl) ?_
      refine r_ldcS C 14 (by decide +kernel) dL_begins_236 ?_
      refine done_er C hw (hF 16 (by decide)) (my_runE (As := [.ref (eT E1 (1 + 14))]) (rest := []) C hw 15 9 (hF 15 (by decide)) rfl rfl (mt_J4_append_15ec4 l C.2.2.2.2.2.2.2 (fun o a => hF o (by omega)) 14 (show 14 < 18 by decide) _ h) K_m_L_24 K_i_J4_append_15ec4 (C.2.2.2.2.1 _ K_v_J4_append_15ec4) K_n_J4 K_c_J4_append_15ec4 hy_J4_append_15ec4 ⟨Nat.le_of_ble_eq_true rfl, Nat.le_of_ble_eq_true rfl⟩ hl.1 rfl (Nat.le_of_ble_eq_true rfl) dL_begins_238 ⟨by show _ ≤ (260 : Nat); omega, by show _ ≤ (133120 : Nat); omega⟩) (fun a3 w7 H locs ha h C1 hw => ?_)
      have hB := hB.up ha C1.2.2.2.2.2.2.2 (by intro o h; cases h)
      have C := C1
      have hF := hB.F
      have hl : lv_has ls 8 [(0, .ref (eA (eUp E1 a3) 0)), (1, .ref (eT (eUp E1 a3) 300)), (2, .int x2), (3, .ref (eA (eUp E1 a3) 15)), (4, .int x4)] := hl
      refine lv_aload_n hx hb dL_begins_241 rfl (lv_at hl 1 rfl) ?_
      refine lv_bipush (v := 33) hx hb dL_begins_242 (by decide) ?_
      refine lv_iconst (v := 4) hx hb dL_begins_244 (by decide) ?_
      refine done_i hw (my_runS (As := [.ref (eT (eUp E1 a3) 300), .int 33, .int 4]) (rest := [.ref (eA (eUp E1 a3) 15)]) C hw (mt_L_pickB l C.2.2.2.2.2.2.2 hB.x hE _ _ _ h) K_m_L_15 K_s_L_pick K_n_L K_c_L_pick hy_L_pick ⟨Nat.le_of_ble_eq_true rfl, Nat.le_of_ble_eq_true rfl⟩ hl.1 rfl (Nat.le_of_ble_eq_true rfl) dL_begins_245 ⟨by show _ ≤ (260 : Nat); omega, by show _ ≤ (133120 : Nat); omega⟩) (fun r5 w8 H locs h hw => ?_)
      refine done_er C hw (hF 16 (by decide)) (my_runE (As := [.int r5]) (rest := []) C hw 15 9 (hF 15 (by decide)) rfl rfl (mt_J4_append_bf812 l C.2.2.2.2.2.2.2 (fun o a => hF o (by omega)) _ _ h) K_m_L_28 K_i_J4_append_bf812 (C.2.2.2.2.1 _ K_v_J4_append_bf812) K_n_J4 K_c_J4_append_bf812 hy_J4_append_bf812 ⟨Nat.le_of_ble_eq_true rfl, Nat.le_of_ble_eq_true rfl⟩ hl.1 rfl (Nat.le_of_ble_eq_true rfl) dL_begins_248 ⟨by show _ ≤ (260 : Nat); omega, by show _ ≤ (133120 : Nat); omega⟩) (fun a4 w9 H locs ha h C1 hw => ?_)
      have hB := hB.up ha C1.2.2.2.2.2.2.2 (by intro o h; cases h)
      have C := C1
      have hF := hB.F
      have hl : lv_has ls 8 [(0, .ref (eA (eUp (eUp E1 a3) a4) 0)), (1, .ref (eT (eUp (eUp E1 a3) a4) 300)), (2, .int x2), (3, .ref (eA (eUp (eUp E1 a3) a4) 15)), (4, .int x4)] := hl
      refine r_ldcS C 10 (by decide +kernel) dL_begins_251 ?_
      refine done_er C hw (hF 16 (by decide)) (my_runE (As := [.ref (eT (eUp (eUp E1 a3) a4) (1 + 10))]) (rest := []) C hw 15 9 (hF 15 (by decide)) rfl rfl (mt_J4_append_15ec4 l C.2.2.2.2.2.2.2 (fun o a => hF o (by omega)) 10 (show 10 < 18 by decide) _ h) K_m_L_24 K_i_J4_append_15ec4 (C.2.2.2.2.1 _ K_v_J4_append_15ec4) K_n_J4 K_c_J4_append_15ec4 hy_J4_append_15ec4 ⟨Nat.le_of_ble_eq_true rfl, Nat.le_of_ble_eq_true rfl⟩ hl.1 rfl (Nat.le_of_ble_eq_true rfl) dL_begins_253 ⟨by show _ ≤ (260 : Nat); omega, by show _ ≤ (133120 : Nat); omega⟩) (fun a5 w10 H locs ha h C1 hw => ?_)
      have hB := hB.up ha C1.2.2.2.2.2.2.2 (by intro o h; cases h)
      have C := C1
      have hF := hB.F
      have hl : lv_has ls 8 [(0, .ref (eA (eUp (eUp (eUp E1 a3) a4) a5) 0)), (1, .ref (eT (eUp (eUp (eUp E1 a3) a4) a5) 300)), (2, .int x2), (3, .ref (eA (eUp (eUp (eUp E1 a3) a4) a5) 15)), (4, .int x4)] := hl
      refine lv_aload_n hx hb dL_begins_256 rfl (lv_at hl 1 rfl) ?_
      refine lv_bipush (v := 34) hx hb dL_begins_257 (by decide) ?_
      refine lv_iconst (v := 4) hx hb dL_begins_259 (by decide) ?_
      refine done_i hw (my_runS (As := [.ref (eT (eUp (eUp (eUp E1 a3) a4) a5) 300), .int 34, .int 4]) (rest := [.ref (eA (eUp (eUp (eUp E1 a3) a4) a5) 15)]) C hw (mt_L_pickB l C.2.2.2.2.2.2.2 hB.x hE _ _ _ h) K_m_L_15 K_s_L_pick K_n_L K_c_L_pick hy_L_pick ⟨Nat.le_of_ble_eq_true rfl, Nat.le_of_ble_eq_true rfl⟩ hl.1 rfl (Nat.le_of_ble_eq_true rfl) dL_begins_260 ⟨by show _ ≤ (260 : Nat); omega, by show _ ≤ (133120 : Nat); omega⟩) (fun r6 w11 H locs h hw => ?_)
      refine done_er C hw (hF 16 (by decide)) (my_runE (As := [.int r6]) (rest := []) C hw 15 9 (hF 15 (by decide)) rfl rfl (mt_J4_append_bf812 l C.2.2.2.2.2.2.2 (fun o a => hF o (by omega)) _ _ h) K_m_L_28 K_i_J4_append_bf812 (C.2.2.2.2.1 _ K_v_J4_append_bf812) K_n_J4 K_c_J4_append_bf812 hy_J4_append_bf812 ⟨Nat.le_of_ble_eq_true rfl, Nat.le_of_ble_eq_true rfl⟩ hl.1 rfl (Nat.le_of_ble_eq_true rfl) dL_begins_263 ⟨by show _ ≤ (260 : Nat); omega, by show _ ≤ (133120 : Nat); omega⟩) (fun a6 w12 H locs ha h C1 hw => ?_)
      have hB := hB.up ha C1.2.2.2.2.2.2.2 (by intro o h; cases h)
      have C := C1
      have hF := hB.F
      have hl : lv_has ls 8 [(0, .ref (eA (eUp (eUp (eUp (eUp E1 a3) a4) a5) a6) 0)), (1, .ref (eT (eUp (eUp (eUp (eUp E1 a3) a4) a5) a6) 300)), (2, .int x2), (3, .ref (eA (eUp (eUp (eUp (eUp E1 a3) a4) a5) a6) 15)), (4, .int x4)] := hl
      refine r_ldcS C 10 (by decide +kernel) dL_begins_266 ?_
      refine done_er C hw (hF 16 (by decide)) (my_runE (As := [.ref (eT (eUp (eUp (eUp (eUp E1 a3) a4) a5) a6) (1 + 10))]) (rest := []) C hw 15 9 (hF 15 (by decide)) rfl rfl (mt_J4_append_15ec4 l C.2.2.2.2.2.2.2 (fun o a => hF o (by omega)) 10 (show 10 < 18 by decide) _ h) K_m_L_24 K_i_J4_append_15ec4 (C.2.2.2.2.1 _ K_v_J4_append_15ec4) K_n_J4 K_c_J4_append_15ec4 hy_J4_append_15ec4 ⟨Nat.le_of_ble_eq_true rfl, Nat.le_of_ble_eq_true rfl⟩ hl.1 rfl (Nat.le_of_ble_eq_true rfl) dL_begins_268 ⟨by show _ ≤ (260 : Nat); omega, by show _ ≤ (133120 : Nat); omega⟩) (fun a7 w13 H locs ha h C1 hw => ?_)
      have hB := hB.up ha C1.2.2.2.2.2.2.2 (by intro o h; cases h)
      have C := C1
      have hF := hB.F
      have hl : lv_has ls 8 [(0, .ref (eA (eUp (eUp (eUp (eUp (eUp E1 a3) a4) a5) a6) a7) 0)), (1, .ref (eT (eUp (eUp (eUp (eUp (eUp E1 a3) a4) a5) a6) a7) 300)), (2, .int x2), (3, .ref (eA (eUp (eUp (eUp (eUp (eUp E1 a3) a4) a5) a6) a7) 15)), (4, .int x4)] := hl
      refine lv_aload_n hx hb dL_begins_271 rfl (lv_at hl 1 rfl) ?_
      refine lv_bipush (v := 35) hx hb dL_begins_272 (by decide) ?_
      refine lv_iconst (v := 4) hx hb dL_begins_274 (by decide) ?_
      refine done_i hw (my_runS (As := [.ref (eT (eUp (eUp (eUp (eUp (eUp E1 a3) a4) a5) a6) a7) 300), .int 35, .int 4]) (rest := [.ref (eA (eUp (eUp (eUp (eUp (eUp E1 a3) a4) a5) a6) a7) 15)]) C hw (mt_L_pickB l C.2.2.2.2.2.2.2 hB.x hE _ _ _ h) K_m_L_15 K_s_L_pick K_n_L K_c_L_pick hy_L_pick ⟨Nat.le_of_ble_eq_true rfl, Nat.le_of_ble_eq_true rfl⟩ hl.1 rfl (Nat.le_of_ble_eq_true rfl) dL_begins_275 ⟨by show _ ≤ (260 : Nat); omega, by show _ ≤ (133120 : Nat); omega⟩) (fun r7 w14 H locs h hw => ?_)
      refine done_er C hw (hF 16 (by decide)) (my_runE (As := [.int r7]) (rest := []) C hw 15 9 (hF 15 (by decide)) rfl rfl (mt_J4_append_bf812 l C.2.2.2.2.2.2.2 (fun o a => hF o (by omega)) _ _ h) K_m_L_28 K_i_J4_append_bf812 (C.2.2.2.2.1 _ K_v_J4_append_bf812) K_n_J4 K_c_J4_append_bf812 hy_J4_append_bf812 ⟨Nat.le_of_ble_eq_true rfl, Nat.le_of_ble_eq_true rfl⟩ hl.1 rfl (Nat.le_of_ble_eq_true rfl) dL_begins_278 ⟨by show _ ≤ (260 : Nat); omega, by show _ ≤ (133120 : Nat); omega⟩) (fun a8 w15 H locs ha h C1 hw => ?_)
      have hB := hB.up ha C1.2.2.2.2.2.2.2 (by intro o h; cases h)
      have C := C1
      have hF := hB.F
      have hl : lv_has ls 8 [(0, .ref (eA (eUp (eUp (eUp (eUp (eUp (eUp E1 a3) a4) a5) a6) a7) a8) 0)), (1, .ref (eT (eUp (eUp (eUp (eUp (eUp (eUp E1 a3) a4) a5) a6) a7) a8) 300)), (2, .int x2), (3, .ref (eA (eUp (eUp (eUp (eUp (eUp (eUp E1 a3) a4) a5) a6) a7) a8) 15)), (4, .int x4)] := hl
      refine r_ldcS C 15 (by decide +kernel) dL_begins_281 ?_
      refine done_er C hw (hF 16 (by decide)) (my_runE (As := [.ref (eT (eUp (eUp (eUp (eUp (eUp (eUp E1 a3) a4) a5) a6) a7) a8) (1 + 15))]) (rest := []) C hw 15 9 (hF 15 (by decide)) rfl rfl (mt_J4_append_15ec4 l C.2.2.2.2.2.2.2 (fun o a => hF o (by omega)) 15 (show 15 < 18 by decide) _ h) K_m_L_24 K_i_J4_append_15ec4 (C.2.2.2.2.1 _ K_v_J4_append_15ec4) K_n_J4 K_c_J4_append_15ec4 hy_J4_append_15ec4 ⟨Nat.le_of_ble_eq_true rfl, Nat.le_of_ble_eq_true rfl⟩ hl.1 rfl (Nat.le_of_ble_eq_true rfl) dL_begins_283 ⟨by show _ ≤ (260 : Nat); omega, by show _ ≤ (133120 : Nat); omega⟩) (fun a9 w16 H locs ha h C1 hw => ?_)
      have hB := hB.up ha C1.2.2.2.2.2.2.2 (by intro o h; cases h)
      have C := C1
      have hF := hB.F
      have hl : lv_has ls 8 [(0, .ref (eA (eUp (eUp (eUp (eUp (eUp (eUp (eUp E1 a3) a4) a5) a6) a7) a8) a9) 0)), (1, .ref (eT (eUp (eUp (eUp (eUp (eUp (eUp (eUp E1 a3) a4) a5) a6) a7) a8) a9) 300)), (2, .int x2), (3, .ref (eA (eUp (eUp (eUp (eUp (eUp (eUp (eUp E1 a3) a4) a5) a6) a7) a8) a9) 15)), (4, .int x4)] := hl
      refine lv_aload_n hx hb dL_begins_286 rfl (lv_at hl 1 rfl) ?_
      refine lv_bipush (v := 36) hx hb dL_begins_287 (by decide) ?_
      refine lv_iconst (v := 2) hx hb dL_begins_289 (by decide) ?_
      refine done_i hw (my_runS (As := [.ref (eT (eUp (eUp (eUp (eUp (eUp (eUp (eUp E1 a3) a4) a5) a6) a7) a8) a9) 300), .int 36, .int 2]) (rest := [.ref (eA (eUp (eUp (eUp (eUp (eUp (eUp (eUp E1 a3) a4) a5) a6) a7) a8) a9) 15)]) C hw (mt_L_pickB l C.2.2.2.2.2.2.2 hB.x hE _ _ _ h) K_m_L_15 K_s_L_pick K_n_L K_c_L_pick hy_L_pick ⟨Nat.le_of_ble_eq_true rfl, Nat.le_of_ble_eq_true rfl⟩ hl.1 rfl (Nat.le_of_ble_eq_true rfl) dL_begins_290 ⟨by show _ ≤ (260 : Nat); omega, by show _ ≤ (133120 : Nat); omega⟩) (fun r8 w17 H locs h hw => ?_)
      refine done_er C hw (hF 16 (by decide)) (my_runE (As := [.int r8]) (rest := []) C hw 15 9 (hF 15 (by decide)) rfl rfl (mt_J4_append_bf812 l C.2.2.2.2.2.2.2 (fun o a => hF o (by omega)) _ _ h) K_m_L_28 K_i_J4_append_bf812 (C.2.2.2.2.1 _ K_v_J4_append_bf812) K_n_J4 K_c_J4_append_bf812 hy_J4_append_bf812 ⟨Nat.le_of_ble_eq_true rfl, Nat.le_of_ble_eq_true rfl⟩ hl.1 rfl (Nat.le_of_ble_eq_true rfl) dL_begins_293 ⟨by show _ ≤ (260 : Nat); omega, by show _ ≤ (133120 : Nat); omega⟩) (fun a10 w18 H locs ha h C1 hw => ?_)
      have hB := hB.up ha C1.2.2.2.2.2.2.2 (by intro o h; cases h)
      have C := C1
      have hF := hB.F
      have hl : lv_has ls 8 [(0, .ref (eA (eUp (eUp (eUp (eUp (eUp (eUp (eUp (eUp E1 a3) a4) a5) a6) a7) a8) a9) a10) 0)), (1, .ref (eT (eUp (eUp (eUp (eUp (eUp (eUp (eUp (eUp E1 a3) a4) a5) a6) a7) a8) a9) a10) 300)), (2, .int x2), (3, .ref (eA (eUp (eUp (eUp (eUp (eUp (eUp (eUp (eUp E1 a3) a4) a5) a6) a7) a8) a9) a10) 15)), (4, .int x4)] := hl
      refine r_ldcS C 12 (by decide +kernel) dL_begins_296 ?_
      refine done_er C hw (hF 16 (by decide)) (my_runE (As := [.ref (eT (eUp (eUp (eUp (eUp (eUp (eUp (eUp (eUp E1 a3) a4) a5) a6) a7) a8) a9) a10) (1 + 12))]) (rest := []) C hw 15 9 (hF 15 (by decide)) rfl rfl (mt_J4_append_15ec4 l C.2.2.2.2.2.2.2 (fun o a => hF o (by omega)) 12 (show 12 < 18 by decide) _ h) K_m_L_24 K_i_J4_append_15ec4 (C.2.2.2.2.1 _ K_v_J4_append_15ec4) K_n_J4 K_c_J4_append_15ec4 hy_J4_append_15ec4 ⟨Nat.le_of_ble_eq_true rfl, Nat.le_of_ble_eq_true rfl⟩ hl.1 rfl (Nat.le_of_ble_eq_true rfl) dL_begins_298 ⟨by show _ ≤ (260 : Nat); omega, by show _ ≤ (133120 : Nat); omega⟩) (fun a11 w19 H locs ha h C1 hw => ?_)
      have hB := hB.up ha C1.2.2.2.2.2.2.2 (by intro o h; cases h)
      have C := C1
      have hF := hB.F
      have hl : lv_has ls 8 [(0, .ref (eA (eUp (eUp (eUp (eUp (eUp (eUp (eUp (eUp (eUp E1 a3) a4) a5) a6) a7) a8) a9) a10) a11) 0)), (1, .ref (eT (eUp (eUp (eUp (eUp (eUp (eUp (eUp (eUp (eUp E1 a3) a4) a5) a6) a7) a8) a9) a10) a11) 300)), (2, .int x2), (3, .ref (eA (eUp (eUp (eUp (eUp (eUp (eUp (eUp (eUp (eUp E1 a3) a4) a5) a6) a7) a8) a9) a10) a11) 15)), (4, .int x4)] := hl
      refine lv_pop hx hb dL_begins_301 rfl ?_
      refine lv_aload_n hx hb dL_begins_302 rfl (lv_at hl 3 rfl) ?_
      refine done_i hw (my_runV (As := []) (rest := []) C hw 15 9 (hF 15 (by decide)) rfl rfl (mt_J4_length_8abf5 l C.2.2.2.2.2.2.2 hF _ h) K_m_L_43 K_i_J4_length_8abf5 K_v_J4_length_8abf5 K_n_J4 K_c_J4_length_8abf5 hy_J4_length_8abf5 ⟨Nat.le_of_ble_eq_true rfl, Nat.le_of_ble_eq_true rfl⟩ hl.1 rfl (Nat.le_of_ble_eq_true rfl) dL_begins_303 ⟨by show _ ≤ (260 : Nat); omega, by show _ ≤ (133120 : Nat); omega⟩) (fun r9 w20 H locs h hw => ?_)
      refine lv_istore (lv' := [(4, .int r9), (0, .ref (eA (eUp (eUp (eUp (eUp (eUp (eUp (eUp (eUp (eUp E1 a3) a4) a5) a6) a7) a8) a9) a10) a11) 0)), (1, .ref (eT (eUp (eUp (eUp (eUp (eUp (eUp (eUp (eUp (eUp E1 a3) a4) a5) a6) a7) a8) a9) a10) a11) 300)), (2, .int x2), (3, .ref (eA (eUp (eUp (eUp (eUp (eUp (eUp (eUp (eUp (eUp E1 a3) a4) a5) a6) a7) a8) a9) a10) a11) 15))]) hx hb dL_begins_306 hl (by decide) rfl (fun ls hl => ?_)
      refine lv_iconst (v := 0) hx hb dL_begins_308 (by decide) ?_
      refine lv_istore (lv' := [(5, .int 0), (4, .int r9), (0, .ref (eA (eUp (eUp (eUp (eUp (eUp (eUp (eUp (eUp (eUp E1 a3) a4) a5) a6) a7) a8) a9) a10) a11) 0)), (1, .ref (eT (eUp (eUp (eUp (eUp (eUp (eUp (eUp (eUp (eUp E1 a3) a4) a5) a6) a7) a8) a9) a10) a11) 300)), (2, .int x2), (3, .ref (eA (eUp (eUp (eUp (eUp (eUp (eUp (eUp (eUp (eUp E1 a3) a4) a5) a6) a7) a8) a9) a10) a11) 15))]) hx hb dL_begins_309 hl (by decide) rfl (fun ls hl => ?_)
      exact h _ hB C _ _ (by omega) (by omega) _ _ hw _ (lv_sub hl [2, 4, 5, 1, 0] rfl)
    · have h := h.2 c2
      refine lv_aload_n hx hb dL_begins_202 rfl (lv_at hl 3 rfl) ?_
      refine r_ldcS C 13 (by decide +kernel) dL_begins_203 ?_
      refine done_er C hw (hF 16 (by decide)) (my_runE (As := [.ref (eT E1 (1 + 13))]) (rest := []) C hw 15 9 (hF 15 (by decide)) rfl rfl (mt_J4_append_15ec4 l C.2.2.2.2.2.2.2 (fun o a => hF o (by omega)) 13 (show 13 < 18 by decide) _ h) K_m_L_24 K_i_J4_append_15ec4 (C.2.2.2.2.1 _ K_v_J4_append_15ec4) K_n_J4 K_c_J4_append_15ec4 hy_J4_append_15ec4 ⟨Nat.le_of_ble_eq_true rfl, Nat.le_of_ble_eq_true rfl⟩ hl.1 rfl (Nat.le_of_ble_eq_true rfl) dL_begins_205 ⟨by show _ ≤ (260 : Nat); omega, by show _ ≤ (133120 : Nat); omega⟩) (fun a12 w21 H locs ha h C1 hw => ?_)
      have hB := hB.up ha C1.2.2.2.2.2.2.2 (by intro o h; cases h)
      have C := C1
      have hF := hB.F
      have hl : lv_has ls 8 [(0, .ref (eA (eUp E1 a12) 0)), (1, .ref (eT (eUp E1 a12) 300)), (2, .int x2), (3, .ref (eA (eUp E1 a12) 15)), (4, .int x4)] := hl
      refine lv_iconst (v := 1) hx hb dL_begins_208 (by decide) ?_
      refine lv_iload hx hb dL_begins_209 (lv_at hl 4 rfl) ?_
      refine lv_iadd hx hb dL_begins_211 ?_
      refine lv_aload_n hx hb dL_begins_212 rfl (lv_at hl 1 rfl) ?_
      refine lv_bipush (v := 31) hx hb dL_begins_213 (by decide) ?_
      refine lv_iconst (v := 2) hx hb dL_begins_215 (by decide) ?_
      refine done_i hw (my_runS (As := [.ref (eT (eUp E1 a12) 300), .int 31, .int 2]) (rest := [.int (1 + x4), .ref (eA (eUp E1 a12) 15)]) C hw (mt_L_pickB l C.2.2.2.2.2.2.2 hB.x hE _ _ _ h) K_m_L_15 K_s_L_pick K_n_L K_c_L_pick hy_L_pick ⟨Nat.le_of_ble_eq_true rfl, Nat.le_of_ble_eq_true rfl⟩ hl.1 rfl (Nat.le_of_ble_eq_true rfl) dL_begins_216 ⟨by show _ ≤ (260 : Nat); omega, by show _ ≤ (133120 : Nat); omega⟩) (fun r10 w22 H locs h hw => ?_)
      refine lv_iadd hx hb dL_begins_219 ?_
      refine done_er C hw (hF 16 (by decide)) (my_runE (As := [.int ((1 + x4) + r10)]) (rest := []) C hw 15 9 (hF 15 (by decide)) rfl rfl (mt_J4_append_bf812 l C.2.2.2.2.2.2.2 (fun o a => hF o (by omega)) _ _ h) K_m_L_28 K_i_J4_append_bf812 (C.2.2.2.2.1 _ K_v_J4_append_bf812) K_n_J4 K_c_J4_append_bf812 hy_J4_append_bf812 ⟨Nat.le_of_ble_eq_true rfl, Nat.le_of_ble_eq_true rfl⟩ hl.1 rfl (Nat.le_of_ble_eq_true rfl) dL_begins_220 ⟨by show _ ≤ (260 : Nat); omega, by show _ ≤ (133120 : Nat); omega⟩) (fun a13 w23 H locs ha h C1 hw => ?_)
      have hB := hB.up ha C1.2.2.2.2.2.2.2 (by intro o h; cases h)
      have C := C1
      have hF := hB.F
      have hl : lv_has ls 8 [(0, .ref (eA (eUp (eUp E1 a12) a13) 0)), (1, .ref (eT (eUp (eUp E1 a12) a13) 300)), (2, .int x2), (3, .ref (eA (eUp (eUp E1 a12) a13) 15)), (4, .int x4)] := hl
      refine r_ldcS C 12 (by decide +kernel) dL_begins_223 ?_
      refine done_er C hw (hF 16 (by decide)) (my_runE (As := [.ref (eT (eUp (eUp E1 a12) a13) (1 + 12))]) (rest := []) C hw 15 9 (hF 15 (by decide)) rfl rfl (mt_J4_append_15ec4 l C.2.2.2.2.2.2.2 (fun o a => hF o (by omega)) 12 (show 12 < 18 by decide) _ h) K_m_L_24 K_i_J4_append_15ec4 (C.2.2.2.2.1 _ K_v_J4_append_15ec4) K_n_J4 K_c_J4_append_15ec4 hy_J4_append_15ec4 ⟨Nat.le_of_ble_eq_true rfl, Nat.le_of_ble_eq_true rfl⟩ hl.1 rfl (Nat.le_of_ble_eq_true rfl) dL_begins_225 ⟨by show _ ≤ (260 : Nat); omega, by show _ ≤ (133120 : Nat); omega⟩) (fun a14 w24 H locs ha h C1 hw => ?_)
      have hB := hB.up ha C1.2.2.2.2.2.2.2 (by intro o h; cases h)
      have C := C1
      have hF := hB.F
      have hl : lv_has ls 8 [(0, .ref (eA (eUp (eUp (eUp E1 a12) a13) a14) 0)), (1, .ref (eT (eUp (eUp (eUp E1 a12) a13) a14) 300)), (2, .int x2), (3, .ref (eA (eUp (eUp (eUp E1 a12) a13) a14) 15)), (4, .int x4)] := hl
      refine lv_pop hx hb dL_begins_228 rfl ?_
      obtain ⟨y4, ey4⟩ : ∃ y : Int32, y = x4 + 1 := ⟨_, rfl⟩
      have h := h y4 ey4
      refine lv_iinc (v := y4) (lv' := [(4, .int y4), (0, .ref (eA (eUp (eUp (eUp E1 a12) a13) a14) 0)), (1, .ref (eT (eUp (eUp (eUp E1 a12) a13) a14) 300)), (2, .int x2), (3, .ref (eA (eUp (eUp (eUp E1 a12) a13) a14) 15))]) hx hb dL_begins_229 hl (k := 4) rfl (by rw [ey4]; first | rfl | decide) (by decide) rfl (fun ls hl => ?_)
      refine lv_goto (tgt := 190) hx hb dL_begins_232 (by decide) ?_
      exact h _ hB C _ _ (by omega) (by omega) _ _ hw _ (lv_sub hl [1, 2, 3, 4, 0] rfl)
  have h := h ?_
  rotate_left
  · intro t x2 x4 x5 x6 x7 w h E1 hB C k n hk hn H locs hw ls hl
    obtain ⟨ht, h⟩ := h
    have hF := hB.F
    refine lv_iload hx hb dL_begins_69 (lv_at hl 7 rfl) ?_
    refine lv_aload_n hx hb dL_begins_71 rfl (lv_at hl 1 rfl) ?_
    refine lv_bipush (v := 10) hx hb dL_begins_72 (by decide) ?_
    refine lv_iload hx hb dL_begins_74 (lv_at hl 4 rfl) ?_
    refine lv_iadd hx hb dL_begins_76 ?_
    refine lv_iconst (v := 3) hx hb dL_begins_77 (by decide) ?_
    refine done_i hw (my_runS (As := [.ref (eT E1 300), .int (10 + x4), .int 3]) (rest := [.int x7]) C hw (mt_L_pickB l C.2.2.2.2.2.2.2 hB.x hE _ _ _ h) K_m_L_15 K_s_L_pick K_n_L K_c_L_pick hy_L_pick ⟨Nat.le_of_ble_eq_true rfl, Nat.le_of_ble_eq_true rfl⟩ hl.1 rfl (Nat.le_of_ble_eq_true rfl) dL_begins_78 ⟨by show _ ≤ (260 : Nat); omega, by show _ ≤ (133120 : Nat); omega⟩) (fun r11 w25 H locs h hw => ?_)
    refine lv_icmp_gt (tgt := 112) hx hb dL_begins_81 (by decide) (fun c3 => ?_) (fun c3 => ?_)
    · have h := h.1 c3
      refine lv_iconst (v := 1) hx hb dL_begins_112 (by decide) ?_
      refine lv_aload_n hx hb dL_begins_113 rfl (lv_at hl 1 rfl) ?_
      refine lv_bipush (v := 15) hx hb dL_begins_114 (by decide) ?_
      refine lv_iload hx hb dL_begins_116 (lv_at hl 4 rfl) ?_
      refine lv_iadd hx hb dL_begins_118 ?_
      refine lv_iconst (v := 3) hx hb dL_begins_119 (by decide) ?_
      refine done_i hw (my_runS (As := [.ref (eT E1 300), .int (15 + x4), .int 3]) (rest := [.int 1]) C hw (mt_L_pickB l C.2.2.2.2.2.2.2 hB.x hE _ _ _ h) K_m_L_15 K_s_L_pick K_n_L K_c_L_pick hy_L_pick ⟨Nat.le_of_ble_eq_true rfl, Nat.le_of_ble_eq_true rfl⟩ hl.1 rfl (Nat.le_of_ble_eq_true rfl) dL_begins_120 ⟨by show _ ≤ (260 : Nat); omega, by show _ ≤ (133120 : Nat); omega⟩) (fun r12 w26 H locs h hw => ?_)
      refine lv_iadd hx hb dL_begins_123 ?_
      refine lv_topi (fun y5 ey5 => ?_)
      have h := h y5 ey5
      refine lv_istore (lv' := [(7, .int y5), (0, .ref (eA E1 0)), (1, .ref (eT E1 300)), (2, .int x2), (3, .ref (eA E1 15)), (4, .int x4), (5, .int x5), (6, .int x6)]) hx hb dL_begins_124 hl (by decide) rfl (fun ls hl => ?_)
      refine lv_aload_n hx hb dL_begins_126 rfl (lv_at hl 2 rfl) ?_
      refine lv_bipush (v := 20) hx hb dL_begins_127 (by decide) ?_
      refine lv_iload hx hb dL_begins_129 (lv_at hl 5 rfl) ?_
      refine lv_iadd hx hb dL_begins_131 ?_
      refine lv_iconst (v := 2) hx hb dL_begins_132 (by decide) ?_
      refine done_i hw (my_runS (As := [.ref (eT E1 300), .int (20 + x4), .int 2]) (rest := []) C hw (mt_L_pickB l C.2.2.2.2.2.2.2 hB.x hE _ _ _ h) K_m_L_15 K_s_L_pick K_n_L K_c_L_pick hy_L_pick ⟨Nat.le_of_ble_eq_true rfl, Nat.le_of_ble_eq_true rfl⟩ hl.1 rfl (Nat.le_of_ble_eq_true rfl) dL_begins_133 ⟨by show _ ≤ (260 : Nat); omega, by show _ ≤ (133120 : Nat); omega⟩) (fun r13 w27 H locs h hw => ?_)
      refine lv_if_ne (tgt := 174) hx hb dL_begins_136 (by decide) (fun c4 => ?_) (fun c4 => ?_)
      · have h := h.2 c4
        exact h _ hB C _ _ (by omega) (by omega) _ _ hw _ (lv_sub hl [1, 2, 3, 4, 5] rfl)
      · have h := h.1 c4
        refine lv_aload_n hx hb dL_begins_139 rfl (lv_at hl 4 rfl) ?_
        refine r_ldcS C 11 (by decide +kernel) dL_begins_140 ?_
        refine done_er C hw (hF 16 (by decide)) (my_runE (As := [.ref (eT E1 (1 + 11))]) (rest := []) C hw 15 9 (hF 15 (by decide)) rfl rfl (mt_J4_append_15ec4 l C.2.2.2.2.2.2.2 (fun o a => hF o (by omega)) 11 (show 11 < 18 by decide) _ h) K_m_L_24 K_i_J4_append_15ec4 (C.2.2.2.2.1 _ K_v_J4_append_15ec4) K_n_J4 K_c_J4_append_15ec4 hy_J4_append_15ec4 ⟨Nat.le_of_ble_eq_true rfl, Nat.le_of_ble_eq_true rfl⟩ hl.1 rfl (Nat.le_of_ble_eq_true rfl) dL_begins_142 ⟨by show _ ≤ (260 : Nat); omega, by show _ ≤ (133120 : Nat); omega⟩) (fun a15 w28 H locs ha h C1 hw => ?_)
        have hB := hB.up ha C1.2.2.2.2.2.2.2 (by intro o h; cases h)
        have C := C1
        have hF := hB.F
        have hl : lv_has ls 8 [(7, .int y5), (0, .ref (eA (eUp E1 a15) 0)), (1, .ref (eT (eUp E1 a15) 300)), (2, .int x2), (3, .ref (eA (eUp E1 a15) 15)), (4, .int x4), (5, .int x5), (6, .int x6)] := hl
        refine lv_iload hx hb dL_begins_145 (lv_at hl 0 rfl) ?_
        refine done_er C hw (hF 16 (by decide)) (my_runE (As := [.int y5]) (rest := []) C hw 15 9 (hF 15 (by decide)) rfl rfl (mt_J4_append_bf812 l C.2.2.2.2.2.2.2 (fun o a => hF o (by omega)) _ _ h) K_m_L_28 K_i_J4_append_bf812 (C.2.2.2.2.1 _ K_v_J4_append_bf812) K_n_J4 K_c_J4_append_bf812 hy_J4_append_bf812 ⟨Nat.le_of_ble_eq_true rfl, Nat.le_of_ble_eq_true rfl⟩ hl.1 rfl (Nat.le_of_ble_eq_true rfl) dL_begins_147 ⟨by show _ ≤ (260 : Nat); omega, by show _ ≤ (133120 : Nat); omega⟩) (fun a16 w29 H locs ha h C1 hw => ?_)
        have hB := hB.up ha C1.2.2.2.2.2.2.2 (by intro o h; cases h)
        have C := C1
        have hF := hB.F
        have hl : lv_has ls 8 [(7, .int y5), (0, .ref (eA (eUp (eUp E1 a15) a16) 0)), (1, .ref (eT (eUp (eUp E1 a15) a16) 300)), (2, .int x2), (3, .ref (eA (eUp (eUp E1 a15) a16) 15)), (4, .int x4), (5, .int x5), (6, .int x6)] := hl
        refine r_ldcS C 10 (by decide +kernel) dL_begins_150 ?_
        refine done_er C hw (hF 16 (by decide)) (my_runE (As := [.ref (eT (eUp (eUp E1 a15) a16) (1 + 10))]) (rest := []) C hw 15 9 (hF 15 (by decide)) rfl rfl (mt_J4_append_15ec4 l C.2.2.2.2.2.2.2 (fun o a => hF o (by omega)) 10 (show 10 < 18 by decide) _ h) K_m_L_24 K_i_J4_append_15ec4 (C.2.2.2.2.1 _ K_v_J4_append_15ec4) K_n_J4 K_c_J4_append_15ec4 hy_J4_append_15ec4 ⟨Nat.le_of_ble_eq_true rfl, Nat.le_of_ble_eq_true rfl⟩ hl.1 rfl (Nat.le_of_ble_eq_true rfl) dL_begins_152 ⟨by show _ ≤ (260 : Nat); omega, by show _ ≤ (133120 : Nat); omega⟩) (fun a17 w30 H locs ha h C1 hw => ?_)
        have hB := hB.up ha C1.2.2.2.2.2.2.2 (by intro o h; cases h)
        have C := C1
        have hF := hB.F
        have hl : lv_has ls 8 [(7, .int y5), (0, .ref (eA (eUp (eUp (eUp E1 a15) a16) a17) 0)), (1, .ref (eT (eUp (eUp (eUp E1 a15) a16) a17) 300)), (2, .int x2), (3, .ref (eA (eUp (eUp (eUp E1 a15) a16) a17) 15)), (4, .int x4), (5, .int x5), (6, .int x6)] := hl
        refine lv_iload hx hb dL_begins_155 (lv_at hl 0 rfl) ?_
        refine lv_iconst (v := 1) hx hb dL_begins_157 (by decide) ?_
        refine lv_iadd hx hb dL_begins_158 ?_
        refine lv_aload_n hx hb dL_begins_159 rfl (lv_at hl 2 rfl) ?_
        refine lv_bipush (v := 25) hx hb dL_begins_160 (by decide) ?_
        refine lv_iload hx hb dL_begins_162 (lv_at hl 5 rfl) ?_
        refine lv_iadd hx hb dL_begins_164 ?_
        refine lv_iconst (v := 2) hx hb dL_begins_165 (by decide) ?_
        refine done_i hw (my_runS (As := [.ref (eT (eUp (eUp (eUp E1 a15) a16) a17) 300), .int (25 + x4), .int 2]) (rest := [.int (y5 + 1), .ref (eA (eUp (eUp (eUp E1 a15) a16) a17) 15)]) C hw (mt_L_pickB l C.2.2.2.2.2.2.2 hB.x hE _ _ _ h) K_m_L_15 K_s_L_pick K_n_L K_c_L_pick hy_L_pick ⟨Nat.le_of_ble_eq_true rfl, Nat.le_of_ble_eq_true rfl⟩ hl.1 rfl (Nat.le_of_ble_eq_true rfl) dL_begins_166 ⟨by show _ ≤ (260 : Nat); omega, by show _ ≤ (133120 : Nat); omega⟩) (fun r14 w31 H locs h hw => ?_)
        refine lv_iadd hx hb dL_begins_169 ?_
        refine done_er C hw (hF 16 (by decide)) (my_runE (As := [.int ((y5 + 1) + r14)]) (rest := []) C hw 15 9 (hF 15 (by decide)) rfl rfl (mt_J4_append_bf812 l C.2.2.2.2.2.2.2 (fun o a => hF o (by omega)) _ _ h) K_m_L_28 K_i_J4_append_bf812 (C.2.2.2.2.1 _ K_v_J4_append_bf812) K_n_J4 K_c_J4_append_bf812 hy_J4_append_bf812 ⟨Nat.le_of_ble_eq_true rfl, Nat.le_of_ble_eq_true rfl⟩ hl.1 rfl (Nat.le_of_ble_eq_true rfl) dL_begins_170 ⟨by show _ ≤ (260 : Nat); omega, by show _ ≤ (133120 : Nat); omega⟩) (fun a18 w32 H locs ha h C1 hw => ?_)
        have hB := hB.up ha C1.2.2.2.2.2.2.2 (by intro o h; cases h)
        have C := C1
        have hF := hB.F
        have hl : lv_has ls 8 [(7, .int y5), (0, .ref (eA (eUp (eUp (eUp (eUp E1 a15) a16) a17) a18) 0)), (1, .ref (eT (eUp (eUp (eUp (eUp E1 a15) a16) a17) a18) 300)), (2, .int x2), (3, .ref (eA (eUp (eUp (eUp (eUp E1 a15) a16) a17) a18) 15)), (4, .int x4), (5, .int x5), (6, .int x6)] := hl
        refine lv_pop hx hb dL_begins_173 rfl ?_
        exact h _ hB C _ _ (by omega) (by omega) _ _ hw _ (lv_sub hl [1, 2, 3, 4, 5] rfl)
    · have h := h.2 c3
      refine lv_aload_n hx hb dL_begins_84 rfl (lv_at hl 3 rfl) ?_
      refine r_ldcS C 10 (by decide +kernel) dL_begins_85 ?_
      refine done_er C hw (hF 16 (by decide)) (my_runE (As := [.ref (eT E1 (1 + 10))]) (rest := []) C hw 15 9 (hF 15 (by decide)) rfl rfl (mt_J4_append_15ec4 l C.2.2.2.2.2.2.2 (fun o a => hF o (by omega)) 10 (show 10 < 18 by decide) _ h) K_m_L_24 K_i_J4_append_15ec4 (C.2.2.2.2.1 _ K_v_J4_append_15ec4) K_n_J4 K_c_J4_append_15ec4 hy_J4_append_15ec4 ⟨Nat.le_of_ble_eq_true rfl, Nat.le_of_ble_eq_true rfl⟩ hl.1 rfl (Nat.le_of_ble_eq_true rfl) dL_begins_87 ⟨by show _ ≤ (260 : Nat); omega, by show _ ≤ (133120 : Nat); omega⟩) (fun a19 w33 H locs ha h C1 hw => ?_)
      have hB := hB.up ha C1.2.2.2.2.2.2.2 (by intro o h; cases h)
      have C := C1
      have hF := hB.F
      have hl : lv_has ls 8 [(0, .ref (eA (eUp E1 a19) 0)), (1, .ref (eT (eUp E1 a19) 300)), (2, .int x2), (3, .ref (eA (eUp E1 a19) 15)), (4, .int x4), (5, .int x5), (6, .int x6), (7, .int x7)] := hl
      refine lv_iload hx hb dL_begins_90 (lv_at hl 6 rfl) ?_
      refine lv_iload hx hb dL_begins_92 (lv_at hl 7 rfl) ?_
      refine lv_iadd hx hb dL_begins_94 ?_
      refine lv_iconst (v := 1) hx hb dL_begins_95 (by decide) ?_
      refine lv_isub hx hb dL_begins_96 ?_
      refine lv_iload hx hb dL_begins_97 (lv_at hl 5 rfl) ?_
      obtain ⟨hz1, h⟩ := h
      refine lv_irem hx hb dL_begins_99 hz1 ?_
      refine lv_iconst (v := 1) hx hb dL_begins_100 (by decide) ?_
      refine lv_iadd hx hb dL_begins_101 ?_
      refine done_er C hw (hF 16 (by decide)) (my_runE (As := [.int ((((x6 + x7) - 1) - ((x6 + x7) - 1) / x5 * x5) + 1)]) (rest := []) C hw 15 9 (hF 15 (by decide)) rfl rfl (mt_J4_append_bf812 l C.2.2.2.2.2.2.2 (fun o a => hF o (by omega)) _ _ h) K_m_L_28 K_i_J4_append_bf812 (C.2.2.2.2.1 _ K_v_J4_append_bf812) K_n_J4 K_c_J4_append_bf812 hy_J4_append_bf812 ⟨Nat.le_of_ble_eq_true rfl, Nat.le_of_ble_eq_true rfl⟩ hl.1 rfl (Nat.le_of_ble_eq_true rfl) dL_begins_102 ⟨by show _ ≤ (260 : Nat); omega, by show _ ≤ (133120 : Nat); omega⟩) (fun a20 w34 H locs ha h C1 hw => ?_)
      have hB := hB.up ha C1.2.2.2.2.2.2.2 (by intro o h; cases h)
      have C := C1
      have hF := hB.F
      have hl : lv_has ls 8 [(0, .ref (eA (eUp (eUp E1 a19) a20) 0)), (1, .ref (eT (eUp (eUp E1 a19) a20) 300)), (2, .int x2), (3, .ref (eA (eUp (eUp E1 a19) a20) 15)), (4, .int x4), (5, .int x5), (6, .int x6), (7, .int x7)] := hl
      refine lv_pop hx hb dL_begins_105 rfl ?_
      obtain ⟨y6, ey6⟩ : ∃ y : Int32, y = x7 + 1 := ⟨_, rfl⟩
      have h := h y6 ey6
      refine lv_iinc (v := y6) (lv' := [(7, .int y6), (0, .ref (eA (eUp (eUp E1 a19) a20) 0)), (1, .ref (eT (eUp (eUp E1 a19) a20) 300)), (2, .int x2), (3, .ref (eA (eUp (eUp E1 a19) a20) 15)), (4, .int x4), (5, .int x5), (6, .int x6)]) hx hb dL_begins_106 hl (k := 7) rfl (by rw [ey6]; first | rfl | decide) (by decide) rfl (fun ls hl => ?_)
      refine lv_goto (tgt := 69) hx hb dL_begins_109 (by decide) ?_
      exact h _ hB C _ _ (by omega) (by omega) _ _ hw _ (lv_sub hl [1, 2, 3, 4, 5, 6, 7, 0] rfl)
  have h := h ?_
  rotate_left
  · intro t x2 x4 x5 w h E1 hB C k n hk hn H locs hw ls hl
    obtain ⟨ht, h⟩ := h
    have hF := hB.F
    refine lv_iload hx hb dL_begins_311 (lv_at hl 4 rfl) ?_
    refine lv_iload hx hb dL_begins_313 (lv_at hl 3 rfl) ?_
    refine lv_icmp_ge (tgt := 412) hx hb dL_begins_315 (by decide) (fun c5 => ?_) (fun c5 => ?_)
    · have h := h.1 c5
      refine lv_aload_n hx hb dL_begins_412 rfl (lv_at hl 0 rfl) ?_
      refine lv_iload hx hb dL_begins_413 (lv_at hl 3 rfl) ?_
      unfold wp_L_parse at h
      refine lb_done_xi hB (by intro o h; cases h) C hw (my_runVX (As := [.int x4]) (rest := []) (ERb_C hB C) (ERb_W hB hw) 0 8 (ERb_F _ 0 (by decide)) rfl rfl (mt_X8_parse l hT (ERb_C hB C).2.2.2.2.2.2.2 (ERb_F _) _ _ h) K_m_L_56 K_i_X8_parse K_v_X8_parse K_n_X8 K_c_X8_parse hy_X8_parse ⟨Nat.le_of_ble_eq_true rfl, Nat.le_of_ble_eq_true rfl⟩ hl.1 rfl (Nat.le_of_ble_eq_true rfl) dL_begins_415 ⟨by show _ ≤ (260 : Nat); omega, by show _ ≤ (133120 : Nat); omega⟩) (fun ke we h => absurd h.2.1 (by decide)) (fun r15 w35 H locs h hw => ?_)
      have h := (h _ rfl).2
      have hw := hB.mxL (by intro o h; cases h) hw (x := r15.toInt64)
      have er := gL_25 w35 r15
      generalize sL w35 25 0 r15.toInt64 = w35 at h hw er
      rw [← er]
      refine lv_iload_n hx hb dL_begins_418 rfl (lv_at hl 1 rfl) ?_
      refine lv_icmp_ne (tgt := 426) hx hb dL_begins_419 (by decide) (fun c6 => ?_) (fun c6 => ?_)
      · have h := h.2 c6
        refine lv_iconst (v := 0) hx hb dL_begins_426 (by decide) ?_
        rw [hQ]
        exact ret_bg hL hB C hr hlk hw h (by decide) ⟨by omega, by omega⟩ dL_begins_427
      · have h := h.1 c6
        refine lv_iconst (v := 1) hx hb dL_begins_422 (by decide) ?_
        refine lv_goto (tgt := 427) hx hb dL_begins_423 (by decide) ?_
        rw [hQ]
        exact ret_bg hL hB C hr hlk hw h (by decide) ⟨by omega, by omega⟩ dL_begins_427
    · have h := h.2 c5
      refine lv_iconst (v := 5) hx hb dL_begins_318 (by decide) ?_
      refine r_new5 hB C hw rfl ⟨by show _ ≤ (260 : Nat); omega, by show _ ≤ (133120 : Nat); omega⟩ dL_begins_319 (fun q1 H hB C hw => ?_)
      have hl : lv_has ls 8 [(0, .ref (eA (eAdd E1 q1) 0)), (2, .int x2), (3, .ref (eA (eAdd E1 q1) 15)), (4, .int x4), (5, .int x5)] := hl
      have h20 : 20 ∈ eL (eAdd E1 q1) := List.mem_cons_self
      refine lv_astore (lv' := [(6, .ref (eA (eAdd E1 q1) 20)), (0, .ref (eA (eAdd E1 q1) 0)), (2, .int x2), (3, .ref (eA (eAdd E1 q1) 15)), (4, .int x4), (5, .int x5)]) hx hb dL_begins_321 hl (by decide) rfl (fun ls hl => ?_)
      refine lv_iconst (v := 0) hx hb dL_begins_323 (by decide) ?_
      refine lv_istore (lv' := [(7, .int 0), (6, .ref (eA (eAdd E1 q1) 20)), (0, .ref (eA (eAdd E1 q1) 0)), (2, .int x2), (3, .ref (eA (eAdd E1 q1) 15)), (4, .int x4), (5, .int x5)]) hx hb dL_begins_324 hl (by decide) rfl (fun ls hl => ?_)
      exact h _ hB C _ _ (by omega) (by omega) _ _ hw _ (lv_sub hl [2, 3, 4, 5, 6, 1, 0] rfl)
  have h := h ?_
  rotate_left
  · intro t x2 x4 w h E1 hB C k n hk hn H locs hw ls hl
    obtain ⟨ht, h⟩ := h
    have hF := hB.F
    refine lv_aload_n hx hb dL_begins_174 rfl (lv_at hl 3 rfl) ?_
    refine r_ldcS C 12 (by decide +kernel) dL_begins_175 ?_
    refine done_er C hw (hF 16 (by decide)) (my_runE (As := [.ref (eT E1 (1 + 12))]) (rest := []) C hw 15 9 (hF 15 (by decide)) rfl rfl (mt_J4_append_15ec4 l C.2.2.2.2.2.2.2 (fun o a => hF o (by omega)) 12 (show 12 < 18 by decide) _ h) K_m_L_24 K_i_J4_append_15ec4 (C.2.2.2.2.1 _ K_v_J4_append_15ec4) K_n_J4 K_c_J4_append_15ec4 hy_J4_append_15ec4 ⟨Nat.le_of_ble_eq_true rfl, Nat.le_of_ble_eq_true rfl⟩ hl.1 rfl (Nat.le_of_ble_eq_true rfl) dL_begins_177 ⟨by show _ ≤ (260 : Nat); omega, by show _ ≤ (133120 : Nat); omega⟩) (fun a21 w36 H locs ha h C1 hw => ?_)
    have hB := hB.up ha C1.2.2.2.2.2.2.2 (by intro o h; cases h)
    have C := C1
    have hF := hB.F
    have hl : lv_has ls 8 [(0, .ref (eA (eUp E1 a21) 0)), (1, .ref (eT (eUp E1 a21) 300)), (2, .int x2), (3, .ref (eA (eUp E1 a21) 15)), (4, .int x4)] := hl
    refine lv_pop hx hb dL_begins_180 rfl ?_
    obtain ⟨y7, ey7⟩ : ∃ y : Int32, y = x4 + 1 := ⟨_, rfl⟩
    have h := h y7 ey7
    refine lv_iinc (v := y7) (lv' := [(4, .int y7), (0, .ref (eA (eUp E1 a21) 0)), (1, .ref (eT (eUp E1 a21) 300)), (2, .int x2), (3, .ref (eA (eUp E1 a21) 15))]) hx hb dL_begins_181 hl (k := 4) rfl (by rw [ey7]; first | rfl | decide) (by decide) rfl (fun ls hl => ?_)
    refine lv_goto (tgt := 20) hx hb dL_begins_184 (by decide) ?_
    exact h _ hB C _ _ (by omega) (by omega) _ _ hw _ (lv_sub hl [1, 2, 3, 4, 0] rfl)
  have h := h ?_
  rotate_left
  · intro t x2 x4 x5 x7 w h E1 hB C k n hk hn H locs hw ls hl
    obtain ⟨ht, h⟩ := h
    have hF := hB.F
    have h20 : 20 ∈ eL E1 := by rw [hB.2.1]; exact List.mem_cons_self
    refine lv_iload hx hb dL_begins_326 (lv_at hl 6 rfl) ?_
    refine lv_bipush (v := 20) hx hb dL_begins_328 (by decide) ?_
    refine lv_icmp_ge (tgt := 381) hx hb dL_begins_330 (by decide) (fun c7 => ?_) (fun c7 => ?_)
    · have h := h.1 c7
      refine lv_aload_n hx hb dL_begins_381 rfl (lv_at hl 0 rfl) ?_
      refine lv_aload hx hb dL_begins_382 (lv_at hl 5 rfl) ?_
      refine lv_iconst (v := 0) hx hb dL_begins_384 (by decide) ?_
      refine r_iald C hw 20 5 h20 rfl (vp_lit (by decide)) dL_begins_385 ?_
      refine lv_aload hx hb dL_begins_386 (lv_at hl 5 rfl) ?_
      refine lv_iconst (v := 1) hx hb dL_begins_388 (by decide) ?_
      refine r_iald C hw 20 5 h20 rfl (vp_lit (by decide)) dL_begins_389 ?_
      refine lv_aload hx hb dL_begins_390 (lv_at hl 5 rfl) ?_
      refine lv_iconst (v := 2) hx hb dL_begins_392 (by decide) ?_
      refine r_iald C hw 20 5 h20 rfl (vp_lit (by decide)) dL_begins_393 ?_
      refine lv_aload hx hb dL_begins_394 (lv_at hl 5 rfl) ?_
      refine lv_iconst (v := 3) hx hb dL_begins_396 (by decide) ?_
      refine r_iald C hw 20 5 h20 rfl (vp_lit (by decide)) dL_begins_397 ?_
      refine lv_aload hx hb dL_begins_398 (lv_at hl 5 rfl) ?_
      refine lv_iconst (v := 4) hx hb dL_begins_400 (by decide) ?_
      refine r_iald C hw 20 5 h20 rfl (vp_lit (by decide)) dL_begins_401 ?_
      refine lb_done_i hB (by simp) C hw (my_runV (As := [.int (gA w 20 0), .int (gA w 20 1), .int (gA w 20 2), .int (gA w 20 3), .int (gA w 20 4)]) (rest := []) (ERb_C hB C) (ERb_W hB hw) 0 8 (ERb_F _ 0 (by decide)) rfl rfl (mt_X8_append l (ERb_C hB C).2.2.2.2.2.2.2 (ERb_F _) _ _ _ _ _ _ h) K_m_L_51 K_i_X8_append K_v_X8_append K_n_X8 K_c_X8_append hy_X8_append ⟨Nat.le_of_ble_eq_true rfl, Nat.le_of_ble_eq_true rfl⟩ hl.1 rfl (Nat.le_of_ble_eq_true rfl) dL_begins_402 ⟨by show _ ≤ (260 : Nat); omega, by show _ ≤ (133120 : Nat); omega⟩) (fun r16 w37 H locs h hw => ?_)
      refine lv_pop hx hb dL_begins_405 rfl ?_
      obtain ⟨y8, ey8⟩ : ∃ y : Int32, y = x5 + 20 := ⟨_, rfl⟩
      have h := h y8 ey8
      refine lv_iinc (v := y8) (lv' := [(5, .int y8), (0, .ref (eA E1 0)), (2, .int x2), (3, .ref (eA E1 15)), (4, .int x4), (6, .ref (eA E1 20)), (7, .int x7)]) hx hb dL_begins_406 hl (k := 4) rfl (by rw [ey8]; first | rfl | decide) (by decide) rfl (fun ls hl => ?_)
      refine lv_goto (tgt := 311) hx hb dL_begins_409 (by decide) ?_
      obtain ⟨hB, C, hw⟩ := bg_drop hB C hw
      have hl : lv_has ls 8 [(5, .int y8), (0, .ref (eA (eDrop E1) 0)), (2, .int x2), (3, .ref (eA (eDrop E1) 15)), (4, .int x4), (6, .ref (eA (eDrop E1) 20)), (7, .int x7)] := hl
      exact h _ hB C _ _ (by omega) (by omega) _ _ hw _ (lv_sub hl [1, 2, 3, 4, 0] rfl)
    · have h := h.2 c7
      refine lv_aload hx hb dL_begins_333 (lv_at hl 5 rfl) ?_
      refine lv_iload hx hb dL_begins_335 (lv_at hl 6 rfl) ?_
      refine lv_iconst (v := 4) hx hb dL_begins_337 (by decide) ?_
      refine lv_idiv hx hb dL_begins_338 (by decide) ?_
      refine lv_aload hx hb dL_begins_339 (lv_at hl 5 rfl) ?_
      refine lv_iload hx hb dL_begins_341 (lv_at hl 6 rfl) ?_
      refine lv_iconst (v := 4) hx hb dL_begins_343 (by decide) ?_
      refine lv_idiv hx hb dL_begins_344 (by decide) ?_
      obtain ⟨hi6, h⟩ := h
      refine r_iald C hw 20 5 h20 rfl hi6 dL_begins_345 ?_
      refine lv_bipush (v := 8) hx hb dL_begins_346 (by decide) ?_
      refine lv_ishl hx hb dL_begins_348 ?_
      refine lv_iload hx hb dL_begins_349 (lv_at hl 4 rfl) ?_
      refine lv_iload hx hb dL_begins_351 (lv_at hl 6 rfl) ?_
      refine lv_iadd hx hb dL_begins_353 ?_
      refine lv_iload hx hb dL_begins_354 (lv_at hl 3 rfl) ?_
      refine lv_icmp_ge (tgt := 371) hx hb dL_begins_356 (by decide) (fun c8 => ?_) (fun c8 => ?_)
      · have h := h.1 c8
        refine lv_bipush (v := 32) hx hb dL_begins_371 (by decide) ?_
        refine lv_ior hx hb dL_begins_373 ?_
        refine lv_topi (fun y9 ey9 => ?_)
        have h := h y9 ey9
        obtain ⟨hi7, h⟩ := h
        refine r_iast C hw 20 5 h20 (fun _ => rfl) hi7 dL_begins_374 (fun H locs hw => ?_)
        obtain ⟨y10, ey10⟩ : ∃ y : Int32, y = x7 + 1 := ⟨_, rfl⟩
        have h := h y10 ey10
        refine lv_iinc (v := y10) (lv' := [(7, .int y10), (0, .ref (eA E1 0)), (2, .int x2), (3, .ref (eA E1 15)), (4, .int x4), (5, .int x5), (6, .ref (eA E1 20))]) hx hb dL_begins_375 hl (k := 6) rfl (by rw [ey10]; first | rfl | decide) (by decide) rfl (fun ls hl => ?_)
        refine lv_goto (tgt := 326) hx hb dL_begins_378 (by decide) ?_
        exact h _ hB C _ _ (by omega) (by omega) _ _ hw _ (lv_sub hl [1, 2, 3, 4, 5, 6, 0] rfl)
      · have h := h.2 c8
        refine lv_aload_n hx hb dL_begins_359 rfl (lv_at hl 2 rfl) ?_
        refine lv_iload hx hb dL_begins_360 (lv_at hl 4 rfl) ?_
        refine lv_iload hx hb dL_begins_362 (lv_at hl 6 rfl) ?_
        refine lv_iadd hx hb dL_begins_364 ?_
        refine done_i hw (my_runV (As := [.int (x5 + x7)]) (rest := [.int ((gA w 20 ((x7 / 4).toNatClampNeg)) <<< (8 &&& 31)), .int (x7 / 4), .ref (eA E1 20)]) C hw 15 9 (hF 15 (by decide)) rfl rfl (mt_J4_charAt_5068e l C.2.2.2.2.2.2.2 hF _ _ h) K_m_L_47 K_i_J4_charAt_5068e K_v_J4_charAt_5068e K_n_J4 K_c_J4_charAt_5068e hy_J4_charAt_5068e ⟨Nat.le_of_ble_eq_true rfl, Nat.le_of_ble_eq_true rfl⟩ hl.1 rfl (Nat.le_of_ble_eq_true rfl) dL_begins_365 ⟨by show _ ≤ (260 : Nat); omega, by show _ ≤ (133120 : Nat); omega⟩) (fun r17 w38 H locs h hw => ?_)
        refine lv_goto (tgt := 373) hx hb dL_begins_368 (by decide) ?_
        refine lv_ior hx hb dL_begins_373 ?_
        refine lv_topi (fun y11 ey11 => ?_)
        have h := h y11 ey11
        obtain ⟨hi8, h⟩ := h
        refine r_iast C hw 20 5 h20 (fun _ => rfl) hi8 dL_begins_374 (fun H locs hw => ?_)
        obtain ⟨y12, ey12⟩ : ∃ y : Int32, y = x7 + 1 := ⟨_, rfl⟩
        have h := h y12 ey12
        refine lv_iinc (v := y12) (lv' := [(7, .int y12), (0, .ref (eA E1 0)), (2, .int x2), (3, .ref (eA E1 15)), (4, .int x4), (5, .int x5), (6, .ref (eA E1 20))]) hx hb dL_begins_375 hl (k := 6) rfl (by rw [ey12]; first | rfl | decide) (by decide) rfl (fun ls hl => ?_)
        refine lv_goto (tgt := 326) hx hb dL_begins_378 (by decide) ?_
        exact h _ hB C _ _ (by omega) (by omega) _ _ hw _ (lv_sub hl [1, 2, 3, 4, 5, 6, 0] rfl)
  refine lv_iconst (v := 1) hx hb dL_begins_0 (by decide) ?_
  refine lv_aload_n hx hb dL_begins_1 rfl (lv_at hl 1 rfl) ?_
  refine lv_iconst (v := 0) hx hb dL_begins_2 (by decide) ?_
  refine lv_iconst (v := 3) hx hb dL_begins_3 (by decide) ?_
  refine done_i hw (my_runS (As := [.ref (eT E 300), .int 0, .int 3]) (rest := [.int 1]) C hw (mt_L_pickB l C.2.2.2.2.2.2.2 ⟨rfl, rfl⟩ hE _ _ _ h) K_m_L_15 K_s_L_pick K_n_L K_c_L_pick hy_L_pick ⟨Nat.le_of_ble_eq_true rfl, Nat.le_of_ble_eq_true rfl⟩ hl.1 rfl (Nat.le_of_ble_eq_true rfl) dL_begins_4 ⟨by show _ ≤ (260 : Nat); omega, by show _ ≤ (133120 : Nat); omega⟩) (fun r1 w1 H locs h hw => ?_)
  refine lv_iadd hx hb dL_begins_7 ?_
  refine lv_topi (fun y1 ey1 => ?_)
  have h := h y1 ey1
  refine lv_istore_n (lv' := [(2, .int y1), (0, .ref (eA E 0)), (1, .ref (eT E 300))]) hx hb dL_begins_8 rfl hl (by decide) rfl (fun ls hl => ?_)
  obtain ⟨hP, hS⟩ := hw
  have hP : va_P E.1 vwCl (wsE E w1 ++ []) H := by rw [List.append_nil]; exact hP
  have hD : va_D (AA E s.heap.size) (wsE E w1 ++ []) := by rw [List.append_nil]; exact ws_D hI
  refine ct_new (X := wsE E w1) (pl := []) C.toC hP hD hS 9 tyJ4 tyJ4_ok rfl inB9 K_k_L_19 K_a_J4 K_n_J4 (fs := [.null, .int 0, .int 0, .int 0]) (fun j hj => by rcases (show j = 0 ∨ j = 1 ∨ j = 2 ∨ j = 3 by omega) with rfl | rfl | rfl | rfl <;> rfl) ⟨Nat.le_of_ble_eq_true rfl, Nat.le_of_ble_eq_true rfl⟩ dL_begins_9 (fun q1 H hP hD hS => ?_)
  refine lv_dup hx hb dL_begins_12 rfl ?_
  refine ct_init (X := wsE E w1) (pl := []) C.toC hP hD hS (mt_J4_init_da8c8 l E) K_m_L_21 K_i_J4_init_da8c8 K_n_J4 K_c_J4_init_da8c8 rfl hy_J4_init_da8c8 ⟨Nat.le_of_ble_eq_true rfl, Nat.le_of_ble_eq_true rfl⟩ hl.1 (Nat.le_of_ble_eq_true rfl) dL_begins_13 ⟨Nat.le_of_ble_eq_true rfl, Nat.le_of_ble_eq_true rfl⟩ (fun u w2 H locs hu hp hPn hDn hS => ?_)
  subst hu
  obtain ⟨hB, C, hw⟩ := bg_start hL hJ C hPn hDn hS hp
  have h := h w2 hp
  have hF := hB.F
  have hl : lv_has ls 8 [(2, .int y1), (0, .ref (eA (eSB E u) 0)), (1, .ref (eT (eSB E u) 300))] := hl
  refine lv_astore_n (lv' := [(3, .ref (eA (eSB E u) 15)), (2, .int y1), (0, .ref (eA (eSB E u) 0)), (1, .ref (eT (eSB E u) 300))]) hx hb dL_begins_16 rfl hl (by decide) rfl (fun ls hl => ?_)
  refine lv_iconst (v := 0) hx hb dL_begins_17 (by decide) ?_
  refine lv_istore (lv' := [(4, .int 0), (3, .ref (eA (eSB E u) 15)), (2, .int y1), (0, .ref (eA (eSB E u) 0)), (1, .ref (eT (eSB E u) 300))]) hx hb dL_begins_18 hl (by decide) rfl (fun ls hl => ?_)
  exact h _ hB C _ _ (by omega) (by omega) _ _ hw _ (lv_sub hl [3, 4, 2, 1, 0] rfl)

/-! the law's body -/
theorem law_end {E : En} {p : Program} {l : Launch} {e : Env} {s : State} {m : MethodId} {args : Array Value} {below : List Frame} {meth : Method} {c : Code} {H : Heap} {locs : List Loc} {k n : Nat} {Q : State → Prop} {nL pc b : Nat} {own : String} {ls : Array Slot} {w : Wd} (hargs : args = #[Value.ref b]) (hQ : Q = lw_Z below args s) (C : Cx E p s m args c code nL own) (hr : meth.sig.returnType = ret) (hlk : meth.locks = false) (hw : Wo E s w H locs) (hlz : ∀ o, o ∈ eL E → s.heap.size ≤ eA E o) (hJ : ∀ q, ¬ eJ E q) (hk : k ≤ 600086) (hn : n ≤ 7301442) (hd : decode code pc = .ok (.ireturn, 1)) : W p l e room_1 s m args below meth c H locs k n Q (F0 m pc ls [.int 1]) := by
  subst hargs
  subst hQ
  refine va_forget (fun q hq => ?_) ?_
  · rcases hw.2.2.2 q hq with ⟨o, ho, h⟩ | h | h
    · rw [h]; exact hlz o ho
    · exact (hJ _ h).elim
    · exact h
  refine W.widen (k := 600086) (n := 7301442) hk hn ?_
  refine W.base ?_
  exact lw_ret (Drawn.sameBut.refl s.drawn lw_cs) C.1 C.2.1 hr hlk hd
def wp_law (N : Nat) (X : Nat → Int32) (w : Wd) : Prop :=
  ∀ J53 : Nat → Int32 → Int32 → Int32 → Wd → Prop, ∀ J114 : Nat → Int32 → Int32 → Wd → Prop, ∀ J117 : Nat → Int32 → Int32 → Int32 → Wd → Prop, ∀ J217 : Nat → Int32 → Int32 → Wd → Prop, ∀ J146 : Nat → Int32 → Int32 → Int32 → Int32 → Wd → Prop, ∀ J253 : Nat → Wd → Prop, ∀ J164 : Nat → Int32 → Int32 → Int32 → Int32 → Wd → Prop, ∀ J193 : Nat → Int32 → Int32 → Int32 → Wd → Prop, (∀ (t : Nat) (x2 : Int32) (x3 : Int32) (x4 : Int32) (w : Wd), t + 131 ≤ 1000 ∧ (wp_L_size w 0 (fun cx3 w6 => cx3 = 0 ∧ ((((gL w6 25 0).toInt32) ≤ x4 → (wp_X8_sum w6 (fun r7 w7 => (x3 = r7 → (wp_X8_isRight w7 (fun r8 w8 => (r8 = 0 → (False)) ∧ (¬ r8 = 0 → (wp_L_isCounted w8 (fun r9 w9 => (r9 = 0 → (False)) ∧ (¬ r9 = 0 → ((x3 = 0 → (J114 (t + 131) x2 0 w9)) ∧ (¬ x3 = 0 → (J114 (t + 131) x2 1 w9)))))))))) ∧ (¬ x3 = r7 → (False))))) ∧ (¬ ((gL w6 25 0).toInt32) ≤ x4 → (wp_L_ladder w6 x4 3 (fun cx4 w10 => cx4 = 0 ∧ (∀ y2 : Int32, y2 = x3 ^^^ ((gL w10 25 0).toInt32) → (∀ y3 : Int32, y3 = x4 + 1 → (J53 (t + 2) x2 y2 y3 w10))))))))) → J53 t x2 x3 x4 w) →
  (∀ (t : Nat) (x2 : Int32) (x4 : Int32) (w : Wd), t + 0 ≤ 1000 ∧ (J117 t x2 x4 0 w) → J114 t x2 x4 w) →
  (∀ (t : Nat) (x2 : Int32) (x4 : Int32) (x5 : Int32) (w : Wd), t + 1 ≤ 1000 ∧ ((90 ≤ x5 → (J217 t x2 x4 w)) ∧ (¬ 90 ≤ x5 → (wp_L_size w 3 (fun cx5 w11 => cx5 = 0 ∧ ((((gL w11 25 0).toInt32) = 0 → (wp_X8_sum w11 (fun r12 w12 => (r12 = 0 → (J146 (t + 1) x2 x4 x5 0 w12)) ∧ (¬ r12 = 0 → (J146 (t + 1) x2 x4 x5 1 w12))))) ∧ (¬ ((gL w11 25 0).toInt32) = 0 → (J217 (t + 1) x2 x4 w11))))))) → J117 t x2 x4 x5 w) →
  (∀ (t : Nat) (x2 : Int32) (x4 : Int32) (w : Wd), t + 2 ≤ 1000 ∧ (wp_L_size w 3 (fun cx6 w13 => cx6 = 0 ∧ ((((gL w13 25 0).toInt32) = 1 → (wp_X8_sum w13 (fun r14 w14 => (r14 = 0 → (wp_L_size w14 4 (fun cx7 w15 => cx7 = 0 ∧ ((x4 = 0 → ((((gL w15 25 0).toInt32) = (1 - x2) → (J253 (t + 2) w15)) ∧ (¬ ((gL w15 25 0).toInt32) = (1 - x2) → (False)))) ∧ (¬ x4 = 0 → ((((gL w15 25 0).toInt32) = x2 → (J253 (t + 2) w15)) ∧ (¬ ((gL w15 25 0).toInt32) = x2 → (False)))))))) ∧ (¬ r14 = 0 → (False))))) ∧ (¬ ((gL w13 25 0).toInt32) = 1 → (False))))) → J217 t x2 x4 w) →
  (∀ (t : Nat) (x2 : Int32) (x4 : Int32) (x5 : Int32) (x6 : Int32) (w : Wd), t + 0 ≤ 1000 ∧ (wp_X8_best w (fun r16 w16 => (r16 = ((-1)) → ((1 = x6 → (False)) ∧ (¬ 1 = x6 → (J164 t x2 x4 x5 x6 w16)))) ∧ (¬ r16 = ((-1)) → ((0 = x6 → (False)) ∧ (¬ 0 = x6 → (J164 t x2 x4 x5 x6 w16)))))) → J146 t x2 x4 x5 x6 w) →
  (∀ (t : Nat) (w : Wd), t + 2 ≤ 1000 ∧ (wp_X8_allowed w (fun r17 w17 => (r17 = 0 → (wp_L_play w17 1 (fun cx8 w18 => cx8 = 0 ∧ ((((gL w18 25 0).toInt32) = 0 → (wp_L_refuses w18 (fun r19 w19 => (r19 = 0 → (False)) ∧ (¬ r19 = 0 → (True))))) ∧ (¬ ((gL w18 25 0).toInt32) = 0 → (False)))))) ∧ (¬ r17 = 0 → (False)))) → J253 t w) →
  (∀ (t : Nat) (x2 : Int32) (x4 : Int32) (x5 : Int32) (x6 : Int32) (w : Wd), t + 1 ≤ 1000 ∧ (wp_L_size w 1 (fun cx9 w20 => cx9 = 0 ∧ ((((gL w20 25 0).toInt32) = x2 → ((x4 = 1 → ((x6 = 1 → (J193 (t + 1) x2 x4 x5 w20)) ∧ (¬ x6 = 1 → (False)))) ∧ (¬ x4 = 1 → ((x6 = 0 → (J193 (t + 1) x2 x4 x5 w20)) ∧ (¬ x6 = 0 → (False)))))) ∧ (¬ ((gL w20 25 0).toInt32) = x2 → ((x4 = 0 → ((x6 = 1 → (J193 (t + 1) x2 x4 x5 w20)) ∧ (¬ x6 = 1 → (False)))) ∧ (¬ x4 = 0 → ((x6 = 0 → (J193 (t + 1) x2 x4 x5 w20)) ∧ (¬ x6 = 0 → (False))))))))) → J164 t x2 x4 x5 x6 w) →
  (∀ (t : Nat) (x2 : Int32) (x4 : Int32) (x5 : Int32) (w : Wd), t + 1 ≤ 1000 ∧ (wp_L_play w 1 (fun cx10 w21 => cx10 = 0 ∧ ((((gL w21 25 0).toInt32) = 1 → (wp_X8_isRight w21 (fun r22 w22 => (r22 = 0 → (False)) ∧ (¬ r22 = 0 → (∀ y4 : Int32, y4 = x5 + 1 → (J117 (t + 1) x2 x4 y4 w22)))))) ∧ (¬ ((gL w21 25 0).toInt32) = 1 → (False))))) → J193 t x2 x4 x5 w) →
  wp_L_size w 3 (fun cx1 w1 => cx1 = 0 ∧ ((((gL w1 25 0).toInt32) = 1 → (wp_X8_sum w1 (fun r2 w2 => (r2 = 0 → (wp_X8_undo w2 (fun r3 w3 => (r3 = ((-1)) → (wp_L_begins N X w3 (fun r4 w4 => (r4 = 0 → (False)) ∧ (¬ r4 = 0 → (wp_L_size w4 1 (fun cx2 w5 => cx2 = 0 ∧ (∀ y1 : Int32, y1 = (gL w5 25 0).toInt32 → (J53 (0 + 132) y1 0 0 w5)))))))) ∧ (¬ r3 = ((-1)) → (False))))) ∧ (¬ r2 = 0 → (False))))) ∧ (¬ ((gL w1 25 0).toInt32) = 1 → (False))))
set_option maxHeartbeats 40000000 in
set_option maxRecDepth 100000 in
theorem law_body (l : Launch) (hT : l.stackTraces = false) {E : En} {p : Program} {e : Env} {s : State} {m : MethodId} {args : Array Value} {below : List Frame} {meth : Method} {c : Code} {Q : State → Prop} {b : Nat} (C : Cx E p s m args c code 7 "CoinLaddersLaw") (hr : meth.sig.returnType = ret) (hlk : meth.locks = false) (hargs : args = #[Value.ref b]) (hE : eN E < 2 ^ 30) (hL : eL E = ids_L) (hJ : ∀ q, ¬ eJ E q) (hlz : ∀ o, o ∈ eL E → s.heap.size ≤ eA E o) (hQ : Q = lw_Z below args s) (w : Wd) (h : wp_law (eN E) (eX E) w) {H : Heap} {locs : List Loc} {k n : Nat} (hk : k ≤ 145) (hn : n ≤ 4700) (hw : Wo E s w H locs) (ls : Array Slot) (hl : lv_has ls 7 [(0, .ref (eT E 300)), (1, .ref (eA E 0))]) : W p l e room_1 s m args below meth c H locs k n Q (F0 m 8 ls []) := by
  have hF : ∀ o, (o < 15 ∨ 27 ≤ o ∧ o < 157) → o ∈ eL E := fun o h => by rw [hL]; exact ids_L_F o h
  have hN : ∀ o, o ∈ eL E → o ≠ 25 ∧ o ≠ 26 := fun o h => by rw [hL] at h; have := ids_L_N o h; omega
  have hx := C.1
  have hb := C.2.1
  unfold wp_law at h
  have h := h (fun (t : Nat) (x2 : Int32) (x3 : Int32) (x4 : Int32) (w : Wd) => ∀ k n : Nat, k ≤ 145 + 2 * t → n ≤ 4700 + 1024 * t → ∀ (H : Heap) (locs : List Loc), Wo E s w H locs → ∀ ls : Array Slot, lv_has ls 7 [(1, .ref (eA E 0)), (2, .int x2), (3, .int x3), (4, .int x4)] → W p l e room_1 s m args below meth c H locs k n Q (F0 m 53 ls []))
  have h := h (fun (t : Nat) (x2 : Int32) (x4 : Int32) (w : Wd) => ∀ k n : Nat, k ≤ 145 + 2 * t → n ≤ 4700 + 1024 * t → ∀ (H : Heap) (locs : List Loc), Wo E s w H locs → ∀ ls : Array Slot, lv_has ls 7 [(1, .ref (eA E 0)), (2, .int x2), (4, .int x4)] → W p l e room_1 s m args below meth c H locs k n Q (F0 m 114 ls []))
  have h := h (fun (t : Nat) (x2 : Int32) (x4 : Int32) (x5 : Int32) (w : Wd) => ∀ k n : Nat, k ≤ 145 + 2 * t → n ≤ 4700 + 1024 * t → ∀ (H : Heap) (locs : List Loc), Wo E s w H locs → ∀ ls : Array Slot, lv_has ls 7 [(1, .ref (eA E 0)), (2, .int x2), (4, .int x4), (5, .int x5)] → W p l e room_1 s m args below meth c H locs k n Q (F0 m 117 ls []))
  have h := h (fun (t : Nat) (x2 : Int32) (x4 : Int32) (w : Wd) => ∀ k n : Nat, k ≤ 145 + 2 * t → n ≤ 4700 + 1024 * t → ∀ (H : Heap) (locs : List Loc), Wo E s w H locs → ∀ ls : Array Slot, lv_has ls 7 [(1, .ref (eA E 0)), (2, .int x2), (4, .int x4)] → W p l e room_1 s m args below meth c H locs k n Q (F0 m 217 ls []))
  have h := h (fun (t : Nat) (x2 : Int32) (x4 : Int32) (x5 : Int32) (x6 : Int32) (w : Wd) => ∀ k n : Nat, k ≤ 145 + 2 * t → n ≤ 4700 + 1024 * t → ∀ (H : Heap) (locs : List Loc), Wo E s w H locs → ∀ ls : Array Slot, lv_has ls 7 [(1, .ref (eA E 0)), (2, .int x2), (4, .int x4), (5, .int x5), (6, .int x6)] → W p l e room_1 s m args below meth c H locs k n Q (F0 m 146 ls []))
  have h := h (fun (t : Nat) (w : Wd) => ∀ k n : Nat, k ≤ 145 + 2 * t → n ≤ 4700 + 1024 * t → ∀ (H : Heap) (locs : List Loc), Wo E s w H locs → ∀ ls : Array Slot, lv_has ls 7 [(1, .ref (eA E 0))] → W p l e room_1 s m args below meth c H locs k n Q (F0 m 253 ls []))
  have h := h (fun (t : Nat) (x2 : Int32) (x4 : Int32) (x5 : Int32) (x6 : Int32) (w : Wd) => ∀ k n : Nat, k ≤ 145 + 2 * t → n ≤ 4700 + 1024 * t → ∀ (H : Heap) (locs : List Loc), Wo E s w H locs → ∀ ls : Array Slot, lv_has ls 7 [(1, .ref (eA E 0)), (2, .int x2), (4, .int x4), (5, .int x5), (6, .int x6)] → W p l e room_1 s m args below meth c H locs k n Q (F0 m 164 ls []))
  have h := h (fun (t : Nat) (x2 : Int32) (x4 : Int32) (x5 : Int32) (w : Wd) => ∀ k n : Nat, k ≤ 145 + 2 * t → n ≤ 4700 + 1024 * t → ∀ (H : Heap) (locs : List Loc), Wo E s w H locs → ∀ ls : Array Slot, lv_has ls 7 [(1, .ref (eA E 0)), (2, .int x2), (4, .int x4), (5, .int x5)] → W p l e room_1 s m args below meth c H locs k n Q (F0 m 193 ls []))
  have h := h ?_
  rotate_left
  · intro t x2 x3 x4 w h k n hk hn H locs hw ls hl
    obtain ⟨ht, h⟩ := h
    refine lv_iload hx hb dL_law_53 (lv_at hl 3 rfl) ?_
    refine lv_aload_n hx hb dL_law_55 rfl (lv_at hl 0 rfl) ?_
    refine lv_iconst (v := 0) hx hb dL_law_56 (by decide) ?_
    unfold wp_L_size at h
    refine done_xi hw (my_runVX (As := [.int 0]) (rest := [.int x4]) C hw 0 8 (hF 0 (by decide)) rfl rfl (mt_X8_size l hT C.2.2.2.2.2.2.2 hF _ _ h) K_m_L_61 K_i_X8_size K_v_X8_size K_n_X8 K_c_X8_size hy_X8_size ⟨Nat.le_of_ble_eq_true rfl, Nat.le_of_ble_eq_true rfl⟩ hl.1 rfl (Nat.le_of_ble_eq_true rfl) dL_law_57 ⟨by show _ ≤ (600086 : Nat); omega, by show _ ≤ (7301442 : Nat); omega⟩) (fun ke q ce1 we H locs hk3 h hw hq hv hcl => ?_) (fun r6 w6 H locs h hw => ?_)
    · exact absurd h.2.1 (by decide)
    have h := (h _ rfl).2
    have hw := Wo.sL hN hw (x := r6.toInt64)
    have er := gL_25 w6 r6
    generalize sL w6 25 0 r6.toInt64 = w6 at h hw er
    rw [← er]
    refine lv_icmp_ge (tgt := 79) hx hb dL_law_60 (by decide) (fun c5 => ?_) (fun c5 => ?_)
    · have h := h.1 c5
      refine lv_iload_n hx hb dL_law_79 rfl (lv_at hl 2 rfl) ?_
      refine lv_aload_n hx hb dL_law_80 rfl (lv_at hl 0 rfl) ?_
      refine done_i hw (my_runV (As := []) (rest := [.int x3]) C hw 0 8 (hF 0 (by decide)) rfl rfl (mt_X8_sum l C.2.2.2.2.2.2.2 hF _ h) K_m_L_64 K_i_X8_sum K_v_X8_sum K_n_X8 K_c_X8_sum hy_X8_sum ⟨Nat.le_of_ble_eq_true rfl, Nat.le_of_ble_eq_true rfl⟩ hl.1 rfl (Nat.le_of_ble_eq_true rfl) dL_law_81 ⟨by show _ ≤ (600086 : Nat); omega, by show _ ≤ (7301442 : Nat); omega⟩) (fun r7 w7 H locs h hw => ?_)
      refine lv_icmp_ne (tgt := 101) hx hb dL_law_84 (by decide) (fun c6 => ?_) (fun c6 => ?_)
      · have h := h.2 c6
        refine lv_iconst (v := 0) hx hb dL_law_101 (by decide) ?_
        exact h.elim
      · have h := h.1 c6
        refine lv_aload_n hx hb dL_law_87 rfl (lv_at hl 0 rfl) ?_
        refine done_i hw (my_runV (As := []) (rest := []) C hw 0 8 (hF 0 (by decide)) rfl rfl (mt_X8_isRight l C.2.2.2.2.2.2.2 hF _ h) K_m_L_78 K_i_X8_isRight K_v_X8_isRight K_n_X8 K_c_X8_isRight hy_X8_isRight ⟨Nat.le_of_ble_eq_true rfl, Nat.le_of_ble_eq_true rfl⟩ hl.1 rfl (Nat.le_of_ble_eq_true rfl) dL_law_88 ⟨by show _ ≤ (600086 : Nat); omega, by show _ ≤ (7301442 : Nat); omega⟩) (fun r8 w8 H locs h hw => ?_)
        refine lv_if_eq (tgt := 101) hx hb dL_law_91 (by decide) (fun c7 => ?_) (fun c7 => ?_)
        · have h := h.1 c7
          refine lv_iconst (v := 0) hx hb dL_law_101 (by decide) ?_
          exact h.elim
        · have h := h.2 c7
          refine lv_aload_n hx hb dL_law_94 rfl (lv_at hl 0 rfl) ?_
          refine done_iE hw (my_runSE (As := [.ref (eA E 0)]) (rest := []) C hw (mt_L_isCounted l hT C.2.2.2.2.2.2.2 hF hN _ h) K_m_L_82 K_s_L_isCounted K_n_L K_c_L_isCounted hy_L_isCounted ⟨Nat.le_of_ble_eq_true rfl, Nat.le_of_ble_eq_true rfl⟩ hl.1 rfl (Nat.le_of_ble_eq_true rfl) dL_law_95 ⟨by show _ ≤ (600086 : Nat); omega, by show _ ≤ (7301442 : Nat); omega⟩) (fun r9 w9 H locs h hw => ?_)
          refine lv_if_ne (tgt := 103) hx hb dL_law_98 (by decide) (fun c8 => ?_) (fun c8 => ?_)
          · have h := h.2 c8
            refine lv_iload_n hx hb dL_law_103 rfl (lv_at hl 2 rfl) ?_
            refine lv_if_eq (tgt := 111) hx hb dL_law_104 (by decide) (fun c9 => ?_) (fun c9 => ?_)
            · have h := h.1 c9
              refine lv_iconst (v := 0) hx hb dL_law_111 (by decide) ?_
              refine lv_istore (lv' := [(4, .int 0), (1, .ref (eA E 0)), (2, .int x2), (3, .int x3)]) hx hb dL_law_112 hl (by decide) rfl (fun ls hl => ?_)
              exact h _ _ (by omega) (by omega) _ _ hw _ (lv_sub hl [1, 2, 0] rfl)
            · have h := h.2 c9
              refine lv_iconst (v := 1) hx hb dL_law_107 (by decide) ?_
              refine lv_goto (tgt := 112) hx hb dL_law_108 (by decide) ?_
              refine lv_istore (lv' := [(4, .int 1), (1, .ref (eA E 0)), (2, .int x2), (3, .int x3)]) hx hb dL_law_112 hl (by decide) rfl (fun ls hl => ?_)
              exact h _ _ (by omega) (by omega) _ _ hw _ (lv_sub hl [1, 2, 0] rfl)
          · have h := h.1 c8
            refine lv_iconst (v := 0) hx hb dL_law_101 (by decide) ?_
            exact h.elim
    · have h := h.2 c5
      refine lv_iload_n hx hb dL_law_63 rfl (lv_at hl 2 rfl) ?_
      refine lv_aload_n hx hb dL_law_64 rfl (lv_at hl 0 rfl) ?_
      refine lv_iload hx hb dL_law_65 (lv_at hl 3 rfl) ?_
      refine lv_iconst (v := 3) hx hb dL_law_67 (by decide) ?_
      unfold wp_L_ladder at h
      refine done_xi hw (my_runVX (As := [.int x4, .int 3]) (rest := [.int x3]) C hw 0 8 (hF 0 (by decide)) rfl rfl (mt_X8_ladder l hT C.2.2.2.2.2.2.2 hF _ _ _ h) K_m_L_74 K_i_X8_ladder K_v_X8_ladder K_n_X8 K_c_X8_ladder hy_X8_ladder ⟨Nat.le_of_ble_eq_true rfl, Nat.le_of_ble_eq_true rfl⟩ hl.1 rfl (Nat.le_of_ble_eq_true rfl) dL_law_68 ⟨by show _ ≤ (600086 : Nat); omega, by show _ ≤ (7301442 : Nat); omega⟩) (fun ke q ce1 we H locs hk3 h hw hq hv hcl => ?_) (fun r10 w10 H locs h hw => ?_)
      · exact h.elim (fun h => absurd h.2.1 (by decide)) (fun h => absurd h.2.1 (by decide))
      have h := (h _ rfl).2
      have hw := Wo.sL hN hw (x := r10.toInt64)
      have er := gL_25 w10 r10
      generalize sL w10 25 0 r10.toInt64 = w10 at h hw er
      rw [← er]
      refine lv_ixor hx hb dL_law_71 ?_
      refine lv_topi (fun y2 ey2 => ?_)
      have h := h y2 ey2
      refine lv_istore_n (lv' := [(3, .int y2), (1, .ref (eA E 0)), (2, .int x2), (4, .int x4)]) hx hb dL_law_72 rfl hl (by decide) rfl (fun ls hl => ?_)
      obtain ⟨y3, ey3⟩ : ∃ y : Int32, y = x4 + 1 := ⟨_, rfl⟩
      have h := h y3 ey3
      refine lv_iinc (v := y3) (lv' := [(4, .int y3), (3, .int y2), (1, .ref (eA E 0)), (2, .int x2)]) hx hb dL_law_73 hl (k := 3) rfl (by rw [ey3]; first | rfl | decide) (by decide) rfl (fun ls hl => ?_)
      refine lv_goto (tgt := 53) hx hb dL_law_76 (by decide) ?_
      exact h _ _ (by omega) (by omega) _ _ hw _ (lv_sub hl [2, 3, 1, 0] rfl)
  have h := h ?_
  rotate_left
  · intro t x2 x4 w h k n hk hn H locs hw ls hl
    obtain ⟨ht, h⟩ := h
    refine lv_iconst (v := 0) hx hb dL_law_114 (by decide) ?_
    refine lv_istore (lv' := [(5, .int 0), (1, .ref (eA E 0)), (2, .int x2), (4, .int x4)]) hx hb dL_law_115 hl (by decide) rfl (fun ls hl => ?_)
    exact h _ _ (by omega) (by omega) _ _ hw _ (lv_sub hl [1, 2, 3, 0] rfl)
  have h := h ?_
  rotate_left
  · intro t x2 x4 x5 w h k n hk hn H locs hw ls hl
    obtain ⟨ht, h⟩ := h
    refine lv_iload hx hb dL_law_117 (lv_at hl 3 rfl) ?_
    refine lv_bipush (v := 90) hx hb dL_law_119 (by decide) ?_
    refine lv_icmp_ge (tgt := 217) hx hb dL_law_121 (by decide) (fun c10 => ?_) (fun c10 => ?_)
    · have h := h.1 c10
      exact h _ _ (by omega) (by omega) _ _ hw _ (lv_sub hl [0, 1, 2] rfl)
    · have h := h.2 c10
      refine lv_aload_n hx hb dL_law_124 rfl (lv_at hl 0 rfl) ?_
      refine lv_iconst (v := 3) hx hb dL_law_125 (by decide) ?_
      unfold wp_L_size at h
      refine done_xi hw (my_runVX (As := [.int 3]) (rest := []) C hw 0 8 (hF 0 (by decide)) rfl rfl (mt_X8_size l hT C.2.2.2.2.2.2.2 hF _ _ h) K_m_L_61 K_i_X8_size K_v_X8_size K_n_X8 K_c_X8_size hy_X8_size ⟨Nat.le_of_ble_eq_true rfl, Nat.le_of_ble_eq_true rfl⟩ hl.1 rfl (Nat.le_of_ble_eq_true rfl) dL_law_126 ⟨by show _ ≤ (600086 : Nat); omega, by show _ ≤ (7301442 : Nat); omega⟩) (fun ke q ce1 we H locs hk3 h hw hq hv hcl => ?_) (fun r11 w11 H locs h hw => ?_)
      · exact absurd h.2.1 (by decide)
      have h := (h _ rfl).2
      have hw := Wo.sL hN hw (x := r11.toInt64)
      have er := gL_25 w11 r11
      generalize sL w11 25 0 r11.toInt64 = w11 at h hw er
      rw [← er]
      refine lv_if_ne (tgt := 217) hx hb dL_law_129 (by decide) (fun c11 => ?_) (fun c11 => ?_)
      · have h := h.2 c11
        exact h _ _ (by omega) (by omega) _ _ hw _ (lv_sub hl [0, 1, 2] rfl)
      · have h := h.1 c11
        refine lv_aload_n hx hb dL_law_132 rfl (lv_at hl 0 rfl) ?_
        refine done_i hw (my_runV (As := []) (rest := []) C hw 0 8 (hF 0 (by decide)) rfl rfl (mt_X8_sum l C.2.2.2.2.2.2.2 hF _ h) K_m_L_64 K_i_X8_sum K_v_X8_sum K_n_X8 K_c_X8_sum hy_X8_sum ⟨Nat.le_of_ble_eq_true rfl, Nat.le_of_ble_eq_true rfl⟩ hl.1 rfl (Nat.le_of_ble_eq_true rfl) dL_law_133 ⟨by show _ ≤ (600086 : Nat); omega, by show _ ≤ (7301442 : Nat); omega⟩) (fun r12 w12 H locs h hw => ?_)
        refine lv_if_eq (tgt := 143) hx hb dL_law_136 (by decide) (fun c12 => ?_) (fun c12 => ?_)
        · have h := h.1 c12
          refine lv_iconst (v := 0) hx hb dL_law_143 (by decide) ?_
          refine lv_istore (lv' := [(6, .int 0), (1, .ref (eA E 0)), (2, .int x2), (4, .int x4), (5, .int x5)]) hx hb dL_law_144 hl (by decide) rfl (fun ls hl => ?_)
          exact h _ _ (by omega) (by omega) _ _ hw _ (lv_sub hl [1, 2, 3, 4, 0] rfl)
        · have h := h.2 c12
          refine lv_iconst (v := 1) hx hb dL_law_139 (by decide) ?_
          refine lv_goto (tgt := 144) hx hb dL_law_140 (by decide) ?_
          refine lv_istore (lv' := [(6, .int 1), (1, .ref (eA E 0)), (2, .int x2), (4, .int x4), (5, .int x5)]) hx hb dL_law_144 hl (by decide) rfl (fun ls hl => ?_)
          exact h _ _ (by omega) (by omega) _ _ hw _ (lv_sub hl [1, 2, 3, 4, 0] rfl)
  have h := h ?_
  rotate_left
  · intro t x2 x4 w h k n hk hn H locs hw ls hl
    obtain ⟨ht, h⟩ := h
    refine lv_aload_n hx hb dL_law_217 rfl (lv_at hl 0 rfl) ?_
    refine lv_iconst (v := 3) hx hb dL_law_218 (by decide) ?_
    unfold wp_L_size at h
    refine done_xi hw (my_runVX (As := [.int 3]) (rest := []) C hw 0 8 (hF 0 (by decide)) rfl rfl (mt_X8_size l hT C.2.2.2.2.2.2.2 hF _ _ h) K_m_L_61 K_i_X8_size K_v_X8_size K_n_X8 K_c_X8_size hy_X8_size ⟨Nat.le_of_ble_eq_true rfl, Nat.le_of_ble_eq_true rfl⟩ hl.1 rfl (Nat.le_of_ble_eq_true rfl) dL_law_219 ⟨by show _ ≤ (600086 : Nat); omega, by show _ ≤ (7301442 : Nat); omega⟩) (fun ke q ce1 we H locs hk3 h hw hq hv hcl => ?_) (fun r13 w13 H locs h hw => ?_)
    · exact absurd h.2.1 (by decide)
    have h := (h _ rfl).2
    have hw := Wo.sL hN hw (x := r13.toInt64)
    have er := gL_25 w13 r13
    generalize sL w13 25 0 r13.toInt64 = w13 at h hw er
    rw [← er]
    refine lv_iconst (v := 1) hx hb dL_law_222 (by decide) ?_
    refine lv_icmp_ne (tgt := 279) hx hb dL_law_223 (by decide) (fun c13 => ?_) (fun c13 => ?_)
    · have h := h.2 c13
      refine lv_iconst (v := 0) hx hb dL_law_279 (by decide) ?_
      exact h.elim
    · have h := h.1 c13
      refine lv_aload_n hx hb dL_law_226 rfl (lv_at hl 0 rfl) ?_
      refine done_i hw (my_runV (As := []) (rest := []) C hw 0 8 (hF 0 (by decide)) rfl rfl (mt_X8_sum l C.2.2.2.2.2.2.2 hF _ h) K_m_L_64 K_i_X8_sum K_v_X8_sum K_n_X8 K_c_X8_sum hy_X8_sum ⟨Nat.le_of_ble_eq_true rfl, Nat.le_of_ble_eq_true rfl⟩ hl.1 rfl (Nat.le_of_ble_eq_true rfl) dL_law_227 ⟨by show _ ≤ (600086 : Nat); omega, by show _ ≤ (7301442 : Nat); omega⟩) (fun r14 w14 H locs h hw => ?_)
      refine lv_if_ne (tgt := 279) hx hb dL_law_230 (by decide) (fun c14 => ?_) (fun c14 => ?_)
      · have h := h.2 c14
        refine lv_iconst (v := 0) hx hb dL_law_279 (by decide) ?_
        exact h.elim
      · have h := h.1 c14
        refine lv_aload_n hx hb dL_law_233 rfl (lv_at hl 0 rfl) ?_
        refine lv_iconst (v := 4) hx hb dL_law_234 (by decide) ?_
        unfold wp_L_size at h
        refine done_xi hw (my_runVX (As := [.int 4]) (rest := []) C hw 0 8 (hF 0 (by decide)) rfl rfl (mt_X8_size l hT C.2.2.2.2.2.2.2 hF _ _ h) K_m_L_61 K_i_X8_size K_v_X8_size K_n_X8 K_c_X8_size hy_X8_size ⟨Nat.le_of_ble_eq_true rfl, Nat.le_of_ble_eq_true rfl⟩ hl.1 rfl (Nat.le_of_ble_eq_true rfl) dL_law_235 ⟨by show _ ≤ (600086 : Nat); omega, by show _ ≤ (7301442 : Nat); omega⟩) (fun ke q ce1 we H locs hk3 h hw hq hv hcl => ?_) (fun r15 w15 H locs h hw => ?_)
        · exact absurd h.2.1 (by decide)
        have h := (h _ rfl).2
        have hw := Wo.sL hN hw (x := r15.toInt64)
        have er := gL_25 w15 r15
        generalize sL w15 25 0 r15.toInt64 = w15 at h hw er
        rw [← er]
        refine lv_iload hx hb dL_law_238 (lv_at hl 2 rfl) ?_
        refine lv_if_eq (tgt := 247) hx hb dL_law_240 (by decide) (fun c15 => ?_) (fun c15 => ?_)
        · have h := h.1 c15
          refine lv_iconst (v := 1) hx hb dL_law_247 (by decide) ?_
          refine lv_iload_n hx hb dL_law_248 rfl (lv_at hl 1 rfl) ?_
          refine lv_isub hx hb dL_law_249 ?_
          refine lv_icmp_ne (tgt := 279) hx hb dL_law_250 (by decide) (fun c16 => ?_) (fun c16 => ?_)
          · have h := h.2 c16
            refine lv_iconst (v := 0) hx hb dL_law_279 (by decide) ?_
            exact h.elim
          · have h := h.1 c16
            exact h _ _ (by omega) (by omega) _ _ hw _ (lv_sub hl [0] rfl)
        · have h := h.2 c15
          refine lv_iload_n hx hb dL_law_243 rfl (lv_at hl 1 rfl) ?_
          refine lv_goto (tgt := 250) hx hb dL_law_244 (by decide) ?_
          refine lv_icmp_ne (tgt := 279) hx hb dL_law_250 (by decide) (fun c17 => ?_) (fun c17 => ?_)
          · have h := h.2 c17
            refine lv_iconst (v := 0) hx hb dL_law_279 (by decide) ?_
            exact h.elim
          · have h := h.1 c17
            exact h _ _ (by omega) (by omega) _ _ hw _ (lv_sub hl [0] rfl)
  have h := h ?_
  rotate_left
  · intro t x2 x4 x5 x6 w h k n hk hn H locs hw ls hl
    obtain ⟨ht, h⟩ := h
    refine lv_aload_n hx hb dL_law_146 rfl (lv_at hl 0 rfl) ?_
    refine done_i hw (my_runV (As := []) (rest := []) C hw 0 8 (hF 0 (by decide)) rfl rfl (mt_X8_best l C.2.2.2.2.2.2.2 hF _ h) K_m_L_86 K_i_X8_best K_v_X8_best K_n_X8 K_c_X8_best hy_X8_best ⟨Nat.le_of_ble_eq_true rfl, Nat.le_of_ble_eq_true rfl⟩ hl.1 rfl (Nat.le_of_ble_eq_true rfl) dL_law_147 ⟨by show _ ≤ (600086 : Nat); omega, by show _ ≤ (7301442 : Nat); omega⟩) (fun r16 w16 H locs h hw => ?_)
    refine lv_iconst (v := (-1)) hx hb dL_law_150 (by decide) ?_
    refine lv_icmp_ne (tgt := 158) hx hb dL_law_151 (by decide) (fun c18 => ?_) (fun c18 => ?_)
    · have h := h.2 c18
      refine lv_iconst (v := 0) hx hb dL_law_158 (by decide) ?_
      refine lv_iload hx hb dL_law_159 (lv_at hl 4 rfl) ?_
      refine lv_icmp_eq (tgt := 209) hx hb dL_law_161 (by decide) (fun c19 => ?_) (fun c19 => ?_)
      · have h := h.1 c19
        refine lv_iconst (v := 0) hx hb dL_law_209 (by decide) ?_
        exact h.elim
      · have h := h.2 c19
        exact h _ _ (by omega) (by omega) _ _ hw _ (lv_sub hl [0, 1, 2, 3, 4] rfl)
    · have h := h.1 c18
      refine lv_iconst (v := 1) hx hb dL_law_154 (by decide) ?_
      refine lv_goto (tgt := 159) hx hb dL_law_155 (by decide) ?_
      refine lv_iload hx hb dL_law_159 (lv_at hl 4 rfl) ?_
      refine lv_icmp_eq (tgt := 209) hx hb dL_law_161 (by decide) (fun c20 => ?_) (fun c20 => ?_)
      · have h := h.1 c20
        refine lv_iconst (v := 0) hx hb dL_law_209 (by decide) ?_
        exact h.elim
      · have h := h.2 c20
        exact h _ _ (by omega) (by omega) _ _ hw _ (lv_sub hl [0, 1, 2, 3, 4] rfl)
  have h := h ?_
  rotate_left
  · intro t w h k n hk hn H locs hw ls hl
    obtain ⟨ht, h⟩ := h
    refine lv_aload_n hx hb dL_law_253 rfl (lv_at hl 0 rfl) ?_
    refine done_i hw (my_runV (As := []) (rest := []) C hw 0 8 (hF 0 (by decide)) rfl rfl (mt_X8_allowed l C.2.2.2.2.2.2.2 hF _ h) K_m_L_92 K_i_X8_allowed K_v_X8_allowed K_n_X8 K_c_X8_allowed hy_X8_allowed ⟨Nat.le_of_ble_eq_true rfl, Nat.le_of_ble_eq_true rfl⟩ hl.1 rfl (Nat.le_of_ble_eq_true rfl) dL_law_254 ⟨by show _ ≤ (600086 : Nat); omega, by show _ ≤ (7301442 : Nat); omega⟩) (fun r17 w17 H locs h hw => ?_)
    refine lv_if_ne (tgt := 279) hx hb dL_law_257 (by decide) (fun c21 => ?_) (fun c21 => ?_)
    · have h := h.2 c21
      refine lv_iconst (v := 0) hx hb dL_law_279 (by decide) ?_
      exact h.elim
    · have h := h.1 c21
      refine lv_aload_n hx hb dL_law_260 rfl (lv_at hl 0 rfl) ?_
      refine lv_iconst (v := 1) hx hb dL_law_261 (by decide) ?_
      unfold wp_L_play at h
      refine done_xi hw (my_runVX (As := [.int 1]) (rest := []) C hw 0 8 (hF 0 (by decide)) rfl rfl (mt_X8_play l hT C.2.2.2.2.2.2.2 hF _ _ h) K_m_L_89 K_i_X8_play K_v_X8_play K_n_X8 K_c_X8_play hy_X8_play ⟨Nat.le_of_ble_eq_true rfl, Nat.le_of_ble_eq_true rfl⟩ hl.1 rfl (Nat.le_of_ble_eq_true rfl) dL_law_262 ⟨by show _ ≤ (600086 : Nat); omega, by show _ ≤ (7301442 : Nat); omega⟩) (fun ke q ce1 we H locs hk3 h hw hq hv hcl => ?_) (fun r18 w18 H locs h hw => ?_)
      · exact absurd h.2.1 (by decide)
      have h := (h _ rfl).2
      have hw := Wo.sL hN hw (x := r18.toInt64)
      have er := gL_25 w18 r18
      generalize sL w18 25 0 r18.toInt64 = w18 at h hw er
      rw [← er]
      refine lv_if_ne (tgt := 279) hx hb dL_law_265 (by decide) (fun c22 => ?_) (fun c22 => ?_)
      · have h := h.2 c22
        refine lv_iconst (v := 0) hx hb dL_law_279 (by decide) ?_
        exact h.elim
      · have h := h.1 c22
        refine lv_aload_n hx hb dL_law_268 rfl (lv_at hl 0 rfl) ?_
        refine done_w hw (my_runSW (As := [.ref (eA E 0)]) (rest := []) C hw (mt_L_refuses l hT C.2.2.2.2.2.2.2 hF _ h) K_m_L_95 K_s_L_refuses K_n_L K_w_L_refuses hy_L_refuses ⟨Nat.le_of_ble_eq_true rfl, Nat.le_of_ble_eq_true rfl⟩ hl.1 rfl (Nat.le_of_ble_eq_true rfl) dL_law_269 ⟨by show _ ≤ (600086 : Nat); omega, by show _ ≤ (7301442 : Nat); omega⟩) (fun r19 w19 H locs h hw => ?_)
        refine lv_if_eq (tgt := 279) hx hb dL_law_272 (by decide) (fun c23 => ?_) (fun c23 => ?_)
        · have h := h.1 c23
          refine lv_iconst (v := 0) hx hb dL_law_279 (by decide) ?_
          exact h.elim
        · have h := h.2 c23
          refine lv_iconst (v := 1) hx hb dL_law_275 (by decide) ?_
          refine lv_goto (tgt := 280) hx hb dL_law_276 (by decide) ?_
          exact law_end hargs hQ C hr hlk hw hlz hJ (by omega) (by omega) dL_law_280
  have h := h ?_
  rotate_left
  · intro t x2 x4 x5 x6 w h k n hk hn H locs hw ls hl
    obtain ⟨ht, h⟩ := h
    refine lv_iload hx hb dL_law_164 (lv_at hl 4 rfl) ?_
    refine lv_iload hx hb dL_law_166 (lv_at hl 2 rfl) ?_
    refine lv_aload_n hx hb dL_law_168 rfl (lv_at hl 0 rfl) ?_
    refine lv_iconst (v := 1) hx hb dL_law_169 (by decide) ?_
    unfold wp_L_size at h
    refine done_xi hw (my_runVX (As := [.int 1]) (rest := [.int x4, .int x6]) C hw 0 8 (hF 0 (by decide)) rfl rfl (mt_X8_size l hT C.2.2.2.2.2.2.2 hF _ _ h) K_m_L_61 K_i_X8_size K_v_X8_size K_n_X8 K_c_X8_size hy_X8_size ⟨Nat.le_of_ble_eq_true rfl, Nat.le_of_ble_eq_true rfl⟩ hl.1 rfl (Nat.le_of_ble_eq_true rfl) dL_law_170 ⟨by show _ ≤ (600086 : Nat); omega, by show _ ≤ (7301442 : Nat); omega⟩) (fun ke q ce1 we H locs hk3 h hw hq hv hcl => ?_) (fun r20 w20 H locs h hw => ?_)
    · exact absurd h.2.1 (by decide)
    have h := (h _ rfl).2
    have hw := Wo.sL hN hw (x := r20.toInt64)
    have er := gL_25 w20 r20
    generalize sL w20 25 0 r20.toInt64 = w20 at h hw er
    rw [← er]
    refine lv_iload_n hx hb dL_law_173 rfl (lv_at hl 1 rfl) ?_
    refine lv_icmp_ne (tgt := 181) hx hb dL_law_174 (by decide) (fun c24 => ?_) (fun c24 => ?_)
    · have h := h.2 c24
      refine lv_iconst (v := 0) hx hb dL_law_181 (by decide) ?_
      refine lv_icmp_ne (tgt := 189) hx hb dL_law_182 (by decide) (fun c25 => ?_) (fun c25 => ?_)
      · have h := h.2 c25
        refine lv_iconst (v := 0) hx hb dL_law_189 (by decide) ?_
        refine lv_icmp_ne (tgt := 209) hx hb dL_law_190 (by decide) (fun c26 => ?_) (fun c26 => ?_)
        · have h := h.2 c26
          refine lv_iconst (v := 0) hx hb dL_law_209 (by decide) ?_
          exact h.elim
        · have h := h.1 c26
          exact h _ _ (by omega) (by omega) _ _ hw _ (lv_sub hl [0, 1, 2, 3] rfl)
      · have h := h.1 c25
        refine lv_iconst (v := 1) hx hb dL_law_185 (by decide) ?_
        refine lv_goto (tgt := 190) hx hb dL_law_186 (by decide) ?_
        refine lv_icmp_ne (tgt := 209) hx hb dL_law_190 (by decide) (fun c27 => ?_) (fun c27 => ?_)
        · have h := h.2 c27
          refine lv_iconst (v := 0) hx hb dL_law_209 (by decide) ?_
          exact h.elim
        · have h := h.1 c27
          exact h _ _ (by omega) (by omega) _ _ hw _ (lv_sub hl [0, 1, 2, 3] rfl)
    · have h := h.1 c24
      refine lv_iconst (v := 1) hx hb dL_law_177 (by decide) ?_
      refine lv_goto (tgt := 182) hx hb dL_law_178 (by decide) ?_
      refine lv_icmp_ne (tgt := 189) hx hb dL_law_182 (by decide) (fun c28 => ?_) (fun c28 => ?_)
      · have h := h.2 c28
        refine lv_iconst (v := 0) hx hb dL_law_189 (by decide) ?_
        refine lv_icmp_ne (tgt := 209) hx hb dL_law_190 (by decide) (fun c29 => ?_) (fun c29 => ?_)
        · have h := h.2 c29
          refine lv_iconst (v := 0) hx hb dL_law_209 (by decide) ?_
          exact h.elim
        · have h := h.1 c29
          exact h _ _ (by omega) (by omega) _ _ hw _ (lv_sub hl [0, 1, 2, 3] rfl)
      · have h := h.1 c28
        refine lv_iconst (v := 1) hx hb dL_law_185 (by decide) ?_
        refine lv_goto (tgt := 190) hx hb dL_law_186 (by decide) ?_
        refine lv_icmp_ne (tgt := 209) hx hb dL_law_190 (by decide) (fun c30 => ?_) (fun c30 => ?_)
        · have h := h.2 c30
          refine lv_iconst (v := 0) hx hb dL_law_209 (by decide) ?_
          exact h.elim
        · have h := h.1 c30
          exact h _ _ (by omega) (by omega) _ _ hw _ (lv_sub hl [0, 1, 2, 3] rfl)
  have h := h ?_
  rotate_left
  · intro t x2 x4 x5 w h k n hk hn H locs hw ls hl
    obtain ⟨ht, h⟩ := h
    refine lv_aload_n hx hb dL_law_193 rfl (lv_at hl 0 rfl) ?_
    refine lv_iconst (v := 1) hx hb dL_law_194 (by decide) ?_
    unfold wp_L_play at h
    refine done_xi hw (my_runVX (As := [.int 1]) (rest := []) C hw 0 8 (hF 0 (by decide)) rfl rfl (mt_X8_play l hT C.2.2.2.2.2.2.2 hF _ _ h) K_m_L_89 K_i_X8_play K_v_X8_play K_n_X8 K_c_X8_play hy_X8_play ⟨Nat.le_of_ble_eq_true rfl, Nat.le_of_ble_eq_true rfl⟩ hl.1 rfl (Nat.le_of_ble_eq_true rfl) dL_law_195 ⟨by show _ ≤ (600086 : Nat); omega, by show _ ≤ (7301442 : Nat); omega⟩) (fun ke q ce1 we H locs hk3 h hw hq hv hcl => ?_) (fun r21 w21 H locs h hw => ?_)
    · exact absurd h.2.1 (by decide)
    have h := (h _ rfl).2
    have hw := Wo.sL hN hw (x := r21.toInt64)
    have er := gL_25 w21 r21
    generalize sL w21 25 0 r21.toInt64 = w21 at h hw er
    rw [← er]
    refine lv_iconst (v := 1) hx hb dL_law_198 (by decide) ?_
    refine lv_icmp_ne (tgt := 209) hx hb dL_law_199 (by decide) (fun c31 => ?_) (fun c31 => ?_)
    · have h := h.2 c31
      refine lv_iconst (v := 0) hx hb dL_law_209 (by decide) ?_
      exact h.elim
    · have h := h.1 c31
      refine lv_aload_n hx hb dL_law_202 rfl (lv_at hl 0 rfl) ?_
      refine done_i hw (my_runV (As := []) (rest := []) C hw 0 8 (hF 0 (by decide)) rfl rfl (mt_X8_isRight l C.2.2.2.2.2.2.2 hF _ h) K_m_L_78 K_i_X8_isRight K_v_X8_isRight K_n_X8 K_c_X8_isRight hy_X8_isRight ⟨Nat.le_of_ble_eq_true rfl, Nat.le_of_ble_eq_true rfl⟩ hl.1 rfl (Nat.le_of_ble_eq_true rfl) dL_law_203 ⟨by show _ ≤ (600086 : Nat); omega, by show _ ≤ (7301442 : Nat); omega⟩) (fun r22 w22 H locs h hw => ?_)
      refine lv_if_ne (tgt := 211) hx hb dL_law_206 (by decide) (fun c32 => ?_) (fun c32 => ?_)
      · have h := h.2 c32
        obtain ⟨y4, ey4⟩ : ∃ y : Int32, y = x5 + 1 := ⟨_, rfl⟩
        have h := h y4 ey4
        refine lv_iinc (v := y4) (lv' := [(5, .int y4), (1, .ref (eA E 0)), (2, .int x2), (4, .int x4)]) hx hb dL_law_211 hl (k := 3) rfl (by rw [ey4]; first | rfl | decide) (by decide) rfl (fun ls hl => ?_)
        refine lv_goto (tgt := 117) hx hb dL_law_214 (by decide) ?_
        exact h _ _ (by omega) (by omega) _ _ hw _ (lv_sub hl [1, 2, 3, 0] rfl)
      · have h := h.1 c32
        refine lv_iconst (v := 0) hx hb dL_law_209 (by decide) ?_
        exact h.elim
  refine lv_aload_n hx hb dL_law_8 rfl (lv_at hl 1 rfl) ?_
  refine lv_iconst (v := 3) hx hb dL_law_9 (by decide) ?_
  unfold wp_L_size at h
  refine done_xi hw (my_runVX (As := [.int 3]) (rest := []) C hw 0 8 (hF 0 (by decide)) rfl rfl (mt_X8_size l hT C.2.2.2.2.2.2.2 hF _ _ h) K_m_L_61 K_i_X8_size K_v_X8_size K_n_X8 K_c_X8_size hy_X8_size ⟨Nat.le_of_ble_eq_true rfl, Nat.le_of_ble_eq_true rfl⟩ hl.1 rfl (Nat.le_of_ble_eq_true rfl) dL_law_10 ⟨by show _ ≤ (600086 : Nat); omega, by show _ ≤ (7301442 : Nat); omega⟩) (fun ke q ce1 we H locs hk3 h hw hq hv hcl => ?_) (fun r1 w1 H locs h hw => ?_)
  · exact absurd h.2.1 (by decide)
  have h := (h _ rfl).2
  have hw := Wo.sL hN hw (x := r1.toInt64)
  have er := gL_25 w1 r1
  generalize sL w1 25 0 r1.toInt64 = w1 at h hw er
  rw [← er]
  refine lv_iconst (v := 1) hx hb dL_law_13 (by decide) ?_
  refine lv_icmp_ne (tgt := 40) hx hb dL_law_14 (by decide) (fun c1 => ?_) (fun c1 => ?_)
  · have h := h.2 c1
    refine lv_iconst (v := 0) hx hb dL_law_40 (by decide) ?_
    exact h.elim
  · have h := h.1 c1
    refine lv_aload_n hx hb dL_law_17 rfl (lv_at hl 1 rfl) ?_
    refine done_i hw (my_runV (As := []) (rest := []) C hw 0 8 (hF 0 (by decide)) rfl rfl (mt_X8_sum l C.2.2.2.2.2.2.2 hF _ h) K_m_L_64 K_i_X8_sum K_v_X8_sum K_n_X8 K_c_X8_sum hy_X8_sum ⟨Nat.le_of_ble_eq_true rfl, Nat.le_of_ble_eq_true rfl⟩ hl.1 rfl (Nat.le_of_ble_eq_true rfl) dL_law_18 ⟨by show _ ≤ (600086 : Nat); omega, by show _ ≤ (7301442 : Nat); omega⟩) (fun r2 w2 H locs h hw => ?_)
    refine lv_if_ne (tgt := 40) hx hb dL_law_21 (by decide) (fun c2 => ?_) (fun c2 => ?_)
    · have h := h.2 c2
      refine lv_iconst (v := 0) hx hb dL_law_40 (by decide) ?_
      exact h.elim
    · have h := h.1 c2
      refine lv_aload_n hx hb dL_law_24 rfl (lv_at hl 1 rfl) ?_
      refine done_i hw (my_runV (As := []) (rest := []) C hw 0 8 (hF 0 (by decide)) rfl rfl (mt_X8_undo l C.2.2.2.2.2.2.2 hF _ h) K_m_L_67 K_i_X8_undo K_v_X8_undo K_n_X8 K_c_X8_undo hy_X8_undo ⟨Nat.le_of_ble_eq_true rfl, Nat.le_of_ble_eq_true rfl⟩ hl.1 rfl (Nat.le_of_ble_eq_true rfl) dL_law_25 ⟨by show _ ≤ (600086 : Nat); omega, by show _ ≤ (7301442 : Nat); omega⟩) (fun r3 w3 H locs h hw => ?_)
      refine lv_iconst (v := (-1)) hx hb dL_law_28 (by decide) ?_
      refine lv_icmp_ne (tgt := 40) hx hb dL_law_29 (by decide) (fun c3 => ?_) (fun c3 => ?_)
      · have h := h.2 c3
        refine lv_iconst (v := 0) hx hb dL_law_40 (by decide) ?_
        exact h.elim
      · have h := h.1 c3
        refine lv_aload_n hx hb dL_law_32 rfl (lv_at hl 1 rfl) ?_
        refine lv_aload_n hx hb dL_law_33 rfl (lv_at hl 0 rfl) ?_
        refine done_iE hw (my_runSE (As := [.ref (eA E 0), .ref (eT E 300)]) (rest := []) C hw (mt_L_begins l hT C.2.2.2.2.2.2.2 hE hL hJ _ h) K_m_L_70 K_s_L_begins K_n_L K_c_L_begins hy_L_begins ⟨Nat.le_of_ble_eq_true rfl, Nat.le_of_ble_eq_true rfl⟩ hl.1 rfl (Nat.le_of_ble_eq_true rfl) dL_law_34 ⟨by show _ ≤ (600086 : Nat); omega, by show _ ≤ (7301442 : Nat); omega⟩) (fun r4 w4 H locs h hw => ?_)
        refine lv_if_ne (tgt := 42) hx hb dL_law_37 (by decide) (fun c4 => ?_) (fun c4 => ?_)
        · have h := h.2 c4
          refine lv_aload_n hx hb dL_law_42 rfl (lv_at hl 1 rfl) ?_
          refine lv_iconst (v := 1) hx hb dL_law_43 (by decide) ?_
          unfold wp_L_size at h
          refine done_xi hw (my_runVX (As := [.int 1]) (rest := []) C hw 0 8 (hF 0 (by decide)) rfl rfl (mt_X8_size l hT C.2.2.2.2.2.2.2 hF _ _ h) K_m_L_61 K_i_X8_size K_v_X8_size K_n_X8 K_c_X8_size hy_X8_size ⟨Nat.le_of_ble_eq_true rfl, Nat.le_of_ble_eq_true rfl⟩ hl.1 rfl (Nat.le_of_ble_eq_true rfl) dL_law_44 ⟨by show _ ≤ (600086 : Nat); omega, by show _ ≤ (7301442 : Nat); omega⟩) (fun ke q ce1 we H locs hk3 h hw hq hv hcl => ?_) (fun r5 w5 H locs h hw => ?_)
          · exact absurd h.2.1 (by decide)
          have h := (h _ rfl).2
          have hw := Wo.sL hN hw (x := r5.toInt64)
          have er := gL_25 w5 r5
          generalize sL w5 25 0 r5.toInt64 = w5 at h hw er
          rw [← er]
          refine lv_topi (fun y1 ey1 => ?_)
          have h := h y1 ey1
          refine lv_istore_n (lv' := [(2, .int y1), (0, .ref (eT E 300)), (1, .ref (eA E 0))]) hx hb dL_law_47 rfl hl (by decide) rfl (fun ls hl => ?_)
          refine lv_iconst (v := 0) hx hb dL_law_48 (by decide) ?_
          refine lv_istore_n (lv' := [(3, .int 0), (2, .int y1), (0, .ref (eT E 300)), (1, .ref (eA E 0))]) hx hb dL_law_49 rfl hl (by decide) rfl (fun ls hl => ?_)
          refine lv_iconst (v := 0) hx hb dL_law_50 (by decide) ?_
          refine lv_istore (lv' := [(4, .int 0), (3, .int 0), (2, .int y1), (0, .ref (eT E 300)), (1, .ref (eA E 0))]) hx hb dL_law_51 hl (by decide) rfl (fun ls hl => ?_)
          exact h _ _ (by omega) (by omega) _ _ hw _ (lv_sub hl [4, 2, 1, 0] rfl)
        · have h := h.1 c4
          refine lv_iconst (v := 0) hx hb dL_law_40 (by decide) ?_
          exact h.elim

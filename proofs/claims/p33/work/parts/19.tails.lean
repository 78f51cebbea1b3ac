def wt_X7_init (w : Wd) (Post : Wd → Prop) : Prop :=
  wp_J7_fill_53178 (53 + 8 * 0 + 3) 6 w ((-1)) (fun w1 => wp_J7_fill_53178 (53 + 8 * 0 + 5) 6 w1 1 (fun w2 => wp_X7_ban 0 w2 ((-1)) ((-1)) ((-1)) (fun w3 => Post w3)))
set_option maxHeartbeats 4000000 in
set_option maxRecDepth 100000 in
theorem tl_X7_init {l : Launch} {E : En} {p : Program} {e : Env} {s : State} {m : MethodId} {args : Array Value} {below : List Frame} {meth : Method} {c : Code} {Q : State → Prop} {H : Heap} {locs : List Loc} {ls : Array Slot} {w : Wd} {Post : Wd → Prop} (C : Cx E p s m args c cX7_init 1 yX7_init.cls) (hF : ∀ o, (53 ≤ o ∧ o < 61) → o ∈ eL E) (h : wt_X7_init w Post) (hw : Wo E s w H locs) (hl : lv_has ls 1 [(0, .ref (eA E ((53 + 8 * 0))))]) (kr : ∀ (w1 : Wd) (H1 : Heap) (locs1 : List Loc) (ls1 : Array Slot), Post w1 → Wo E s w1 H1 locs1 → ls1.size = 1 → W p l e (RmX 1 23 7 116) s m args below meth c H1 locs1 7 116 Q (F0 m 83 ls1 [])) : W p l e (RmX 1 23 7 116) s m args below meth c H locs 7 116 Q (F0 m 60 ls []) := by
  have hx := C.1
  have hb := C.2.1
  unfold wt_X7_init at h
  refine lv_aload_n hx hb dX7_init_60 rfl (lv_at hl 0 rfl) ?_
  refine g7_2 C hw 0 (show 0 < 13 by decide) (hF _ (by have := (show 0 < 13 by decide); omega)) K_f_X7_18 dX7_init_61 ?_
  refine lv_iconst (v := (-1)) hx hb dX7_init_64 (by decide) ?_
  refine done_v hw (my_runS (As := [.ref (eA E ((53 + 8 * 0 + 3))), .int ((-1))]) (rest := []) C hw (mt_J7_fill_53178 l C.2.2.2.2.2.2.2 (53 + 8 * 0 + 3) 6 (hF _ (by have := (show 0 < 13 by decide); omega)) (fun _ => ce_sta 3 (show 0 < 13 by decide) (by decide) (by decide)) _ _ h) K_m_X7_33 K_s_J7_fill_53178 K_n_J7 K_c_J7_fill_53178 hy_J7_fill_53178 ⟨Nat.le_of_ble_eq_true rfl, Nat.le_of_ble_eq_true rfl⟩ hl.1 rfl (Nat.le_of_ble_eq_true rfl) dX7_init_65 ⟨Nat.le_of_ble_eq_true rfl, Nat.le_of_ble_eq_true rfl⟩) (fun w1 H locs h hw => ?_)
  refine lv_aload_n hx hb dX7_init_68 rfl (lv_at hl 0 rfl) ?_
  refine g7_4 C hw 0 (show 0 < 13 by decide) (hF _ (by have := (show 0 < 13 by decide); omega)) K_f_X7_24 dX7_init_69 ?_
  refine lv_iconst (v := 1) hx hb dX7_init_72 (by decide) ?_
  refine done_v hw (my_runS (As := [.ref (eA E ((53 + 8 * 0 + 5))), .int 1]) (rest := []) C hw (mt_J7_fill_53178 l C.2.2.2.2.2.2.2 (53 + 8 * 0 + 5) 6 (hF _ (by have := (show 0 < 13 by decide); omega)) (fun _ => ce_sta 5 (show 0 < 13 by decide) (by decide) (by decide)) _ _ h) K_m_X7_33 K_s_J7_fill_53178 K_n_J7 K_c_J7_fill_53178 hy_J7_fill_53178 ⟨Nat.le_of_ble_eq_true rfl, Nat.le_of_ble_eq_true rfl⟩ hl.1 rfl (Nat.le_of_ble_eq_true rfl) dX7_init_73 ⟨Nat.le_of_ble_eq_true rfl, Nat.le_of_ble_eq_true rfl⟩) (fun w2 H locs h hw => ?_)
  refine lv_aload_n hx hb dX7_init_76 rfl (lv_at hl 0 rfl) ?_
  refine lv_iconst (v := (-1)) hx hb dX7_init_77 (by decide) ?_
  refine lv_iconst (v := (-1)) hx hb dX7_init_78 (by decide) ?_
  refine lv_iconst (v := (-1)) hx hb dX7_init_79 (by decide) ?_
  refine done_v hw (my_runV (As := [.int ((-1)), .int ((-1)), .int ((-1))]) (rest := []) C hw (53 + 8 * 0) 7 (hF _ (by have := (show 0 < 13 by decide); omega)) (ce_st (show 0 < 13 by decide)) rfl (mt_X7_ban l C.2.2.2.2.2.2.2 0 (show 0 < 13 by decide) (fun o a => hF o (by have := (show 0 < 13 by decide); omega)) _ _ _ _ h) K_m_X7_39 K_i_X7_ban K_v_X7_ban K_n_X7 K_c_X7_ban hy_X7_ban ⟨Nat.le_of_ble_eq_true rfl, Nat.le_of_ble_eq_true rfl⟩ hl.1 rfl (Nat.le_of_ble_eq_true rfl) dX7_init_80 ⟨Nat.le_of_ble_eq_true rfl, Nat.le_of_ble_eq_true rfl⟩) (fun w3 H locs h hw => ?_)
  exact kr _ _ _ _ h hw hl.1
def wt_X4_init (w : Wd) (Post : Wd → Prop) : Prop :=
  ∀ J25 : Int32 → Int32 → Wd → Prop, ∀ J33 : Int32 → Int32 → Int32 → Wd → Prop, ∀ J45 : Int32 → Int32 → Int32 → Int32 → Wd → Prop, (∀ (x1 : Int32) (x2 : Int32) (w : Wd), ((12 < x2 → (Post w)) ∧ (¬ 12 < x2 → (J33 x1 x2 0 w))) → J25 x1 x2 w) →
  (∀ (x1 : Int32) (x2 : Int32) (x3 : Int32) (w : Wd), ((x3 = 0 → (J45 x1 x2 x3 0 w)) ∧ (¬ x3 = 0 → ((x2 ≤ x3 → (∀ y1 : Int32, y1 = x2 + 1 → (J25 x1 y1 w))) ∧ (¬ x2 ≤ x3 → (J45 x1 x2 x3 0 w))))) → J33 x1 x2 x3 w) →
  (∀ (x1 : Int32) (x2 : Int32) (x3 : Int32) (x4 : Int32) (w : Wd), ((x4 = 0 → ((299 ≤ x1 → (∀ y2 : Int32, y2 = x3 + 1 → (J33 x1 x2 y2 w))) ∧ (¬ 299 ≤ x1 → (∀ y3 : Int32, y3 = ((((1 : Int32) <<< (x2 &&& 31)) ||| ((1 : Int32) <<< (x3 &&& 31))) ||| ((1 : Int32) <<< (x4 &&& 31))) &&& ((-2)) → (vp_in x1 299 ∧ (∀ y4 : Int32, y4 = x1 + 1 → (∀ y5 : Int32, y5 = x4 + 1 → (J45 y4 x2 x3 y5 (sA w 6 x1.toNatClampNeg y3))))))))) ∧ (¬ x4 = 0 → ((x3 ≤ x4 → (∀ y6 : Int32, y6 = x3 + 1 → (J33 x1 x2 y6 w))) ∧ (¬ x3 ≤ x4 → ((299 ≤ x1 → (∀ y7 : Int32, y7 = x3 + 1 → (J33 x1 x2 y7 w))) ∧ (¬ 299 ≤ x1 → (∀ y8 : Int32, y8 = ((((1 : Int32) <<< (x2 &&& 31)) ||| ((1 : Int32) <<< (x3 &&& 31))) ||| ((1 : Int32) <<< (x4 &&& 31))) &&& ((-2)) → (vp_in x1 299 ∧ (∀ y9 : Int32, y9 = x1 + 1 → (∀ y10 : Int32, y10 = x4 + 1 → (J45 y9 x2 x3 y10 (sA w 6 x1.toNatClampNeg y8)))))))))))) → J45 x1 x2 x3 x4 w) →
  J25 0 0 w
set_option maxHeartbeats 4000000 in
set_option maxRecDepth 100000 in
theorem tl_X4_init {l : Launch} {E : En} {p : Program} {e : Env} {s : State} {m : MethodId} {args : Array Value} {below : List Frame} {meth : Method} {c : Code} {Q : State → Prop} {H : Heap} {locs : List Loc} {ls : Array Slot} {w : Wd} {Post : Wd → Prop} (C : Cx E p s m args c cX4_init 5 yX4_init.cls) (hF : ∀ o, (5 ≤ o ∧ o < 8) → o ∈ eL E) (h : wt_X4_init w Post) (hw : Wo E s w H locs) (hl : lv_has ls 5 [(0, .ref (eA E 5))]) (kr : ∀ (w1 : Wd) (H1 : Heap) (locs1 : List Loc) (ls1 : Array Slot), Post w1 → Wo E s w1 H1 locs1 → ls1.size = 5 → W p l e (RmX 1 12 2 311) s m args below meth c H1 locs1 2 311 Q (F0 m 105 ls1 [])) : W p l e (RmX 1 12 2 311) s m args below meth c H locs 2 311 Q (F0 m 21 ls []) := by
  have hx := C.1
  have hb := C.2.1
  unfold wt_X4_init at h
  have h := h (fun x1 x2 w => ∀ (H : Heap) (locs : List Loc), Wo E s w H locs → ∀ ls : Array Slot, lv_has ls 5 [(0, .ref (eA E 5)), (1, .int x1), (2, .int x2)] → W p l e (RmX 1 12 2 311) s m args below meth c H locs 2 311 Q (F0 m 25 ls []))
  have h := h (fun x1 x2 x3 w => ∀ (H : Heap) (locs : List Loc), Wo E s w H locs → ∀ ls : Array Slot, lv_has ls 5 [(0, .ref (eA E 5)), (1, .int x1), (2, .int x2), (3, .int x3)] → W p l e (RmX 1 12 2 311) s m args below meth c H locs 2 311 Q (F0 m 33 ls []))
  have h := h (fun x1 x2 x3 x4 w => ∀ (H : Heap) (locs : List Loc), Wo E s w H locs → ∀ ls : Array Slot, lv_has ls 5 [(0, .ref (eA E 5)), (1, .int x1), (2, .int x2), (3, .int x3), (4, .int x4)] → W p l e (RmX 1 12 2 311) s m args below meth c H locs 2 311 Q (F0 m 45 ls []))
  have h := h ?_
  rotate_left
  · intro x1 x2 w h H locs hw ls hl
    refine lv_iload_n hx hb dX4_init_25 rfl (lv_at hl 2 rfl) ?_
    refine lv_bipush (v := 12) hx hb dX4_init_26 (by decide) ?_
    refine lv_icmp_gt (tgt := 105) hx hb dX4_init_28 (by decide) (fun c1 => ?_) (fun c1 => ?_)
    · have h := h.1 c1
      exact kr _ _ _ _ h hw hl.1
    · have h := h.2 c1
      refine lv_iconst (v := 0) hx hb dX4_init_31 (by decide) ?_
      refine lv_istore_n (lv' := [(3, .int 0), (0, .ref (eA E 5)), (1, .int x1), (2, .int x2)]) hx hb dX4_init_32 rfl hl (by decide) rfl (fun ls hl => ?_)
      exact h _ _ hw _ (lv_sub hl [1, 2, 3, 0] rfl)
  have h := h ?_
  rotate_left
  · intro x1 x2 x3 w h H locs hw ls hl
    refine lv_iload_n hx hb dX4_init_33 rfl (lv_at hl 3 rfl) ?_
    refine lv_if_eq (tgt := 42) hx hb dX4_init_34 (by decide) (fun c2 => ?_) (fun c2 => ?_)
    · have h := h.1 c2
      refine lv_iconst (v := 0) hx hb dX4_init_42 (by decide) ?_
      refine lv_istore (lv' := [(4, .int 0), (0, .ref (eA E 5)), (1, .int x1), (2, .int x2), (3, .int x3)]) hx hb dX4_init_43 hl (by decide) rfl (fun ls hl => ?_)
      exact h _ _ hw _ (lv_sub hl [1, 2, 3, 4, 0] rfl)
    · have h := h.2 c2
      refine lv_iload_n hx hb dX4_init_37 rfl (lv_at hl 3 rfl) ?_
      refine lv_iload_n hx hb dX4_init_38 rfl (lv_at hl 2 rfl) ?_
      refine lv_icmp_ge (tgt := 99) hx hb dX4_init_39 (by decide) (fun c3 => ?_) (fun c3 => ?_)
      · have h := h.1 c3
        obtain ⟨y1, ey1⟩ : ∃ y : Int32, y = x2 + 1 := ⟨_, rfl⟩
        have h := h y1 ey1
        refine lv_iinc (v := y1) (lv' := [(2, .int y1), (0, .ref (eA E 5)), (1, .int x1), (3, .int x3)]) hx hb dX4_init_99 hl (k := 2) rfl (by rw [ey1]; first | rfl | decide) (by decide) rfl (fun ls hl => ?_)
        refine lv_goto (tgt := 25) hx hb dX4_init_102 (by decide) ?_
        exact h _ _ hw _ (lv_sub hl [1, 2, 0] rfl)
      · have h := h.2 c3
        refine lv_iconst (v := 0) hx hb dX4_init_42 (by decide) ?_
        refine lv_istore (lv' := [(4, .int 0), (0, .ref (eA E 5)), (1, .int x1), (2, .int x2), (3, .int x3)]) hx hb dX4_init_43 hl (by decide) rfl (fun ls hl => ?_)
        exact h _ _ hw _ (lv_sub hl [1, 2, 3, 4, 0] rfl)
  have h := h ?_
  rotate_left
  · intro x1 x2 x3 x4 w h H locs hw ls hl
    refine lv_iload hx hb dX4_init_45 (lv_at hl 4 rfl) ?_
    refine lv_if_eq (tgt := 56) hx hb dX4_init_47 (by decide) (fun c4 => ?_) (fun c4 => ?_)
    · have h := h.1 c4
      refine lv_iload_n hx hb dX4_init_56 rfl (lv_at hl 1 rfl) ?_
      refine lv_sipush (v := 299) hx hb dX4_init_57 (by decide) ?_
      refine lv_icmp_ge (tgt := 93) hx hb dX4_init_60 (by decide) (fun c5 => ?_) (fun c5 => ?_)
      · have h := h.1 c5
        obtain ⟨y2, ey2⟩ : ∃ y : Int32, y = x3 + 1 := ⟨_, rfl⟩
        have h := h y2 ey2
        refine lv_iinc (v := y2) (lv' := [(3, .int y2), (0, .ref (eA E 5)), (1, .int x1), (2, .int x2), (4, .int x4)]) hx hb dX4_init_93 hl (k := 3) rfl (by rw [ey2]; first | rfl | decide) (by decide) rfl (fun ls hl => ?_)
        refine lv_goto (tgt := 33) hx hb dX4_init_96 (by decide) ?_
        exact h _ _ hw _ (lv_sub hl [1, 2, 3, 0] rfl)
      · have h := h.2 c5
        refine lv_aload_n hx hb dX4_init_63 rfl (lv_at hl 0 rfl) ?_
        refine g4_0 C hw (hF 5 (by decide)) K_f_X4_9 dX4_init_64 ?_
        refine lv_iload_n hx hb dX4_init_67 rfl (lv_at hl 1 rfl) ?_
        refine lv_iconst (v := 1) hx hb dX4_init_68 (by decide) ?_
        refine lv_iload_n hx hb dX4_init_69 rfl (lv_at hl 2 rfl) ?_
        refine lv_ishl hx hb dX4_init_70 ?_
        refine lv_iconst (v := 1) hx hb dX4_init_71 (by decide) ?_
        refine lv_iload_n hx hb dX4_init_72 rfl (lv_at hl 3 rfl) ?_
        refine lv_ishl hx hb dX4_init_73 ?_
        refine lv_ior hx hb dX4_init_74 ?_
        refine lv_iconst (v := 1) hx hb dX4_init_75 (by decide) ?_
        refine lv_iload hx hb dX4_init_76 (lv_at hl 4 rfl) ?_
        refine lv_ishl hx hb dX4_init_78 ?_
        refine lv_ior hx hb dX4_init_79 ?_
        refine lv_bipush (v := (-2)) hx hb dX4_init_80 (by decide) ?_
        refine lv_iand hx hb dX4_init_82 ?_
        refine lv_topi (fun y3 ey3 => ?_)
        have h := h y3 ey3
        obtain ⟨hi1, h⟩ := h
        refine r_iast C hw 6 299 (hF 6 (by decide)) (fun _ => rfl) hi1 dX4_init_83 (fun H locs hw => ?_)
        obtain ⟨y4, ey4⟩ : ∃ y : Int32, y = x1 + 1 := ⟨_, rfl⟩
        have h := h y4 ey4
        refine lv_iinc (v := y4) (lv' := [(1, .int y4), (0, .ref (eA E 5)), (2, .int x2), (3, .int x3), (4, .int x4)]) hx hb dX4_init_84 hl (k := 1) rfl (by rw [ey4]; first | rfl | decide) (by decide) rfl (fun ls hl => ?_)
        obtain ⟨y5, ey5⟩ : ∃ y : Int32, y = x4 + 1 := ⟨_, rfl⟩
        have h := h y5 ey5
        refine lv_iinc (v := y5) (lv' := [(4, .int y5), (1, .int y4), (0, .ref (eA E 5)), (2, .int x2), (3, .int x3)]) hx hb dX4_init_87 hl (k := 4) rfl (by rw [ey5]; first | rfl | decide) (by decide) rfl (fun ls hl => ?_)
        refine lv_goto (tgt := 45) hx hb dX4_init_90 (by decide) ?_
        exact h _ _ hw _ (lv_sub hl [2, 1, 3, 4, 0] rfl)
    · have h := h.2 c4
      refine lv_iload hx hb dX4_init_50 (lv_at hl 4 rfl) ?_
      refine lv_iload_n hx hb dX4_init_52 rfl (lv_at hl 3 rfl) ?_
      refine lv_icmp_ge (tgt := 93) hx hb dX4_init_53 (by decide) (fun c6 => ?_) (fun c6 => ?_)
      · have h := h.1 c6
        obtain ⟨y6, ey6⟩ : ∃ y : Int32, y = x3 + 1 := ⟨_, rfl⟩
        have h := h y6 ey6
        refine lv_iinc (v := y6) (lv' := [(3, .int y6), (0, .ref (eA E 5)), (1, .int x1), (2, .int x2), (4, .int x4)]) hx hb dX4_init_93 hl (k := 3) rfl (by rw [ey6]; first | rfl | decide) (by decide) rfl (fun ls hl => ?_)
        refine lv_goto (tgt := 33) hx hb dX4_init_96 (by decide) ?_
        exact h _ _ hw _ (lv_sub hl [1, 2, 3, 0] rfl)
      · have h := h.2 c6
        refine lv_iload_n hx hb dX4_init_56 rfl (lv_at hl 1 rfl) ?_
        refine lv_sipush (v := 299) hx hb dX4_init_57 (by decide) ?_
        refine lv_icmp_ge (tgt := 93) hx hb dX4_init_60 (by decide) (fun c7 => ?_) (fun c7 => ?_)
        · have h := h.1 c7
          obtain ⟨y7, ey7⟩ : ∃ y : Int32, y = x3 + 1 := ⟨_, rfl⟩
          have h := h y7 ey7
          refine lv_iinc (v := y7) (lv' := [(3, .int y7), (0, .ref (eA E 5)), (1, .int x1), (2, .int x2), (4, .int x4)]) hx hb dX4_init_93 hl (k := 3) rfl (by rw [ey7]; first | rfl | decide) (by decide) rfl (fun ls hl => ?_)
          refine lv_goto (tgt := 33) hx hb dX4_init_96 (by decide) ?_
          exact h _ _ hw _ (lv_sub hl [1, 2, 3, 0] rfl)
        · have h := h.2 c7
          refine lv_aload_n hx hb dX4_init_63 rfl (lv_at hl 0 rfl) ?_
          refine g4_0 C hw (hF 5 (by decide)) K_f_X4_9 dX4_init_64 ?_
          refine lv_iload_n hx hb dX4_init_67 rfl (lv_at hl 1 rfl) ?_
          refine lv_iconst (v := 1) hx hb dX4_init_68 (by decide) ?_
          refine lv_iload_n hx hb dX4_init_69 rfl (lv_at hl 2 rfl) ?_
          refine lv_ishl hx hb dX4_init_70 ?_
          refine lv_iconst (v := 1) hx hb dX4_init_71 (by decide) ?_
          refine lv_iload_n hx hb dX4_init_72 rfl (lv_at hl 3 rfl) ?_
          refine lv_ishl hx hb dX4_init_73 ?_
          refine lv_ior hx hb dX4_init_74 ?_
          refine lv_iconst (v := 1) hx hb dX4_init_75 (by decide) ?_
          refine lv_iload hx hb dX4_init_76 (lv_at hl 4 rfl) ?_
          refine lv_ishl hx hb dX4_init_78 ?_
          refine lv_ior hx hb dX4_init_79 ?_
          refine lv_bipush (v := (-2)) hx hb dX4_init_80 (by decide) ?_
          refine lv_iand hx hb dX4_init_82 ?_
          refine lv_topi (fun y8 ey8 => ?_)
          have h := h y8 ey8
          obtain ⟨hi2, h⟩ := h
          refine r_iast C hw 6 299 (hF 6 (by decide)) (fun _ => rfl) hi2 dX4_init_83 (fun H locs hw => ?_)
          obtain ⟨y9, ey9⟩ : ∃ y : Int32, y = x1 + 1 := ⟨_, rfl⟩
          have h := h y9 ey9
          refine lv_iinc (v := y9) (lv' := [(1, .int y9), (0, .ref (eA E 5)), (2, .int x2), (3, .int x3), (4, .int x4)]) hx hb dX4_init_84 hl (k := 1) rfl (by rw [ey9]; first | rfl | decide) (by decide) rfl (fun ls hl => ?_)
          obtain ⟨y10, ey10⟩ : ∃ y : Int32, y = x4 + 1 := ⟨_, rfl⟩
          have h := h y10 ey10
          refine lv_iinc (v := y10) (lv' := [(4, .int y10), (1, .int y9), (0, .ref (eA E 5)), (2, .int x2), (3, .int x3)]) hx hb dX4_init_87 hl (k := 4) rfl (by rw [ey10]; first | rfl | decide) (by decide) rfl (fun ls hl => ?_)
          refine lv_goto (tgt := 45) hx hb dX4_init_90 (by decide) ?_
          exact h _ _ hw _ (lv_sub hl [2, 1, 3, 4, 0] rfl)
  refine lv_iconst (v := 0) hx hb dX4_init_21 (by decide) ?_
  refine lv_istore_n (lv' := [(1, .int 0), (0, .ref (eA E 5))]) hx hb dX4_init_22 rfl hl (by decide) rfl (fun ls hl => ?_)
  refine lv_iconst (v := 0) hx hb dX4_init_23 (by decide) ?_
  refine lv_istore_n (lv' := [(2, .int 0), (1, .int 0), (0, .ref (eA E 5))]) hx hb dX4_init_24 rfl hl (by decide) rfl (fun ls hl => ?_)
  exact h _ _ hw _ (lv_sub hl [2, 1, 0] rfl)

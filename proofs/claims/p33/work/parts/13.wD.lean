theorem hy_X1_isWord : yX1_isWord.cls ≠ "java/lang/invoke/MethodHandle" ∧ yX1_isWord.cls ≠ "java/lang/invoke/VarHandle" ∧ (parseMethodDescriptor yX1_isWord.desc).map (fun d => d.parameters.length) = some 1 := by decide +kernel
def wp_X1_isWord (si1 : Nat) (w : Wd) (Post : Int32 → Wd → Prop) : Prop :=
  ∀ J28 : Int32 → Wd → Prop, (∀ (x2 : Int32) (w : Wd), (wp_J0_length_8abf5 si1 w (fun r2 w2 => (r2 ≤ x2 → (Post 1 w2)) ∧ (¬ r2 ≤ x2 → (((gI w2 1 3) ≤ ((gI w2 1 6) + x2) → (Post 1 w2)) ∧ (¬ (gI w2 1 3) ≤ ((gI w2 1 6) + x2) → (vp_in ((gI w2 1 6) + x2) 400 ∧ (wp_J0_charAt_5068e si1 w2 x2 (fun r3 w3 => ((gA w2 2 (((gI w2 1 6) + x2).toNatClampNeg)) = r3 → (∀ y1 : Int32, y1 = x2 + 1 → (J28 y1 w3))) ∧ (¬ (gA w2 2 (((gI w2 1 6) + x2).toNatClampNeg)) = r3 → (Post 0 w3)))))))))) → J28 x2 w) →
  ((gI w 1 5) = 2 → (wp_J0_length_8abf5 si1 w (fun r1 w1 => (((gI w 1 4) - (gI w 1 6)) = r1 → (J28 0 w1)) ∧ (¬ ((gI w 1 4) - (gI w 1 6)) = r1 → (Post 0 w1))))) ∧ (¬ (gI w 1 5) = 2 → (Post 0 w))
set_option maxHeartbeats 4000000 in
set_option maxRecDepth 100000 in
theorem mt_X1_isWord (l : Launch) {E : En} (hI : Inj E) (hF : ∀ o, (o < 15 ∨ 27 ≤ o ∧ o < 157) → o ∈ eL E) (si1 : Nat) (hsi1 : si1 < 18) (w : Wd) {Post : Int32 → Wd → Prop} (h : wp_X1_isWord si1 w Post) : MI l E yX1_isWord cX1_isWord 3 (some .boolean) 4 85 [.ref (eA E 1), .ref (eT E (1 + si1))] w Post := by
  refine MG.intro hI (by decide +kernel) (Nat.le_of_ble_eq_true rfl) ?_
  intro p e s m args below meth c Q C hr hlk hQ hw ls hl
  have hx := C.1
  have hb := C.2.1
  have hl : lv_has ls 3 [(0, .ref (eA E 1)), (1, .ref (eT E (1 + si1)))] := hl
  unfold wp_X1_isWord at h
  have h := h (fun x2 w => Jp E p l e (Rm 4 85) s m args below meth c Q 3 28 [(0, .ref (eA E 1)), (1, .ref (eT E (1 + si1))), (2, .int x2)] w)
  have h := h ?_
  rotate_left
  · intro x2 w h H locs hw ls hl
    refine lv_iload_n hx hb dX1_isWord_28 rfl (lv_at hl 2 rfl) ?_
    refine lv_aload_n hx hb dX1_isWord_29 rfl (lv_at hl 1 rfl) ?_
    refine done_i hw (my_runVS (As := []) (rest := [.int x2]) C hw si1 hsi1 (mt_J0_length_8abf5 l C.2.2.2.2.2.2.2 si1 hsi1 _ h) K_m_X1_142 K_i_J0_length_8abf5 K_v_J0_length_8abf5 K_n_J0 K_c_J0_length_8abf5 hy_J0_length ⟨Nat.le_of_ble_eq_true rfl, Nat.le_of_ble_eq_true rfl⟩ hl.1 rfl (Nat.le_of_ble_eq_true rfl) dX1_isWord_30 ⟨Nat.zero_le _, Nat.zero_le _⟩) (fun r2 w2 H locs h hw => ?_)
    refine lv_icmp_ge (tgt := 76) hx hb dX1_isWord_33 (by decide) (fun c3 => ?_) (fun c3 => ?_)
    · have h := h.1 c3
      refine lv_iconst (v := 1) hx hb dX1_isWord_76 (by decide) ?_
      rw [hQ]
      exact ret_z C hr hlk hw h (by decide) dX1_isWord_77
    · have h := h.2 c3
      refine lv_aload_n hx hb dX1_isWord_36 rfl (lv_at hl 0 rfl) ?_
      refine g1_6 C hw (hF 1 (by decide)) K_f_X1_139 dX1_isWord_37 ?_
      refine lv_iload_n hx hb dX1_isWord_40 rfl (lv_at hl 2 rfl) ?_
      refine lv_iadd hx hb dX1_isWord_41 ?_
      refine lv_aload_n hx hb dX1_isWord_42 rfl (lv_at hl 0 rfl) ?_
      refine g1_3 C hw (hF 1 (by decide)) K_f_X1_32 dX1_isWord_43 ?_
      refine lv_icmp_ge (tgt := 76) hx hb dX1_isWord_46 (by decide) (fun c4 => ?_) (fun c4 => ?_)
      · have h := h.1 c4
        refine lv_iconst (v := 1) hx hb dX1_isWord_76 (by decide) ?_
        rw [hQ]
        exact ret_z C hr hlk hw h (by decide) dX1_isWord_77
      · have h := h.2 c4
        refine lv_aload_n hx hb dX1_isWord_49 rfl (lv_at hl 0 rfl) ?_
        refine g1_2 C hw (hF 1 (by decide)) K_f_X1_18 dX1_isWord_50 ?_
        refine lv_aload_n hx hb dX1_isWord_53 rfl (lv_at hl 0 rfl) ?_
        refine g1_6 C hw (hF 1 (by decide)) K_f_X1_139 dX1_isWord_54 ?_
        refine lv_iload_n hx hb dX1_isWord_57 rfl (lv_at hl 2 rfl) ?_
        refine lv_iadd hx hb dX1_isWord_58 ?_
        obtain ⟨hi1, h⟩ := h
        refine r_bald C hw 2 400 (hF 2 (by decide)) rfl hi1 dX1_isWord_59 ?_
        refine lv_aload_n hx hb dX1_isWord_60 rfl (lv_at hl 1 rfl) ?_
        refine lv_iload_n hx hb dX1_isWord_61 rfl (lv_at hl 2 rfl) ?_
        refine done_i hw (my_runVS (As := [.int x2]) (rest := [.int (gA w2 2 (((gI w2 1 6) + x2).toNatClampNeg))]) C hw si1 hsi1 (mt_J0_charAt_5068e l C.2.2.2.2.2.2.2 si1 hsi1 _ _ h) K_m_X1_147 K_i_J0_charAt_5068e K_v_J0_charAt_5068e K_n_J0 K_c_J0_charAt_5068e hy_J0_charAt ⟨Nat.le_of_ble_eq_true rfl, Nat.le_of_ble_eq_true rfl⟩ hl.1 rfl (Nat.le_of_ble_eq_true rfl) dX1_isWord_62 ⟨Nat.zero_le _, Nat.zero_le _⟩) (fun r3 w3 H locs h hw => ?_)
        refine lv_icmp_eq (tgt := 70) hx hb dX1_isWord_65 (by decide) (fun c5 => ?_) (fun c5 => ?_)
        · have h := h.1 c5
          obtain ⟨y1, ey1⟩ : ∃ y : Int32, y = x2 + 1 := ⟨_, rfl⟩
          have h := h y1 ey1
          refine lv_iinc (v := y1) (lv' := [(2, .int y1), (0, .ref (eA E 1)), (1, .ref (eT E (1 + si1)))]) hx hb dX1_isWord_70 hl (k := 2) rfl (by rw [ey1]; first | rfl | decide) (by decide) rfl (fun ls hl => ?_)
          refine lv_goto (tgt := 28) hx hb dX1_isWord_73 (by decide) ?_
          exact h _ _ hw _ (lv_sub hl [1, 2, 0] rfl)
        · have h := h.2 c5
          refine lv_iconst (v := 0) hx hb dX1_isWord_68 (by decide) ?_
          rw [hQ]
          exact ret_z C hr hlk hw h (by decide) dX1_isWord_69
  refine lv_aload_n hx hb dX1_isWord_0 rfl (lv_at hl 0 rfl) ?_
  refine g1_5 C hw (hF 1 (by decide)) K_f_X1_54 dX1_isWord_1 ?_
  refine lv_iconst (v := 2) hx hb dX1_isWord_4 (by decide) ?_
  refine lv_icmp_ne (tgt := 24) hx hb dX1_isWord_5 (by decide) (fun c1 => ?_) (fun c1 => ?_)
  · have h := h.2 c1
    refine lv_iconst (v := 0) hx hb dX1_isWord_24 (by decide) ?_
    rw [hQ]
    exact ret_z C hr hlk hw h (by decide) dX1_isWord_25
  · have h := h.1 c1
    refine lv_aload_n hx hb dX1_isWord_8 rfl (lv_at hl 0 rfl) ?_
    refine g1_4 C hw (hF 1 (by decide)) K_f_X1_35 dX1_isWord_9 ?_
    refine lv_aload_n hx hb dX1_isWord_12 rfl (lv_at hl 0 rfl) ?_
    refine g1_6 C hw (hF 1 (by decide)) K_f_X1_139 dX1_isWord_13 ?_
    refine lv_isub hx hb dX1_isWord_16 ?_
    refine lv_aload_n hx hb dX1_isWord_17 rfl (lv_at hl 1 rfl) ?_
    refine done_i hw (my_runVS (As := []) (rest := [.int ((gI w 1 4) - (gI w 1 6))]) C hw si1 hsi1 (mt_J0_length_8abf5 l C.2.2.2.2.2.2.2 si1 hsi1 _ h) K_m_X1_142 K_i_J0_length_8abf5 K_v_J0_length_8abf5 K_n_J0 K_c_J0_length_8abf5 hy_J0_length ⟨Nat.le_of_ble_eq_true rfl, Nat.le_of_ble_eq_true rfl⟩ hl.1 rfl (Nat.le_of_ble_eq_true rfl) dX1_isWord_18 ⟨Nat.zero_le _, Nat.zero_le _⟩) (fun r1 w1 H locs h hw => ?_)
    refine lv_icmp_eq (tgt := 26) hx hb dX1_isWord_21 (by decide) (fun c2 => ?_) (fun c2 => ?_)
    · have h := h.1 c2
      refine lv_iconst (v := 0) hx hb dX1_isWord_26 (by decide) ?_
      refine lv_istore_n (lv' := [(2, .int 0), (0, .ref (eA E 1)), (1, .ref (eT E (1 + si1)))]) hx hb dX1_isWord_27 rfl hl (by decide) rfl (fun ls hl => ?_)
      exact h _ _ hw _ (lv_sub hl [1, 2, 0] rfl)
    · have h := h.2 c2
      refine lv_iconst (v := 0) hx hb dX1_isWord_24 (by decide) ?_
      rw [hQ]
      exact ret_z C hr hlk hw h (by decide) dX1_isWord_25
theorem hy_X1_readLadder : yX1_readLadder.cls ≠ "java/lang/invoke/MethodHandle" ∧ yX1_readLadder.cls ≠ "java/lang/invoke/VarHandle" ∧ (parseMethodDescriptor yX1_readLadder.desc).map (fun d => d.parameters.length) = some 0 := by decide +kernel
def wp_X1_readLadder (w : Wd) (Post : Int32 → Wd → Prop) : Prop :=
  ∀ y1 : Int32, y1 = gI w (27 + 7 * 0) 6 → ((y1 < 6 → (wp_X1_nextToken w (fun w1 => wp_X1_isNumber w1 1 12 (fun r1 w2 => (r1 = 0 → (Post 0 w2)) ∧ (¬ r1 = 0 → (∀ y2 : Int32, y2 = gI w2 1 7 → (wp_X1_nextToken w2 (fun w3 => wp_X1_readSet w3 y2 3 (fun r2 w4 => ((gI w4 1 8) = 0 → (wp_X1_isWord 2 w4 (fun r4 w6 => (r4 = 0 → (((gI w6 1 8) = 0 → (vp_in y1 6 ∧ (wp_J6_bitCount_0f7a4 (sA w6 (27 + 7 * 0 + 1) y1.toNatClampNeg y2) r2 (fun r5 w7 => vp_in y1 6 ∧ (vp_in y1 6 ∧ (vp_in y1 6 ∧ (∀ y4 : Int32, y4 = y1 + 1 → (Post 1 (sI (sA (sA (sA w7 (27 + 7 * 0 + 2) y1.toNatClampNeg r5) (27 + 7 * 0 + 4) y1.toNatClampNeg r2) (27 + 7 * 0 + 3) y1.toNatClampNeg 14) (27 + 7 * 0) 6 y4))))))))) ∧ (¬ (gI w6 1 8) = 0 → (Post 0 w6)))) ∧ (¬ r4 = 0 → (wp_X1_nextToken w6 (fun w8 => wp_X1_readSet w8 12 4 (fun r6 w9 => ((gI w9 1 8) = 0 → (vp_in y1 6 ∧ (wp_J6_bitCount_0f7a4 (sA w9 (27 + 7 * 0 + 1) y1.toNatClampNeg y2) r2 (fun r7 w10 => vp_in y1 6 ∧ (vp_in y1 6 ∧ (vp_in y1 6 ∧ (∀ y5 : Int32, y5 = y1 + 1 → (Post 1 (sI (sA (sA (sA w10 (27 + 7 * 0 + 2) y1.toNatClampNeg r7) (27 + 7 * 0 + 4) y1.toNatClampNeg r2) (27 + 7 * 0 + 3) y1.toNatClampNeg r6) (27 + 7 * 0) 6 y5))))))))) ∧ (¬ (gI w9 1 8) = 0 → (Post 0 w9))))))))) ∧ (¬ (gI w4 1 8) = 0 → (((gI w4 1 8) = 0 → (vp_in y1 6 ∧ (wp_J6_bitCount_0f7a4 (sA w4 (27 + 7 * 0 + 1) y1.toNatClampNeg y2) r2 (fun r3 w5 => vp_in y1 6 ∧ (vp_in y1 6 ∧ (vp_in y1 6 ∧ (∀ y3 : Int32, y3 = y1 + 1 → (Post 1 (sI (sA (sA (sA w5 (27 + 7 * 0 + 2) y1.toNatClampNeg r3) (27 + 7 * 0 + 4) y1.toNatClampNeg r2) (27 + 7 * 0 + 3) y1.toNatClampNeg 14) (27 + 7 * 0) 6 y3))))))))) ∧ (¬ (gI w4 1 8) = 0 → (Post 0 w4))))))))))))) ∧ (¬ y1 < 6 → (wp_X1_fail w 4 (fun r8 w11 => (r8 = 0 ∨ r8 = 1) ∧ Post r8 w11))))
set_option maxHeartbeats 4000000 in
set_option maxRecDepth 100000 in
theorem mt_X1_readLadder (l : Launch) {E : En} (hI : Inj E) (hF : ∀ o, (o < 15 ∨ 27 ≤ o ∧ o < 157) → o ∈ eL E) (w : Wd) {Post : Int32 → Wd → Prop} (h : wp_X1_readLadder w Post) : MI l E yX1_readLadder cX1_readLadder 5 (some .boolean) 5 107 [.ref (eA E 1)] w Post := by
  refine MG.intro hI (by decide +kernel) (Nat.le_of_ble_eq_true rfl) ?_
  intro p e s m args below meth c Q C hr hlk hQ hw ls hl
  have hx := C.1
  have hb := C.2.1
  have hl : lv_has ls 5 [(0, .ref (eA E 1))] := hl
  unfold wp_X1_readLadder at h
  refine lv_aload_n hx hb dX1_readLadder_0 rfl (lv_at hl 0 rfl) ?_
  refine g1_0 C hw (hF 1 (by decide)) K_f_X1_12 dX1_readLadder_1 ?_
  refine g6_6 C hw 0 (show 0 < 2 by decide) (hF _ (by have := (show 0 < 2 by decide); omega)) K_f_X1_92 dX1_readLadder_4 ?_
  refine lv_topi (fun y1 ey1 => ?_)
  have h := h y1 ey1
  refine lv_istore_n (lv' := [(1, .int y1), (0, .ref (eA E 1))]) hx hb dX1_readLadder_7 rfl hl (by decide) rfl (fun ls hl => ?_)
  refine lv_iload_n hx hb dX1_readLadder_8 rfl (lv_at hl 0 rfl) ?_
  refine lv_bipush (v := 6) hx hb dX1_readLadder_9 (by decide) ?_
  refine lv_icmp_lt (tgt := 20) hx hb dX1_readLadder_11 (by decide) (fun c1 => ?_) (fun c1 => ?_)
  · have h := h.1 c1
    refine lv_aload_n hx hb dX1_readLadder_20 rfl (lv_at hl 1 rfl) ?_
    refine done_v hw (my_runV (As := []) (rest := []) C hw 1 1 (hF 1 (by decide)) rfl rfl (mt_X1_nextToken l C.2.2.2.2.2.2.2 hF _ h) K_m_X1_51 K_i_X1_nextToken K_v_X1_nextToken K_n_X1 K_c_X1_nextToken hy_X1_nextToken ⟨Nat.le_of_ble_eq_true rfl, Nat.le_of_ble_eq_true rfl⟩ hl.1 rfl (Nat.le_of_ble_eq_true rfl) dX1_readLadder_21 ⟨Nat.zero_le _, Nat.zero_le _⟩) (fun w1 H locs h hw => ?_)
    refine lv_aload_n hx hb dX1_readLadder_24 rfl (lv_at hl 1 rfl) ?_
    refine lv_iconst (v := 1) hx hb dX1_readLadder_25 (by decide) ?_
    refine lv_bipush (v := 12) hx hb dX1_readLadder_26 (by decide) ?_
    refine done_i hw (my_runV (As := [.int 1, .int 12]) (rest := []) C hw 1 1 (hF 1 (by decide)) rfl rfl (mt_X1_isNumber l C.2.2.2.2.2.2.2 hF _ _ _ h) K_m_X1_95 K_i_X1_isNumber K_v_X1_isNumber K_n_X1 K_c_X1_isNumber hy_X1_isNumber ⟨Nat.le_of_ble_eq_true rfl, Nat.le_of_ble_eq_true rfl⟩ hl.1 rfl (Nat.le_of_ble_eq_true rfl) dX1_readLadder_28 ⟨Nat.zero_le _, Nat.zero_le _⟩) (fun r1 w2 H locs h hw => ?_)
    refine lv_if_ne (tgt := 36) hx hb dX1_readLadder_31 (by decide) (fun c2 => ?_) (fun c2 => ?_)
    · have h := h.2 c2
      refine lv_aload_n hx hb dX1_readLadder_36 rfl (lv_at hl 1 rfl) ?_
      refine g1_7 C hw (hF 1 (by decide)) K_f_X1_99 dX1_readLadder_37 ?_
      refine lv_topi (fun y2 ey2 => ?_)
      have h := h y2 ey2
      refine lv_istore_n (lv' := [(2, .int y2), (1, .int y1), (0, .ref (eA E 1))]) hx hb dX1_readLadder_40 rfl hl (by decide) rfl (fun ls hl => ?_)
      refine lv_aload_n hx hb dX1_readLadder_41 rfl (lv_at hl 2 rfl) ?_
      refine done_v hw (my_runV (As := []) (rest := []) C hw 1 1 (hF 1 (by decide)) rfl rfl (mt_X1_nextToken l C.2.2.2.2.2.2.2 hF _ h) K_m_X1_51 K_i_X1_nextToken K_v_X1_nextToken K_n_X1 K_c_X1_nextToken hy_X1_nextToken ⟨Nat.le_of_ble_eq_true rfl, Nat.le_of_ble_eq_true rfl⟩ hl.1 rfl (Nat.le_of_ble_eq_true rfl) dX1_readLadder_42 ⟨Nat.zero_le _, Nat.zero_le _⟩) (fun w3 H locs h hw => ?_)
      refine lv_aload_n hx hb dX1_readLadder_45 rfl (lv_at hl 2 rfl) ?_
      refine lv_iload_n hx hb dX1_readLadder_46 rfl (lv_at hl 0 rfl) ?_
      refine lv_iconst (v := 3) hx hb dX1_readLadder_47 (by decide) ?_
      refine done_i hw (my_runV (As := [.int y2, .int 3]) (rest := []) C hw 1 1 (hF 1 (by decide)) rfl rfl (mt_X1_readSet l C.2.2.2.2.2.2.2 hF _ _ _ h) K_m_X1_102 K_i_X1_readSet K_v_X1_readSet K_n_X1 K_c_X1_readSet hy_X1_readSet ⟨Nat.le_of_ble_eq_true rfl, Nat.le_of_ble_eq_true rfl⟩ hl.1 rfl (Nat.le_of_ble_eq_true rfl) dX1_readLadder_48 ⟨Nat.zero_le _, Nat.zero_le _⟩) (fun r2 w4 H locs h hw => ?_)
      refine lv_istore_n (lv' := [(3, .int r2), (2, .int y2), (1, .int y1), (0, .ref (eA E 1))]) hx hb dX1_readLadder_51 rfl hl (by decide) rfl (fun ls hl => ?_)
      refine lv_bipush (v := 14) hx hb dX1_readLadder_52 (by decide) ?_
      refine lv_istore (lv' := [(4, .int 14), (3, .int r2), (2, .int y2), (1, .int y1), (0, .ref (eA E 1))]) hx hb dX1_readLadder_54 hl (by decide) rfl (fun ls hl => ?_)
      refine lv_aload_n hx hb dX1_readLadder_56 rfl (lv_at hl 4 rfl) ?_
      refine g1_8 C hw (hF 1 (by decide)) K_f_X1_38 dX1_readLadder_57 ?_
      refine lv_if_ne (tgt := 85) hx hb dX1_readLadder_60 (by decide) (fun c3 => ?_) (fun c3 => ?_)
      · have h := h.2 c3
        refine lv_aload_n hx hb dX1_readLadder_85 rfl (lv_at hl 4 rfl) ?_
        refine g1_8 C hw (hF 1 (by decide)) K_f_X1_38 dX1_readLadder_86 ?_
        refine lv_if_eq (tgt := 94) hx hb dX1_readLadder_89 (by decide) (fun c4 => ?_) (fun c4 => ?_)
        · have h := h.1 c4
          refine lv_aload_n hx hb dX1_readLadder_94 rfl (lv_at hl 4 rfl) ?_
          refine g1_0 C hw (hF 1 (by decide)) K_f_X1_12 dX1_readLadder_95 ?_
          refine g6_0 C hw 0 (show 0 < 2 by decide) (hF _ (by have := (show 0 < 2 by decide); omega)) K_f_X1_107 dX1_readLadder_98 ?_
          refine lv_iload_n hx hb dX1_readLadder_101 rfl (lv_at hl 3 rfl) ?_
          refine lv_iload_n hx hb dX1_readLadder_102 rfl (lv_at hl 2 rfl) ?_
          obtain ⟨hi1, h⟩ := h
          refine r_iast C hw (27 + 7 * 0 + 1) 6 (hF _ (by have := (show 0 < 2 by decide); omega)) (fun _ => ce_sea 1 (show 0 < 2 by decide) (by decide) (by decide)) hi1 dX1_readLadder_103 (fun H locs hw => ?_)
          refine lv_aload_n hx hb dX1_readLadder_104 rfl (lv_at hl 4 rfl) ?_
          refine g1_0 C hw (hF 1 (by decide)) K_f_X1_12 dX1_readLadder_105 ?_
          refine g6_1 C hw 0 (show 0 < 2 by decide) (hF _ (by have := (show 0 < 2 by decide); omega)) K_f_X1_111 dX1_readLadder_108 ?_
          refine lv_iload_n hx hb dX1_readLadder_111 rfl (lv_at hl 3 rfl) ?_
          refine lv_iload_n hx hb dX1_readLadder_112 rfl (lv_at hl 1 rfl) ?_
          refine done_i hw (my_runS (As := [.int r2]) (rest := [.int y1, .ref (eA E ((27 + 7 * 0 + 2)))]) C hw (mt_J6_bitCount_0f7a4 l C.2.2.2.2.2.2.2 _ _ h) K_m_X1_114 K_s_J6_bitCount_0f7a4 K_n_J6 K_c_J6_bitCount_0f7a4 hy_J6_bitCount_0f7a4 ⟨Nat.le_of_ble_eq_true rfl, Nat.le_of_ble_eq_true rfl⟩ hl.1 rfl (Nat.le_of_ble_eq_true rfl) dX1_readLadder_113 ⟨Nat.zero_le _, Nat.zero_le _⟩) (fun r3 w5 H locs h hw => ?_)
          obtain ⟨hi2, h⟩ := h
          refine r_iast C hw (27 + 7 * 0 + 2) 6 (hF _ (by have := (show 0 < 2 by decide); omega)) (fun _ => ce_sea 2 (show 0 < 2 by decide) (by decide) (by decide)) hi2 dX1_readLadder_116 (fun H locs hw => ?_)
          refine lv_aload_n hx hb dX1_readLadder_117 rfl (lv_at hl 4 rfl) ?_
          refine g1_0 C hw (hF 1 (by decide)) K_f_X1_12 dX1_readLadder_118 ?_
          refine g6_3 C hw 0 (show 0 < 2 by decide) (hF _ (by have := (show 0 < 2 by decide); omega)) K_f_X1_120 dX1_readLadder_121 ?_
          refine lv_iload_n hx hb dX1_readLadder_124 rfl (lv_at hl 3 rfl) ?_
          refine lv_iload_n hx hb dX1_readLadder_125 rfl (lv_at hl 1 rfl) ?_
          obtain ⟨hi3, h⟩ := h
          refine r_iast C hw (27 + 7 * 0 + 4) 6 (hF _ (by have := (show 0 < 2 by decide); omega)) (fun _ => ce_sea 4 (show 0 < 2 by decide) (by decide) (by decide)) hi3 dX1_readLadder_126 (fun H locs hw => ?_)
          refine lv_aload_n hx hb dX1_readLadder_127 rfl (lv_at hl 4 rfl) ?_
          refine g1_0 C hw (hF 1 (by decide)) K_f_X1_12 dX1_readLadder_128 ?_
          refine g6_2 C hw 0 (show 0 < 2 by decide) (hF _ (by have := (show 0 < 2 by decide); omega)) K_f_X1_123 dX1_readLadder_131 ?_
          refine lv_iload_n hx hb dX1_readLadder_134 rfl (lv_at hl 3 rfl) ?_
          refine lv_iload hx hb dX1_readLadder_135 (lv_at hl 0 rfl) ?_
          obtain ⟨hi4, h⟩ := h
          refine r_iast C hw (27 + 7 * 0 + 3) 6 (hF _ (by have := (show 0 < 2 by decide); omega)) (fun _ => ce_sea 3 (show 0 < 2 by decide) (by decide) (by decide)) hi4 dX1_readLadder_137 (fun H locs hw => ?_)
          refine lv_aload_n hx hb dX1_readLadder_138 rfl (lv_at hl 4 rfl) ?_
          refine g1_0 C hw (hF 1 (by decide)) K_f_X1_12 dX1_readLadder_139 ?_
          refine lv_iload_n hx hb dX1_readLadder_142 rfl (lv_at hl 3 rfl) ?_
          refine lv_iconst (v := 1) hx hb dX1_readLadder_143 (by decide) ?_
          refine lv_iadd hx hb dX1_readLadder_144 ?_
          refine lv_topi (fun y3 ey3 => ?_)
          have h := h y3 ey3
          refine p6_6 C hw 0 (show 0 < 2 by decide) (hF _ (by have := (show 0 < 2 by decide); omega)) K_f_X1_92 dX1_readLadder_145 (fun H locs hw => ?_)
          refine lv_iconst (v := 1) hx hb dX1_readLadder_148 (by decide) ?_
          rw [hQ]
          exact ret_z C hr hlk hw h (by decide) dX1_readLadder_149
        · have h := h.2 c4
          refine lv_iconst (v := 0) hx hb dX1_readLadder_92 (by decide) ?_
          rw [hQ]
          exact ret_z C hr hlk hw h (by decide) dX1_readLadder_93
      · have h := h.1 c3
        refine lv_aload_n hx hb dX1_readLadder_63 rfl (lv_at hl 4 rfl) ?_
        refine r_ldcS C 2 (by decide +kernel) dX1_readLadder_64 ?_
        refine done_i hw (my_runV (As := [.ref (eT E (1 + 2))]) (rest := []) C hw 1 1 (hF 1 (by decide)) rfl rfl (mt_X1_isWord l C.2.2.2.2.2.2.2 hF 2 (show 2 < 18 by decide) _ h) K_m_X1_62 K_i_X1_isWord K_v_X1_isWord K_n_X1 K_c_X1_isWord hy_X1_isWord ⟨Nat.le_of_ble_eq_true rfl, Nat.le_of_ble_eq_true rfl⟩ hl.1 rfl (Nat.le_of_ble_eq_true rfl) dX1_readLadder_66 ⟨Nat.zero_le _, Nat.zero_le _⟩) (fun r4 w6 H locs h hw => ?_)
        refine lv_if_eq (tgt := 85) hx hb dX1_readLadder_69 (by decide) (fun c5 => ?_) (fun c5 => ?_)
        · have h := h.1 c5
          refine lv_aload_n hx hb dX1_readLadder_85 rfl (lv_at hl 4 rfl) ?_
          refine g1_8 C hw (hF 1 (by decide)) K_f_X1_38 dX1_readLadder_86 ?_
          refine lv_if_eq (tgt := 94) hx hb dX1_readLadder_89 (by decide) (fun c6 => ?_) (fun c6 => ?_)
          · have h := h.1 c6
            refine lv_aload_n hx hb dX1_readLadder_94 rfl (lv_at hl 4 rfl) ?_
            refine g1_0 C hw (hF 1 (by decide)) K_f_X1_12 dX1_readLadder_95 ?_
            refine g6_0 C hw 0 (show 0 < 2 by decide) (hF _ (by have := (show 0 < 2 by decide); omega)) K_f_X1_107 dX1_readLadder_98 ?_
            refine lv_iload_n hx hb dX1_readLadder_101 rfl (lv_at hl 3 rfl) ?_
            refine lv_iload_n hx hb dX1_readLadder_102 rfl (lv_at hl 2 rfl) ?_
            obtain ⟨hi5, h⟩ := h
            refine r_iast C hw (27 + 7 * 0 + 1) 6 (hF _ (by have := (show 0 < 2 by decide); omega)) (fun _ => ce_sea 1 (show 0 < 2 by decide) (by decide) (by decide)) hi5 dX1_readLadder_103 (fun H locs hw => ?_)
            refine lv_aload_n hx hb dX1_readLadder_104 rfl (lv_at hl 4 rfl) ?_
            refine g1_0 C hw (hF 1 (by decide)) K_f_X1_12 dX1_readLadder_105 ?_
            refine g6_1 C hw 0 (show 0 < 2 by decide) (hF _ (by have := (show 0 < 2 by decide); omega)) K_f_X1_111 dX1_readLadder_108 ?_
            refine lv_iload_n hx hb dX1_readLadder_111 rfl (lv_at hl 3 rfl) ?_
            refine lv_iload_n hx hb dX1_readLadder_112 rfl (lv_at hl 1 rfl) ?_
            refine done_i hw (my_runS (As := [.int r2]) (rest := [.int y1, .ref (eA E ((27 + 7 * 0 + 2)))]) C hw (mt_J6_bitCount_0f7a4 l C.2.2.2.2.2.2.2 _ _ h) K_m_X1_114 K_s_J6_bitCount_0f7a4 K_n_J6 K_c_J6_bitCount_0f7a4 hy_J6_bitCount_0f7a4 ⟨Nat.le_of_ble_eq_true rfl, Nat.le_of_ble_eq_true rfl⟩ hl.1 rfl (Nat.le_of_ble_eq_true rfl) dX1_readLadder_113 ⟨Nat.zero_le _, Nat.zero_le _⟩) (fun r5 w7 H locs h hw => ?_)
            obtain ⟨hi6, h⟩ := h
            refine r_iast C hw (27 + 7 * 0 + 2) 6 (hF _ (by have := (show 0 < 2 by decide); omega)) (fun _ => ce_sea 2 (show 0 < 2 by decide) (by decide) (by decide)) hi6 dX1_readLadder_116 (fun H locs hw => ?_)
            refine lv_aload_n hx hb dX1_readLadder_117 rfl (lv_at hl 4 rfl) ?_
            refine g1_0 C hw (hF 1 (by decide)) K_f_X1_12 dX1_readLadder_118 ?_
            refine g6_3 C hw 0 (show 0 < 2 by decide) (hF _ (by have := (show 0 < 2 by decide); omega)) K_f_X1_120 dX1_readLadder_121 ?_
            refine lv_iload_n hx hb dX1_readLadder_124 rfl (lv_at hl 3 rfl) ?_
            refine lv_iload_n hx hb dX1_readLadder_125 rfl (lv_at hl 1 rfl) ?_
            obtain ⟨hi7, h⟩ := h
            refine r_iast C hw (27 + 7 * 0 + 4) 6 (hF _ (by have := (show 0 < 2 by decide); omega)) (fun _ => ce_sea 4 (show 0 < 2 by decide) (by decide) (by decide)) hi7 dX1_readLadder_126 (fun H locs hw => ?_)
            refine lv_aload_n hx hb dX1_readLadder_127 rfl (lv_at hl 4 rfl) ?_
            refine g1_0 C hw (hF 1 (by decide)) K_f_X1_12 dX1_readLadder_128 ?_
            refine g6_2 C hw 0 (show 0 < 2 by decide) (hF _ (by have := (show 0 < 2 by decide); omega)) K_f_X1_123 dX1_readLadder_131 ?_
            refine lv_iload_n hx hb dX1_readLadder_134 rfl (lv_at hl 3 rfl) ?_
            refine lv_iload hx hb dX1_readLadder_135 (lv_at hl 0 rfl) ?_
            obtain ⟨hi8, h⟩ := h
            refine r_iast C hw (27 + 7 * 0 + 3) 6 (hF _ (by have := (show 0 < 2 by decide); omega)) (fun _ => ce_sea 3 (show 0 < 2 by decide) (by decide) (by decide)) hi8 dX1_readLadder_137 (fun H locs hw => ?_)
            refine lv_aload_n hx hb dX1_readLadder_138 rfl (lv_at hl 4 rfl) ?_
            refine g1_0 C hw (hF 1 (by decide)) K_f_X1_12 dX1_readLadder_139 ?_
            refine lv_iload_n hx hb dX1_readLadder_142 rfl (lv_at hl 3 rfl) ?_
            refine lv_iconst (v := 1) hx hb dX1_readLadder_143 (by decide) ?_
            refine lv_iadd hx hb dX1_readLadder_144 ?_
            refine lv_topi (fun y4 ey4 => ?_)
            have h := h y4 ey4
            refine p6_6 C hw 0 (show 0 < 2 by decide) (hF _ (by have := (show 0 < 2 by decide); omega)) K_f_X1_92 dX1_readLadder_145 (fun H locs hw => ?_)
            refine lv_iconst (v := 1) hx hb dX1_readLadder_148 (by decide) ?_
            rw [hQ]
            exact ret_z C hr hlk hw h (by decide) dX1_readLadder_149
          · have h := h.2 c6
            refine lv_iconst (v := 0) hx hb dX1_readLadder_92 (by decide) ?_
            rw [hQ]
            exact ret_z C hr hlk hw h (by decide) dX1_readLadder_93
        · have h := h.2 c5
          refine lv_aload_n hx hb dX1_readLadder_72 rfl (lv_at hl 4 rfl) ?_
          refine done_v hw (my_runV (As := []) (rest := []) C hw 1 1 (hF 1 (by decide)) rfl rfl (mt_X1_nextToken l C.2.2.2.2.2.2.2 hF _ h) K_m_X1_51 K_i_X1_nextToken K_v_X1_nextToken K_n_X1 K_c_X1_nextToken hy_X1_nextToken ⟨Nat.le_of_ble_eq_true rfl, Nat.le_of_ble_eq_true rfl⟩ hl.1 rfl (Nat.le_of_ble_eq_true rfl) dX1_readLadder_73 ⟨Nat.zero_le _, Nat.zero_le _⟩) (fun w8 H locs h hw => ?_)
          refine lv_aload_n hx hb dX1_readLadder_76 rfl (lv_at hl 4 rfl) ?_
          refine lv_bipush (v := 12) hx hb dX1_readLadder_77 (by decide) ?_
          refine lv_iconst (v := 4) hx hb dX1_readLadder_79 (by decide) ?_
          refine done_i hw (my_runV (As := [.int 12, .int 4]) (rest := []) C hw 1 1 (hF 1 (by decide)) rfl rfl (mt_X1_readSet l C.2.2.2.2.2.2.2 hF _ _ _ h) K_m_X1_102 K_i_X1_readSet K_v_X1_readSet K_n_X1 K_c_X1_readSet hy_X1_readSet ⟨Nat.le_of_ble_eq_true rfl, Nat.le_of_ble_eq_true rfl⟩ hl.1 rfl (Nat.le_of_ble_eq_true rfl) dX1_readLadder_80 ⟨Nat.zero_le _, Nat.zero_le _⟩) (fun r6 w9 H locs h hw => ?_)
          refine lv_istore (lv' := [(4, .int r6), (3, .int r2), (2, .int y2), (1, .int y1), (0, .ref (eA E 1))]) hx hb dX1_readLadder_83 hl (by decide) rfl (fun ls hl => ?_)
          refine lv_aload_n hx hb dX1_readLadder_85 rfl (lv_at hl 4 rfl) ?_
          refine g1_8 C hw (hF 1 (by decide)) K_f_X1_38 dX1_readLadder_86 ?_
          refine lv_if_eq (tgt := 94) hx hb dX1_readLadder_89 (by decide) (fun c7 => ?_) (fun c7 => ?_)
          · have h := h.1 c7
            refine lv_aload_n hx hb dX1_readLadder_94 rfl (lv_at hl 4 rfl) ?_
            refine g1_0 C hw (hF 1 (by decide)) K_f_X1_12 dX1_readLadder_95 ?_
            refine g6_0 C hw 0 (show 0 < 2 by decide) (hF _ (by have := (show 0 < 2 by decide); omega)) K_f_X1_107 dX1_readLadder_98 ?_
            refine lv_iload_n hx hb dX1_readLadder_101 rfl (lv_at hl 3 rfl) ?_
            refine lv_iload_n hx hb dX1_readLadder_102 rfl (lv_at hl 2 rfl) ?_
            obtain ⟨hi9, h⟩ := h
            refine r_iast C hw (27 + 7 * 0 + 1) 6 (hF _ (by have := (show 0 < 2 by decide); omega)) (fun _ => ce_sea 1 (show 0 < 2 by decide) (by decide) (by decide)) hi9 dX1_readLadder_103 (fun H locs hw => ?_)
            refine lv_aload_n hx hb dX1_readLadder_104 rfl (lv_at hl 4 rfl) ?_
            refine g1_0 C hw (hF 1 (by decide)) K_f_X1_12 dX1_readLadder_105 ?_
            refine g6_1 C hw 0 (show 0 < 2 by decide) (hF _ (by have := (show 0 < 2 by decide); omega)) K_f_X1_111 dX1_readLadder_108 ?_
            refine lv_iload_n hx hb dX1_readLadder_111 rfl (lv_at hl 3 rfl) ?_
            refine lv_iload_n hx hb dX1_readLadder_112 rfl (lv_at hl 1 rfl) ?_
            refine done_i hw (my_runS (As := [.int r2]) (rest := [.int y1, .ref (eA E ((27 + 7 * 0 + 2)))]) C hw (mt_J6_bitCount_0f7a4 l C.2.2.2.2.2.2.2 _ _ h) K_m_X1_114 K_s_J6_bitCount_0f7a4 K_n_J6 K_c_J6_bitCount_0f7a4 hy_J6_bitCount_0f7a4 ⟨Nat.le_of_ble_eq_true rfl, Nat.le_of_ble_eq_true rfl⟩ hl.1 rfl (Nat.le_of_ble_eq_true rfl) dX1_readLadder_113 ⟨Nat.zero_le _, Nat.zero_le _⟩) (fun r7 w10 H locs h hw => ?_)
            obtain ⟨hi10, h⟩ := h
            refine r_iast C hw (27 + 7 * 0 + 2) 6 (hF _ (by have := (show 0 < 2 by decide); omega)) (fun _ => ce_sea 2 (show 0 < 2 by decide) (by decide) (by decide)) hi10 dX1_readLadder_116 (fun H locs hw => ?_)
            refine lv_aload_n hx hb dX1_readLadder_117 rfl (lv_at hl 4 rfl) ?_
            refine g1_0 C hw (hF 1 (by decide)) K_f_X1_12 dX1_readLadder_118 ?_
            refine g6_3 C hw 0 (show 0 < 2 by decide) (hF _ (by have := (show 0 < 2 by decide); omega)) K_f_X1_120 dX1_readLadder_121 ?_
            refine lv_iload_n hx hb dX1_readLadder_124 rfl (lv_at hl 3 rfl) ?_
            refine lv_iload_n hx hb dX1_readLadder_125 rfl (lv_at hl 1 rfl) ?_
            obtain ⟨hi11, h⟩ := h
            refine r_iast C hw (27 + 7 * 0 + 4) 6 (hF _ (by have := (show 0 < 2 by decide); omega)) (fun _ => ce_sea 4 (show 0 < 2 by decide) (by decide) (by decide)) hi11 dX1_readLadder_126 (fun H locs hw => ?_)
            refine lv_aload_n hx hb dX1_readLadder_127 rfl (lv_at hl 4 rfl) ?_
            refine g1_0 C hw (hF 1 (by decide)) K_f_X1_12 dX1_readLadder_128 ?_
            refine g6_2 C hw 0 (show 0 < 2 by decide) (hF _ (by have := (show 0 < 2 by decide); omega)) K_f_X1_123 dX1_readLadder_131 ?_
            refine lv_iload_n hx hb dX1_readLadder_134 rfl (lv_at hl 3 rfl) ?_
            refine lv_iload hx hb dX1_readLadder_135 (lv_at hl 0 rfl) ?_
            obtain ⟨hi12, h⟩ := h
            refine r_iast C hw (27 + 7 * 0 + 3) 6 (hF _ (by have := (show 0 < 2 by decide); omega)) (fun _ => ce_sea 3 (show 0 < 2 by decide) (by decide) (by decide)) hi12 dX1_readLadder_137 (fun H locs hw => ?_)
            refine lv_aload_n hx hb dX1_readLadder_138 rfl (lv_at hl 4 rfl) ?_
            refine g1_0 C hw (hF 1 (by decide)) K_f_X1_12 dX1_readLadder_139 ?_
            refine lv_iload_n hx hb dX1_readLadder_142 rfl (lv_at hl 3 rfl) ?_
            refine lv_iconst (v := 1) hx hb dX1_readLadder_143 (by decide) ?_
            refine lv_iadd hx hb dX1_readLadder_144 ?_
            refine lv_topi (fun y5 ey5 => ?_)
            have h := h y5 ey5
            refine p6_6 C hw 0 (show 0 < 2 by decide) (hF _ (by have := (show 0 < 2 by decide); omega)) K_f_X1_92 dX1_readLadder_145 (fun H locs hw => ?_)
            refine lv_iconst (v := 1) hx hb dX1_readLadder_148 (by decide) ?_
            rw [hQ]
            exact ret_z C hr hlk hw h (by decide) dX1_readLadder_149
          · have h := h.2 c7
            refine lv_iconst (v := 0) hx hb dX1_readLadder_92 (by decide) ?_
            rw [hQ]
            exact ret_z C hr hlk hw h (by decide) dX1_readLadder_93
    · have h := h.1 c2
      refine lv_iconst (v := 0) hx hb dX1_readLadder_34 (by decide) ?_
      rw [hQ]
      exact ret_z C hr hlk hw h (by decide) dX1_readLadder_35
  · have h := h.2 c1
    refine lv_aload_n hx hb dX1_readLadder_14 rfl (lv_at hl 1 rfl) ?_
    refine lv_iconst (v := 4) hx hb dX1_readLadder_15 (by decide) ?_
    refine done_i hw (my_runV (As := [.int 4]) (rest := []) C hw 1 1 (hF 1 (by decide)) rfl rfl (mt_X1_fail l C.2.2.2.2.2.2.2 hF _ _ h) K_m_X1_85 K_i_X1_fail K_v_X1_fail K_n_X1 K_c_X1_fail hy_X1_fail ⟨Nat.le_of_ble_eq_true rfl, Nat.le_of_ble_eq_true rfl⟩ hl.1 rfl (Nat.le_of_ble_eq_true rfl) dX1_readLadder_16 ⟨Nat.zero_le _, Nat.zero_le _⟩) (fun r8 w11 H locs h hw => ?_)
    rw [hQ]
    exact ret_z C hr hlk hw h.2 h.1 dX1_readLadder_19
theorem hy_X1_readStatement : yX1_readStatement.cls ≠ "java/lang/invoke/MethodHandle" ∧ yX1_readStatement.cls ≠ "java/lang/invoke/VarHandle" ∧ (parseMethodDescriptor yX1_readStatement.desc).map (fun d => d.parameters.length) = some 0 := by decide +kernel
def wp_X1_readStatement (w : Wd) (Post : Wd → Prop) : Prop :=
  wp_X1_isWord 1 w (fun r1 w1 => (r1 = 0 → (wp_X1_isWord 3 w1 (fun r2 w2 => (r2 = 0 → (wp_X1_isWord 4 w2 (fun r3 w3 => (r3 = 0 → (wp_X1_isWord 5 w3 (fun r4 w4 => (r4 = 0 → (wp_X1_fail w4 1 (fun r5 w5 => (r5 = 0 → (Post w5)) ∧ (¬ r5 = 0 → (wp_X1_readSemicolon w5 (fun w6 => Post w6)))))) ∧ (¬ r4 = 0 → (wp_X1_readFirst w4 (fun r6 w7 => (r6 = 0 → (Post w7)) ∧ (¬ r6 = 0 → (wp_X1_readSemicolon w7 (fun w8 => Post w8))))))))) ∧ (¬ r3 = 0 → (wp_X1_readTokens w3 (fun r7 w9 => (r7 = 0 → (Post w9)) ∧ (¬ r7 = 0 → (wp_X1_readSemicolon w9 (fun w10 => Post w10))))))))) ∧ (¬ r2 = 0 → (wp_X1_readLock w2 (fun r8 w11 => (r8 = 0 → (Post w11)) ∧ (¬ r8 = 0 → (wp_X1_readSemicolon w11 (fun w12 => Post w12))))))))) ∧ (¬ r1 = 0 → (wp_X1_readLadder w1 (fun r9 w13 => (r9 = 0 → (Post w13)) ∧ (¬ r9 = 0 → (wp_X1_readSemicolon w13 (fun w14 => Post w14)))))))
set_option maxHeartbeats 4000000 in
set_option maxRecDepth 100000 in
theorem mt_X1_readStatement (l : Launch) {E : En} (hI : Inj E) (hF : ∀ o, (o < 15 ∨ 27 ≤ o ∧ o < 157) → o ∈ eL E) (w : Wd) {Post : Wd → Prop} (h : wp_X1_readStatement w Post) : MV l E yX1_readStatement cX1_readStatement 2 none 6 131 [.ref (eA E 1)] w Post := by
  refine MG.intro hI (by decide +kernel) (Nat.le_of_ble_eq_true rfl) ?_
  intro p e s m args below meth c Q C hr hlk hQ hw ls hl
  have hx := C.1
  have hb := C.2.1
  have hl : lv_has ls 2 [(0, .ref (eA E 1))] := hl
  unfold wp_X1_readStatement at h
  refine lv_aload_n hx hb dX1_readStatement_0 rfl (lv_at hl 0 rfl) ?_
  refine r_ldcS C 1 (by decide +kernel) dX1_readStatement_1 ?_
  refine done_i hw (my_runV (As := [.ref (eT E (1 + 1))]) (rest := []) C hw 1 1 (hF 1 (by decide)) rfl rfl (mt_X1_isWord l C.2.2.2.2.2.2.2 hF 1 (show 1 < 18 by decide) _ h) K_m_X1_62 K_i_X1_isWord K_v_X1_isWord K_n_X1 K_c_X1_isWord hy_X1_isWord ⟨Nat.le_of_ble_eq_true rfl, Nat.le_of_ble_eq_true rfl⟩ hl.1 rfl (Nat.le_of_ble_eq_true rfl) dX1_readStatement_3 ⟨Nat.zero_le _, Nat.zero_le _⟩) (fun r1 w1 H locs h hw => ?_)
  refine lv_if_eq (tgt := 17) hx hb dX1_readStatement_6 (by decide) (fun c1 => ?_) (fun c1 => ?_)
  · have h := h.1 c1
    refine lv_aload_n hx hb dX1_readStatement_17 rfl (lv_at hl 0 rfl) ?_
    refine r_ldcS C 3 (by decide +kernel) dX1_readStatement_18 ?_
    refine done_i hw (my_runV (As := [.ref (eT E (1 + 3))]) (rest := []) C hw 1 1 (hF 1 (by decide)) rfl rfl (mt_X1_isWord l C.2.2.2.2.2.2.2 hF 3 (show 3 < 18 by decide) _ h) K_m_X1_62 K_i_X1_isWord K_v_X1_isWord K_n_X1 K_c_X1_isWord hy_X1_isWord ⟨Nat.le_of_ble_eq_true rfl, Nat.le_of_ble_eq_true rfl⟩ hl.1 rfl (Nat.le_of_ble_eq_true rfl) dX1_readStatement_20 ⟨Nat.zero_le _, Nat.zero_le _⟩) (fun r2 w2 H locs h hw => ?_)
    refine lv_if_eq (tgt := 34) hx hb dX1_readStatement_23 (by decide) (fun c2 => ?_) (fun c2 => ?_)
    · have h := h.1 c2
      refine lv_aload_n hx hb dX1_readStatement_34 rfl (lv_at hl 0 rfl) ?_
      refine r_ldcS C 4 (by decide +kernel) dX1_readStatement_35 ?_
      refine done_i hw (my_runV (As := [.ref (eT E (1 + 4))]) (rest := []) C hw 1 1 (hF 1 (by decide)) rfl rfl (mt_X1_isWord l C.2.2.2.2.2.2.2 hF 4 (show 4 < 18 by decide) _ h) K_m_X1_62 K_i_X1_isWord K_v_X1_isWord K_n_X1 K_c_X1_isWord hy_X1_isWord ⟨Nat.le_of_ble_eq_true rfl, Nat.le_of_ble_eq_true rfl⟩ hl.1 rfl (Nat.le_of_ble_eq_true rfl) dX1_readStatement_37 ⟨Nat.zero_le _, Nat.zero_le _⟩) (fun r3 w3 H locs h hw => ?_)
      refine lv_if_eq (tgt := 51) hx hb dX1_readStatement_40 (by decide) (fun c3 => ?_) (fun c3 => ?_)
      · have h := h.1 c3
        refine lv_aload_n hx hb dX1_readStatement_51 rfl (lv_at hl 0 rfl) ?_
        refine r_ldcS C 5 (by decide +kernel) dX1_readStatement_52 ?_
        refine done_i hw (my_runV (As := [.ref (eT E (1 + 5))]) (rest := []) C hw 1 1 (hF 1 (by decide)) rfl rfl (mt_X1_isWord l C.2.2.2.2.2.2.2 hF 5 (show 5 < 18 by decide) _ h) K_m_X1_62 K_i_X1_isWord K_v_X1_isWord K_n_X1 K_c_X1_isWord hy_X1_isWord ⟨Nat.le_of_ble_eq_true rfl, Nat.le_of_ble_eq_true rfl⟩ hl.1 rfl (Nat.le_of_ble_eq_true rfl) dX1_readStatement_54 ⟨Nat.zero_le _, Nat.zero_le _⟩) (fun r4 w4 H locs h hw => ?_)
        refine lv_if_eq (tgt := 68) hx hb dX1_readStatement_57 (by decide) (fun c4 => ?_) (fun c4 => ?_)
        · have h := h.1 c4
          refine lv_aload_n hx hb dX1_readStatement_68 rfl (lv_at hl 0 rfl) ?_
          refine lv_iconst (v := 1) hx hb dX1_readStatement_69 (by decide) ?_
          refine done_i hw (my_runV (As := [.int 1]) (rest := []) C hw 1 1 (hF 1 (by decide)) rfl rfl (mt_X1_fail l C.2.2.2.2.2.2.2 hF _ _ h) K_m_X1_85 K_i_X1_fail K_v_X1_fail K_n_X1 K_c_X1_fail hy_X1_fail ⟨Nat.le_of_ble_eq_true rfl, Nat.le_of_ble_eq_true rfl⟩ hl.1 rfl (Nat.le_of_ble_eq_true rfl) dX1_readStatement_70 ⟨Nat.zero_le _, Nat.zero_le _⟩) (fun r5 w5 H locs h hw => ?_)
          refine lv_istore_n (lv' := [(1, .int r5), (0, .ref (eA E 1))]) hx hb dX1_readStatement_73 rfl hl (by decide) rfl (fun ls hl => ?_)
          refine lv_iload_n hx hb dX1_readStatement_74 rfl (lv_at hl 0 rfl) ?_
          refine lv_if_eq (tgt := 82) hx hb dX1_readStatement_75 (by decide) (fun c5 => ?_) (fun c5 => ?_)
          · have h := h.1 c5
            rw [hQ]
            exact ret_v C hr hlk hw h dX1_readStatement_82
          · have h := h.2 c5
            refine lv_aload_n hx hb dX1_readStatement_78 rfl (lv_at hl 1 rfl) ?_
            refine done_v hw (my_runV (As := []) (rest := []) C hw 1 1 (hF 1 (by decide)) rfl rfl (mt_X1_readSemicolon l C.2.2.2.2.2.2.2 hF _ h) K_m_X1_89 K_i_X1_readSemicolon K_v_X1_readSemicolon K_n_X1 K_c_X1_readSemicolon hy_X1_readSemicolon ⟨Nat.le_of_ble_eq_true rfl, Nat.le_of_ble_eq_true rfl⟩ hl.1 rfl (Nat.le_of_ble_eq_true rfl) dX1_readStatement_79 ⟨Nat.zero_le _, Nat.zero_le _⟩) (fun w6 H locs h hw => ?_)
            rw [hQ]
            exact ret_v C hr hlk hw h dX1_readStatement_82
        · have h := h.2 c4
          refine lv_aload_n hx hb dX1_readStatement_60 rfl (lv_at hl 0 rfl) ?_
          refine done_i hw (my_runV (As := []) (rest := []) C hw 1 1 (hF 1 (by decide)) rfl rfl (mt_X1_readFirst l C.2.2.2.2.2.2.2 hF _ h) K_m_X1_82 K_i_X1_readFirst K_v_X1_readFirst K_n_X1 K_c_X1_readFirst hy_X1_readFirst ⟨Nat.le_of_ble_eq_true rfl, Nat.le_of_ble_eq_true rfl⟩ hl.1 rfl (Nat.le_of_ble_eq_true rfl) dX1_readStatement_61 ⟨Nat.zero_le _, Nat.zero_le _⟩) (fun r6 w7 H locs h hw => ?_)
          refine lv_istore_n (lv' := [(1, .int r6), (0, .ref (eA E 1))]) hx hb dX1_readStatement_64 rfl hl (by decide) rfl (fun ls hl => ?_)
          refine lv_goto (tgt := 74) hx hb dX1_readStatement_65 (by decide) ?_
          refine lv_iload_n hx hb dX1_readStatement_74 rfl (lv_at hl 0 rfl) ?_
          refine lv_if_eq (tgt := 82) hx hb dX1_readStatement_75 (by decide) (fun c6 => ?_) (fun c6 => ?_)
          · have h := h.1 c6
            rw [hQ]
            exact ret_v C hr hlk hw h dX1_readStatement_82
          · have h := h.2 c6
            refine lv_aload_n hx hb dX1_readStatement_78 rfl (lv_at hl 1 rfl) ?_
            refine done_v hw (my_runV (As := []) (rest := []) C hw 1 1 (hF 1 (by decide)) rfl rfl (mt_X1_readSemicolon l C.2.2.2.2.2.2.2 hF _ h) K_m_X1_89 K_i_X1_readSemicolon K_v_X1_readSemicolon K_n_X1 K_c_X1_readSemicolon hy_X1_readSemicolon ⟨Nat.le_of_ble_eq_true rfl, Nat.le_of_ble_eq_true rfl⟩ hl.1 rfl (Nat.le_of_ble_eq_true rfl) dX1_readStatement_79 ⟨Nat.zero_le _, Nat.zero_le _⟩) (fun w8 H locs h hw => ?_)
            rw [hQ]
            exact ret_v C hr hlk hw h dX1_readStatement_82
      · have h := h.2 c3
        refine lv_aload_n hx hb dX1_readStatement_43 rfl (lv_at hl 0 rfl) ?_
        refine done_i hw (my_runV (As := []) (rest := []) C hw 1 1 (hF 1 (by decide)) rfl rfl (mt_X1_readTokens l C.2.2.2.2.2.2.2 hF _ h) K_m_X1_77 K_i_X1_readTokens K_v_X1_readTokens K_n_X1 K_c_X1_readTokens hy_X1_readTokens ⟨Nat.le_of_ble_eq_true rfl, Nat.le_of_ble_eq_true rfl⟩ hl.1 rfl (Nat.le_of_ble_eq_true rfl) dX1_readStatement_44 ⟨Nat.zero_le _, Nat.zero_le _⟩) (fun r7 w9 H locs h hw => ?_)
        refine lv_istore_n (lv' := [(1, .int r7), (0, .ref (eA E 1))]) hx hb dX1_readStatement_47 rfl hl (by decide) rfl (fun ls hl => ?_)
        refine lv_goto (tgt := 74) hx hb dX1_readStatement_48 (by decide) ?_
        refine lv_iload_n hx hb dX1_readStatement_74 rfl (lv_at hl 0 rfl) ?_
        refine lv_if_eq (tgt := 82) hx hb dX1_readStatement_75 (by decide) (fun c7 => ?_) (fun c7 => ?_)
        · have h := h.1 c7
          rw [hQ]
          exact ret_v C hr hlk hw h dX1_readStatement_82
        · have h := h.2 c7
          refine lv_aload_n hx hb dX1_readStatement_78 rfl (lv_at hl 1 rfl) ?_
          refine done_v hw (my_runV (As := []) (rest := []) C hw 1 1 (hF 1 (by decide)) rfl rfl (mt_X1_readSemicolon l C.2.2.2.2.2.2.2 hF _ h) K_m_X1_89 K_i_X1_readSemicolon K_v_X1_readSemicolon K_n_X1 K_c_X1_readSemicolon hy_X1_readSemicolon ⟨Nat.le_of_ble_eq_true rfl, Nat.le_of_ble_eq_true rfl⟩ hl.1 rfl (Nat.le_of_ble_eq_true rfl) dX1_readStatement_79 ⟨Nat.zero_le _, Nat.zero_le _⟩) (fun w10 H locs h hw => ?_)
          rw [hQ]
          exact ret_v C hr hlk hw h dX1_readStatement_82
    · have h := h.2 c2
      refine lv_aload_n hx hb dX1_readStatement_26 rfl (lv_at hl 0 rfl) ?_
      refine done_i hw (my_runV (As := []) (rest := []) C hw 1 1 (hF 1 (by decide)) rfl rfl (mt_X1_readLock l C.2.2.2.2.2.2.2 hF _ h) K_m_X1_72 K_i_X1_readLock K_v_X1_readLock K_n_X1 K_c_X1_readLock hy_X1_readLock ⟨Nat.le_of_ble_eq_true rfl, Nat.le_of_ble_eq_true rfl⟩ hl.1 rfl (Nat.le_of_ble_eq_true rfl) dX1_readStatement_27 ⟨Nat.zero_le _, Nat.zero_le _⟩) (fun r8 w11 H locs h hw => ?_)
      refine lv_istore_n (lv' := [(1, .int r8), (0, .ref (eA E 1))]) hx hb dX1_readStatement_30 rfl hl (by decide) rfl (fun ls hl => ?_)
      refine lv_goto (tgt := 74) hx hb dX1_readStatement_31 (by decide) ?_
      refine lv_iload_n hx hb dX1_readStatement_74 rfl (lv_at hl 0 rfl) ?_
      refine lv_if_eq (tgt := 82) hx hb dX1_readStatement_75 (by decide) (fun c8 => ?_) (fun c8 => ?_)
      · have h := h.1 c8
        rw [hQ]
        exact ret_v C hr hlk hw h dX1_readStatement_82
      · have h := h.2 c8
        refine lv_aload_n hx hb dX1_readStatement_78 rfl (lv_at hl 1 rfl) ?_
        refine done_v hw (my_runV (As := []) (rest := []) C hw 1 1 (hF 1 (by decide)) rfl rfl (mt_X1_readSemicolon l C.2.2.2.2.2.2.2 hF _ h) K_m_X1_89 K_i_X1_readSemicolon K_v_X1_readSemicolon K_n_X1 K_c_X1_readSemicolon hy_X1_readSemicolon ⟨Nat.le_of_ble_eq_true rfl, Nat.le_of_ble_eq_true rfl⟩ hl.1 rfl (Nat.le_of_ble_eq_true rfl) dX1_readStatement_79 ⟨Nat.zero_le _, Nat.zero_le _⟩) (fun w12 H locs h hw => ?_)
        rw [hQ]
        exact ret_v C hr hlk hw h dX1_readStatement_82
  · have h := h.2 c1
    refine lv_aload_n hx hb dX1_readStatement_9 rfl (lv_at hl 0 rfl) ?_
    refine done_i hw (my_runV (As := []) (rest := []) C hw 1 1 (hF 1 (by decide)) rfl rfl (mt_X1_readLadder l C.2.2.2.2.2.2.2 hF _ h) K_m_X1_66 K_i_X1_readLadder K_v_X1_readLadder K_n_X1 K_c_X1_readLadder hy_X1_readLadder ⟨Nat.le_of_ble_eq_true rfl, Nat.le_of_ble_eq_true rfl⟩ hl.1 rfl (Nat.le_of_ble_eq_true rfl) dX1_readStatement_10 ⟨Nat.zero_le _, Nat.zero_le _⟩) (fun r9 w13 H locs h hw => ?_)
    refine lv_istore_n (lv' := [(1, .int r9), (0, .ref (eA E 1))]) hx hb dX1_readStatement_13 rfl hl (by decide) rfl (fun ls hl => ?_)
    refine lv_goto (tgt := 74) hx hb dX1_readStatement_14 (by decide) ?_
    refine lv_iload_n hx hb dX1_readStatement_74 rfl (lv_at hl 0 rfl) ?_
    refine lv_if_eq (tgt := 82) hx hb dX1_readStatement_75 (by decide) (fun c9 => ?_) (fun c9 => ?_)
    · have h := h.1 c9
      rw [hQ]
      exact ret_v C hr hlk hw h dX1_readStatement_82
    · have h := h.2 c9
      refine lv_aload_n hx hb dX1_readStatement_78 rfl (lv_at hl 1 rfl) ?_
      refine done_v hw (my_runV (As := []) (rest := []) C hw 1 1 (hF 1 (by decide)) rfl rfl (mt_X1_readSemicolon l C.2.2.2.2.2.2.2 hF _ h) K_m_X1_89 K_i_X1_readSemicolon K_v_X1_readSemicolon K_n_X1 K_c_X1_readSemicolon hy_X1_readSemicolon ⟨Nat.le_of_ble_eq_true rfl, Nat.le_of_ble_eq_true rfl⟩ hl.1 rfl (Nat.le_of_ble_eq_true rfl) dX1_readStatement_79 ⟨Nat.zero_le _, Nat.zero_le _⟩) (fun w14 H locs h hw => ?_)
      rw [hQ]
      exact ret_v C hr hlk hw h dX1_readStatement_82
theorem hy_X1_readGame : yX1_readGame.cls ≠ "java/lang/invoke/MethodHandle" ∧ yX1_readGame.cls ≠ "java/lang/invoke/VarHandle" ∧ (parseMethodDescriptor yX1_readGame.desc).map (fun d => d.parameters.length) = some 1 := by decide +kernel
def wp_X1_readGame (w : Wd) (p1 : Int32) (Post : Int32 → Wd → Prop) : Prop :=
  ∀ J44 : Int32 → Wd → Prop, (∀ (x2 : Int32) (w : Wd), ((400 < x2 → (Post (gI (sI w 1 1 0) 1 8) (sI w 1 1 0))) ∧ (¬ 400 < x2 → (((gI w 1 5) = 0 → (Post (gI (sI w 1 1 0) 1 8) (sI w 1 1 0))) ∧ (¬ (gI w 1 5) = 0 → (((gI w 1 8) = 0 → (wp_X1_readStatement w (fun w3 => ∀ y2 : Int32, y2 = x2 + 1 → (J44 y2 w3)))) ∧ (¬ (gI w 1 8) = 0 → (Post (gI (sI w 1 1 0) 1 8) (sI w 1 1 0)))))))) → J44 x2 w) →
  ∀ y1 : Int32, y1 = (if 400 < p1 then 400 else p1) → (wp_X6_clear 0 (sI (sI (sI (sI (sI w 1 3 y1) 1 4 0) 1 8 0) 1 9 0) 1 10 0) (fun w1 => wp_X1_nextToken w1 (fun w2 => J44 0 w2)))
set_option maxHeartbeats 4000000 in
set_option maxRecDepth 100000 in
theorem mt_X1_readGame (l : Launch) {E : En} (hI : Inj E) (hF : ∀ o, (o < 15 ∨ 27 ≤ o ∧ o < 157) → o ∈ eL E) (w : Wd) (p1 : Int32) {Post : Int32 → Wd → Prop} (h : wp_X1_readGame w p1 Post) : MI l E yX1_readGame cX1_readGame 3 (some .int) 7 152 [.ref (eA E 1), .int p1] w Post := by
  refine MG.intro hI (by decide +kernel) (Nat.le_of_ble_eq_true rfl) ?_
  intro p e s m args below meth c Q C hr hlk hQ hw ls hl
  have hx := C.1
  have hb := C.2.1
  have hl : lv_has ls 3 [(0, .ref (eA E 1)), (1, .int p1)] := hl
  unfold wp_X1_readGame at h
  have h := h (fun x2 w => Jp E p l e (Rm 7 152) s m args below meth c Q 3 44 [(0, .ref (eA E 1)), (2, .int x2)] w)
  have h := h ?_
  rotate_left
  · intro x2 w h H locs hw ls hl
    refine lv_iload_n hx hb dX1_readGame_44 rfl (lv_at hl 1 rfl) ?_
    refine lv_sipush (v := 400) hx hb dX1_readGame_45 (by decide) ?_
    refine lv_icmp_gt (tgt := 75) hx hb dX1_readGame_48 (by decide) (fun c1 => ?_) (fun c1 => ?_)
    · have h := h.1 c1
      refine lv_aload_n hx hb dX1_readGame_75 rfl (lv_at hl 0 rfl) ?_
      refine lv_iconst (v := 0) hx hb dX1_readGame_76 (by decide) ?_
      refine p1_1 C hw (hF 1 (by decide)) K_f_X1_22 dX1_readGame_77 (fun H locs hw => ?_)
      refine lv_aload_n hx hb dX1_readGame_80 rfl (lv_at hl 0 rfl) ?_
      refine g1_8 C hw (hF 1 (by decide)) K_f_X1_38 dX1_readGame_81 ?_
      rw [hQ]
      exact ret_i C hr hlk hw h dX1_readGame_84
    · have h := h.2 c1
      refine lv_aload_n hx hb dX1_readGame_51 rfl (lv_at hl 0 rfl) ?_
      refine g1_5 C hw (hF 1 (by decide)) K_f_X1_54 dX1_readGame_52 ?_
      refine lv_if_eq (tgt := 75) hx hb dX1_readGame_55 (by decide) (fun c2 => ?_) (fun c2 => ?_)
      · have h := h.1 c2
        refine lv_aload_n hx hb dX1_readGame_75 rfl (lv_at hl 0 rfl) ?_
        refine lv_iconst (v := 0) hx hb dX1_readGame_76 (by decide) ?_
        refine p1_1 C hw (hF 1 (by decide)) K_f_X1_22 dX1_readGame_77 (fun H locs hw => ?_)
        refine lv_aload_n hx hb dX1_readGame_80 rfl (lv_at hl 0 rfl) ?_
        refine g1_8 C hw (hF 1 (by decide)) K_f_X1_38 dX1_readGame_81 ?_
        rw [hQ]
        exact ret_i C hr hlk hw h dX1_readGame_84
      · have h := h.2 c2
        refine lv_aload_n hx hb dX1_readGame_58 rfl (lv_at hl 0 rfl) ?_
        refine g1_8 C hw (hF 1 (by decide)) K_f_X1_38 dX1_readGame_59 ?_
        refine lv_if_ne (tgt := 75) hx hb dX1_readGame_62 (by decide) (fun c3 => ?_) (fun c3 => ?_)
        · have h := h.2 c3
          refine lv_aload_n hx hb dX1_readGame_75 rfl (lv_at hl 0 rfl) ?_
          refine lv_iconst (v := 0) hx hb dX1_readGame_76 (by decide) ?_
          refine p1_1 C hw (hF 1 (by decide)) K_f_X1_22 dX1_readGame_77 (fun H locs hw => ?_)
          refine lv_aload_n hx hb dX1_readGame_80 rfl (lv_at hl 0 rfl) ?_
          refine g1_8 C hw (hF 1 (by decide)) K_f_X1_38 dX1_readGame_81 ?_
          rw [hQ]
          exact ret_i C hr hlk hw h dX1_readGame_84
        · have h := h.1 c3
          refine lv_aload_n hx hb dX1_readGame_65 rfl (lv_at hl 0 rfl) ?_
          refine done_v hw (my_runV (As := []) (rest := []) C hw 1 1 (hF 1 (by decide)) rfl rfl (mt_X1_readStatement l C.2.2.2.2.2.2.2 hF _ h) K_m_X1_57 K_i_X1_readStatement K_v_X1_readStatement K_n_X1 K_c_X1_readStatement hy_X1_readStatement ⟨Nat.le_of_ble_eq_true rfl, Nat.le_of_ble_eq_true rfl⟩ hl.1 rfl (Nat.le_of_ble_eq_true rfl) dX1_readGame_66 ⟨Nat.zero_le _, Nat.zero_le _⟩) (fun w3 H locs h hw => ?_)
          obtain ⟨y2, ey2⟩ : ∃ y : Int32, y = x2 + 1 := ⟨_, rfl⟩
          have h := h y2 ey2
          refine lv_iinc (v := y2) (lv' := [(2, .int y2), (0, .ref (eA E 1))]) hx hb dX1_readGame_69 hl (k := 1) rfl (by rw [ey2]; first | rfl | decide) (by decide) rfl (fun ls hl => ?_)
          refine lv_goto (tgt := 44) hx hb dX1_readGame_72 (by decide) ?_
          exact h _ _ hw _ (lv_sub hl [1, 0] rfl)
  refine lv_aload_n hx hb dX1_readGame_0 rfl (lv_at hl 0 rfl) ?_
  refine lv_iload_n hx hb dX1_readGame_1 rfl (lv_at hl 1 rfl) ?_
  refine lv_sipush (v := 400) hx hb dX1_readGame_2 (by decide) ?_
  refine r_min C hl.1 K_m_X1_26 ⟨Nat.le_of_ble_eq_true rfl, Nat.le_of_ble_eq_true rfl⟩ ⟨Nat.zero_le _, Nat.zero_le _⟩ dX1_readGame_5 ?_
  refine lv_topi (fun y1 ey1 => ?_)
  have h := h y1 ey1
  refine p1_3 C hw (hF 1 (by decide)) K_f_X1_32 dX1_readGame_8 (fun H locs hw => ?_)
  refine lv_aload_n hx hb dX1_readGame_11 rfl (lv_at hl 0 rfl) ?_
  refine lv_iconst (v := 0) hx hb dX1_readGame_12 (by decide) ?_
  refine p1_4 C hw (hF 1 (by decide)) K_f_X1_35 dX1_readGame_13 (fun H locs hw => ?_)
  refine lv_aload_n hx hb dX1_readGame_16 rfl (lv_at hl 0 rfl) ?_
  refine lv_iconst (v := 0) hx hb dX1_readGame_17 (by decide) ?_
  refine p1_8 C hw (hF 1 (by decide)) K_f_X1_38 dX1_readGame_18 (fun H locs hw => ?_)
  refine lv_aload_n hx hb dX1_readGame_21 rfl (lv_at hl 0 rfl) ?_
  refine lv_iconst (v := 0) hx hb dX1_readGame_22 (by decide) ?_
  refine p1_9 C hw (hF 1 (by decide)) (by decide) K_f_X1_41 dX1_readGame_23 (fun H locs hw => ?_)
  refine lv_aload_n hx hb dX1_readGame_26 rfl (lv_at hl 0 rfl) ?_
  refine lv_iconst (v := 0) hx hb dX1_readGame_27 (by decide) ?_
  refine p1_10 C hw (hF 1 (by decide)) (by decide) K_f_X1_45 dX1_readGame_28 (fun H locs hw => ?_)
  refine lv_aload_n hx hb dX1_readGame_31 rfl (lv_at hl 0 rfl) ?_
  refine g1_0 C hw (hF 1 (by decide)) K_f_X1_12 dX1_readGame_32 ?_
  refine done_v hw (my_runV (As := []) (rest := []) C hw (27 + 7 * 0) 6 (hF _ (by have := (show 0 < 2 by decide); omega)) (ce_se (show 0 < 2 by decide)) rfl (mt_X6_clear l C.2.2.2.2.2.2.2 hF 0 (show 0 < 2 by decide) _ h) K_m_X1_48 K_i_X6_clear K_v_X6_clear K_n_X6 K_c_X6_clear hy_X6_clear ⟨Nat.le_of_ble_eq_true rfl, Nat.le_of_ble_eq_true rfl⟩ hl.1 rfl (Nat.le_of_ble_eq_true rfl) dX1_readGame_35 ⟨Nat.zero_le _, Nat.zero_le _⟩) (fun w1 H locs h hw => ?_)
  refine lv_aload_n hx hb dX1_readGame_38 rfl (lv_at hl 0 rfl) ?_
  refine done_v hw (my_runV (As := []) (rest := []) C hw 1 1 (hF 1 (by decide)) rfl rfl (mt_X1_nextToken l C.2.2.2.2.2.2.2 hF _ h) K_m_X1_51 K_i_X1_nextToken K_v_X1_nextToken K_n_X1 K_c_X1_nextToken hy_X1_nextToken ⟨Nat.le_of_ble_eq_true rfl, Nat.le_of_ble_eq_true rfl⟩ hl.1 rfl (Nat.le_of_ble_eq_true rfl) dX1_readGame_39 ⟨Nat.zero_le _, Nat.zero_le _⟩) (fun w2 H locs h hw => ?_)
  refine lv_iconst (v := 0) hx hb dX1_readGame_42 (by decide) ?_
  refine lv_istore_n (lv' := [(2, .int 0), (0, .ref (eA E 1)), (1, .int p1)]) hx hb dX1_readGame_43 rfl hl (by decide) rfl (fun ls hl => ?_)
  exact h _ _ hw _ (lv_sub hl [1, 0] rfl)

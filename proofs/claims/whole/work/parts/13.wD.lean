theorem hy_X1_isWord : yX1_isWord.cls ≠ "java/lang/invoke/MethodHandle" ∧ yX1_isWord.cls ≠ "java/lang/invoke/VarHandle" ∧ (parseMethodDescriptor yX1_isWord.desc).map (fun d => d.parameters.length) = some 1 := by decide +kernel
def wp_X1_isWord (si1 : Nat) (w : Wd) (Post : Int32 → Wd → Prop) : Prop :=
  ∀ J28 : Int32 → Wd → Prop, (∀ (x2 : Int32) (w : Wd), (wp_J0_length_8abf5 si1 w (fun r2 w2 => (r2 ≤ x2 → (Post 1 w2)) ∧ (¬ r2 ≤ x2 → (((gI w2 1 3) ≤ ((gI w2 1 6) + x2) → (Post 1 w2)) ∧ (¬ (gI w2 1 3) ≤ ((gI w2 1 6) + x2) → (vp_in ((gI w2 1 6) + x2) 400 ∧ (wp_J0_charAt_5068e si1 w2 x2 (fun r3 w3 => ((gA w2 2 (((gI w2 1 6) + x2).toNatClampNeg)) = r3 → (∀ y1 : Int32, y1 = x2 + 1 → (J28 y1 w3))) ∧ (¬ (gA w2 2 (((gI w2 1 6) + x2).toNatClampNeg)) = r3 → (Post 0 w3)))))))))) → J28 x2 w) →
  ((gI w 1 5) = 2 → (wp_J0_length_8abf5 si1 w (fun r1 w1 => (((gI w 1 4) - (gI w 1 6)) = r1 → (J28 0 w1)) ∧ (¬ ((gI w 1 4) - (gI w 1 6)) = r1 → (Post 0 w1))))) ∧ (¬ (gI w 1 5) = 2 → (Post 0 w))
set_option maxHeartbeats 4000000 in
set_option maxRecDepth 100000 in
theorem mt_X1_isWord (l : Launch) {E : En} (hI : Inj E) (hF : ∀ o, (o < 15 ∨ 25 ≤ o ∧ o < 157) → o ∈ eL E) (si1 : Nat) (hsi1 : si1 < 17) (w : Wd) {Post : Int32 → Wd → Prop} (h : wp_X1_isWord si1 w Post) : MI l E yX1_isWord cX1_isWord 3 (some .boolean) 4 85 [.ref (eA E 1), .ref (eT E (1 + si1))] w Post := by
  refine MG.intro hI (by decide +kernel) (Nat.le_of_ble_eq_true rfl) ?_
  intro p e s m args below meth c Q C hr hlk hQ hw ls hl
  have hx := C.1
  have hb := C.2.1
  have hl : lv_has ls 3 [(0, .ref (eA E 1)), (1, .ref (eT E (1 + si1)))] := hl
  unfold wp_X1_isWord at h
  have h := h (fun x2 w => Jp E p l e (Rm 4 85) s m args below meth c Q 3 28 [(0, .ref (eA E 1)), (1, .ref (eT E (1 + si1))), (2, .int x2)] w)
  have h := h ?_
  rotate_left
  · intro x2 w h H locs hw ls hl
    refine lv_iload_n hx hb dX1_isWord_28 rfl (lv_at hl 2 rfl) ?_
    refine lv_aload_n hx hb dX1_isWord_29 rfl (lv_at hl 1 rfl) ?_
    refine done_i hw (my_runVS (As := []) (rest := [.int x2]) C hw si1 hsi1 (mt_J0_length_8abf5 l C.2.2.2.2.2.2.2 si1 hsi1 _ h) K_m_X1_142 K_i_J0_length_8abf5 K_v_J0_length_8abf5 K_n_J0 K_c_J0_length_8abf5 hy_J0_length ⟨Nat.le_of_ble_eq_true rfl, Nat.le_of_ble_eq_true rfl⟩ hl.1 rfl (Nat.le_of_ble_eq_true rfl) dX1_isWord_30 ⟨Nat.zero_le _, Nat.zero_le _⟩) (fun r2 w2 H locs h hw => ?_)
    refine lv_icmp_ge (tgt := 76) hx hb dX1_isWord_33 (by decide) (fun c3 => ?_) (fun c3 => ?_)
    · have h := h.1 c3
      refine lv_iconst (v := 1) hx hb dX1_isWord_76 (by decide) ?_
      rw [hQ]
      exact ret_z C hr hlk hw h (by decide) dX1_isWord_77
    · have h := h.2 c3
      refine lv_aload_n hx hb dX1_isWord_36 rfl (lv_at hl 0 rfl) ?_
      refine g1_6 C hw (hF 1 (by decide)) K_f_X1_139 dX1_isWord_37 ?_
      refine lv_iload_n hx hb dX1_isWord_40 rfl (lv_at hl 2 rfl) ?_
      refine lv_iadd hx hb dX1_isWord_41 ?_
      refine lv_aload_n hx hb dX1_isWord_42 rfl (lv_at hl 0 rfl) ?_
      refine g1_3 C hw (hF 1 (by decide)) K_f_X1_32 dX1_isWord_43 ?_
      refine lv_icmp_ge (tgt := 76) hx hb dX1_isWord_46 (by decide) (fun c4 => ?_) (fun c4 => ?_)
      · have h := h.1 c4
        refine lv_iconst (v := 1) hx hb dX1_isWord_76 (by decide) ?_
        rw [hQ]
        exact ret_z C hr hlk hw h (by decide) dX1_isWord_77
      · have h := h.2 c4
        refine lv_aload_n hx hb dX1_isWord_49 rfl (lv_at hl 0 rfl) ?_
        refine g1_2 C hw (hF 1 (by decide)) K_f_X1_18 dX1_isWord_50 ?_
        refine lv_aload_n hx hb dX1_isWord_53 rfl (lv_at hl 0 rfl) ?_
        refine g1_6 C hw (hF 1 (by decide)) K_f_X1_139 dX1_isWord_54 ?_
        refine lv_iload_n hx hb dX1_isWord_57 rfl (lv_at hl 2 rfl) ?_
        refine lv_iadd hx hb dX1_isWord_58 ?_
        obtain ⟨hi1, h⟩ := h
        refine r_bald C hw 2 400 (hF 2 (by decide)) rfl hi1 dX1_isWord_59 ?_
        refine lv_aload_n hx hb dX1_isWord_60 rfl (lv_at hl 1 rfl) ?_
        refine lv_iload_n hx hb dX1_isWord_61 rfl (lv_at hl 2 rfl) ?_
        refine done_i hw (my_runVS (As := [.int x2]) (rest := [.int (gA w2 2 (((gI w2 1 6) + x2).toNatClampNeg))]) C hw si1 hsi1 (mt_J0_charAt_5068e l C.2.2.2.2.2.2.2 si1 hsi1 _ _ h) K_m_X1_147 K_i_J0_charAt_5068e K_v_J0_charAt_5068e K_n_J0 K_c_J0_charAt_5068e hy_J0_charAt ⟨Nat.le_of_ble_eq_true rfl, Nat.le_of_ble_eq_true rfl⟩ hl.1 rfl (Nat.le_of_ble_eq_true rfl) dX1_isWord_62 ⟨Nat.zero_le _, Nat.zero_le _⟩) (fun r3 w3 H locs h hw => ?_)
        refine lv_icmp_eq (tgt := 70) hx hb dX1_isWord_65 (by decide) (fun c5 => ?_) (fun c5 => ?_)
        · have h := h.1 c5
          obtain ⟨y1, ey1⟩ : ∃ y : Int32, y = x2 + 1 := ⟨_, rfl⟩
          have h := h y1 ey1
          refine lv_iinc (v := y1) (lv' := [(2, .int y1), (0, .ref (eA E 1)), (1, .ref (eT E (1 + si1)))]) hx hb dX1_isWord_70 hl (k := 2) rfl (by rw [ey1]; first | rfl | decide) (by decide) rfl (fun ls hl => ?_)
          refine lv_goto (tgt := 28) hx hb dX1_isWord_73 (by decide) ?_
          exact h _ _ hw _ (lv_sub hl [1, 2, 0] rfl)
        · have h := h.2 c5
          refine lv_iconst (v := 0) hx hb dX1_isWord_68 (by decide) ?_
          rw [hQ]
          exact ret_z C hr hlk hw h (by decide) dX1_isWord_69
  refine lv_aload_n hx hb dX1_isWord_0 rfl (lv_at hl 0 rfl) ?_
  refine g1_5 C hw (hF 1 (by decide)) K_f_X1_54 dX1_isWord_1 ?_
  refine lv_iconst (v := 2) hx hb dX1_isWord_4 (by decide) ?_
  refine lv_icmp_ne (tgt := 24) hx hb dX1_isWord_5 (by decide) (fun c1 => ?_) (fun c1 => ?_)
  · have h := h.2 c1
    refine lv_iconst (v := 0) hx hb dX1_isWord_24 (by decide) ?_
    rw [hQ]
    exact ret_z C hr hlk hw h (by decide) dX1_isWord_25
  · have h := h.1 c1
    refine lv_aload_n hx hb dX1_isWord_8 rfl (lv_at hl 0 rfl) ?_
    refine g1_4 C hw (hF 1 (by decide)) K_f_X1_35 dX1_isWord_9 ?_
    refine lv_aload_n hx hb dX1_isWord_12 rfl (lv_at hl 0 rfl) ?_
    refine g1_6 C hw (hF 1 (by decide)) K_f_X1_139 dX1_isWord_13 ?_
    refine lv_isub hx hb dX1_isWord_16 ?_
    refine lv_aload_n hx hb dX1_isWord_17 rfl (lv_at hl 1 rfl) ?_
    refine done_i hw (my_runVS (As := []) (rest := [.int ((gI w 1 4) - (gI w 1 6))]) C hw si1 hsi1 (mt_J0_length_8abf5 l C.2.2.2.2.2.2.2 si1 hsi1 _ h) K_m_X1_142 K_i_J0_length_8abf5 K_v_J0_length_8abf5 K_n_J0 K_c_J0_length_8abf5 hy_J0_length ⟨Nat.le_of_ble_eq_true rfl, Nat.le_of_ble_eq_true rfl⟩ hl.1 rfl (Nat.le_of_ble_eq_true rfl) dX1_isWord_18 ⟨Nat.zero_le _, Nat.zero_le _⟩) (fun r1 w1 H locs h hw => ?_)
    refine lv_icmp_eq (tgt := 26) hx hb dX1_isWord_21 (by decide) (fun c2 => ?_) (fun c2 => ?_)
    · have h := h.1 c2
      refine lv_iconst (v := 0) hx hb dX1_isWord_26 (by decide) ?_
      refine lv_istore_n (lv' := [(2, .int 0), (0, .ref (eA E 1)), (1, .ref (eT E (1 + si1)))]) hx hb dX1_isWord_27 rfl hl (by decide) rfl (fun ls hl => ?_)
      exact h _ _ hw _ (lv_sub hl [1, 2, 0] rfl)
    · have h := h.2 c2
      refine lv_iconst (v := 0) hx hb dX1_isWord_24 (by decide) ?_
      rw [hQ]
      exact ret_z C hr hlk hw h (by decide) dX1_isWord_25
theorem hy_X1_readLadder : yX1_readLadder.cls ≠ "java/lang/invoke/MethodHandle" ∧ yX1_readLadder.cls ≠ "java/lang/invoke/VarHandle" ∧ (parseMethodDescriptor yX1_readLadder.desc).map (fun d => d.parameters.length) = some 0 := by decide +kernel
def wp_X1_readLadder (w : Wd) (Post : Int32 → Wd → Prop) : Prop :=
  ∀ y1 : Int32, y1 = gI w (27 + 7 * 0) 6 → ((y1 < 6 → (wp_X1_nextToken w (fun w1 => wp_X1_isNumber w1 1 12 (fun r1 w2 => (r1 = 0 → (Post 0 w2)) ∧ (¬ r1 = 0 → (∀ y2 : Int32, y2 = gI w2 1 7 → (wp_X1_nextToken w2 (fun w3 => wp_X1_readSet w3 y2 3 (fun r2 w4 => ((gI w4 1 8) = 0 → (wp_X1_isWord 2 w4 (fun r4 w6 => (r4 = 0 → (((gI w6 1 8) = 0 → (vp_in y1 6 ∧ (wp_J6_bitCount_0f7a4 (sA w6 (27 + 7 * 0 + 1) y1.toNatClampNeg y2) r2 (fun r5 w7 => vp_in y1 6 ∧ (vp_in y1 6 ∧ (vp_in y1 6 ∧ (∀ y4 : Int32, y4 = y1 + 1 → (Post 1 (sI (sA (sA (sA w7 (27 + 7 * 0 + 2) y1.toNatClampNeg r5) (27 + 7 * 0 + 4) y1.toNatClampNeg r2) (27 + 7 * 0 + 3) y1.toNatClampNeg 14) (27 + 7 * 0) 6 y4))))))))) ∧ (¬ (gI w6 1 8) = 0 → (Post 0 w6)))) ∧ (¬ r4 = 0 → (wp_X1_nextToken w6 (fun w8 => wp_X1_readSet w8 12 4 (fun r6 w9 => ((gI w9 1 8) = 0 → (vp_in y1 6 ∧ (wp_J6_bitCount_0f7a4 (sA w9 (27 + 7 * 0 + 1) y1.toNatClampNeg y2) r2 (fun r7 w10 => vp_in y1 6 ∧ (vp_in y1 6 ∧ (vp_in y1 6 ∧ (∀ y5 : Int32, y5 = y1 + 1 → (Post 1 (sI (sA (sA (sA w10 (27 + 7 * 0 + 2) y1.toNatClampNeg r7) (27 + 7 * 0 + 4) y1.toNatClampNeg r2) (27 + 7 * 0 + 3) y1.toNatClampNeg r6) (27 + 7 * 0) 6 y5))))))))) ∧ (¬ (gI w9 1 8) = 0 → (Post 0 w9))))))))) ∧ (¬ (gI w4 1 8) = 0 → (((gI w4 1 8) = 0 → (vp_in y1 6 ∧ (wp_J6_bitCount_0f7a4 (sA w4 (27 + 7 * 0 + 1) y1.toNatClampNeg y2) r2 (fun r3 w5 => vp_in y1 6 ∧ (vp_in y1 6 ∧ (vp_in y1 6 ∧ (∀ y3 : Int32, y3 = y1 + 1 → (Post 1 (sI (sA (sA (sA w5 (27 + 7 * 0 + 2) y1.toNatClampNeg r3) (27 + 7 * 0 + 4) y1.toNatClampNeg r2) (27 + 7 * 0 + 3) y1.toNatClampNeg 14) (27 + 7 * 0) 6 y3))))))))) ∧ (¬ (gI w4 1 8) = 0 → (Post 0 w4))))))))))))) ∧ (¬ y1 < 6 → (wp_X1_fail w 4 (fun r8 w11 => (r8 = 0 ∨ r8 = 1) ∧ Post r8 w11))))
set_option maxHeartbeats 4000000 in
set_option maxRecDepth 100000 in
theorem mt_X1_readLadder (l : Launch) {E : En} (hI : Inj E) (hF : ∀ o, (o < 15 ∨ 25 ≤ o ∧ o < 157) → o ∈ eL E) (w : Wd) {Post : Int32 → Wd → Prop} (h : wp_X1_readLadder w Post) : MI l E yX1_readLadder cX1_readLadder 5 (some .boolean) 5 107 [.ref (eA E 1)] w Post := by
  refine MG.intro hI (by decide +kernel) (Nat.le_of_ble_eq_true rfl) ?_
  intro p e s m args below meth c Q C hr hlk hQ hw ls hl
  have hx := C.1
  have hb := C.2.1
  have hl : lv_has ls 5 [(0, .ref (eA E 1))] := hl
  unfold wp_X1_readLadder at h
  refine lv_aload_n hx hb dX1_readLadder_0 rfl (lv_at hl 0 rfl) ?_
  refine g1_0 C hw (hF 1 (by decide)) K_f_X1_12 dX1_readLadder_1 ?_
  refine g6_6 C hw 0 (show 0 < 2 by decide) (hF _ (by have := (show 0 < 2 by decide); omega)) K_f_X1_92 dX1_readLadder_4 ?_
  refine lv_topi (fun y1 ey1 => ?_)
  have h := h y1 ey1
  refine lv_istore_n (lv' := [(1, .int y1), (0, .ref (eA E 1))]) hx hb dX1_readLadder_7 rfl hl (by decide) rfl (fun ls hl => ?_)
  refine lv_iload_n hx hb dX1_readLadder_8 rfl (lv_at hl 0 rfl) ?_
  refine lv_bipush (v := 6) hx hb dX1_readLadder_9 (by decide) ?_
  refine lv_icmp_lt (tgt := 20) hx hb dX1_readLadder_11 (by decide) (fun c1 => ?_) (fun c1 => ?_)
  · have h := h.1 c1
    refine lv_aload_n hx hb dX1_readLadder_20 rfl (lv_at hl 1 rfl) ?_
    refine done_v hw (my_runV (As := []) (rest := []) C hw 1 1 (hF 1 (by decide)) rfl rfl (mt_X1_nextToken l C.2.2.2.2.2.2.2 hF _ h) K_m_X1_51 K_i_X1_nextToken K_v_X1_nextToken K_n_X1 K_c_X1_nextToken hy_X1_nextToken ⟨Nat.le_of_ble_eq_true rfl, Nat.le_of_ble_eq_true rfl⟩ hl.1 rfl (Nat.le_of_ble_eq_true rfl) dX1_readLadder_21 ⟨Nat.zero_le _, Nat.zero_le _⟩) (fun w1 H locs h hw => ?_)
    refine lv_aload_n hx hb dX1_readLadder_24 rfl (lv_at hl 1 rfl) ?_
    refine lv_iconst (v := 1) hx hb dX1_readLadder_25 (by decide) ?_
    refine lv_bipush (v := 12) hx hb dX1_readLadder_26 (by decide) ?_
    refine done_i hw (my_runV (As := [.int 1, .int 12]) (rest := []) C hw 1 1 (hF 1 (by decide)) rfl rfl (mt_X1_isNumber l C.2.2.2.2.2.2.2 hF _ _ _ h) K_m_X1_95 K_i_X1_isNumber K_v_X1_isNumber K_n_X1 K_c_X1_isNumber hy_X1_isNumber ⟨Nat.le_of_ble_eq_true rfl, Nat.le_of_ble_eq_true rfl⟩ hl.1 rfl (Nat.le_of_ble_eq_true rfl) dX1_readLadder_28 ⟨Nat.zero_le _, Nat.zero_le _⟩) (fun r1 w2 H locs h hw => ?_)
    refine lv_if_ne (tgt := 36) hx hb dX1_readLadder_31 (by decide) (fun c2 => ?_) (fun c2 => ?_)
    · have h := h.2 c2
      refine lv_aload_n hx hb dX1_readLadder_36 rfl (lv_at hl 1 rfl) ?_
      refine g1_7 C hw (hF 1 (by decide)) K_f_X1_99 dX1_readLadder_37 ?_
      refine lv_topi (fun y2 ey2 => ?_)
      have h := h y2 ey2
      refine lv_istore_n (lv' := [(2, .int y2), (1, .int y1), (0, .ref (eA E 1))]) hx hb dX1_readLadder_40 rfl hl (by decide) rfl (fun ls hl => ?_)
      refine lv_aload_n hx hb dX1_readLadder_41 rfl (lv_at hl 2 rfl) ?_
      refine done_v hw (my_runV (As := []) (rest := []) C hw 1 1 (hF 1 (by decide)) rfl rfl (mt_X1_nextToken l C.2.2.2.2.2.2.2 hF _ h) K_m_X1_51 K_i_X1_nextToken K_v_X1_nextToken K_n_X1 K_c_X1_nextToken hy_X1_nextToken ⟨Nat.le_of_ble_eq_true rfl, Nat.le_of_ble_eq_true rfl⟩ hl.1 rfl (Nat.le_of_ble_eq_true rfl) dX1_readLadder_42 ⟨Nat.zero_le _, Nat.zero_le _⟩) (fun w3 H locs h hw => ?_)
      refine lv_aload_n hx hb dX1_readLadder_45 rfl (lv_at hl 2 rfl) ?_
      refine lv_iload_n hx hb dX1_readLadder_46 rfl (lv_at hl 0 rfl) ?_
      refine lv_iconst (v := 3) hx hb dX1_readLadder_47 (by decide) ?_
      refine done_i hw (my_runV (As := [.int y2, .int 3]) (rest := []) C hw 1 1 (hF 1 (by decide)) rfl rfl (mt_X1_readSet l C.2.2.2.2.2.2.2 hF _ _ _ h) K_m_X1_102 K_i_X1_readSet K_v_X1_readSet K_n_X1 K_c_X1_readSet hy_X1_readSet ⟨Nat.le_of_ble_eq_true rfl, Nat.le_of_ble_eq_true rfl⟩ hl.1 rfl (Nat.le_of_ble_eq_true rfl) dX1_readLadder_48 ⟨Nat.zero_le _, Nat.zero_le _⟩) (fun r2 w4 H locs h hw => ?_)
      refine lv_istore_n (lv' := [(3, .int r2), (2, .int y2), (1, .int y1), (0, .ref (eA E 1))]) hx hb dX1_readLadder_51 rfl hl (by decide) rfl (fun ls hl => ?_)
      refine lv_bipush (v := 14) hx hb dX1_readLadder_52 (by decide) ?_
      refine lv_istore (lv' := [(4, .int 14), (3, .int r2), (2, .int y2), (1, .int y1), (0, .ref (eA E 1))]) hx hb dX1_readLadder_54 hl (by decide) rfl (fun ls hl => ?_)
      refine lv_aload_n hx hb dX1_readLadder_56 rfl (lv_at hl 4 rfl) ?_
      refine g1_8 C hw (hF 1 (by decide)) K_f_X1_38 dX1_readLadder_57 ?_
      refine lv_if_ne (tgt := 85) hx hb dX1_readLadder_60 (by decide) (fun c3 => ?_) (fun c3 => ?_)
      · have h := h.2 c3
        refine lv_aload_n hx hb dX1_readLadder_85 rfl (lv_at hl 4 rfl) ?_
        refine g1_8 C hw (hF 1 (by decide)) K_f_X1_38 dX1_readLadder_86 ?_
        refine lv_if_eq (tgt := 94) hx hb dX1_readLadder_89 (by decide) (fun c4 => ?_) (fun c4 => ?_)
        · have h := h.1 c4
          refine lv_aload_n hx hb dX1_readLadder_94 rfl (lv_at hl 4 rfl) ?_
          refine g1_0 C hw (hF 1 (by decide)) K_f_X1_12 dX1_readLadder_95 ?_
          refine g6_0 C hw 0 (show 0 < 2 by decide) (hF _ (by have := (show 0 < 2 by decide); omega)) K_f_X1_107 dX1_readLadder_98 ?_
          refine lv_iload_n hx hb dX1_readLadder_101 rfl (lv_at hl 3 rfl) ?_
          refine lv_iload_n hx hb dX1_readLadder_102 rfl (lv_at hl 2 rfl) ?_
          obtain ⟨hi1, h⟩ := h
          refine r_iast C hw (27 + 7 * 0 + 1) 6 (hF _ (by have := (show 0 < 2 by decide); omega)) (fun _ => ce_sea 1 (show 0 < 2 by decide) (by decide) (by decide)) hi1 dX1_readLadder_103 (fun H locs hw => ?_)
          refine lv_aload_n hx hb dX1_readLadder_104 rfl (lv_at hl 4 rfl) ?_
          refine g1_0 C hw (hF 1 (by decide)) K_f_X1_12 dX1_readLadder_105 ?_
          refine g6_1 C hw 0 (show 0 < 2 by decide) (hF _ (by have := (show 0 < 2 by decide); omega)) K_f_X1_111 dX1_readLadder_108 ?_
          refine lv_iload_n hx hb dX1_readLadder_111 rfl (lv_at hl 3 rfl) ?_
          refine lv_iload_n hx hb dX1_readLadder_112 rfl (lv_at hl 1 rfl) ?_
          refine done_i hw (my_runS (As := [.int r2]) (rest := [.int y1, .ref (eA E ((27 + 7 * 0 + 2)))]) C hw (mt_J6_bitCount_0f7a4 l C.2.2.2.2.2.2.2 _ _ h) K_m_X1_114 K_s_J6_bitCount_0f7a4 K_n_J6 K_c_J6_bitCount_0f7a4 hy_J6_bitCount_0f7a4 ⟨Nat.le_of_ble_eq_true rfl, Nat.le_of_ble_eq_true rfl⟩ hl.1 rfl (Nat.le_of_ble_eq_true rfl) dX1_readLadder_113 ⟨Nat.zero_le _, Nat.zero_le _⟩) (fun r3 w5 H locs h hw => ?_)
          obtain ⟨hi2, h⟩ := h
          refine r_iast C hw (27 + 7 * 0 + 2) 6 (hF _ (by have := (show 0 < 2 by decide); omega)) (fun _ => ce_sea 2 (show 0 < 2 by decide) (by decide) (by decide)) hi2 dX1_readLadder_116 (fun H locs hw => ?_)
          refine lv_aload_n hx hb dX1_readLadder_117 rfl (lv_at hl 4 rfl) ?_
          refine g1_0 C hw (hF 1 (by decide)) K_f_X1_12 dX1_readLadder_118 ?_
          refine g6_3 C hw 0 (show 0 < 2 by decide) (hF _ (by have := (show 0 < 2 by decide); omega)) K_f_X1_120 dX1_readLadder_121 ?_
          refine lv_iload_n hx hb dX1_readLadder_124 rfl (lv_at hl 3 rfl) ?_
          refine lv_iload_n hx hb dX1_readLadder_125 rfl (lv_at hl 1 rfl) ?_
          obtain ⟨hi3, h⟩ := h
          refine r_iast C hw (27 + 7 * 0 + 4) 6 (hF _ (by have := (show 0 < 2 by decide); omega)) (fun _ => ce_sea 4 (show 0 < 2 by decide) (by decide) (by decide)) hi3 dX1_readLadder_126 (fun H locs hw => ?_)
          refine lv_aload_n hx hb dX1_readLadder_127 rfl (lv_at hl 4 rfl) ?_
          refine g1_0 C hw (hF 1 (by decide)) K_f_X1_12 dX1_readLadder_128 ?_
          refine g6_2 C hw 0 (show 0 < 2 by decide) (hF _ (by have := (show 0 < 2 by decide); omega)) K_f_X1_123 dX1_readLadder_131 ?_
          refine lv_iload_n hx hb dX1_readLadder_134 rfl (lv_at hl 3 rfl) ?_
          refine lv_iload hx hb dX1_readLadder_135 (lv_at hl 0 rfl) ?_
          obtain ⟨hi4, h⟩ := h
          refine r_iast C hw (27 + 7 * 0 + 3) 6 (hF _ (by have := (show 0 < 2 by decide); omega)) (fun _ => ce_sea 3 (show 0 < 2 by decide) (by decide) (by decide)) hi4 dX1_readLadder_137 (fun H locs hw => ?_)
          refine lv_aload_n hx hb dX1_readLadder_138 rfl (lv_at hl 4 rfl) ?_
          refine g1_0 C hw (hF 1 (by decide)) K_f_X1_12 dX1_readLadder_139 ?_
          refine lv_iload_n hx hb dX1_readLadder_142 rfl (lv_at hl 3 rfl) ?_
          refine lv_iconst (v := 1) hx hb dX1_readLadder_143 (by decide) ?_
          refine lv_iadd hx hb dX1_readLadder_144 ?_
          refine lv_topi (fun y3 ey3 => ?_)
          have h := h y3 ey3
          refine p6_6 C hw 0 (show 0 < 2 by decide) (hF _ (by have := (show 0 < 2 by decide); omega)) K_f_X1_92 dX1_readLadder_145 (fun H locs hw => ?_)
          refine lv_iconst (v := 1) hx hb dX1_readLadder_148 (by decide) ?_
          rw [hQ]
          exact ret_z C hr hlk hw h (by decide) dX1_readLadder_149
        · have h := h.2 c4
          refine lv_iconst (v := 0) hx hb dX1_readLadder_92 (by decide) ?_
          rw [hQ]
          exact ret_z C hr hlk hw h (by decide) dX1_readLadder_93
      · have h := h.1 c3
        refine lv_aload_n hx hb dX1_readLadder_63 rfl (lv_at hl 4 rfl) ?_
        refine r_ldcS C 2 (by decide +kernel) dX1_readLadder_64 ?_
        refine done_i hw (my_runV (As := [.ref (eT E (1 + 2))]) (rest := []) C hw 1 1 (hF 1 (by decide)) rfl rfl (mt_X1_isWord l C.2.2.2.2.2.2.2 hF 2 (show 2 < 17 by decide) _ h) K_m_X1_62 K_i_X1_isWord K_v_X1_isWord K_n_X1 K_c_X1_isWord hy_X1_isWord ⟨Nat.le_of_ble_eq_true rfl, Nat.le_of_ble_eq_true rfl⟩ hl.1 rfl (Nat.le_of_ble_eq_true rfl) dX1_readLadder_66 ⟨Nat.zero_le _, Nat.zero_le _⟩) (fun r4 w6 H locs h hw => ?_)
        refine lv_if_eq (tgt := 85) hx hb dX1_readLadder_69 (by decide) (fun c5 => ?_) (fun c5 => ?_)
        · have h := h.1 c5
          refine lv_aload_n hx hb dX1_readLadder_85 rfl (lv_at hl 4 rfl) ?_
          refine g1_8 C hw (hF 1 (by decide)) K_f_X1_38 dX1_readLadder_86 ?_
          refine lv_if_eq (tgt := 94) hx hb dX1_readLadder_89 (by decide) (fun c6 => ?_) (fun c6 => ?_)
          · have h := h.1 c6
            refine lv_aload_n hx hb dX1_readLadder_94 rfl (lv_at hl 4 rfl) ?_
            refine g1_0 C hw (hF 1 (by decide)) K_f_X1_12 dX1_readLadder_95 ?_
            refine g6_0 C hw 0 (show 0 < 2 by decide) (hF _ (by have := (show 0 < 2 by decide); omega)) K_f_X1_107 dX1_readLadder_98 ?_
            refine lv_iload_n hx hb dX1_readLadder_101 rfl (lv_at hl 3 rfl) ?_
            refine lv_iload_n hx hb dX1_readLadder_102 rfl (lv_at hl 2 rfl) ?_
            obtain ⟨hi5, h⟩ := h
            refine r_iast C hw (27 + 7 * 0 + 1) 6 (hF _ (by have := (show 0 < 2 by decide); omega)) (fun _ => ce_sea 1 (show 0 < 2 by decide) (by decide) (by decide)) hi5 dX1_readLadder_103 (fun H locs hw => ?_)
            refine lv_aload_n hx hb dX1_readLadder_104 rfl (lv_at hl 4 rfl) ?_
            refine g1_0 C hw (hF 1 (by decide)) K_f_X1_12 dX1_readLadder_105 ?_
            refine g6_1 C hw 0 (show 0 < 2 by decide) (hF _ (by have := (show 0 < 2 by decide); omega)) K_f_X1_111 dX1_readLadder_108 ?_
            refine lv_iload_n hx hb dX1_readLadder_111 rfl (lv_at hl 3 rfl) ?_
            refine lv_iload_n hx hb dX1_readLadder_112 rfl (lv_at hl 1 rfl) ?_
            refine done_i hw (my_runS (As := [.int r2]) (rest := [.int y1, .ref (eA E ((27 + 7 * 0 + 2)))]) C hw (mt_J6_bitCount_0f7a4 l C.2.2.2.2.2.2.2 _ _ h) K_m_X1_114 K_s_J6_bitCount_0f7a4 K_n_J6 K_c_J6_bitCount_0f7a4 hy_J6_bitCount_0f7a4 ⟨Nat.le_of_ble_eq_true rfl, Nat.le_of_ble_eq_true rfl⟩ hl.1 rfl (Nat.le_of_ble_eq_true rfl) dX1_readLadder_113 ⟨Nat.zero_le _, Nat.zero_le _⟩) (fun r5 w7 H locs h hw => ?_)
            obtain ⟨hi6, h⟩ := h
            refine r_iast C hw (27 + 7 * 0 + 2) 6 (hF _ (by have := (show 0 < 2 by decide); omega)) (fun _ => ce_sea 2 (show 0 < 2 by decide) (by decide) (by decide)) hi6 dX1_readLadder_116 (fun H locs hw => ?_)
            refine lv_aload_n hx hb dX1_readLadder_117 rfl (lv_at hl 4 rfl) ?_
            refine g1_0 C hw (hF 1 (by decide)) K_f_X1_12 dX1_readLadder_118 ?_
            refine g6_3 C hw 0 (show 0 < 2 by decide) (hF _ (by have := (show 0 < 2 by decide); omega)) K_f_X1_120 dX1_readLadder_121 ?_
            refine lv_iload_n hx hb dX1_readLadder_124 rfl (lv_at hl 3 rfl) ?_
            refine lv_iload_n hx hb dX1_readLadder_125 rfl (lv_at hl 1 rfl) ?_
            obtain ⟨hi7, h⟩ := h
            refine r_iast C hw (27 + 7 * 0 + 4) 6 (hF _ (by have := (show 0 < 2 by decide); omega)) (fun _ => ce_sea 4 (show 0 < 2 by decide) (by decide) (by decide)) hi7 dX1_readLadder_126 (fun H locs hw => ?_)
            refine lv_aload_n hx hb dX1_readLadder_127 rfl (lv_at hl 4 rfl) ?_
            refine g1_0 C hw (hF 1 (by decide)) K_f_X1_12 dX1_readLadder_128 ?_
            refine g6_2 C hw 0 (show 0 < 2 by decide) (hF _ (by have := (show 0 < 2 by decide); omega)) K_f_X1_123 dX1_readLadder_131 ?_
            refine lv_iload_n hx hb dX1_readLadder_134 rfl (lv_at hl 3 rfl) ?_
            refine lv_iload hx hb dX1_readLadder_135 (lv_at hl 0 rfl) ?_
            obtain ⟨hi8, h⟩ := h
            refine r_iast C hw (27 + 7 * 0 + 3) 6 (hF _ (by have := (show 0 < 2 by decide); omega)) (fun _ => ce_sea 3 (show 0 < 2 by decide) (by decide) (by decide)) hi8 dX1_readLadder_137 (fun H locs hw => ?_)
            refine lv_aload_n hx hb dX1_readLadder_138 rfl (lv_at hl 4 rfl) ?_
            refine g1_0 C hw (hF 1 (by decide)) K_f_X1_12 dX1_readLadder_139 ?_
            refine lv_iload_n hx hb dX1_readLadder_142 rfl (lv_at hl 3 rfl) ?_
            refine lv_iconst (v := 1) hx hb dX1_readLadder_143 (by decide) ?_
            refine lv_iadd hx hb dX1_readLadder_144 ?_
            refine lv_topi (fun y4 ey4 => ?_)
            have h := h y4 ey4
            refine p6_6 C hw 0 (show 0 < 2 by decide) (hF _ (by have := (show 0 < 2 by decide); omega)) K_f_X1_92 dX1_readLadder_145 (fun H locs hw => ?_)
            refine lv_iconst (v := 1) hx hb dX1_readLadder_148 (by decide) ?_
            rw [hQ]
            exact ret_z C hr hlk hw h (by decide) dX1_readLadder_149
          · have h := h.2 c6
            refine lv_iconst (v := 0) hx hb dX1_readLadder_92 (by decide) ?_
            rw [hQ]
            exact ret_z C hr hlk hw h (by decide) dX1_readLadder_93
        · have h := h.2 c5
          refine lv_aload_n hx hb dX1_readLadder_72 rfl (lv_at hl 4 rfl) ?_
          refine done_v hw (my_runV (As := []) (rest := []) C hw 1 1 (hF 1 (by decide)) rfl rfl (mt_X1_nextToken l C.2.2.2.2.2.2.2 hF _ h) K_m_X1_51 K_i_X1_nextToken K_v_X1_nextToken K_n_X1 K_c_X1_nextToken hy_X1_nextToken ⟨Nat.le_of_ble_eq_true rfl, Nat.le_of_ble_eq_true rfl⟩ hl.1 rfl (Nat.le_of_ble_eq_true rfl) dX1_readLadder_73 ⟨Nat.zero_le _, Nat.zero_le _⟩) (fun w8 H locs h hw => ?_)
          refine lv_aload_n hx hb dX1_readLadder_76 rfl (lv_at hl 4 rfl) ?_
          refine lv_bipush (v := 12) hx hb dX1_readLadder_77 (by decide) ?_
          refine lv_iconst (v := 4) hx hb dX1_readLadder_79 (by decide) ?_
          refine done_i hw (my_runV (As := [.int 12, .int 4]) (rest := []) C hw 1 1 (hF 1 (by decide)) rfl rfl (mt_X1_readSet l C.2.2.2.2.2.2.2 hF _ _ _ h) K_m_X1_102 K_i_X1_readSet K_v_X1_readSet K_n_X1 K_c_X1_readSet hy_X1_readSet ⟨Nat.le_of_ble_eq_true rfl, Nat.le_of_ble_eq_true rfl⟩ hl.1 rfl (Nat.le_of_ble_eq_true rfl) dX1_readLadder_80 ⟨Nat.zero_le _, Nat.zero_le _⟩) (fun r6 w9 H locs h hw => ?_)
          refine lv_istore (lv' := [(4, .int r6), (3, .int r2), (2, .int y2), (1, .int y1), (0, .ref (eA E 1))]) hx hb dX1_readLadder_83 hl (by decide) rfl (fun ls hl => ?_)
          refine lv_aload_n hx hb dX1_readLadder_85 rfl (lv_at hl 4 rfl) ?_
          refine g1_8 C hw (hF 1 (by decide)) K_f_X1_38 dX1_readLadder_86 ?_
          refine lv_if_eq (tgt := 94) hx hb dX1_readLadder_89 (by decide) (fun c7 => ?_) (fun c7 => ?_)
          · have h := h.1 c7
            refine lv_aload_n hx hb dX1_readLadder_94 rfl (lv_at hl 4 rfl) ?_
            refine g1_0 C hw (hF 1 (by decide)) K_f_X1_12 dX1_readLadder_95 ?_
            refine g6_0 C hw 0 (show 0 < 2 by decide) (hF _ (by have := (show 0 < 2 by decide); omega)) K_f_X1_107 dX1_readLadder_98 ?_
            refine lv_iload_n hx hb dX1_readLadder_101 rfl (lv_at hl 3 rfl) ?_
            refine lv_iload_n hx hb dX1_readLadder_102 rfl (lv_at hl 2 rfl) ?_
            obtain ⟨hi9, h⟩ := h
            refine r_iast C hw (27 + 7 * 0 + 1) 6 (hF _ (by have := (show 0 < 2 by decide); omega)) (fun _ => ce_sea 1 (show 0 < 2 by decide) (by decide) (by decide)) hi9 dX1_readLadder_103 (fun H locs hw => ?_)
            refine lv_aload_n hx hb dX1_readLadder_104 rfl (lv_at hl 4 rfl) ?_
            refine g1_0 C hw (hF 1 (by decide)) K_f_X1_12 dX1_readLadder_105 ?_
            refine g6_1 C hw 0 (show 0 < 2 by decide) (hF _ (by have := (show 0 < 2 by decide); omega)) K_f_X1_111 dX1_readLadder_108 ?_
            refine lv_iload_n hx hb dX1_readLadder_111 rfl (lv_at hl 3 rfl) ?_
            refine lv_iload_n hx hb dX1_readLadder_112 rfl (lv_at hl 1 rfl) ?_
            refine done_i hw (my_runS (As := [.int r2]) (rest := [.int y1, .ref (eA E ((27 + 7 * 0 + 2)))]) C hw (mt_J6_bitCount_0f7a4 l C.2.2.2.2.2.2.2 _ _ h) K_m_X1_114 K_s_J6_bitCount_0f7a4 K_n_J6 K_c_J6_bitCount_0f7a4 hy_J6_bitCount_0f7a4 ⟨Nat.le_of_ble_eq_true rfl, Nat.le_of_ble_eq_true rfl⟩ hl.1 rfl (Nat.le_of_ble_eq_true rfl) dX1_readLadder_113 ⟨Nat.zero_le _, Nat.zero_le _⟩) (fun r7 w10 H locs h hw => ?_)
            obtain ⟨hi10, h⟩ := h
            refine r_iast C hw (27 + 7 * 0 + 2) 6 (hF _ (by have := (show 0 < 2 by decide); omega)) (fun _ => ce_sea 2 (show 0 < 2 by decide) (by decide) (by decide)) hi10 dX1_readLadder_116 (fun H locs hw => ?_)
            refine lv_aload_n hx hb dX1_readLadder_117 rfl (lv_at hl 4 rfl) ?_
            refine g1_0 C hw (hF 1 (by decide)) K_f_X1_12 dX1_readLadder_118 ?_
            refine g6_3 C hw 0 (show 0 < 2 by decide) (hF _ (by have := (show 0 < 2 by decide); omega)) K_f_X1_120 dX1_readLadder_121 ?_
            refine lv_iload_n hx hb dX1_readLadder_124 rfl (lv_at hl 3 rfl) ?_
            refine lv_iload_n hx hb dX1_readLadder_125 rfl (lv_at hl 1 rfl) ?_
            obtain ⟨hi11, h⟩ := h
            refine r_iast C hw (27 + 7 * 0 + 4) 6 (hF _ (by have := (show 0 < 2 by decide); omega)) (fun _ => ce_sea 4 (show 0 < 2 by decide) (by decide) (by decide)) hi11 dX1_readLadder_126 (fun H locs hw => ?_)
            refine lv_aload_n hx hb dX1_readLadder_127 rfl (lv_at hl 4 rfl) ?_
            refine g1_0 C hw (hF 1 (by decide)) K_f_X1_12 dX1_readLadder_128 ?_
            refine g6_2 C hw 0 (show 0 < 2 by decide) (hF _ (by have := (show 0 < 2 by decide); omega)) K_f_X1_123 dX1_readLadder_131 ?_
            refine lv_iload_n hx hb dX1_readLadder_134 rfl (lv_at hl 3 rfl) ?_
            refine lv_iload hx hb dX1_readLadder_135 (lv_at hl 0 rfl) ?_
            obtain ⟨hi12, h⟩ := h
            refine r_iast C hw (27 + 7 * 0 + 3) 6 (hF _ (by have := (show 0 < 2 by decide); omega)) (fun _ => ce_sea 3 (show 0 < 2 by decide) (by decide) (by decide)) hi12 dX1_readLadder_137 (fun H locs hw => ?_)
            refine lv_aload_n hx hb dX1_readLadder_138 rfl (lv_at hl 4 rfl) ?_
            refine g1_0 C hw (hF 1 (by decide)) K_f_X1_12 dX1_readLadder_139 ?_
            refine lv_iload_n hx hb dX1_readLadder_142 rfl (lv_at hl 3 rfl) ?_
            refine lv_iconst (v := 1) hx hb dX1_readLadder_143 (by decide) ?_
            refine lv_iadd hx hb dX1_readLadder_144 ?_
            refine lv_topi (fun y5 ey5 => ?_)
            have h := h y5 ey5
            refine p6_6 C hw 0 (show 0 < 2 by decide) (hF _ (by have := (show 0 < 2 by decide); omega)) K_f_X1_92 dX1_readLadder_145 (fun H locs hw => ?_)
            refine lv_iconst (v := 1) hx hb dX1_readLadder_148 (by decide) ?_
            rw [hQ]
            exact ret_z C hr hlk hw h (by decide) dX1_readLadder_149
          · have h := h.2 c7
            refine lv_iconst (v := 0) hx hb dX1_readLadder_92 (by decide) ?_
            rw [hQ]
            exact ret_z C hr hlk hw h (by decide) dX1_readLadder_93
    · have h := h.1 c2
      refine lv_iconst (v := 0) hx hb dX1_readLadder_34 (by decide) ?_
      rw [hQ]
      exact ret_z C hr hlk hw h (by decide) dX1_readLadder_35
  · have h := h.2 c1
    refine lv_aload_n hx hb dX1_readLadder_14 rfl (lv_at hl 1 rfl) ?_
    refine lv_iconst (v := 4) hx hb dX1_readLadder_15 (by decide) ?_
    refine done_i hw (my_runV (As := [.int 4]) (rest := []) C hw 1 1 (hF 1 (by decide)) rfl rfl (mt_X1_fail l C.2.2.2.2.2.2.2 hF _ _ h) K_m_X1_85 K_i_X1_fail K_v_X1_fail K_n_X1 K_c_X1_fail hy_X1_fail ⟨Nat.le_of_ble_eq_true rfl, Nat.le_of_ble_eq_true rfl⟩ hl.1 rfl (Nat.le_of_ble_eq_true rfl) dX1_readLadder_16 ⟨Nat.zero_le _, Nat.zero_le _⟩) (fun r8 w11 H locs h hw => ?_)
    rw [hQ]
    exact ret_z C hr hlk hw h.2 h.1 dX1_readLadder_19
theorem hy_X1_readStatement : yX1_readStatement.cls ≠ "java/lang/invoke/MethodHandle" ∧ yX1_readStatement.cls ≠ "java/lang/invoke/VarHandle" ∧ (parseMethodDescriptor yX1_readStatement.desc).map (fun d => d.parameters.length) = some 0 := by decide +kernel
def wp_X1_readStatement (w : Wd) (Post : Wd → Prop) : Prop :=
  wp_X1_isWord 1 w (fun r1 w1 => (r1 = 0 → (wp_X1_isWord 3 w1 (fun r2 w2 => (r2 = 0 → (wp_X1_isWord 4 w2 (fun r3 w3 => (r3 = 0 → (wp_X1_isWord 5 w3 (fun r4 w4 => (r4 = 0 → (wp_X1_fail w4 1 (fun r5 w5 => (r5 = 0 → (Post w5)) ∧ (¬ r5 = 0 → (wp_X1_readSemicolon w5 (fun w6 => Post w6)))))) ∧ (¬ r4 = 0 → (wp_X1_readFirst w4 (fun r6 w7 => (r6 = 0 → (Post w7)) ∧ (¬ r6 = 0 → (wp_X1_readSemicolon w7 (fun w8 => Post w8))))))))) ∧ (¬ r3 = 0 → (wp_X1_readTokens w3 (fun r7 w9 => (r7 = 0 → (Post w9)) ∧ (¬ r7 = 0 → (wp_X1_readSemicolon w9 (fun w10 => Post w10))))))))) ∧ (¬ r2 = 0 → (wp_X1_readLock w2 (fun r8 w11 => (r8 = 0 → (Post w11)) ∧ (¬ r8 = 0 → (wp_X1_readSemicolon w11 (fun w12 => Post w12))))))))) ∧ (¬ r1 = 0 → (wp_X1_readLadder w1 (fun r9 w13 => (r9 = 0 → (Post w13)) ∧ (¬ r9 = 0 → (wp_X1_readSemicolon w13 (fun w14 => Post w14)))))))
set_option maxHeartbeats 4000000 in
set_option maxRecDepth 100000 in
theorem mt_X1_readStatement (l : Launch) {E : En} (hI : Inj E) (hF : ∀ o, (o < 15 ∨ 25 ≤ o ∧ o < 157) → o ∈ eL E) (w : Wd) {Post : Wd → Prop} (h : wp_X1_readStatement w Post) : MV l E yX1_readStatement cX1_readStatement 2 none 6 131 [.ref (eA E 1)] w Post := by
  refine MG.intro hI (by decide +kernel) (Nat.le_of_ble_eq_true rfl) ?_
  intro p e s m args below meth c Q C hr hlk hQ hw ls hl
  have hx := C.1
  have hb := C.2.1
  have hl : lv_has ls 2 [(0, .ref (eA E 1))] := hl
  unfold wp_X1_readStatement at h
  refine lv_aload_n hx hb dX1_readStatement_0 rfl (lv_at hl 0 rfl) ?_
  refine r_ldcS C 1 (by decide +kernel) dX1_readStatement_1 ?_
  refine done_i hw (my_runV (As := [.ref (eT E (1 + 1))]) (rest := []) C hw 1 1 (hF 1 (by decide)) rfl rfl (mt_X1_isWord l C.2.2.2.2.2.2.2 hF 1 (show 1 < 17 by decide) _ h) K_m_X1_62 K_i_X1_isWord K_v_X1_isWord K_n_X1 K_c_X1_isWord hy_X1_isWord ⟨Nat.le_of_ble_eq_true rfl, Nat.le_of_ble_eq_true rfl⟩ hl.1 rfl (Nat.le_of_ble_eq_true rfl) dX1_readStatement_3 ⟨Nat.zero_le _, Nat.zero_le _⟩) (fun r1 w1 H locs h hw => ?_)
  refine lv_if_eq (tgt := 17) hx hb dX1_readStatement_6 (by decide) (fun c1 => ?_) (fun c1 => ?_)
  · have h := h.1 c1
    refine lv_aload_n hx hb dX1_readStatement_17 rfl (lv_at hl 0 rfl) ?_
    refine r_ldcS C 3 (by decide +kernel) dX1_readStatement_18 ?_
    refine done_i hw (my_runV (As := [.ref (eT E (1 + 3))]) (rest := []) C hw 1 1 (hF 1 (by decide)) rfl rfl (mt_X1_isWord l C.2.2.2.2.2.2.2 hF 3 (show 3 < 17 by decide) _ h) K_m_X1_62 K_i_X1_isWord K_v_X1_isWord K_n_X1 K_c_X1_isWord hy_X1_isWord ⟨Nat.le_of_ble_eq_true rfl, Nat.le_of_ble_eq_true rfl⟩ hl.1 rfl (Nat.le_of_ble_eq_true rfl) dX1_readStatement_20 ⟨Nat.zero_le _, Nat.zero_le _⟩) (fun r2 w2 H locs h hw => ?_)
    refine lv_if_eq (tgt := 34) hx hb dX1_readStatement_23 (by decide) (fun c2 => ?_) (fun c2 => ?_)
    · have h := h.1 c2
      refine lv_aload_n hx hb dX1_readStatement_34 rfl (lv_at hl 0 rfl) ?_
      refine r_ldcS C 4 (by decide +kernel) dX1_readStatement_35 ?_
      refine done_i hw (my_runV (As := [.ref (eT E (1 + 4))]) (rest := []) C hw 1 1 (hF 1 (by decide)) rfl rfl (mt_X1_isWord l C.2.2.2.2.2.2.2 hF 4 (show 4 < 17 by decide) _ h) K_m_X1_62 K_i_X1_isWord K_v_X1_isWord K_n_X1 K_c_X1_isWord hy_X1_isWord ⟨Nat.le_of_ble_eq_true rfl, Nat.le_of_ble_eq_true rfl⟩ hl.1 rfl (Nat.le_of_ble_eq_true rfl) dX1_readStatement_37 ⟨Nat.zero_le _, Nat.zero_le _⟩) (fun r3 w3 H locs h hw => ?_)
      refine lv_if_eq (tgt := 51) hx hb dX1_readStatement_40 (by decide) (fun c3 => ?_) (fun c3 => ?_)
      · have h := h.1 c3
        refine lv_aload_n hx hb dX1_readStatement_51 rfl (lv_at hl 0 rfl) ?_
        refine r_ldcS C 5 (by decide +kernel) dX1_readStatement_52 ?_
        refine done_i hw (my_runV (As := [.ref (eT E (1 + 5))]) (rest := []) C hw 1 1 (hF 1 (by decide)) rfl rfl (mt_X1_isWord l C.2.2.2.2.2.2.2 hF 5 (show 5 < 17 by decide) _ h) K_m_X1_62 K_i_X1_isWord K_v_X1_isWord K_n_X1 K_c_X1_isWord hy_X1_isWord ⟨Nat.le_of_ble_eq_true rfl, Nat.le_of_ble_eq_true rfl⟩ hl.1 rfl (Nat.le_of_ble_eq_true rfl) dX1_readStatement_54 ⟨Nat.zero_le _, Nat.zero_le _⟩) (fun r4 w4 H locs h hw => ?_)
        refine lv_if_eq (tgt := 68) hx hb dX1_readStatement_57 (by decide) (fun c4 => ?_) (fun c4 => ?_)
        · have h := h.1 c4
          refine lv_aload_n hx hb dX1_readStatement_68 rfl (lv_at hl 0 rfl) ?_
          refine lv_iconst (v := 1) hx hb dX1_readStatement_69 (by decide) ?_
          refine done_i hw (my_runV (As := [.int 1]) (rest := []) C hw 1 1 (hF 1 (by decide)) rfl rfl (mt_X1_fail l C.2.2.2.2.2.2.2 hF _ _ h) K_m_X1_85 K_i_X1_fail K_v_X1_fail K_n_X1 K_c_X1_fail hy_X1_fail ⟨Nat.le_of_ble_eq_true rfl, Nat.le_of_ble_eq_true rfl⟩ hl.1 rfl (Nat.le_of_ble_eq_true rfl) dX1_readStatement_70 ⟨Nat.zero_le _, Nat.zero_le _⟩) (fun r5 w5 H locs h hw => ?_)
          refine lv_istore_n (lv' := [(1, .int r5), (0, .ref (eA E 1))]) hx hb dX1_readStatement_73 rfl hl (by decide) rfl (fun ls hl => ?_)
          refine lv_iload_n hx hb dX1_readStatement_74 rfl (lv_at hl 0 rfl) ?_
          refine lv_if_eq (tgt := 82) hx hb dX1_readStatement_75 (by decide) (fun c5 => ?_) (fun c5 => ?_)
          · have h := h.1 c5
            rw [hQ]
            exact ret_v C hr hlk hw h dX1_readStatement_82
          · have h := h.2 c5
            refine lv_aload_n hx hb dX1_readStatement_78 rfl (lv_at hl 1 rfl) ?_
            refine done_v hw (my_runV (As := []) (rest := []) C hw 1 1 (hF 1 (by decide)) rfl rfl (mt_X1_readSemicolon l C.2.2.2.2.2.2.2 hF _ h) K_m_X1_89 K_i_X1_readSemicolon K_v_X1_readSemicolon K_n_X1 K_c_X1_readSemicolon hy_X1_readSemicolon ⟨Nat.le_of_ble_eq_true rfl, Nat.le_of_ble_eq_true rfl⟩ hl.1 rfl (Nat.le_of_ble_eq_true rfl) dX1_readStatement_79 ⟨Nat.zero_le _, Nat.zero_le _⟩) (fun w6 H locs h hw => ?_)
            rw [hQ]
            exact ret_v C hr hlk hw h dX1_readStatement_82
        · have h := h.2 c4
          refine lv_aload_n hx hb dX1_readStatement_60 rfl (lv_at hl 0 rfl) ?_
          refine done_i hw (my_runV (As := []) (rest := []) C hw 1 1 (hF 1 (by decide)) rfl rfl (mt_X1_readFirst l C.2.2.2.2.2.2.2 hF _ h) K_m_X1_82 K_i_X1_readFirst K_v_X1_readFirst K_n_X1 K_c_X1_readFirst hy_X1_readFirst ⟨Nat.le_of_ble_eq_true rfl, Nat.le_of_ble_eq_true rfl⟩ hl.1 rfl (Nat.le_of_ble_eq_true rfl) dX1_readStatement_61 ⟨Nat.zero_le _, Nat.zero_le _⟩) (fun r6 w7 H locs h hw => ?_)
          refine lv_istore_n (lv' := [(1, .int r6), (0, .ref (eA E 1))]) hx hb dX1_readStatement_64 rfl hl (by decide) rfl (fun ls hl => ?_)
          refine lv_goto (tgt := 74) hx hb dX1_readStatement_65 (by decide) ?_
          refine lv_iload_n hx hb dX1_readStatement_74 rfl (lv_at hl 0 rfl) ?_
          refine lv_if_eq (tgt := 82) hx hb dX1_readStatement_75 (by decide) (fun c6 => ?_) (fun c6 => ?_)
          · have h := h.1 c6
            rw [hQ]
            exact ret_v C hr hlk hw h dX1_readStatement_82
          · have h := h.2 c6
            refine lv_aload_n hx hb dX1_readStatement_78 rfl (lv_at hl 1 rfl) ?_
            refine done_v hw (my_runV (As := []) (rest := []) C hw 1 1 (hF 1 (by decide)) rfl rfl (mt_X1_readSemicolon l C.2.2.2.2.2.2.2 hF _ h) K_m_X1_89 K_i_X1_readSemicolon K_v_X1_readSemicolon K_n_X1 K_c_X1_readSemicolon hy_X1_readSemicolon ⟨Nat.le_of_ble_eq_true rfl, Nat.le_of_ble_eq_true rfl⟩ hl.1 rfl (Nat.le_of_ble_eq_true rfl) dX1_readStatement_79 ⟨Nat.zero_le _, Nat.zero_le _⟩) (fun w8 H locs h hw => ?_)
            rw [hQ]
            exact ret_v C hr hlk hw h dX1_readStatement_82
      · have h := h.2 c3
        refine lv_aload_n hx hb dX1_readStatement_43 rfl (lv_at hl 0 rfl) ?_
        refine done_i hw (my_runV (As := []) (rest := []) C hw 1 1 (hF 1 (by decide)) rfl rfl (mt_X1_readTokens l C.2.2.2.2.2.2.2 hF _ h) K_m_X1_77 K_i_X1_readTokens K_v_X1_readTokens K_n_X1 K_c_X1_readTokens hy_X1_readTokens ⟨Nat.le_of_ble_eq_true rfl, Nat.le_of_ble_eq_true rfl⟩ hl.1 rfl (Nat.le_of_ble_eq_true rfl) dX1_readStatement_44 ⟨Nat.zero_le _, Nat.zero_le _⟩) (fun r7 w9 H locs h hw => ?_)
        refine lv_istore_n (lv' := [(1, .int r7), (0, .ref (eA E 1))]) hx hb dX1_readStatement_47 rfl hl (by decide) rfl (fun ls hl => ?_)
        refine lv_goto (tgt := 74) hx hb dX1_readStatement_48 (by decide) ?_
        refine lv_iload_n hx hb dX1_readStatement_74 rfl (lv_at hl 0 rfl) ?_
        refine lv_if_eq (tgt := 82) hx hb dX1_readStatement_75 (by decide) (fun c7 => ?_) (fun c7 => ?_)
        · have h := h.1 c7
          rw [hQ]
          exact ret_v C hr hlk hw h dX1_readStatement_82
        · have h := h.2 c7
          refine lv_aload_n hx hb dX1_readStatement_78 rfl (lv_at hl 1 rfl) ?_
          refine done_v hw (my_runV (As := []) (rest := []) C hw 1 1 (hF 1 (by decide)) rfl rfl (mt_X1_readSemicolon l C.2.2.2.2.2.2.2 hF _ h) K_m_X1_89 K_i_X1_readSemicolon K_v_X1_readSemicolon K_n_X1 K_c_X1_readSemicolon hy_X1_readSemicolon ⟨Nat.le_of_ble_eq_true rfl, Nat.le_of_ble_eq_true rfl⟩ hl.1 rfl (Nat.le_of_ble_eq_true rfl) dX1_readStatement_79 ⟨Nat.zero_le _, Nat.zero_le _⟩) (fun w10 H locs h hw => ?_)
          rw [hQ]
          exact ret_v C hr hlk hw h dX1_readStatement_82
    · have h := h.2 c2
      refine lv_aload_n hx hb dX1_readStatement_26 rfl (lv_at hl 0 rfl) ?_
      refine done_i hw (my_runV (As := []) (rest := []) C hw 1 1 (hF 1 (by decide)) rfl rfl (mt_X1_readLock l C.2.2.2.2.2.2.2 hF _ h) K_m_X1_72 K_i_X1_readLock K_v_X1_readLock K_n_X1 K_c_X1_readLock hy_X1_readLock ⟨Nat.le_of_ble_eq_true rfl, Nat.le_of_ble_eq_true rfl⟩ hl.1 rfl (Nat.le_of_ble_eq_true rfl) dX1_readStatement_27 ⟨Nat.zero_le _, Nat.zero_le _⟩) (fun r8 w11 H locs h hw => ?_)
      refine lv_istore_n (lv' := [(1, .int r8), (0, .ref (eA E 1))]) hx hb dX1_readStatement_30 rfl hl (by decide) rfl (fun ls hl => ?_)
      refine lv_goto (tgt := 74) hx hb dX1_readStatement_31 (by decide) ?_
      refine lv_iload_n hx hb dX1_readStatement_74 rfl (lv_at hl 0 rfl) ?_
      refine lv_if_eq (tgt := 82) hx hb dX1_readStatement_75 (by decide) (fun c8 => ?_) (fun c8 => ?_)
      · have h := h.1 c8
        rw [hQ]
        exact ret_v C hr hlk hw h dX1_readStatement_82
      · have h := h.2 c8
        refine lv_aload_n hx hb dX1_readStatement_78 rfl (lv_at hl 1 rfl) ?_
        refine done_v hw (my_runV (As := []) (rest := []) C hw 1 1 (hF 1 (by decide)) rfl rfl (mt_X1_readSemicolon l C.2.2.2.2.2.2.2 hF _ h) K_m_X1_89 K_i_X1_readSemicolon K_v_X1_readSemicolon K_n_X1 K_c_X1_readSemicolon hy_X1_readSemicolon ⟨Nat.le_of_ble_eq_true rfl, Nat.le_of_ble_eq_true rfl⟩ hl.1 rfl (Nat.le_of_ble_eq_true rfl) dX1_readStatement_79 ⟨Nat.zero_le _, Nat.zero_le _⟩) (fun w12 H locs h hw => ?_)
        rw [hQ]
        exact ret_v C hr hlk hw h dX1_readStatement_82
  · have h := h.2 c1
    refine lv_aload_n hx hb dX1_readStatement_9 rfl (lv_at hl 0 rfl) ?_
    refine done_i hw (my_runV (As := []) (rest := []) C hw 1 1 (hF 1 (by decide)) rfl rfl (mt_X1_readLadder l C.2.2.2.2.2.2.2 hF _ h) K_m_X1_66 K_i_X1_readLadder K_v_X1_readLadder K_n_X1 K_c_X1_readLadder hy_X1_readLadder ⟨Nat.le_of_ble_eq_true rfl, Nat.le_of_ble_eq_true rfl⟩ hl.1 rfl (Nat.le_of_ble_eq_true rfl) dX1_readStatement_10 ⟨Nat.zero_le _, Nat.zero_le _⟩) (fun r9 w13 H locs h hw => ?_)
    refine lv_istore_n (lv' := [(1, .int r9), (0, .ref (eA E 1))]) hx hb dX1_readStatement_13 rfl hl (by decide) rfl (fun ls hl => ?_)
    refine lv_goto (tgt := 74) hx hb dX1_readStatement_14 (by decide) ?_
    refine lv_iload_n hx hb dX1_readStatement_74 rfl (lv_at hl 0 rfl) ?_
    refine lv_if_eq (tgt := 82) hx hb dX1_readStatement_75 (by decide) (fun c9 => ?_) (fun c9 => ?_)
    · have h := h.1 c9
      rw [hQ]
      exact ret_v C hr hlk hw h dX1_readStatement_82
    · have h := h.2 c9
      refine lv_aload_n hx hb dX1_readStatement_78 rfl (lv_at hl 1 rfl) ?_
      refine done_v hw (my_runV (As := []) (rest := []) C hw 1 1 (hF 1 (by decide)) rfl rfl (mt_X1_readSemicolon l C.2.2.2.2.2.2.2 hF _ h) K_m_X1_89 K_i_X1_readSemicolon K_v_X1_readSemicolon K_n_X1 K_c_X1_readSemicolon hy_X1_readSemicolon ⟨Nat.le_of_ble_eq_true rfl, Nat.le_of_ble_eq_true rfl⟩ hl.1 rfl (Nat.le_of_ble_eq_true rfl) dX1_readStatement_79 ⟨Nat.zero_le _, Nat.zero_le _⟩) (fun w14 H locs h hw => ?_)
      rw [hQ]
      exact ret_v C hr hlk hw h dX1_readStatement_82
theorem hy_X1_readGame : yX1_readGame.cls ≠ "java/lang/invoke/MethodHandle" ∧ yX1_readGame.cls ≠ "java/lang/invoke/VarHandle" ∧ (parseMethodDescriptor yX1_readGame.desc).map (fun d => d.parameters.length) = some 1 := by decide +kernel
def wp_X1_readGame (w : Wd) (p1 : Int32) (Post : Int32 → Wd → Prop) : Prop :=
  ∀ J44 : Int32 → Wd → Prop, (∀ (x2 : Int32) (w : Wd), ((400 < x2 → (Post (gI (sI w 1 1 0) 1 8) (sI w 1 1 0))) ∧ (¬ 400 < x2 → (((gI w 1 5) = 0 → (Post (gI (sI w 1 1 0) 1 8) (sI w 1 1 0))) ∧ (¬ (gI w 1 5) = 0 → (((gI w 1 8) = 0 → (wp_X1_readStatement w (fun w3 => ∀ y2 : Int32, y2 = x2 + 1 → (J44 y2 w3)))) ∧ (¬ (gI w 1 8) = 0 → (Post (gI (sI w 1 1 0) 1 8) (sI w 1 1 0)))))))) → J44 x2 w) →
  ∀ y1 : Int32, y1 = (if 400 < p1 then 400 else p1) → (wp_X6_clear 0 (sI (sI (sI (sI (sI w 1 3 y1) 1 4 0) 1 8 0) 1 9 0) 1 10 0) (fun w1 => wp_X1_nextToken w1 (fun w2 => J44 0 w2)))
set_option maxHeartbeats 4000000 in
set_option maxRecDepth 100000 in
theorem mt_X1_readGame (l : Launch) {E : En} (hI : Inj E) (hF : ∀ o, (o < 15 ∨ 25 ≤ o ∧ o < 157) → o ∈ eL E) (w : Wd) (p1 : Int32) {Post : Int32 → Wd → Prop} (h : wp_X1_readGame w p1 Post) : MI l E yX1_readGame cX1_readGame 3 (some .int) 7 152 [.ref (eA E 1), .int p1] w Post := by
  refine MG.intro hI (by decide +kernel) (Nat.le_of_ble_eq_true rfl) ?_
  intro p e s m args below meth c Q C hr hlk hQ hw ls hl
  have hx := C.1
  have hb := C.2.1
  have hl : lv_has ls 3 [(0, .ref (eA E 1)), (1, .int p1)] := hl
  unfold wp_X1_readGame at h
  have h := h (fun x2 w => Jp E p l e (Rm 7 152) s m args below meth c Q 3 44 [(0, .ref (eA E 1)), (2, .int x2)] w)
  have h := h ?_
  rotate_left
  · intro x2 w h H locs hw ls hl
    refine lv_iload_n hx hb dX1_readGame_44 rfl (lv_at hl 1 rfl) ?_
    refine lv_sipush (v := 400) hx hb dX1_readGame_45 (by decide) ?_
    refine lv_icmp_gt (tgt := 75) hx hb dX1_readGame_48 (by decide) (fun c1 => ?_) (fun c1 => ?_)
    · have h := h.1 c1
      refine lv_aload_n hx hb dX1_readGame_75 rfl (lv_at hl 0 rfl) ?_
      refine lv_iconst (v := 0) hx hb dX1_readGame_76 (by decide) ?_
      refine p1_1 C hw (hF 1 (by decide)) K_f_X1_22 dX1_readGame_77 (fun H locs hw => ?_)
      refine lv_aload_n hx hb dX1_readGame_80 rfl (lv_at hl 0 rfl) ?_
      refine g1_8 C hw (hF 1 (by decide)) K_f_X1_38 dX1_readGame_81 ?_
      rw [hQ]
      exact ret_i C hr hlk hw h dX1_readGame_84
    · have h := h.2 c1
      refine lv_aload_n hx hb dX1_readGame_51 rfl (lv_at hl 0 rfl) ?_
      refine g1_5 C hw (hF 1 (by decide)) K_f_X1_54 dX1_readGame_52 ?_
      refine lv_if_eq (tgt := 75) hx hb dX1_readGame_55 (by decide) (fun c2 => ?_) (fun c2 => ?_)
      · have h := h.1 c2
        refine lv_aload_n hx hb dX1_readGame_75 rfl (lv_at hl 0 rfl) ?_
        refine lv_iconst (v := 0) hx hb dX1_readGame_76 (by decide) ?_
        refine p1_1 C hw (hF 1 (by decide)) K_f_X1_22 dX1_readGame_77 (fun H locs hw => ?_)
        refine lv_aload_n hx hb dX1_readGame_80 rfl (lv_at hl 0 rfl) ?_
        refine g1_8 C hw (hF 1 (by decide)) K_f_X1_38 dX1_readGame_81 ?_
        rw [hQ]
        exact ret_i C hr hlk hw h dX1_readGame_84
      · have h := h.2 c2
        refine lv_aload_n hx hb dX1_readGame_58 rfl (lv_at hl 0 rfl) ?_
        refine g1_8 C hw (hF 1 (by decide)) K_f_X1_38 dX1_readGame_59 ?_
        refine lv_if_ne (tgt := 75) hx hb dX1_readGame_62 (by decide) (fun c3 => ?_) (fun c3 => ?_)
        · have h := h.2 c3
          refine lv_aload_n hx hb dX1_readGame_75 rfl (lv_at hl 0 rfl) ?_
          refine lv_iconst (v := 0) hx hb dX1_readGame_76 (by decide) ?_
          refine p1_1 C hw (hF 1 (by decide)) K_f_X1_22 dX1_readGame_77 (fun H locs hw => ?_)
          refine lv_aload_n hx hb dX1_readGame_80 rfl (lv_at hl 0 rfl) ?_
          refine g1_8 C hw (hF 1 (by decide)) K_f_X1_38 dX1_readGame_81 ?_
          rw [hQ]
          exact ret_i C hr hlk hw h dX1_readGame_84
        · have h := h.1 c3
          refine lv_aload_n hx hb dX1_readGame_65 rfl (lv_at hl 0 rfl) ?_
          refine done_v hw (my_runV (As := []) (rest := []) C hw 1 1 (hF 1 (by decide)) rfl rfl (mt_X1_readStatement l C.2.2.2.2.2.2.2 hF _ h) K_m_X1_57 K_i_X1_readStatement K_v_X1_readStatement K_n_X1 K_c_X1_readStatement hy_X1_readStatement ⟨Nat.le_of_ble_eq_true rfl, Nat.le_of_ble_eq_true rfl⟩ hl.1 rfl (Nat.le_of_ble_eq_true rfl) dX1_readGame_66 ⟨Nat.zero_le _, Nat.zero_le _⟩) (fun w3 H locs h hw => ?_)
          obtain ⟨y2, ey2⟩ : ∃ y : Int32, y = x2 + 1 := ⟨_, rfl⟩
          have h := h y2 ey2
          refine lv_iinc (v := y2) (lv' := [(2, .int y2), (0, .ref (eA E 1))]) hx hb dX1_readGame_69 hl (k := 1) rfl (by rw [ey2]; first | rfl | decide) (by decide) rfl (fun ls hl => ?_)
          refine lv_goto (tgt := 44) hx hb dX1_readGame_72 (by decide) ?_
          exact h _ _ hw _ (lv_sub hl [1, 0] rfl)
  refine lv_aload_n hx hb dX1_readGame_0 rfl (lv_at hl 0 rfl) ?_
  refine lv_iload_n hx hb dX1_readGame_1 rfl (lv_at hl 1 rfl) ?_
  refine lv_sipush (v := 400) hx hb dX1_readGame_2 (by decide) ?_
  refine r_min C hl.1 K_m_X1_26 ⟨Nat.le_of_ble_eq_true rfl, Nat.le_of_ble_eq_true rfl⟩ ⟨Nat.zero_le _, Nat.zero_le _⟩ dX1_readGame_5 ?_
  refine lv_topi (fun y1 ey1 => ?_)
  have h := h y1 ey1
  refine p1_3 C hw (hF 1 (by decide)) K_f_X1_32 dX1_readGame_8 (fun H locs hw => ?_)
  refine lv_aload_n hx hb dX1_readGame_11 rfl (lv_at hl 0 rfl) ?_
  refine lv_iconst (v := 0) hx hb dX1_readGame_12 (by decide) ?_
  refine p1_4 C hw (hF 1 (by decide)) K_f_X1_35 dX1_readGame_13 (fun H locs hw => ?_)
  refine lv_aload_n hx hb dX1_readGame_16 rfl (lv_at hl 0 rfl) ?_
  refine lv_iconst (v := 0) hx hb dX1_readGame_17 (by decide) ?_
  refine p1_8 C hw (hF 1 (by decide)) K_f_X1_38 dX1_readGame_18 (fun H locs hw => ?_)
  refine lv_aload_n hx hb dX1_readGame_21 rfl (lv_at hl 0 rfl) ?_
  refine lv_iconst (v := 0) hx hb dX1_readGame_22 (by decide) ?_
  refine p1_9 C hw (hF 1 (by decide)) (by decide) K_f_X1_41 dX1_readGame_23 (fun H locs hw => ?_)
  refine lv_aload_n hx hb dX1_readGame_26 rfl (lv_at hl 0 rfl) ?_
  refine lv_iconst (v := 0) hx hb dX1_readGame_27 (by decide) ?_
  refine p1_10 C hw (hF 1 (by decide)) (by decide) K_f_X1_45 dX1_readGame_28 (fun H locs hw => ?_)
  refine lv_aload_n hx hb dX1_readGame_31 rfl (lv_at hl 0 rfl) ?_
  refine g1_0 C hw (hF 1 (by decide)) K_f_X1_12 dX1_readGame_32 ?_
  refine done_v hw (my_runV (As := []) (rest := []) C hw (27 + 7 * 0) 6 (hF _ (by have := (show 0 < 2 by decide); omega)) (ce_se (show 0 < 2 by decide)) rfl (mt_X6_clear l C.2.2.2.2.2.2.2 hF 0 (show 0 < 2 by decide) _ h) K_m_X1_48 K_i_X6_clear K_v_X6_clear K_n_X6 K_c_X6_clear hy_X6_clear ⟨Nat.le_of_ble_eq_true rfl, Nat.le_of_ble_eq_true rfl⟩ hl.1 rfl (Nat.le_of_ble_eq_true rfl) dX1_readGame_35 ⟨Nat.zero_le _, Nat.zero_le _⟩) (fun w1 H locs h hw => ?_)
  refine lv_aload_n hx hb dX1_readGame_38 rfl (lv_at hl 0 rfl) ?_
  refine done_v hw (my_runV (As := []) (rest := []) C hw 1 1 (hF 1 (by decide)) rfl rfl (mt_X1_nextToken l C.2.2.2.2.2.2.2 hF _ h) K_m_X1_51 K_i_X1_nextToken K_v_X1_nextToken K_n_X1 K_c_X1_nextToken hy_X1_nextToken ⟨Nat.le_of_ble_eq_true rfl, Nat.le_of_ble_eq_true rfl⟩ hl.1 rfl (Nat.le_of_ble_eq_true rfl) dX1_readGame_39 ⟨Nat.zero_le _, Nat.zero_le _⟩) (fun w2 H locs h hw => ?_)
  refine lv_iconst (v := 0) hx hb dX1_readGame_42 (by decide) ?_
  refine lv_istore_n (lv' := [(2, .int 0), (0, .ref (eA E 1)), (1, .int p1)]) hx hb dX1_readGame_43 rfl hl (by decide) rfl (fun ls hl => ?_)
  exact h _ _ hw _ (lv_sub hl [1, 0] rfl)
theorem hy_X9_isWord : yX9_isWord.cls ≠ "java/lang/invoke/MethodHandle" ∧ yX9_isWord.cls ≠ "java/lang/invoke/VarHandle" ∧ (parseMethodDescriptor yX9_isWord.desc).map (fun d => d.parameters.length) = some 1 := by decide +kernel
def wp_X9_isWord (si1 : Nat) (w : Wd) (Post : Int32 → Wd → Prop) : Prop :=
  ∀ J39 : Int32 → Int32 → Wd → Prop, (∀ (x2 : Int32) (x3 : Int32) (w : Wd), (wp_J0_length_8abf5 si1 w (fun r2 w2 => (r2 ≤ x3 → ((x2 = 0 ∨ x2 = 1) ∧ Post x2 w2)) ∧ (¬ r2 ≤ x3 → ((x2 = 0 → ((x2 = 0 ∨ x2 = 1) ∧ Post x2 w2)) ∧ (¬ x2 = 0 → (vp_in ((gI w2 15 4) + x3) 400 ∧ (wp_J0_charAt_5068e si1 w2 x3 (fun r3 w3 => ((gA w2 16 (((gI w2 15 4) + x3).toNatClampNeg)) = r3 → (∀ y2 : Int32, y2 = x3 + 1 → (J39 1 y2 w3))) ∧ (¬ (gA w2 16 (((gI w2 15 4) + x3).toNatClampNeg)) = r3 → (∀ y1 : Int32, y1 = x3 + 1 → (J39 0 y1 w3))))))))))) → J39 x2 x3 w) →
  ((gI w 15 8) = 0 → (((gI w 15 6) = 1 → (wp_J0_length_8abf5 si1 w (fun r1 w1 => (((gI w 15 5) - (gI w 15 4)) = r1 → (J39 1 0 w1)) ∧ (¬ ((gI w 15 5) - (gI w 15 4)) = r1 → (J39 0 0 w1))))) ∧ (¬ (gI w 15 6) = 1 → (J39 0 0 w)))) ∧ (¬ (gI w 15 8) = 0 → (J39 0 0 w))
set_option maxHeartbeats 4000000 in
set_option maxRecDepth 100000 in
theorem mt_X9_isWord (l : Launch) {E : En} (hI : Inj E) (hF : ∀ o, (15 ≤ o ∧ o < 25) → o ∈ eL E) (si1 : Nat) (hsi1 : si1 < 17) (w : Wd) {Post : Int32 → Wd → Prop} (h : wp_X9_isWord si1 w Post) : MI l E yX9_isWord cX9_isWord 4 (some .boolean) 4 85 [.ref (eA E 15), .ref (eT E (1 + si1))] w Post := by
  refine MG.intro hI (by decide +kernel) (Nat.le_of_ble_eq_true rfl) ?_
  intro p e s m args below meth c Q C hr hlk hQ hw ls hl
  have hx := C.1
  have hb := C.2.1
  have hl : lv_has ls 4 [(0, .ref (eA E 15)), (1, .ref (eT E (1 + si1)))] := hl
  unfold wp_X9_isWord at h
  have h := h (fun x2 x3 w => Jp E p l e (Rm 4 85) s m args below meth c Q 4 39 [(0, .ref (eA E 15)), (1, .ref (eT E (1 + si1))), (2, .int x2), (3, .int x3)] w)
  have h := h ?_
  rotate_left
  · intro x2 x3 w h H locs hw ls hl
    refine lv_iload_n hx hb dX9_isWord_39 rfl (lv_at hl 3 rfl) ?_
    refine lv_aload_n hx hb dX9_isWord_40 rfl (lv_at hl 1 rfl) ?_
    refine done_i hw (my_runVS (As := []) (rest := [.int x3]) C hw si1 hsi1 (mt_J0_length_8abf5 l C.2.2.2.2.2.2.2 si1 hsi1 _ h) K_m_X9_85 K_i_J0_length_8abf5 K_v_J0_length_8abf5 K_n_J0 K_c_J0_length_8abf5 hy_J0_length ⟨Nat.le_of_ble_eq_true rfl, Nat.le_of_ble_eq_true rfl⟩ hl.1 rfl (Nat.le_of_ble_eq_true rfl) dX9_isWord_41 ⟨Nat.zero_le _, Nat.zero_le _⟩) (fun r2 w2 H locs h hw => ?_)
    refine lv_icmp_ge (tgt := 82) hx hb dX9_isWord_44 (by decide) (fun c4 => ?_) (fun c4 => ?_)
    · have h := h.1 c4
      refine lv_iload_n hx hb dX9_isWord_82 rfl (lv_at hl 2 rfl) ?_
      rw [hQ]
      exact ret_z C hr hlk hw h.2 h.1 dX9_isWord_83
    · have h := h.2 c4
      refine lv_iload_n hx hb dX9_isWord_47 rfl (lv_at hl 2 rfl) ?_
      refine lv_if_eq (tgt := 82) hx hb dX9_isWord_48 (by decide) (fun c5 => ?_) (fun c5 => ?_)
      · have h := h.1 c5
        refine lv_iload_n hx hb dX9_isWord_82 rfl (lv_at hl 2 rfl) ?_
        rw [hQ]
        exact ret_z C hr hlk hw h.2 h.1 dX9_isWord_83
      · have h := h.2 c5
        refine lv_aload_n hx hb dX9_isWord_51 rfl (lv_at hl 0 rfl) ?_
        refine g9_1 C hw (hF 15 (by decide)) K_f_X9_7 dX9_isWord_52 ?_
        refine lv_aload_n hx hb dX9_isWord_55 rfl (lv_at hl 0 rfl) ?_
        refine g9_4 C hw (hF 15 (by decide)) K_f_X9_62 dX9_isWord_56 ?_
        refine lv_iload_n hx hb dX9_isWord_59 rfl (lv_at hl 3 rfl) ?_
        refine lv_iadd hx hb dX9_isWord_60 ?_
        obtain ⟨hi1, h⟩ := h
        refine r_bald C hw 16 400 (hF 16 (by decide)) rfl hi1 dX9_isWord_61 ?_
        refine lv_aload_n hx hb dX9_isWord_62 rfl (lv_at hl 1 rfl) ?_
        refine lv_iload_n hx hb dX9_isWord_63 rfl (lv_at hl 3 rfl) ?_
        refine done_i hw (my_runVS (As := [.int x3]) (rest := [.int (gA w2 16 (((gI w2 15 4) + x3).toNatClampNeg))]) C hw si1 hsi1 (mt_J0_charAt_5068e l C.2.2.2.2.2.2.2 si1 hsi1 _ _ h) K_m_X9_90 K_i_J0_charAt_5068e K_v_J0_charAt_5068e K_n_J0 K_c_J0_charAt_5068e hy_J0_charAt ⟨Nat.le_of_ble_eq_true rfl, Nat.le_of_ble_eq_true rfl⟩ hl.1 rfl (Nat.le_of_ble_eq_true rfl) dX9_isWord_64 ⟨Nat.zero_le _, Nat.zero_le _⟩) (fun r3 w3 H locs h hw => ?_)
        refine lv_icmp_ne (tgt := 74) hx hb dX9_isWord_67 (by decide) (fun c6 => ?_) (fun c6 => ?_)
        · have h := h.2 c6
          refine lv_iconst (v := 0) hx hb dX9_isWord_74 (by decide) ?_
          refine lv_istore_n (lv' := [(2, .int 0), (0, .ref (eA E 15)), (1, .ref (eT E (1 + si1))), (3, .int x3)]) hx hb dX9_isWord_75 rfl hl (by decide) rfl (fun ls hl => ?_)
          obtain ⟨y1, ey1⟩ : ∃ y : Int32, y = x3 + 1 := ⟨_, rfl⟩
          have h := h y1 ey1
          refine lv_iinc (v := y1) (lv' := [(3, .int y1), (2, .int 0), (0, .ref (eA E 15)), (1, .ref (eT E (1 + si1)))]) hx hb dX9_isWord_76 hl (k := 3) rfl (by rw [ey1]; first | rfl | decide) (by decide) rfl (fun ls hl => ?_)
          refine lv_goto (tgt := 39) hx hb dX9_isWord_79 (by decide) ?_
          exact h _ _ hw _ (lv_sub hl [2, 3, 1, 0] rfl)
        · have h := h.1 c6
          refine lv_iconst (v := 1) hx hb dX9_isWord_70 (by decide) ?_
          refine lv_goto (tgt := 75) hx hb dX9_isWord_71 (by decide) ?_
          refine lv_istore_n (lv' := [(2, .int 1), (0, .ref (eA E 15)), (1, .ref (eT E (1 + si1))), (3, .int x3)]) hx hb dX9_isWord_75 rfl hl (by decide) rfl (fun ls hl => ?_)
          obtain ⟨y2, ey2⟩ : ∃ y : Int32, y = x3 + 1 := ⟨_, rfl⟩
          have h := h y2 ey2
          refine lv_iinc (v := y2) (lv' := [(3, .int y2), (2, .int 1), (0, .ref (eA E 15)), (1, .ref (eT E (1 + si1)))]) hx hb dX9_isWord_76 hl (k := 3) rfl (by rw [ey2]; first | rfl | decide) (by decide) rfl (fun ls hl => ?_)
          refine lv_goto (tgt := 39) hx hb dX9_isWord_79 (by decide) ?_
          exact h _ _ hw _ (lv_sub hl [2, 3, 1, 0] rfl)
  refine lv_aload_n hx hb dX9_isWord_0 rfl (lv_at hl 0 rfl) ?_
  refine g9_8 C hw (hF 15 (by decide)) K_f_X9_79 dX9_isWord_1 ?_
  refine lv_if_ne (tgt := 35) hx hb dX9_isWord_4 (by decide) (fun c1 => ?_) (fun c1 => ?_)
  · have h := h.2 c1
    refine lv_iconst (v := 0) hx hb dX9_isWord_35 (by decide) ?_
    refine lv_istore_n (lv' := [(2, .int 0), (0, .ref (eA E 15)), (1, .ref (eT E (1 + si1)))]) hx hb dX9_isWord_36 rfl hl (by decide) rfl (fun ls hl => ?_)
    refine lv_iconst (v := 0) hx hb dX9_isWord_37 (by decide) ?_
    refine lv_istore_n (lv' := [(3, .int 0), (2, .int 0), (0, .ref (eA E 15)), (1, .ref (eT E (1 + si1)))]) hx hb dX9_isWord_38 rfl hl (by decide) rfl (fun ls hl => ?_)
    exact h _ _ hw _ (lv_sub hl [2, 3, 1, 0] rfl)
  · have h := h.1 c1
    refine lv_aload_n hx hb dX9_isWord_7 rfl (lv_at hl 0 rfl) ?_
    refine g9_6 C hw (hF 15 (by decide)) K_f_X9_69 dX9_isWord_8 ?_
    refine lv_iconst (v := 1) hx hb dX9_isWord_11 (by decide) ?_
    refine lv_icmp_ne (tgt := 35) hx hb dX9_isWord_12 (by decide) (fun c2 => ?_) (fun c2 => ?_)
    · have h := h.2 c2
      refine lv_iconst (v := 0) hx hb dX9_isWord_35 (by decide) ?_
      refine lv_istore_n (lv' := [(2, .int 0), (0, .ref (eA E 15)), (1, .ref (eT E (1 + si1)))]) hx hb dX9_isWord_36 rfl hl (by decide) rfl (fun ls hl => ?_)
      refine lv_iconst (v := 0) hx hb dX9_isWord_37 (by decide) ?_
      refine lv_istore_n (lv' := [(3, .int 0), (2, .int 0), (0, .ref (eA E 15)), (1, .ref (eT E (1 + si1)))]) hx hb dX9_isWord_38 rfl hl (by decide) rfl (fun ls hl => ?_)
      exact h _ _ hw _ (lv_sub hl [2, 3, 1, 0] rfl)
    · have h := h.1 c2
      refine lv_aload_n hx hb dX9_isWord_15 rfl (lv_at hl 0 rfl) ?_
      refine g9_5 C hw (hF 15 (by decide)) K_f_X9_59 dX9_isWord_16 ?_
      refine lv_aload_n hx hb dX9_isWord_19 rfl (lv_at hl 0 rfl) ?_
      refine g9_4 C hw (hF 15 (by decide)) K_f_X9_62 dX9_isWord_20 ?_
      refine lv_isub hx hb dX9_isWord_23 ?_
      refine lv_aload_n hx hb dX9_isWord_24 rfl (lv_at hl 1 rfl) ?_
      refine done_i hw (my_runVS (As := []) (rest := [.int ((gI w 15 5) - (gI w 15 4))]) C hw si1 hsi1 (mt_J0_length_8abf5 l C.2.2.2.2.2.2.2 si1 hsi1 _ h) K_m_X9_85 K_i_J0_length_8abf5 K_v_J0_length_8abf5 K_n_J0 K_c_J0_length_8abf5 hy_J0_length ⟨Nat.le_of_ble_eq_true rfl, Nat.le_of_ble_eq_true rfl⟩ hl.1 rfl (Nat.le_of_ble_eq_true rfl) dX9_isWord_25 ⟨Nat.zero_le _, Nat.zero_le _⟩) (fun r1 w1 H locs h hw => ?_)
      refine lv_icmp_ne (tgt := 35) hx hb dX9_isWord_28 (by decide) (fun c3 => ?_) (fun c3 => ?_)
      · have h := h.2 c3
        refine lv_iconst (v := 0) hx hb dX9_isWord_35 (by decide) ?_
        refine lv_istore_n (lv' := [(2, .int 0), (0, .ref (eA E 15)), (1, .ref (eT E (1 + si1)))]) hx hb dX9_isWord_36 rfl hl (by decide) rfl (fun ls hl => ?_)
        refine lv_iconst (v := 0) hx hb dX9_isWord_37 (by decide) ?_
        refine lv_istore_n (lv' := [(3, .int 0), (2, .int 0), (0, .ref (eA E 15)), (1, .ref (eT E (1 + si1)))]) hx hb dX9_isWord_38 rfl hl (by decide) rfl (fun ls hl => ?_)
        exact h _ _ hw _ (lv_sub hl [2, 3, 1, 0] rfl)
      · have h := h.1 c3
        refine lv_iconst (v := 1) hx hb dX9_isWord_31 (by decide) ?_
        refine lv_goto (tgt := 36) hx hb dX9_isWord_32 (by decide) ?_
        refine lv_istore_n (lv' := [(2, .int 1), (0, .ref (eA E 15)), (1, .ref (eT E (1 + si1)))]) hx hb dX9_isWord_36 rfl hl (by decide) rfl (fun ls hl => ?_)
        refine lv_iconst (v := 0) hx hb dX9_isWord_37 (by decide) ?_
        refine lv_istore_n (lv' := [(3, .int 0), (2, .int 1), (0, .ref (eA E 15)), (1, .ref (eT E (1 + si1)))]) hx hb dX9_isWord_38 rfl hl (by decide) rfl (fun ls hl => ?_)
        exact h _ _ hw _ (lv_sub hl [2, 3, 1, 0] rfl)
theorem hy_X9_ladderLine : yX9_ladderLine.cls ≠ "java/lang/invoke/MethodHandle" ∧ yX9_ladderLine.cls ≠ "java/lang/invoke/VarHandle" ∧ (parseMethodDescriptor yX9_ladderLine.desc).map (fun d => d.parameters.length) = some 0 := by decide +kernel
def wp_X9_ladderLine (w : Wd) (Post : Wd → Prop) : Prop :=
  (6 ≤ (gA w 17 0) → (wp_X9_must w 0 4 (fun r1 w1 => (r1 = 0 → (Post w1)) ∧ (¬ r1 = 0 → (wp_X9_goOn w1 (fun w2 => ∀ y1 : Int32, y1 = 1 + (7 * (gA w2 17 0)) → (wp_X9_read w2 1 12 (fun r2 w3 => vp_in (y1 + 0) 140 ∧ (vp_in (y1 + 0) 140 ∧ (wp_X9_readSet (sA w3 17 ((y1 + 0).toNatClampNeg) r2) (gA (sA w3 17 ((y1 + 0).toNatClampNeg) r2) 17 ((y1 + 0).toNatClampNeg)) 3 (fun r3 w4 => vp_in (y1 + 2) 140 ∧ (vp_in (y1 + 2) 140 ∧ (wp_X9_bits (sA w4 17 ((y1 + 2).toNatClampNeg) r3) (gA (sA w4 17 ((y1 + 2).toNatClampNeg) r3) 17 ((y1 + 2).toNatClampNeg)) (fun r4 w5 => vp_in (y1 + 1) 140 ∧ (vp_in (y1 + 4) 140 ∧ (vp_in (y1 + 5) 140 ∧ (wp_X9_isWord 2 (sA (sA (sA w5 17 ((y1 + 1).toNatClampNeg) r4) 17 ((y1 + 4).toNatClampNeg) 14) 17 ((y1 + 5).toNatClampNeg) ((-1))) (fun r5 w6 => (r5 = 0 → (∀ y2 : Int32, y2 = (gA w6 17 0) + 1 → (Post (sA w6 17 0 y2)))) ∧ (¬ r5 = 0 → (wp_X9_goOn w6 (fun w7 => wp_X9_readSet w7 12 4 (fun r6 w8 => vp_in (y1 + 4) 140 ∧ (∀ y3 : Int32, y3 = (gA (sA w8 17 ((y1 + 4).toNatClampNeg) r6) 17 0) + 1 → (Post (sA (sA w8 17 ((y1 + 4).toNatClampNeg) r6) 17 0 y3))))))))))))))))))))))))) ∧ (¬ 6 ≤ (gA w 17 0) → (wp_X9_must w 1 4 (fun r7 w9 => (r7 = 0 → (Post w9)) ∧ (¬ r7 = 0 → (wp_X9_goOn w9 (fun w10 => ∀ y4 : Int32, y4 = 1 + (7 * (gA w10 17 0)) → (wp_X9_read w10 1 12 (fun r8 w11 => vp_in (y4 + 0) 140 ∧ (vp_in (y4 + 0) 140 ∧ (wp_X9_readSet (sA w11 17 ((y4 + 0).toNatClampNeg) r8) (gA (sA w11 17 ((y4 + 0).toNatClampNeg) r8) 17 ((y4 + 0).toNatClampNeg)) 3 (fun r9 w12 => vp_in (y4 + 2) 140 ∧ (vp_in (y4 + 2) 140 ∧ (wp_X9_bits (sA w12 17 ((y4 + 2).toNatClampNeg) r9) (gA (sA w12 17 ((y4 + 2).toNatClampNeg) r9) 17 ((y4 + 2).toNatClampNeg)) (fun r10 w13 => vp_in (y4 + 1) 140 ∧ (vp_in (y4 + 4) 140 ∧ (vp_in (y4 + 5) 140 ∧ (wp_X9_isWord 2 (sA (sA (sA w13 17 ((y4 + 1).toNatClampNeg) r10) 17 ((y4 + 4).toNatClampNeg) 14) 17 ((y4 + 5).toNatClampNeg) ((-1))) (fun r11 w14 => (r11 = 0 → (∀ y5 : Int32, y5 = (gA w14 17 0) + 1 → (Post (sA w14 17 0 y5)))) ∧ (¬ r11 = 0 → (wp_X9_goOn w14 (fun w15 => wp_X9_readSet w15 12 4 (fun r12 w16 => vp_in (y4 + 4) 140 ∧ (∀ y6 : Int32, y6 = (gA (sA w16 17 ((y4 + 4).toNatClampNeg) r12) 17 0) + 1 → (Post (sA (sA w16 17 ((y4 + 4).toNatClampNeg) r12) 17 0 y6)))))))))))))))))))))))))
set_option maxHeartbeats 4000000 in
set_option maxRecDepth 100000 in
theorem mt_X9_ladderLine (l : Launch) {E : En} (hI : Inj E) (hF : ∀ o, (15 ≤ o ∧ o < 25) → o ∈ eL E) (w : Wd) {Post : Wd → Prop} (h : wp_X9_ladderLine w Post) : MV l E yX9_ladderLine cX9_ladderLine 2 none 5 108 [.ref (eA E 15)] w Post := by
  refine MG.intro hI (by decide +kernel) (Nat.le_of_ble_eq_true rfl) ?_
  intro p e s m args below meth c Q C hr hlk hQ hw ls hl
  have hx := C.1
  have hb := C.2.1
  have hl : lv_has ls 2 [(0, .ref (eA E 15))] := hl
  unfold wp_X9_ladderLine at h
  refine lv_aload_n hx hb dX9_ladderLine_0 rfl (lv_at hl 0 rfl) ?_
  refine lv_aload_n hx hb dX9_ladderLine_1 rfl (lv_at hl 0 rfl) ?_
  refine g9_10 C hw (hF 15 (by decide)) K_f_X9_13 dX9_ladderLine_2 ?_
  refine lv_iconst (v := 0) hx hb dX9_ladderLine_5 (by decide) ?_
  refine r_iald C hw 17 140 (hF 17 (by decide)) rfl (vp_lit (by decide)) dX9_ladderLine_6 ?_
  refine lv_bipush (v := 6) hx hb dX9_ladderLine_7 (by decide) ?_
  refine lv_icmp_ge (tgt := 16) hx hb dX9_ladderLine_9 (by decide) (fun c1 => ?_) (fun c1 => ?_)
  · have h := h.1 c1
    refine lv_iconst (v := 0) hx hb dX9_ladderLine_16 (by decide) ?_
    refine lv_iconst (v := 4) hx hb dX9_ladderLine_17 (by decide) ?_
    refine done_i hw (my_runV (As := [.int 0, .int 4]) (rest := []) C hw 15 9 (hF 15 (by decide)) rfl rfl (mt_X9_must l C.2.2.2.2.2.2.2 hF _ _ _ h) K_m_X9_94 K_i_X9_must K_v_X9_must K_n_X9 K_c_X9_must hy_X9_must ⟨Nat.le_of_ble_eq_true rfl, Nat.le_of_ble_eq_true rfl⟩ hl.1 rfl (Nat.le_of_ble_eq_true rfl) dX9_ladderLine_18 ⟨Nat.zero_le _, Nat.zero_le _⟩) (fun r1 w1 H locs h hw => ?_)
    refine lv_if_ne (tgt := 25) hx hb dX9_ladderLine_21 (by decide) (fun c2 => ?_) (fun c2 => ?_)
    · have h := h.2 c2
      refine lv_aload_n hx hb dX9_ladderLine_25 rfl (lv_at hl 0 rfl) ?_
      refine done_v hw (my_runV (As := []) (rest := []) C hw 15 9 (hF 15 (by decide)) rfl rfl (mt_X9_goOn l C.2.2.2.2.2.2.2 hF _ h) K_m_X9_105 K_i_X9_goOn K_v_X9_goOn K_n_X9 K_c_X9_goOn hy_X9_goOn ⟨Nat.le_of_ble_eq_true rfl, Nat.le_of_ble_eq_true rfl⟩ hl.1 rfl (Nat.le_of_ble_eq_true rfl) dX9_ladderLine_26 ⟨Nat.zero_le _, Nat.zero_le _⟩) (fun w2 H locs h hw => ?_)
      refine lv_iconst (v := 1) hx hb dX9_ladderLine_29 (by decide) ?_
      refine lv_bipush (v := 7) hx hb dX9_ladderLine_30 (by decide) ?_
      refine lv_aload_n hx hb dX9_ladderLine_32 rfl (lv_at hl 0 rfl) ?_
      refine g9_10 C hw (hF 15 (by decide)) K_f_X9_13 dX9_ladderLine_33 ?_
      refine lv_iconst (v := 0) hx hb dX9_ladderLine_36 (by decide) ?_
      refine r_iald C hw 17 140 (hF 17 (by decide)) rfl (vp_lit (by decide)) dX9_ladderLine_37 ?_
      refine lv_imul hx hb dX9_ladderLine_38 ?_
      refine lv_iadd hx hb dX9_ladderLine_39 ?_
      refine lv_topi (fun y1 ey1 => ?_)
      have h := h y1 ey1
      refine lv_istore_n (lv' := [(1, .int y1), (0, .ref (eA E 15))]) hx hb dX9_ladderLine_40 rfl hl (by decide) rfl (fun ls hl => ?_)
      refine lv_aload_n hx hb dX9_ladderLine_41 rfl (lv_at hl 1 rfl) ?_
      refine g9_10 C hw (hF 15 (by decide)) K_f_X9_13 dX9_ladderLine_42 ?_
      refine lv_iload_n hx hb dX9_ladderLine_45 rfl (lv_at hl 0 rfl) ?_
      refine lv_iconst (v := 0) hx hb dX9_ladderLine_46 (by decide) ?_
      refine lv_iadd hx hb dX9_ladderLine_47 ?_
      refine lv_aload_n hx hb dX9_ladderLine_48 rfl (lv_at hl 1 rfl) ?_
      refine lv_iconst (v := 1) hx hb dX9_ladderLine_49 (by decide) ?_
      refine lv_bipush (v := 12) hx hb dX9_ladderLine_50 (by decide) ?_
      refine done_i hw (my_runV (As := [.int 1, .int 12]) (rest := [.int (y1 + 0), .ref (eA E 17)]) C hw 15 9 (hF 15 (by decide)) rfl rfl (mt_X9_read l C.2.2.2.2.2.2.2 hF _ _ _ h) K_m_X9_122 K_i_X9_read K_v_X9_read K_n_X9 K_c_X9_read hy_X9_read ⟨Nat.le_of_ble_eq_true rfl, Nat.le_of_ble_eq_true rfl⟩ hl.1 rfl (Nat.le_of_ble_eq_true rfl) dX9_ladderLine_52 ⟨Nat.zero_le _, Nat.zero_le _⟩) (fun r2 w3 H locs h hw => ?_)
      obtain ⟨hi3, h⟩ := h
      refine r_iast C hw 17 140 (hF 17 (by decide)) (fun _ => rfl) hi3 dX9_ladderLine_55 (fun H locs hw => ?_)
      refine lv_aload_n hx hb dX9_ladderLine_56 rfl (lv_at hl 1 rfl) ?_
      refine g9_10 C hw (hF 15 (by decide)) K_f_X9_13 dX9_ladderLine_57 ?_
      refine lv_iload_n hx hb dX9_ladderLine_60 rfl (lv_at hl 0 rfl) ?_
      refine lv_iconst (v := 2) hx hb dX9_ladderLine_61 (by decide) ?_
      refine lv_iadd hx hb dX9_ladderLine_62 ?_
      refine lv_aload_n hx hb dX9_ladderLine_63 rfl (lv_at hl 1 rfl) ?_
      refine lv_aload_n hx hb dX9_ladderLine_64 rfl (lv_at hl 1 rfl) ?_
      refine g9_10 C hw (hF 15 (by decide)) K_f_X9_13 dX9_ladderLine_65 ?_
      refine lv_iload_n hx hb dX9_ladderLine_68 rfl (lv_at hl 0 rfl) ?_
      refine lv_iconst (v := 0) hx hb dX9_ladderLine_69 (by decide) ?_
      refine lv_iadd hx hb dX9_ladderLine_70 ?_
      obtain ⟨hi4, h⟩ := h
      refine r_iald C hw 17 140 (hF 17 (by decide)) rfl hi4 dX9_ladderLine_71 ?_
      refine lv_iconst (v := 3) hx hb dX9_ladderLine_72 (by decide) ?_
      refine done_i hw (my_runV (As := [.int (gA (sA w3 17 ((y1 + 0).toNatClampNeg) r2) 17 ((y1 + 0).toNatClampNeg)), .int 3]) (rest := [.int (y1 + 2), .ref (eA E 17)]) C hw 15 9 (hF 15 (by decide)) rfl rfl (mt_X9_readSet l C.2.2.2.2.2.2.2 hF _ _ _ h) K_m_X9_125 K_i_X9_readSet K_v_X9_readSet K_n_X9 K_c_X9_readSet hy_X9_readSet ⟨Nat.le_of_ble_eq_true rfl, Nat.le_of_ble_eq_true rfl⟩ hl.1 rfl (Nat.le_of_ble_eq_true rfl) dX9_ladderLine_73 ⟨Nat.zero_le _, Nat.zero_le _⟩) (fun r3 w4 H locs h hw => ?_)
      obtain ⟨hi5, h⟩ := h
      refine r_iast C hw 17 140 (hF 17 (by decide)) (fun _ => rfl) hi5 dX9_ladderLine_76 (fun H locs hw => ?_)
      refine lv_aload_n hx hb dX9_ladderLine_77 rfl (lv_at hl 1 rfl) ?_
      refine g9_10 C hw (hF 15 (by decide)) K_f_X9_13 dX9_ladderLine_78 ?_
      refine lv_iload_n hx hb dX9_ladderLine_81 rfl (lv_at hl 0 rfl) ?_
      refine lv_iconst (v := 1) hx hb dX9_ladderLine_82 (by decide) ?_
      refine lv_iadd hx hb dX9_ladderLine_83 ?_
      refine lv_aload_n hx hb dX9_ladderLine_84 rfl (lv_at hl 1 rfl) ?_
      refine g9_10 C hw (hF 15 (by decide)) K_f_X9_13 dX9_ladderLine_85 ?_
      refine lv_iload_n hx hb dX9_ladderLine_88 rfl (lv_at hl 0 rfl) ?_
      refine lv_iconst (v := 2) hx hb dX9_ladderLine_89 (by decide) ?_
      refine lv_iadd hx hb dX9_ladderLine_90 ?_
      obtain ⟨hi6, h⟩ := h
      refine r_iald C hw 17 140 (hF 17 (by decide)) rfl hi6 dX9_ladderLine_91 ?_
      refine done_i hw (my_runS (As := [.int (gA (sA w4 17 ((y1 + 2).toNatClampNeg) r3) 17 ((y1 + 2).toNatClampNeg))]) (rest := [.int (y1 + 1), .ref (eA E 17)]) C hw (mt_X9_bits l C.2.2.2.2.2.2.2 hF _ _ h) K_m_X9_128 K_s_X9_bits K_n_X9 K_c_X9_bits hy_X9_bits ⟨Nat.le_of_ble_eq_true rfl, Nat.le_of_ble_eq_true rfl⟩ hl.1 rfl (Nat.le_of_ble_eq_true rfl) dX9_ladderLine_92 ⟨Nat.zero_le _, Nat.zero_le _⟩) (fun r4 w5 H locs h hw => ?_)
      obtain ⟨hi7, h⟩ := h
      refine r_iast C hw 17 140 (hF 17 (by decide)) (fun _ => rfl) hi7 dX9_ladderLine_95 (fun H locs hw => ?_)
      refine lv_aload_n hx hb dX9_ladderLine_96 rfl (lv_at hl 1 rfl) ?_
      refine g9_10 C hw (hF 15 (by decide)) K_f_X9_13 dX9_ladderLine_97 ?_
      refine lv_iload_n hx hb dX9_ladderLine_100 rfl (lv_at hl 0 rfl) ?_
      refine lv_iconst (v := 4) hx hb dX9_ladderLine_101 (by decide) ?_
      refine lv_iadd hx hb dX9_ladderLine_102 ?_
      refine lv_bipush (v := 14) hx hb dX9_ladderLine_103 (by decide) ?_
      obtain ⟨hi8, h⟩ := h
      refine r_iast C hw 17 140 (hF 17 (by decide)) (fun _ => rfl) hi8 dX9_ladderLine_105 (fun H locs hw => ?_)
      refine lv_aload_n hx hb dX9_ladderLine_106 rfl (lv_at hl 1 rfl) ?_
      refine g9_10 C hw (hF 15 (by decide)) K_f_X9_13 dX9_ladderLine_107 ?_
      refine lv_iload_n hx hb dX9_ladderLine_110 rfl (lv_at hl 0 rfl) ?_
      refine lv_iconst (v := 5) hx hb dX9_ladderLine_111 (by decide) ?_
      refine lv_iadd hx hb dX9_ladderLine_112 ?_
      refine lv_iconst (v := (-1)) hx hb dX9_ladderLine_113 (by decide) ?_
      obtain ⟨hi9, h⟩ := h
      refine r_iast C hw 17 140 (hF 17 (by decide)) (fun _ => rfl) hi9 dX9_ladderLine_114 (fun H locs hw => ?_)
      refine lv_aload_n hx hb dX9_ladderLine_115 rfl (lv_at hl 1 rfl) ?_
      refine r_ldcS C 2 (by decide +kernel) dX9_ladderLine_116 ?_
      refine done_i hw (my_runV (As := [.ref (eT E (1 + 2))]) (rest := []) C hw 15 9 (hF 15 (by decide)) rfl rfl (mt_X9_isWord l C.2.2.2.2.2.2.2 hF 2 (show 2 < 17 by decide) _ h) K_m_X9_133 K_i_X9_isWord K_v_X9_isWord K_n_X9 K_c_X9_isWord hy_X9_isWord ⟨Nat.le_of_ble_eq_true rfl, Nat.le_of_ble_eq_true rfl⟩ hl.1 rfl (Nat.le_of_ble_eq_true rfl) dX9_ladderLine_118 ⟨Nat.zero_le _, Nat.zero_le _⟩) (fun r5 w6 H locs h hw => ?_)
      refine lv_if_eq (tgt := 143) hx hb dX9_ladderLine_121 (by decide) (fun c3 => ?_) (fun c3 => ?_)
      · have h := h.1 c3
        refine lv_aload_n hx hb dX9_ladderLine_143 rfl (lv_at hl 1 rfl) ?_
        refine g9_10 C hw (hF 15 (by decide)) K_f_X9_13 dX9_ladderLine_144 ?_
        refine lv_iconst (v := 0) hx hb dX9_ladderLine_147 (by decide) ?_
        refine lv_dup2_11 hx hb dX9_ladderLine_148 rfl rfl ?_
        refine r_iald C hw 17 140 (hF 17 (by decide)) rfl (vp_lit (by decide)) dX9_ladderLine_149 ?_
        refine lv_iconst (v := 1) hx hb dX9_ladderLine_150 (by decide) ?_
        refine lv_iadd hx hb dX9_ladderLine_151 ?_
        refine lv_topi (fun y2 ey2 => ?_)
        have h := h y2 ey2
        refine r_iast C hw 17 140 (hF 17 (by decide)) (fun _ => rfl) (vp_lit (by decide)) dX9_ladderLine_152 (fun H locs hw => ?_)
        rw [hQ]
        exact ret_v C hr hlk hw h dX9_ladderLine_153
      · have h := h.2 c3
        refine lv_aload_n hx hb dX9_ladderLine_124 rfl (lv_at hl 1 rfl) ?_
        refine done_v hw (my_runV (As := []) (rest := []) C hw 15 9 (hF 15 (by decide)) rfl rfl (mt_X9_goOn l C.2.2.2.2.2.2.2 hF _ h) K_m_X9_105 K_i_X9_goOn K_v_X9_goOn K_n_X9 K_c_X9_goOn hy_X9_goOn ⟨Nat.le_of_ble_eq_true rfl, Nat.le_of_ble_eq_true rfl⟩ hl.1 rfl (Nat.le_of_ble_eq_true rfl) dX9_ladderLine_125 ⟨Nat.zero_le _, Nat.zero_le _⟩) (fun w7 H locs h hw => ?_)
        refine lv_aload_n hx hb dX9_ladderLine_128 rfl (lv_at hl 1 rfl) ?_
        refine g9_10 C hw (hF 15 (by decide)) K_f_X9_13 dX9_ladderLine_129 ?_
        refine lv_iload_n hx hb dX9_ladderLine_132 rfl (lv_at hl 0 rfl) ?_
        refine lv_iconst (v := 4) hx hb dX9_ladderLine_133 (by decide) ?_
        refine lv_iadd hx hb dX9_ladderLine_134 ?_
        refine lv_aload_n hx hb dX9_ladderLine_135 rfl (lv_at hl 1 rfl) ?_
        refine lv_bipush (v := 12) hx hb dX9_ladderLine_136 (by decide) ?_
        refine lv_iconst (v := 4) hx hb dX9_ladderLine_138 (by decide) ?_
        refine done_i hw (my_runV (As := [.int 12, .int 4]) (rest := [.int (y1 + 4), .ref (eA E 17)]) C hw 15 9 (hF 15 (by decide)) rfl rfl (mt_X9_readSet l C.2.2.2.2.2.2.2 hF _ _ _ h) K_m_X9_125 K_i_X9_readSet K_v_X9_readSet K_n_X9 K_c_X9_readSet hy_X9_readSet ⟨Nat.le_of_ble_eq_true rfl, Nat.le_of_ble_eq_true rfl⟩ hl.1 rfl (Nat.le_of_ble_eq_true rfl) dX9_ladderLine_139 ⟨Nat.zero_le _, Nat.zero_le _⟩) (fun r6 w8 H locs h hw => ?_)
        obtain ⟨hi12, h⟩ := h
        refine r_iast C hw 17 140 (hF 17 (by decide)) (fun _ => rfl) hi12 dX9_ladderLine_142 (fun H locs hw => ?_)
        refine lv_aload_n hx hb dX9_ladderLine_143 rfl (lv_at hl 1 rfl) ?_
        refine g9_10 C hw (hF 15 (by decide)) K_f_X9_13 dX9_ladderLine_144 ?_
        refine lv_iconst (v := 0) hx hb dX9_ladderLine_147 (by decide) ?_
        refine lv_dup2_11 hx hb dX9_ladderLine_148 rfl rfl ?_
        refine r_iald C hw 17 140 (hF 17 (by decide)) rfl (vp_lit (by decide)) dX9_ladderLine_149 ?_
        refine lv_iconst (v := 1) hx hb dX9_ladderLine_150 (by decide) ?_
        refine lv_iadd hx hb dX9_ladderLine_151 ?_
        refine lv_topi (fun y3 ey3 => ?_)
        have h := h y3 ey3
        refine r_iast C hw 17 140 (hF 17 (by decide)) (fun _ => rfl) (vp_lit (by decide)) dX9_ladderLine_152 (fun H locs hw => ?_)
        rw [hQ]
        exact ret_v C hr hlk hw h dX9_ladderLine_153
    · have h := h.1 c2
      rw [hQ]
      exact ret_v C hr hlk hw h dX9_ladderLine_24
  · have h := h.2 c1
    refine lv_iconst (v := 1) hx hb dX9_ladderLine_12 (by decide) ?_
    refine lv_goto (tgt := 17) hx hb dX9_ladderLine_13 (by decide) ?_
    refine lv_iconst (v := 4) hx hb dX9_ladderLine_17 (by decide) ?_
    refine done_i hw (my_runV (As := [.int 1, .int 4]) (rest := []) C hw 15 9 (hF 15 (by decide)) rfl rfl (mt_X9_must l C.2.2.2.2.2.2.2 hF _ _ _ h) K_m_X9_94 K_i_X9_must K_v_X9_must K_n_X9 K_c_X9_must hy_X9_must ⟨Nat.le_of_ble_eq_true rfl, Nat.le_of_ble_eq_true rfl⟩ hl.1 rfl (Nat.le_of_ble_eq_true rfl) dX9_ladderLine_18 ⟨Nat.zero_le _, Nat.zero_le _⟩) (fun r7 w9 H locs h hw => ?_)
    refine lv_if_ne (tgt := 25) hx hb dX9_ladderLine_21 (by decide) (fun c4 => ?_) (fun c4 => ?_)
    · have h := h.2 c4
      refine lv_aload_n hx hb dX9_ladderLine_25 rfl (lv_at hl 0 rfl) ?_
      refine done_v hw (my_runV (As := []) (rest := []) C hw 15 9 (hF 15 (by decide)) rfl rfl (mt_X9_goOn l C.2.2.2.2.2.2.2 hF _ h) K_m_X9_105 K_i_X9_goOn K_v_X9_goOn K_n_X9 K_c_X9_goOn hy_X9_goOn ⟨Nat.le_of_ble_eq_true rfl, Nat.le_of_ble_eq_true rfl⟩ hl.1 rfl (Nat.le_of_ble_eq_true rfl) dX9_ladderLine_26 ⟨Nat.zero_le _, Nat.zero_le _⟩) (fun w10 H locs h hw => ?_)
      refine lv_iconst (v := 1) hx hb dX9_ladderLine_29 (by decide) ?_
      refine lv_bipush (v := 7) hx hb dX9_ladderLine_30 (by decide) ?_
      refine lv_aload_n hx hb dX9_ladderLine_32 rfl (lv_at hl 0 rfl) ?_
      refine g9_10 C hw (hF 15 (by decide)) K_f_X9_13 dX9_ladderLine_33 ?_
      refine lv_iconst (v := 0) hx hb dX9_ladderLine_36 (by decide) ?_
      refine r_iald C hw 17 140 (hF 17 (by decide)) rfl (vp_lit (by decide)) dX9_ladderLine_37 ?_
      refine lv_imul hx hb dX9_ladderLine_38 ?_
      refine lv_iadd hx hb dX9_ladderLine_39 ?_
      refine lv_topi (fun y4 ey4 => ?_)
      have h := h y4 ey4
      refine lv_istore_n (lv' := [(1, .int y4), (0, .ref (eA E 15))]) hx hb dX9_ladderLine_40 rfl hl (by decide) rfl (fun ls hl => ?_)
      refine lv_aload_n hx hb dX9_ladderLine_41 rfl (lv_at hl 1 rfl) ?_
      refine g9_10 C hw (hF 15 (by decide)) K_f_X9_13 dX9_ladderLine_42 ?_
      refine lv_iload_n hx hb dX9_ladderLine_45 rfl (lv_at hl 0 rfl) ?_
      refine lv_iconst (v := 0) hx hb dX9_ladderLine_46 (by decide) ?_
      refine lv_iadd hx hb dX9_ladderLine_47 ?_
      refine lv_aload_n hx hb dX9_ladderLine_48 rfl (lv_at hl 1 rfl) ?_
      refine lv_iconst (v := 1) hx hb dX9_ladderLine_49 (by decide) ?_
      refine lv_bipush (v := 12) hx hb dX9_ladderLine_50 (by decide) ?_
      refine done_i hw (my_runV (As := [.int 1, .int 12]) (rest := [.int (y4 + 0), .ref (eA E 17)]) C hw 15 9 (hF 15 (by decide)) rfl rfl (mt_X9_read l C.2.2.2.2.2.2.2 hF _ _ _ h) K_m_X9_122 K_i_X9_read K_v_X9_read K_n_X9 K_c_X9_read hy_X9_read ⟨Nat.le_of_ble_eq_true rfl, Nat.le_of_ble_eq_true rfl⟩ hl.1 rfl (Nat.le_of_ble_eq_true rfl) dX9_ladderLine_52 ⟨Nat.zero_le _, Nat.zero_le _⟩) (fun r8 w11 H locs h hw => ?_)
      obtain ⟨hi16, h⟩ := h
      refine r_iast C hw 17 140 (hF 17 (by decide)) (fun _ => rfl) hi16 dX9_ladderLine_55 (fun H locs hw => ?_)
      refine lv_aload_n hx hb dX9_ladderLine_56 rfl (lv_at hl 1 rfl) ?_
      refine g9_10 C hw (hF 15 (by decide)) K_f_X9_13 dX9_ladderLine_57 ?_
      refine lv_iload_n hx hb dX9_ladderLine_60 rfl (lv_at hl 0 rfl) ?_
      refine lv_iconst (v := 2) hx hb dX9_ladderLine_61 (by decide) ?_
      refine lv_iadd hx hb dX9_ladderLine_62 ?_
      refine lv_aload_n hx hb dX9_ladderLine_63 rfl (lv_at hl 1 rfl) ?_
      refine lv_aload_n hx hb dX9_ladderLine_64 rfl (lv_at hl 1 rfl) ?_
      refine g9_10 C hw (hF 15 (by decide)) K_f_X9_13 dX9_ladderLine_65 ?_
      refine lv_iload_n hx hb dX9_ladderLine_68 rfl (lv_at hl 0 rfl) ?_
      refine lv_iconst (v := 0) hx hb dX9_ladderLine_69 (by decide) ?_
      refine lv_iadd hx hb dX9_ladderLine_70 ?_
      obtain ⟨hi17, h⟩ := h
      refine r_iald C hw 17 140 (hF 17 (by decide)) rfl hi17 dX9_ladderLine_71 ?_
      refine lv_iconst (v := 3) hx hb dX9_ladderLine_72 (by decide) ?_
      refine done_i hw (my_runV (As := [.int (gA (sA w11 17 ((y4 + 0).toNatClampNeg) r8) 17 ((y4 + 0).toNatClampNeg)), .int 3]) (rest := [.int (y4 + 2), .ref (eA E 17)]) C hw 15 9 (hF 15 (by decide)) rfl rfl (mt_X9_readSet l C.2.2.2.2.2.2.2 hF _ _ _ h) K_m_X9_125 K_i_X9_readSet K_v_X9_readSet K_n_X9 K_c_X9_readSet hy_X9_readSet ⟨Nat.le_of_ble_eq_true rfl, Nat.le_of_ble_eq_true rfl⟩ hl.1 rfl (Nat.le_of_ble_eq_true rfl) dX9_ladderLine_73 ⟨Nat.zero_le _, Nat.zero_le _⟩) (fun r9 w12 H locs h hw => ?_)
      obtain ⟨hi18, h⟩ := h
      refine r_iast C hw 17 140 (hF 17 (by decide)) (fun _ => rfl) hi18 dX9_ladderLine_76 (fun H locs hw => ?_)
      refine lv_aload_n hx hb dX9_ladderLine_77 rfl (lv_at hl 1 rfl) ?_
      refine g9_10 C hw (hF 15 (by decide)) K_f_X9_13 dX9_ladderLine_78 ?_
      refine lv_iload_n hx hb dX9_ladderLine_81 rfl (lv_at hl 0 rfl) ?_
      refine lv_iconst (v := 1) hx hb dX9_ladderLine_82 (by decide) ?_
      refine lv_iadd hx hb dX9_ladderLine_83 ?_
      refine lv_aload_n hx hb dX9_ladderLine_84 rfl (lv_at hl 1 rfl) ?_
      refine g9_10 C hw (hF 15 (by decide)) K_f_X9_13 dX9_ladderLine_85 ?_
      refine lv_iload_n hx hb dX9_ladderLine_88 rfl (lv_at hl 0 rfl) ?_
      refine lv_iconst (v := 2) hx hb dX9_ladderLine_89 (by decide) ?_
      refine lv_iadd hx hb dX9_ladderLine_90 ?_
      obtain ⟨hi19, h⟩ := h
      refine r_iald C hw 17 140 (hF 17 (by decide)) rfl hi19 dX9_ladderLine_91 ?_
      refine done_i hw (my_runS (As := [.int (gA (sA w12 17 ((y4 + 2).toNatClampNeg) r9) 17 ((y4 + 2).toNatClampNeg))]) (rest := [.int (y4 + 1), .ref (eA E 17)]) C hw (mt_X9_bits l C.2.2.2.2.2.2.2 hF _ _ h) K_m_X9_128 K_s_X9_bits K_n_X9 K_c_X9_bits hy_X9_bits ⟨Nat.le_of_ble_eq_true rfl, Nat.le_of_ble_eq_true rfl⟩ hl.1 rfl (Nat.le_of_ble_eq_true rfl) dX9_ladderLine_92 ⟨Nat.zero_le _, Nat.zero_le _⟩) (fun r10 w13 H locs h hw => ?_)
      obtain ⟨hi20, h⟩ := h
      refine r_iast C hw 17 140 (hF 17 (by decide)) (fun _ => rfl) hi20 dX9_ladderLine_95 (fun H locs hw => ?_)
      refine lv_aload_n hx hb dX9_ladderLine_96 rfl (lv_at hl 1 rfl) ?_
      refine g9_10 C hw (hF 15 (by decide)) K_f_X9_13 dX9_ladderLine_97 ?_
      refine lv_iload_n hx hb dX9_ladderLine_100 rfl (lv_at hl 0 rfl) ?_
      refine lv_iconst (v := 4) hx hb dX9_ladderLine_101 (by decide) ?_
      refine lv_iadd hx hb dX9_ladderLine_102 ?_
      refine lv_bipush (v := 14) hx hb dX9_ladderLine_103 (by decide) ?_
      obtain ⟨hi21, h⟩ := h
      refine r_iast C hw 17 140 (hF 17 (by decide)) (fun _ => rfl) hi21 dX9_ladderLine_105 (fun H locs hw => ?_)
      refine lv_aload_n hx hb dX9_ladderLine_106 rfl (lv_at hl 1 rfl) ?_
      refine g9_10 C hw (hF 15 (by decide)) K_f_X9_13 dX9_ladderLine_107 ?_
      refine lv_iload_n hx hb dX9_ladderLine_110 rfl (lv_at hl 0 rfl) ?_
      refine lv_iconst (v := 5) hx hb dX9_ladderLine_111 (by decide) ?_
      refine lv_iadd hx hb dX9_ladderLine_112 ?_
      refine lv_iconst (v := (-1)) hx hb dX9_ladderLine_113 (by decide) ?_
      obtain ⟨hi22, h⟩ := h
      refine r_iast C hw 17 140 (hF 17 (by decide)) (fun _ => rfl) hi22 dX9_ladderLine_114 (fun H locs hw => ?_)
      refine lv_aload_n hx hb dX9_ladderLine_115 rfl (lv_at hl 1 rfl) ?_
      refine r_ldcS C 2 (by decide +kernel) dX9_ladderLine_116 ?_
      refine done_i hw (my_runV (As := [.ref (eT E (1 + 2))]) (rest := []) C hw 15 9 (hF 15 (by decide)) rfl rfl (mt_X9_isWord l C.2.2.2.2.2.2.2 hF 2 (show 2 < 17 by decide) _ h) K_m_X9_133 K_i_X9_isWord K_v_X9_isWord K_n_X9 K_c_X9_isWord hy_X9_isWord ⟨Nat.le_of_ble_eq_true rfl, Nat.le_of_ble_eq_true rfl⟩ hl.1 rfl (Nat.le_of_ble_eq_true rfl) dX9_ladderLine_118 ⟨Nat.zero_le _, Nat.zero_le _⟩) (fun r11 w14 H locs h hw => ?_)
      refine lv_if_eq (tgt := 143) hx hb dX9_ladderLine_121 (by decide) (fun c5 => ?_) (fun c5 => ?_)
      · have h := h.1 c5
        refine lv_aload_n hx hb dX9_ladderLine_143 rfl (lv_at hl 1 rfl) ?_
        refine g9_10 C hw (hF 15 (by decide)) K_f_X9_13 dX9_ladderLine_144 ?_
        refine lv_iconst (v := 0) hx hb dX9_ladderLine_147 (by decide) ?_
        refine lv_dup2_11 hx hb dX9_ladderLine_148 rfl rfl ?_
        refine r_iald C hw 17 140 (hF 17 (by decide)) rfl (vp_lit (by decide)) dX9_ladderLine_149 ?_
        refine lv_iconst (v := 1) hx hb dX9_ladderLine_150 (by decide) ?_
        refine lv_iadd hx hb dX9_ladderLine_151 ?_
        refine lv_topi (fun y5 ey5 => ?_)
        have h := h y5 ey5
        refine r_iast C hw 17 140 (hF 17 (by decide)) (fun _ => rfl) (vp_lit (by decide)) dX9_ladderLine_152 (fun H locs hw => ?_)
        rw [hQ]
        exact ret_v C hr hlk hw h dX9_ladderLine_153
      · have h := h.2 c5
        refine lv_aload_n hx hb dX9_ladderLine_124 rfl (lv_at hl 1 rfl) ?_
        refine done_v hw (my_runV (As := []) (rest := []) C hw 15 9 (hF 15 (by decide)) rfl rfl (mt_X9_goOn l C.2.2.2.2.2.2.2 hF _ h) K_m_X9_105 K_i_X9_goOn K_v_X9_goOn K_n_X9 K_c_X9_goOn hy_X9_goOn ⟨Nat.le_of_ble_eq_true rfl, Nat.le_of_ble_eq_true rfl⟩ hl.1 rfl (Nat.le_of_ble_eq_true rfl) dX9_ladderLine_125 ⟨Nat.zero_le _, Nat.zero_le _⟩) (fun w15 H locs h hw => ?_)
        refine lv_aload_n hx hb dX9_ladderLine_128 rfl (lv_at hl 1 rfl) ?_
        refine g9_10 C hw (hF 15 (by decide)) K_f_X9_13 dX9_ladderLine_129 ?_
        refine lv_iload_n hx hb dX9_ladderLine_132 rfl (lv_at hl 0 rfl) ?_
        refine lv_iconst (v := 4) hx hb dX9_ladderLine_133 (by decide) ?_
        refine lv_iadd hx hb dX9_ladderLine_134 ?_
        refine lv_aload_n hx hb dX9_ladderLine_135 rfl (lv_at hl 1 rfl) ?_
        refine lv_bipush (v := 12) hx hb dX9_ladderLine_136 (by decide) ?_
        refine lv_iconst (v := 4) hx hb dX9_ladderLine_138 (by decide) ?_
        refine done_i hw (my_runV (As := [.int 12, .int 4]) (rest := [.int (y4 + 4), .ref (eA E 17)]) C hw 15 9 (hF 15 (by decide)) rfl rfl (mt_X9_readSet l C.2.2.2.2.2.2.2 hF _ _ _ h) K_m_X9_125 K_i_X9_readSet K_v_X9_readSet K_n_X9 K_c_X9_readSet hy_X9_readSet ⟨Nat.le_of_ble_eq_true rfl, Nat.le_of_ble_eq_true rfl⟩ hl.1 rfl (Nat.le_of_ble_eq_true rfl) dX9_ladderLine_139 ⟨Nat.zero_le _, Nat.zero_le _⟩) (fun r12 w16 H locs h hw => ?_)
        obtain ⟨hi25, h⟩ := h
        refine r_iast C hw 17 140 (hF 17 (by decide)) (fun _ => rfl) hi25 dX9_ladderLine_142 (fun H locs hw => ?_)
        refine lv_aload_n hx hb dX9_ladderLine_143 rfl (lv_at hl 1 rfl) ?_
        refine g9_10 C hw (hF 15 (by decide)) K_f_X9_13 dX9_ladderLine_144 ?_
        refine lv_iconst (v := 0) hx hb dX9_ladderLine_147 (by decide) ?_
        refine lv_dup2_11 hx hb dX9_ladderLine_148 rfl rfl ?_
        refine r_iald C hw 17 140 (hF 17 (by decide)) rfl (vp_lit (by decide)) dX9_ladderLine_149 ?_
        refine lv_iconst (v := 1) hx hb dX9_ladderLine_150 (by decide) ?_
        refine lv_iadd hx hb dX9_ladderLine_151 ?_
        refine lv_topi (fun y6 ey6 => ?_)
        have h := h y6 ey6
        refine r_iast C hw 17 140 (hF 17 (by decide)) (fun _ => rfl) (vp_lit (by decide)) dX9_ladderLine_152 (fun H locs hw => ?_)
        rw [hQ]
        exact ret_v C hr hlk hw h dX9_ladderLine_153
    · have h := h.1 c4
      rw [hQ]
      exact ret_v C hr hlk hw h dX9_ladderLine_24
theorem hy_X9_statement : yX9_statement.cls ≠ "java/lang/invoke/MethodHandle" ∧ yX9_statement.cls ≠ "java/lang/invoke/VarHandle" ∧ (parseMethodDescriptor yX9_statement.desc).map (fun d => d.parameters.length) = some 0 := by decide +kernel
def wp_X9_statement (w : Wd) (Post : Wd → Prop) : Prop :=
  wp_X9_isWord 1 w (fun r1 w1 => (r1 = 0 → (wp_X9_isWord 3 w1 (fun r2 w2 => (r2 = 0 → (wp_X9_isWord 4 w2 (fun r3 w3 => (r3 = 0 → (wp_X9_isWord 5 w3 (fun r4 w4 => (r4 = 0 → (wp_X9_must w4 0 1 (fun r5 w5 => ((gI w5 15 6) = 3 → (wp_X9_must w5 1 1 (fun r7 w8 => (r7 = 0 → (Post w8)) ∧ (¬ r7 = 0 → (wp_X9_nextToken w8 (fun w9 => Post w9)))))) ∧ (¬ (gI w5 15 6) = 3 → (wp_X9_must w5 0 1 (fun r6 w6 => (r6 = 0 → (Post w6)) ∧ (¬ r6 = 0 → (wp_X9_nextToken w6 (fun w7 => Post w7))))))))) ∧ (¬ r4 = 0 → (wp_X9_firstLine w4 (fun w10 => ((gI w10 15 6) = 3 → (wp_X9_must w10 1 1 (fun r9 w13 => (r9 = 0 → (Post w13)) ∧ (¬ r9 = 0 → (wp_X9_nextToken w13 (fun w14 => Post w14)))))) ∧ (¬ (gI w10 15 6) = 3 → (wp_X9_must w10 0 1 (fun r8 w11 => (r8 = 0 → (Post w11)) ∧ (¬ r8 = 0 → (wp_X9_nextToken w11 (fun w12 => Post w12)))))))))))) ∧ (¬ r3 = 0 → (wp_X9_tokensLine w3 (fun w15 => ((gI w15 15 6) = 3 → (wp_X9_must w15 1 1 (fun r11 w18 => (r11 = 0 → (Post w18)) ∧ (¬ r11 = 0 → (wp_X9_nextToken w18 (fun w19 => Post w19)))))) ∧ (¬ (gI w15 15 6) = 3 → (wp_X9_must w15 0 1 (fun r10 w16 => (r10 = 0 → (Post w16)) ∧ (¬ r10 = 0 → (wp_X9_nextToken w16 (fun w17 => Post w17)))))))))))) ∧ (¬ r2 = 0 → (wp_X9_lockLine w2 (fun w20 => ((gI w20 15 6) = 3 → (wp_X9_must w20 1 1 (fun r13 w23 => (r13 = 0 → (Post w23)) ∧ (¬ r13 = 0 → (wp_X9_nextToken w23 (fun w24 => Post w24)))))) ∧ (¬ (gI w20 15 6) = 3 → (wp_X9_must w20 0 1 (fun r12 w21 => (r12 = 0 → (Post w21)) ∧ (¬ r12 = 0 → (wp_X9_nextToken w21 (fun w22 => Post w22)))))))))))) ∧ (¬ r1 = 0 → (wp_X9_ladderLine w1 (fun w25 => ((gI w25 15 6) = 3 → (wp_X9_must w25 1 1 (fun r15 w28 => (r15 = 0 → (Post w28)) ∧ (¬ r15 = 0 → (wp_X9_nextToken w28 (fun w29 => Post w29)))))) ∧ (¬ (gI w25 15 6) = 3 → (wp_X9_must w25 0 1 (fun r14 w26 => (r14 = 0 → (Post w26)) ∧ (¬ r14 = 0 → (wp_X9_nextToken w26 (fun w27 => Post w27))))))))))
set_option maxHeartbeats 4000000 in
set_option maxRecDepth 100000 in
theorem mt_X9_statement (l : Launch) {E : En} (hI : Inj E) (hF : ∀ o, (15 ≤ o ∧ o < 25) → o ∈ eL E) (w : Wd) {Post : Wd → Prop} (h : wp_X9_statement w Post) : MV l E yX9_statement cX9_statement 1 none 6 129 [.ref (eA E 15)] w Post := by
  refine MG.intro hI (by decide +kernel) (Nat.le_of_ble_eq_true rfl) ?_
  intro p e s m args below meth c Q C hr hlk hQ hw ls hl
  have hx := C.1
  have hb := C.2.1
  have hl : lv_has ls 1 [(0, .ref (eA E 15))] := hl
  unfold wp_X9_statement at h
  refine lv_aload_n hx hb dX9_statement_0 rfl (lv_at hl 0 rfl) ?_
  refine r_ldcS C 1 (by decide +kernel) dX9_statement_1 ?_
  refine done_i hw (my_runV (As := [.ref (eT E (1 + 1))]) (rest := []) C hw 15 9 (hF 15 (by decide)) rfl rfl (mt_X9_isWord l C.2.2.2.2.2.2.2 hF 1 (show 1 < 17 by decide) _ h) K_m_X9_133 K_i_X9_isWord K_v_X9_isWord K_n_X9 K_c_X9_isWord hy_X9_isWord ⟨Nat.le_of_ble_eq_true rfl, Nat.le_of_ble_eq_true rfl⟩ hl.1 rfl (Nat.le_of_ble_eq_true rfl) dX9_statement_3 ⟨Nat.zero_le _, Nat.zero_le _⟩) (fun r1 w1 H locs h hw => ?_)
  refine lv_if_eq (tgt := 16) hx hb dX9_statement_6 (by decide) (fun c1 => ?_) (fun c1 => ?_)
  · have h := h.1 c1
    refine lv_aload_n hx hb dX9_statement_16 rfl (lv_at hl 0 rfl) ?_
    refine r_ldcS C 3 (by decide +kernel) dX9_statement_17 ?_
    refine done_i hw (my_runV (As := [.ref (eT E (1 + 3))]) (rest := []) C hw 15 9 (hF 15 (by decide)) rfl rfl (mt_X9_isWord l C.2.2.2.2.2.2.2 hF 3 (show 3 < 17 by decide) _ h) K_m_X9_133 K_i_X9_isWord K_v_X9_isWord K_n_X9 K_c_X9_isWord hy_X9_isWord ⟨Nat.le_of_ble_eq_true rfl, Nat.le_of_ble_eq_true rfl⟩ hl.1 rfl (Nat.le_of_ble_eq_true rfl) dX9_statement_19 ⟨Nat.zero_le _, Nat.zero_le _⟩) (fun r2 w2 H locs h hw => ?_)
    refine lv_if_eq (tgt := 32) hx hb dX9_statement_22 (by decide) (fun c2 => ?_) (fun c2 => ?_)
    · have h := h.1 c2
      refine lv_aload_n hx hb dX9_statement_32 rfl (lv_at hl 0 rfl) ?_
      refine r_ldcS C 4 (by decide +kernel) dX9_statement_33 ?_
      refine done_i hw (my_runV (As := [.ref (eT E (1 + 4))]) (rest := []) C hw 15 9 (hF 15 (by decide)) rfl rfl (mt_X9_isWord l C.2.2.2.2.2.2.2 hF 4 (show 4 < 17 by decide) _ h) K_m_X9_133 K_i_X9_isWord K_v_X9_isWord K_n_X9 K_c_X9_isWord hy_X9_isWord ⟨Nat.le_of_ble_eq_true rfl, Nat.le_of_ble_eq_true rfl⟩ hl.1 rfl (Nat.le_of_ble_eq_true rfl) dX9_statement_35 ⟨Nat.zero_le _, Nat.zero_le _⟩) (fun r3 w3 H locs h hw => ?_)
      refine lv_if_eq (tgt := 48) hx hb dX9_statement_38 (by decide) (fun c3 => ?_) (fun c3 => ?_)
      · have h := h.1 c3
        refine lv_aload_n hx hb dX9_statement_48 rfl (lv_at hl 0 rfl) ?_
        refine r_ldcS C 5 (by decide +kernel) dX9_statement_49 ?_
        refine done_i hw (my_runV (As := [.ref (eT E (1 + 5))]) (rest := []) C hw 15 9 (hF 15 (by decide)) rfl rfl (mt_X9_isWord l C.2.2.2.2.2.2.2 hF 5 (show 5 < 17 by decide) _ h) K_m_X9_133 K_i_X9_isWord K_v_X9_isWord K_n_X9 K_c_X9_isWord hy_X9_isWord ⟨Nat.le_of_ble_eq_true rfl, Nat.le_of_ble_eq_true rfl⟩ hl.1 rfl (Nat.le_of_ble_eq_true rfl) dX9_statement_51 ⟨Nat.zero_le _, Nat.zero_le _⟩) (fun r4 w4 H locs h hw => ?_)
        refine lv_if_eq (tgt := 64) hx hb dX9_statement_54 (by decide) (fun c4 => ?_) (fun c4 => ?_)
        · have h := h.1 c4
          refine lv_aload_n hx hb dX9_statement_64 rfl (lv_at hl 0 rfl) ?_
          refine lv_iconst (v := 0) hx hb dX9_statement_65 (by decide) ?_
          refine lv_iconst (v := 1) hx hb dX9_statement_66 (by decide) ?_
          refine done_i hw (my_runV (As := [.int 0, .int 1]) (rest := []) C hw 15 9 (hF 15 (by decide)) rfl rfl (mt_X9_must l C.2.2.2.2.2.2.2 hF _ _ _ h) K_m_X9_94 K_i_X9_must K_v_X9_must K_n_X9 K_c_X9_must hy_X9_must ⟨Nat.le_of_ble_eq_true rfl, Nat.le_of_ble_eq_true rfl⟩ hl.1 rfl (Nat.le_of_ble_eq_true rfl) dX9_statement_67 ⟨Nat.zero_le _, Nat.zero_le _⟩) (fun r5 w5 H locs h hw => ?_)
          refine lv_pop hx hb dX9_statement_70 rfl ?_
          refine lv_aload_n hx hb dX9_statement_71 rfl (lv_at hl 0 rfl) ?_
          refine lv_aload_n hx hb dX9_statement_72 rfl (lv_at hl 0 rfl) ?_
          refine g9_6 C hw (hF 15 (by decide)) K_f_X9_69 dX9_statement_73 ?_
          refine lv_iconst (v := 3) hx hb dX9_statement_76 (by decide) ?_
          refine lv_icmp_ne (tgt := 84) hx hb dX9_statement_77 (by decide) (fun c5 => ?_) (fun c5 => ?_)
          · have h := h.2 c5
            refine lv_iconst (v := 0) hx hb dX9_statement_84 (by decide) ?_
            refine lv_iconst (v := 1) hx hb dX9_statement_85 (by decide) ?_
            refine done_i hw (my_runV (As := [.int 0, .int 1]) (rest := []) C hw 15 9 (hF 15 (by decide)) rfl rfl (mt_X9_must l C.2.2.2.2.2.2.2 hF _ _ _ h) K_m_X9_94 K_i_X9_must K_v_X9_must K_n_X9 K_c_X9_must hy_X9_must ⟨Nat.le_of_ble_eq_true rfl, Nat.le_of_ble_eq_true rfl⟩ hl.1 rfl (Nat.le_of_ble_eq_true rfl) dX9_statement_86 ⟨Nat.zero_le _, Nat.zero_le _⟩) (fun r6 w6 H locs h hw => ?_)
            refine lv_if_eq (tgt := 96) hx hb dX9_statement_89 (by decide) (fun c6 => ?_) (fun c6 => ?_)
            · have h := h.1 c6
              rw [hQ]
              exact ret_v C hr hlk hw h dX9_statement_96
            · have h := h.2 c6
              refine lv_aload_n hx hb dX9_statement_92 rfl (lv_at hl 0 rfl) ?_
              refine done_v hw (my_runV (As := []) (rest := []) C hw 15 9 (hF 15 (by decide)) rfl rfl (mt_X9_nextToken l C.2.2.2.2.2.2.2 hF _ h) K_m_X9_98 K_i_X9_nextToken K_v_X9_nextToken K_n_X9 K_c_X9_nextToken hy_X9_nextToken ⟨Nat.le_of_ble_eq_true rfl, Nat.le_of_ble_eq_true rfl⟩ hl.1 rfl (Nat.le_of_ble_eq_true rfl) dX9_statement_93 ⟨Nat.zero_le _, Nat.zero_le _⟩) (fun w7 H locs h hw => ?_)
              rw [hQ]
              exact ret_v C hr hlk hw h dX9_statement_96
          · have h := h.1 c5
            refine lv_iconst (v := 1) hx hb dX9_statement_80 (by decide) ?_
            refine lv_goto (tgt := 85) hx hb dX9_statement_81 (by decide) ?_
            refine lv_iconst (v := 1) hx hb dX9_statement_85 (by decide) ?_
            refine done_i hw (my_runV (As := [.int 1, .int 1]) (rest := []) C hw 15 9 (hF 15 (by decide)) rfl rfl (mt_X9_must l C.2.2.2.2.2.2.2 hF _ _ _ h) K_m_X9_94 K_i_X9_must K_v_X9_must K_n_X9 K_c_X9_must hy_X9_must ⟨Nat.le_of_ble_eq_true rfl, Nat.le_of_ble_eq_true rfl⟩ hl.1 rfl (Nat.le_of_ble_eq_true rfl) dX9_statement_86 ⟨Nat.zero_le _, Nat.zero_le _⟩) (fun r7 w8 H locs h hw => ?_)
            refine lv_if_eq (tgt := 96) hx hb dX9_statement_89 (by decide) (fun c7 => ?_) (fun c7 => ?_)
            · have h := h.1 c7
              rw [hQ]
              exact ret_v C hr hlk hw h dX9_statement_96
            · have h := h.2 c7
              refine lv_aload_n hx hb dX9_statement_92 rfl (lv_at hl 0 rfl) ?_
              refine done_v hw (my_runV (As := []) (rest := []) C hw 15 9 (hF 15 (by decide)) rfl rfl (mt_X9_nextToken l C.2.2.2.2.2.2.2 hF _ h) K_m_X9_98 K_i_X9_nextToken K_v_X9_nextToken K_n_X9 K_c_X9_nextToken hy_X9_nextToken ⟨Nat.le_of_ble_eq_true rfl, Nat.le_of_ble_eq_true rfl⟩ hl.1 rfl (Nat.le_of_ble_eq_true rfl) dX9_statement_93 ⟨Nat.zero_le _, Nat.zero_le _⟩) (fun w9 H locs h hw => ?_)
              rw [hQ]
              exact ret_v C hr hlk hw h dX9_statement_96
        · have h := h.2 c4
          refine lv_aload_n hx hb dX9_statement_57 rfl (lv_at hl 0 rfl) ?_
          refine done_v hw (my_runV (As := []) (rest := []) C hw 15 9 (hF 15 (by decide)) rfl rfl (mt_X9_firstLine l C.2.2.2.2.2.2.2 hF _ h) K_m_X9_154 K_i_X9_firstLine K_v_X9_firstLine K_n_X9 K_c_X9_firstLine hy_X9_firstLine ⟨Nat.le_of_ble_eq_true rfl, Nat.le_of_ble_eq_true rfl⟩ hl.1 rfl (Nat.le_of_ble_eq_true rfl) dX9_statement_58 ⟨Nat.zero_le _, Nat.zero_le _⟩) (fun w10 H locs h hw => ?_)
          refine lv_goto (tgt := 71) hx hb dX9_statement_61 (by decide) ?_
          refine lv_aload_n hx hb dX9_statement_71 rfl (lv_at hl 0 rfl) ?_
          refine lv_aload_n hx hb dX9_statement_72 rfl (lv_at hl 0 rfl) ?_
          refine g9_6 C hw (hF 15 (by decide)) K_f_X9_69 dX9_statement_73 ?_
          refine lv_iconst (v := 3) hx hb dX9_statement_76 (by decide) ?_
          refine lv_icmp_ne (tgt := 84) hx hb dX9_statement_77 (by decide) (fun c8 => ?_) (fun c8 => ?_)
          · have h := h.2 c8
            refine lv_iconst (v := 0) hx hb dX9_statement_84 (by decide) ?_
            refine lv_iconst (v := 1) hx hb dX9_statement_85 (by decide) ?_
            refine done_i hw (my_runV (As := [.int 0, .int 1]) (rest := []) C hw 15 9 (hF 15 (by decide)) rfl rfl (mt_X9_must l C.2.2.2.2.2.2.2 hF _ _ _ h) K_m_X9_94 K_i_X9_must K_v_X9_must K_n_X9 K_c_X9_must hy_X9_must ⟨Nat.le_of_ble_eq_true rfl, Nat.le_of_ble_eq_true rfl⟩ hl.1 rfl (Nat.le_of_ble_eq_true rfl) dX9_statement_86 ⟨Nat.zero_le _, Nat.zero_le _⟩) (fun r8 w11 H locs h hw => ?_)
            refine lv_if_eq (tgt := 96) hx hb dX9_statement_89 (by decide) (fun c9 => ?_) (fun c9 => ?_)
            · have h := h.1 c9
              rw [hQ]
              exact ret_v C hr hlk hw h dX9_statement_96
            · have h := h.2 c9
              refine lv_aload_n hx hb dX9_statement_92 rfl (lv_at hl 0 rfl) ?_
              refine done_v hw (my_runV (As := []) (rest := []) C hw 15 9 (hF 15 (by decide)) rfl rfl (mt_X9_nextToken l C.2.2.2.2.2.2.2 hF _ h) K_m_X9_98 K_i_X9_nextToken K_v_X9_nextToken K_n_X9 K_c_X9_nextToken hy_X9_nextToken ⟨Nat.le_of_ble_eq_true rfl, Nat.le_of_ble_eq_true rfl⟩ hl.1 rfl (Nat.le_of_ble_eq_true rfl) dX9_statement_93 ⟨Nat.zero_le _, Nat.zero_le _⟩) (fun w12 H locs h hw => ?_)
              rw [hQ]
              exact ret_v C hr hlk hw h dX9_statement_96
          · have h := h.1 c8
            refine lv_iconst (v := 1) hx hb dX9_statement_80 (by decide) ?_
            refine lv_goto (tgt := 85) hx hb dX9_statement_81 (by decide) ?_
            refine lv_iconst (v := 1) hx hb dX9_statement_85 (by decide) ?_
            refine done_i hw (my_runV (As := [.int 1, .int 1]) (rest := []) C hw 15 9 (hF 15 (by decide)) rfl rfl (mt_X9_must l C.2.2.2.2.2.2.2 hF _ _ _ h) K_m_X9_94 K_i_X9_must K_v_X9_must K_n_X9 K_c_X9_must hy_X9_must ⟨Nat.le_of_ble_eq_true rfl, Nat.le_of_ble_eq_true rfl⟩ hl.1 rfl (Nat.le_of_ble_eq_true rfl) dX9_statement_86 ⟨Nat.zero_le _, Nat.zero_le _⟩) (fun r9 w13 H locs h hw => ?_)
            refine lv_if_eq (tgt := 96) hx hb dX9_statement_89 (by decide) (fun c10 => ?_) (fun c10 => ?_)
            · have h := h.1 c10
              rw [hQ]
              exact ret_v C hr hlk hw h dX9_statement_96
            · have h := h.2 c10
              refine lv_aload_n hx hb dX9_statement_92 rfl (lv_at hl 0 rfl) ?_
              refine done_v hw (my_runV (As := []) (rest := []) C hw 15 9 (hF 15 (by decide)) rfl rfl (mt_X9_nextToken l C.2.2.2.2.2.2.2 hF _ h) K_m_X9_98 K_i_X9_nextToken K_v_X9_nextToken K_n_X9 K_c_X9_nextToken hy_X9_nextToken ⟨Nat.le_of_ble_eq_true rfl, Nat.le_of_ble_eq_true rfl⟩ hl.1 rfl (Nat.le_of_ble_eq_true rfl) dX9_statement_93 ⟨Nat.zero_le _, Nat.zero_le _⟩) (fun w14 H locs h hw => ?_)
              rw [hQ]
              exact ret_v C hr hlk hw h dX9_statement_96
      · have h := h.2 c3
        refine lv_aload_n hx hb dX9_statement_41 rfl (lv_at hl 0 rfl) ?_
        refine done_v hw (my_runV (As := []) (rest := []) C hw 15 9 (hF 15 (by decide)) rfl rfl (mt_X9_tokensLine l C.2.2.2.2.2.2.2 hF _ h) K_m_X9_149 K_i_X9_tokensLine K_v_X9_tokensLine K_n_X9 K_c_X9_tokensLine hy_X9_tokensLine ⟨Nat.le_of_ble_eq_true rfl, Nat.le_of_ble_eq_true rfl⟩ hl.1 rfl (Nat.le_of_ble_eq_true rfl) dX9_statement_42 ⟨Nat.zero_le _, Nat.zero_le _⟩) (fun w15 H locs h hw => ?_)
        refine lv_goto (tgt := 71) hx hb dX9_statement_45 (by decide) ?_
        refine lv_aload_n hx hb dX9_statement_71 rfl (lv_at hl 0 rfl) ?_
        refine lv_aload_n hx hb dX9_statement_72 rfl (lv_at hl 0 rfl) ?_
        refine g9_6 C hw (hF 15 (by decide)) K_f_X9_69 dX9_statement_73 ?_
        refine lv_iconst (v := 3) hx hb dX9_statement_76 (by decide) ?_
        refine lv_icmp_ne (tgt := 84) hx hb dX9_statement_77 (by decide) (fun c11 => ?_) (fun c11 => ?_)
        · have h := h.2 c11
          refine lv_iconst (v := 0) hx hb dX9_statement_84 (by decide) ?_
          refine lv_iconst (v := 1) hx hb dX9_statement_85 (by decide) ?_
          refine done_i hw (my_runV (As := [.int 0, .int 1]) (rest := []) C hw 15 9 (hF 15 (by decide)) rfl rfl (mt_X9_must l C.2.2.2.2.2.2.2 hF _ _ _ h) K_m_X9_94 K_i_X9_must K_v_X9_must K_n_X9 K_c_X9_must hy_X9_must ⟨Nat.le_of_ble_eq_true rfl, Nat.le_of_ble_eq_true rfl⟩ hl.1 rfl (Nat.le_of_ble_eq_true rfl) dX9_statement_86 ⟨Nat.zero_le _, Nat.zero_le _⟩) (fun r10 w16 H locs h hw => ?_)
          refine lv_if_eq (tgt := 96) hx hb dX9_statement_89 (by decide) (fun c12 => ?_) (fun c12 => ?_)
          · have h := h.1 c12
            rw [hQ]
            exact ret_v C hr hlk hw h dX9_statement_96
          · have h := h.2 c12
            refine lv_aload_n hx hb dX9_statement_92 rfl (lv_at hl 0 rfl) ?_
            refine done_v hw (my_runV (As := []) (rest := []) C hw 15 9 (hF 15 (by decide)) rfl rfl (mt_X9_nextToken l C.2.2.2.2.2.2.2 hF _ h) K_m_X9_98 K_i_X9_nextToken K_v_X9_nextToken K_n_X9 K_c_X9_nextToken hy_X9_nextToken ⟨Nat.le_of_ble_eq_true rfl, Nat.le_of_ble_eq_true rfl⟩ hl.1 rfl (Nat.le_of_ble_eq_true rfl) dX9_statement_93 ⟨Nat.zero_le _, Nat.zero_le _⟩) (fun w17 H locs h hw => ?_)
            rw [hQ]
            exact ret_v C hr hlk hw h dX9_statement_96
        · have h := h.1 c11
          refine lv_iconst (v := 1) hx hb dX9_statement_80 (by decide) ?_
          refine lv_goto (tgt := 85) hx hb dX9_statement_81 (by decide) ?_
          refine lv_iconst (v := 1) hx hb dX9_statement_85 (by decide) ?_
          refine done_i hw (my_runV (As := [.int 1, .int 1]) (rest := []) C hw 15 9 (hF 15 (by decide)) rfl rfl (mt_X9_must l C.2.2.2.2.2.2.2 hF _ _ _ h) K_m_X9_94 K_i_X9_must K_v_X9_must K_n_X9 K_c_X9_must hy_X9_must ⟨Nat.le_of_ble_eq_true rfl, Nat.le_of_ble_eq_true rfl⟩ hl.1 rfl (Nat.le_of_ble_eq_true rfl) dX9_statement_86 ⟨Nat.zero_le _, Nat.zero_le _⟩) (fun r11 w18 H locs h hw => ?_)
          refine lv_if_eq (tgt := 96) hx hb dX9_statement_89 (by decide) (fun c13 => ?_) (fun c13 => ?_)
          · have h := h.1 c13
            rw [hQ]
            exact ret_v C hr hlk hw h dX9_statement_96
          · have h := h.2 c13
            refine lv_aload_n hx hb dX9_statement_92 rfl (lv_at hl 0 rfl) ?_
            refine done_v hw (my_runV (As := []) (rest := []) C hw 15 9 (hF 15 (by decide)) rfl rfl (mt_X9_nextToken l C.2.2.2.2.2.2.2 hF _ h) K_m_X9_98 K_i_X9_nextToken K_v_X9_nextToken K_n_X9 K_c_X9_nextToken hy_X9_nextToken ⟨Nat.le_of_ble_eq_true rfl, Nat.le_of_ble_eq_true rfl⟩ hl.1 rfl (Nat.le_of_ble_eq_true rfl) dX9_statement_93 ⟨Nat.zero_le _, Nat.zero_le _⟩) (fun w19 H locs h hw => ?_)
            rw [hQ]
            exact ret_v C hr hlk hw h dX9_statement_96
    · have h := h.2 c2
      refine lv_aload_n hx hb dX9_statement_25 rfl (lv_at hl 0 rfl) ?_
      refine done_v hw (my_runV (As := []) (rest := []) C hw 15 9 (hF 15 (by decide)) rfl rfl (mt_X9_lockLine l C.2.2.2.2.2.2.2 hF _ h) K_m_X9_144 K_i_X9_lockLine K_v_X9_lockLine K_n_X9 K_c_X9_lockLine hy_X9_lockLine ⟨Nat.le_of_ble_eq_true rfl, Nat.le_of_ble_eq_true rfl⟩ hl.1 rfl (Nat.le_of_ble_eq_true rfl) dX9_statement_26 ⟨Nat.zero_le _, Nat.zero_le _⟩) (fun w20 H locs h hw => ?_)
      refine lv_goto (tgt := 71) hx hb dX9_statement_29 (by decide) ?_
      refine lv_aload_n hx hb dX9_statement_71 rfl (lv_at hl 0 rfl) ?_
      refine lv_aload_n hx hb dX9_statement_72 rfl (lv_at hl 0 rfl) ?_
      refine g9_6 C hw (hF 15 (by decide)) K_f_X9_69 dX9_statement_73 ?_
      refine lv_iconst (v := 3) hx hb dX9_statement_76 (by decide) ?_
      refine lv_icmp_ne (tgt := 84) hx hb dX9_statement_77 (by decide) (fun c14 => ?_) (fun c14 => ?_)
      · have h := h.2 c14
        refine lv_iconst (v := 0) hx hb dX9_statement_84 (by decide) ?_
        refine lv_iconst (v := 1) hx hb dX9_statement_85 (by decide) ?_
        refine done_i hw (my_runV (As := [.int 0, .int 1]) (rest := []) C hw 15 9 (hF 15 (by decide)) rfl rfl (mt_X9_must l C.2.2.2.2.2.2.2 hF _ _ _ h) K_m_X9_94 K_i_X9_must K_v_X9_must K_n_X9 K_c_X9_must hy_X9_must ⟨Nat.le_of_ble_eq_true rfl, Nat.le_of_ble_eq_true rfl⟩ hl.1 rfl (Nat.le_of_ble_eq_true rfl) dX9_statement_86 ⟨Nat.zero_le _, Nat.zero_le _⟩) (fun r12 w21 H locs h hw => ?_)
        refine lv_if_eq (tgt := 96) hx hb dX9_statement_89 (by decide) (fun c15 => ?_) (fun c15 => ?_)
        · have h := h.1 c15
          rw [hQ]
          exact ret_v C hr hlk hw h dX9_statement_96
        · have h := h.2 c15
          refine lv_aload_n hx hb dX9_statement_92 rfl (lv_at hl 0 rfl) ?_
          refine done_v hw (my_runV (As := []) (rest := []) C hw 15 9 (hF 15 (by decide)) rfl rfl (mt_X9_nextToken l C.2.2.2.2.2.2.2 hF _ h) K_m_X9_98 K_i_X9_nextToken K_v_X9_nextToken K_n_X9 K_c_X9_nextToken hy_X9_nextToken ⟨Nat.le_of_ble_eq_true rfl, Nat.le_of_ble_eq_true rfl⟩ hl.1 rfl (Nat.le_of_ble_eq_true rfl) dX9_statement_93 ⟨Nat.zero_le _, Nat.zero_le _⟩) (fun w22 H locs h hw => ?_)
          rw [hQ]
          exact ret_v C hr hlk hw h dX9_statement_96
      · have h := h.1 c14
        refine lv_iconst (v := 1) hx hb dX9_statement_80 (by decide) ?_
        refine lv_goto (tgt := 85) hx hb dX9_statement_81 (by decide) ?_
        refine lv_iconst (v := 1) hx hb dX9_statement_85 (by decide) ?_
        refine done_i hw (my_runV (As := [.int 1, .int 1]) (rest := []) C hw 15 9 (hF 15 (by decide)) rfl rfl (mt_X9_must l C.2.2.2.2.2.2.2 hF _ _ _ h) K_m_X9_94 K_i_X9_must K_v_X9_must K_n_X9 K_c_X9_must hy_X9_must ⟨Nat.le_of_ble_eq_true rfl, Nat.le_of_ble_eq_true rfl⟩ hl.1 rfl (Nat.le_of_ble_eq_true rfl) dX9_statement_86 ⟨Nat.zero_le _, Nat.zero_le _⟩) (fun r13 w23 H locs h hw => ?_)
        refine lv_if_eq (tgt := 96) hx hb dX9_statement_89 (by decide) (fun c16 => ?_) (fun c16 => ?_)
        · have h := h.1 c16
          rw [hQ]
          exact ret_v C hr hlk hw h dX9_statement_96
        · have h := h.2 c16
          refine lv_aload_n hx hb dX9_statement_92 rfl (lv_at hl 0 rfl) ?_
          refine done_v hw (my_runV (As := []) (rest := []) C hw 15 9 (hF 15 (by decide)) rfl rfl (mt_X9_nextToken l C.2.2.2.2.2.2.2 hF _ h) K_m_X9_98 K_i_X9_nextToken K_v_X9_nextToken K_n_X9 K_c_X9_nextToken hy_X9_nextToken ⟨Nat.le_of_ble_eq_true rfl, Nat.le_of_ble_eq_true rfl⟩ hl.1 rfl (Nat.le_of_ble_eq_true rfl) dX9_statement_93 ⟨Nat.zero_le _, Nat.zero_le _⟩) (fun w24 H locs h hw => ?_)
          rw [hQ]
          exact ret_v C hr hlk hw h dX9_statement_96
  · have h := h.2 c1
    refine lv_aload_n hx hb dX9_statement_9 rfl (lv_at hl 0 rfl) ?_
    refine done_v hw (my_runV (As := []) (rest := []) C hw 15 9 (hF 15 (by decide)) rfl rfl (mt_X9_ladderLine l C.2.2.2.2.2.2.2 hF _ h) K_m_X9_139 K_i_X9_ladderLine K_v_X9_ladderLine K_n_X9 K_c_X9_ladderLine hy_X9_ladderLine ⟨Nat.le_of_ble_eq_true rfl, Nat.le_of_ble_eq_true rfl⟩ hl.1 rfl (Nat.le_of_ble_eq_true rfl) dX9_statement_10 ⟨Nat.zero_le _, Nat.zero_le _⟩) (fun w25 H locs h hw => ?_)
    refine lv_goto (tgt := 71) hx hb dX9_statement_13 (by decide) ?_
    refine lv_aload_n hx hb dX9_statement_71 rfl (lv_at hl 0 rfl) ?_
    refine lv_aload_n hx hb dX9_statement_72 rfl (lv_at hl 0 rfl) ?_
    refine g9_6 C hw (hF 15 (by decide)) K_f_X9_69 dX9_statement_73 ?_
    refine lv_iconst (v := 3) hx hb dX9_statement_76 (by decide) ?_
    refine lv_icmp_ne (tgt := 84) hx hb dX9_statement_77 (by decide) (fun c17 => ?_) (fun c17 => ?_)
    · have h := h.2 c17
      refine lv_iconst (v := 0) hx hb dX9_statement_84 (by decide) ?_
      refine lv_iconst (v := 1) hx hb dX9_statement_85 (by decide) ?_
      refine done_i hw (my_runV (As := [.int 0, .int 1]) (rest := []) C hw 15 9 (hF 15 (by decide)) rfl rfl (mt_X9_must l C.2.2.2.2.2.2.2 hF _ _ _ h) K_m_X9_94 K_i_X9_must K_v_X9_must K_n_X9 K_c_X9_must hy_X9_must ⟨Nat.le_of_ble_eq_true rfl, Nat.le_of_ble_eq_true rfl⟩ hl.1 rfl (Nat.le_of_ble_eq_true rfl) dX9_statement_86 ⟨Nat.zero_le _, Nat.zero_le _⟩) (fun r14 w26 H locs h hw => ?_)
      refine lv_if_eq (tgt := 96) hx hb dX9_statement_89 (by decide) (fun c18 => ?_) (fun c18 => ?_)
      · have h := h.1 c18
        rw [hQ]
        exact ret_v C hr hlk hw h dX9_statement_96
      · have h := h.2 c18
        refine lv_aload_n hx hb dX9_statement_92 rfl (lv_at hl 0 rfl) ?_
        refine done_v hw (my_runV (As := []) (rest := []) C hw 15 9 (hF 15 (by decide)) rfl rfl (mt_X9_nextToken l C.2.2.2.2.2.2.2 hF _ h) K_m_X9_98 K_i_X9_nextToken K_v_X9_nextToken K_n_X9 K_c_X9_nextToken hy_X9_nextToken ⟨Nat.le_of_ble_eq_true rfl, Nat.le_of_ble_eq_true rfl⟩ hl.1 rfl (Nat.le_of_ble_eq_true rfl) dX9_statement_93 ⟨Nat.zero_le _, Nat.zero_le _⟩) (fun w27 H locs h hw => ?_)
        rw [hQ]
        exact ret_v C hr hlk hw h dX9_statement_96
    · have h := h.1 c17
      refine lv_iconst (v := 1) hx hb dX9_statement_80 (by decide) ?_
      refine lv_goto (tgt := 85) hx hb dX9_statement_81 (by decide) ?_
      refine lv_iconst (v := 1) hx hb dX9_statement_85 (by decide) ?_
      refine done_i hw (my_runV (As := [.int 1, .int 1]) (rest := []) C hw 15 9 (hF 15 (by decide)) rfl rfl (mt_X9_must l C.2.2.2.2.2.2.2 hF _ _ _ h) K_m_X9_94 K_i_X9_must K_v_X9_must K_n_X9 K_c_X9_must hy_X9_must ⟨Nat.le_of_ble_eq_true rfl, Nat.le_of_ble_eq_true rfl⟩ hl.1 rfl (Nat.le_of_ble_eq_true rfl) dX9_statement_86 ⟨Nat.zero_le _, Nat.zero_le _⟩) (fun r15 w28 H locs h hw => ?_)
      refine lv_if_eq (tgt := 96) hx hb dX9_statement_89 (by decide) (fun c19 => ?_) (fun c19 => ?_)
      · have h := h.1 c19
        rw [hQ]
        exact ret_v C hr hlk hw h dX9_statement_96
      · have h := h.2 c19
        refine lv_aload_n hx hb dX9_statement_92 rfl (lv_at hl 0 rfl) ?_
        refine done_v hw (my_runV (As := []) (rest := []) C hw 15 9 (hF 15 (by decide)) rfl rfl (mt_X9_nextToken l C.2.2.2.2.2.2.2 hF _ h) K_m_X9_98 K_i_X9_nextToken K_v_X9_nextToken K_n_X9 K_c_X9_nextToken hy_X9_nextToken ⟨Nat.le_of_ble_eq_true rfl, Nat.le_of_ble_eq_true rfl⟩ hl.1 rfl (Nat.le_of_ble_eq_true rfl) dX9_statement_93 ⟨Nat.zero_le _, Nat.zero_le _⟩) (fun w29 H locs h hw => ?_)
        rw [hQ]
        exact ret_v C hr hlk hw h dX9_statement_96
theorem hy_X9_parse : yX9_parse.cls ≠ "java/lang/invoke/MethodHandle" ∧ yX9_parse.cls ≠ "java/lang/invoke/VarHandle" ∧ (parseMethodDescriptor yX9_parse.desc).map (fun d => d.parameters.length) = some 1 := by decide +kernel
def wp_X9_parse (w : Wd) (p1 : Int32) (Post : Int32 → Wd → Prop) : Prop :=
  ∀ J51 : Wd → Prop, (∀ (w : Wd), (((gI w 15 8) = 0 → (((gI w 15 6) = 0 → (((gI w 15 8) = 0 → (wp_X9_takeDraft w (fun w7 => wp_X9_ladders w7 (fun r4 w8 => Post r4 w8)))) ∧ (¬ (gI w 15 8) = 0 → (Post (((-2)) - ((8 * (gI w 15 9)) + (gI w 15 8))) w)))) ∧ (¬ (gI w 15 6) = 0 → (wp_X9_statement w (fun w9 => J51 w9))))) ∧ (¬ (gI w 15 8) = 0 → (((gI w 15 8) = 0 → (wp_X9_takeDraft w (fun w5 => wp_X9_ladders w5 (fun r3 w6 => Post r3 w6)))) ∧ (¬ (gI w 15 8) = 0 → (Post (((-2)) - ((8 * (gI w 15 9)) + (gI w 15 8))) w))))) → J51 w) →
  wp_X9_within (sI w 15 0 0) p1 0 (gI (sI w 15 0 0) 15 2) (fun r1 w1 => (r1 = 0 → (wp_X9_fail w1 1 (fun r2 w4 => Post r2 w4))) ∧ (¬ r1 = 0 → (wp_X9_setDefaults (sI (sI (sI (sI w1 15 3 p1) 15 2 0) 15 5 0) 15 8 0) (fun w2 => wp_X9_nextToken w2 (fun w3 => J51 w3)))))
set_option maxHeartbeats 4000000 in
set_option maxRecDepth 100000 in
theorem mt_X9_parse (l : Launch) {E : En} (hI : Inj E) (hF : ∀ o, (15 ≤ o ∧ o < 25) → o ∈ eL E) (w : Wd) (p1 : Int32) {Post : Int32 → Wd → Prop} (h : wp_X9_parse w p1 Post) : MI l E yX9_parse cX9_parse 2 (some .int) 7 149 [.ref (eA E 15), .int p1] w Post := by
  refine MG.intro hI (by decide +kernel) (Nat.le_of_ble_eq_true rfl) ?_
  intro p e s m args below meth c Q C hr hlk hQ hw ls hl
  have hx := C.1
  have hb := C.2.1
  have hl : lv_has ls 2 [(0, .ref (eA E 15)), (1, .int p1)] := hl
  unfold wp_X9_parse at h
  have h := h (fun w => Jp E p l e (Rm 7 149) s m args below meth c Q 2 51 [(0, .ref (eA E 15))] w)
  have h := h ?_
  rotate_left
  · intro w h H locs hw ls hl
    refine lv_aload_n hx hb dX9_parse_51 rfl (lv_at hl 0 rfl) ?_
    refine g9_8 C hw (hF 15 (by decide)) K_f_X9_79 dX9_parse_52 ?_
    refine lv_if_ne (tgt := 72) hx hb dX9_parse_55 (by decide) (fun c2 => ?_) (fun c2 => ?_)
    · have h := h.2 c2
      refine lv_aload_n hx hb dX9_parse_72 rfl (lv_at hl 0 rfl) ?_
      refine g9_8 C hw (hF 15 (by decide)) K_f_X9_79 dX9_parse_73 ?_
      refine lv_if_eq (tgt := 95) hx hb dX9_parse_76 (by decide) (fun c3 => ?_) (fun c3 => ?_)
      · have h := h.1 c3
        refine lv_aload_n hx hb dX9_parse_95 rfl (lv_at hl 0 rfl) ?_
        refine done_v hw (my_runV (As := []) (rest := []) C hw 15 9 (hF 15 (by decide)) rfl rfl (mt_X9_takeDraft l C.2.2.2.2.2.2.2 hF _ h) K_m_X9_42 K_i_X9_takeDraft K_v_X9_takeDraft K_n_X9 K_c_X9_takeDraft hy_X9_takeDraft ⟨Nat.le_of_ble_eq_true rfl, Nat.le_of_ble_eq_true rfl⟩ hl.1 rfl (Nat.le_of_ble_eq_true rfl) dX9_parse_96 ⟨Nat.zero_le _, Nat.zero_le _⟩) (fun w5 H locs h hw => ?_)
        refine lv_aload_n hx hb dX9_parse_99 rfl (lv_at hl 0 rfl) ?_
        refine done_i hw (my_runV (As := []) (rest := []) C hw 15 9 (hF 15 (by decide)) rfl rfl (mt_X9_ladders l C.2.2.2.2.2.2.2 hF _ h) K_m_X9_163 K_i_X9_ladders K_v_X9_ladders K_n_X9 K_c_X9_ladders hy_X9_ladders ⟨Nat.le_of_ble_eq_true rfl, Nat.le_of_ble_eq_true rfl⟩ hl.1 rfl (Nat.le_of_ble_eq_true rfl) dX9_parse_100 ⟨Nat.zero_le _, Nat.zero_le _⟩) (fun r3 w6 H locs h hw => ?_)
        rw [hQ]
        exact ret_i C hr hlk hw h dX9_parse_103
      · have h := h.2 c3
        refine lv_bipush (v := (-2)) hx hb dX9_parse_79 (by decide) ?_
        refine lv_bipush (v := 8) hx hb dX9_parse_81 (by decide) ?_
        refine lv_aload_n hx hb dX9_parse_83 rfl (lv_at hl 0 rfl) ?_
        refine g9_9 C hw (hF 15 (by decide)) K_f_X9_82 dX9_parse_84 ?_
        refine lv_imul hx hb dX9_parse_87 ?_
        refine lv_aload_n hx hb dX9_parse_88 rfl (lv_at hl 0 rfl) ?_
        refine g9_8 C hw (hF 15 (by decide)) K_f_X9_79 dX9_parse_89 ?_
        refine lv_iadd hx hb dX9_parse_92 ?_
        refine lv_isub hx hb dX9_parse_93 ?_
        rw [hQ]
        exact ret_i C hr hlk hw h dX9_parse_94
    · have h := h.1 c2
      refine lv_aload_n hx hb dX9_parse_58 rfl (lv_at hl 0 rfl) ?_
      refine g9_6 C hw (hF 15 (by decide)) K_f_X9_69 dX9_parse_59 ?_
      refine lv_if_eq (tgt := 72) hx hb dX9_parse_62 (by decide) (fun c4 => ?_) (fun c4 => ?_)
      · have h := h.1 c4
        refine lv_aload_n hx hb dX9_parse_72 rfl (lv_at hl 0 rfl) ?_
        refine g9_8 C hw (hF 15 (by decide)) K_f_X9_79 dX9_parse_73 ?_
        refine lv_if_eq (tgt := 95) hx hb dX9_parse_76 (by decide) (fun c5 => ?_) (fun c5 => ?_)
        · have h := h.1 c5
          refine lv_aload_n hx hb dX9_parse_95 rfl (lv_at hl 0 rfl) ?_
          refine done_v hw (my_runV (As := []) (rest := []) C hw 15 9 (hF 15 (by decide)) rfl rfl (mt_X9_takeDraft l C.2.2.2.2.2.2.2 hF _ h) K_m_X9_42 K_i_X9_takeDraft K_v_X9_takeDraft K_n_X9 K_c_X9_takeDraft hy_X9_takeDraft ⟨Nat.le_of_ble_eq_true rfl, Nat.le_of_ble_eq_true rfl⟩ hl.1 rfl (Nat.le_of_ble_eq_true rfl) dX9_parse_96 ⟨Nat.zero_le _, Nat.zero_le _⟩) (fun w7 H locs h hw => ?_)
          refine lv_aload_n hx hb dX9_parse_99 rfl (lv_at hl 0 rfl) ?_
          refine done_i hw (my_runV (As := []) (rest := []) C hw 15 9 (hF 15 (by decide)) rfl rfl (mt_X9_ladders l C.2.2.2.2.2.2.2 hF _ h) K_m_X9_163 K_i_X9_ladders K_v_X9_ladders K_n_X9 K_c_X9_ladders hy_X9_ladders ⟨Nat.le_of_ble_eq_true rfl, Nat.le_of_ble_eq_true rfl⟩ hl.1 rfl (Nat.le_of_ble_eq_true rfl) dX9_parse_100 ⟨Nat.zero_le _, Nat.zero_le _⟩) (fun r4 w8 H locs h hw => ?_)
          rw [hQ]
          exact ret_i C hr hlk hw h dX9_parse_103
        · have h := h.2 c5
          refine lv_bipush (v := (-2)) hx hb dX9_parse_79 (by decide) ?_
          refine lv_bipush (v := 8) hx hb dX9_parse_81 (by decide) ?_
          refine lv_aload_n hx hb dX9_parse_83 rfl (lv_at hl 0 rfl) ?_
          refine g9_9 C hw (hF 15 (by decide)) K_f_X9_82 dX9_parse_84 ?_
          refine lv_imul hx hb dX9_parse_87 ?_
          refine lv_aload_n hx hb dX9_parse_88 rfl (lv_at hl 0 rfl) ?_
          refine g9_8 C hw (hF 15 (by decide)) K_f_X9_79 dX9_parse_89 ?_
          refine lv_iadd hx hb dX9_parse_92 ?_
          refine lv_isub hx hb dX9_parse_93 ?_
          rw [hQ]
          exact ret_i C hr hlk hw h dX9_parse_94
      · have h := h.2 c4
        refine lv_aload_n hx hb dX9_parse_65 rfl (lv_at hl 0 rfl) ?_
        refine done_v hw (my_runV (As := []) (rest := []) C hw 15 9 (hF 15 (by decide)) rfl rfl (mt_X9_statement l C.2.2.2.2.2.2.2 hF _ h) K_m_X9_160 K_i_X9_statement K_v_X9_statement K_n_X9 K_c_X9_statement hy_X9_statement ⟨Nat.le_of_ble_eq_true rfl, Nat.le_of_ble_eq_true rfl⟩ hl.1 rfl (Nat.le_of_ble_eq_true rfl) dX9_parse_66 ⟨Nat.zero_le _, Nat.zero_le _⟩) (fun w9 H locs h hw => ?_)
        refine lv_goto (tgt := 51) hx hb dX9_parse_69 (by decide) ?_
        exact h _ _ hw _ (lv_sub hl [0] rfl)
  refine lv_aload_n hx hb dX9_parse_0 rfl (lv_at hl 0 rfl) ?_
  refine lv_iconst (v := 0) hx hb dX9_parse_1 (by decide) ?_
  refine p9_0 C hw (hF 15 (by decide)) K_f_X9_45 dX9_parse_2 (fun H locs hw => ?_)
  refine lv_iload_n hx hb dX9_parse_5 rfl (lv_at hl 1 rfl) ?_
  refine lv_iconst (v := 0) hx hb dX9_parse_6 (by decide) ?_
  refine lv_aload_n hx hb dX9_parse_7 rfl (lv_at hl 0 rfl) ?_
  refine g9_2 C hw (hF 15 (by decide)) K_f_X9_49 dX9_parse_8 ?_
  refine done_i hw (my_runS (As := [.int p1, .int 0, .int (gI (sI w 15 0 0) 15 2)]) (rest := []) C hw (mt_X9_within l C.2.2.2.2.2.2.2 hF _ _ _ _ h) K_m_X9_72 K_s_X9_within K_n_X9 K_c_X9_within hy_X9_within ⟨Nat.le_of_ble_eq_true rfl, Nat.le_of_ble_eq_true rfl⟩ hl.1 rfl (Nat.le_of_ble_eq_true rfl) dX9_parse_11 ⟨Nat.zero_le _, Nat.zero_le _⟩) (fun r1 w1 H locs h hw => ?_)
  refine lv_if_ne (tgt := 23) hx hb dX9_parse_14 (by decide) (fun c1 => ?_) (fun c1 => ?_)
  · have h := h.2 c1
    refine lv_aload_n hx hb dX9_parse_23 rfl (lv_at hl 0 rfl) ?_
    refine lv_iload_n hx hb dX9_parse_24 rfl (lv_at hl 1 rfl) ?_
    refine p9_3 C hw (hF 15 (by decide)) K_f_X9_56 dX9_parse_25 (fun H locs hw => ?_)
    refine lv_aload_n hx hb dX9_parse_28 rfl (lv_at hl 0 rfl) ?_
    refine lv_iconst (v := 0) hx hb dX9_parse_29 (by decide) ?_
    refine p9_2 C hw (hF 15 (by decide)) K_f_X9_49 dX9_parse_30 (fun H locs hw => ?_)
    refine lv_aload_n hx hb dX9_parse_33 rfl (lv_at hl 0 rfl) ?_
    refine lv_iconst (v := 0) hx hb dX9_parse_34 (by decide) ?_
    refine p9_5 C hw (hF 15 (by decide)) K_f_X9_59 dX9_parse_35 (fun H locs hw => ?_)
    refine lv_aload_n hx hb dX9_parse_38 rfl (lv_at hl 0 rfl) ?_
    refine lv_iconst (v := 0) hx hb dX9_parse_39 (by decide) ?_
    refine p9_8 C hw (hF 15 (by decide)) K_f_X9_79 dX9_parse_40 (fun H locs hw => ?_)
    refine lv_aload_n hx hb dX9_parse_43 rfl (lv_at hl 0 rfl) ?_
    refine done_v hw (my_runV (As := []) (rest := []) C hw 15 9 (hF 15 (by decide)) rfl rfl (mt_X9_setDefaults l C.2.2.2.2.2.2.2 hF _ h) K_m_X9_39 K_i_X9_setDefaults K_v_X9_setDefaults K_n_X9 K_c_X9_setDefaults hy_X9_setDefaults ⟨Nat.le_of_ble_eq_true rfl, Nat.le_of_ble_eq_true rfl⟩ hl.1 rfl (Nat.le_of_ble_eq_true rfl) dX9_parse_44 ⟨Nat.zero_le _, Nat.zero_le _⟩) (fun w2 H locs h hw => ?_)
    refine lv_aload_n hx hb dX9_parse_47 rfl (lv_at hl 0 rfl) ?_
    refine done_v hw (my_runV (As := []) (rest := []) C hw 15 9 (hF 15 (by decide)) rfl rfl (mt_X9_nextToken l C.2.2.2.2.2.2.2 hF _ h) K_m_X9_98 K_i_X9_nextToken K_v_X9_nextToken K_n_X9 K_c_X9_nextToken hy_X9_nextToken ⟨Nat.le_of_ble_eq_true rfl, Nat.le_of_ble_eq_true rfl⟩ hl.1 rfl (Nat.le_of_ble_eq_true rfl) dX9_parse_48 ⟨Nat.zero_le _, Nat.zero_le _⟩) (fun w3 H locs h hw => ?_)
    exact h _ _ hw _ (lv_sub hl [0] rfl)
  · have h := h.1 c1
    refine lv_aload_n hx hb dX9_parse_17 rfl (lv_at hl 0 rfl) ?_
    refine lv_iconst (v := 1) hx hb dX9_parse_18 (by decide) ?_
    refine done_i hw (my_runV (As := [.int 1]) (rest := []) C hw 15 9 (hF 15 (by decide)) rfl rfl (mt_X9_fail l C.2.2.2.2.2.2.2 hF _ _ h) K_m_X9_157 K_i_X9_fail K_v_X9_fail K_n_X9 K_c_X9_fail hy_X9_fail ⟨Nat.le_of_ble_eq_true rfl, Nat.le_of_ble_eq_true rfl⟩ hl.1 rfl (Nat.le_of_ble_eq_true rfl) dX9_parse_19 ⟨Nat.zero_le _, Nat.zero_le _⟩) (fun r2 w4 H locs h hw => ?_)
    rw [hQ]
    exact ret_i C hr hlk hw h dX9_parse_22

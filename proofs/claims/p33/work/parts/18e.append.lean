theorem hy_J5_append_cf1ce : yJ5_append_cf1ce.cls ≠ "java/lang/invoke/MethodHandle" ∧ yJ5_append_cf1ce.cls ≠ "java/lang/invoke/VarHandle" ∧ (parseMethodDescriptor yJ5_append_cf1ce.desc).map (fun d => d.parameters.length) = some 1 := by decide +kernel
def wp_J5_append_cf1ce (si1 : Nat) (w : Wd) (Post : Wd → Prop) : Prop :=
  wp_J0_length_8abf5 si1 w (fun r1 w1 => wp_J5_ensureCapacityInternal_d00df w1 ((gI w1 15 3) + r1) (fun w2 => wp_J5_putStringAt_47b60 si1 w2 (gI w2 15 3) (fun w3 => ∀ y1 : Int32, y1 = (gI w3 15 3) + r1 → (Post (sI w3 15 3 y1)))))
set_option maxHeartbeats 4000000 in
set_option maxRecDepth 100000 in
theorem mt_J5_append_cf1ce (l : Launch) {E : En} (hI : Inj E) (hF : ∀ o, (o = 15 ∨ o = 16) → o ∈ eL E) (si1 : Nat) (hsi1 : si1 < 18) (w : Wd) {Post : Wd → Prop} (h : wp_J5_append_cf1ce si1 w Post) : ME l E yJ5_append_cf1ce cJ5_append_cf1ce 3 (some (.object "java/lang/AbstractStringBuilder")) 4 92 1 1024 [.ref (eA E 15), .ref (eT E (1 + si1))] w (QR E Post) := by
  refine ME.intro hI (by decide +kernel) (Nat.le_of_ble_eq_true rfl) ?_
  intro p e s m args below meth c Q C hr hlk hQ hw ls hl
  have hx := C.1
  have hb := C.2.1
  have hl : lv_has ls 3 [(0, .ref (eA E 15)), (1, .ref (eT E (1 + si1)))] := hl
  unfold wp_J5_append_cf1ce at h
  refine lv_aload_n hx hb dJ5_append_cf1ce_0 rfl (lv_at hl 1 rfl) ?_
  refine lv_ifnonnull (tgt := 9) hx hb dJ5_append_cf1ce_1 (by decide) ?_
  refine lv_aload_n hx hb dJ5_append_cf1ce_9 rfl (lv_at hl 1 rfl) ?_
  refine done_i hw (my_runVS (As := []) (rest := []) C hw si1 hsi1 (mt_J0_length_8abf5 l C.2.2.2.2.2.2.2 si1 hsi1 _ h) K_m_J5_32 K_i_J0_length_8abf5 K_v_J0_length_8abf5 K_n_J0 K_c_J0_length_8abf5 hy_J0_length ⟨Nat.le_of_ble_eq_true rfl, Nat.le_of_ble_eq_true rfl⟩ hl.1 rfl (Nat.le_of_ble_eq_true rfl) dJ5_append_cf1ce_10 ⟨Nat.le_of_ble_eq_true rfl, Nat.le_of_ble_eq_true rfl⟩) (fun r1 w1 H locs h hw => ?_)
  refine lv_istore_n (lv' := [(2, .int r1), (0, .ref (eA E 15)), (1, .ref (eT E (1 + si1)))]) hx hb dJ5_append_cf1ce_13 rfl hl (by decide) rfl (fun ls hl => ?_)
  refine lv_aload_n hx hb dJ5_append_cf1ce_14 rfl (lv_at hl 1 rfl) ?_
  refine lv_aload_n hx hb dJ5_append_cf1ce_15 rfl (lv_at hl 1 rfl) ?_
  refine g9_3 C hw (hF 15 (by decide)) K_f_J5_79 dJ5_append_cf1ce_16 ?_
  refine lv_iload_n hx hb dJ5_append_cf1ce_19 rfl (lv_at hl 0 rfl) ?_
  refine lv_iadd hx hb dJ5_append_cf1ce_20 ?_
  refine done_ev C hw (hF 16 (by decide)) (my_runE (As := [.int ((gI w1 15 3) + r1)]) (rest := []) C hw 15 9 (hF 15 (by decide)) rfl rfl (mt_J5_ensureCapacityInternal_d00df l C.2.2.2.2.2.2.2 (fun o a => hF o (by omega)) _ _ h) K_m_J5_100 K_i_J5_ensureCapacityInternal_d00df (C.2.2.2.2.1 _ K_vs_J5_ensureCapacityInternal_d00df) K_n_J5 K_c_J5_ensureCapacityInternal_d00df hy_J5_ensureCapacityInternal_d00df ⟨Nat.le_of_ble_eq_true rfl, Nat.le_of_ble_eq_true rfl⟩ hl.1 rfl (Nat.le_of_ble_eq_true rfl) dJ5_append_cf1ce_21 ⟨Nat.le_of_ble_eq_true rfl, Nat.le_of_ble_eq_true rfl⟩) (fun a1 w2 H locs ha h C1 hw => ?_)
  have hI1 := C1.2.2.2.2.2.2.2
  have hl : lv_has ls 3 [(2, .int r1), (0, .ref (eA (eUp E a1) 15)), (1, .ref (eT (eUp E a1) (1 + si1)))] := hl
  have C0 := C
  have C := C1
  have hF : ∀ o, (o = 15 ∨ o = 16) → o ∈ eL (eUp E a1) := hF
  refine lv_aload_n hx hb dJ5_append_cf1ce_24 rfl (lv_at hl 1 rfl) ?_
  refine lv_aload_n hx hb dJ5_append_cf1ce_25 rfl (lv_at hl 1 rfl) ?_
  refine g9_3 C hw (hF 15 (by decide)) K_f_J5_79 dJ5_append_cf1ce_26 ?_
  refine lv_aload_n hx hb dJ5_append_cf1ce_29 rfl (lv_at hl 2 rfl) ?_
  refine done_v hw (my_runV (As := [.int (gI w2 15 3), .ref (eT (eUp E a1) (1 + si1))]) (rest := []) C hw 15 9 (hF 15 (by decide)) rfl rfl (mt_J5_putStringAt_47b60 l C.2.2.2.2.2.2.2 hF si1 hsi1 _ _ h) K_m_J5_208 K_i_J5_putStringAt_47b60 K_vs_J5_putStringAt_47b60 K_n_J5 K_c_J5_putStringAt_47b60 hy_J5_putStringAt_47b60 ⟨Nat.le_of_ble_eq_true rfl, Nat.le_of_ble_eq_true rfl⟩ hl.1 rfl (Nat.le_of_ble_eq_true rfl) dJ5_append_cf1ce_30 ⟨Nat.le_of_ble_eq_true rfl, Nat.le_of_ble_eq_true rfl⟩) (fun w3 H locs h hw => ?_)
  refine lv_aload_n hx hb dJ5_append_cf1ce_33 rfl (lv_at hl 1 rfl) ?_
  refine lv_dup hx hb dJ5_append_cf1ce_34 rfl ?_
  refine g9_3 C hw (hF 15 (by decide)) K_f_J5_79 dJ5_append_cf1ce_35 ?_
  refine lv_iload_n hx hb dJ5_append_cf1ce_38 rfl (lv_at hl 0 rfl) ?_
  refine lv_iadd hx hb dJ5_append_cf1ce_39 ?_
  refine lv_topi (fun y1 ey1 => ?_)
  have h := h y1 ey1
  refine p9_3 C hw (hF 15 (by decide)) K_f_J5_79 dJ5_append_cf1ce_40 (fun H locs hw => ?_)
  refine lv_aload_n hx hb dJ5_append_cf1ce_43 rfl (lv_at hl 1 rfl) ?_
  rw [hQ]
  exact ret_er C0 hr hlk (hF 16 (by decide)) ha hI1 hw h ⟨Nat.le_of_ble_eq_true rfl, Nat.le_of_ble_eq_true rfl⟩ dJ5_append_cf1ce_44
theorem hy_J5_append_c97b9 : yJ5_append_c97b9.cls ≠ "java/lang/invoke/MethodHandle" ∧ yJ5_append_c97b9.cls ≠ "java/lang/invoke/VarHandle" ∧ (parseMethodDescriptor yJ5_append_c97b9.desc).map (fun d => d.parameters.length) = some 1 := by decide +kernel
def wp_J5_append_c97b9 (w : Wd) (p1 : Int32) (Post : Wd → Prop) : Prop :=
  ∀ y1 : Int32, y1 = gI w 15 3 → (wp_J6_stringSize_0f7a4 w p1 (fun r1 w1 => ∀ y2 : Int32, y2 = y1 + r1 → (wp_J5_ensureCapacityInternal_d00df w1 y2 (fun w2 => wp_J5_isLatin1_aae02 w2 (fun r2 w3 => (r2 = 0 → (False)) ∧ (¬ r2 = 0 → (wp_J6_getChars_ba4f3 w3 p1 y2 (fun r3 w4 => Post (sI w4 15 3 y2)))))))))
set_option maxHeartbeats 4000000 in
set_option maxRecDepth 100000 in
theorem mt_J5_append_c97b9 (l : Launch) {E : En} (hI : Inj E) (hF : ∀ o, (o = 15 ∨ o = 16) → o ∈ eL E) (w : Wd) (p1 : Int32) {Post : Wd → Prop} (h : wp_J5_append_c97b9 w p1 Post) : ME l E yJ5_append_c97b9 cJ5_append_c97b9 4 (some (.object "java/lang/AbstractStringBuilder")) 4 92 1 1024 [.ref (eA E 15), .int p1] w (QR E Post) := by
  refine ME.intro hI (by decide +kernel) (Nat.le_of_ble_eq_true rfl) ?_
  intro p e s m args below meth c Q C hr hlk hQ hw ls hl
  have hx := C.1
  have hb := C.2.1
  have hl : lv_has ls 4 [(0, .ref (eA E 15)), (1, .int p1)] := hl
  unfold wp_J5_append_c97b9 at h
  refine lv_aload_n hx hb dJ5_append_c97b9_0 rfl (lv_at hl 0 rfl) ?_
  refine g9_3 C hw (hF 15 (by decide)) K_f_J5_79 dJ5_append_c97b9_1 ?_
  refine lv_topi (fun y1 ey1 => ?_)
  have h := h y1 ey1
  refine lv_istore_n (lv' := [(2, .int y1), (0, .ref (eA E 15)), (1, .int p1)]) hx hb dJ5_append_c97b9_4 rfl hl (by decide) rfl (fun ls hl => ?_)
  refine lv_iload_n hx hb dJ5_append_c97b9_5 rfl (lv_at hl 0 rfl) ?_
  refine lv_iload_n hx hb dJ5_append_c97b9_6 rfl (lv_at hl 2 rfl) ?_
  refine done_i hw (my_runS (As := [.int p1]) (rest := [.int y1]) C hw (mt_J6_stringSize_0f7a4 l C.2.2.2.2.2.2.2 _ _ h) K_m_J5_245 K_s_J6_stringSize_0f7a4 K_n_J6 K_c_J6_stringSize_0f7a4 hy_J6_stringSize_0f7a4 ⟨Nat.le_of_ble_eq_true rfl, Nat.le_of_ble_eq_true rfl⟩ hl.1 rfl (Nat.le_of_ble_eq_true rfl) dJ5_append_c97b9_7 ⟨Nat.le_of_ble_eq_true rfl, Nat.le_of_ble_eq_true rfl⟩) (fun r1 w1 H locs h hw => ?_)
  refine lv_iadd hx hb dJ5_append_c97b9_10 ?_
  refine lv_topi (fun y2 ey2 => ?_)
  have h := h y2 ey2
  refine lv_istore_n (lv' := [(3, .int y2), (2, .int y1), (0, .ref (eA E 15)), (1, .int p1)]) hx hb dJ5_append_c97b9_11 rfl hl (by decide) rfl (fun ls hl => ?_)
  refine lv_aload_n hx hb dJ5_append_c97b9_12 rfl (lv_at hl 2 rfl) ?_
  refine lv_iload_n hx hb dJ5_append_c97b9_13 rfl (lv_at hl 0 rfl) ?_
  refine done_ev C hw (hF 16 (by decide)) (my_runE (As := [.int y2]) (rest := []) C hw 15 9 (hF 15 (by decide)) rfl rfl (mt_J5_ensureCapacityInternal_d00df l C.2.2.2.2.2.2.2 (fun o a => hF o (by omega)) _ _ h) K_m_J5_100 K_i_J5_ensureCapacityInternal_d00df (C.2.2.2.2.1 _ K_vs_J5_ensureCapacityInternal_d00df) K_n_J5 K_c_J5_ensureCapacityInternal_d00df hy_J5_ensureCapacityInternal_d00df ⟨Nat.le_of_ble_eq_true rfl, Nat.le_of_ble_eq_true rfl⟩ hl.1 rfl (Nat.le_of_ble_eq_true rfl) dJ5_append_c97b9_14 ⟨Nat.le_of_ble_eq_true rfl, Nat.le_of_ble_eq_true rfl⟩) (fun a1 w2 H locs ha h C1 hw => ?_)
  have hI1 := C1.2.2.2.2.2.2.2
  have hl : lv_has ls 4 [(3, .int y2), (2, .int y1), (0, .ref (eA (eUp E a1) 15)), (1, .int p1)] := hl
  have C0 := C
  have C := C1
  have hF : ∀ o, (o = 15 ∨ o = 16) → o ∈ eL (eUp E a1) := hF
  refine lv_aload_n hx hb dJ5_append_c97b9_17 rfl (lv_at hl 2 rfl) ?_
  refine done_i hw (my_runV (As := []) (rest := []) C hw 15 9 (hF 15 (by decide)) rfl rfl (mt_J5_isLatin1_aae02 l C.2.2.2.2.2.2.2 hF _ h) K_m_J5_83 K_i_J5_isLatin1_aae02 K_vl_SB K_n_J5 K_c_J5_isLatin1_aae02 hy_J5_isLatin1_aae02 ⟨Nat.le_of_ble_eq_true rfl, Nat.le_of_ble_eq_true rfl⟩ hl.1 rfl (Nat.le_of_ble_eq_true rfl) dJ5_append_c97b9_18 ⟨Nat.le_of_ble_eq_true rfl, Nat.le_of_ble_eq_true rfl⟩) (fun r2 w3 H locs h hw => ?_)
  refine lv_if_eq (tgt := 37) hx hb dJ5_append_c97b9_21 (by decide) (fun c1 => ?_) (fun c1 => ?_)
  · have h := h.1 c1
    refine lv_iload_n hx hb dJ5_append_c97b9_37 rfl (lv_at hl 3 rfl) ?_
    refine lv_iload_n hx hb dJ5_append_c97b9_38 rfl (lv_at hl 1 rfl) ?_
    refine lv_iload_n hx hb dJ5_append_c97b9_39 rfl (lv_at hl 0 rfl) ?_
    refine lv_aload_n hx hb dJ5_append_c97b9_40 rfl (lv_at hl 2 rfl) ?_
    refine g9_0 C hw (hF 15 (by decide)) K_f_J5_15 dJ5_append_c97b9_41 ?_
    exact h.elim
  · have h := h.2 c1
    refine lv_iload_n hx hb dJ5_append_c97b9_24 rfl (lv_at hl 3 rfl) ?_
    refine lv_iload_n hx hb dJ5_append_c97b9_25 rfl (lv_at hl 0 rfl) ?_
    refine lv_aload_n hx hb dJ5_append_c97b9_26 rfl (lv_at hl 2 rfl) ?_
    refine g9_0 C hw (hF 15 (by decide)) K_f_J5_15 dJ5_append_c97b9_27 ?_
    refine done_i hw (my_runS (As := [.int p1, .int y2, .ref (eA (eUp E a1) 16)]) (rest := []) C hw (mt_J6_getChars_ba4f3 l C.2.2.2.2.2.2.2 hF _ _ _ h) K_m_J5_248 K_s_J6_getChars_ba4f3 K_n_J6 K_c_J6_getChars_ba4f3 hy_J6_getChars_ba4f3 ⟨Nat.le_of_ble_eq_true rfl, Nat.le_of_ble_eq_true rfl⟩ hl.1 rfl (Nat.le_of_ble_eq_true rfl) dJ5_append_c97b9_30 ⟨Nat.le_of_ble_eq_true rfl, Nat.le_of_ble_eq_true rfl⟩) (fun r3 w4 H locs h hw => ?_)
    refine lv_pop hx hb dJ5_append_c97b9_33 rfl ?_
    refine lv_goto (tgt := 48) hx hb dJ5_append_c97b9_34 (by decide) ?_
    refine lv_aload_n hx hb dJ5_append_c97b9_48 rfl (lv_at hl 2 rfl) ?_
    refine lv_iload_n hx hb dJ5_append_c97b9_49 rfl (lv_at hl 0 rfl) ?_
    refine p9_3 C hw (hF 15 (by decide)) K_f_J5_79 dJ5_append_c97b9_50 (fun H locs hw => ?_)
    refine lv_aload_n hx hb dJ5_append_c97b9_53 rfl (lv_at hl 2 rfl) ?_
    rw [hQ]
    exact ret_er C0 hr hlk (hF 16 (by decide)) ha hI1 hw h ⟨Nat.le_of_ble_eq_true rfl, Nat.le_of_ble_eq_true rfl⟩ dJ5_append_c97b9_54
theorem hy_J4_append_15ec4 : yJ4_append_15ec4.cls ≠ "java/lang/invoke/MethodHandle" ∧ yJ4_append_15ec4.cls ≠ "java/lang/invoke/VarHandle" ∧ (parseMethodDescriptor yJ4_append_15ec4.desc).map (fun d => d.parameters.length) = some 1 := by decide +kernel
def wp_J4_append_15ec4 (si1 : Nat) (w : Wd) (Post : Wd → Prop) : Prop :=
  wp_J5_append_cf1ce si1 w (fun w1 => Post w1)
set_option maxHeartbeats 4000000 in
set_option maxRecDepth 100000 in
theorem mt_J4_append_15ec4 (l : Launch) {E : En} (hI : Inj E) (hF : ∀ o, (o = 15 ∨ o = 16) → o ∈ eL E) (si1 : Nat) (hsi1 : si1 < 18) (w : Wd) {Post : Wd → Prop} (h : wp_J4_append_15ec4 si1 w Post) : ME l E yJ4_append_15ec4 cJ4_append_15ec4 2 (some (.object "java/lang/StringBuilder")) 5 114 1 1024 [.ref (eA E 15), .ref (eT E (1 + si1))] w (QR E Post) := by
  refine ME.intro hI (by decide +kernel) (Nat.le_of_ble_eq_true rfl) ?_
  intro p e s m args below meth c Q C hr hlk hQ hw ls hl
  have hx := C.1
  have hb := C.2.1
  have hl : lv_has ls 2 [(0, .ref (eA E 15)), (1, .ref (eT E (1 + si1)))] := hl
  unfold wp_J4_append_15ec4 at h
  refine lv_aload_n hx hb dJ4_append_15ec4_0 rfl (lv_at hl 0 rfl) ?_
  refine lv_aload_n hx hb dJ4_append_15ec4_1 rfl (lv_at hl 1 rfl) ?_
  refine done_er C hw (hF 16 (by decide)) (my_runSU (As := [.ref (eT E (1 + si1))]) (rest := []) C hw 15 9 (hF 15 (by decide)) rfl rfl (mt_J5_append_cf1ce l C.2.2.2.2.2.2.2 (fun o a => hF o (by omega)) si1 hsi1 _ h) K_m_J4_29 K_i_J5_append_cf1ce K_sm_J5_append_cf1ce K_sup_SB K_n_J5 K_c_J5_append_cf1ce (by decide) hy_J5_append_cf1ce ⟨Nat.le_of_ble_eq_true rfl, Nat.le_of_ble_eq_true rfl⟩ hl.1 rfl (Nat.le_of_ble_eq_true rfl) dJ4_append_15ec4_2 ⟨Nat.le_of_ble_eq_true rfl, Nat.le_of_ble_eq_true rfl⟩) (fun a1 w1 H locs ha h C1 hw => ?_)
  have hI1 := C1.2.2.2.2.2.2.2
  have hl : lv_has ls 2 [(0, .ref (eA (eUp E a1) 15)), (1, .ref (eT (eUp E a1) (1 + si1)))] := hl
  have C0 := C
  have C := C1
  have hF : ∀ o, (o = 15 ∨ o = 16) → o ∈ eL (eUp E a1) := hF
  refine lv_pop hx hb dJ4_append_15ec4_5 rfl ?_
  refine lv_aload_n hx hb dJ4_append_15ec4_6 rfl (lv_at hl 0 rfl) ?_
  rw [hQ]
  exact ret_er C0 hr hlk (hF 16 (by decide)) ha hI1 hw h ⟨Nat.le_of_ble_eq_true rfl, Nat.le_of_ble_eq_true rfl⟩ dJ4_append_15ec4_7
theorem hy_J4_append_bf812 : yJ4_append_bf812.cls ≠ "java/lang/invoke/MethodHandle" ∧ yJ4_append_bf812.cls ≠ "java/lang/invoke/VarHandle" ∧ (parseMethodDescriptor yJ4_append_bf812.desc).map (fun d => d.parameters.length) = some 1 := by decide +kernel
def wp_J4_append_bf812 (w : Wd) (p1 : Int32) (Post : Wd → Prop) : Prop :=
  wp_J5_append_c97b9 w p1 (fun w1 => Post w1)
set_option maxHeartbeats 4000000 in
set_option maxRecDepth 100000 in
theorem mt_J4_append_bf812 (l : Launch) {E : En} (hI : Inj E) (hF : ∀ o, (o = 15 ∨ o = 16) → o ∈ eL E) (w : Wd) (p1 : Int32) {Post : Wd → Prop} (h : wp_J4_append_bf812 w p1 Post) : ME l E yJ4_append_bf812 cJ4_append_bf812 2 (some (.object "java/lang/StringBuilder")) 5 115 1 1024 [.ref (eA E 15), .int p1] w (QR E Post) := by
  refine ME.intro hI (by decide +kernel) (Nat.le_of_ble_eq_true rfl) ?_
  intro p e s m args below meth c Q C hr hlk hQ hw ls hl
  have hx := C.1
  have hb := C.2.1
  have hl : lv_has ls 2 [(0, .ref (eA E 15)), (1, .int p1)] := hl
  unfold wp_J4_append_bf812 at h
  refine lv_aload_n hx hb dJ4_append_bf812_0 rfl (lv_at hl 0 rfl) ?_
  refine lv_iload_n hx hb dJ4_append_bf812_1 rfl (lv_at hl 1 rfl) ?_
  refine done_er C hw (hF 16 (by decide)) (my_runSU (As := [.int p1]) (rest := []) C hw 15 9 (hF 15 (by decide)) rfl rfl (mt_J5_append_c97b9 l C.2.2.2.2.2.2.2 (fun o a => hF o (by omega)) _ _ h) K_m_J4_53 K_i_J5_append_c97b9 K_sm_J5_append_c97b9 K_sup_SB K_n_J5 K_c_J5_append_c97b9 (by decide) hy_J5_append_c97b9 ⟨Nat.le_of_ble_eq_true rfl, Nat.le_of_ble_eq_true rfl⟩ hl.1 rfl (Nat.le_of_ble_eq_true rfl) dJ4_append_bf812_2 ⟨Nat.le_of_ble_eq_true rfl, Nat.le_of_ble_eq_true rfl⟩) (fun a1 w1 H locs ha h C1 hw => ?_)
  have hI1 := C1.2.2.2.2.2.2.2
  have hl : lv_has ls 2 [(0, .ref (eA (eUp E a1) 15)), (1, .int p1)] := hl
  have C0 := C
  have C := C1
  have hF : ∀ o, (o = 15 ∨ o = 16) → o ∈ eL (eUp E a1) := hF
  refine lv_pop hx hb dJ4_append_bf812_5 rfl ?_
  refine lv_aload_n hx hb dJ4_append_bf812_6 rfl (lv_at hl 0 rfl) ?_
  rw [hQ]
  exact ret_er C0 hr hlk (hF 16 (by decide)) ha hI1 hw h ⟨Nat.le_of_ble_eq_true rfl, Nat.le_of_ble_eq_true rfl⟩ dJ4_append_bf812_7
